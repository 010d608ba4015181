noncomputable def Jo_longestPair_l21 (s1 : Int32 × Int32 × Int32 × Mm) (s3 : Int32 × Int32 × Int32 × Mm) : Option ((Int32 × Int32 × Int32 × Mm) ⊕ (Int32 × Int32 × Mm)) :=
  if ((s3.2.2.2).1 11 0) ≤ (s3.2.2.1) then
 (some (.inr (s3.1, s3.2.1, s3.2.2.2)))
 else ((Jo_walk (s3.2.2.2) (s1.2.2.1) (s3.2.2.1)).bind fun r5 =>
  if (r5.1) = (s3.2.2.1) then
 (if ((r5.2).1 1 14) ≤ (s3.2.1) then
 (some (.inl (s3.1, s3.2.1, (s3.2.2.1) + 1, r5.2)))
 else (some (.inl ((10 * (s1.2.2.1)) + (s3.2.2.1), (r5.2).1 1 14, (s3.2.2.1) + 1, r5.2))))
 else (some (.inl (s3.1, s3.2.1, (s3.2.2.1) + 1, r5.2))))
noncomputable def Jo_longestPair_l7  (s1 : Int32 × Int32 × Int32 × Mm) : Option ((Int32 × Int32 × Int32 × Mm) ⊕ (Int32 × Mm)) :=
  if ((s1.2.2.2).1 11 0) ≤ (s1.2.2.1) then
 (some (.inr (s1.1, s1.2.2.2)))
 else ((iter (Jo_longestPair_l21 s1) (s1.1, s1.2.1, 0, s1.2.2.2)).bind fun e4 =>
  some (.inl (e4.1, e4.2.1, (s1.2.2.1) + 1, e4.2.2)))
noncomputable def Jo_longestPair (m : Mm) : Option (Int32 × Mm) :=
  (iter (Jo_longestPair_l7) ((-5), 0, 0, m)).bind fun e2 =>
  some (e2.1, e2.2)
set_option maxRecDepth 20000 in
set_option maxHeartbeats 4000000 in
theorem Jo_longestPair_ok {G : Gw} (hG : gOk G) (hs : gsh G = shC) {m : Mm} {P : Option Value → Mm → Prop} (h : mjO (Jo_longestPair m) (fun r => P (some (.int r.1)) r.2)) : mjR G 2 yX1_longestPair cX1_longestPair 5 (some .int) [.ref (gr G 1)] m P := by
  refine mjR_of hG (by decide) (Nat.le_of_ble_eq_true rfl) ?_
  intro X F
  have F : mjF G X cX1_longestPair RX1 5 2 (some .int) := F
  show mjV G X 5 0 [(0, .ref (gr G 1))] [] m P
  unfold Jo_longestPair at h
  refine vBipush F (v := (-5)) dX1_longestPair_0 kb_m5 ?_
  refine vIstoreN F (L' := [(1, .int (-5)), (0, .ref (gr G 1))]) dX1_longestPair_2 rfl (by decide) rfl ?_
  refine vIconst F (v := 0) dX1_longestPair_3 k_0 ?_
  refine vIstoreN F (L' := [(2, .int 0), (1, .int (-5)), (0, .ref (gr G 1))]) dX1_longestPair_4 rfl (by decide) rfl ?_
  refine vIconst F (v := 0) dX1_longestPair_5 k_0 ?_
  refine vIstoreN F (L' := [(3, .int 0), (2, .int 0), (1, .int (-5)), (0, .ref (gr G 1))]) dX1_longestPair_6 rfl (by decide) rfl ?_
  refine vSub [3, 2, 1, 0] rfl ?_
  refine okLoop (s0 := ((-5), 0, 0, m)) (T := (fun (s1 : Int32 × Int32 × Int32 × Mm) => mjV G X 5 7 [(0, .ref (gr G 1)), (1, .int (s1.1)), (2, .int (s1.2.1)), (3, .int (s1.2.2.1))] [] (s1.2.2.2) P)) (Ve := (fun (e2 : Int32 × Mm) => mjV G X 5 78 [(1, .int (e2.1))] [] (e2.2) P)) h ?_ (fun s1 h => ?_)
  · intro e2 h
    refine vIloadN F dX1_longestPair_78 (k := 0) rfl ?_
    have z := okS h
    exact vIret F dX1_longestPair_79 z
  · unfold Jo_longestPair_l7 at h
    refine vIloadN F dX1_longestPair_7 (k := 3) rfl ?_
    refine vAloadN F dX1_longestPair_8 (k := 0) rfl ?_
    refine vGetR F (t := 11) dX1_longestPair_9 fa_X1_12 (cqC_1 hs) rfl ?_
    refine vGetI F dX1_longestPair_12 fa_X1_51 (is_X5_11 hs).1 rfl ?_
    refine vIcmpGe F (tgt := 78) dX1_longestPair_15 (by decide) (fun c10 => ?_) (fun c10 => ?_)
    · replace h := okT h c10
      refine vSub [1] rfl ?_
      have z := okR h
      exact z
    · replace h := okF h c10
      refine vIconst F (v := 0) dX1_longestPair_18 k_0 ?_
      refine vIstore F (L' := [(4, .int 0), (0, .ref (gr G 1)), (1, .int (s1.1)), (2, .int (s1.2.1)), (3, .int (s1.2.2.1))]) dX1_longestPair_19 (by decide) rfl ?_
      refine vSub [1, 2, 3, 4, 0] rfl ?_
      refine okLoop (s0 := (s1.1, s1.2.1, 0, s1.2.2.2)) (T := (fun (s3 : Int32 × Int32 × Int32 × Mm) => mjV G X 5 21 [(0, .ref (gr G 1)), (1, .int (s3.1)), (2, .int (s3.2.1)), (3, .int (s1.2.2.1)), (4, .int (s3.2.2.1))] [] (s3.2.2.2) P)) (Ve := (fun (e4 : Int32 × Int32 × Mm) => mjV G X 5 72 [(0, .ref (gr G 1)), (1, .int (e4.1)), (2, .int (e4.2.1)), (3, .int (s1.2.2.1))] [] (e4.2.2) P)) h ?_ (fun s3 h => ?_)
      · intro e4 h
        refine vIinc F (v := 1) (k := 3) (L' := [(3, .int ((s1.2.2.1) + 1)), (0, .ref (gr G 1)), (1, .int (e4.1)), (2, .int (e4.2.1))]) dX1_longestPair_72 rfl k_1 (by decide) rfl ?_
        refine vGoto F (tgt := 7) dX1_longestPair_75 (by decide) ?_
        refine vSub [1, 2, 3, 0] rfl ?_
        have z := okL h
        exact z
      · unfold Jo_longestPair_l21 at h
        refine vIload F dX1_longestPair_21 (k := 4) rfl ?_
        refine vAloadN F dX1_longestPair_23 (k := 0) rfl ?_
        refine vGetR F (t := 11) dX1_longestPair_24 fa_X1_12 (cqC_1 hs) rfl ?_
        refine vGetI F dX1_longestPair_27 fa_X1_51 (is_X5_11 hs).1 rfl ?_
        refine vIcmpGe F (tgt := 72) dX1_longestPair_30 (by decide) (fun c8 => ?_) (fun c8 => ?_)
        · replace h := okT h c8
          refine vSub [0, 1, 2, 3] rfl ?_
          have z := okR h
          exact z
        · replace h := okF h c8
          refine vAloadN F dX1_longestPair_33 (k := 0) rfl ?_
          refine vIloadN F dX1_longestPair_34 (k := 3) rfl ?_
          refine vIload F dX1_longestPair_35 (k := 4) rfl ?_
          refine vCallV F (d' := 1) (x := 1) (T := TX1) (N := 15) (As := [.int (s1.2.2.1), .int (s3.2.2.1)]) (st := []) dX1_longestPair_37 lk_X1_139 my_X1_walk mv_X1_walk (cqC_1 hs) rfl (by decide) rfl rfl (Nat.le_of_ble_eq_true rfl) (Jo_walk_ok hG hs (okB h fun r5 h => ?_))
          show mjV G X 5 40 [(0, .ref (gr G 1)), (1, .int (s3.1)), (2, .int (s3.2.1)), (3, .int (s1.2.2.1)), (4, .int (s3.2.2.1))] [.int (r5.1)] (r5.2) P
          refine vIload F dX1_longestPair_40 (k := 4) rfl ?_
          refine vIcmpNe F (tgt := 66) dX1_longestPair_42 (by decide) (fun c7 => ?_) (fun c7 => ?_)
          · replace h := okF h c7
            refine vIinc F (v := 1) (k := 4) (L' := [(4, .int ((s3.2.2.1) + 1)), (0, .ref (gr G 1)), (1, .int (s3.1)), (2, .int (s3.2.1)), (3, .int (s1.2.2.1))]) dX1_longestPair_66 rfl k_1 (by decide) rfl ?_
            refine vGoto F (tgt := 21) dX1_longestPair_69 (by decide) ?_
            refine vSub [1, 2, 3, 4, 0] rfl ?_
            have z := okL h
            exact z
          · replace h := okT h c7
            refine vAloadN F dX1_longestPair_45 (k := 0) rfl ?_
            refine vGetI F dX1_longestPair_46 fa_X1_127 (cqC_1 hs) rfl ?_
            refine vIloadN F dX1_longestPair_49 (k := 2) rfl ?_
            refine vIcmpLe F (tgt := 66) dX1_longestPair_50 (by decide) (fun c6 => ?_) (fun c6 => ?_)
            · replace h := okT h c6
              refine vIinc F (v := 1) (k := 4) (L' := [(4, .int ((s3.2.2.1) + 1)), (0, .ref (gr G 1)), (1, .int (s3.1)), (2, .int (s3.2.1)), (3, .int (s1.2.2.1))]) dX1_longestPair_66 rfl k_1 (by decide) rfl ?_
              refine vGoto F (tgt := 21) dX1_longestPair_69 (by decide) ?_
              refine vSub [1, 2, 3, 4, 0] rfl ?_
              have z := okL h
              exact z
            · replace h := okF h c6
              refine vBipush F (v := 10) dX1_longestPair_53 kb_10 ?_
              refine vIloadN F dX1_longestPair_55 (k := 3) rfl ?_
              refine vImul F dX1_longestPair_56 ?_
              refine vIload F dX1_longestPair_57 (k := 4) rfl ?_
              refine vIadd F dX1_longestPair_59 ?_
              refine vIstoreN F (L' := [(1, .int ((10 * (s1.2.2.1)) + (s3.2.2.1))), (0, .ref (gr G 1)), (2, .int (s3.2.1)), (3, .int (s1.2.2.1)), (4, .int (s3.2.2.1))]) dX1_longestPair_60 rfl (by decide) rfl ?_
              refine vAloadN F dX1_longestPair_61 (k := 1) rfl ?_
              refine vGetI F dX1_longestPair_62 fa_X1_127 (cqC_1 hs) rfl ?_
              refine vIstoreN F (L' := [(2, .int ((r5.2).1 1 14)), (1, .int ((10 * (s1.2.2.1)) + (s3.2.2.1))), (0, .ref (gr G 1)), (3, .int (s1.2.2.1)), (4, .int (s3.2.2.1))]) dX1_longestPair_65 rfl (by decide) rfl ?_
              refine vIinc F (v := 1) (k := 4) (L' := [(4, .int ((s3.2.2.1) + 1)), (2, .int ((r5.2).1 1 14)), (1, .int ((10 * (s1.2.2.1)) + (s3.2.2.1))), (0, .ref (gr G 1)), (3, .int (s1.2.2.1))]) dX1_longestPair_66 rfl k_1 (by decide) rfl ?_
              refine vGoto F (tgt := 21) dX1_longestPair_69 (by decide) ?_
              refine vSub [3, 2, 1, 4, 0] rfl ?_
              have z := okL h
              exact z
def Jo_allWays_l17 (m : Mm) (s1 : Int32 × Int32) (s3 : Int32 × Int32) : Option ((Int32 × Int32) ⊕ Int32) :=
  if (m.1 11 0) ≤ (s3.2) then
 (some (.inr (s3.1)))
 else ((Jo_leads m (s1.2) (s3.2)).bind fun r5 =>
  if r5 = true then
 (ga (NB_index (s1.2) (s3.2)) 49 (some (.inl ((s3.1) + (m.1 6 (NB_index (s1.2) (s3.2)).toNatClampNeg), (s3.2) + 1))))
 else (some (.inl ((s3.1) + 999, (s3.2) + 1))))
noncomputable def Jo_allWays_l4 (m : Mm) (s1 : Int32 × Int32) : Option ((Int32 × Int32) ⊕ Int32) :=
  if (m.1 11 0) ≤ (s1.2) then
 (some (.inr (s1.1)))
 else ((iter (Jo_allWays_l17 m s1) (s1.1, 0)).bind fun e4 =>
  some (.inl (e4, (s1.2) + 1)))
noncomputable def Jo_allWays (m : Mm) : Option (Int32) :=
  (iter (Jo_allWays_l4 m) (0, 0)).bind fun e2 =>
  some e2
set_option maxRecDepth 20000 in
set_option maxHeartbeats 4000000 in
theorem Jo_allWays_ok {G : Gw} (hG : gOk G) (hs : gsh G = shC) {m : Mm} {P : Option Value → Mm → Prop} (h : mjO (Jo_allWays m) (fun r => P (some (.int r)) m)) : mjR G 2 yX1_allWays cX1_allWays 4 (some .int) [.ref (gr G 1)] m P := by
  refine mjR_of hG (by decide) (Nat.le_of_ble_eq_true rfl) ?_
  intro X F
  have F : mjF G X cX1_allWays RX1 4 2 (some .int) := F
  show mjV G X 4 0 [(0, .ref (gr G 1))] [] m P
  unfold Jo_allWays at h
  refine vIconst F (v := 0) dX1_allWays_0 k_0 ?_
  refine vIstoreN F (L' := [(1, .int 0), (0, .ref (gr G 1))]) dX1_allWays_1 rfl (by decide) rfl ?_
  refine vIconst F (v := 0) dX1_allWays_2 k_0 ?_
  refine vIstoreN F (L' := [(2, .int 0), (1, .int 0), (0, .ref (gr G 1))]) dX1_allWays_3 rfl (by decide) rfl ?_
  refine vSub [2, 1, 0] rfl ?_
  refine okLoop (s0 := (0, 0)) (T := (fun (s1 : Int32 × Int32) => mjV G X 4 4 [(0, .ref (gr G 1)), (1, .int (s1.1)), (2, .int (s1.2))] [] m P)) (Ve := (fun (e2 : Int32) => mjV G X 4 68 [(1, .int e2)] [] m P)) h ?_ (fun s1 h => ?_)
  · intro e2 h
    refine vIloadN F dX1_allWays_68 (k := 0) rfl ?_
    have z := okS h
    exact vIret F dX1_allWays_69 z
  · unfold Jo_allWays_l4 at h
    refine vIloadN F dX1_allWays_4 (k := 2) rfl ?_
    refine vAloadN F dX1_allWays_5 (k := 0) rfl ?_
    refine vGetR F (t := 11) dX1_allWays_6 fa_X1_12 (cqC_1 hs) rfl ?_
    refine vGetI F dX1_allWays_9 fa_X1_51 (is_X5_11 hs).1 rfl ?_
    refine vIcmpGe F (tgt := 68) dX1_allWays_12 (by decide) (fun c10 => ?_) (fun c10 => ?_)
    · replace h := okT h c10
      refine vSub [1] rfl ?_
      have z := okR h
      exact z
    · replace h := okF h c10
      refine vIconst F (v := 0) dX1_allWays_15 k_0 ?_
      refine vIstoreN F (L' := [(3, .int 0), (0, .ref (gr G 1)), (1, .int (s1.1)), (2, .int (s1.2))]) dX1_allWays_16 rfl (by decide) rfl ?_
      refine vSub [1, 2, 3, 0] rfl ?_
      refine okLoop (s0 := (s1.1, 0)) (T := (fun (s3 : Int32 × Int32) => mjV G X 4 17 [(0, .ref (gr G 1)), (1, .int (s3.1)), (2, .int (s1.2)), (3, .int (s3.2))] [] m P)) (Ve := (fun (e4 : Int32) => mjV G X 4 62 [(0, .ref (gr G 1)), (1, .int e4), (2, .int (s1.2))] [] m P)) h ?_ (fun s3 h => ?_)
      · intro e4 h
        refine vIinc F (v := 1) (k := 2) (L' := [(2, .int ((s1.2) + 1)), (0, .ref (gr G 1)), (1, .int e4)]) dX1_allWays_62 rfl k_1 (by decide) rfl ?_
        refine vGoto F (tgt := 4) dX1_allWays_65 (by decide) ?_
        refine vSub [1, 2, 0] rfl ?_
        have z := okL h
        exact z
      · unfold Jo_allWays_l17 at h
        refine vIloadN F dX1_allWays_17 (k := 3) rfl ?_
        refine vAloadN F dX1_allWays_18 (k := 0) rfl ?_
        refine vGetR F (t := 11) dX1_allWays_19 fa_X1_12 (cqC_1 hs) rfl ?_
        refine vGetI F dX1_allWays_22 fa_X1_51 (is_X5_11 hs).1 rfl ?_
        refine vIcmpGe F (tgt := 62) dX1_allWays_25 (by decide) (fun c8 => ?_) (fun c8 => ?_)
        · replace h := okT h c8
          refine vSub [0, 1, 2] rfl ?_
          have z := okR h
          exact z
        · replace h := okF h c8
          refine vIloadN F dX1_allWays_28 (k := 1) rfl ?_
          refine vAloadN F dX1_allWays_29 (k := 0) rfl ?_
          refine vIloadN F dX1_allWays_30 (k := 2) rfl ?_
          refine vIloadN F dX1_allWays_31 (k := 3) rfl ?_
          refine vCallV F (d' := 1) (x := 1) (T := TX1) (N := 15) (As := [.int (s1.2), .int (s3.2)]) (st := [.int (s3.1)]) dX1_allWays_32 lk_X1_83 my_X1_leads mv_X1_leads (cqC_1 hs) rfl (by decide) rfl rfl (Nat.le_of_ble_eq_true rfl) (Jo_leads_ok hG hs (okB h fun r5 h => ?_))
          show mjV G X 4 35 [(0, .ref (gr G 1)), (1, .int (s3.1)), (2, .int (s1.2)), (3, .int (s3.2))] [.int (bI r5), .int (s3.1)] m P
          refine vIfEqB F (tgt := 51) dX1_allWays_35 (by decide) (fun c7 => ?_) (fun c7 => ?_)
          · replace h := okF h c7
            refine vSipush F (v := 999) dX1_allWays_51 ks_999 ?_
            refine vIadd F dX1_allWays_54 ?_
            refine vIstoreN F (L' := [(1, .int ((s3.1) + 999)), (0, .ref (gr G 1)), (2, .int (s1.2)), (3, .int (s3.2))]) dX1_allWays_55 rfl (by decide) rfl ?_
            refine vIinc F (v := 1) (k := 3) (L' := [(3, .int ((s3.2) + 1)), (1, .int ((s3.1) + 999)), (0, .ref (gr G 1)), (2, .int (s1.2))]) dX1_allWays_56 rfl k_1 (by decide) rfl ?_
            refine vGoto F (tgt := 17) dX1_allWays_59 (by decide) ?_
            refine vSub [2, 1, 3, 0] rfl ?_
            have z := okL h
            exact z
          · replace h := okT h c7
            refine vAloadN F dX1_allWays_38 (k := 0) rfl ?_
            refine vGetR F (t := 6) dX1_allWays_39 fa_X1_31 (cqC_1 hs) rfl ?_
            refine vIloadN F dX1_allWays_42 (k := 2) rfl ?_
            refine vIloadN F dX1_allWays_43 (k := 3) rfl ?_
            refine vCallS F (d' := 0) (As := [.int (s1.2), .int (s3.2)]) (st := [.ref (gr G 6), .int (s3.1)]) dX1_allWays_44 lk_X1_70 my_X6_index sy_X6_index (by decide) rfl rfl (Nat.le_of_ble_eq_true rfl) (NB_index_ok hG hs ?_)
            show mjV G X 4 47 [(0, .ref (gr G 1)), (1, .int (s3.1)), (2, .int (s1.2)), (3, .int (s3.2))] [.int (NB_index (s1.2) (s3.2)), .ref (gr G 6), .int (s3.1)] m P
            obtain ⟨g6, h⟩ := okga h
            refine vIald F dX1_allWays_47 (cqC_6 hs) g6 ?_
            refine vGoto F (tgt := 54) dX1_allWays_48 (by decide) ?_
            refine vIadd F dX1_allWays_54 ?_
            refine vIstoreN F (L' := [(1, .int ((s3.1) + (m.1 6 (NB_index (s1.2) (s3.2)).toNatClampNeg))), (0, .ref (gr G 1)), (2, .int (s1.2)), (3, .int (s3.2))]) dX1_allWays_55 rfl (by decide) rfl ?_
            refine vIinc F (v := 1) (k := 3) (L' := [(3, .int ((s3.2) + 1)), (1, .int ((s3.1) + (m.1 6 (NB_index (s1.2) (s3.2)).toNatClampNeg))), (0, .ref (gr G 1)), (2, .int (s1.2))]) dX1_allWays_56 rfl k_1 (by decide) rfl ?_
            refine vGoto F (tgt := 17) dX1_allWays_59 (by decide) ?_
            refine vSub [2, 1, 3, 0] rfl ?_
            have z := okL h
            exact z
def Jo_spread_l39 (m : Mm) (a1 : Int32) (s2 : Int32 × Mm) : Option ((Int32 × Mm) ⊕ Mm) :=
  if ((s2.2).1 11 0) ≤ (s2.1) then
 (some (.inr (s2.2)))
 else ((Wo_names 11 (s2.2) a1 (s2.1)).bind fun r4 =>
  if r4 = true then
 (ga (NB_index a1 (s2.1)) 49 (if 0 ≤ ((s2.2).1 7 (NB_index a1 (s2.1)).toNatClampNeg) then
 (ga ((s2.2).1 7 (NB_index a1 (s2.1)).toNatClampNeg) 7 (ga a1 7 (gz (JI_bitCount (m.1 (11 + 5) a1.toNatClampNeg)) (ga ((s2.2).1 7 (NB_index a1 (s2.1)).toNatClampNeg) 7 (some (.inl ((s2.1) + 1, sl (s2.2) 10 ((s2.2).1 7 (NB_index a1 (s2.1)).toNatClampNeg).toNatClampNeg (((s2.2).2.1 10 ((s2.2).1 7 (NB_index a1 (s2.1)).toNatClampNeg).toNatClampNeg) + (((s2.2).2.1 9 a1.toNatClampNeg) * ((60 / (JI_bitCount (m.1 (11 + 5) a1.toNatClampNeg))).toInt64))))))))))
 else (ga a1 7 (ga a1 7 (gz (JI_bitCount (m.1 (11 + 5) a1.toNatClampNeg)) (ga a1 7 (some (.inl ((s2.1) + 1, sl (s2.2) 10 a1.toNatClampNeg (((s2.2).2.1 10 a1.toNatClampNeg) + (((s2.2).2.1 9 a1.toNatClampNeg) * ((60 / (JI_bitCount (m.1 (11 + 5) a1.toNatClampNeg))).toInt64))))))))))))
 else (some (.inl ((s2.1) + 1, s2.2))))
noncomputable def Jo_spread (m : Mm) (a1 : Int32) : Option (Mm) :=
  ga a1 7 (if (JI_bitCount (m.1 (11 + 5) a1.toNatClampNeg)) = 0 then
 (ga a1 7 (ga a1 7 (ga a1 7 (some (sl m 10 a1.toNatClampNeg ((m.2.1 10 a1.toNatClampNeg) + ((m.2.1 9 a1.toNatClampNeg) * 60)))))))
 else ((iter (Jo_spread_l39 m a1) (0, m)).bind fun e3 =>
  some e3))
set_option maxRecDepth 20000 in
set_option maxHeartbeats 4000000 in
theorem Jo_spread_ok {G : Gw} (hG : gOk G) (hs : gsh G = shC) {a1 : Int32} {m : Mm} {P : Option Value → Mm → Prop} (h : mjO (Jo_spread m a1) (fun r => P none r)) : mjR G 1 yX1_spread cX1_spread 5 none [.ref (gr G 1), .int a1] m P := by
  refine mjR_of hG (by decide) (Nat.le_of_ble_eq_true rfl) ?_
  intro X F
  have F : mjF G X cX1_spread RX1 5 1 none := F
  show mjV G X 5 0 [(0, .ref (gr G 1)), (1, .int a1)] [] m P
  unfold Jo_spread at h
  refine vAloadN F dX1_spread_0 (k := 0) rfl ?_
  refine vGetR F (t := 11) dX1_spread_1 fa_X1_12 (cqC_1 hs) rfl ?_
  refine vGetR F (t := 11 + 5) dX1_spread_4 fa_X1_161 (is_X5_11 hs).1 rfl ?_
  refine vIloadN F dX1_spread_7 (k := 1) rfl ?_
  obtain ⟨g1, h⟩ := okga h
  refine vIald F dX1_spread_8 (is_X5_11 hs).2.2.2.2.2.1 g1 ?_
  refine vCallS F (d' := 0) (As := [.int (m.1 (11 + 5) a1.toNatClampNeg)]) (st := []) dX1_spread_9 lk_X1_164 my_J6_bitCount_0f7a4 sy_J6_bitCount_0f7a4 (by decide) rfl rfl (Nat.le_of_ble_eq_true rfl) (JI_bitCount_ok hG ?_)
  show mjV G X 5 12 [(0, .ref (gr G 1)), (1, .int a1)] [.int (JI_bitCount (m.1 (11 + 5) a1.toNatClampNeg))] m P
  refine vIstoreN F (L' := [(2, .int (JI_bitCount (m.1 (11 + 5) a1.toNatClampNeg))), (0, .ref (gr G 1)), (1, .int a1)]) dX1_spread_12 rfl (by decide) rfl ?_
  refine vIloadN F dX1_spread_13 (k := 0) rfl ?_
  refine vIfNe F (tgt := 37) dX1_spread_14 (by decide) (fun c21 => ?_) (fun c21 => ?_)
  · replace h := okF h c21
    refine vIconst F (v := 0) dX1_spread_37 k_0 ?_
    refine vIstoreN F (L' := [(3, .int 0), (2, .int (JI_bitCount (m.1 (11 + 5) a1.toNatClampNeg))), (0, .ref (gr G 1)), (1, .int a1)]) dX1_spread_38 rfl (by decide) rfl ?_
    refine vSub [2, 3, 1, 0] rfl ?_
    refine okLoop (s0 := (0, m)) (T := (fun (s2 : Int32 × Mm) => mjV G X 5 39 [(0, .ref (gr G 1)), (1, .int a1), (2, .int (JI_bitCount (m.1 (11 + 5) a1.toNatClampNeg))), (3, .int (s2.1))] [] (s2.2) P)) (Ve := (fun (e3 : Mm) => mjV G X 5 111 [] [] e3 P)) h ?_ (fun s2 h => ?_)
    · intro e3 h
      have z := okS h
      exact vVret F dX1_spread_111 z
    · unfold Jo_spread_l39 at h
      refine vIloadN F dX1_spread_39 (k := 3) rfl ?_
      refine vAloadN F dX1_spread_40 (k := 0) rfl ?_
      refine vGetR F (t := 11) dX1_spread_41 fa_X1_12 (cqC_1 hs) rfl ?_
      refine vGetI F dX1_spread_44 fa_X1_51 (is_X5_11 hs).1 rfl ?_
      refine vIcmpGe F (tgt := 111) dX1_spread_47 (by decide) (fun c16 => ?_) (fun c16 => ?_)
      · replace h := okT h c16
        refine vSub [] rfl ?_
        have z := okR h
        exact z
      · replace h := okF h c16
        refine vAloadN F dX1_spread_50 (k := 0) rfl ?_
        refine vGetR F (t := 11) dX1_spread_51 fa_X1_12 (cqC_1 hs) rfl ?_
        refine vIloadN F dX1_spread_54 (k := 1) rfl ?_
        refine vIloadN F dX1_spread_55 (k := 3) rfl ?_
        refine vCallV F (d' := 0) (x := 11) (T := TX5) (N := 13) (As := [.int a1, .int (s2.1)]) (st := []) dX1_spread_56 lk_X1_96 my_X5_names mv_X5_names (is_X5_11 hs).1 rfl (by decide) rfl rfl (Nat.le_of_ble_eq_true rfl) (Wo_names_ok hG hs (is_X5_11 hs) (okB h fun r4 h => ?_))
        show mjV G X 5 59 [(0, .ref (gr G 1)), (1, .int a1), (2, .int (JI_bitCount (m.1 (11 + 5) a1.toNatClampNeg))), (3, .int (s2.1))] [.int (bI r4)] (s2.2) P
        refine vIfEqB F (tgt := 105) dX1_spread_59 (by decide) (fun c15 => ?_) (fun c15 => ?_)
        · replace h := okF h c15
          refine vIinc F (v := 1) (k := 3) (L' := [(3, .int ((s2.1) + 1)), (0, .ref (gr G 1)), (1, .int a1), (2, .int (JI_bitCount (m.1 (11 + 5) a1.toNatClampNeg)))]) dX1_spread_105 rfl k_1 (by decide) rfl ?_
          refine vGoto F (tgt := 39) dX1_spread_108 (by decide) ?_
          refine vSub [1, 2, 3, 0] rfl ?_
          have z := okL h
          exact z
        · replace h := okT h c15
          refine vAloadN F dX1_spread_62 (k := 0) rfl ?_
          refine vGetR F (t := 7) dX1_spread_63 fa_X1_34 (cqC_1 hs) rfl ?_
          refine vIloadN F dX1_spread_66 (k := 1) rfl ?_
          refine vIloadN F dX1_spread_67 (k := 3) rfl ?_
          refine vCallS F (d' := 0) (As := [.int a1, .int (s2.1)]) (st := [.ref (gr G 7)]) dX1_spread_68 lk_X1_70 my_X6_index sy_X6_index (by decide) rfl rfl (Nat.le_of_ble_eq_true rfl) (NB_index_ok hG hs ?_)
          show mjV G X 5 71 [(0, .ref (gr G 1)), (1, .int a1), (2, .int (JI_bitCount (m.1 (11 + 5) a1.toNatClampNeg))), (3, .int (s2.1))] [.int (NB_index a1 (s2.1)), .ref (gr G 7)] (s2.2) P
          obtain ⟨g5, h⟩ := okga h
          refine vIald F dX1_spread_71 (cqC_7 hs) g5 ?_
          refine vIstore F (L' := [(4, .int ((s2.2).1 7 (NB_index a1 (s2.1)).toNatClampNeg)), (0, .ref (gr G 1)), (1, .int a1), (2, .int (JI_bitCount (m.1 (11 + 5) a1.toNatClampNeg))), (3, .int (s2.1))]) dX1_spread_72 (by decide) rfl ?_
          refine vAloadN F dX1_spread_74 (k := 1) rfl ?_
          refine vGetR F (t := 10) dX1_spread_75 fa_X1_44 (cqC_1 hs) rfl ?_
          refine vIload F dX1_spread_78 (k := 0) rfl ?_
          refine vIfGe F (tgt := 87) dX1_spread_80 (by decide) (fun c14 => ?_) (fun c14 => ?_)
          · replace h := okT h c14
            refine vIload F dX1_spread_87 (k := 0) rfl ?_
            refine vDup2 F dX1_spread_89 rfl rfl ?_
            obtain ⟨g6, h⟩ := okga h
            refine vLald F dX1_spread_90 (cqC_10 hs) g6 ?_
            refine vAloadN F dX1_spread_91 (k := 1) rfl ?_
            refine vGetR F (t := 9) dX1_spread_92 fa_X1_40 (cqC_1 hs) rfl ?_
            refine vIloadN F dX1_spread_95 (k := 2) rfl ?_
            obtain ⟨g7, h⟩ := okga h
            refine vLald F dX1_spread_96 (cqC_9 hs) g7 ?_
            refine vBipush F (v := 60) dX1_spread_97 kb_60 ?_
            refine vIloadN F dX1_spread_99 (k := 3) rfl ?_
            obtain ⟨g8, h⟩ := okgz h
            refine vIdiv F dX1_spread_100 g8 ?_
            refine vI2l F dX1_spread_101 ?_
            refine vLmul F dX1_spread_102 ?_
            refine vLadd F dX1_spread_103 ?_
            obtain ⟨g9, h⟩ := okga h
            refine vLast F dX1_spread_104 (cqC_10 hs) g9 ?_
            refine vIinc F (v := 1) (k := 4) (L' := [(3, .int ((s2.1) + 1)), (4, .int ((s2.2).1 7 (NB_index a1 (s2.1)).toNatClampNeg)), (0, .ref (gr G 1)), (1, .int a1), (2, .int (JI_bitCount (m.1 (11 + 5) a1.toNatClampNeg)))]) dX1_spread_105 rfl k_1 (by decide) rfl ?_
            refine vGoto F (tgt := 39) dX1_spread_108 (by decide) ?_
            refine vSub [2, 3, 4, 0] rfl ?_
            have z := okL h
            exact z
          · replace h := okF h c14
            refine vIloadN F dX1_spread_83 (k := 2) rfl ?_
            refine vGoto F (tgt := 89) dX1_spread_84 (by decide) ?_
            refine vDup2 F dX1_spread_89 rfl rfl ?_
            obtain ⟨g10, h⟩ := okga h
            refine vLald F dX1_spread_90 (cqC_10 hs) g10 ?_
            refine vAloadN F dX1_spread_91 (k := 1) rfl ?_
            refine vGetR F (t := 9) dX1_spread_92 fa_X1_40 (cqC_1 hs) rfl ?_
            refine vIloadN F dX1_spread_95 (k := 2) rfl ?_
            obtain ⟨g11, h⟩ := okga h
            refine vLald F dX1_spread_96 (cqC_9 hs) g11 ?_
            refine vBipush F (v := 60) dX1_spread_97 kb_60 ?_
            refine vIloadN F dX1_spread_99 (k := 3) rfl ?_
            obtain ⟨g12, h⟩ := okgz h
            refine vIdiv F dX1_spread_100 g12 ?_
            refine vI2l F dX1_spread_101 ?_
            refine vLmul F dX1_spread_102 ?_
            refine vLadd F dX1_spread_103 ?_
            obtain ⟨g13, h⟩ := okga h
            refine vLast F dX1_spread_104 (cqC_10 hs) g13 ?_
            refine vIinc F (v := 1) (k := 4) (L' := [(3, .int ((s2.1) + 1)), (4, .int ((s2.2).1 7 (NB_index a1 (s2.1)).toNatClampNeg)), (0, .ref (gr G 1)), (1, .int a1), (2, .int (JI_bitCount (m.1 (11 + 5) a1.toNatClampNeg)))]) dX1_spread_105 rfl k_1 (by decide) rfl ?_
            refine vGoto F (tgt := 39) dX1_spread_108 (by decide) ?_
            refine vSub [2, 3, 4, 0] rfl ?_
            have z := okL h
            exact z
  · replace h := okT h c21
    refine vAloadN F dX1_spread_17 (k := 1) rfl ?_
    refine vGetR F (t := 10) dX1_spread_18 fa_X1_44 (cqC_1 hs) rfl ?_
    refine vIloadN F dX1_spread_21 (k := 2) rfl ?_
    refine vDup2 F dX1_spread_22 rfl rfl ?_
    obtain ⟨g18, h⟩ := okga h
    refine vLald F dX1_spread_23 (cqC_10 hs) g18 ?_
    refine vAloadN F dX1_spread_24 (k := 1) rfl ?_
    refine vGetR F (t := 9) dX1_spread_25 fa_X1_40 (cqC_1 hs) rfl ?_
    refine vIloadN F dX1_spread_28 (k := 2) rfl ?_
    obtain ⟨g19, h⟩ := okga h
    refine vLald F dX1_spread_29 (cqC_9 hs) g19 ?_
    refine vLdc2 F dX1_spread_30 kc_X1_169 ?_
    refine vLmul F dX1_spread_33 ?_
    refine vLadd F dX1_spread_34 ?_
    obtain ⟨g20, h⟩ := okga h
    refine vLast F dX1_spread_35 (cqC_10 hs) g20 ?_
    have z := okS h
    exact vVret F dX1_spread_36 z
noncomputable def Jo_sharesAt_l35  (s6 : Int32 × Mm) : Option ((Int32 × Mm) ⊕ Mm) :=
  if ((s6.2).1 11 0) ≤ (s6.1) then
 (some (.inr (s6.2)))
 else ((Jo_spread (s6.2) (s6.1)).bind fun r8 =>
  some (.inl ((s6.1) + 1, r8)))
noncomputable def Jo_sharesAt_l18 (a3 : Int32) (s3 : Int32 × Mm) : Option ((Int32 × Mm) ⊕ Mm) :=
  if a3 ≤ (s3.1) then
 (some (.inr (s3.2)))
 else ((JA_fill (s3.2) 7 10 0).bind fun r5 =>
  (iter (Jo_sharesAt_l35) (0, r5)).bind fun e7 =>
  gq (cpOk 0 0 7 7 7) (some (.inl ((s3.1) + 1, cpl e7 10 9 0 0 7))))
noncomputable def Jo_sharesAt (m : Mm) (a1 : Int32) (a2 : Int32) (a3 : Int32) : Option (Int64 × Mm) :=
  (JA_fill m 7 9 0).bind fun r1 =>
  ga a1 7 ((iter (Jo_sharesAt_l18 a3) (0, sl r1 9 a1.toNatClampNeg 1)).bind fun e4 =>
  ga a2 7 (some (e4.2.1 9 a2.toNatClampNeg, e4)))
set_option maxRecDepth 20000 in
set_option maxHeartbeats 4000000 in
theorem Jo_sharesAt_ok {G : Gw} (hG : gOk G) (hs : gsh G = shC) {a1 : Int32} {a2 : Int32} {a3 : Int32} {m : Mm} {P : Option Value → Mm → Prop} (h : mjO (Jo_sharesAt m a1 a2 a3) (fun r => P (some (.long r.1)) r.2)) : mjR G 2 yX1_sharesAt cX1_sharesAt 6 (some .long) [.ref (gr G 1), .int a1, .int a2, .int a3] m P := by
  refine mjR_of hG (by decide) (Nat.le_of_ble_eq_true rfl) ?_
  intro X F
  have F : mjF G X cX1_sharesAt RX1 6 2 (some .long) := F
  show mjV G X 6 0 [(0, .ref (gr G 1)), (1, .int a1), (2, .int a2), (3, .int a3)] [] m P
  unfold Jo_sharesAt at h
  refine vAloadN F dX1_sharesAt_0 (k := 0) rfl ?_
  refine vGetR F (t := 9) dX1_sharesAt_1 fa_X1_40 (cqC_1 hs) rfl ?_
  refine vLconst F (v := 0) dX1_sharesAt_4 rfl ?_
  refine vCallS F (d' := 0) (As := [.ref (gr G 9), .long 0]) (st := []) dX1_sharesAt_5 lk_X1_145 my_J7_fill_d0a16 sy_J7_fill_d0a16 (by decide) rfl rfl (Nat.le_of_ble_eq_true rfl) (JA_fill_ok hG (cqC_9 hs) (okB h fun r1 h => ?_))
  show mjV G X 6 8 [(0, .ref (gr G 1)), (1, .int a1), (2, .int a2), (3, .int a3)] [] r1 P
  refine vAloadN F dX1_sharesAt_8 (k := 0) rfl ?_
  refine vGetR F (t := 9) dX1_sharesAt_9 fa_X1_40 (cqC_1 hs) rfl ?_
  refine vIloadN F dX1_sharesAt_12 (k := 1) rfl ?_
  refine vLconst F (v := 1) dX1_sharesAt_13 rfl ?_
  obtain ⟨g2, h⟩ := okga h
  refine vLast F dX1_sharesAt_14 (cqC_9 hs) g2 ?_
  refine vIconst F (v := 0) dX1_sharesAt_15 k_0 ?_
  refine vIstore F (L' := [(4, .int 0), (0, .ref (gr G 1)), (1, .int a1), (2, .int a2), (3, .int a3)]) dX1_sharesAt_16 (by decide) rfl ?_
  refine vSub [1, 3, 4, 0] rfl ?_
  refine okLoop (s0 := (0, sl r1 9 a1.toNatClampNeg 1)) (T := (fun (s3 : Int32 × Mm) => mjV G X 6 18 [(0, .ref (gr G 1)), (2, .int a2), (3, .int a3), (4, .int (s3.1))] [] (s3.2) P)) (Ve := (fun (e4 : Mm) => mjV G X 6 80 [(0, .ref (gr G 1)), (2, .int a2)] [] e4 P)) h ?_ (fun s3 h => ?_)
  · intro e4 h
    refine vAloadN F dX1_sharesAt_80 (k := 0) rfl ?_
    refine vGetR F (t := 9) dX1_sharesAt_81 fa_X1_40 (cqC_1 hs) rfl ?_
    refine vIloadN F dX1_sharesAt_84 (k := 1) rfl ?_
    obtain ⟨g13, h⟩ := okga h
    refine vLald F dX1_sharesAt_85 (cqC_9 hs) g13 ?_
    have z := okS h
    exact vLret F dX1_sharesAt_86 z
  · unfold Jo_sharesAt_l18 at h
    refine vIload F dX1_sharesAt_18 (k := 3) rfl ?_
    refine vIloadN F dX1_sharesAt_20 (k := 2) rfl ?_
    refine vIcmpGe F (tgt := 80) dX1_sharesAt_21 (by decide) (fun c12 => ?_) (fun c12 => ?_)
    · replace h := okT h c12
      refine vSub [0, 1] rfl ?_
      have z := okR h
      exact z
    · replace h := okF h c12
      refine vAloadN F dX1_sharesAt_24 (k := 0) rfl ?_
      refine vGetR F (t := 10) dX1_sharesAt_25 fa_X1_44 (cqC_1 hs) rfl ?_
      refine vLconst F (v := 0) dX1_sharesAt_28 rfl ?_
      refine vCallS F (d' := 0) (As := [.ref (gr G 10), .long 0]) (st := []) dX1_sharesAt_29 lk_X1_145 my_J7_fill_d0a16 sy_J7_fill_d0a16 (by decide) rfl rfl (Nat.le_of_ble_eq_true rfl) (JA_fill_ok hG (cqC_10 hs) (okB h fun r5 h => ?_))
      show mjV G X 6 32 [(0, .ref (gr G 1)), (2, .int a2), (3, .int a3), (4, .int (s3.1))] [] r5 P
      refine vIconst F (v := 0) dX1_sharesAt_32 k_0 ?_
      refine vIstore F (L' := [(5, .int 0), (0, .ref (gr G 1)), (2, .int a2), (3, .int a3), (4, .int (s3.1))]) dX1_sharesAt_33 (by decide) rfl ?_
      refine vSub [1, 2, 3, 4, 0] rfl ?_
      refine okLoop (s0 := (0, r5)) (T := (fun (s6 : Int32 × Mm) => mjV G X 6 35 [(0, .ref (gr G 1)), (2, .int a2), (3, .int a3), (4, .int (s3.1)), (5, .int (s6.1))] [] (s6.2) P)) (Ve := (fun (e7 : Mm) => mjV G X 6 59 [(0, .ref (gr G 1)), (2, .int a2), (3, .int a3), (4, .int (s3.1))] [] e7 P)) h ?_ (fun s6 h => ?_)
      · intro e7 h
        refine vAloadN F dX1_sharesAt_59 (k := 0) rfl ?_
        refine vGetR F (t := 10) dX1_sharesAt_60 fa_X1_44 (cqC_1 hs) rfl ?_
        refine vIconst F (v := 0) dX1_sharesAt_63 k_0 ?_
        refine vAloadN F dX1_sharesAt_64 (k := 0) rfl ?_
        refine vGetR F (t := 9) dX1_sharesAt_65 fa_X1_40 (cqC_1 hs) rfl ?_
        refine vIconst F (v := 0) dX1_sharesAt_68 k_0 ?_
        refine vBipush F (v := 7) dX1_sharesAt_69 kb_7 ?_
        obtain ⟨g10, h⟩ := okgq h
        refine vCopyL F dX1_sharesAt_71 kp_X1_155 (cqC_10 hs) (cqC_9 hs) g10 (Nat.le_of_ble_eq_true rfl) ?_
        refine vIinc F (v := 1) (k := 3) (L' := [(4, .int ((s3.1) + 1)), (0, .ref (gr G 1)), (2, .int a2), (3, .int a3)]) dX1_sharesAt_74 rfl k_1 (by decide) rfl ?_
        refine vGoto F (tgt := 18) dX1_sharesAt_77 (by decide) ?_
        refine vSub [1, 2, 3, 0] rfl ?_
        have z := okL h
        exact z
      · unfold Jo_sharesAt_l35 at h
        refine vIload F dX1_sharesAt_35 (k := 4) rfl ?_
        refine vAloadN F dX1_sharesAt_37 (k := 0) rfl ?_
        refine vGetR F (t := 11) dX1_sharesAt_38 fa_X1_12 (cqC_1 hs) rfl ?_
        refine vGetI F dX1_sharesAt_41 fa_X1_51 (is_X5_11 hs).1 rfl ?_
        refine vIcmpGe F (tgt := 59) dX1_sharesAt_44 (by decide) (fun c9 => ?_) (fun c9 => ?_)
        · replace h := okT h c9
          refine vSub [0, 1, 2, 3] rfl ?_
          have z := okR h
          exact z
        · replace h := okF h c9
          refine vAloadN F dX1_sharesAt_47 (k := 0) rfl ?_
          refine vIload F dX1_sharesAt_48 (k := 4) rfl ?_
          refine vCallV F (d' := 1) (x := 1) (T := TX1) (N := 15) (As := [.int (s6.1)]) (st := []) dX1_sharesAt_50 lk_X1_151 my_X1_spread mv_X1_spread (cqC_1 hs) rfl (by decide) rfl rfl (Nat.le_of_ble_eq_true rfl) (Jo_spread_ok hG hs (okB h fun r8 h => ?_))
          show mjV G X 6 53 [(0, .ref (gr G 1)), (2, .int a2), (3, .int a3), (4, .int (s3.1)), (5, .int (s6.1))] [] r8 P
          refine vIinc F (v := 1) (k := 4) (L' := [(5, .int ((s6.1) + 1)), (0, .ref (gr G 1)), (2, .int a2), (3, .int a3), (4, .int (s3.1))]) dX1_sharesAt_53 rfl k_1 (by decide) rfl ?_
          refine vGoto F (tgt := 35) dX1_sharesAt_56 (by decide) ?_
          refine vSub [1, 2, 3, 4, 0] rfl ?_
          have z := okL h
          exact z
def La_clear (x : Nat) (m : Mm) : Mm :=
  si (si (si m x 1 0) x 5 0) x 6 4
set_option maxRecDepth 20000 in
set_option maxHeartbeats 4000000 in
theorem La_clear_ok {G : Gw} (hG : gOk G) (hs : gsh G = shC) {x : Nat} (hx : is_X2 (gsh G) x) {m : Mm} {P : Option Value → Mm → Prop} (h : P none (La_clear x m)) : mjR G 0 yX2_clear cX2_clear 1 none [.ref (gr G x)] m P := by
  refine mjR_of hG (by decide) (Nat.le_of_ble_eq_true rfl) ?_
  intro X F
  have F : mjF G X cX2_clear RX2 1 0 none := F
  show mjV G X 1 0 [(0, .ref (gr G x))] [] m P
  have h : mjO (some (La_clear x m)) (fun r => P none r) := ⟨_, rfl, h⟩
  unfold La_clear at h
  refine vAloadN F dX2_clear_0 (k := 0) rfl ?_
  refine vIconst F (v := 0) dX2_clear_1 k_0 ?_
  refine vPutI F dX2_clear_2 fw_X2_28 hx.1 rfl ⟨rfl, rfl⟩ ?_
  refine vAloadN F dX2_clear_5 (k := 0) rfl ?_
  refine vIconst F (v := 0) dX2_clear_6 k_0 ?_
  refine vPutI F dX2_clear_7 fw_X2_31 hx.1 rfl ⟨rfl, rfl⟩ ?_
  refine vAloadN F dX2_clear_10 (k := 0) rfl ?_
  refine vIconst F (v := 4) dX2_clear_11 k_4 ?_
  refine vPutI F dX2_clear_12 fw_X2_24 hx.1 rfl ⟨rfl, rfl⟩ ?_
  have z := okS h
  exact vVret F dX2_clear_15 z
def La_addCode (x : Nat) (m : Mm) (a1 : Int32) : Option (Mm) :=
  if 100 ≤ (m.1 x 1) then
 (some m)
 else (ga (m.1 x 1) 100 (some (si (si m (x + 1) (m.1 x 1).toNatClampNeg a1) x 1 (((si m (x + 1) (m.1 x 1).toNatClampNeg a1).1 x 1) + 1))))
set_option maxRecDepth 20000 in
set_option maxHeartbeats 4000000 in
theorem La_addCode_ok {G : Gw} (hG : gOk G) (hs : gsh G = shC) {x : Nat} (hx : is_X2 (gsh G) x) {a1 : Int32} {m : Mm} {P : Option Value → Mm → Prop} (h : mjO (La_addCode x m a1) (fun r => P none r)) : mjR G 0 yX2_addCode cX2_addCode 2 none [.ref (gr G x), .int a1] m P := by
  refine mjR_of hG (by decide) (Nat.le_of_ble_eq_true rfl) ?_
  intro X F
  have F : mjF G X cX2_addCode RX2 2 0 none := F
  show mjV G X 2 0 [(0, .ref (gr G x)), (1, .int a1)] [] m P
  unfold La_addCode at h
  refine vAloadN F dX2_addCode_0 (k := 0) rfl ?_
  refine vGetI F dX2_addCode_1 fa_X2_28 hx.1 rfl ?_
  refine vBipush F (v := 100) dX2_addCode_4 kb_100 ?_
  refine vIcmpGe F (tgt := 29) dX2_addCode_6 (by decide) (fun c2 => ?_) (fun c2 => ?_)
  · replace h := okT h c2
    have z := okS h
    exact vVret F dX2_addCode_29 z
  · replace h := okF h c2
    refine vAloadN F dX2_addCode_9 (k := 0) rfl ?_
    refine vGetR F (t := x + 1) dX2_addCode_10 fa_X2_9 hx.1 rfl ?_
    refine vAloadN F dX2_addCode_13 (k := 0) rfl ?_
    refine vGetI F dX2_addCode_14 fa_X2_28 hx.1 rfl ?_
    refine vIloadN F dX2_addCode_17 (k := 1) rfl ?_
    obtain ⟨g1, h⟩ := okga h
    refine vIast F dX2_addCode_18 hx.2.1 g1 ?_
    refine vAloadN F dX2_addCode_19 (k := 0) rfl ?_
    refine vDup F dX2_addCode_20 rfl ?_
    refine vGetI F dX2_addCode_21 fa_X2_28 hx.1 rfl ?_
    refine vIconst F (v := 1) dX2_addCode_24 k_1 ?_
    refine vIadd F dX2_addCode_25 ?_
    refine vPutI F dX2_addCode_26 fw_X2_28 hx.1 rfl ⟨rfl, rfl⟩ ?_
    have z := okS h
    exact vVret F dX2_addCode_29 z
def La_addTest (x : Nat) (m : Mm) (a1 : Int32) (a2 : Int32) (a3 : Int32) : Option (Mm) :=
  (La_addCode x m (((a1 * 300) + (a2 * 100)) + a3)).bind fun r1 =>
  some r1
set_option maxRecDepth 20000 in
set_option maxHeartbeats 4000000 in
theorem La_addTest_ok {G : Gw} (hG : gOk G) (hs : gsh G = shC) {x : Nat} (hx : is_X2 (gsh G) x) {a1 : Int32} {a2 : Int32} {a3 : Int32} {m : Mm} {P : Option Value → Mm → Prop} (h : mjO (La_addTest x m a1 a2 a3) (fun r => P none r)) : mjR G 1 yX2_addTest cX2_addTest 4 none [.ref (gr G x), .int a1, .int a2, .int a3] m P := by
  refine mjR_of hG (by decide) (Nat.le_of_ble_eq_true rfl) ?_
  intro X F
  have F : mjF G X cX2_addTest RX2 4 1 none := F
  show mjV G X 4 0 [(0, .ref (gr G x)), (1, .int a1), (2, .int a2), (3, .int a3)] [] m P
  unfold La_addTest at h
  refine vAloadN F dX2_addTest_0 (k := 0) rfl ?_
  refine vIloadN F dX2_addTest_1 (k := 1) rfl ?_
  refine vSipush F (v := 300) dX2_addTest_2 ks_300 ?_
  refine vImul F dX2_addTest_5 ?_
  refine vIloadN F dX2_addTest_6 (k := 2) rfl ?_
  refine vBipush F (v := 100) dX2_addTest_7 kb_100 ?_
  refine vImul F dX2_addTest_9 ?_
  refine vIadd F dX2_addTest_10 ?_
  refine vIloadN F dX2_addTest_11 (k := 3) rfl ?_
  refine vIadd F dX2_addTest_12 ?_
  refine vCallV F (d' := 0) (x := x) (T := TX2) (N := 7) (As := [.int (((a1 * 300) + (a2 * 100)) + a3)]) (st := []) dX2_addTest_13 lk_X2_34 my_X2_addCode mv_X2_addCode hx.1 rfl (by decide) rfl rfl (Nat.le_of_ble_eq_true rfl) (La_addCode_ok hG hs hx (okB h fun r1 h => ?_))
  show mjV G X 4 16 [(0, .ref (gr G x)), (1, .int a1), (2, .int a2), (3, .int a3)] [] r1 P
  have z := okS h
  exact vVret F dX2_addTest_16 z
def La_addClause (x : Nat) (m : Mm) (a1 : Int32) (a2 : Int32) : Option (Mm) :=
  jn (fun (e1 : Mm) => if 10 ≤ (e1.1 x 5) then
 (some e1)
 else (ga (e1.1 x 5) 10 (ga ((si e1 (x + 2) (e1.1 x 5).toNatClampNeg a1).1 x 5) 10 (ga ((si (si e1 (x + 2) (e1.1 x 5).toNatClampNeg a1) (x + 3) ((si e1 (x + 2) (e1.1 x 5).toNatClampNeg a1).1 x 5).toNatClampNeg a2).1 x 5) 10 (some (si (si (si (si e1 (x + 2) (e1.1 x 5).toNatClampNeg a1) (x + 3) ((si e1 (x + 2) (e1.1 x 5).toNatClampNeg a1).1 x 5).toNatClampNeg a2) (x + 4) ((si (si e1 (x + 2) (e1.1 x 5).toNatClampNeg a1) (x + 3) ((si e1 (x + 2) (e1.1 x 5).toNatClampNeg a1).1 x 5).toNatClampNeg a2).1 x 5).toNatClampNeg ((si (si e1 (x + 2) (e1.1 x 5).toNatClampNeg a1) (x + 3) ((si e1 (x + 2) (e1.1 x 5).toNatClampNeg a1).1 x 5).toNatClampNeg a2).1 x 1)) x 5 (((si (si (si e1 (x + 2) (e1.1 x 5).toNatClampNeg a1) (x + 3) ((si e1 (x + 2) (e1.1 x 5).toNatClampNeg a1).1 x 5).toNatClampNeg a2) (x + 4) ((si (si e1 (x + 2) (e1.1 x 5).toNatClampNeg a1) (x + 3) ((si e1 (x + 2) (e1.1 x 5).toNatClampNeg a1).1 x 5).toNatClampNeg a2).1 x 5).toNatClampNeg ((si (si e1 (x + 2) (e1.1 x 5).toNatClampNeg a1) (x + 3) ((si e1 (x + 2) (e1.1 x 5).toNatClampNeg a1).1 x 5).toNatClampNeg a2).1 x 1)).1 x 5) + 1))))))) fun j2 =>
  if a1 = 2 then
 (j2 (si m x 6 a2))
 else (j2 (m))
set_option maxRecDepth 20000 in
set_option maxHeartbeats 4000000 in
theorem La_addClause_ok {G : Gw} (hG : gOk G) (hs : gsh G = shC) {x : Nat} (hx : is_X2 (gsh G) x) {a1 : Int32} {a2 : Int32} {m : Mm} {P : Option Value → Mm → Prop} (h : mjO (La_addClause x m a1 a2) (fun r => P none r)) : mjR G 0 yX2_addClause cX2_addClause 3 none [.ref (gr G x), .int a1, .int a2] m P := by
  refine mjR_of hG (by decide) (Nat.le_of_ble_eq_true rfl) ?_
  intro X F
  have F : mjF G X cX2_addClause RX2 3 0 none := F
  show mjV G X 3 0 [(0, .ref (gr G x)), (1, .int a1), (2, .int a2)] [] m P
  unfold La_addClause at h
  refine vIloadN F dX2_addClause_0 (k := 1) rfl ?_
  refine vIconst F (v := 2) dX2_addClause_1 k_2 ?_
  refine okJ (Vj := fun (e1 : Mm) => mjV G X 3 10 [(0, .ref (gr G x)), (1, .int a1), (2, .int a2)] [] e1 P) h (fun e1 h => ?_) (fun j2 Jj2 h => ?_)
  · refine vAloadN F dX2_addClause_10 (k := 0) rfl ?_
    refine vGetI F dX2_addClause_11 fa_X2_31 hx.1 rfl ?_
    refine vBipush F (v := 10) dX2_addClause_14 kb_10 ?_
    refine vIcmpGe F (tgt := 62) dX2_addClause_16 (by decide) (fun c6 => ?_) (fun c6 => ?_)
    · replace h := okT h c6
      have z := okS h
      exact vVret F dX2_addClause_62 z
    · replace h := okF h c6
      refine vAloadN F dX2_addClause_19 (k := 0) rfl ?_
      refine vGetR F (t := x + 2) dX2_addClause_20 fa_X2_15 hx.1 rfl ?_
      refine vAloadN F dX2_addClause_23 (k := 0) rfl ?_
      refine vGetI F dX2_addClause_24 fa_X2_31 hx.1 rfl ?_
      refine vIloadN F dX2_addClause_27 (k := 1) rfl ?_
      obtain ⟨g3, h⟩ := okga h
      refine vIast F dX2_addClause_28 hx.2.2.1 g3 ?_
      refine vAloadN F dX2_addClause_29 (k := 0) rfl ?_
      refine vGetR F (t := x + 3) dX2_addClause_30 fa_X2_18 hx.1 rfl ?_
      refine vAloadN F dX2_addClause_33 (k := 0) rfl ?_
      refine vGetI F dX2_addClause_34 fa_X2_31 hx.1 rfl ?_
      refine vIloadN F dX2_addClause_37 (k := 2) rfl ?_
      obtain ⟨g4, h⟩ := okga h
      refine vIast F dX2_addClause_38 hx.2.2.2.1 g4 ?_
      refine vAloadN F dX2_addClause_39 (k := 0) rfl ?_
      refine vGetR F (t := x + 4) dX2_addClause_40 fa_X2_21 hx.1 rfl ?_
      refine vAloadN F dX2_addClause_43 (k := 0) rfl ?_
      refine vGetI F dX2_addClause_44 fa_X2_31 hx.1 rfl ?_
      refine vAloadN F dX2_addClause_47 (k := 0) rfl ?_
      refine vGetI F dX2_addClause_48 fa_X2_28 hx.1 rfl ?_
      obtain ⟨g5, h⟩ := okga h
      refine vIast F dX2_addClause_51 hx.2.2.2.2 g5 ?_
      refine vAloadN F dX2_addClause_52 (k := 0) rfl ?_
      refine vDup F dX2_addClause_53 rfl ?_
      refine vGetI F dX2_addClause_54 fa_X2_31 hx.1 rfl ?_
      refine vIconst F (v := 1) dX2_addClause_57 k_1 ?_
      refine vIadd F dX2_addClause_58 ?_
      refine vPutI F dX2_addClause_59 fw_X2_31 hx.1 rfl ⟨rfl, rfl⟩ ?_
      have z := okS h
      exact vVret F dX2_addClause_62 z
  · refine vIcmpNe F (tgt := 10) dX2_addClause_2 (by decide) (fun c7 => ?_) (fun c7 => ?_)
    · replace h := okF h c7
      exact Jj2 (m) h
    · replace h := okT h c7
      refine vAloadN F dX2_addClause_5 (k := 0) rfl ?_
      refine vIloadN F dX2_addClause_6 (k := 2) rfl ?_
      refine vPutI F dX2_addClause_7 fw_X2_24 hx.1 rfl ⟨rfl, rfl⟩ ?_
      exact Jj2 (si m x 6 a2) h
def Re_addSign (m : Mm) (a1 : Int32) : Option (Int32 × Mm) :=
  if 100 ≤ (m.1 67 1) then
 (some (m.1 67 1, m))
 else (ga (m.1 67 1) 100 (some ((si (si m 68 (m.1 67 1).toNatClampNeg (vp_nar .char a1)) 67 1 (((si m 68 (m.1 67 1).toNatClampNeg (vp_nar .char a1)).1 67 1) + 1)).1 67 1, si (si m 68 (m.1 67 1).toNatClampNeg (vp_nar .char a1)) 67 1 (((si m 68 (m.1 67 1).toNatClampNeg (vp_nar .char a1)).1 67 1) + 1))))
set_option maxRecDepth 20000 in
set_option maxHeartbeats 4000000 in
theorem Re_addSign_ok {G : Gw} (hG : gOk G) (hs : gsh G = shC) {a1 : Int32} {m : Mm} {P : Option Value → Mm → Prop} (h : mjO (Re_addSign m a1) (fun r => P (some (.int r.1)) r.2)) : mjR G 0 yX3_addSign cX3_addSign 2 (some .int) [.ref (gr G 67), .int a1] m P := by
  refine mjR_of hG (by decide) (Nat.le_of_ble_eq_true rfl) ?_
  intro X F
  have F : mjF G X cX3_addSign RX3 2 0 (some .int) := F
  show mjV G X 2 0 [(0, .ref (gr G 67)), (1, .int a1)] [] m P
  unfold Re_addSign at h
  refine vAloadN F dX3_addSign_0 (k := 0) rfl ?_
  refine vGetI F dX3_addSign_1 fa_X3_22 (cqC_67 hs) rfl ?_
  refine vBipush F (v := 100) dX3_addSign_4 kb_100 ?_
  refine vIcmpGe F (tgt := 29) dX3_addSign_6 (by decide) (fun c2 => ?_) (fun c2 => ?_)
  · replace h := okT h c2
    refine vAloadN F dX3_addSign_29 (k := 0) rfl ?_
    refine vGetI F dX3_addSign_30 fa_X3_22 (cqC_67 hs) rfl ?_
    have z := okS h
    exact vIret F dX3_addSign_33 z
  · replace h := okF h c2
    refine vAloadN F dX3_addSign_9 (k := 0) rfl ?_
    refine vGetR F (t := 68) dX3_addSign_10 fa_X3_9 (cqC_67 hs) rfl ?_
    refine vAloadN F dX3_addSign_13 (k := 0) rfl ?_
    refine vGetI F dX3_addSign_14 fa_X3_22 (cqC_67 hs) rfl ?_
    refine vIloadN F dX3_addSign_17 (k := 1) rfl ?_
    obtain ⟨g1, h⟩ := okga h
    refine vCast F dX3_addSign_18 (cqC_68 hs) g1 ?_
    refine vAloadN F dX3_addSign_19 (k := 0) rfl ?_
    refine vDup F dX3_addSign_20 rfl ?_
    refine vGetI F dX3_addSign_21 fa_X3_22 (cqC_67 hs) rfl ?_
    refine vIconst F (v := 1) dX3_addSign_24 k_1 ?_
    refine vIadd F dX3_addSign_25 ?_
    refine vPutI F dX3_addSign_26 fw_X3_22 (cqC_67 hs) rfl ⟨rfl, rfl⟩ ?_
    refine vAloadN F dX3_addSign_29 (k := 0) rfl ?_
    refine vGetI F dX3_addSign_30 fa_X3_22 (cqC_67 hs) rfl ?_
    have z := okS h
    exact vIret F dX3_addSign_33 z
def Re_empty (m : Mm) : Mm :=
  si m 67 1 0
set_option maxRecDepth 20000 in
set_option maxHeartbeats 4000000 in
theorem Re_empty_ok {G : Gw} (hG : gOk G) (hs : gsh G = shC) {m : Mm} {P : Option Value → Mm → Prop} (h : P none (Re_empty m)) : mjR G 0 yX3_empty cX3_empty 1 none [.ref (gr G 67)] m P := by
  refine mjR_of hG (by decide) (Nat.le_of_ble_eq_true rfl) ?_
  intro X F
  have F : mjF G X cX3_empty RX3 1 0 none := F
  show mjV G X 1 0 [(0, .ref (gr G 67))] [] m P
  have h : mjO (some (Re_empty m)) (fun r => P none r) := ⟨_, rfl, h⟩
  unfold Re_empty at h
  refine vAloadN F dX3_empty_0 (k := 0) rfl ?_
  refine vIconst F (v := 0) dX3_empty_1 k_0 ?_
  refine vPutI F dX3_empty_2 fw_X3_22 (cqC_67 hs) rfl ⟨rfl, rfl⟩ ?_
  have z := okS h
  exact vVret F dX3_empty_5 z
def Re_ahead (m : Mm) : Option (Int32) :=
  if (m.1 67 1) ≤ (m.1 67 2) then
 (some 255)
 else (ga (m.1 67 2) 100 (gq (decide (((m.1 68 (m.1 67 2).toNatClampNeg).toUInt32 % 65536).toInt32 = (m.1 68 (m.1 67 2).toNatClampNeg))) (some (m.1 68 (m.1 67 2).toNatClampNeg))))
set_option maxRecDepth 20000 in
set_option maxHeartbeats 4000000 in
theorem Re_ahead_ok {G : Gw} (hG : gOk G) (hs : gsh G = shC) {m : Mm} {P : Option Value → Mm → Prop} (h : mjO (Re_ahead m) (fun r => P (some (.int r)) m)) : mjR G 0 yX3_ahead cX3_ahead 1 (some .char) [.ref (gr G 67)] m P := by
  refine mjR_of hG (by decide) (Nat.le_of_ble_eq_true rfl) ?_
  intro X F
  have F : mjF G X cX3_ahead RX3 1 0 (some .char) := F
  show mjV G X 1 0 [(0, .ref (gr G 67))] [] m P
  unfold Re_ahead at h
  refine vAloadN F dX3_ahead_0 (k := 0) rfl ?_
  refine vGetI F dX3_ahead_1 fa_X3_26 (cqC_67 hs) rfl ?_
  refine vAloadN F dX3_ahead_4 (k := 0) rfl ?_
  refine vGetI F dX3_ahead_5 fa_X3_22 (cqC_67 hs) rfl ?_
  refine vIcmpGe F (tgt := 23) dX3_ahead_8 (by decide) (fun c3 => ?_) (fun c3 => ?_)
  · replace h := okT h c3
    refine vSipush F (v := 255) dX3_ahead_23 ks_255 ?_
    have z := okS h
    exact vZret F dX3_ahead_26 rfl z
  · replace h := okF h c3
    refine vAloadN F dX3_ahead_11 (k := 0) rfl ?_
    refine vGetR F (t := 68) dX3_ahead_12 fa_X3_9 (cqC_67 hs) rfl ?_
    refine vAloadN F dX3_ahead_15 (k := 0) rfl ?_
    refine vGetI F dX3_ahead_16 fa_X3_26 (cqC_67 hs) rfl ?_
    obtain ⟨g1, h⟩ := okga h
    refine vCald F dX3_ahead_19 (cqC_68 hs) g1 ?_
    refine vGoto F (tgt := 26) dX3_ahead_20 (by decide) ?_
    obtain ⟨g2, h⟩ := okgq h
    have z := okS h
    exact vZret F dX3_ahead_26 (nchr (of_decide_eq_true g2)) z
def Re_takes (m : Mm) (a1 : Int32) : Option (Bool × Mm) :=
  (Re_ahead m).bind fun r1 =>
  if r1 = a1 then
 (some (true, si m 67 2 ((m.1 67 2) + 1)))
 else (some (false, m))
set_option maxRecDepth 20000 in
set_option maxHeartbeats 4000000 in
theorem Re_takes_ok {G : Gw} (hG : gOk G) (hs : gsh G = shC) {a1 : Int32} {m : Mm} {P : Option Value → Mm → Prop} (h : mjO (Re_takes m a1) (fun r => P (some (.int (bI r.1))) r.2)) : mjR G 1 yX3_takes cX3_takes 2 (some .boolean) [.ref (gr G 67), .int a1] m P := by
  refine mjR_of hG (by decide) (Nat.le_of_ble_eq_true rfl) ?_
  intro X F
  have F : mjF G X cX3_takes RX3 2 1 (some .boolean) := F
  show mjV G X 2 0 [(0, .ref (gr G 67)), (1, .int a1)] [] m P
  unfold Re_takes at h
  refine vAloadN F dX3_takes_0 (k := 0) rfl ?_
  refine vCallV F (d' := 0) (x := 67) (T := TX3) (N := 4) (As := []) (st := []) dX3_takes_1 lk_X3_40 my_X3_ahead mv_X3_ahead (cqC_67 hs) rfl (by decide) rfl rfl (Nat.le_of_ble_eq_true rfl) (Re_ahead_ok hG hs (okB h fun r1 h => ?_))
  show mjV G X 2 4 [(0, .ref (gr G 67)), (1, .int a1)] [.int r1] m P
  refine vIloadN F dX3_takes_4 (k := 1) rfl ?_
  refine vIcmpEq F (tgt := 10) dX3_takes_5 (by decide) (fun c2 => ?_) (fun c2 => ?_)
  · replace h := okT h c2
    refine vAloadN F dX3_takes_10 (k := 0) rfl ?_
    refine vDup F dX3_takes_11 rfl ?_
    refine vGetI F dX3_takes_12 fa_X3_26 (cqC_67 hs) rfl ?_
    refine vIconst F (v := 1) dX3_takes_15 k_1 ?_
    refine vIadd F dX3_takes_16 ?_
    refine vPutI F dX3_takes_17 fw_X3_26 (cqC_67 hs) rfl ⟨rfl, rfl⟩ ?_
    refine vIconst F (v := 1) dX3_takes_20 k_1 ?_
    have z := okS h
    exact vZret (x := bI true) F dX3_takes_21 (nzI _) z
  · replace h := okF h c2
    refine vIconst F (v := 0) dX3_takes_8 k_0 ?_
    have z := okS h
    exact vZret (x := bI false) F dX3_takes_9 (nzI _) z
def Re_takesWord_l2 (a1 : List Int32) (s1 : Int32 × Mm) : Option ((Int32 × Mm) ⊕ (Mm ⊕ (Bool × Mm))) :=
  if (JS_length a1) ≤ (s1.1) then
 (some (.inr (.inl (s1.2))))
 else ((JS_charAt a1 (s1.1)).bind fun r3 =>
  (Re_takes (s1.2) r3).bind fun r4 =>
  if (r4.1) = true then
 (some (.inl ((s1.1) + 1, r4.2)))
 else (some (.inr (.inr (false, r4.2)))))
noncomputable def Re_takesWord (m : Mm) (a1 : List Int32) : Option (Bool × Mm) :=
  (iter (Re_takesWord_l2 a1) (0, m)).bind (Sum.elim (fun e2 => some (true, e2)) (fun v7 => some v7))
set_option maxRecDepth 20000 in
set_option maxHeartbeats 4000000 in
theorem Re_takesWord_ok {G : Gw} (hG : gOk G) (hs : gsh G = shC) {adr_a1 : Nat} {a1 : List Int32} (ha1 : mjStr G adr_a1 a1) {m : Mm} {P : Option Value → Mm → Prop} (h : mjO (Re_takesWord m a1) (fun r => P (some (.int (bI r.1))) r.2)) : mjR G 4 yX3_takesWord cX3_takesWord 3 (some .boolean) [.ref (gr G 67), .ref adr_a1] m P := by
  refine mjR_of hG (by decide) (Nat.le_of_ble_eq_true rfl) ?_
  intro X F
  have F : mjF G X cX3_takesWord RX3 3 4 (some .boolean) := F
  show mjV G X 3 0 [(0, .ref (gr G 67)), (1, .ref adr_a1)] [] m P
  unfold Re_takesWord at h
  refine vIconst F (v := 0) dX3_takesWord_0 k_0 ?_
  refine vIstoreN F (L' := [(2, .int 0), (0, .ref (gr G 67)), (1, .ref adr_a1)]) dX3_takesWord_1 rfl (by decide) rfl ?_
  refine vSub [1, 2, 0] rfl ?_
  refine okLoop (s0 := (0, m)) (T := (fun (s1 : Int32 × Mm) => mjV G X 3 2 [(0, .ref (gr G 67)), (1, .ref adr_a1), (2, .int (s1.1))] [] (s1.2) P)) (Ve := (Sum.elim (fun (e2 : Mm) => mjV G X 3 30 [] [] e2 P) (fun (v7 : Bool × Mm) => P (some (.int (bI v7.1))) v7.2))) h ?_ (fun s1 h => ?_)
  · intro q h
    rcases q with e2 | v7
    · refine vIconst F (v := 1) dX3_takesWord_30 k_1 ?_
      have z := okS h
      exact vZret (x := bI true) F dX3_takesWord_31 (nzI _) z
    · have z := okS h
      exact z
  · unfold Re_takesWord_l2 at h
    refine vIloadN F dX3_takesWord_2 (k := 2) rfl ?_
    refine vAloadN F dX3_takesWord_3 (k := 1) rfl ?_
    refine vCallVS F (d' := 1) (As := []) (st := [.int (s1.1)]) dX3_takesWord_4 lk_X3_44 my_J0_length_8abf5 mv_J0_length_8abf5 ha1 rfl (by decide) rfl rfl (Nat.le_of_ble_eq_true rfl) (JS_length_ok hG ha1 ?_)
    show mjV G X 3 7 [(0, .ref (gr G 67)), (1, .ref adr_a1), (2, .int (s1.1))] [.int (JS_length a1), .int (s1.1)] (s1.2) P
    refine vIcmpGe F (tgt := 30) dX3_takesWord_7 (by decide) (fun c6 => ?_) (fun c6 => ?_)
    · replace h := okT h c6
      refine vSub [] rfl ?_
      have z := okR h
      exact z
    · replace h := okF h c6
      refine vAloadN F dX3_takesWord_10 (k := 0) rfl ?_
      refine vAloadN F dX3_takesWord_11 (k := 1) rfl ?_
      refine vIloadN F dX3_takesWord_12 (k := 2) rfl ?_
      refine vCallVS F (d' := 3) (As := [.int (s1.1)]) (st := [.ref (gr G 67)]) dX3_takesWord_13 lk_X3_49 my_J0_charAt_5068e mv_J0_charAt_5068e ha1 rfl (by decide) rfl rfl (Nat.le_of_ble_eq_true rfl) (JS_charAt_ok hG ha1 (okB h fun r3 h => ?_))
      show mjV G X 3 16 [(0, .ref (gr G 67)), (1, .ref adr_a1), (2, .int (s1.1))] [.int r3, .ref (gr G 67)] (s1.2) P
      refine vCallV F (d' := 1) (x := 67) (T := TX3) (N := 4) (As := [.int r3]) (st := []) dX3_takesWord_16 lk_X3_32 my_X3_takes mv_X3_takes (cqC_67 hs) rfl (by decide) rfl rfl (Nat.le_of_ble_eq_true rfl) (Re_takes_ok hG hs (okB h fun r4 h => ?_))
      show mjV G X 3 19 [(0, .ref (gr G 67)), (1, .ref adr_a1), (2, .int (s1.1))] [.int (bI (r4.1))] (r4.2) P
      refine vIfNeB F (tgt := 24) dX3_takesWord_19 (by decide) (fun c5 => ?_) (fun c5 => ?_)
      · replace h := okT h c5
        refine vIinc F (v := 1) (k := 2) (L' := [(2, .int ((s1.1) + 1)), (0, .ref (gr G 67)), (1, .ref adr_a1)]) dX3_takesWord_24 rfl k_1 (by decide) rfl ?_
        refine vGoto F (tgt := 2) dX3_takesWord_27 (by decide) ?_
        refine vSub [1, 2, 0] rfl ?_
        have z := okL h
        exact z
      · replace h := okF h c5
        refine vIconst F (v := 0) dX3_takesWord_22 k_0 ?_
        have z := okR h
        exact vZret (x := bI false) F dX3_takesWord_23 (nzI _) z
def Re_takeNumber_l4  (s1 : Int32 × Int32 × Mm) : Option ((Int32 × Int32 × Mm) ⊕ (Int32 × Mm)) :=
  if 2 ≤ (s1.2.1) then
 (some (.inr (s1.1, s1.2.2)))
 else ((Re_ahead (s1.2.2)).bind fun r3 =>
  if r3 < 48 then
 (some (.inr (s1.1, s1.2.2)))
 else ((Re_ahead (s1.2.2)).bind fun r4 =>
  if 57 < r4 then
 (some (.inr (s1.1, s1.2.2)))
 else ((Re_ahead (s1.2.2)).bind fun r5 =>
  some (.inl ((((imax (s1.1) 0) * 10) + r5) - 48, (s1.2.1) + 1, si (s1.2.2) 67 2 (((s1.2.2).1 67 2) + 1))))))
noncomputable def Re_takeNumber (m : Mm) : Option (Int32 × Mm) :=
  (iter (Re_takeNumber_l4) ((-1), 0, m)).bind fun e2 =>
  some (e2.1, e2.2)
set_option maxRecDepth 20000 in
set_option maxHeartbeats 4000000 in
theorem Re_takeNumber_ok {G : Gw} (hG : gOk G) (hs : gsh G = shC) {m : Mm} {P : Option Value → Mm → Prop} (h : mjO (Re_takeNumber m) (fun r => P (some (.int r.1)) r.2)) : mjR G 1 yX3_takeNumber cX3_takeNumber 3 (some .int) [.ref (gr G 67)] m P := by
  refine mjR_of hG (by decide) (Nat.le_of_ble_eq_true rfl) ?_
  intro X F
  have F : mjF G X cX3_takeNumber RX3 3 1 (some .int) := F
  show mjV G X 3 0 [(0, .ref (gr G 67))] [] m P
  unfold Re_takeNumber at h
  refine vIconst F (v := (-1)) dX3_takeNumber_0 k_m1 ?_
  refine vIstoreN F (L' := [(1, .int (-1)), (0, .ref (gr G 67))]) dX3_takeNumber_1 rfl (by decide) rfl ?_
  refine vIconst F (v := 0) dX3_takeNumber_2 k_0 ?_
  refine vIstoreN F (L' := [(2, .int 0), (1, .int (-1)), (0, .ref (gr G 67))]) dX3_takeNumber_3 rfl (by decide) rfl ?_
  refine vSub [2, 1, 0] rfl ?_
  refine okLoop (s0 := ((-1), 0, m)) (T := (fun (s1 : Int32 × Int32 × Mm) => mjV G X 3 4 [(0, .ref (gr G 67)), (1, .int (s1.1)), (2, .int (s1.2.1))] [] (s1.2.2) P)) (Ve := (fun (e2 : Int32 × Mm) => mjV G X 3 60 [(1, .int (e2.1))] [] (e2.2) P)) h ?_ (fun s1 h => ?_)
  · intro e2 h
    refine vIloadN F dX3_takeNumber_60 (k := 0) rfl ?_
    have z := okS h
    exact vIret F dX3_takeNumber_61 z
  · unfold Re_takeNumber_l4 at h
    refine vIloadN F dX3_takeNumber_4 (k := 2) rfl ?_
    refine vIconst F (v := 2) dX3_takeNumber_5 k_2 ?_
    refine vIcmpGe F (tgt := 60) dX3_takeNumber_6 (by decide) (fun c8 => ?_) (fun c8 => ?_)
    · replace h := okT h c8
      refine vSub [1] rfl ?_
      have z := okR h
      exact z
    · replace h := okF h c8
      refine vAloadN F dX3_takeNumber_9 (k := 0) rfl ?_
      refine vCallV F (d' := 0) (x := 67) (T := TX3) (N := 4) (As := []) (st := []) dX3_takeNumber_10 lk_X3_40 my_X3_ahead mv_X3_ahead (cqC_67 hs) rfl (by decide) rfl rfl (Nat.le_of_ble_eq_true rfl) (Re_ahead_ok hG hs (okB h fun r3 h => ?_))
      show mjV G X 3 13 [(0, .ref (gr G 67)), (1, .int (s1.1)), (2, .int (s1.2.1))] [.int r3] (s1.2.2) P
      refine vBipush F (v := 48) dX3_takeNumber_13 kb_48 ?_
      refine vIcmpLt F (tgt := 60) dX3_takeNumber_15 (by decide) (fun c7 => ?_) (fun c7 => ?_)
      · replace h := okT h c7
        refine vSub [1] rfl ?_
        have z := okR h
        exact z
      · replace h := okF h c7
        refine vAloadN F dX3_takeNumber_18 (k := 0) rfl ?_
        refine vCallV F (d' := 0) (x := 67) (T := TX3) (N := 4) (As := []) (st := []) dX3_takeNumber_19 lk_X3_40 my_X3_ahead mv_X3_ahead (cqC_67 hs) rfl (by decide) rfl rfl (Nat.le_of_ble_eq_true rfl) (Re_ahead_ok hG hs (okB h fun r4 h => ?_))
        show mjV G X 3 22 [(0, .ref (gr G 67)), (1, .int (s1.1)), (2, .int (s1.2.1))] [.int r4] (s1.2.2) P
        refine vBipush F (v := 57) dX3_takeNumber_22 kb_57 ?_
        refine vIcmpGt F (tgt := 60) dX3_takeNumber_24 (by decide) (fun c6 => ?_) (fun c6 => ?_)
        · replace h := okT h c6
          refine vSub [1] rfl ?_
          have z := okR h
          exact z
        · replace h := okF h c6
          refine vIloadN F dX3_takeNumber_27 (k := 1) rfl ?_
          refine vIconst F (v := 0) dX3_takeNumber_28 k_0 ?_
          refine vMax F dX3_takeNumber_29 km_X3_80 (Nat.le_of_ble_eq_true rfl) ?_
          refine vBipush F (v := 10) dX3_takeNumber_32 kb_10 ?_
          refine vImul F dX3_takeNumber_34 ?_
          refine vAloadN F dX3_takeNumber_35 (k := 0) rfl ?_
          refine vCallV F (d' := 0) (x := 67) (T := TX3) (N := 4) (As := []) (st := [.int ((imax (s1.1) 0) * 10)]) dX3_takeNumber_36 lk_X3_40 my_X3_ahead mv_X3_ahead (cqC_67 hs) rfl (by decide) rfl rfl (Nat.le_of_ble_eq_true rfl) (Re_ahead_ok hG hs (okB h fun r5 h => ?_))
          show mjV G X 3 39 [(0, .ref (gr G 67)), (1, .int (s1.1)), (2, .int (s1.2.1))] [.int r5, .int ((imax (s1.1) 0) * 10)] (s1.2.2) P
          refine vIadd F dX3_takeNumber_39 ?_
          refine vBipush F (v := 48) dX3_takeNumber_40 kb_48 ?_
          refine vIsub F dX3_takeNumber_42 ?_
          refine vIstoreN F (L' := [(1, .int ((((imax (s1.1) 0) * 10) + r5) - 48)), (0, .ref (gr G 67)), (2, .int (s1.2.1))]) dX3_takeNumber_43 rfl (by decide) rfl ?_
          refine vAloadN F dX3_takeNumber_44 (k := 1) rfl ?_
          refine vDup F dX3_takeNumber_45 rfl ?_
          refine vGetI F dX3_takeNumber_46 fa_X3_26 (cqC_67 hs) rfl ?_
          refine vIconst F (v := 1) dX3_takeNumber_49 k_1 ?_
          refine vIadd F dX3_takeNumber_50 ?_
          refine vPutI F dX3_takeNumber_51 fw_X3_26 (cqC_67 hs) rfl ⟨rfl, rfl⟩ ?_
          refine vIinc F (v := 1) (k := 2) (L' := [(2, .int ((s1.2.1) + 1)), (1, .int ((((imax (s1.1) 0) * 10) + r5) - 48)), (0, .ref (gr G 67))]) dX3_takeNumber_54 rfl k_1 (by decide) rfl ?_
          refine vGoto F (tgt := 4) dX3_takeNumber_57 (by decide) ?_
          refine vSub [2, 1, 0] rfl ?_
          have z := okL h
          exact z
noncomputable def Re_readsTest (m : Mm) : Option (Bool × Mm) :=
  (Re_ahead m).bind fun r2 =>
  (JS_indexOf str_96 r2).bind fun r3 =>
  if 0 ≤ r3 then
 ((Re_ahead (si m 67 2 ((m.1 67 2) + 1))).bind fun r5 =>
  (JS_indexOf str_98 r5).bind fun r6 =>
  if 0 ≤ r6 then
 ((Re_takeNumber (si (si m 67 2 ((m.1 67 2) + 1)) 67 2 (((si m 67 2 ((m.1 67 2) + 1)).1 67 2) + 1))).bind fun r7 =>
  if 0 ≤ (r7.1) then
 (gq (isL ((r7.2).2.2 67 3)) ((La_addTest ((r7.2).2.2 67 3) (r7.2) r3 r6 (r7.1)).bind fun r9 =>
  some (true, r9)))
 else (some (false, r7.2)))
 else (some (false, si m 67 2 ((m.1 67 2) + 1))))
 else (some (false, m))
set_option maxRecDepth 20000 in
set_option maxHeartbeats 4000000 in
theorem Re_readsTest_ok {G : Gw} (hG : gOk G) (hs : gsh G = shC) {m : Mm} {P : Option Value → Mm → Prop} (h : mjO (Re_readsTest m) (fun r => P (some (.int (bI r.1))) r.2)) : mjR G 4 yX3_readsTest cX3_readsTest 4 (some .boolean) [.ref (gr G 67)] m P := by
  refine mjR_of hG (by decide) (Nat.le_of_ble_eq_true rfl) ?_
  intro X F
  have F : mjF G X cX3_readsTest RX3 4 4 (some .boolean) := F
  show mjV G X 4 0 [(0, .ref (gr G 67))] [] m P
  unfold Re_readsTest at h
  refine vLdcS_96 F dX3_readsTest_0 (fun a1 ha1 => ?_)
  refine vAloadN F dX3_readsTest_2 (k := 0) rfl ?_
  refine vCallV F (d' := 0) (x := 67) (T := TX3) (N := 4) (As := []) (st := [.ref a1]) dX3_readsTest_3 lk_X3_40 my_X3_ahead mv_X3_ahead (cqC_67 hs) rfl (by decide) rfl rfl (Nat.le_of_ble_eq_true rfl) (Re_ahead_ok hG hs (okB h fun r2 h => ?_))
  show mjV G X 4 6 [(0, .ref (gr G 67))] [.int r2, .ref a1] m P
  refine vCallVS F (d' := 3) (As := [.int r2]) (st := []) dX3_readsTest_6 lk_X3_55 my_J0_indexOf_0f7a4 mv_J0_indexOf_0f7a4 ha1 rfl (by decide) rfl rfl (Nat.le_of_ble_eq_true rfl) (JS_indexOf_ok hG ha1 (okB h fun r3 h => ?_))
  show mjV G X 4 9 [(0, .ref (gr G 67))] [.int r3] m P
  refine vIstoreN F (L' := [(1, .int r3), (0, .ref (gr G 67))]) dX3_readsTest_9 rfl (by decide) rfl ?_
  refine vIloadN F dX3_readsTest_10 (k := 0) rfl ?_
  refine vIfGe F (tgt := 16) dX3_readsTest_11 (by decide) (fun c12 => ?_) (fun c12 => ?_)
  · replace h := okT h c12
    refine vAloadN F dX3_readsTest_16 (k := 1) rfl ?_
    refine vDup F dX3_readsTest_17 rfl ?_
    refine vGetI F dX3_readsTest_18 fa_X3_26 (cqC_67 hs) rfl ?_
    refine vIconst F (v := 1) dX3_readsTest_21 k_1 ?_
    refine vIadd F dX3_readsTest_22 ?_
    refine vPutI F dX3_readsTest_23 fw_X3_26 (cqC_67 hs) rfl ⟨rfl, rfl⟩ ?_
    refine vLdcS_98 F dX3_readsTest_26 (fun a4 ha4 => ?_)
    refine vAloadN F dX3_readsTest_28 (k := 1) rfl ?_
    refine vCallV F (d' := 0) (x := 67) (T := TX3) (N := 4) (As := []) (st := [.ref a4]) dX3_readsTest_29 lk_X3_40 my_X3_ahead mv_X3_ahead (cqC_67 hs) rfl (by decide) rfl rfl (Nat.le_of_ble_eq_true rfl) (Re_ahead_ok hG hs (okB h fun r5 h => ?_))
    show mjV G X 4 32 [(1, .int r3), (0, .ref (gr G 67))] [.int r5, .ref a4] (si m 67 2 ((m.1 67 2) + 1)) P
    refine vCallVS F (d' := 3) (As := [.int r5]) (st := []) dX3_readsTest_32 lk_X3_55 my_J0_indexOf_0f7a4 mv_J0_indexOf_0f7a4 ha4 rfl (by decide) rfl rfl (Nat.le_of_ble_eq_true rfl) (JS_indexOf_ok hG ha4 (okB h fun r6 h => ?_))
    show mjV G X 4 35 [(1, .int r3), (0, .ref (gr G 67))] [.int r6] (si m 67 2 ((m.1 67 2) + 1)) P
    refine vIstoreN F (L' := [(2, .int r6), (1, .int r3), (0, .ref (gr G 67))]) dX3_readsTest_35 rfl (by decide) rfl ?_
    refine vIloadN F dX3_readsTest_36 (k := 0) rfl ?_
    refine vIfGe F (tgt := 42) dX3_readsTest_37 (by decide) (fun c11 => ?_) (fun c11 => ?_)
    · replace h := okT h c11
      refine vAloadN F dX3_readsTest_42 (k := 2) rfl ?_
      refine vDup F dX3_readsTest_43 rfl ?_
      refine vGetI F dX3_readsTest_44 fa_X3_26 (cqC_67 hs) rfl ?_
      refine vIconst F (v := 1) dX3_readsTest_47 k_1 ?_
      refine vIadd F dX3_readsTest_48 ?_
      refine vPutI F dX3_readsTest_49 fw_X3_26 (cqC_67 hs) rfl ⟨rfl, rfl⟩ ?_
      refine vAloadN F dX3_readsTest_52 (k := 2) rfl ?_
      refine vCallV F (d' := 1) (x := 67) (T := TX3) (N := 4) (As := []) (st := []) dX3_readsTest_53 lk_X3_69 my_X3_takeNumber mv_X3_takeNumber (cqC_67 hs) rfl (by decide) rfl rfl (Nat.le_of_ble_eq_true rfl) (Re_takeNumber_ok hG hs (okB h fun r7 h => ?_))
      show mjV G X 4 56 [(2, .int r6), (1, .int r3), (0, .ref (gr G 67))] [.int (r7.1)] (r7.2) P
      refine vIstoreN F (L' := [(3, .int (r7.1)), (2, .int r6), (1, .int r3), (0, .ref (gr G 67))]) dX3_readsTest_56 rfl (by decide) rfl ?_
      refine vIloadN F dX3_readsTest_57 (k := 0) rfl ?_
      refine vIfGe F (tgt := 63) dX3_readsTest_58 (by decide) (fun c10 => ?_) (fun c10 => ?_)
      · replace h := okT h c10
        refine vAloadN F dX3_readsTest_63 (k := 3) rfl ?_
        obtain ⟨g8, h⟩ := okgq h
        refine vGetM F dX3_readsTest_64 fa_X3_18 (cqC_67 hs) rfl ?_
        refine vIloadN F dX3_readsTest_67 (k := 2) rfl ?_
        refine vIloadN F dX3_readsTest_68 (k := 1) rfl ?_
        refine vIloadN F dX3_readsTest_69 (k := 0) rfl ?_
        refine vCallV F (d' := 1) (x := (r7.2).2.2 67 3) (T := TX2) (N := 7) (As := [.int r3, .int r6, .int (r7.1)]) (st := []) dX3_readsTest_70 lk_X3_100 my_X2_addTest mv_X2_addTest (isL_ok hs g8).1 rfl (by decide) rfl rfl (Nat.le_of_ble_eq_true rfl) (La_addTest_ok hG hs (isL_ok hs g8) (okB h fun r9 h => ?_))
        show mjV G X 4 73 [(3, .int (r7.1)), (2, .int r6), (1, .int r3), (0, .ref (gr G 67))] [] r9 P
        refine vIconst F (v := 1) dX3_readsTest_73 k_1 ?_
        have z := okS h
        exact vZret (x := bI true) F dX3_readsTest_74 (nzI _) z
      · replace h := okF h c10
        refine vIconst F (v := 0) dX3_readsTest_61 k_0 ?_
        have z := okS h
        exact vZret (x := bI false) F dX3_readsTest_62 (nzI _) z
    · replace h := okF h c11
      refine vIconst F (v := 0) dX3_readsTest_40 k_0 ?_
      have z := okS h
      exact vZret (x := bI false) F dX3_readsTest_41 (nzI _) z
  · replace h := okF h c12
    refine vIconst F (v := 0) dX3_readsTest_14 k_0 ?_
    have z := okS h
    exact vZret (x := bI false) F dX3_readsTest_15 (nzI _) z
noncomputable def Re_readsPart_b (rc_readsEither : Mm → Int32 → Option (Bool × Mm)) (rc_readsPart : Mm → Int32 → Option (Bool × Mm)) (m : Mm) (a1 : Int32) : Option (Bool × Mm) :=
  (Re_ahead m).bind fun r1 =>
  jn (fun (e2 : Unit) => if a1 < 4 then
 (if r1 = 40 then
 ((rc_readsEither (si m 67 2 ((m.1 67 2) + 1)) (a1 + 1)).bind fun r8 =>
  if (r8.1) = true then
 ((Re_takes (r8.2) 41).bind fun r9 =>
  if (r9.1) = true then
 (some (true, r9.2))
 else (some (false, r9.2)))
 else (some (false, r8.2)))
 else ((rc_readsPart (si m 67 2 ((m.1 67 2) + 1)) (a1 + 1)).bind fun r4 =>
  if (r4.1) = true then
 (gq (isL ((r4.2).2.2 67 3)) ((La_addCode ((r4.2).2.2 67 3) (r4.2) (-1)).bind fun r6 =>
  some (true, r6)))
 else (some (false, r4.2))))
 else (some (false, m))) fun j3 =>
  if r1 = 33 then
 (j3 ())
 else (if r1 = 40 then
 (j3 ())
 else ((Re_readsTest m).bind fun r14 =>
  some (r14.1, r14.2)))
set_option maxRecDepth 20000 in
set_option maxHeartbeats 4000000 in
theorem Re_readsPart_b_ok {G : Gw} (hG : gOk G) (hs : gsh G = shC) {D d : Nat} (hD : D + 1 ≤ d) (hB : 5 ≤ d) {rc_readsEither : Mm → Int32 → Option (Bool × Mm)} {rc_readsPart : Mm → Int32 → Option (Bool × Mm)} (hrc_readsEither : ∀ {a1 : Int32} {m : Mm} {P : Option Value → Mm → Prop} (h : mjO (rc_readsEither m a1) (fun r => P (some (.int (bI r.1))) r.2)), mjR G D yX3_readsEither cX3_readsEither 5 (some .boolean) [.ref (gr G 67), .int a1] m P) (hrc_readsPart : ∀ {a1 : Int32} {m : Mm} {P : Option Value → Mm → Prop} (h : mjO (rc_readsPart m a1) (fun r => P (some (.int (bI r.1))) r.2)), mjR G D yX3_readsPart cX3_readsPart 3 (some .boolean) [.ref (gr G 67), .int a1] m P) {a1 : Int32} {m : Mm} {P : Option Value → Mm → Prop} (h : mjO (Re_readsPart_b rc_readsEither rc_readsPart m a1) (fun r => P (some (.int (bI r.1))) r.2)) : mjR G d yX3_readsPart cX3_readsPart 3 (some .boolean) [.ref (gr G 67), .int a1] m P := by
  refine mjR_of hG (by decide) (Nat.le_of_ble_eq_true rfl) ?_
  intro X F
  have F : mjF G X cX3_readsPart RX3 3 d (some .boolean) := F
  show mjV G X 3 0 [(0, .ref (gr G 67)), (1, .int a1)] [] m P
  unfold Re_readsPart_b at h
  refine vAloadN F dX3_readsPart_0 (k := 0) rfl ?_
  refine vCallV F (d' := 0) (x := 67) (T := TX3) (N := 4) (As := []) (st := []) dX3_readsPart_1 lk_X3_40 my_X3_ahead mv_X3_ahead (cqC_67 hs) rfl (by omega) rfl rfl (Nat.le_of_ble_eq_true rfl) (Re_ahead_ok hG hs (okB h fun r1 h => ?_))
  show mjV G X 3 4 [(0, .ref (gr G 67)), (1, .int a1)] [.int r1] m P
  refine vIstoreN F (L' := [(2, .int r1), (0, .ref (gr G 67)), (1, .int a1)]) dX3_readsPart_4 rfl (by decide) rfl ?_
  refine vIloadN F dX3_readsPart_5 (k := 0) rfl ?_
  refine vBipush F (v := 33) dX3_readsPart_6 kb_33 ?_
  refine okJ (Vj := fun (e2 : Unit) => mjV G X 3 22 [(0, .ref (gr G 67)), (1, .int a1), (2, .int r1)] [] m P) h (fun e2 h => ?_) (fun j3 Jj3 h => ?_)
  · refine vIloadN F dX3_readsPart_22 (k := 1) rfl ?_
    refine vIconst F (v := 4) dX3_readsPart_23 k_4 ?_
    refine vIcmpLt F (tgt := 29) dX3_readsPart_24 (by decide) (fun c13 => ?_) (fun c13 => ?_)
    · replace h := okT h c13
      refine vAloadN F dX3_readsPart_29 (k := 0) rfl ?_
      refine vDup F dX3_readsPart_30 rfl ?_
      refine vGetI F dX3_readsPart_31 fa_X3_26 (cqC_67 hs) rfl ?_
      refine vIconst F (v := 1) dX3_readsPart_34 k_1 ?_
      refine vIadd F dX3_readsPart_35 ?_
      refine vPutI F dX3_readsPart_36 fw_X3_26 (cqC_67 hs) rfl ⟨rfl, rfl⟩ ?_
      refine vIloadN F dX3_readsPart_39 (k := 2) rfl ?_
      refine vBipush F (v := 40) dX3_readsPart_40 kb_40 ?_
      refine vIcmpNe F (tgt := 70) dX3_readsPart_42 (by decide) (fun c12 => ?_) (fun c12 => ?_)
      · replace h := okF h c12
        refine vAloadN F dX3_readsPart_70 (k := 0) rfl ?_
        refine vIloadN F dX3_readsPart_71 (k := 1) rfl ?_
        refine vIconst F (v := 1) dX3_readsPart_72 k_1 ?_
        refine vIadd F dX3_readsPart_73 ?_
        refine vCallV F (d' := D) (x := 67) (T := TX3) (N := 4) (As := [.int (a1 + 1)]) (st := []) dX3_readsPart_74 lk_X3_86 my_X3_readsPart mv_X3_readsPart (cqC_67 hs) rfl hD rfl rfl (Nat.le_of_ble_eq_true rfl) (hrc_readsPart (okB h fun r4 h => ?_))
        show mjV G X 3 77 [(0, .ref (gr G 67)), (1, .int a1), (2, .int r1)] [.int (bI (r4.1))] (r4.2) P
        refine vIfNeB F (tgt := 82) dX3_readsPart_77 (by decide) (fun c7 => ?_) (fun c7 => ?_)
        · replace h := okT h c7
          refine vAloadN F dX3_readsPart_82 (k := 0) rfl ?_
          obtain ⟨g5, h⟩ := okgq h
          refine vGetM F dX3_readsPart_83 fa_X3_18 (cqC_67 hs) rfl ?_
          refine vIconst F (v := (-1)) dX3_readsPart_86 k_m1 ?_
          refine vCallV F (d' := 0) (x := (r4.2).2.2 67 3) (T := TX2) (N := 7) (As := [.int (-1)]) (st := []) dX3_readsPart_87 lk_X3_89 my_X2_addCode mv_X2_addCode (isL_ok hs g5).1 rfl (by omega) rfl rfl (Nat.le_of_ble_eq_true rfl) (La_addCode_ok hG hs (isL_ok hs g5) (okB h fun r6 h => ?_))
          show mjV G X 3 90 [(0, .ref (gr G 67)), (1, .int a1), (2, .int r1)] [] r6 P
          refine vIconst F (v := 1) dX3_readsPart_90 k_1 ?_
          have z := okS h
          exact vZret (x := bI true) F dX3_readsPart_91 (nzI _) z
        · replace h := okF h c7
          refine vIconst F (v := 0) dX3_readsPart_80 k_0 ?_
          have z := okS h
          exact vZret (x := bI false) F dX3_readsPart_81 (nzI _) z
      · replace h := okT h c12
        refine vAloadN F dX3_readsPart_45 (k := 0) rfl ?_
        refine vIloadN F dX3_readsPart_46 (k := 1) rfl ?_
        refine vIconst F (v := 1) dX3_readsPart_47 k_1 ?_
        refine vIadd F dX3_readsPart_48 ?_
        refine vCallV F (d' := D) (x := 67) (T := TX3) (N := 4) (As := [.int (a1 + 1)]) (st := []) dX3_readsPart_49 lk_X3_72 my_X3_readsEither mv_X3_readsEither (cqC_67 hs) rfl hD rfl rfl (Nat.le_of_ble_eq_true rfl) (hrc_readsEither (okB h fun r8 h => ?_))
        show mjV G X 3 52 [(0, .ref (gr G 67)), (1, .int a1), (2, .int r1)] [.int (bI (r8.1))] (r8.2) P
        refine vIfEqB F (tgt := 68) dX3_readsPart_52 (by decide) (fun c11 => ?_) (fun c11 => ?_)
        · replace h := okF h c11
          refine vIconst F (v := 0) dX3_readsPart_68 k_0 ?_
          have z := okS h
          exact vZret (x := bI false) F dX3_readsPart_69 (nzI _) z
        · replace h := okT h c11
          refine vAloadN F dX3_readsPart_55 (k := 0) rfl ?_
          refine vBipush F (v := 41) dX3_readsPart_56 kb_41 ?_
          refine vCallV F (d' := 1) (x := 67) (T := TX3) (N := 4) (As := [.int 41]) (st := []) dX3_readsPart_58 lk_X3_32 my_X3_takes mv_X3_takes (cqC_67 hs) rfl (by omega) rfl rfl (Nat.le_of_ble_eq_true rfl) (Re_takes_ok hG hs (okB h fun r9 h => ?_))
          show mjV G X 3 61 [(0, .ref (gr G 67)), (1, .int a1), (2, .int r1)] [.int (bI (r9.1))] (r9.2) P
          refine vIfEqB F (tgt := 68) dX3_readsPart_61 (by decide) (fun c10 => ?_) (fun c10 => ?_)
          · replace h := okF h c10
            refine vIconst F (v := 0) dX3_readsPart_68 k_0 ?_
            have z := okS h
            exact vZret (x := bI false) F dX3_readsPart_69 (nzI _) z
          · replace h := okT h c10
            refine vIconst F (v := 1) dX3_readsPart_64 k_1 ?_
            refine vGoto F (tgt := 69) dX3_readsPart_65 (by decide) ?_
            have z := okS h
            exact vZret (x := bI true) F dX3_readsPart_69 (nzI _) z
    · replace h := okF h c13
      refine vIconst F (v := 0) dX3_readsPart_27 k_0 ?_
      have z := okS h
      exact vZret (x := bI false) F dX3_readsPart_28 (nzI _) z
  · refine vIcmpEq F (tgt := 22) dX3_readsPart_8 (by decide) (fun c16 => ?_) (fun c16 => ?_)
    · replace h := okT h c16
      refine vSub [1, 2, 0] rfl ?_
      exact Jj3 () h
    · replace h := okF h c16
      refine vIloadN F dX3_readsPart_11 (k := 0) rfl ?_
      refine vBipush F (v := 40) dX3_readsPart_12 kb_40 ?_
      refine vIcmpEq F (tgt := 22) dX3_readsPart_14 (by decide) (fun c15 => ?_) (fun c15 => ?_)
      · replace h := okT h c15
        refine vSub [1, 2, 0] rfl ?_
        exact Jj3 () h
      · replace h := okF h c15
        refine vAloadN F dX3_readsPart_17 (k := 1) rfl ?_
        refine vCallV F (d' := 4) (x := 67) (T := TX3) (N := 4) (As := []) (st := []) dX3_readsPart_18 lk_X3_93 my_X3_readsTest mv_X3_readsTest (cqC_67 hs) rfl (by omega) rfl rfl (Nat.le_of_ble_eq_true rfl) (Re_readsTest_ok hG hs (okB h fun r14 h => ?_))
        show mjV G X 3 21 [(2, .int r1), (0, .ref (gr G 67)), (1, .int a1)] [.int (bI (r14.1))] (r14.2) P
        have z := okS h
        exact vZret (x := bI (r14.1)) F dX3_readsPart_21 (nzI _) z
def Re_readsEither_l7 (rc : Mm → Int32 → Option (Bool × Mm)) (a1 : Int32) (s1 : Int32 × Int32 × Int32 × Mm) : Option ((Int32 × Int32 × Int32 × Mm) ⊕ (Mm ⊕ (Bool × Mm))) :=
  if 100 ≤ (s1.2.2.1) then
 (some (.inr (.inl (s1.2.2.2))))
 else ((rc (s1.2.2.2) a1).bind fun r3 =>
  if (r3.1) = true then
 (jn (fun (e4 : Mm) => (Re_takes e4 38).bind fun r6 =>
  if (r6.1) = true then
 (some (.inl (bI (r6.1), s1.2.1, (s1.2.2.1) + 1, r6.2)))
 else (jn (fun (e7 : Mm) => (Re_takes e7 124).bind fun r9 =>
  if (r9.1) = true then
 (some (.inl (bI (r6.1), bI (r9.1), (s1.2.2.1) + 1, r9.2)))
 else (some (.inr (.inr (true, r9.2))))) fun j8 =>
  if (s1.2.1) = 0 then
 (j8 (r6.2))
 else (gq (isL ((r6.2).2.2 67 3)) ((La_addCode ((r6.2).2.2 67 3) (r6.2) (-3)).bind fun r12 =>
  j8 (r12))))) fun j5 =>
  if (s1.1) = 0 then
 (j5 (r3.2))
 else (gq (isL ((r3.2).2.2 67 3)) ((La_addCode ((r3.2).2.2 67 3) (r3.2) (-2)).bind fun r16 =>
  j5 (r16))))
 else (some (.inr (.inr (false, r3.2)))))
noncomputable def Re_readsEither_b (rc : Mm → Int32 → Option (Bool × Mm)) (m : Mm) (a1 : Int32) : Option (Bool × Mm) :=
  (iter (Re_readsEither_l7 rc a1) (0, 0, 0, m)).bind (Sum.elim (fun e2 => some (false, e2)) (fun v20 => some v20))
set_option maxRecDepth 20000 in
set_option maxHeartbeats 4000000 in
theorem Re_readsEither_b_ok {G : Gw} (hG : gOk G) (hs : gsh G = shC) {D d : Nat} (hD : D + 1 ≤ d) (hB : 5 ≤ d) {rc : Mm → Int32 → Option (Bool × Mm)} (hrc : ∀ {a1 : Int32} {m : Mm} {P : Option Value → Mm → Prop} (h : mjO (rc m a1) (fun r => P (some (.int (bI r.1))) r.2)), mjR G D yX3_readsPart cX3_readsPart 3 (some .boolean) [.ref (gr G 67), .int a1] m P) {a1 : Int32} {m : Mm} {P : Option Value → Mm → Prop} (h : mjO (Re_readsEither_b rc m a1) (fun r => P (some (.int (bI r.1))) r.2)) : mjR G d yX3_readsEither cX3_readsEither 5 (some .boolean) [.ref (gr G 67), .int a1] m P := by
  refine mjR_of hG (by decide) (Nat.le_of_ble_eq_true rfl) ?_
  intro X F
  have F : mjF G X cX3_readsEither RX3 5 d (some .boolean) := F
  show mjV G X 5 0 [(0, .ref (gr G 67)), (1, .int a1)] [] m P
  unfold Re_readsEither_b at h
  refine vIconst F (v := 0) dX3_readsEither_0 k_0 ?_
  refine vIstoreN F (L' := [(2, .int 0), (0, .ref (gr G 67)), (1, .int a1)]) dX3_readsEither_1 rfl (by decide) rfl ?_
  refine vIconst F (v := 0) dX3_readsEither_2 k_0 ?_
  refine vIstoreN F (L' := [(3, .int 0), (2, .int 0), (0, .ref (gr G 67)), (1, .int a1)]) dX3_readsEither_3 rfl (by decide) rfl ?_
  refine vIconst F (v := 0) dX3_readsEither_4 k_0 ?_
  refine vIstore F (L' := [(4, .int 0), (3, .int 0), (2, .int 0), (0, .ref (gr G 67)), (1, .int a1)]) dX3_readsEither_5 (by decide) rfl ?_
  refine vSub [3, 4, 2, 1, 0] rfl ?_
  refine okLoop (s0 := (0, 0, 0, m)) (T := (fun (s1 : Int32 × Int32 × Int32 × Mm) => mjV G X 5 7 [(0, .ref (gr G 67)), (1, .int a1), (2, .int (s1.1)), (3, .int (s1.2.1)), (4, .int (s1.2.2.1))] [] (s1.2.2.2) P)) (Ve := (Sum.elim (fun (e2 : Mm) => mjV G X 5 80 [] [] e2 P) (fun (v20 : Bool × Mm) => P (some (.int (bI v20.1))) v20.2))) h ?_ (fun s1 h => ?_)
  · intro q h
    rcases q with e2 | v20
    · refine vIconst F (v := 0) dX3_readsEither_80 k_0 ?_
      have z := okS h
      exact vZret (x := bI false) F dX3_readsEither_81 (nzI _) z
    · have z := okS h
      exact z
  · unfold Re_readsEither_l7 at h
    refine vIload F dX3_readsEither_7 (k := 4) rfl ?_
    refine vBipush F (v := 100) dX3_readsEither_9 kb_100 ?_
    refine vIcmpGe F (tgt := 80) dX3_readsEither_11 (by decide) (fun c19 => ?_) (fun c19 => ?_)
    · replace h := okT h c19
      refine vSub [] rfl ?_
      have z := okR h
      exact z
    · replace h := okF h c19
      refine vAloadN F dX3_readsEither_14 (k := 0) rfl ?_
      refine vIloadN F dX3_readsEither_15 (k := 1) rfl ?_
      refine vCallV F (d' := D) (x := 67) (T := TX3) (N := 4) (As := [.int a1]) (st := []) dX3_readsEither_16 lk_X3_86 my_X3_readsPart mv_X3_readsPart (cqC_67 hs) rfl hD rfl rfl (Nat.le_of_ble_eq_true rfl) (hrc (okB h fun r3 h => ?_))
      show mjV G X 5 19 [(0, .ref (gr G 67)), (1, .int a1), (2, .int (s1.1)), (3, .int (s1.2.1)), (4, .int (s1.2.2.1))] [.int (bI (r3.1))] (r3.2) P
      refine vIfNeB F (tgt := 24) dX3_readsEither_19 (by decide) (fun c18 => ?_) (fun c18 => ?_)
      · replace h := okT h c18
        refine vIloadN F dX3_readsEither_24 (k := 2) rfl ?_
        refine okJ (Vj := fun (e4 : Mm) => mjV G X 5 37 [(0, .ref (gr G 67)), (1, .int a1), (3, .int (s1.2.1)), (4, .int (s1.2.2.1))] [] e4 P) h (fun e4 h => ?_) (fun j5 Jj5 h => ?_)
        · refine vAloadN F dX3_readsEither_37 (k := 0) rfl ?_
          refine vBipush F (v := 38) dX3_readsEither_38 kb_38 ?_
          refine vCallV F (d' := 1) (x := 67) (T := TX3) (N := 4) (As := [.int 38]) (st := []) dX3_readsEither_40 lk_X3_32 my_X3_takes mv_X3_takes (cqC_67 hs) rfl (by omega) rfl rfl (Nat.le_of_ble_eq_true rfl) (Re_takes_ok hG hs (okB h fun r6 h => ?_))
          show mjV G X 5 43 [(0, .ref (gr G 67)), (1, .int a1), (3, .int (s1.2.1)), (4, .int (s1.2.2.1))] [.int (bI (r6.1))] (r6.2) P
          refine vIstoreN F (L' := [(2, .int (bI (r6.1))), (0, .ref (gr G 67)), (1, .int a1), (3, .int (s1.2.1)), (4, .int (s1.2.2.1))]) dX3_readsEither_43 rfl (by decide) rfl ?_
          refine vIloadN F dX3_readsEither_44 (k := 0) rfl ?_
          refine vIfNeB F (tgt := 74) dX3_readsEither_45 (by decide) (fun c14 => ?_) (fun c14 => ?_)
          · replace h := okT h c14
            refine vIinc F (v := 1) (k := 4) (L' := [(4, .int ((s1.2.2.1) + 1)), (2, .int (bI (r6.1))), (0, .ref (gr G 67)), (1, .int a1), (3, .int (s1.2.1))]) dX3_readsEither_74 rfl k_1 (by decide) rfl ?_
            refine vGoto F (tgt := 7) dX3_readsEither_77 (by decide) ?_
            refine vSub [2, 3, 1, 4, 0] rfl ?_
            have z := okL h
            exact z
          · replace h := okF h c14
            refine vIloadN F dX3_readsEither_48 (k := 3) rfl ?_
            refine okJ (Vj := fun (e7 : Mm) => mjV G X 5 61 [(0, .ref (gr G 67)), (1, .int a1), (2, .int (bI (r6.1))), (4, .int (s1.2.2.1))] [] e7 P) h (fun e7 h => ?_) (fun j8 Jj8 h => ?_)
            · refine vAloadN F dX3_readsEither_61 (k := 0) rfl ?_
              refine vBipush F (v := 124) dX3_readsEither_62 kb_124 ?_
              refine vCallV F (d' := 1) (x := 67) (T := TX3) (N := 4) (As := [.int 124]) (st := []) dX3_readsEither_64 lk_X3_32 my_X3_takes mv_X3_takes (cqC_67 hs) rfl (by omega) rfl rfl (Nat.le_of_ble_eq_true rfl) (Re_takes_ok hG hs (okB h fun r9 h => ?_))
              show mjV G X 5 67 [(0, .ref (gr G 67)), (1, .int a1), (2, .int (bI (r6.1))), (4, .int (s1.2.2.1))] [.int (bI (r9.1))] (r9.2) P
              refine vIstoreN F (L' := [(3, .int (bI (r9.1))), (0, .ref (gr G 67)), (1, .int a1), (2, .int (bI (r6.1))), (4, .int (s1.2.2.1))]) dX3_readsEither_67 rfl (by decide) rfl ?_
              refine vIloadN F dX3_readsEither_68 (k := 0) rfl ?_
              refine vIfNeB F (tgt := 74) dX3_readsEither_69 (by decide) (fun c10 => ?_) (fun c10 => ?_)
              · replace h := okT h c10
                refine vIinc F (v := 1) (k := 4) (L' := [(4, .int ((s1.2.2.1) + 1)), (3, .int (bI (r9.1))), (0, .ref (gr G 67)), (1, .int a1), (2, .int (bI (r6.1)))]) dX3_readsEither_74 rfl k_1 (by decide) rfl ?_
                refine vGoto F (tgt := 7) dX3_readsEither_77 (by decide) ?_
                refine vSub [2, 3, 4, 1, 0] rfl ?_
                have z := okL h
                exact z
              · replace h := okF h c10
                refine vIconst F (v := 1) dX3_readsEither_72 k_1 ?_
                have z := okR h
                exact vZret (x := bI true) F dX3_readsEither_73 (nzI _) z
            · refine vIfEq F (tgt := 61) dX3_readsEither_49 (by decide) (fun c13 => ?_) (fun c13 => ?_)
              · replace h := okT h c13
                refine vSub [1, 2, 0, 4] rfl ?_
                exact Jj8 (r6.2) h
              · replace h := okF h c13
                refine vAloadN F dX3_readsEither_52 (k := 1) rfl ?_
                obtain ⟨g11, h⟩ := okgq h
                refine vGetM F dX3_readsEither_53 fa_X3_18 (cqC_67 hs) rfl ?_
                refine vBipush F (v := (-3)) dX3_readsEither_56 kb_m3 ?_
                refine vCallV F (d' := 0) (x := (r6.2).2.2 67 3) (T := TX2) (N := 7) (As := [.int (-3)]) (st := []) dX3_readsEither_58 lk_X3_89 my_X2_addCode mv_X2_addCode (isL_ok hs g11).1 rfl (by omega) rfl rfl (Nat.le_of_ble_eq_true rfl) (La_addCode_ok hG hs (isL_ok hs g11) (okB h fun r12 h => ?_))
                show mjV G X 5 61 [(2, .int (bI (r6.1))), (0, .ref (gr G 67)), (1, .int a1), (3, .int (s1.2.1)), (4, .int (s1.2.2.1))] [] r12 P
                refine vSub [1, 2, 0, 4] rfl ?_
                exact Jj8 (r12) h
        · refine vIfEq F (tgt := 37) dX3_readsEither_25 (by decide) (fun c17 => ?_) (fun c17 => ?_)
          · replace h := okT h c17
            refine vSub [0, 1, 3, 4] rfl ?_
            exact Jj5 (r3.2) h
          · replace h := okF h c17
            refine vAloadN F dX3_readsEither_28 (k := 0) rfl ?_
            obtain ⟨g15, h⟩ := okgq h
            refine vGetM F dX3_readsEither_29 fa_X3_18 (cqC_67 hs) rfl ?_
            refine vBipush F (v := (-2)) dX3_readsEither_32 kb_m2 ?_
            refine vCallV F (d' := 0) (x := (r3.2).2.2 67 3) (T := TX2) (N := 7) (As := [.int (-2)]) (st := []) dX3_readsEither_34 lk_X3_89 my_X2_addCode mv_X2_addCode (isL_ok hs g15).1 rfl (by omega) rfl rfl (Nat.le_of_ble_eq_true rfl) (La_addCode_ok hG hs (isL_ok hs g15) (okB h fun r16 h => ?_))
            show mjV G X 5 37 [(0, .ref (gr G 67)), (1, .int a1), (2, .int (s1.1)), (3, .int (s1.2.1)), (4, .int (s1.2.2.1))] [] r16 P
            refine vSub [0, 1, 3, 4] rfl ?_
            exact Jj5 (r16) h
      · replace h := okF h c18
        refine vIconst F (v := 0) dX3_readsEither_22 k_0 ?_
        have z := okR h
        exact vZret (x := bI false) F dX3_readsEither_23 (nzI _) z
noncomputable def Re_pair : Nat → (Mm → Int32 → Option (Bool × Mm)) × (Mm → Int32 → Option (Bool × Mm))
  | 0 => (fun _ _ => none, fun _ _ => none)
  | n + 1 => (Re_readsEither_b (Re_pair n).2, Re_readsPart_b (Re_pair n).1 (Re_pair n).2)
theorem Re_pair_ok {G : Gw} (hG : gOk G) (hs : gsh G = shC) : ∀ (n : Nat), (∀ {a1 : Int32} {m : Mm} {P : Option Value → Mm → Prop} (h : mjO ((Re_pair n).1 m a1) (fun r => P (some (.int (bI r.1))) r.2)), mjR G (5 + n) yX3_readsEither cX3_readsEither 5 (some .boolean) [.ref (gr G 67), .int a1] m P) ∧ (∀ {a1 : Int32} {m : Mm} {P : Option Value → Mm → Prop} (h : mjO ((Re_pair n).2 m a1) (fun r => P (some (.int (bI r.1))) r.2)), mjR G (5 + n) yX3_readsPart cX3_readsPart 3 (some .boolean) [.ref (gr G 67), .int a1] m P) := by
  intro n
  induction n with
  | zero => exact ⟨fun h => (by obtain ⟨_, e, _⟩ := h; cases e), fun h => (by obtain ⟨_, e, _⟩ := h; cases e)⟩
  | succ n ih => exact ⟨fun h => Re_readsEither_b_ok hG hs (D := 5 + n) (by omega) (by omega) ih.2 h, fun h => Re_readsPart_b_ok hG hs (D := 5 + n) (by omega) (by omega) ih.1 ih.2 h⟩
noncomputable def Re_readsEither (m : Mm) (a1 : Int32) : Option (Bool × Mm) := (Re_pair 16).1 m a1
theorem Re_readsEither_ok {G : Gw} (hG : gOk G) (hs : gsh G = shC) {a1 : Int32} {m : Mm} {P : Option Value → Mm → Prop} (h : mjO (Re_readsEither m a1) (fun r => P (some (.int (bI r.1))) r.2)) : mjR G 21 yX3_readsEither cX3_readsEither 5 (some .boolean) [.ref (gr G 67), .int a1] m P := (Re_pair_ok hG hs 16).1 h
noncomputable def Re_readsPart (m : Mm) (a1 : Int32) : Option (Bool × Mm) := (Re_pair 16).2 m a1
theorem Re_readsPart_ok {G : Gw} (hG : gOk G) (hs : gsh G = shC) {a1 : Int32} {m : Mm} {P : Option Value → Mm → Prop} (h : mjO (Re_readsPart m a1) (fun r => P (some (.int (bI r.1))) r.2)) : mjR G 21 yX3_readsPart cX3_readsPart 3 (some .boolean) [.ref (gr G 67), .int a1] m P := (Re_pair_ok hG hs 16).2 h
noncomputable def Re_readsClause (m : Mm) : Option (Bool × Mm) :=
  (Re_ahead m).bind fun r2 =>
  (JS_indexOf str_53 r2).bind fun r3 =>
  if r3 < 0 then
 (some (false, m))
 else (if r3 = 0 then
 ((Re_takesWord m str_59).bind fun r34 =>
  if (r34.1) = true then
 ((Re_takeNumber (r34.2)).bind fun r35 =>
  if 0 ≤ (r35.1) then
 (jn (fun (e36 : Mm) => gq (isL (e36.2.2 67 3)) ((La_addClause (e36.2.2 67 3) e36 r3 (r35.1)).bind fun r39 =>
  some (true, r39))) fun j37 =>
  if r3 = 2 then
 (j37 (r35.2))
 else ((Re_takes (r35.2) 32).bind fun r40 =>
  if (r40.1) = true then
 ((Re_readsEither (r40.2) 0).bind fun r41 =>
  if (r41.1) = true then
 (j37 (r41.2))
 else (some (false, r41.2)))
 else (some (false, r40.2))))
 else (some (false, r35.2)))
 else (some (false, r34.2)))
 else (if r3 = 1 then
 ((Re_takesWord m str_61).bind fun r19 =>
  if (r19.1) = true then
 ((Re_takeNumber (r19.2)).bind fun r20 =>
  if 0 ≤ (r20.1) then
 (jn (fun (e21 : Mm) => gq (isL (e21.2.2 67 3)) ((La_addClause (e21.2.2 67 3) e21 r3 (r20.1)).bind fun r24 =>
  some (true, r24))) fun j22 =>
  if r3 = 2 then
 (j22 (r20.2))
 else ((Re_takes (r20.2) 32).bind fun r25 =>
  if (r25.1) = true then
 ((Re_readsEither (r25.2) 0).bind fun r26 =>
  if (r26.1) = true then
 (j22 (r26.2))
 else (some (false, r26.2)))
 else (some (false, r25.2))))
 else (some (false, r20.2)))
 else (some (false, r19.2)))
 else ((Re_takesWord m str_63).bind fun r5 =>
  if (r5.1) = true then
 ((Re_takeNumber (r5.2)).bind fun r6 =>
  if 0 ≤ (r6.1) then
 (jn (fun (e7 : Mm) => gq (isL (e7.2.2 67 3)) ((La_addClause (e7.2.2 67 3) e7 r3 (r6.1)).bind fun r10 =>
  some (true, r10))) fun j8 =>
  if r3 = 2 then
 (j8 (r6.2))
 else ((Re_takes (r6.2) 32).bind fun r11 =>
  if (r11.1) = true then
 ((Re_readsEither (r11.2) 0).bind fun r12 =>
  if (r12.1) = true then
 (j8 (r12.2))
 else (some (false, r12.2)))
 else (some (false, r11.2))))
 else (some (false, r6.2)))
 else (some (false, r5.2)))))
set_option maxRecDepth 20000 in
set_option maxHeartbeats 4000000 in
theorem Re_readsClause_ok {G : Gw} (hG : gOk G) (hs : gsh G = shC) {m : Mm} {P : Option Value → Mm → Prop} (h : mjO (Re_readsClause m) (fun r => P (some (.int (bI r.1))) r.2)) : mjR G 22 yX3_readsClause cX3_readsClause 3 (some .boolean) [.ref (gr G 67)] m P := by
  refine mjR_of hG (by decide) (Nat.le_of_ble_eq_true rfl) ?_
  intro X F
  have F : mjF G X cX3_readsClause RX3 3 22 (some .boolean) := F
  show mjV G X 3 0 [(0, .ref (gr G 67))] [] m P
  unfold Re_readsClause at h
  refine vLdcS_53 F dX3_readsClause_0 (fun a1 ha1 => ?_)
  refine vAloadN F dX3_readsClause_2 (k := 0) rfl ?_
  refine vCallV F (d' := 0) (x := 67) (T := TX3) (N := 4) (As := []) (st := [.ref a1]) dX3_readsClause_3 lk_X3_40 my_X3_ahead mv_X3_ahead (cqC_67 hs) rfl (by decide) rfl rfl (Nat.le_of_ble_eq_true rfl) (Re_ahead_ok hG hs (okB h fun r2 h => ?_))
  show mjV G X 3 6 [(0, .ref (gr G 67))] [.int r2, .ref a1] m P
  refine vCallVS F (d' := 3) (As := [.int r2]) (st := []) dX3_readsClause_6 lk_X3_55 my_J0_indexOf_0f7a4 mv_J0_indexOf_0f7a4 ha1 rfl (by decide) rfl rfl (Nat.le_of_ble_eq_true rfl) (JS_indexOf_ok hG ha1 (okB h fun r3 h => ?_))
  show mjV G X 3 9 [(0, .ref (gr G 67))] [.int r3] m P
  refine vIstoreN F (L' := [(1, .int r3), (0, .ref (gr G 67))]) dX3_readsClause_9 rfl (by decide) rfl ?_
  refine vIloadN F dX3_readsClause_10 (k := 0) rfl ?_
  refine vIfLt F (tgt := 42) dX3_readsClause_11 (by decide) (fun c48 => ?_) (fun c48 => ?_)
  · replace h := okT h c48
    refine vIconst F (v := 0) dX3_readsClause_42 k_0 ?_
    have z := okS h
    exact vZret (x := bI false) F dX3_readsClause_43 (nzI _) z
  · replace h := okF h c48
    refine vAloadN F dX3_readsClause_14 (k := 1) rfl ?_
    refine vIloadN F dX3_readsClause_15 (k := 0) rfl ?_
    refine vIfNe F (tgt := 24) dX3_readsClause_16 (by decide) (fun c47 => ?_) (fun c47 => ?_)
    · replace h := okF h c47
      refine vIloadN F dX3_readsClause_24 (k := 0) rfl ?_
      refine vIconst F (v := 1) dX3_readsClause_25 k_1 ?_
      refine vIcmpNe F (tgt := 34) dX3_readsClause_26 (by decide) (fun c32 => ?_) (fun c32 => ?_)
      · replace h := okF h c32
        refine vLdcS_63 F dX3_readsClause_34 (fun a4 ha4 => ?_)
        refine vCallV F (d' := 4) (x := 67) (T := TX3) (N := 4) (As := [.ref a4]) (st := []) dX3_readsClause_36 lk_X3_65 my_X3_takesWord mv_X3_takesWord (cqC_67 hs) rfl (by decide) rfl rfl (Nat.le_of_ble_eq_true rfl) (Re_takesWord_ok hG hs ha4 (okB h fun r5 h => ?_))
        show mjV G X 3 39 [(1, .int r3), (0, .ref (gr G 67))] [.int (bI (r5.1))] (r5.2) P
        refine vIfNeB F (tgt := 44) dX3_readsClause_39 (by decide) (fun c17 => ?_) (fun c17 => ?_)
        · replace h := okT h c17
          refine vAloadN F dX3_readsClause_44 (k := 1) rfl ?_
          refine vCallV F (d' := 1) (x := 67) (T := TX3) (N := 4) (As := []) (st := []) dX3_readsClause_45 lk_X3_69 my_X3_takeNumber mv_X3_takeNumber (cqC_67 hs) rfl (by decide) rfl rfl (Nat.le_of_ble_eq_true rfl) (Re_takeNumber_ok hG hs (okB h fun r6 h => ?_))
          show mjV G X 3 48 [(1, .int r3), (0, .ref (gr G 67))] [.int (r6.1)] (r6.2) P
          refine vIstoreN F (L' := [(2, .int (r6.1)), (1, .int r3), (0, .ref (gr G 67))]) dX3_readsClause_48 rfl (by decide) rfl ?_
          refine vIloadN F dX3_readsClause_49 (k := 0) rfl ?_
          refine vIfGe F (tgt := 55) dX3_readsClause_50 (by decide) (fun c16 => ?_) (fun c16 => ?_)
          · replace h := okT h c16
            refine vIloadN F dX3_readsClause_55 (k := 1) rfl ?_
            refine vIconst F (v := 2) dX3_readsClause_56 k_2 ?_
            refine okJ (Vj := fun (e7 : Mm) => mjV G X 3 79 [(0, .ref (gr G 67)), (1, .int r3), (2, .int (r6.1))] [] e7 P) h (fun e7 h => ?_) (fun j8 Jj8 h => ?_)
            · refine vAloadN F dX3_readsClause_79 (k := 0) rfl ?_
              obtain ⟨g9, h⟩ := okgq h
              refine vGetM F dX3_readsClause_80 fa_X3_18 (cqC_67 hs) rfl ?_
              refine vIloadN F dX3_readsClause_83 (k := 1) rfl ?_
              refine vIloadN F dX3_readsClause_84 (k := 2) rfl ?_
              refine vCallV F (d' := 0) (x := e7.2.2 67 3) (T := TX2) (N := 7) (As := [.int r3, .int (r6.1)]) (st := []) dX3_readsClause_85 lk_X3_76 my_X2_addClause mv_X2_addClause (isL_ok hs g9).1 rfl (by decide) rfl rfl (Nat.le_of_ble_eq_true rfl) (La_addClause_ok hG hs (isL_ok hs g9) (okB h fun r10 h => ?_))
              show mjV G X 3 88 [(0, .ref (gr G 67)), (1, .int r3), (2, .int (r6.1))] [] r10 P
              refine vIconst F (v := 1) dX3_readsClause_88 k_1 ?_
              have z := okS h
              exact vZret (x := bI true) F dX3_readsClause_89 (nzI _) z
            · refine vIcmpEq F (tgt := 79) dX3_readsClause_57 (by decide) (fun c15 => ?_) (fun c15 => ?_)
              · replace h := okT h c15
                refine vSub [2, 1, 0] rfl ?_
                exact Jj8 (r6.2) h
              · replace h := okF h c15
                refine vAloadN F dX3_readsClause_60 (k := 2) rfl ?_
                refine vBipush F (v := 32) dX3_readsClause_61 kb_32 ?_
                refine vCallV F (d' := 1) (x := 67) (T := TX3) (N := 4) (As := [.int 32]) (st := []) dX3_readsClause_63 lk_X3_32 my_X3_takes mv_X3_takes (cqC_67 hs) rfl (by decide) rfl rfl (Nat.le_of_ble_eq_true rfl) (Re_takes_ok hG hs (okB h fun r11 h => ?_))
                show mjV G X 3 66 [(2, .int (r6.1)), (1, .int r3), (0, .ref (gr G 67))] [.int (bI (r11.1))] (r11.2) P
                refine vIfEqB F (tgt := 77) dX3_readsClause_66 (by decide) (fun c14 => ?_) (fun c14 => ?_)
                · replace h := okF h c14
                  refine vIconst F (v := 0) dX3_readsClause_77 k_0 ?_
                  have z := okS h
                  exact vZret (x := bI false) F dX3_readsClause_78 (nzI _) z
                · replace h := okT h c14
                  refine vAloadN F dX3_readsClause_69 (k := 2) rfl ?_
                  refine vIconst F (v := 0) dX3_readsClause_70 k_0 ?_
                  refine vCallV F (d' := 21) (x := 67) (T := TX3) (N := 4) (As := [.int 0]) (st := []) dX3_readsClause_71 lk_X3_72 my_X3_readsEither mv_X3_readsEither (cqC_67 hs) rfl (by decide) rfl rfl (Nat.le_of_ble_eq_true rfl) (Re_readsEither_ok hG hs (okB h fun r12 h => ?_))
                  show mjV G X 3 74 [(2, .int (r6.1)), (1, .int r3), (0, .ref (gr G 67))] [.int (bI (r12.1))] (r12.2) P
                  refine vIfNeB F (tgt := 79) dX3_readsClause_74 (by decide) (fun c13 => ?_) (fun c13 => ?_)
                  · replace h := okT h c13
                    refine vSub [2, 1, 0] rfl ?_
                    exact Jj8 (r12.2) h
                  · replace h := okF h c13
                    refine vIconst F (v := 0) dX3_readsClause_77 k_0 ?_
                    have z := okS h
                    exact vZret (x := bI false) F dX3_readsClause_78 (nzI _) z
          · replace h := okF h c16
            refine vIconst F (v := 0) dX3_readsClause_53 k_0 ?_
            have z := okS h
            exact vZret (x := bI false) F dX3_readsClause_54 (nzI _) z
        · replace h := okF h c17
          refine vIconst F (v := 0) dX3_readsClause_42 k_0 ?_
          have z := okS h
          exact vZret (x := bI false) F dX3_readsClause_43 (nzI _) z
      · replace h := okT h c32
        refine vLdcS_61 F dX3_readsClause_29 (fun a18 ha18 => ?_)
        refine vGoto F (tgt := 36) dX3_readsClause_31 (by decide) ?_
        refine vCallV F (d' := 4) (x := 67) (T := TX3) (N := 4) (As := [.ref a18]) (st := []) dX3_readsClause_36 lk_X3_65 my_X3_takesWord mv_X3_takesWord (cqC_67 hs) rfl (by decide) rfl rfl (Nat.le_of_ble_eq_true rfl) (Re_takesWord_ok hG hs ha18 (okB h fun r19 h => ?_))
        show mjV G X 3 39 [(1, .int r3), (0, .ref (gr G 67))] [.int (bI (r19.1))] (r19.2) P
        refine vIfNeB F (tgt := 44) dX3_readsClause_39 (by decide) (fun c31 => ?_) (fun c31 => ?_)
        · replace h := okT h c31
          refine vAloadN F dX3_readsClause_44 (k := 1) rfl ?_
          refine vCallV F (d' := 1) (x := 67) (T := TX3) (N := 4) (As := []) (st := []) dX3_readsClause_45 lk_X3_69 my_X3_takeNumber mv_X3_takeNumber (cqC_67 hs) rfl (by decide) rfl rfl (Nat.le_of_ble_eq_true rfl) (Re_takeNumber_ok hG hs (okB h fun r20 h => ?_))
          show mjV G X 3 48 [(1, .int r3), (0, .ref (gr G 67))] [.int (r20.1)] (r20.2) P
          refine vIstoreN F (L' := [(2, .int (r20.1)), (1, .int r3), (0, .ref (gr G 67))]) dX3_readsClause_48 rfl (by decide) rfl ?_
          refine vIloadN F dX3_readsClause_49 (k := 0) rfl ?_
          refine vIfGe F (tgt := 55) dX3_readsClause_50 (by decide) (fun c30 => ?_) (fun c30 => ?_)
          · replace h := okT h c30
            refine vIloadN F dX3_readsClause_55 (k := 1) rfl ?_
            refine vIconst F (v := 2) dX3_readsClause_56 k_2 ?_
            refine okJ (Vj := fun (e21 : Mm) => mjV G X 3 79 [(0, .ref (gr G 67)), (1, .int r3), (2, .int (r20.1))] [] e21 P) h (fun e21 h => ?_) (fun j22 Jj22 h => ?_)
            · refine vAloadN F dX3_readsClause_79 (k := 0) rfl ?_
              obtain ⟨g23, h⟩ := okgq h
              refine vGetM F dX3_readsClause_80 fa_X3_18 (cqC_67 hs) rfl ?_
              refine vIloadN F dX3_readsClause_83 (k := 1) rfl ?_
              refine vIloadN F dX3_readsClause_84 (k := 2) rfl ?_
              refine vCallV F (d' := 0) (x := e21.2.2 67 3) (T := TX2) (N := 7) (As := [.int r3, .int (r20.1)]) (st := []) dX3_readsClause_85 lk_X3_76 my_X2_addClause mv_X2_addClause (isL_ok hs g23).1 rfl (by decide) rfl rfl (Nat.le_of_ble_eq_true rfl) (La_addClause_ok hG hs (isL_ok hs g23) (okB h fun r24 h => ?_))
              show mjV G X 3 88 [(0, .ref (gr G 67)), (1, .int r3), (2, .int (r20.1))] [] r24 P
              refine vIconst F (v := 1) dX3_readsClause_88 k_1 ?_
              have z := okS h
              exact vZret (x := bI true) F dX3_readsClause_89 (nzI _) z
            · refine vIcmpEq F (tgt := 79) dX3_readsClause_57 (by decide) (fun c29 => ?_) (fun c29 => ?_)
              · replace h := okT h c29
                refine vSub [2, 1, 0] rfl ?_
                exact Jj22 (r20.2) h
              · replace h := okF h c29
                refine vAloadN F dX3_readsClause_60 (k := 2) rfl ?_
                refine vBipush F (v := 32) dX3_readsClause_61 kb_32 ?_
                refine vCallV F (d' := 1) (x := 67) (T := TX3) (N := 4) (As := [.int 32]) (st := []) dX3_readsClause_63 lk_X3_32 my_X3_takes mv_X3_takes (cqC_67 hs) rfl (by decide) rfl rfl (Nat.le_of_ble_eq_true rfl) (Re_takes_ok hG hs (okB h fun r25 h => ?_))
                show mjV G X 3 66 [(2, .int (r20.1)), (1, .int r3), (0, .ref (gr G 67))] [.int (bI (r25.1))] (r25.2) P
                refine vIfEqB F (tgt := 77) dX3_readsClause_66 (by decide) (fun c28 => ?_) (fun c28 => ?_)
                · replace h := okF h c28
                  refine vIconst F (v := 0) dX3_readsClause_77 k_0 ?_
                  have z := okS h
                  exact vZret (x := bI false) F dX3_readsClause_78 (nzI _) z
                · replace h := okT h c28
                  refine vAloadN F dX3_readsClause_69 (k := 2) rfl ?_
                  refine vIconst F (v := 0) dX3_readsClause_70 k_0 ?_
                  refine vCallV F (d' := 21) (x := 67) (T := TX3) (N := 4) (As := [.int 0]) (st := []) dX3_readsClause_71 lk_X3_72 my_X3_readsEither mv_X3_readsEither (cqC_67 hs) rfl (by decide) rfl rfl (Nat.le_of_ble_eq_true rfl) (Re_readsEither_ok hG hs (okB h fun r26 h => ?_))
                  show mjV G X 3 74 [(2, .int (r20.1)), (1, .int r3), (0, .ref (gr G 67))] [.int (bI (r26.1))] (r26.2) P
                  refine vIfNeB F (tgt := 79) dX3_readsClause_74 (by decide) (fun c27 => ?_) (fun c27 => ?_)
                  · replace h := okT h c27
                    refine vSub [2, 1, 0] rfl ?_
                    exact Jj22 (r26.2) h
                  · replace h := okF h c27
                    refine vIconst F (v := 0) dX3_readsClause_77 k_0 ?_
                    have z := okS h
                    exact vZret (x := bI false) F dX3_readsClause_78 (nzI _) z
          · replace h := okF h c30
            refine vIconst F (v := 0) dX3_readsClause_53 k_0 ?_
            have z := okS h
            exact vZret (x := bI false) F dX3_readsClause_54 (nzI _) z
        · replace h := okF h c31
          refine vIconst F (v := 0) dX3_readsClause_42 k_0 ?_
          have z := okS h
          exact vZret (x := bI false) F dX3_readsClause_43 (nzI _) z
    · replace h := okT h c47
      refine vLdcS_59 F dX3_readsClause_19 (fun a33 ha33 => ?_)
      refine vGoto F (tgt := 36) dX3_readsClause_21 (by decide) ?_
      refine vCallV F (d' := 4) (x := 67) (T := TX3) (N := 4) (As := [.ref a33]) (st := []) dX3_readsClause_36 lk_X3_65 my_X3_takesWord mv_X3_takesWord (cqC_67 hs) rfl (by decide) rfl rfl (Nat.le_of_ble_eq_true rfl) (Re_takesWord_ok hG hs ha33 (okB h fun r34 h => ?_))
      show mjV G X 3 39 [(1, .int r3), (0, .ref (gr G 67))] [.int (bI (r34.1))] (r34.2) P
      refine vIfNeB F (tgt := 44) dX3_readsClause_39 (by decide) (fun c46 => ?_) (fun c46 => ?_)
      · replace h := okT h c46
        refine vAloadN F dX3_readsClause_44 (k := 1) rfl ?_
        refine vCallV F (d' := 1) (x := 67) (T := TX3) (N := 4) (As := []) (st := []) dX3_readsClause_45 lk_X3_69 my_X3_takeNumber mv_X3_takeNumber (cqC_67 hs) rfl (by decide) rfl rfl (Nat.le_of_ble_eq_true rfl) (Re_takeNumber_ok hG hs (okB h fun r35 h => ?_))
        show mjV G X 3 48 [(1, .int r3), (0, .ref (gr G 67))] [.int (r35.1)] (r35.2) P
        refine vIstoreN F (L' := [(2, .int (r35.1)), (1, .int r3), (0, .ref (gr G 67))]) dX3_readsClause_48 rfl (by decide) rfl ?_
        refine vIloadN F dX3_readsClause_49 (k := 0) rfl ?_
        refine vIfGe F (tgt := 55) dX3_readsClause_50 (by decide) (fun c45 => ?_) (fun c45 => ?_)
        · replace h := okT h c45
          refine vIloadN F dX3_readsClause_55 (k := 1) rfl ?_
          refine vIconst F (v := 2) dX3_readsClause_56 k_2 ?_
          refine okJ (Vj := fun (e36 : Mm) => mjV G X 3 79 [(0, .ref (gr G 67)), (1, .int r3), (2, .int (r35.1))] [] e36 P) h (fun e36 h => ?_) (fun j37 Jj37 h => ?_)
          · refine vAloadN F dX3_readsClause_79 (k := 0) rfl ?_
            obtain ⟨g38, h⟩ := okgq h
            refine vGetM F dX3_readsClause_80 fa_X3_18 (cqC_67 hs) rfl ?_
            refine vIloadN F dX3_readsClause_83 (k := 1) rfl ?_
            refine vIloadN F dX3_readsClause_84 (k := 2) rfl ?_
            refine vCallV F (d' := 0) (x := e36.2.2 67 3) (T := TX2) (N := 7) (As := [.int r3, .int (r35.1)]) (st := []) dX3_readsClause_85 lk_X3_76 my_X2_addClause mv_X2_addClause (isL_ok hs g38).1 rfl (by decide) rfl rfl (Nat.le_of_ble_eq_true rfl) (La_addClause_ok hG hs (isL_ok hs g38) (okB h fun r39 h => ?_))
            show mjV G X 3 88 [(0, .ref (gr G 67)), (1, .int r3), (2, .int (r35.1))] [] r39 P
            refine vIconst F (v := 1) dX3_readsClause_88 k_1 ?_
            have z := okS h
            exact vZret (x := bI true) F dX3_readsClause_89 (nzI _) z
          · refine vIcmpEq F (tgt := 79) dX3_readsClause_57 (by decide) (fun c44 => ?_) (fun c44 => ?_)
            · replace h := okT h c44
              refine vSub [2, 1, 0] rfl ?_
              exact Jj37 (r35.2) h
            · replace h := okF h c44
              refine vAloadN F dX3_readsClause_60 (k := 2) rfl ?_
              refine vBipush F (v := 32) dX3_readsClause_61 kb_32 ?_
              refine vCallV F (d' := 1) (x := 67) (T := TX3) (N := 4) (As := [.int 32]) (st := []) dX3_readsClause_63 lk_X3_32 my_X3_takes mv_X3_takes (cqC_67 hs) rfl (by decide) rfl rfl (Nat.le_of_ble_eq_true rfl) (Re_takes_ok hG hs (okB h fun r40 h => ?_))
              show mjV G X 3 66 [(2, .int (r35.1)), (1, .int r3), (0, .ref (gr G 67))] [.int (bI (r40.1))] (r40.2) P
              refine vIfEqB F (tgt := 77) dX3_readsClause_66 (by decide) (fun c43 => ?_) (fun c43 => ?_)
              · replace h := okF h c43
                refine vIconst F (v := 0) dX3_readsClause_77 k_0 ?_
                have z := okS h
                exact vZret (x := bI false) F dX3_readsClause_78 (nzI _) z
              · replace h := okT h c43
                refine vAloadN F dX3_readsClause_69 (k := 2) rfl ?_
                refine vIconst F (v := 0) dX3_readsClause_70 k_0 ?_
                refine vCallV F (d' := 21) (x := 67) (T := TX3) (N := 4) (As := [.int 0]) (st := []) dX3_readsClause_71 lk_X3_72 my_X3_readsEither mv_X3_readsEither (cqC_67 hs) rfl (by decide) rfl rfl (Nat.le_of_ble_eq_true rfl) (Re_readsEither_ok hG hs (okB h fun r41 h => ?_))
                show mjV G X 3 74 [(2, .int (r35.1)), (1, .int r3), (0, .ref (gr G 67))] [.int (bI (r41.1))] (r41.2) P
                refine vIfNeB F (tgt := 79) dX3_readsClause_74 (by decide) (fun c42 => ?_) (fun c42 => ?_)
                · replace h := okT h c42
                  refine vSub [2, 1, 0] rfl ?_
                  exact Jj37 (r41.2) h
                · replace h := okF h c42
                  refine vIconst F (v := 0) dX3_readsClause_77 k_0 ?_
                  have z := okS h
                  exact vZret (x := bI false) F dX3_readsClause_78 (nzI _) z
        · replace h := okF h c45
          refine vIconst F (v := 0) dX3_readsClause_53 k_0 ?_
          have z := okS h
          exact vZret (x := bI false) F dX3_readsClause_54 (nzI _) z
      · replace h := okF h c46
        refine vIconst F (v := 0) dX3_readsClause_42 k_0 ?_
        have z := okS h
        exact vZret (x := bI false) F dX3_readsClause_43 (nzI _) z
noncomputable def Re_faultOf_l19  (s2 : Int32 × Mm) : Option ((Int32 × Mm) ⊕ (Mm ⊕ (Int32 × Mm))) :=
  if 10 ≤ (s2.1) then
 (some (.inr (.inl (s2.2))))
 else (jn (fun (e4 : Mm) => (Re_readsClause e4).bind fun r6 =>
  if (r6.1) = true then
 (if ((r6.2).1 67 2) = ((r6.2).1 67 1) then
 (some (.inr (.inr ((-1), r6.2))))
 else (some (.inl ((s2.1) + 1, r6.2))))
 else (some (.inr (.inr ((r6.2).1 67 2, r6.2))))) fun j5 =>
  if (s2.1) ≤ 0 then
 (j5 (s2.2))
 else ((Re_takes (s2.2) 59).bind fun r9 =>
  if (r9.1) = true then
 (j5 (r9.2))
 else (some (.inr (.inr ((r9.2).1 67 2, r9.2))))))
noncomputable def Re_faultOf (m : Mm) (a1 : Nat) : Option (Int32 × Mm) :=
  gq (isL ((sr (si m 67 2 0) 67 3 a1).2.2 67 3)) ((iter (Re_faultOf_l19) (0, (La_clear ((sr (si m 67 2 0) 67 3 a1).2.2 67 3) (sr (si m 67 2 0) 67 3 a1)))).bind (Sum.elim (fun e3 => some (e3.1 67 2, e3)) (fun v13 => some v13)))
set_option maxRecDepth 20000 in
set_option maxHeartbeats 4000000 in
theorem Re_faultOf_ok {G : Gw} (hG : gOk G) (hs : gsh G = shC) {a1 : Nat} (ha1 : is_X2 (gsh G) a1) {m : Mm} {P : Option Value → Mm → Prop} (h : mjO (Re_faultOf m a1) (fun r => P (some (.int r.1)) r.2)) : mjR G 23 yX3_faultOf cX3_faultOf 3 (some .int) [.ref (gr G 67), .ref (gr G a1)] m P := by
  refine mjR_of hG (by decide) (Nat.le_of_ble_eq_true rfl) ?_
  intro X F
  have F : mjF G X cX3_faultOf RX3 3 23 (some .int) := F
  show mjV G X 3 0 [(0, .ref (gr G 67)), (1, .ref (gr G a1))] [] m P
  unfold Re_faultOf at h
  refine vAloadN F dX3_faultOf_0 (k := 0) rfl ?_
  refine vIconst F (v := 0) dX3_faultOf_1 k_0 ?_
  refine vPutI F dX3_faultOf_2 fw_X3_26 (cqC_67 hs) rfl ⟨rfl, rfl⟩ ?_
  refine vAloadN F dX3_faultOf_5 (k := 0) rfl ?_
  refine vAloadN F dX3_faultOf_6 (k := 1) rfl ?_
  refine vPutM F dX3_faultOf_7 fw_X3_18 (cqC_67 hs) rfl ⟨rfl, rfl⟩ ?_
  refine vAloadN F dX3_faultOf_10 (k := 0) rfl ?_
  obtain ⟨g1, h⟩ := okgq h
  refine vGetM F dX3_faultOf_11 fa_X3_18 (cqC_67 hs) rfl ?_
  refine vCallV F (d' := 0) (x := (sr (si m 67 2 0) 67 3 a1).2.2 67 3) (T := TX2) (N := 7) (As := []) (st := []) dX3_faultOf_14 lk_X3_29 my_X2_clear mv_X2_clear (isL_ok hs g1).1 rfl (by decide) rfl rfl (Nat.le_of_ble_eq_true rfl) (La_clear_ok hG hs (isL_ok hs g1) ?_)
  show mjV G X 3 17 [(0, .ref (gr G 67)), (1, .ref (gr G a1))] [] (La_clear ((sr (si m 67 2 0) 67 3 a1).2.2 67 3) (sr (si m 67 2 0) 67 3 a1)) P
  refine vIconst F (v := 0) dX3_faultOf_17 k_0 ?_
  refine vIstoreN F (L' := [(2, .int 0), (0, .ref (gr G 67)), (1, .ref (gr G a1))]) dX3_faultOf_18 rfl (by decide) rfl ?_
  refine vSub [1, 0] rfl ?_
  refine okLoop (s0 := (0, (La_clear ((sr (si m 67 2 0) 67 3 a1).2.2 67 3) (sr (si m 67 2 0) 67 3 a1)))) (T := (fun (s2 : Int32 × Mm) => mjV G X 3 19 [(0, .ref (gr G 67)), (2, .int (s2.1))] [] (s2.2) P)) (Ve := (Sum.elim (fun (e3 : Mm) => mjV G X 3 69 [(0, .ref (gr G 67))] [] e3 P) (fun (v13 : Int32 × Mm) => P (some (.int v13.1)) v13.2))) h ?_ (fun s2 h => ?_)
  · intro q h
    rcases q with e3 | v13
    · refine vAloadN F dX3_faultOf_69 (k := 0) rfl ?_
      refine vGetI F dX3_faultOf_70 fa_X3_26 (cqC_67 hs) rfl ?_
      have z := okS h
      exact vIret F dX3_faultOf_73 z
    · have z := okS h
      exact z
  · unfold Re_faultOf_l19 at h
    refine vIloadN F dX3_faultOf_19 (k := 1) rfl ?_
    refine vBipush F (v := 10) dX3_faultOf_20 kb_10 ?_
    refine vIcmpGe F (tgt := 69) dX3_faultOf_22 (by decide) (fun c12 => ?_) (fun c12 => ?_)
    · replace h := okT h c12
      refine vSub [0] rfl ?_
      have z := okR h
      exact z
    · replace h := okF h c12
      refine vIloadN F dX3_faultOf_25 (k := 1) rfl ?_
      refine okJ (Vj := fun (e4 : Mm) => mjV G X 3 38 [(0, .ref (gr G 67)), (2, .int (s2.1))] [] e4 P) h (fun e4 h => ?_) (fun j5 Jj5 h => ?_)
      · refine vAloadN F dX3_faultOf_38 (k := 0) rfl ?_
        refine vCallV F (d' := 22) (x := 67) (T := TX3) (N := 4) (As := []) (st := []) dX3_faultOf_39 lk_X3_36 my_X3_readsClause mv_X3_readsClause (cqC_67 hs) rfl (by decide) rfl rfl (Nat.le_of_ble_eq_true rfl) (Re_readsClause_ok hG hs (okB h fun r6 h => ?_))
        show mjV G X 3 42 [(0, .ref (gr G 67)), (2, .int (s2.1))] [.int (bI (r6.1))] (r6.2) P
        refine vIfNeB F (tgt := 50) dX3_faultOf_42 (by decide) (fun c8 => ?_) (fun c8 => ?_)
        · replace h := okT h c8
          refine vAloadN F dX3_faultOf_50 (k := 0) rfl ?_
          refine vGetI F dX3_faultOf_51 fa_X3_26 (cqC_67 hs) rfl ?_
          refine vAloadN F dX3_faultOf_54 (k := 0) rfl ?_
          refine vGetI F dX3_faultOf_55 fa_X3_22 (cqC_67 hs) rfl ?_
          refine vIcmpNe F (tgt := 63) dX3_faultOf_58 (by decide) (fun c7 => ?_) (fun c7 => ?_)
          · replace h := okF h c7
            refine vIinc F (v := 1) (k := 1) (L' := [(2, .int ((s2.1) + 1)), (0, .ref (gr G 67))]) dX3_faultOf_63 rfl k_1 (by decide) rfl ?_
            refine vGoto F (tgt := 19) dX3_faultOf_66 (by decide) ?_
            refine vSub [1, 0] rfl ?_
            have z := okL h
            exact z
          · replace h := okT h c7
            refine vIconst F (v := (-1)) dX3_faultOf_61 k_m1 ?_
            have z := okR h
            exact vIret F dX3_faultOf_62 z
        · replace h := okF h c8
          refine vAloadN F dX3_faultOf_45 (k := 0) rfl ?_
          refine vGetI F dX3_faultOf_46 fa_X3_26 (cqC_67 hs) rfl ?_
          have z := okR h
          exact vIret F dX3_faultOf_49 z
      · refine vIfLe F (tgt := 38) dX3_faultOf_26 (by decide) (fun c11 => ?_) (fun c11 => ?_)
        · replace h := okT h c11
          exact Jj5 (s2.2) h
        · replace h := okF h c11
          refine vAloadN F dX3_faultOf_29 (k := 0) rfl ?_
          refine vBipush F (v := 59) dX3_faultOf_30 kb_59 ?_
          refine vCallV F (d' := 1) (x := 67) (T := TX3) (N := 4) (As := [.int 59]) (st := []) dX3_faultOf_32 lk_X3_32 my_X3_takes mv_X3_takes (cqC_67 hs) rfl (by decide) rfl rfl (Nat.le_of_ble_eq_true rfl) (Re_takes_ok hG hs (okB h fun r9 h => ?_))
          show mjV G X 3 35 [(0, .ref (gr G 67)), (2, .int (s2.1))] [.int (bI (r9.1))] (r9.2) P
          refine vIfEqB F (tgt := 45) dX3_faultOf_35 (by decide) (fun c10 => ?_) (fun c10 => ?_)
          · replace h := okF h c10
            refine vAloadN F dX3_faultOf_45 (k := 0) rfl ?_
            refine vGetI F dX3_faultOf_46 fa_X3_26 (cqC_67 hs) rfl ?_
            have z := okR h
            exact vIret F dX3_faultOf_49 z
          · replace h := okT h c10
            exact Jj5 (r9.2) h
noncomputable def Ta_become (x : Nat) (m : Mm) (a1 : Int32) (a2 : Int32) : Option (Mm) :=
  (JA_fill (si (si m x 0 a1) x 1 a2) 60 (x + 1) 0).bind fun r1 =>
  some r1
set_option maxRecDepth 20000 in
set_option maxHeartbeats 4000000 in
theorem Ta_become_ok {G : Gw} (hG : gOk G) (hs : gsh G = shC) {x : Nat} (hx : is_X4 (gsh G) x) {a1 : Int32} {a2 : Int32} {m : Mm} {P : Option Value → Mm → Prop} (h : mjO (Ta_become x m a1 a2) (fun r => P none r)) : mjR G 1 yX4_become cX4_become 3 none [.ref (gr G x), .int a1, .int a2] m P := by
  refine mjR_of hG (by decide) (Nat.le_of_ble_eq_true rfl) ?_
  intro X F
  have F : mjF G X cX4_become RX4 3 1 none := F
  show mjV G X 3 0 [(0, .ref (gr G x)), (1, .int a1), (2, .int a2)] [] m P
  unfold Ta_become at h
  refine vAloadN F dX4_become_0 (k := 0) rfl ?_
  refine vIloadN F dX4_become_1 (k := 1) rfl ?_
  refine vPutI F dX4_become_2 fw_X4_9 hx.1 rfl ⟨rfl, rfl⟩ ?_
  refine vAloadN F dX4_become_5 (k := 0) rfl ?_
  refine vIloadN F dX4_become_6 (k := 2) rfl ?_
  refine vPutI F dX4_become_7 fw_X4_17 hx.1 rfl ⟨rfl, rfl⟩ ?_
  refine vAloadN F dX4_become_10 (k := 0) rfl ?_
  refine vGetR F (t := x + 1) dX4_become_11 fa_X4_13 hx.1 rfl ?_
  refine vLconst F (v := 0) dX4_become_14 rfl ?_
  refine vCallS F (d' := 0) (As := [.ref (gr G (x + 1)), .long 0]) (st := []) dX4_become_15 lk_X4_20 my_J7_fill_d0a16 sy_J7_fill_d0a16 (by decide) rfl rfl (Nat.le_of_ble_eq_true rfl) (JA_fill_ok hG hx.2 (okB h fun r1 h => ?_))
  show mjV G X 3 18 [(0, .ref (gr G x)), (1, .int a1), (2, .int a2)] [] r1 P
  have z := okS h
  exact vVret F dX4_become_18 z
