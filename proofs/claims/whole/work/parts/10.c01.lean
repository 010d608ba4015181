def Jo_findLongs_l15 (s1 : Int32 × Mm) (s3 : Int32 × Mm) : Option ((Int32 × Mm) ⊕ Mm) :=
  if ((s3.2).1 11 0) ≤ (s3.1) then
 (some (.inr (s3.2)))
 else (ga (NB_index (s1.1) (s3.1)) 49 (if ((s3.2).1 (11 + 4) (NB_index (s1.1) (s3.1)).toNatClampNeg) = 0 then
 (ga (NB_index (s1.1) (s3.1)) 49 (some (.inl ((s3.1) + 1, si (s3.2) 5 (NB_index (s1.1) (s3.1)).toNatClampNeg 0))))
 else (ga (imin (s1.1) (s3.1)) 7 (ga (NB_index (s1.1) (s3.1)) 49 (some (.inl ((s3.1) + 1, si (s3.2) 5 (NB_index (s1.1) (s3.1)).toNatClampNeg (((s3.2).1 (11 + 4) (NB_index (s1.1) (s3.1)).toNatClampNeg) + ((s3.2).1 4 (imin (s1.1) (s3.1)).toNatClampNeg)))))))))
noncomputable def Jo_findLongs_l2  (s1 : Int32 × Mm) : Option ((Int32 × Mm) ⊕ Mm) :=
  if ((s1.2).1 11 0) ≤ (s1.1) then
 (some (.inr (s1.2)))
 else ((iter (Jo_findLongs_l15 s1) (0, s1.2)).bind fun e4 =>
  some (.inl ((s1.1) + 1, e4)))
noncomputable def Jo_findLongs (m : Mm) : Option (Mm) :=
  (iter (Jo_findLongs_l2) (0, m)).bind fun e2 =>
  some e2
set_option maxRecDepth 20000 in
set_option maxHeartbeats 4000000 in
theorem Jo_findLongs_ok {G : Gw} (hG : gOk G) (hs : gsh G = shC) {m : Mm} {P : Option Value → Mm → Prop} (h : mjO (Jo_findLongs m) (fun r => P none r)) : mjR G 1 yX1_findLongs cX1_findLongs 4 none [.ref (gr G 1)] m P := by
  refine mjR_of hG (by decide) (Nat.le_of_ble_eq_true rfl) ?_
  intro X F
  have F : mjF G X cX1_findLongs RX1 4 1 none := F
  show mjV G X 4 0 [(0, .ref (gr G 1))] [] m P
  unfold Jo_findLongs at h
  refine vIconst F (v := 0) dX1_findLongs_0 k_0 ?_
  refine vIstoreN F (L' := [(1, .int 0), (0, .ref (gr G 1))]) dX1_findLongs_1 rfl (by decide) rfl ?_
  refine vSub [1, 0] rfl ?_
  refine okLoop (s0 := (0, m)) (T := (fun (s1 : Int32 × Mm) => mjV G X 4 2 [(0, .ref (gr G 1)), (1, .int (s1.1))] [] (s1.2) P)) (Ve := (fun (e2 : Mm) => mjV G X 4 82 [] [] e2 P)) h ?_ (fun s1 h => ?_)
  · intro e2 h
    have z := okS h
    exact vVret F dX1_findLongs_82 z
  · unfold Jo_findLongs_l2 at h
    refine vIloadN F dX1_findLongs_2 (k := 1) rfl ?_
    refine vAloadN F dX1_findLongs_3 (k := 0) rfl ?_
    refine vGetR F (t := 11) dX1_findLongs_4 fa_X1_12 (cqC_1 hs) rfl ?_
    refine vGetI F dX1_findLongs_7 fa_X1_51 (is_X5_11 hs).1 rfl ?_
    refine vIcmpGe F (tgt := 82) dX1_findLongs_10 (by decide) (fun c12 => ?_) (fun c12 => ?_)
    · replace h := okT h c12
      refine vSub [] rfl ?_
      have z := okR h
      exact z
    · replace h := okF h c12
      refine vIconst F (v := 0) dX1_findLongs_13 k_0 ?_
      refine vIstoreN F (L' := [(2, .int 0), (0, .ref (gr G 1)), (1, .int (s1.1))]) dX1_findLongs_14 rfl (by decide) rfl ?_
      refine vSub [1, 2, 0] rfl ?_
      refine okLoop (s0 := (0, s1.2)) (T := (fun (s3 : Int32 × Mm) => mjV G X 4 15 [(0, .ref (gr G 1)), (1, .int (s1.1)), (2, .int (s3.1))] [] (s3.2) P)) (Ve := (fun (e4 : Mm) => mjV G X 4 76 [(0, .ref (gr G 1)), (1, .int (s1.1))] [] e4 P)) h ?_ (fun s3 h => ?_)
      · intro e4 h
        refine vIinc F (v := 1) (k := 1) (L' := [(1, .int ((s1.1) + 1)), (0, .ref (gr G 1))]) dX1_findLongs_76 rfl k_1 (by decide) rfl ?_
        refine vGoto F (tgt := 2) dX1_findLongs_79 (by decide) ?_
        refine vSub [1, 0] rfl ?_
        have z := okL h
        exact z
      · unfold Jo_findLongs_l15 at h
        refine vIloadN F dX1_findLongs_15 (k := 2) rfl ?_
        refine vAloadN F dX1_findLongs_16 (k := 0) rfl ?_
        refine vGetR F (t := 11) dX1_findLongs_17 fa_X1_12 (cqC_1 hs) rfl ?_
        refine vGetI F dX1_findLongs_20 fa_X1_51 (is_X5_11 hs).1 rfl ?_
        refine vIcmpGe F (tgt := 76) dX1_findLongs_23 (by decide) (fun c10 => ?_) (fun c10 => ?_)
        · replace h := okT h c10
          refine vSub [0, 1] rfl ?_
          have z := okR h
          exact z
        · replace h := okF h c10
          refine vAloadN F dX1_findLongs_26 (k := 0) rfl ?_
          refine vGetR F (t := 11) dX1_findLongs_27 fa_X1_12 (cqC_1 hs) rfl ?_
          refine vGetR F (t := 11 + 4) dX1_findLongs_30 fa_X1_67 (is_X5_11 hs).1 rfl ?_
          refine vIloadN F dX1_findLongs_33 (k := 1) rfl ?_
          refine vIloadN F dX1_findLongs_34 (k := 2) rfl ?_
          refine vCallS F (d' := 0) (As := [.int (s1.1), .int (s3.1)]) (st := [.ref (gr G (11 + 4))]) dX1_findLongs_35 lk_X1_70 my_X6_index sy_X6_index (by decide) rfl rfl (Nat.le_of_ble_eq_true rfl) (NB_index_ok hG hs ?_)
          show mjV G X 4 38 [(0, .ref (gr G 1)), (1, .int (s1.1)), (2, .int (s3.1))] [.int (NB_index (s1.1) (s3.1)), .ref (gr G (11 + 4))] (s3.2) P
          obtain ⟨g5, h⟩ := okga h
          refine vIald F dX1_findLongs_38 (is_X5_11 hs).2.2.2.2.1 g5 ?_
          refine vIstoreN F (L' := [(3, .int ((s3.2).1 (11 + 4) (NB_index (s1.1) (s3.1)).toNatClampNeg)), (0, .ref (gr G 1)), (1, .int (s1.1)), (2, .int (s3.1))]) dX1_findLongs_39 rfl (by decide) rfl ?_
          refine vAloadN F dX1_findLongs_40 (k := 1) rfl ?_
          refine vGetR F (t := 5) dX1_findLongs_41 fa_X1_28 (cqC_1 hs) rfl ?_
          refine vIloadN F dX1_findLongs_44 (k := 2) rfl ?_
          refine vIloadN F dX1_findLongs_45 (k := 3) rfl ?_
          refine vCallS F (d' := 0) (As := [.int (s1.1), .int (s3.1)]) (st := [.ref (gr G 5)]) dX1_findLongs_46 lk_X1_70 my_X6_index sy_X6_index (by decide) rfl rfl (Nat.le_of_ble_eq_true rfl) (NB_index_ok hG hs ?_)
          show mjV G X 4 49 [(3, .int ((s3.2).1 (11 + 4) (NB_index (s1.1) (s3.1)).toNatClampNeg)), (0, .ref (gr G 1)), (1, .int (s1.1)), (2, .int (s3.1))] [.int (NB_index (s1.1) (s3.1)), .ref (gr G 5)] (s3.2) P
          refine vIloadN F dX1_findLongs_49 (k := 0) rfl ?_
          refine vIfNe F (tgt := 57) dX1_findLongs_50 (by decide) (fun c9 => ?_) (fun c9 => ?_)
          · replace h := okF h c9
            refine vIloadN F dX1_findLongs_57 (k := 0) rfl ?_
            refine vAloadN F dX1_findLongs_58 (k := 1) rfl ?_
            refine vGetR F (t := 4) dX1_findLongs_59 fa_X1_25 (cqC_1 hs) rfl ?_
            refine vIloadN F dX1_findLongs_62 (k := 2) rfl ?_
            refine vIloadN F dX1_findLongs_63 (k := 3) rfl ?_
            refine vMin F dX1_findLongs_64 km_X1_74 (Nat.le_of_ble_eq_true rfl) ?_
            obtain ⟨g6, h⟩ := okga h
            refine vIald F dX1_findLongs_67 (cqC_4 hs) g6 ?_
            refine vIadd F dX1_findLongs_68 ?_
            obtain ⟨g7, h⟩ := okga h
            refine vIast F dX1_findLongs_69 (cqC_5 hs) g7 ?_
            refine vIinc F (v := 1) (k := 3) (L' := [(2, .int ((s3.1) + 1)), (3, .int ((s3.2).1 (11 + 4) (NB_index (s1.1) (s3.1)).toNatClampNeg)), (0, .ref (gr G 1)), (1, .int (s1.1))]) dX1_findLongs_70 rfl k_1 (by decide) rfl ?_
            refine vGoto F (tgt := 15) dX1_findLongs_73 (by decide) ?_
            refine vSub [2, 3, 0] rfl ?_
            have z := okL h
            exact z
          · replace h := okT h c9
            refine vIconst F (v := 0) dX1_findLongs_53 k_0 ?_
            refine vGoto F (tgt := 69) dX1_findLongs_54 (by decide) ?_
            obtain ⟨g8, h⟩ := okga h
            refine vIast F dX1_findLongs_69 (cqC_5 hs) g8 ?_
            refine vIinc F (v := 1) (k := 3) (L' := [(2, .int ((s3.1) + 1)), (3, .int ((s3.2).1 (11 + 4) (NB_index (s1.1) (s3.1)).toNatClampNeg)), (0, .ref (gr G 1)), (1, .int (s1.1))]) dX1_findLongs_70 rfl k_1 (by decide) rfl ?_
            refine vGoto F (tgt := 15) dX1_findLongs_73 (by decide) ?_
            refine vSub [2, 3, 0] rfl ?_
            have z := okL h
            exact z
def Jo_findWays_l15 (s1 : Int32 × Mm) (s3 : Int32 × Mm) : Option ((Int32 × Mm) ⊕ Mm) :=
  if ((s3.2).1 11 0) ≤ (s3.1) then
 (some (.inr (s3.2)))
 else (ga (NB_index (s1.1) (s3.1)) 49 (if (s1.1) = (s3.1) then
 (ga (NB_index (s1.1) (s3.1)) 49 (some (.inl ((s3.1) + 1, si (s3.2) 6 (NB_index (s1.1) (s3.1)).toNatClampNeg 0))))
 else (if ((s3.2).1 5 (NB_index (s1.1) (s3.1)).toNatClampNeg) ≤ 0 then
 (ga (NB_index (s1.1) (s3.1)) 49 (some (.inl ((s3.1) + 1, si (s3.2) 6 (NB_index (s1.1) (s3.1)).toNatClampNeg 1000000))))
 else (ga (NB_index (s1.1) (s3.1)) 49 (some (.inl ((s3.1) + 1, si (s3.2) 6 (NB_index (s1.1) (s3.1)).toNatClampNeg ((s3.2).1 5 (NB_index (s1.1) (s3.1)).toNatClampNeg))))))))
noncomputable def Jo_findWays_l2  (s1 : Int32 × Mm) : Option ((Int32 × Mm) ⊕ Mm) :=
  if ((s1.2).1 11 0) ≤ (s1.1) then
 (some (.inr (s1.2)))
 else ((iter (Jo_findWays_l15 s1) (0, s1.2)).bind fun e4 =>
  some (.inl ((s1.1) + 1, e4)))
def Jo_findWays_l106 (s14 : Int32 × Mm) (s16 : Int32 × Mm) (s18 : Int32 × Mm) : Option ((Int32 × Mm) ⊕ Mm) :=
  if ((s18.2).1 11 0) ≤ (s18.1) then
 (some (.inr (s18.2)))
 else (ga (NB_index (s16.1) (s14.1)) 49 (ga (NB_index (s14.1) (s18.1)) 49 (ga (NB_index (s16.1) (s18.1)) 49 (ga (NB_index (s16.1) (s18.1)) 49 (some (.inl ((s18.1) + 1, si (s18.2) 6 (NB_index (s16.1) (s18.1)).toNatClampNeg (imin ((s18.2).1 6 (NB_index (s16.1) (s18.1)).toNatClampNeg) (((s18.2).1 6 (NB_index (s16.1) (s14.1)).toNatClampNeg) + ((s18.2).1 6 (NB_index (s14.1) (s18.1)).toNatClampNeg))))))))))
noncomputable def Jo_findWays_l93 (s14 : Int32 × Mm) (s16 : Int32 × Mm) : Option ((Int32 × Mm) ⊕ Mm) :=
  if ((s16.2).1 11 0) ≤ (s16.1) then
 (some (.inr (s16.2)))
 else ((iter (Jo_findWays_l106 s14 s16) (0, s16.2)).bind fun e19 =>
  some (.inl ((s16.1) + 1, e19)))
noncomputable def Jo_findWays_l80  (s14 : Int32 × Mm) : Option ((Int32 × Mm) ⊕ Mm) :=
  if ((s14.2).1 11 0) ≤ (s14.1) then
 (some (.inr (s14.2)))
 else ((iter (Jo_findWays_l93 s14) (0, s14.2)).bind fun e17 =>
  some (.inl ((s14.1) + 1, e17)))
noncomputable def Jo_findWays (m : Mm) : Option (Mm) :=
  (iter (Jo_findWays_l2) (0, m)).bind fun e2 =>
  (iter (Jo_findWays_l80) (0, e2)).bind fun e15 =>
  some e15
set_option maxRecDepth 20000 in
set_option maxHeartbeats 4000000 in
theorem Jo_findWays_ok {G : Gw} (hG : gOk G) (hs : gsh G = shC) {m : Mm} {P : Option Value → Mm → Prop} (h : mjO (Jo_findWays m) (fun r => P none r)) : mjR G 1 yX1_findWays cX1_findWays 5 none [.ref (gr G 1)] m P := by
  refine mjR_of hG (by decide) (Nat.le_of_ble_eq_true rfl) ?_
  intro X F
  have F : mjF G X cX1_findWays RX1 5 1 none := F
  show mjV G X 5 0 [(0, .ref (gr G 1))] [] m P
  unfold Jo_findWays at h
  refine vIconst F (v := 0) dX1_findWays_0 k_0 ?_
  refine vIstoreN F (L' := [(1, .int 0), (0, .ref (gr G 1))]) dX1_findWays_1 rfl (by decide) rfl ?_
  refine vSub [1, 0] rfl ?_
  refine okLoop (s0 := (0, m)) (T := (fun (s1 : Int32 × Mm) => mjV G X 5 2 [(0, .ref (gr G 1)), (1, .int (s1.1))] [] (s1.2) P)) (Ve := (fun (e2 : Mm) => mjV G X 5 78 [(0, .ref (gr G 1))] [] e2 P)) h ?_ (fun s1 h => ?_)
  · intro e2 h
    refine vIconst F (v := 0) dX1_findWays_78 k_0 ?_
    refine vIstoreN F (L' := [(1, .int 0), (0, .ref (gr G 1))]) dX1_findWays_79 rfl (by decide) rfl ?_
    refine vSub [1, 0] rfl ?_
    refine okLoop (s0 := (0, e2)) (T := (fun (s14 : Int32 × Mm) => mjV G X 5 80 [(0, .ref (gr G 1)), (1, .int (s14.1))] [] (s14.2) P)) (Ve := (fun (e15 : Mm) => mjV G X 5 183 [] [] e15 P)) h ?_ (fun s14 h => ?_)
    · intro e15 h
      have z := okS h
      exact vVret F dX1_findWays_183 z
    · unfold Jo_findWays_l80 at h
      refine vIloadN F dX1_findWays_80 (k := 1) rfl ?_
      refine vAloadN F dX1_findWays_81 (k := 0) rfl ?_
      refine vGetR F (t := 11) dX1_findWays_82 fa_X1_12 (cqC_1 hs) rfl ?_
      refine vGetI F dX1_findWays_85 fa_X1_51 (is_X5_11 hs).1 rfl ?_
      refine vIcmpGe F (tgt := 183) dX1_findWays_88 (by decide) (fun c28 => ?_) (fun c28 => ?_)
      · replace h := okT h c28
        refine vSub [] rfl ?_
        have z := okR h
        exact z
      · replace h := okF h c28
        refine vIconst F (v := 0) dX1_findWays_91 k_0 ?_
        refine vIstoreN F (L' := [(2, .int 0), (0, .ref (gr G 1)), (1, .int (s14.1))]) dX1_findWays_92 rfl (by decide) rfl ?_
        refine vSub [1, 2, 0] rfl ?_
        refine okLoop (s0 := (0, s14.2)) (T := (fun (s16 : Int32 × Mm) => mjV G X 5 93 [(0, .ref (gr G 1)), (1, .int (s14.1)), (2, .int (s16.1))] [] (s16.2) P)) (Ve := (fun (e17 : Mm) => mjV G X 5 177 [(0, .ref (gr G 1)), (1, .int (s14.1))] [] e17 P)) h ?_ (fun s16 h => ?_)
        · intro e17 h
          refine vIinc F (v := 1) (k := 1) (L' := [(1, .int ((s14.1) + 1)), (0, .ref (gr G 1))]) dX1_findWays_177 rfl k_1 (by decide) rfl ?_
          refine vGoto F (tgt := 80) dX1_findWays_180 (by decide) ?_
          refine vSub [1, 0] rfl ?_
          have z := okL h
          exact z
        · unfold Jo_findWays_l93 at h
          refine vIloadN F dX1_findWays_93 (k := 2) rfl ?_
          refine vAloadN F dX1_findWays_94 (k := 0) rfl ?_
          refine vGetR F (t := 11) dX1_findWays_95 fa_X1_12 (cqC_1 hs) rfl ?_
          refine vGetI F dX1_findWays_98 fa_X1_51 (is_X5_11 hs).1 rfl ?_
          refine vIcmpGe F (tgt := 177) dX1_findWays_101 (by decide) (fun c26 => ?_) (fun c26 => ?_)
          · replace h := okT h c26
            refine vSub [0, 1] rfl ?_
            have z := okR h
            exact z
          · replace h := okF h c26
            refine vIconst F (v := 0) dX1_findWays_104 k_0 ?_
            refine vIstoreN F (L' := [(3, .int 0), (0, .ref (gr G 1)), (1, .int (s14.1)), (2, .int (s16.1))]) dX1_findWays_105 rfl (by decide) rfl ?_
            refine vSub [1, 2, 3, 0] rfl ?_
            refine okLoop (s0 := (0, s16.2)) (T := (fun (s18 : Int32 × Mm) => mjV G X 5 106 [(0, .ref (gr G 1)), (1, .int (s14.1)), (2, .int (s16.1)), (3, .int (s18.1))] [] (s18.2) P)) (Ve := (fun (e19 : Mm) => mjV G X 5 171 [(0, .ref (gr G 1)), (1, .int (s14.1)), (2, .int (s16.1))] [] e19 P)) h ?_ (fun s18 h => ?_)
            · intro e19 h
              refine vIinc F (v := 1) (k := 2) (L' := [(2, .int ((s16.1) + 1)), (0, .ref (gr G 1)), (1, .int (s14.1))]) dX1_findWays_171 rfl k_1 (by decide) rfl ?_
              refine vGoto F (tgt := 93) dX1_findWays_174 (by decide) ?_
              refine vSub [1, 2, 0] rfl ?_
              have z := okL h
              exact z
            · unfold Jo_findWays_l106 at h
              refine vIloadN F dX1_findWays_106 (k := 3) rfl ?_
              refine vAloadN F dX1_findWays_107 (k := 0) rfl ?_
              refine vGetR F (t := 11) dX1_findWays_108 fa_X1_12 (cqC_1 hs) rfl ?_
              refine vGetI F dX1_findWays_111 fa_X1_51 (is_X5_11 hs).1 rfl ?_
              refine vIcmpGe F (tgt := 171) dX1_findWays_114 (by decide) (fun c24 => ?_) (fun c24 => ?_)
              · replace h := okT h c24
                refine vSub [0, 1, 2] rfl ?_
                have z := okR h
                exact z
              · replace h := okF h c24
                refine vAloadN F dX1_findWays_117 (k := 0) rfl ?_
                refine vGetR F (t := 6) dX1_findWays_118 fa_X1_31 (cqC_1 hs) rfl ?_
                refine vIloadN F dX1_findWays_121 (k := 2) rfl ?_
                refine vIloadN F dX1_findWays_122 (k := 1) rfl ?_
                refine vCallS F (d' := 0) (As := [.int (s16.1), .int (s14.1)]) (st := [.ref (gr G 6)]) dX1_findWays_123 lk_X1_70 my_X6_index sy_X6_index (by decide) rfl rfl (Nat.le_of_ble_eq_true rfl) (NB_index_ok hG hs ?_)
                show mjV G X 5 126 [(0, .ref (gr G 1)), (1, .int (s14.1)), (2, .int (s16.1)), (3, .int (s18.1))] [.int (NB_index (s16.1) (s14.1)), .ref (gr G 6)] (s18.2) P
                obtain ⟨g20, h⟩ := okga h
                refine vIald F dX1_findWays_126 (cqC_6 hs) g20 ?_
                refine vAloadN F dX1_findWays_127 (k := 0) rfl ?_
                refine vGetR F (t := 6) dX1_findWays_128 fa_X1_31 (cqC_1 hs) rfl ?_
                refine vIloadN F dX1_findWays_131 (k := 1) rfl ?_
                refine vIloadN F dX1_findWays_132 (k := 3) rfl ?_
                refine vCallS F (d' := 0) (As := [.int (s14.1), .int (s18.1)]) (st := [.ref (gr G 6), .int ((s18.2).1 6 (NB_index (s16.1) (s14.1)).toNatClampNeg)]) dX1_findWays_133 lk_X1_70 my_X6_index sy_X6_index (by decide) rfl rfl (Nat.le_of_ble_eq_true rfl) (NB_index_ok hG hs ?_)
                show mjV G X 5 136 [(0, .ref (gr G 1)), (1, .int (s14.1)), (2, .int (s16.1)), (3, .int (s18.1))] [.int (NB_index (s14.1) (s18.1)), .ref (gr G 6), .int ((s18.2).1 6 (NB_index (s16.1) (s14.1)).toNatClampNeg)] (s18.2) P
                obtain ⟨g21, h⟩ := okga h
                refine vIald F dX1_findWays_136 (cqC_6 hs) g21 ?_
                refine vIadd F dX1_findWays_137 ?_
                refine vIstore F (L' := [(4, .int (((s18.2).1 6 (NB_index (s16.1) (s14.1)).toNatClampNeg) + ((s18.2).1 6 (NB_index (s14.1) (s18.1)).toNatClampNeg))), (0, .ref (gr G 1)), (1, .int (s14.1)), (2, .int (s16.1)), (3, .int (s18.1))]) dX1_findWays_138 (by decide) rfl ?_
                refine vAloadN F dX1_findWays_140 (k := 1) rfl ?_
                refine vGetR F (t := 6) dX1_findWays_141 fa_X1_31 (cqC_1 hs) rfl ?_
                refine vIloadN F dX1_findWays_144 (k := 3) rfl ?_
                refine vIloadN F dX1_findWays_145 (k := 4) rfl ?_
                refine vCallS F (d' := 0) (As := [.int (s16.1), .int (s18.1)]) (st := [.ref (gr G 6)]) dX1_findWays_146 lk_X1_70 my_X6_index sy_X6_index (by decide) rfl rfl (Nat.le_of_ble_eq_true rfl) (NB_index_ok hG hs ?_)
                show mjV G X 5 149 [(4, .int (((s18.2).1 6 (NB_index (s16.1) (s14.1)).toNatClampNeg) + ((s18.2).1 6 (NB_index (s14.1) (s18.1)).toNatClampNeg))), (0, .ref (gr G 1)), (1, .int (s14.1)), (2, .int (s16.1)), (3, .int (s18.1))] [.int (NB_index (s16.1) (s18.1)), .ref (gr G 6)] (s18.2) P
                refine vAloadN F dX1_findWays_149 (k := 1) rfl ?_
                refine vGetR F (t := 6) dX1_findWays_150 fa_X1_31 (cqC_1 hs) rfl ?_
                refine vIloadN F dX1_findWays_153 (k := 3) rfl ?_
                refine vIloadN F dX1_findWays_154 (k := 4) rfl ?_
                refine vCallS F (d' := 0) (As := [.int (s16.1), .int (s18.1)]) (st := [.ref (gr G 6), .int (NB_index (s16.1) (s18.1)), .ref (gr G 6)]) dX1_findWays_155 lk_X1_70 my_X6_index sy_X6_index (by decide) rfl rfl (Nat.le_of_ble_eq_true rfl) (NB_index_ok hG hs ?_)
                show mjV G X 5 158 [(4, .int (((s18.2).1 6 (NB_index (s16.1) (s14.1)).toNatClampNeg) + ((s18.2).1 6 (NB_index (s14.1) (s18.1)).toNatClampNeg))), (0, .ref (gr G 1)), (1, .int (s14.1)), (2, .int (s16.1)), (3, .int (s18.1))] [.int (NB_index (s16.1) (s18.1)), .ref (gr G 6), .int (NB_index (s16.1) (s18.1)), .ref (gr G 6)] (s18.2) P
                obtain ⟨g22, h⟩ := okga h
                refine vIald F dX1_findWays_158 (cqC_6 hs) g22 ?_
                refine vIload F dX1_findWays_159 (k := 0) rfl ?_
                refine vMin F dX1_findWays_161 km_X1_74 (Nat.le_of_ble_eq_true rfl) ?_
                obtain ⟨g23, h⟩ := okga h
                refine vIast F dX1_findWays_164 (cqC_6 hs) g23 ?_
                refine vIinc F (v := 1) (k := 4) (L' := [(3, .int ((s18.1) + 1)), (4, .int (((s18.2).1 6 (NB_index (s16.1) (s14.1)).toNatClampNeg) + ((s18.2).1 6 (NB_index (s14.1) (s18.1)).toNatClampNeg))), (0, .ref (gr G 1)), (1, .int (s14.1)), (2, .int (s16.1))]) dX1_findWays_165 rfl k_1 (by decide) rfl ?_
                refine vGoto F (tgt := 106) dX1_findWays_168 (by decide) ?_
                refine vSub [2, 3, 4, 0] rfl ?_
                have z := okL h
                exact z
  · unfold Jo_findWays_l2 at h
    refine vIloadN F dX1_findWays_2 (k := 1) rfl ?_
    refine vAloadN F dX1_findWays_3 (k := 0) rfl ?_
    refine vGetR F (t := 11) dX1_findWays_4 fa_X1_12 (cqC_1 hs) rfl ?_
    refine vGetI F dX1_findWays_7 fa_X1_51 (is_X5_11 hs).1 rfl ?_
    refine vIcmpGe F (tgt := 78) dX1_findWays_10 (by decide) (fun c13 => ?_) (fun c13 => ?_)
    · replace h := okT h c13
      refine vSub [0] rfl ?_
      have z := okR h
      exact z
    · replace h := okF h c13
      refine vIconst F (v := 0) dX1_findWays_13 k_0 ?_
      refine vIstoreN F (L' := [(2, .int 0), (0, .ref (gr G 1)), (1, .int (s1.1))]) dX1_findWays_14 rfl (by decide) rfl ?_
      refine vSub [1, 2, 0] rfl ?_
      refine okLoop (s0 := (0, s1.2)) (T := (fun (s3 : Int32 × Mm) => mjV G X 5 15 [(0, .ref (gr G 1)), (1, .int (s1.1)), (2, .int (s3.1))] [] (s3.2) P)) (Ve := (fun (e4 : Mm) => mjV G X 5 72 [(0, .ref (gr G 1)), (1, .int (s1.1))] [] e4 P)) h ?_ (fun s3 h => ?_)
      · intro e4 h
        refine vIinc F (v := 1) (k := 1) (L' := [(1, .int ((s1.1) + 1)), (0, .ref (gr G 1))]) dX1_findWays_72 rfl k_1 (by decide) rfl ?_
        refine vGoto F (tgt := 2) dX1_findWays_75 (by decide) ?_
        refine vSub [1, 0] rfl ?_
        have z := okL h
        exact z
      · unfold Jo_findWays_l15 at h
        refine vIloadN F dX1_findWays_15 (k := 2) rfl ?_
        refine vAloadN F dX1_findWays_16 (k := 0) rfl ?_
        refine vGetR F (t := 11) dX1_findWays_17 fa_X1_12 (cqC_1 hs) rfl ?_
        refine vGetI F dX1_findWays_20 fa_X1_51 (is_X5_11 hs).1 rfl ?_
        refine vIcmpGe F (tgt := 72) dX1_findWays_23 (by decide) (fun c11 => ?_) (fun c11 => ?_)
        · replace h := okT h c11
          refine vSub [0, 1] rfl ?_
          have z := okR h
          exact z
        · replace h := okF h c11
          refine vAloadN F dX1_findWays_26 (k := 0) rfl ?_
          refine vGetR F (t := 5) dX1_findWays_27 fa_X1_28 (cqC_1 hs) rfl ?_
          refine vIloadN F dX1_findWays_30 (k := 1) rfl ?_
          refine vIloadN F dX1_findWays_31 (k := 2) rfl ?_
          refine vCallS F (d' := 0) (As := [.int (s1.1), .int (s3.1)]) (st := [.ref (gr G 5)]) dX1_findWays_32 lk_X1_70 my_X6_index sy_X6_index (by decide) rfl rfl (Nat.le_of_ble_eq_true rfl) (NB_index_ok hG hs ?_)
          show mjV G X 5 35 [(0, .ref (gr G 1)), (1, .int (s1.1)), (2, .int (s3.1))] [.int (NB_index (s1.1) (s3.1)), .ref (gr G 5)] (s3.2) P
          obtain ⟨g5, h⟩ := okga h
          refine vIald F dX1_findWays_35 (cqC_5 hs) g5 ?_
          refine vIstoreN F (L' := [(3, .int ((s3.2).1 5 (NB_index (s1.1) (s3.1)).toNatClampNeg)), (0, .ref (gr G 1)), (1, .int (s1.1)), (2, .int (s3.1))]) dX1_findWays_36 rfl (by decide) rfl ?_
          refine vAloadN F dX1_findWays_37 (k := 1) rfl ?_
          refine vGetR F (t := 6) dX1_findWays_38 fa_X1_31 (cqC_1 hs) rfl ?_
          refine vIloadN F dX1_findWays_41 (k := 2) rfl ?_
          refine vIloadN F dX1_findWays_42 (k := 3) rfl ?_
          refine vCallS F (d' := 0) (As := [.int (s1.1), .int (s3.1)]) (st := [.ref (gr G 6)]) dX1_findWays_43 lk_X1_70 my_X6_index sy_X6_index (by decide) rfl rfl (Nat.le_of_ble_eq_true rfl) (NB_index_ok hG hs ?_)
          show mjV G X 5 46 [(3, .int ((s3.2).1 5 (NB_index (s1.1) (s3.1)).toNatClampNeg)), (0, .ref (gr G 1)), (1, .int (s1.1)), (2, .int (s3.1))] [.int (NB_index (s1.1) (s3.1)), .ref (gr G 6)] (s3.2) P
          refine vIloadN F dX1_findWays_46 (k := 2) rfl ?_
          refine vIloadN F dX1_findWays_47 (k := 3) rfl ?_
          refine vIcmpNe F (tgt := 55) dX1_findWays_48 (by decide) (fun c10 => ?_) (fun c10 => ?_)
          · replace h := okF h c10
            refine vIloadN F dX1_findWays_55 (k := 0) rfl ?_
            refine vIfLe F (tgt := 63) dX1_findWays_56 (by decide) (fun c8 => ?_) (fun c8 => ?_)
            · replace h := okT h c8
              refine vLdc F dX1_findWays_63 kc_X1_79 ?_
              obtain ⟨g6, h⟩ := okga h
              refine vIast F dX1_findWays_65 (cqC_6 hs) g6 ?_
              refine vIinc F (v := 1) (k := 3) (L' := [(2, .int ((s3.1) + 1)), (3, .int ((s3.2).1 5 (NB_index (s1.1) (s3.1)).toNatClampNeg)), (0, .ref (gr G 1)), (1, .int (s1.1))]) dX1_findWays_66 rfl k_1 (by decide) rfl ?_
              refine vGoto F (tgt := 15) dX1_findWays_69 (by decide) ?_
              refine vSub [2, 3, 0] rfl ?_
              have z := okL h
              exact z
            · replace h := okF h c8
              refine vIloadN F dX1_findWays_59 (k := 0) rfl ?_
              refine vGoto F (tgt := 65) dX1_findWays_60 (by decide) ?_
              obtain ⟨g7, h⟩ := okga h
              refine vIast F dX1_findWays_65 (cqC_6 hs) g7 ?_
              refine vIinc F (v := 1) (k := 3) (L' := [(2, .int ((s3.1) + 1)), (3, .int ((s3.2).1 5 (NB_index (s1.1) (s3.1)).toNatClampNeg)), (0, .ref (gr G 1)), (1, .int (s1.1))]) dX1_findWays_66 rfl k_1 (by decide) rfl ?_
              refine vGoto F (tgt := 15) dX1_findWays_69 (by decide) ?_
              refine vSub [2, 3, 0] rfl ?_
              have z := okL h
              exact z
          · replace h := okT h c10
            refine vIconst F (v := 0) dX1_findWays_51 k_0 ?_
            refine vGoto F (tgt := 65) dX1_findWays_52 (by decide) ?_
            obtain ⟨g9, h⟩ := okga h
            refine vIast F dX1_findWays_65 (cqC_6 hs) g9 ?_
            refine vIinc F (v := 1) (k := 3) (L' := [(2, .int ((s3.1) + 1)), (3, .int ((s3.2).1 5 (NB_index (s1.1) (s3.1)).toNatClampNeg)), (0, .ref (gr G 1)), (1, .int (s1.1))]) dX1_findWays_66 rfl k_1 (by decide) rfl ?_
            refine vGoto F (tgt := 15) dX1_findWays_69 (by decide) ?_
            refine vSub [2, 3, 0] rfl ?_
            have z := okL h
            exact z
def Jo_leads (m : Mm) (a1 : Int32) (a2 : Int32) : Option (Bool) :=
  ga (NB_index a1 a2) 49 (if 1000000 ≤ (m.1 6 (NB_index a1 a2).toNatClampNeg) then
 (some false)
 else (some true))
set_option maxRecDepth 20000 in
set_option maxHeartbeats 4000000 in
theorem Jo_leads_ok {G : Gw} (hG : gOk G) (hs : gsh G = shC) {a1 : Int32} {a2 : Int32} {m : Mm} {P : Option Value → Mm → Prop} (h : mjO (Jo_leads m a1 a2) (fun r => P (some (.int (bI r))) m)) : mjR G 1 yX1_leads cX1_leads 3 (some .boolean) [.ref (gr G 1), .int a1, .int a2] m P := by
  refine mjR_of hG (by decide) (Nat.le_of_ble_eq_true rfl) ?_
  intro X F
  have F : mjF G X cX1_leads RX1 3 1 (some .boolean) := F
  show mjV G X 3 0 [(0, .ref (gr G 1)), (1, .int a1), (2, .int a2)] [] m P
  unfold Jo_leads at h
  refine vAloadN F dX1_leads_0 (k := 0) rfl ?_
  refine vGetR F (t := 6) dX1_leads_1 fa_X1_31 (cqC_1 hs) rfl ?_
  refine vIloadN F dX1_leads_4 (k := 1) rfl ?_
  refine vIloadN F dX1_leads_5 (k := 2) rfl ?_
  refine vCallS F (d' := 0) (As := [.int a1, .int a2]) (st := [.ref (gr G 6)]) dX1_leads_6 lk_X1_70 my_X6_index sy_X6_index (by decide) rfl rfl (Nat.le_of_ble_eq_true rfl) (NB_index_ok hG hs ?_)
  show mjV G X 3 9 [(0, .ref (gr G 1)), (1, .int a1), (2, .int a2)] [.int (NB_index a1 a2), .ref (gr G 6)] m P
  obtain ⟨g1, h⟩ := okga h
  refine vIald F dX1_leads_9 (cqC_6 hs) g1 ?_
  refine vLdc F dX1_leads_10 kc_X1_79 ?_
  refine vIcmpGe F (tgt := 19) dX1_leads_12 (by decide) (fun c2 => ?_) (fun c2 => ?_)
  · replace h := okT h c2
    refine vIconst F (v := 0) dX1_leads_19 k_0 ?_
    have z := okS h
    exact vZret (x := bI false) F dX1_leads_20 (nzI _) z
  · replace h := okF h c2
    refine vIconst F (v := 1) dX1_leads_15 k_1 ?_
    refine vGoto F (tgt := 20) dX1_leads_16 (by decide) ?_
    have z := okS h
    exact vZret (x := bI true) F dX1_leads_20 (nzI _) z
def Jo_firstOfWay_l19 (m : Mm) (a1 : Int32) (a2 : Int32) (s2 : Int32) : Option ((Int32) ⊕ (Unit ⊕ Int32)) :=
  if (m.1 11 0) ≤ s2 then
 (some (.inr (.inl ())))
 else (ga (NB_index a1 s2) 49 (if (m.1 5 (NB_index a1 s2).toNatClampNeg) ≤ 0 then
 (some (.inl (s2 + 1)))
 else (ga (NB_index s2 a2) 49 (ga (NB_index a1 a2) 49 (if ((m.1 5 (NB_index a1 s2).toNatClampNeg) + (m.1 6 (NB_index s2 a2).toNatClampNeg)) = (m.1 6 (NB_index a1 a2).toNatClampNeg) then
 (some (.inr (.inr s2)))
 else (some (.inl (s2 + 1))))))))
noncomputable def Jo_firstOfWay (m : Mm) (a1 : Int32) (a2 : Int32) : Option (Int32) :=
  if a1 = a2 then
 (some (-5))
 else ((Jo_leads m a1 a2).bind fun r1 =>
  if r1 = true then
 ((iter (Jo_firstOfWay_l19 m a1 a2) (0)).bind (Sum.elim (fun e3 => some (-5)) (fun v10 => some v10)))
 else (some (-5)))
set_option maxRecDepth 20000 in
set_option maxHeartbeats 4000000 in
theorem Jo_firstOfWay_ok {G : Gw} (hG : gOk G) (hs : gsh G = shC) {a1 : Int32} {a2 : Int32} {m : Mm} {P : Option Value → Mm → Prop} (h : mjO (Jo_firstOfWay m a1 a2) (fun r => P (some (.int r)) m)) : mjR G 2 yX1_firstOfWay cX1_firstOfWay 5 (some .int) [.ref (gr G 1), .int a1, .int a2] m P := by
  refine mjR_of hG (by decide) (Nat.le_of_ble_eq_true rfl) ?_
  intro X F
  have F : mjF G X cX1_firstOfWay RX1 5 2 (some .int) := F
  show mjV G X 5 0 [(0, .ref (gr G 1)), (1, .int a1), (2, .int a2)] [] m P
  unfold Jo_firstOfWay at h
  refine vIloadN F dX1_firstOfWay_0 (k := 1) rfl ?_
  refine vIloadN F dX1_firstOfWay_1 (k := 2) rfl ?_
  refine vIcmpEq F (tgt := 14) dX1_firstOfWay_2 (by decide) (fun c13 => ?_) (fun c13 => ?_)
  · replace h := okT h c13
    refine vBipush F (v := (-5)) dX1_firstOfWay_14 kb_m5 ?_
    have z := okS h
    exact vIret F dX1_firstOfWay_16 z
  · replace h := okF h c13
    refine vAloadN F dX1_firstOfWay_5 (k := 0) rfl ?_
    refine vIloadN F dX1_firstOfWay_6 (k := 1) rfl ?_
    refine vIloadN F dX1_firstOfWay_7 (k := 2) rfl ?_
    refine vCallV F (d' := 1) (x := 1) (T := TX1) (N := 15) (As := [.int a1, .int a2]) (st := []) dX1_firstOfWay_8 lk_X1_83 my_X1_leads mv_X1_leads (cqC_1 hs) rfl (by decide) rfl rfl (Nat.le_of_ble_eq_true rfl) (Jo_leads_ok hG hs (okB h fun r1 h => ?_))
    show mjV G X 5 11 [(0, .ref (gr G 1)), (1, .int a1), (2, .int a2)] [.int (bI r1)] m P
    refine vIfNeB F (tgt := 17) dX1_firstOfWay_11 (by decide) (fun c12 => ?_) (fun c12 => ?_)
    · replace h := okT h c12
      refine vIconst F (v := 0) dX1_firstOfWay_17 k_0 ?_
      refine vIstoreN F (L' := [(3, .int 0), (0, .ref (gr G 1)), (1, .int a1), (2, .int a2)]) dX1_firstOfWay_18 rfl (by decide) rfl ?_
      refine vSub [1, 2, 3, 0] rfl ?_
      refine okLoop (s0 := (0)) (T := (fun (s2 : Int32) => mjV G X 5 19 [(0, .ref (gr G 1)), (1, .int a1), (2, .int a2), (3, .int s2)] [] m P)) (Ve := (Sum.elim (fun (e3 : Unit) => mjV G X 5 81 [] [] m P) (fun (v10 : Int32) => P (some (.int v10)) m))) h ?_ (fun s2 h => ?_)
      · intro q h
        rcases q with e3 | v10
        · refine vBipush F (v := (-5)) dX1_firstOfWay_81 kb_m5 ?_
          have z := okS h
          exact vIret F dX1_firstOfWay_83 z
        · have z := okS h
          exact z
      · unfold Jo_firstOfWay_l19 at h
        refine vIloadN F dX1_firstOfWay_19 (k := 3) rfl ?_
        refine vAloadN F dX1_firstOfWay_20 (k := 0) rfl ?_
        refine vGetR F (t := 11) dX1_firstOfWay_21 fa_X1_12 (cqC_1 hs) rfl ?_
        refine vGetI F dX1_firstOfWay_24 fa_X1_51 (is_X5_11 hs).1 rfl ?_
        refine vIcmpGe F (tgt := 81) dX1_firstOfWay_27 (by decide) (fun c9 => ?_) (fun c9 => ?_)
        · replace h := okT h c9
          refine vSub [] rfl ?_
          have z := okR h
          exact z
        · replace h := okF h c9
          refine vAloadN F dX1_firstOfWay_30 (k := 0) rfl ?_
          refine vGetR F (t := 5) dX1_firstOfWay_31 fa_X1_28 (cqC_1 hs) rfl ?_
          refine vIloadN F dX1_firstOfWay_34 (k := 1) rfl ?_
          refine vIloadN F dX1_firstOfWay_35 (k := 3) rfl ?_
          refine vCallS F (d' := 0) (As := [.int a1, .int s2]) (st := [.ref (gr G 5)]) dX1_firstOfWay_36 lk_X1_70 my_X6_index sy_X6_index (by decide) rfl rfl (Nat.le_of_ble_eq_true rfl) (NB_index_ok hG hs ?_)
          show mjV G X 5 39 [(0, .ref (gr G 1)), (1, .int a1), (2, .int a2), (3, .int s2)] [.int (NB_index a1 s2), .ref (gr G 5)] m P
          obtain ⟨g4, h⟩ := okga h
          refine vIald F dX1_firstOfWay_39 (cqC_5 hs) g4 ?_
          refine vIstore F (L' := [(4, .int (m.1 5 (NB_index a1 s2).toNatClampNeg)), (0, .ref (gr G 1)), (1, .int a1), (2, .int a2), (3, .int s2)]) dX1_firstOfWay_40 (by decide) rfl ?_
          refine vIload F dX1_firstOfWay_42 (k := 0) rfl ?_
          refine vIfLe F (tgt := 75) dX1_firstOfWay_44 (by decide) (fun c8 => ?_) (fun c8 => ?_)
          · replace h := okT h c8
            refine vIinc F (v := 1) (k := 4) (L' := [(3, .int (s2 + 1)), (4, .int (m.1 5 (NB_index a1 s2).toNatClampNeg)), (0, .ref (gr G 1)), (1, .int a1), (2, .int a2)]) dX1_firstOfWay_75 rfl k_1 (by decide) rfl ?_
            refine vGoto F (tgt := 19) dX1_firstOfWay_78 (by decide) ?_
            refine vSub [2, 3, 4, 0] rfl ?_
            have z := okL h
            exact z
          · replace h := okF h c8
            refine vIload F dX1_firstOfWay_47 (k := 0) rfl ?_
            refine vAloadN F dX1_firstOfWay_49 (k := 1) rfl ?_
            refine vGetR F (t := 6) dX1_firstOfWay_50 fa_X1_31 (cqC_1 hs) rfl ?_
            refine vIloadN F dX1_firstOfWay_53 (k := 4) rfl ?_
            refine vIloadN F dX1_firstOfWay_54 (k := 3) rfl ?_
            refine vCallS F (d' := 0) (As := [.int s2, .int a2]) (st := [.ref (gr G 6), .int (m.1 5 (NB_index a1 s2).toNatClampNeg)]) dX1_firstOfWay_55 lk_X1_70 my_X6_index sy_X6_index (by decide) rfl rfl (Nat.le_of_ble_eq_true rfl) (NB_index_ok hG hs ?_)
            show mjV G X 5 58 [(4, .int (m.1 5 (NB_index a1 s2).toNatClampNeg)), (0, .ref (gr G 1)), (1, .int a1), (2, .int a2), (3, .int s2)] [.int (NB_index s2 a2), .ref (gr G 6), .int (m.1 5 (NB_index a1 s2).toNatClampNeg)] m P
            obtain ⟨g5, h⟩ := okga h
            refine vIald F dX1_firstOfWay_58 (cqC_6 hs) g5 ?_
            refine vIadd F dX1_firstOfWay_59 ?_
            refine vAloadN F dX1_firstOfWay_60 (k := 1) rfl ?_
            refine vGetR F (t := 6) dX1_firstOfWay_61 fa_X1_31 (cqC_1 hs) rfl ?_
            refine vIloadN F dX1_firstOfWay_64 (k := 2) rfl ?_
            refine vIloadN F dX1_firstOfWay_65 (k := 3) rfl ?_
            refine vCallS F (d' := 0) (As := [.int a1, .int a2]) (st := [.ref (gr G 6), .int ((m.1 5 (NB_index a1 s2).toNatClampNeg) + (m.1 6 (NB_index s2 a2).toNatClampNeg))]) dX1_firstOfWay_66 lk_X1_70 my_X6_index sy_X6_index (by decide) rfl rfl (Nat.le_of_ble_eq_true rfl) (NB_index_ok hG hs ?_)
            show mjV G X 5 69 [(4, .int (m.1 5 (NB_index a1 s2).toNatClampNeg)), (0, .ref (gr G 1)), (1, .int a1), (2, .int a2), (3, .int s2)] [.int (NB_index a1 a2), .ref (gr G 6), .int ((m.1 5 (NB_index a1 s2).toNatClampNeg) + (m.1 6 (NB_index s2 a2).toNatClampNeg))] m P
            obtain ⟨g6, h⟩ := okga h
            refine vIald F dX1_firstOfWay_69 (cqC_6 hs) g6 ?_
            refine vIcmpNe F (tgt := 75) dX1_firstOfWay_70 (by decide) (fun c7 => ?_) (fun c7 => ?_)
            · replace h := okF h c7
              refine vIinc F (v := 1) (k := 4) (L' := [(3, .int (s2 + 1)), (4, .int (m.1 5 (NB_index a1 s2).toNatClampNeg)), (0, .ref (gr G 1)), (1, .int a1), (2, .int a2)]) dX1_firstOfWay_75 rfl k_1 (by decide) rfl ?_
              refine vGoto F (tgt := 19) dX1_firstOfWay_78 (by decide) ?_
              refine vSub [2, 3, 4, 0] rfl ?_
              have z := okL h
              exact z
            · replace h := okT h c7
              refine vIloadN F dX1_firstOfWay_73 (k := 4) rfl ?_
              have z := okR h
              exact vIret F dX1_firstOfWay_74 z
    · replace h := okF h c12
      refine vBipush F (v := (-5)) dX1_firstOfWay_14 kb_m5 ?_
      have z := okS h
      exact vIret F dX1_firstOfWay_16 z
noncomputable def Jo_findTowards_l15 (s1 : Int32 × Mm) (s3 : Int32 × Mm) : Option ((Int32 × Mm) ⊕ Mm) :=
  if ((s3.2).1 11 0) ≤ (s3.1) then
 (some (.inr (s3.2)))
 else ((Jo_firstOfWay (s3.2) (s1.1) (s3.1)).bind fun r5 =>
  ga (NB_index (s1.1) (s3.1)) 49 (some (.inl ((s3.1) + 1, si (s3.2) 7 (NB_index (s1.1) (s3.1)).toNatClampNeg r5))))
noncomputable def Jo_findTowards_l2  (s1 : Int32 × Mm) : Option ((Int32 × Mm) ⊕ Mm) :=
  if ((s1.2).1 11 0) ≤ (s1.1) then
 (some (.inr (s1.2)))
 else ((iter (Jo_findTowards_l15 s1) (0, s1.2)).bind fun e4 =>
  some (.inl ((s1.1) + 1, e4)))
noncomputable def Jo_findTowards (m : Mm) : Option (Mm) :=
  (iter (Jo_findTowards_l2) (0, m)).bind fun e2 =>
  some e2
set_option maxRecDepth 20000 in
set_option maxHeartbeats 4000000 in
theorem Jo_findTowards_ok {G : Gw} (hG : gOk G) (hs : gsh G = shC) {m : Mm} {P : Option Value → Mm → Prop} (h : mjO (Jo_findTowards m) (fun r => P none r)) : mjR G 3 yX1_findTowards cX1_findTowards 3 none [.ref (gr G 1)] m P := by
  refine mjR_of hG (by decide) (Nat.le_of_ble_eq_true rfl) ?_
  intro X F
  have F : mjF G X cX1_findTowards RX1 3 3 none := F
  show mjV G X 3 0 [(0, .ref (gr G 1))] [] m P
  unfold Jo_findTowards at h
  refine vIconst F (v := 0) dX1_findTowards_0 k_0 ?_
  refine vIstoreN F (L' := [(1, .int 0), (0, .ref (gr G 1))]) dX1_findTowards_1 rfl (by decide) rfl ?_
  refine vSub [1, 0] rfl ?_
  refine okLoop (s0 := (0, m)) (T := (fun (s1 : Int32 × Mm) => mjV G X 3 2 [(0, .ref (gr G 1)), (1, .int (s1.1))] [] (s1.2) P)) (Ve := (fun (e2 : Mm) => mjV G X 3 54 [] [] e2 P)) h ?_ (fun s1 h => ?_)
  · intro e2 h
    have z := okS h
    exact vVret F dX1_findTowards_54 z
  · unfold Jo_findTowards_l2 at h
    refine vIloadN F dX1_findTowards_2 (k := 1) rfl ?_
    refine vAloadN F dX1_findTowards_3 (k := 0) rfl ?_
    refine vGetR F (t := 11) dX1_findTowards_4 fa_X1_12 (cqC_1 hs) rfl ?_
    refine vGetI F dX1_findTowards_7 fa_X1_51 (is_X5_11 hs).1 rfl ?_
    refine vIcmpGe F (tgt := 54) dX1_findTowards_10 (by decide) (fun c9 => ?_) (fun c9 => ?_)
    · replace h := okT h c9
      refine vSub [] rfl ?_
      have z := okR h
      exact z
    · replace h := okF h c9
      refine vIconst F (v := 0) dX1_findTowards_13 k_0 ?_
      refine vIstoreN F (L' := [(2, .int 0), (0, .ref (gr G 1)), (1, .int (s1.1))]) dX1_findTowards_14 rfl (by decide) rfl ?_
      refine vSub [1, 2, 0] rfl ?_
      refine okLoop (s0 := (0, s1.2)) (T := (fun (s3 : Int32 × Mm) => mjV G X 3 15 [(0, .ref (gr G 1)), (1, .int (s1.1)), (2, .int (s3.1))] [] (s3.2) P)) (Ve := (fun (e4 : Mm) => mjV G X 3 48 [(0, .ref (gr G 1)), (1, .int (s1.1))] [] e4 P)) h ?_ (fun s3 h => ?_)
      · intro e4 h
        refine vIinc F (v := 1) (k := 1) (L' := [(1, .int ((s1.1) + 1)), (0, .ref (gr G 1))]) dX1_findTowards_48 rfl k_1 (by decide) rfl ?_
        refine vGoto F (tgt := 2) dX1_findTowards_51 (by decide) ?_
        refine vSub [1, 0] rfl ?_
        have z := okL h
        exact z
      · unfold Jo_findTowards_l15 at h
        refine vIloadN F dX1_findTowards_15 (k := 2) rfl ?_
        refine vAloadN F dX1_findTowards_16 (k := 0) rfl ?_
        refine vGetR F (t := 11) dX1_findTowards_17 fa_X1_12 (cqC_1 hs) rfl ?_
        refine vGetI F dX1_findTowards_20 fa_X1_51 (is_X5_11 hs).1 rfl ?_
        refine vIcmpGe F (tgt := 48) dX1_findTowards_23 (by decide) (fun c7 => ?_) (fun c7 => ?_)
        · replace h := okT h c7
          refine vSub [0, 1] rfl ?_
          have z := okR h
          exact z
        · replace h := okF h c7
          refine vAloadN F dX1_findTowards_26 (k := 0) rfl ?_
          refine vGetR F (t := 7) dX1_findTowards_27 fa_X1_34 (cqC_1 hs) rfl ?_
          refine vIloadN F dX1_findTowards_30 (k := 1) rfl ?_
          refine vIloadN F dX1_findTowards_31 (k := 2) rfl ?_
          refine vCallS F (d' := 0) (As := [.int (s1.1), .int (s3.1)]) (st := [.ref (gr G 7)]) dX1_findTowards_32 lk_X1_70 my_X6_index sy_X6_index (by decide) rfl rfl (Nat.le_of_ble_eq_true rfl) (NB_index_ok hG hs ?_)
          show mjV G X 3 35 [(0, .ref (gr G 1)), (1, .int (s1.1)), (2, .int (s3.1))] [.int (NB_index (s1.1) (s3.1)), .ref (gr G 7)] (s3.2) P
          refine vAloadN F dX1_findTowards_35 (k := 0) rfl ?_
          refine vIloadN F dX1_findTowards_36 (k := 1) rfl ?_
          refine vIloadN F dX1_findTowards_37 (k := 2) rfl ?_
          refine vCallV F (d' := 2) (x := 1) (T := TX1) (N := 15) (As := [.int (s1.1), .int (s3.1)]) (st := [.int (NB_index (s1.1) (s3.1)), .ref (gr G 7)]) dX1_findTowards_38 lk_X1_80 my_X1_firstOfWay mv_X1_firstOfWay (cqC_1 hs) rfl (by decide) rfl rfl (Nat.le_of_ble_eq_true rfl) (Jo_firstOfWay_ok hG hs (okB h fun r5 h => ?_))
          show mjV G X 3 41 [(0, .ref (gr G 1)), (1, .int (s1.1)), (2, .int (s3.1))] [.int r5, .int (NB_index (s1.1) (s3.1)), .ref (gr G 7)] (s3.2) P
          obtain ⟨g6, h⟩ := okga h
          refine vIast F dX1_findTowards_41 (cqC_7 hs) g6 ?_
          refine vIinc F (v := 1) (k := 2) (L' := [(2, .int ((s3.1) + 1)), (0, .ref (gr G 1)), (1, .int (s1.1))]) dX1_findTowards_42 rfl k_1 (by decide) rfl ?_
          refine vGoto F (tgt := 15) dX1_findTowards_45 (by decide) ?_
          refine vSub [1, 2, 0] rfl ?_
          have z := okL h
          exact z
def Wo_names (x : Nat) (m : Mm) (a1 : Int32) (a2 : Int32) : Option (Bool) :=
  ga a1 7 (if ((m.1 (x + 5) a1.toNatClampNeg) &&& (1 <<< (a2 &&& 31))) = 0 then
 (some false)
 else (some true))
set_option maxRecDepth 20000 in
set_option maxHeartbeats 4000000 in
theorem Wo_names_ok {G : Gw} (hG : gOk G) (hs : gsh G = shC) {x : Nat} (hx : is_X5 (gsh G) x) {a1 : Int32} {a2 : Int32} {m : Mm} {P : Option Value → Mm → Prop} (h : mjO (Wo_names x m a1 a2) (fun r => P (some (.int (bI r))) m)) : mjR G 0 yX5_names cX5_names 3 (some .boolean) [.ref (gr G x), .int a1, .int a2] m P := by
  refine mjR_of hG (by decide) (Nat.le_of_ble_eq_true rfl) ?_
  intro X F
  have F : mjF G X cX5_names RX5 3 0 (some .boolean) := F
  show mjV G X 3 0 [(0, .ref (gr G x)), (1, .int a1), (2, .int a2)] [] m P
  unfold Wo_names at h
  refine vAloadN F dX5_names_0 (k := 0) rfl ?_
  refine vGetR F (t := x + 5) dX5_names_1 fa_X5_24 hx.1 rfl ?_
  refine vIloadN F dX5_names_4 (k := 1) rfl ?_
  obtain ⟨g1, h⟩ := okga h
  refine vIald F dX5_names_5 hx.2.2.2.2.2.1 g1 ?_
  refine vIconst F (v := 1) dX5_names_6 k_1 ?_
  refine vIloadN F dX5_names_7 (k := 2) rfl ?_
  refine vIshl F dX5_names_8 ?_
  refine vIand F dX5_names_9 ?_
  refine vIfEq F (tgt := 17) dX5_names_10 (by decide) (fun c2 => ?_) (fun c2 => ?_)
  · replace h := okT h c2
    refine vIconst F (v := 0) dX5_names_17 k_0 ?_
    have z := okS h
    exact vZret (x := bI false) F dX5_names_18 (nzI _) z
  · replace h := okF h c2
    refine vIconst F (v := 1) dX5_names_13 k_1 ?_
    refine vGoto F (tgt := 18) dX5_names_14 (by decide) ?_
    have z := okS h
    exact vZret (x := bI true) F dX5_names_18 (nzI _) z
def Jo_capitalOf (m : Mm) (a1 : Int32) : Option (Int32) :=
  if (m.1 11 0) ≤ 0 then
 (some a1)
 else (ga a1 7 (gz (m.1 11 0) (some ((m.1 (11 + 2) a1.toNatClampNeg) - (m.1 (11 + 2) a1.toNatClampNeg) / (m.1 11 0) * (m.1 11 0)))))
set_option maxRecDepth 20000 in
set_option maxHeartbeats 4000000 in
theorem Jo_capitalOf_ok {G : Gw} (hG : gOk G) (hs : gsh G = shC) {a1 : Int32} {m : Mm} {P : Option Value → Mm → Prop} (h : mjO (Jo_capitalOf m a1) (fun r => P (some (.int r)) m)) : mjR G 0 yX1_capitalOf cX1_capitalOf 2 (some .int) [.ref (gr G 1), .int a1] m P := by
  refine mjR_of hG (by decide) (Nat.le_of_ble_eq_true rfl) ?_
  intro X F
  have F : mjF G X cX1_capitalOf RX1 2 0 (some .int) := F
  show mjV G X 2 0 [(0, .ref (gr G 1)), (1, .int a1)] [] m P
  unfold Jo_capitalOf at h
  refine vAloadN F dX1_capitalOf_0 (k := 0) rfl ?_
  refine vGetR F (t := 11) dX1_capitalOf_1 fa_X1_12 (cqC_1 hs) rfl ?_
  refine vGetI F dX1_capitalOf_4 fa_X1_51 (is_X5_11 hs).1 rfl ?_
  refine vIfLe F (tgt := 30) dX1_capitalOf_7 (by decide) (fun c3 => ?_) (fun c3 => ?_)
  · replace h := okT h c3
    refine vIloadN F dX1_capitalOf_30 (k := 1) rfl ?_
    have z := okS h
    exact vIret F dX1_capitalOf_31 z
  · replace h := okF h c3
    refine vAloadN F dX1_capitalOf_10 (k := 0) rfl ?_
    refine vGetR F (t := 11) dX1_capitalOf_11 fa_X1_12 (cqC_1 hs) rfl ?_
    refine vGetR F (t := 11 + 2) dX1_capitalOf_14 fa_X1_118 (is_X5_11 hs).1 rfl ?_
    refine vIloadN F dX1_capitalOf_17 (k := 1) rfl ?_
    obtain ⟨g1, h⟩ := okga h
    refine vIald F dX1_capitalOf_18 (is_X5_11 hs).2.2.1 g1 ?_
    refine vAloadN F dX1_capitalOf_19 (k := 0) rfl ?_
    refine vGetR F (t := 11) dX1_capitalOf_20 fa_X1_12 (cqC_1 hs) rfl ?_
    refine vGetI F dX1_capitalOf_23 fa_X1_51 (is_X5_11 hs).1 rfl ?_
    obtain ⟨g2, h⟩ := okgz h
    refine vIrem F dX1_capitalOf_26 g2 ?_
    refine vGoto F (tgt := 31) dX1_capitalOf_27 (by decide) ?_
    have z := okS h
    exact vIret F dX1_capitalOf_31 z
def Jo_leastNamed_l2 (m : Mm) (a1 : Int32) (s1 : Int32) : Option ((Int32) ⊕ (Unit ⊕ Int32)) :=
  if (m.1 11 0) ≤ s1 then
 (some (.inr (.inl ())))
 else ((Wo_names 11 m a1 s1).bind fun r3 =>
  if r3 = true then
 (some (.inr (.inr s1)))
 else (some (.inl (s1 + 1))))
noncomputable def Jo_leastNamed (m : Mm) (a1 : Int32) : Option (Int32) :=
  (iter (Jo_leastNamed_l2 m a1) (0)).bind (Sum.elim (fun e2 => some (-1)) (fun v6 => some v6))
set_option maxRecDepth 20000 in
set_option maxHeartbeats 4000000 in
theorem Jo_leastNamed_ok {G : Gw} (hG : gOk G) (hs : gsh G = shC) {a1 : Int32} {m : Mm} {P : Option Value → Mm → Prop} (h : mjO (Jo_leastNamed m a1) (fun r => P (some (.int r)) m)) : mjR G 1 yX1_leastNamed cX1_leastNamed 3 (some .int) [.ref (gr G 1), .int a1] m P := by
  refine mjR_of hG (by decide) (Nat.le_of_ble_eq_true rfl) ?_
  intro X F
  have F : mjF G X cX1_leastNamed RX1 3 1 (some .int) := F
  show mjV G X 3 0 [(0, .ref (gr G 1)), (1, .int a1)] [] m P
  unfold Jo_leastNamed at h
  refine vIconst F (v := 0) dX1_leastNamed_0 k_0 ?_
  refine vIstoreN F (L' := [(2, .int 0), (0, .ref (gr G 1)), (1, .int a1)]) dX1_leastNamed_1 rfl (by decide) rfl ?_
  refine vSub [1, 2, 0] rfl ?_
  refine okLoop (s0 := (0)) (T := (fun (s1 : Int32) => mjV G X 3 2 [(0, .ref (gr G 1)), (1, .int a1), (2, .int s1)] [] m P)) (Ve := (Sum.elim (fun (e2 : Unit) => mjV G X 3 33 [] [] m P) (fun (v6 : Int32) => P (some (.int v6)) m))) h ?_ (fun s1 h => ?_)
  · intro q h
    rcases q with e2 | v6
    · refine vIconst F (v := (-1)) dX1_leastNamed_33 k_m1 ?_
      have z := okS h
      exact vIret F dX1_leastNamed_34 z
    · have z := okS h
      exact z
  · unfold Jo_leastNamed_l2 at h
    refine vIloadN F dX1_leastNamed_2 (k := 2) rfl ?_
    refine vAloadN F dX1_leastNamed_3 (k := 0) rfl ?_
    refine vGetR F (t := 11) dX1_leastNamed_4 fa_X1_12 (cqC_1 hs) rfl ?_
    refine vGetI F dX1_leastNamed_7 fa_X1_51 (is_X5_11 hs).1 rfl ?_
    refine vIcmpGe F (tgt := 33) dX1_leastNamed_10 (by decide) (fun c5 => ?_) (fun c5 => ?_)
    · replace h := okT h c5
      refine vSub [] rfl ?_
      have z := okR h
      exact z
    · replace h := okF h c5
      refine vAloadN F dX1_leastNamed_13 (k := 0) rfl ?_
      refine vGetR F (t := 11) dX1_leastNamed_14 fa_X1_12 (cqC_1 hs) rfl ?_
      refine vIloadN F dX1_leastNamed_17 (k := 1) rfl ?_
      refine vIloadN F dX1_leastNamed_18 (k := 2) rfl ?_
      refine vCallV F (d' := 0) (x := 11) (T := TX5) (N := 13) (As := [.int a1, .int s1]) (st := []) dX1_leastNamed_19 lk_X1_96 my_X5_names mv_X5_names (is_X5_11 hs).1 rfl (by decide) rfl rfl (Nat.le_of_ble_eq_true rfl) (Wo_names_ok hG hs (is_X5_11 hs) (okB h fun r3 h => ?_))
      show mjV G X 3 22 [(0, .ref (gr G 1)), (1, .int a1), (2, .int s1)] [.int (bI r3)] m P
      refine vIfEqB F (tgt := 27) dX1_leastNamed_22 (by decide) (fun c4 => ?_) (fun c4 => ?_)
      · replace h := okF h c4
        refine vIinc F (v := 1) (k := 2) (L' := [(2, .int (s1 + 1)), (0, .ref (gr G 1)), (1, .int a1)]) dX1_leastNamed_27 rfl k_1 (by decide) rfl ?_
        refine vGoto F (tgt := 2) dX1_leastNamed_30 (by decide) ?_
        refine vSub [1, 2, 0] rfl ?_
        have z := okL h
        exact z
      · replace h := okT h c4
        refine vIloadN F dX1_leastNamed_25 (k := 2) rfl ?_
        have z := okR h
        exact vIret F dX1_leastNamed_26 z
def Jo_nearestNamed_l8 (m : Mm) (a1 : Int32) (s1 : Int32 × Int32 × Int32) : Option ((Int32 × Int32 × Int32) ⊕ Int32) :=
  if (m.1 11 0) ≤ (s1.2.2) then
 (some (.inr (s1.1)))
 else ((Wo_names 11 m a1 (s1.2.2)).bind fun r3 =>
  if r3 = true then
 (ga (NB_index a1 (s1.2.2)) 49 (if (s1.2.1) ≤ (m.1 6 (NB_index a1 (s1.2.2)).toNatClampNeg) then
 (some (.inl (s1.1, s1.2.1, (s1.2.2) + 1)))
 else (ga (NB_index a1 (s1.2.2)) 49 (some (.inl (s1.2.2, m.1 6 (NB_index a1 (s1.2.2)).toNatClampNeg, (s1.2.2) + 1))))))
 else (some (.inl (s1.1, s1.2.1, (s1.2.2) + 1))))
noncomputable def Jo_nearestNamed (m : Mm) (a1 : Int32) : Option (Int32) :=
  (iter (Jo_nearestNamed_l8 m a1) ((-1), 1000000, 0)).bind fun e2 =>
  some e2
set_option maxRecDepth 20000 in
set_option maxHeartbeats 4000000 in
theorem Jo_nearestNamed_ok {G : Gw} (hG : gOk G) (hs : gsh G = shC) {a1 : Int32} {m : Mm} {P : Option Value → Mm → Prop} (h : mjO (Jo_nearestNamed m a1) (fun r => P (some (.int r)) m)) : mjR G 1 yX1_nearestNamed cX1_nearestNamed 5 (some .int) [.ref (gr G 1), .int a1] m P := by
  refine mjR_of hG (by decide) (Nat.le_of_ble_eq_true rfl) ?_
  intro X F
  have F : mjF G X cX1_nearestNamed RX1 5 1 (some .int) := F
  show mjV G X 5 0 [(0, .ref (gr G 1)), (1, .int a1)] [] m P
  unfold Jo_nearestNamed at h
  refine vIconst F (v := (-1)) dX1_nearestNamed_0 k_m1 ?_
  refine vIstoreN F (L' := [(2, .int (-1)), (0, .ref (gr G 1)), (1, .int a1)]) dX1_nearestNamed_1 rfl (by decide) rfl ?_
  refine vLdc F dX1_nearestNamed_2 kc_X1_79 ?_
  refine vIstoreN F (L' := [(3, .int 1000000), (2, .int (-1)), (0, .ref (gr G 1)), (1, .int a1)]) dX1_nearestNamed_4 rfl (by decide) rfl ?_
  refine vIconst F (v := 0) dX1_nearestNamed_5 k_0 ?_
  refine vIstore F (L' := [(4, .int 0), (3, .int 1000000), (2, .int (-1)), (0, .ref (gr G 1)), (1, .int a1)]) dX1_nearestNamed_6 (by decide) rfl ?_
  refine vSub [3, 4, 2, 1, 0] rfl ?_
  refine okLoop (s0 := ((-1), 1000000, 0)) (T := (fun (s1 : Int32 × Int32 × Int32) => mjV G X 5 8 [(0, .ref (gr G 1)), (1, .int a1), (2, .int (s1.1)), (3, .int (s1.2.1)), (4, .int (s1.2.2))] [] m P)) (Ve := (fun (e2 : Int32) => mjV G X 5 69 [(2, .int e2)] [] m P)) h ?_ (fun s1 h => ?_)
  · intro e2 h
    refine vIloadN F dX1_nearestNamed_69 (k := 0) rfl ?_
    have z := okS h
    exact vIret F dX1_nearestNamed_70 z
  · unfold Jo_nearestNamed_l8 at h
    refine vIload F dX1_nearestNamed_8 (k := 4) rfl ?_
    refine vAloadN F dX1_nearestNamed_10 (k := 0) rfl ?_
    refine vGetR F (t := 11) dX1_nearestNamed_11 fa_X1_12 (cqC_1 hs) rfl ?_
    refine vGetI F dX1_nearestNamed_14 fa_X1_51 (is_X5_11 hs).1 rfl ?_
    refine vIcmpGe F (tgt := 69) dX1_nearestNamed_17 (by decide) (fun c8 => ?_) (fun c8 => ?_)
    · replace h := okT h c8
      refine vSub [2] rfl ?_
      have z := okR h
      exact z
    · replace h := okF h c8
      refine vAloadN F dX1_nearestNamed_20 (k := 0) rfl ?_
      refine vGetR F (t := 11) dX1_nearestNamed_21 fa_X1_12 (cqC_1 hs) rfl ?_
      refine vIloadN F dX1_nearestNamed_24 (k := 1) rfl ?_
      refine vIload F dX1_nearestNamed_25 (k := 4) rfl ?_
      refine vCallV F (d' := 0) (x := 11) (T := TX5) (N := 13) (As := [.int a1, .int (s1.2.2)]) (st := []) dX1_nearestNamed_27 lk_X1_96 my_X5_names mv_X5_names (is_X5_11 hs).1 rfl (by decide) rfl rfl (Nat.le_of_ble_eq_true rfl) (Wo_names_ok hG hs (is_X5_11 hs) (okB h fun r3 h => ?_))
      show mjV G X 5 30 [(0, .ref (gr G 1)), (1, .int a1), (2, .int (s1.1)), (3, .int (s1.2.1)), (4, .int (s1.2.2))] [.int (bI r3)] m P
      refine vIfEqB F (tgt := 63) dX1_nearestNamed_30 (by decide) (fun c7 => ?_) (fun c7 => ?_)
      · replace h := okF h c7
        refine vIinc F (v := 1) (k := 4) (L' := [(4, .int ((s1.2.2) + 1)), (0, .ref (gr G 1)), (1, .int a1), (2, .int (s1.1)), (3, .int (s1.2.1))]) dX1_nearestNamed_63 rfl k_1 (by decide) rfl ?_
        refine vGoto F (tgt := 8) dX1_nearestNamed_66 (by decide) ?_
        refine vSub [1, 2, 3, 4, 0] rfl ?_
        have z := okL h
        exact z
      · replace h := okT h c7
        refine vAloadN F dX1_nearestNamed_33 (k := 0) rfl ?_
        refine vGetR F (t := 6) dX1_nearestNamed_34 fa_X1_31 (cqC_1 hs) rfl ?_
        refine vIloadN F dX1_nearestNamed_37 (k := 1) rfl ?_
        refine vIload F dX1_nearestNamed_38 (k := 4) rfl ?_
        refine vCallS F (d' := 0) (As := [.int a1, .int (s1.2.2)]) (st := [.ref (gr G 6)]) dX1_nearestNamed_40 lk_X1_70 my_X6_index sy_X6_index (by decide) rfl rfl (Nat.le_of_ble_eq_true rfl) (NB_index_ok hG hs ?_)
        show mjV G X 5 43 [(0, .ref (gr G 1)), (1, .int a1), (2, .int (s1.1)), (3, .int (s1.2.1)), (4, .int (s1.2.2))] [.int (NB_index a1 (s1.2.2)), .ref (gr G 6)] m P
        obtain ⟨g4, h⟩ := okga h
        refine vIald F dX1_nearestNamed_43 (cqC_6 hs) g4 ?_
        refine vIloadN F dX1_nearestNamed_44 (k := 3) rfl ?_
        refine vIcmpGe F (tgt := 63) dX1_nearestNamed_45 (by decide) (fun c6 => ?_) (fun c6 => ?_)
        · replace h := okT h c6
          refine vIinc F (v := 1) (k := 4) (L' := [(4, .int ((s1.2.2) + 1)), (0, .ref (gr G 1)), (1, .int a1), (2, .int (s1.1)), (3, .int (s1.2.1))]) dX1_nearestNamed_63 rfl k_1 (by decide) rfl ?_
          refine vGoto F (tgt := 8) dX1_nearestNamed_66 (by decide) ?_
          refine vSub [1, 2, 3, 4, 0] rfl ?_
          have z := okL h
          exact z
        · replace h := okF h c6
          refine vIload F dX1_nearestNamed_48 (k := 4) rfl ?_
          refine vIstoreN F (L' := [(2, .int (s1.2.2)), (0, .ref (gr G 1)), (1, .int a1), (3, .int (s1.2.1)), (4, .int (s1.2.2))]) dX1_nearestNamed_50 rfl (by decide) rfl ?_
          refine vAloadN F dX1_nearestNamed_51 (k := 1) rfl ?_
          refine vGetR F (t := 6) dX1_nearestNamed_52 fa_X1_31 (cqC_1 hs) rfl ?_
          refine vIloadN F dX1_nearestNamed_55 (k := 2) rfl ?_
          refine vIload F dX1_nearestNamed_56 (k := 4) rfl ?_
          refine vCallS F (d' := 0) (As := [.int a1, .int (s1.2.2)]) (st := [.ref (gr G 6)]) dX1_nearestNamed_58 lk_X1_70 my_X6_index sy_X6_index (by decide) rfl rfl (Nat.le_of_ble_eq_true rfl) (NB_index_ok hG hs ?_)
          show mjV G X 5 61 [(2, .int (s1.2.2)), (0, .ref (gr G 1)), (1, .int a1), (3, .int (s1.2.1)), (4, .int (s1.2.2))] [.int (NB_index a1 (s1.2.2)), .ref (gr G 6)] m P
          obtain ⟨g5, h⟩ := okga h
          refine vIald F dX1_nearestNamed_61 (cqC_6 hs) g5 ?_
          refine vIstoreN F (L' := [(3, .int (m.1 6 (NB_index a1 (s1.2.2)).toNatClampNeg)), (2, .int (s1.2.2)), (0, .ref (gr G 1)), (1, .int a1), (4, .int (s1.2.2))]) dX1_nearestNamed_62 rfl (by decide) rfl ?_
          refine vIinc F (v := 1) (k := 4) (L' := [(4, .int ((s1.2.2) + 1)), (3, .int (m.1 6 (NB_index a1 (s1.2.2)).toNatClampNeg)), (2, .int (s1.2.2)), (0, .ref (gr G 1)), (1, .int a1)]) dX1_nearestNamed_63 rfl k_1 (by decide) rfl ?_
          refine vGoto F (tgt := 8) dX1_nearestNamed_66 (by decide) ?_
          refine vSub [3, 4, 2, 1, 0] rfl ?_
          have z := okL h
          exact z
def Jo_greatestNamed_l7 (m : Mm) (a1 : Int32) (s1 : Int32 × Int32 × Int32) : Option ((Int32 × Int32 × Int32) ⊕ Int32) :=
  if (m.1 11 0) ≤ (s1.2.2) then
 (some (.inr (s1.1)))
 else ((Wo_names 11 m a1 (s1.2.2)).bind fun r3 =>
  if r3 = true then
 (ga (s1.2.2) 7 (if (m.1 3 (s1.2.2).toNatClampNeg) ≤ (s1.2.1) then
 (some (.inl (s1.1, s1.2.1, (s1.2.2) + 1)))
 else (ga (s1.2.2) 7 (some (.inl (s1.2.2, m.1 3 (s1.2.2).toNatClampNeg, (s1.2.2) + 1))))))
 else (some (.inl (s1.1, s1.2.1, (s1.2.2) + 1))))
noncomputable def Jo_greatestNamed (m : Mm) (a1 : Int32) : Option (Int32) :=
  (iter (Jo_greatestNamed_l7 m a1) ((-1), (-1), 0)).bind fun e2 =>
  some e2
set_option maxRecDepth 20000 in
set_option maxHeartbeats 4000000 in
theorem Jo_greatestNamed_ok {G : Gw} (hG : gOk G) (hs : gsh G = shC) {a1 : Int32} {m : Mm} {P : Option Value → Mm → Prop} (h : mjO (Jo_greatestNamed m a1) (fun r => P (some (.int r)) m)) : mjR G 1 yX1_greatestNamed cX1_greatestNamed 5 (some .int) [.ref (gr G 1), .int a1] m P := by
  refine mjR_of hG (by decide) (Nat.le_of_ble_eq_true rfl) ?_
  intro X F
  have F : mjF G X cX1_greatestNamed RX1 5 1 (some .int) := F
  show mjV G X 5 0 [(0, .ref (gr G 1)), (1, .int a1)] [] m P
  unfold Jo_greatestNamed at h
  refine vIconst F (v := (-1)) dX1_greatestNamed_0 k_m1 ?_
  refine vIstoreN F (L' := [(2, .int (-1)), (0, .ref (gr G 1)), (1, .int a1)]) dX1_greatestNamed_1 rfl (by decide) rfl ?_
  refine vIconst F (v := (-1)) dX1_greatestNamed_2 k_m1 ?_
  refine vIstoreN F (L' := [(3, .int (-1)), (2, .int (-1)), (0, .ref (gr G 1)), (1, .int a1)]) dX1_greatestNamed_3 rfl (by decide) rfl ?_
  refine vIconst F (v := 0) dX1_greatestNamed_4 k_0 ?_
  refine vIstore F (L' := [(4, .int 0), (3, .int (-1)), (2, .int (-1)), (0, .ref (gr G 1)), (1, .int a1)]) dX1_greatestNamed_5 (by decide) rfl ?_
  refine vSub [3, 4, 2, 1, 0] rfl ?_
  refine okLoop (s0 := ((-1), (-1), 0)) (T := (fun (s1 : Int32 × Int32 × Int32) => mjV G X 5 7 [(0, .ref (gr G 1)), (1, .int a1), (2, .int (s1.1)), (3, .int (s1.2.1)), (4, .int (s1.2.2))] [] m P)) (Ve := (fun (e2 : Int32) => mjV G X 5 60 [(2, .int e2)] [] m P)) h ?_ (fun s1 h => ?_)
  · intro e2 h
    refine vIloadN F dX1_greatestNamed_60 (k := 0) rfl ?_
    have z := okS h
    exact vIret F dX1_greatestNamed_61 z
  · unfold Jo_greatestNamed_l7 at h
    refine vIload F dX1_greatestNamed_7 (k := 4) rfl ?_
    refine vAloadN F dX1_greatestNamed_9 (k := 0) rfl ?_
    refine vGetR F (t := 11) dX1_greatestNamed_10 fa_X1_12 (cqC_1 hs) rfl ?_
    refine vGetI F dX1_greatestNamed_13 fa_X1_51 (is_X5_11 hs).1 rfl ?_
    refine vIcmpGe F (tgt := 60) dX1_greatestNamed_16 (by decide) (fun c8 => ?_) (fun c8 => ?_)
    · replace h := okT h c8
      refine vSub [2] rfl ?_
      have z := okR h
      exact z
    · replace h := okF h c8
      refine vAloadN F dX1_greatestNamed_19 (k := 0) rfl ?_
      refine vGetR F (t := 11) dX1_greatestNamed_20 fa_X1_12 (cqC_1 hs) rfl ?_
      refine vIloadN F dX1_greatestNamed_23 (k := 1) rfl ?_
      refine vIload F dX1_greatestNamed_24 (k := 4) rfl ?_
      refine vCallV F (d' := 0) (x := 11) (T := TX5) (N := 13) (As := [.int a1, .int (s1.2.2)]) (st := []) dX1_greatestNamed_26 lk_X1_96 my_X5_names mv_X5_names (is_X5_11 hs).1 rfl (by decide) rfl rfl (Nat.le_of_ble_eq_true rfl) (Wo_names_ok hG hs (is_X5_11 hs) (okB h fun r3 h => ?_))
      show mjV G X 5 29 [(0, .ref (gr G 1)), (1, .int a1), (2, .int (s1.1)), (3, .int (s1.2.1)), (4, .int (s1.2.2))] [.int (bI r3)] m P
      refine vIfEqB F (tgt := 54) dX1_greatestNamed_29 (by decide) (fun c7 => ?_) (fun c7 => ?_)
      · replace h := okF h c7
        refine vIinc F (v := 1) (k := 4) (L' := [(4, .int ((s1.2.2) + 1)), (0, .ref (gr G 1)), (1, .int a1), (2, .int (s1.1)), (3, .int (s1.2.1))]) dX1_greatestNamed_54 rfl k_1 (by decide) rfl ?_
        refine vGoto F (tgt := 7) dX1_greatestNamed_57 (by decide) ?_
        refine vSub [1, 2, 3, 4, 0] rfl ?_
        have z := okL h
        exact z
      · replace h := okT h c7
        refine vAloadN F dX1_greatestNamed_32 (k := 0) rfl ?_
        refine vGetR F (t := 3) dX1_greatestNamed_33 fa_X1_22 (cqC_1 hs) rfl ?_
        refine vIload F dX1_greatestNamed_36 (k := 4) rfl ?_
        obtain ⟨g4, h⟩ := okga h
        refine vIald F dX1_greatestNamed_38 (cqC_3 hs) g4 ?_
        refine vIloadN F dX1_greatestNamed_39 (k := 3) rfl ?_
        refine vIcmpLe F (tgt := 54) dX1_greatestNamed_40 (by decide) (fun c6 => ?_) (fun c6 => ?_)
        · replace h := okT h c6
          refine vIinc F (v := 1) (k := 4) (L' := [(4, .int ((s1.2.2) + 1)), (0, .ref (gr G 1)), (1, .int a1), (2, .int (s1.1)), (3, .int (s1.2.1))]) dX1_greatestNamed_54 rfl k_1 (by decide) rfl ?_
          refine vGoto F (tgt := 7) dX1_greatestNamed_57 (by decide) ?_
          refine vSub [1, 2, 3, 4, 0] rfl ?_
          have z := okL h
          exact z
        · replace h := okF h c6
          refine vIload F dX1_greatestNamed_43 (k := 4) rfl ?_
          refine vIstoreN F (L' := [(2, .int (s1.2.2)), (0, .ref (gr G 1)), (1, .int a1), (3, .int (s1.2.1)), (4, .int (s1.2.2))]) dX1_greatestNamed_45 rfl (by decide) rfl ?_
          refine vAloadN F dX1_greatestNamed_46 (k := 1) rfl ?_
          refine vGetR F (t := 3) dX1_greatestNamed_47 fa_X1_22 (cqC_1 hs) rfl ?_
          refine vIload F dX1_greatestNamed_50 (k := 4) rfl ?_
          obtain ⟨g5, h⟩ := okga h
          refine vIald F dX1_greatestNamed_52 (cqC_3 hs) g5 ?_
          refine vIstoreN F (L' := [(3, .int (m.1 3 (s1.2.2).toNatClampNeg)), (2, .int (s1.2.2)), (0, .ref (gr G 1)), (1, .int a1), (4, .int (s1.2.2))]) dX1_greatestNamed_53 rfl (by decide) rfl ?_
          refine vIinc F (v := 1) (k := 4) (L' := [(4, .int ((s1.2.2) + 1)), (3, .int (m.1 3 (s1.2.2).toNatClampNeg)), (2, .int (s1.2.2)), (0, .ref (gr G 1)), (1, .int a1)]) dX1_greatestNamed_54 rfl k_1 (by decide) rfl ?_
          refine vGoto F (tgt := 7) dX1_greatestNamed_57 (by decide) ?_
          refine vSub [3, 4, 2, 1, 0] rfl ?_
          have z := okL h
          exact z
def Jo_lastNamed_l10 (m : Mm) (a1 : Int32) (s1 : Int32) : Option ((Int32) ⊕ (Unit ⊕ Int32)) :=
  if s1 < 0 then
 (some (.inr (.inl ())))
 else ((Wo_names 11 m a1 s1).bind fun r3 =>
  if r3 = true then
 (some (.inr (.inr s1)))
 else (some (.inl (s1 + (-1)))))
noncomputable def Jo_lastNamed (m : Mm) (a1 : Int32) : Option (Int32) :=
  (iter (Jo_lastNamed_l10 m a1) ((m.1 11 0) - 1)).bind (Sum.elim (fun e2 => some (-1)) (fun v6 => some v6))
set_option maxRecDepth 20000 in
set_option maxHeartbeats 4000000 in
theorem Jo_lastNamed_ok {G : Gw} (hG : gOk G) (hs : gsh G = shC) {a1 : Int32} {m : Mm} {P : Option Value → Mm → Prop} (h : mjO (Jo_lastNamed m a1) (fun r => P (some (.int r)) m)) : mjR G 1 yX1_lastNamed cX1_lastNamed 3 (some .int) [.ref (gr G 1), .int a1] m P := by
  refine mjR_of hG (by decide) (Nat.le_of_ble_eq_true rfl) ?_
  intro X F
  have F : mjF G X cX1_lastNamed RX1 3 1 (some .int) := F
  show mjV G X 3 0 [(0, .ref (gr G 1)), (1, .int a1)] [] m P
  unfold Jo_lastNamed at h
  refine vAloadN F dX1_lastNamed_0 (k := 0) rfl ?_
  refine vGetR F (t := 11) dX1_lastNamed_1 fa_X1_12 (cqC_1 hs) rfl ?_
  refine vGetI F dX1_lastNamed_4 fa_X1_51 (is_X5_11 hs).1 rfl ?_
  refine vIconst F (v := 1) dX1_lastNamed_7 k_1 ?_
  refine vIsub F dX1_lastNamed_8 ?_
  refine vIstoreN F (L' := [(2, .int ((m.1 11 0) - 1)), (0, .ref (gr G 1)), (1, .int a1)]) dX1_lastNamed_9 rfl (by decide) rfl ?_
  refine vSub [1, 2, 0] rfl ?_
  refine okLoop (s0 := ((m.1 11 0) - 1)) (T := (fun (s1 : Int32) => mjV G X 3 10 [(0, .ref (gr G 1)), (1, .int a1), (2, .int s1)] [] m P)) (Ve := (Sum.elim (fun (e2 : Unit) => mjV G X 3 34 [] [] m P) (fun (v6 : Int32) => P (some (.int v6)) m))) h ?_ (fun s1 h => ?_)
  · intro q h
    rcases q with e2 | v6
    · refine vIconst F (v := (-1)) dX1_lastNamed_34 k_m1 ?_
      have z := okS h
      exact vIret F dX1_lastNamed_35 z
    · have z := okS h
      exact z
  · unfold Jo_lastNamed_l10 at h
    refine vIloadN F dX1_lastNamed_10 (k := 2) rfl ?_
    refine vIfLt F (tgt := 34) dX1_lastNamed_11 (by decide) (fun c5 => ?_) (fun c5 => ?_)
    · replace h := okT h c5
      refine vSub [] rfl ?_
      have z := okR h
      exact z
    · replace h := okF h c5
      refine vAloadN F dX1_lastNamed_14 (k := 0) rfl ?_
      refine vGetR F (t := 11) dX1_lastNamed_15 fa_X1_12 (cqC_1 hs) rfl ?_
      refine vIloadN F dX1_lastNamed_18 (k := 1) rfl ?_
      refine vIloadN F dX1_lastNamed_19 (k := 2) rfl ?_
      refine vCallV F (d' := 0) (x := 11) (T := TX5) (N := 13) (As := [.int a1, .int s1]) (st := []) dX1_lastNamed_20 lk_X1_96 my_X5_names mv_X5_names (is_X5_11 hs).1 rfl (by decide) rfl rfl (Nat.le_of_ble_eq_true rfl) (Wo_names_ok hG hs (is_X5_11 hs) (okB h fun r3 h => ?_))
      show mjV G X 3 23 [(0, .ref (gr G 1)), (1, .int a1), (2, .int s1)] [.int (bI r3)] m P
      refine vIfEqB F (tgt := 28) dX1_lastNamed_23 (by decide) (fun c4 => ?_) (fun c4 => ?_)
      · replace h := okF h c4
        refine vIinc F (v := (-1)) (k := 2) (L' := [(2, .int (s1 + (-1))), (0, .ref (gr G 1)), (1, .int a1)]) dX1_lastNamed_28 rfl k_m1 (by decide) rfl ?_
        refine vGoto F (tgt := 10) dX1_lastNamed_31 (by decide) ?_
        refine vSub [1, 2, 0] rfl ?_
        have z := okL h
        exact z
      · replace h := okT h c4
        refine vIloadN F dX1_lastNamed_26 (k := 2) rfl ?_
        have z := okR h
        exact vIret F dX1_lastNamed_27 z
noncomputable def Jo_aimAt (m : Mm) (a1 : Int32) (a2 : Int32) : Option (Int32) :=
  (Wo_names 11 m a1 a2).bind fun r1 =>
  if r1 = true then
 (some a2)
 else (ga (NB_index a1 a2) 49 (if (m.1 5 (NB_index a1 a2).toNatClampNeg) ≤ 0 then
 (ga a1 7 (jn (fun (e4 : Unit) => ga a1 7 (if (m.1 (11 + 1) a1.toNatClampNeg) = 0 then
 ((Jo_leastNamed m a1).bind fun r11 =>
  some r11)
 else (if (m.1 (11 + 1) a1.toNatClampNeg) = 1 then
 ((Jo_nearestNamed m a1).bind fun r13 =>
  some r13)
 else (if (m.1 (11 + 1) a1.toNatClampNeg) = 2 then
 ((Jo_greatestNamed m a1).bind fun r15 =>
  some r15)
 else (if (m.1 (11 + 1) a1.toNatClampNeg) = 3 then
 ((Jo_lastNamed m a1).bind fun r17 =>
  some r17)
 else (if (m.1 (11 + 1) a1.toNatClampNeg) = 4 then
 (some a2)
 else (if (m.1 (11 + 1) a1.toNatClampNeg) = 5 then
 ((Jo_greatestNamed m a1).bind fun r20 =>
  some r20)
 else (ga a1 7 (if (m.1 (11 + 2) a1.toNatClampNeg) ≤ 4 then
 (some (-1))
 else ((Jo_lastNamed m a1).bind fun r8 =>
  some r8)))))))))) fun j5 =>
  if (m.1 (11 + 1) a1.toNatClampNeg) = 5 then
 ((Jo_capitalOf m a1).bind fun r21 =>
  if r21 = a1 then
 (j5 ())
 else ((Jo_capitalOf m a1).bind fun r22 =>
  some r22))
 else (j5 ())))
 else (some a2)))
set_option maxRecDepth 20000 in
set_option maxHeartbeats 4000000 in
theorem Jo_aimAt_ok {G : Gw} (hG : gOk G) (hs : gsh G = shC) {a1 : Int32} {a2 : Int32} {m : Mm} {P : Option Value → Mm → Prop} (h : mjO (Jo_aimAt m a1 a2) (fun r => P (some (.int r)) m)) : mjR G 2 yX1_aimAt cX1_aimAt 3 (some .int) [.ref (gr G 1), .int a1, .int a2] m P := by
  refine mjR_of hG (by decide) (Nat.le_of_ble_eq_true rfl) ?_
  intro X F
  have F : mjF G X cX1_aimAt RX1 3 2 (some .int) := F
  show mjV G X 3 0 [(0, .ref (gr G 1)), (1, .int a1), (2, .int a2)] [] m P
  unfold Jo_aimAt at h
  refine vAloadN F dX1_aimAt_0 (k := 0) rfl ?_
  refine vGetR F (t := 11) dX1_aimAt_1 fa_X1_12 (cqC_1 hs) rfl ?_
  refine vIloadN F dX1_aimAt_4 (k := 1) rfl ?_
  refine vIloadN F dX1_aimAt_5 (k := 2) rfl ?_
  refine vCallV F (d' := 0) (x := 11) (T := TX5) (N := 13) (As := [.int a1, .int a2]) (st := []) dX1_aimAt_6 lk_X1_96 my_X5_names mv_X5_names (is_X5_11 hs).1 rfl (by decide) rfl rfl (Nat.le_of_ble_eq_true rfl) (Wo_names_ok hG hs (is_X5_11 hs) (okB h fun r1 h => ?_))
  show mjV G X 3 9 [(0, .ref (gr G 1)), (1, .int a1), (2, .int a2)] [.int (bI r1)] m P
  refine vIfNeB F (tgt := 25) dX1_aimAt_9 (by decide) (fun c26 => ?_) (fun c26 => ?_)
  · replace h := okT h c26
    refine vIloadN F dX1_aimAt_25 (k := 2) rfl ?_
    have z := okS h
    exact vIret F dX1_aimAt_26 z
  · replace h := okF h c26
    refine vAloadN F dX1_aimAt_12 (k := 0) rfl ?_
    refine vGetR F (t := 5) dX1_aimAt_13 fa_X1_28 (cqC_1 hs) rfl ?_
    refine vIloadN F dX1_aimAt_16 (k := 1) rfl ?_
    refine vIloadN F dX1_aimAt_17 (k := 2) rfl ?_
    refine vCallS F (d' := 0) (As := [.int a1, .int a2]) (st := [.ref (gr G 5)]) dX1_aimAt_18 lk_X1_70 my_X6_index sy_X6_index (by decide) rfl rfl (Nat.le_of_ble_eq_true rfl) (NB_index_ok hG hs ?_)
    show mjV G X 3 21 [(0, .ref (gr G 1)), (1, .int a1), (2, .int a2)] [.int (NB_index a1 a2), .ref (gr G 5)] m P
    obtain ⟨g2, h⟩ := okga h
    refine vIald F dX1_aimAt_21 (cqC_5 hs) g2 ?_
    refine vIfLe F (tgt := 27) dX1_aimAt_22 (by decide) (fun c25 => ?_) (fun c25 => ?_)
    · replace h := okT h c25
      refine vAloadN F dX1_aimAt_27 (k := 0) rfl ?_
      refine vGetR F (t := 11) dX1_aimAt_28 fa_X1_12 (cqC_1 hs) rfl ?_
      refine vGetR F (t := 11 + 1) dX1_aimAt_31 fa_X1_99 (is_X5_11 hs).1 rfl ?_
      refine vIloadN F dX1_aimAt_34 (k := 1) rfl ?_
      obtain ⟨g3, h⟩ := okga h
      refine vIald F dX1_aimAt_35 (is_X5_11 hs).2.1 g3 ?_
      refine vIconst F (v := 5) dX1_aimAt_36 k_5 ?_
      refine okJ (Vj := fun (e4 : Unit) => mjV G X 3 55 [(0, .ref (gr G 1)), (1, .int a1), (2, .int a2)] [] m P) h (fun e4 h => ?_) (fun j5 Jj5 h => ?_)
      · refine vAloadN F dX1_aimAt_55 (k := 0) rfl ?_
        refine vGetR F (t := 11) dX1_aimAt_56 fa_X1_12 (cqC_1 hs) rfl ?_
        refine vGetR F (t := 11 + 1) dX1_aimAt_59 fa_X1_99 (is_X5_11 hs).1 rfl ?_
        refine vIloadN F dX1_aimAt_62 (k := 1) rfl ?_
        obtain ⟨g6, h⟩ := okga h
        refine vIald F dX1_aimAt_63 (is_X5_11 hs).2.1 g6 ?_
        by_cases c10 : (m.1 (11 + 1) a1.toNatClampNeg) = 0
        · replace h := okT h c10
          refine vTabIn F (tgt := 104) dX1_aimAt_64 c10 (by decide) (by decide) rfl (by decide) ?_
          refine vAloadN F dX1_aimAt_104 (k := 0) rfl ?_
          refine vIloadN F dX1_aimAt_105 (k := 1) rfl ?_
          refine vCallV F (d' := 1) (x := 1) (T := TX1) (N := 15) (As := [.int a1]) (st := []) dX1_aimAt_106 lk_X1_106 my_X1_leastNamed mv_X1_leastNamed (cqC_1 hs) rfl (by decide) rfl rfl (Nat.le_of_ble_eq_true rfl) (Jo_leastNamed_ok hG hs (okB h fun r11 h => ?_))
          show mjV G X 3 109 [(0, .ref (gr G 1)), (1, .int a1), (2, .int a2)] [.int r11] m P
          have z := okS h
          exact vIret F dX1_aimAt_109 z
        replace h := okF h c10
        by_cases c12 : (m.1 (11 + 1) a1.toNatClampNeg) = 1
        · replace h := okT h c12
          refine vTabIn F (tgt := 110) dX1_aimAt_64 c12 (by decide) (by decide) rfl (by decide) ?_
          refine vAloadN F dX1_aimAt_110 (k := 0) rfl ?_
          refine vIloadN F dX1_aimAt_111 (k := 1) rfl ?_
          refine vCallV F (d' := 1) (x := 1) (T := TX1) (N := 15) (As := [.int a1]) (st := []) dX1_aimAt_112 lk_X1_109 my_X1_nearestNamed mv_X1_nearestNamed (cqC_1 hs) rfl (by decide) rfl rfl (Nat.le_of_ble_eq_true rfl) (Jo_nearestNamed_ok hG hs (okB h fun r13 h => ?_))
          show mjV G X 3 115 [(0, .ref (gr G 1)), (1, .int a1), (2, .int a2)] [.int r13] m P
          have z := okS h
          exact vIret F dX1_aimAt_115 z
        replace h := okF h c12
        by_cases c14 : (m.1 (11 + 1) a1.toNatClampNeg) = 2
        · replace h := okT h c14
          refine vTabIn F (tgt := 116) dX1_aimAt_64 c14 (by decide) (by decide) rfl (by decide) ?_
          refine vAloadN F dX1_aimAt_116 (k := 0) rfl ?_
          refine vIloadN F dX1_aimAt_117 (k := 1) rfl ?_
          refine vCallV F (d' := 1) (x := 1) (T := TX1) (N := 15) (As := [.int a1]) (st := []) dX1_aimAt_118 lk_X1_112 my_X1_greatestNamed mv_X1_greatestNamed (cqC_1 hs) rfl (by decide) rfl rfl (Nat.le_of_ble_eq_true rfl) (Jo_greatestNamed_ok hG hs (okB h fun r15 h => ?_))
          show mjV G X 3 121 [(0, .ref (gr G 1)), (1, .int a1), (2, .int a2)] [.int r15] m P
          have z := okS h
          exact vIret F dX1_aimAt_121 z
        replace h := okF h c14
        by_cases c16 : (m.1 (11 + 1) a1.toNatClampNeg) = 3
        · replace h := okT h c16
          refine vTabIn F (tgt := 122) dX1_aimAt_64 c16 (by decide) (by decide) rfl (by decide) ?_
          refine vAloadN F dX1_aimAt_122 (k := 0) rfl ?_
          refine vIloadN F dX1_aimAt_123 (k := 1) rfl ?_
          refine vCallV F (d' := 1) (x := 1) (T := TX1) (N := 15) (As := [.int a1]) (st := []) dX1_aimAt_124 lk_X1_115 my_X1_lastNamed mv_X1_lastNamed (cqC_1 hs) rfl (by decide) rfl rfl (Nat.le_of_ble_eq_true rfl) (Jo_lastNamed_ok hG hs (okB h fun r17 h => ?_))
          show mjV G X 3 127 [(0, .ref (gr G 1)), (1, .int a1), (2, .int a2)] [.int r17] m P
          have z := okS h
          exact vIret F dX1_aimAt_127 z
        replace h := okF h c16
        by_cases c18 : (m.1 (11 + 1) a1.toNatClampNeg) = 4
        · replace h := okT h c18
          refine vTabIn F (tgt := 128) dX1_aimAt_64 c18 (by decide) (by decide) rfl (by decide) ?_
          refine vIloadN F dX1_aimAt_128 (k := 2) rfl ?_
          have z := okS h
          exact vIret F dX1_aimAt_129 z
        replace h := okF h c18
        by_cases c19 : (m.1 (11 + 1) a1.toNatClampNeg) = 5
        · replace h := okT h c19
          refine vTabIn F (tgt := 130) dX1_aimAt_64 c19 (by decide) (by decide) rfl (by decide) ?_
          refine vAloadN F dX1_aimAt_130 (k := 0) rfl ?_
          refine vIloadN F dX1_aimAt_131 (k := 1) rfl ?_
          refine vCallV F (d' := 1) (x := 1) (T := TX1) (N := 15) (As := [.int a1]) (st := []) dX1_aimAt_132 lk_X1_112 my_X1_greatestNamed mv_X1_greatestNamed (cqC_1 hs) rfl (by decide) rfl rfl (Nat.le_of_ble_eq_true rfl) (Jo_greatestNamed_ok hG hs (okB h fun r20 h => ?_))
          show mjV G X 3 135 [(0, .ref (gr G 1)), (1, .int a1), (2, .int a2)] [.int r20] m P
          have z := okS h
          exact vIret F dX1_aimAt_135 z
        replace h := okF h c19
        replace c10 := lv_neT c10 (a := 0) (by decide)
        replace c12 := lv_neT c12 (a := 1) (by decide)
        replace c14 := lv_neT c14 (a := 2) (by decide)
        replace c16 := lv_neT c16 (a := 3) (by decide)
        replace c18 := lv_neT c18 (a := 4) (by decide)
        replace c19 := lv_neT c19 (a := 5) (by decide)
        refine vTabOut F (tgt := 136) dX1_aimAt_64 (by omega) (by decide) ?_
        refine vAloadN F dX1_aimAt_136 (k := 0) rfl ?_
        refine vGetR F (t := 11) dX1_aimAt_137 fa_X1_12 (cqC_1 hs) rfl ?_
        refine vGetR F (t := 11 + 2) dX1_aimAt_140 fa_X1_118 (is_X5_11 hs).1 rfl ?_
        refine vIloadN F dX1_aimAt_143 (k := 1) rfl ?_
        obtain ⟨g7, h⟩ := okga h
        refine vIald F dX1_aimAt_144 (is_X5_11 hs).2.2.1 g7 ?_
        refine vIconst F (v := 4) dX1_aimAt_145 k_4 ?_
        refine vIcmpLe F (tgt := 157) dX1_aimAt_146 (by decide) (fun c9 => ?_) (fun c9 => ?_)
        · replace h := okT h c9
          refine vIconst F (v := (-1)) dX1_aimAt_157 k_m1 ?_
          have z := okS h
          exact vIret F dX1_aimAt_158 z
        · replace h := okF h c9
          refine vAloadN F dX1_aimAt_149 (k := 0) rfl ?_
          refine vIloadN F dX1_aimAt_150 (k := 1) rfl ?_
          refine vCallV F (d' := 1) (x := 1) (T := TX1) (N := 15) (As := [.int a1]) (st := []) dX1_aimAt_151 lk_X1_115 my_X1_lastNamed mv_X1_lastNamed (cqC_1 hs) rfl (by decide) rfl rfl (Nat.le_of_ble_eq_true rfl) (Jo_lastNamed_ok hG hs (okB h fun r8 h => ?_))
          show mjV G X 3 154 [(0, .ref (gr G 1)), (1, .int a1), (2, .int a2)] [.int r8] m P
          refine vGoto F (tgt := 158) dX1_aimAt_154 (by decide) ?_
          have z := okS h
          exact vIret F dX1_aimAt_158 z
      · refine vIcmpNe F (tgt := 55) dX1_aimAt_37 (by decide) (fun c24 => ?_) (fun c24 => ?_)
        · replace h := okF h c24
          exact Jj5 () h
        · replace h := okT h c24
          refine vAloadN F dX1_aimAt_40 (k := 0) rfl ?_
          refine vIloadN F dX1_aimAt_41 (k := 1) rfl ?_
          refine vCallV F (d' := 0) (x := 1) (T := TX1) (N := 15) (As := [.int a1]) (st := []) dX1_aimAt_42 lk_X1_102 my_X1_capitalOf mv_X1_capitalOf (cqC_1 hs) rfl (by decide) rfl rfl (Nat.le_of_ble_eq_true rfl) (Jo_capitalOf_ok hG hs (okB h fun r21 h => ?_))
          show mjV G X 3 45 [(0, .ref (gr G 1)), (1, .int a1), (2, .int a2)] [.int r21] m P
          refine vIloadN F dX1_aimAt_45 (k := 1) rfl ?_
          refine vIcmpEq F (tgt := 55) dX1_aimAt_46 (by decide) (fun c23 => ?_) (fun c23 => ?_)
          · replace h := okT h c23
            exact Jj5 () h
          · replace h := okF h c23
            refine vAloadN F dX1_aimAt_49 (k := 0) rfl ?_
            refine vIloadN F dX1_aimAt_50 (k := 1) rfl ?_
            refine vCallV F (d' := 0) (x := 1) (T := TX1) (N := 15) (As := [.int a1]) (st := []) dX1_aimAt_51 lk_X1_102 my_X1_capitalOf mv_X1_capitalOf (cqC_1 hs) rfl (by decide) rfl rfl (Nat.le_of_ble_eq_true rfl) (Jo_capitalOf_ok hG hs (okB h fun r22 h => ?_))
            show mjV G X 3 54 [(0, .ref (gr G 1)), (1, .int a1), (2, .int a2)] [.int r22] m P
            have z := okS h
            exact vIret F dX1_aimAt_54 z
    · replace h := okF h c25
      refine vIloadN F dX1_aimAt_25 (k := 2) rfl ?_
      have z := okS h
      exact vIret F dX1_aimAt_26 z
noncomputable def Jo_findSteps_l15 (s1 : Int32 × Mm) (s3 : Int32 × Mm) : Option ((Int32 × Mm) ⊕ Mm) :=
  if ((s3.2).1 11 0) ≤ (s3.1) then
 (some (.inr (s3.2)))
 else (if (s1.1) = (s3.1) then
 (jn (fun (e14 : Int32) => if 0 ≤ e14 then
 (ga (NB_index (s1.1) e14) 49 (ga (NB_index (s1.1) (s3.1)) 49 (some (.inl ((s3.1) + 1, si (s3.2) 8 (NB_index (s1.1) (s3.1)).toNatClampNeg ((s3.2).1 7 (NB_index (s1.1) e14).toNatClampNeg))))))
 else (ga (NB_index (s1.1) (s3.1)) 49 (some (.inl ((s3.1) + 1, si (s3.2) 8 (NB_index (s1.1) (s3.1)).toNatClampNeg (-5)))))) fun j15 =>
  if (s1.1) = ((s3.2).1 1 10) then
 (if (-1) = ((s3.2).1 1 11) then
 (j15 ((s3.2).1 1 12))
 else (j15 ((-1))))
 else (j15 ((-1))))
 else ((Jo_aimAt (s3.2) (s1.1) (s3.1)).bind fun r5 =>
  jn (fun (e6 : Int32) => if 0 ≤ e6 then
 (ga (NB_index (s1.1) e6) 49 (ga (NB_index (s1.1) (s3.1)) 49 (some (.inl ((s3.1) + 1, si (s3.2) 8 (NB_index (s1.1) (s3.1)).toNatClampNeg ((s3.2).1 7 (NB_index (s1.1) e6).toNatClampNeg))))))
 else (ga (NB_index (s1.1) (s3.1)) 49 (some (.inl ((s3.1) + 1, si (s3.2) 8 (NB_index (s1.1) (s3.1)).toNatClampNeg (-5)))))) fun j7 =>
  if (s1.1) = ((s3.2).1 1 10) then
 (if r5 = ((s3.2).1 1 11) then
 (j7 ((s3.2).1 1 12))
 else (j7 (r5)))
 else (j7 (r5))))
noncomputable def Jo_findSteps_l2  (s1 : Int32 × Mm) : Option ((Int32 × Mm) ⊕ Mm) :=
  if ((s1.2).1 11 0) ≤ (s1.1) then
 (some (.inr (s1.2)))
 else ((iter (Jo_findSteps_l15 s1) (0, s1.2)).bind fun e4 =>
  some (.inl ((s1.1) + 1, e4)))
noncomputable def Jo_findSteps (m : Mm) : Option (Mm) :=
  (iter (Jo_findSteps_l2) (0, m)).bind fun e2 =>
  some e2
set_option maxRecDepth 20000 in
set_option maxHeartbeats 4000000 in
theorem Jo_findSteps_ok {G : Gw} (hG : gOk G) (hs : gsh G = shC) {m : Mm} {P : Option Value → Mm → Prop} (h : mjO (Jo_findSteps m) (fun r => P none r)) : mjR G 3 yX1_findSteps cX1_findSteps 4 none [.ref (gr G 1)] m P := by
  refine mjR_of hG (by decide) (Nat.le_of_ble_eq_true rfl) ?_
  intro X F
  have F : mjF G X cX1_findSteps RX1 4 3 none := F
  show mjV G X 4 0 [(0, .ref (gr G 1))] [] m P
  unfold Jo_findSteps at h
  refine vIconst F (v := 0) dX1_findSteps_0 k_0 ?_
  refine vIstoreN F (L' := [(1, .int 0), (0, .ref (gr G 1))]) dX1_findSteps_1 rfl (by decide) rfl ?_
  refine vSub [1, 0] rfl ?_
  refine okLoop (s0 := (0, m)) (T := (fun (s1 : Int32 × Mm) => mjV G X 4 2 [(0, .ref (gr G 1)), (1, .int (s1.1))] [] (s1.2) P)) (Ve := (fun (e2 : Mm) => mjV G X 4 104 [] [] e2 P)) h ?_ (fun s1 h => ?_)
  · intro e2 h
    have z := okS h
    exact vVret F dX1_findSteps_104 z
  · unfold Jo_findSteps_l2 at h
    refine vIloadN F dX1_findSteps_2 (k := 1) rfl ?_
    refine vAloadN F dX1_findSteps_3 (k := 0) rfl ?_
    refine vGetR F (t := 11) dX1_findSteps_4 fa_X1_12 (cqC_1 hs) rfl ?_
    refine vGetI F dX1_findSteps_7 fa_X1_51 (is_X5_11 hs).1 rfl ?_
    refine vIcmpGe F (tgt := 104) dX1_findSteps_10 (by decide) (fun c25 => ?_) (fun c25 => ?_)
    · replace h := okT h c25
      refine vSub [] rfl ?_
      have z := okR h
      exact z
    · replace h := okF h c25
      refine vIconst F (v := 0) dX1_findSteps_13 k_0 ?_
      refine vIstoreN F (L' := [(2, .int 0), (0, .ref (gr G 1)), (1, .int (s1.1))]) dX1_findSteps_14 rfl (by decide) rfl ?_
      refine vSub [1, 2, 0] rfl ?_
      refine okLoop (s0 := (0, s1.2)) (T := (fun (s3 : Int32 × Mm) => mjV G X 4 15 [(0, .ref (gr G 1)), (1, .int (s1.1)), (2, .int (s3.1))] [] (s3.2) P)) (Ve := (fun (e4 : Mm) => mjV G X 4 98 [(0, .ref (gr G 1)), (1, .int (s1.1))] [] e4 P)) h ?_ (fun s3 h => ?_)
      · intro e4 h
        refine vIinc F (v := 1) (k := 1) (L' := [(1, .int ((s1.1) + 1)), (0, .ref (gr G 1))]) dX1_findSteps_98 rfl k_1 (by decide) rfl ?_
        refine vGoto F (tgt := 2) dX1_findSteps_101 (by decide) ?_
        refine vSub [1, 0] rfl ?_
        have z := okL h
        exact z
      · unfold Jo_findSteps_l15 at h
        refine vIloadN F dX1_findSteps_15 (k := 2) rfl ?_
        refine vAloadN F dX1_findSteps_16 (k := 0) rfl ?_
        refine vGetR F (t := 11) dX1_findSteps_17 fa_X1_12 (cqC_1 hs) rfl ?_
        refine vGetI F dX1_findSteps_20 fa_X1_51 (is_X5_11 hs).1 rfl ?_
        refine vIcmpGe F (tgt := 98) dX1_findSteps_23 (by decide) (fun c23 => ?_) (fun c23 => ?_)
        · replace h := okT h c23
          refine vSub [0, 1] rfl ?_
          have z := okR h
          exact z
        · replace h := okF h c23
          refine vIloadN F dX1_findSteps_26 (k := 1) rfl ?_
          refine vIloadN F dX1_findSteps_27 (k := 2) rfl ?_
          refine vIcmpNe F (tgt := 35) dX1_findSteps_28 (by decide) (fun c22 => ?_) (fun c22 => ?_)
          · replace h := okF h c22
            refine vAloadN F dX1_findSteps_35 (k := 0) rfl ?_
            refine vIloadN F dX1_findSteps_36 (k := 1) rfl ?_
            refine vIloadN F dX1_findSteps_37 (k := 2) rfl ?_
            refine vCallV F (d' := 2) (x := 1) (T := TX1) (N := 15) (As := [.int (s1.1), .int (s3.1)]) (st := []) dX1_findSteps_38 lk_X1_87 my_X1_aimAt mv_X1_aimAt (cqC_1 hs) rfl (by decide) rfl rfl (Nat.le_of_ble_eq_true rfl) (Jo_aimAt_ok hG hs (okB h fun r5 h => ?_))
            show mjV G X 4 41 [(0, .ref (gr G 1)), (1, .int (s1.1)), (2, .int (s3.1))] [.int r5] (s3.2) P
            refine vIstoreN F (L' := [(3, .int r5), (0, .ref (gr G 1)), (1, .int (s1.1)), (2, .int (s3.1))]) dX1_findSteps_41 rfl (by decide) rfl ?_
            refine vIloadN F dX1_findSteps_42 (k := 2) rfl ?_
            refine vAloadN F dX1_findSteps_43 (k := 1) rfl ?_
            refine vGetI F dX1_findSteps_44 fa_X1_47 (cqC_1 hs) rfl ?_
            refine okJ (Vj := fun (e6 : Int32) => mjV G X 4 63 [(0, .ref (gr G 1)), (1, .int (s1.1)), (2, .int (s3.1)), (3, .int e6)] [] (s3.2) P) h (fun e6 h => ?_) (fun j7 Jj7 h => ?_)
            · refine vAloadN F dX1_findSteps_63 (k := 0) rfl ?_
              refine vGetR F (t := 8) dX1_findSteps_64 fa_X1_37 (cqC_1 hs) rfl ?_
              refine vIloadN F dX1_findSteps_67 (k := 1) rfl ?_
              refine vIloadN F dX1_findSteps_68 (k := 2) rfl ?_
              refine vCallS F (d' := 0) (As := [.int (s1.1), .int (s3.1)]) (st := [.ref (gr G 8)]) dX1_findSteps_69 lk_X1_70 my_X6_index sy_X6_index (by decide) rfl rfl (Nat.le_of_ble_eq_true rfl) (NB_index_ok hG hs ?_)
              show mjV G X 4 72 [(0, .ref (gr G 1)), (1, .int (s1.1)), (2, .int (s3.1)), (3, .int e6)] [.int (NB_index (s1.1) (s3.1)), .ref (gr G 8)] (s3.2) P
              refine vIloadN F dX1_findSteps_72 (k := 3) rfl ?_
              refine vIfGe F (tgt := 81) dX1_findSteps_73 (by decide) (fun c11 => ?_) (fun c11 => ?_)
              · replace h := okT h c11
                refine vAloadN F dX1_findSteps_81 (k := 0) rfl ?_
                refine vGetR F (t := 7) dX1_findSteps_82 fa_X1_34 (cqC_1 hs) rfl ?_
                refine vIloadN F dX1_findSteps_85 (k := 1) rfl ?_
                refine vIloadN F dX1_findSteps_86 (k := 3) rfl ?_
                refine vCallS F (d' := 0) (As := [.int (s1.1), .int e6]) (st := [.ref (gr G 7), .int (NB_index (s1.1) (s3.1)), .ref (gr G 8)]) dX1_findSteps_87 lk_X1_70 my_X6_index sy_X6_index (by decide) rfl rfl (Nat.le_of_ble_eq_true rfl) (NB_index_ok hG hs ?_)
                show mjV G X 4 90 [(0, .ref (gr G 1)), (1, .int (s1.1)), (2, .int (s3.1)), (3, .int e6)] [.int (NB_index (s1.1) e6), .ref (gr G 7), .int (NB_index (s1.1) (s3.1)), .ref (gr G 8)] (s3.2) P
                obtain ⟨g8, h⟩ := okga h
                refine vIald F dX1_findSteps_90 (cqC_7 hs) g8 ?_
                obtain ⟨g9, h⟩ := okga h
                refine vIast F dX1_findSteps_91 (cqC_8 hs) g9 ?_
                refine vIinc F (v := 1) (k := 2) (L' := [(2, .int ((s3.1) + 1)), (0, .ref (gr G 1)), (1, .int (s1.1)), (3, .int e6)]) dX1_findSteps_92 rfl k_1 (by decide) rfl ?_
                refine vGoto F (tgt := 15) dX1_findSteps_95 (by decide) ?_
                refine vSub [1, 2, 0] rfl ?_
                have z := okL h
                exact z
              · replace h := okF h c11
                refine vBipush F (v := (-5)) dX1_findSteps_76 kb_m5 ?_
                refine vGoto F (tgt := 91) dX1_findSteps_78 (by decide) ?_
                obtain ⟨g10, h⟩ := okga h
                refine vIast F dX1_findSteps_91 (cqC_8 hs) g10 ?_
                refine vIinc F (v := 1) (k := 2) (L' := [(2, .int ((s3.1) + 1)), (0, .ref (gr G 1)), (1, .int (s1.1)), (3, .int e6)]) dX1_findSteps_92 rfl k_1 (by decide) rfl ?_
                refine vGoto F (tgt := 15) dX1_findSteps_95 (by decide) ?_
                refine vSub [1, 2, 0] rfl ?_
                have z := okL h
                exact z
            · refine vIcmpNe F (tgt := 63) dX1_findSteps_47 (by decide) (fun c13 => ?_) (fun c13 => ?_)
              · replace h := okF h c13
                refine vSub [1, 2, 3, 0] rfl ?_
                exact Jj7 (r5) h
              · replace h := okT h c13
                refine vIloadN F dX1_findSteps_50 (k := 0) rfl ?_
                refine vAloadN F dX1_findSteps_51 (k := 1) rfl ?_
                refine vGetI F dX1_findSteps_52 fa_X1_90 (cqC_1 hs) rfl ?_
                refine vIcmpNe F (tgt := 63) dX1_findSteps_55 (by decide) (fun c12 => ?_) (fun c12 => ?_)
                · replace h := okF h c12
                  refine vSub [1, 2, 3, 0] rfl ?_
                  exact Jj7 (r5) h
                · replace h := okT h c12
                  refine vAloadN F dX1_findSteps_58 (k := 1) rfl ?_
                  refine vGetI F dX1_findSteps_59 fa_X1_93 (cqC_1 hs) rfl ?_
                  refine vIstoreN F (L' := [(3, .int ((s3.2).1 1 12)), (0, .ref (gr G 1)), (1, .int (s1.1)), (2, .int (s3.1))]) dX1_findSteps_62 rfl (by decide) rfl ?_
                  refine vSub [1, 2, 3, 0] rfl ?_
                  exact Jj7 ((s3.2).1 1 12) h
          · replace h := okT h c22
            refine vIconst F (v := (-1)) dX1_findSteps_31 k_m1 ?_
            refine vGoto F (tgt := 41) dX1_findSteps_32 (by decide) ?_
            refine vIstoreN F (L' := [(3, .int (-1)), (0, .ref (gr G 1)), (1, .int (s1.1)), (2, .int (s3.1))]) dX1_findSteps_41 rfl (by decide) rfl ?_
            refine vIloadN F dX1_findSteps_42 (k := 2) rfl ?_
            refine vAloadN F dX1_findSteps_43 (k := 1) rfl ?_
            refine vGetI F dX1_findSteps_44 fa_X1_47 (cqC_1 hs) rfl ?_
            refine okJ (Vj := fun (e14 : Int32) => mjV G X 4 63 [(0, .ref (gr G 1)), (1, .int (s1.1)), (2, .int (s3.1)), (3, .int e14)] [] (s3.2) P) h (fun e14 h => ?_) (fun j15 Jj15 h => ?_)
            · refine vAloadN F dX1_findSteps_63 (k := 0) rfl ?_
              refine vGetR F (t := 8) dX1_findSteps_64 fa_X1_37 (cqC_1 hs) rfl ?_
              refine vIloadN F dX1_findSteps_67 (k := 1) rfl ?_
              refine vIloadN F dX1_findSteps_68 (k := 2) rfl ?_
              refine vCallS F (d' := 0) (As := [.int (s1.1), .int (s3.1)]) (st := [.ref (gr G 8)]) dX1_findSteps_69 lk_X1_70 my_X6_index sy_X6_index (by decide) rfl rfl (Nat.le_of_ble_eq_true rfl) (NB_index_ok hG hs ?_)
              show mjV G X 4 72 [(0, .ref (gr G 1)), (1, .int (s1.1)), (2, .int (s3.1)), (3, .int e14)] [.int (NB_index (s1.1) (s3.1)), .ref (gr G 8)] (s3.2) P
              refine vIloadN F dX1_findSteps_72 (k := 3) rfl ?_
              refine vIfGe F (tgt := 81) dX1_findSteps_73 (by decide) (fun c19 => ?_) (fun c19 => ?_)
              · replace h := okT h c19
                refine vAloadN F dX1_findSteps_81 (k := 0) rfl ?_
                refine vGetR F (t := 7) dX1_findSteps_82 fa_X1_34 (cqC_1 hs) rfl ?_
                refine vIloadN F dX1_findSteps_85 (k := 1) rfl ?_
                refine vIloadN F dX1_findSteps_86 (k := 3) rfl ?_
                refine vCallS F (d' := 0) (As := [.int (s1.1), .int e14]) (st := [.ref (gr G 7), .int (NB_index (s1.1) (s3.1)), .ref (gr G 8)]) dX1_findSteps_87 lk_X1_70 my_X6_index sy_X6_index (by decide) rfl rfl (Nat.le_of_ble_eq_true rfl) (NB_index_ok hG hs ?_)
                show mjV G X 4 90 [(0, .ref (gr G 1)), (1, .int (s1.1)), (2, .int (s3.1)), (3, .int e14)] [.int (NB_index (s1.1) e14), .ref (gr G 7), .int (NB_index (s1.1) (s3.1)), .ref (gr G 8)] (s3.2) P
                obtain ⟨g16, h⟩ := okga h
                refine vIald F dX1_findSteps_90 (cqC_7 hs) g16 ?_
                obtain ⟨g17, h⟩ := okga h
                refine vIast F dX1_findSteps_91 (cqC_8 hs) g17 ?_
                refine vIinc F (v := 1) (k := 2) (L' := [(2, .int ((s3.1) + 1)), (0, .ref (gr G 1)), (1, .int (s1.1)), (3, .int e14)]) dX1_findSteps_92 rfl k_1 (by decide) rfl ?_
                refine vGoto F (tgt := 15) dX1_findSteps_95 (by decide) ?_
                refine vSub [1, 2, 0] rfl ?_
                have z := okL h
                exact z
              · replace h := okF h c19
                refine vBipush F (v := (-5)) dX1_findSteps_76 kb_m5 ?_
                refine vGoto F (tgt := 91) dX1_findSteps_78 (by decide) ?_
                obtain ⟨g18, h⟩ := okga h
                refine vIast F dX1_findSteps_91 (cqC_8 hs) g18 ?_
                refine vIinc F (v := 1) (k := 2) (L' := [(2, .int ((s3.1) + 1)), (0, .ref (gr G 1)), (1, .int (s1.1)), (3, .int e14)]) dX1_findSteps_92 rfl k_1 (by decide) rfl ?_
                refine vGoto F (tgt := 15) dX1_findSteps_95 (by decide) ?_
                refine vSub [1, 2, 0] rfl ?_
                have z := okL h
                exact z
            · refine vIcmpNe F (tgt := 63) dX1_findSteps_47 (by decide) (fun c21 => ?_) (fun c21 => ?_)
              · replace h := okF h c21
                refine vSub [1, 2, 3, 0] rfl ?_
                exact Jj15 ((-1)) h
              · replace h := okT h c21
                refine vIloadN F dX1_findSteps_50 (k := 0) rfl ?_
                refine vAloadN F dX1_findSteps_51 (k := 1) rfl ?_
                refine vGetI F dX1_findSteps_52 fa_X1_90 (cqC_1 hs) rfl ?_
                refine vIcmpNe F (tgt := 63) dX1_findSteps_55 (by decide) (fun c20 => ?_) (fun c20 => ?_)
                · replace h := okF h c20
                  refine vSub [1, 2, 3, 0] rfl ?_
                  exact Jj15 ((-1)) h
                · replace h := okT h c20
                  refine vAloadN F dX1_findSteps_58 (k := 1) rfl ?_
                  refine vGetI F dX1_findSteps_59 fa_X1_93 (cqC_1 hs) rfl ?_
                  refine vIstoreN F (L' := [(3, .int ((s3.2).1 1 12)), (0, .ref (gr G 1)), (1, .int (s1.1)), (2, .int (s3.1))]) dX1_findSteps_62 rfl (by decide) rfl ?_
                  refine vSub [1, 2, 3, 0] rfl ?_
                  exact Jj15 ((s3.2).1 1 12) h
def Jo_behind (m : Mm) (a1 : Int32) : Int32 :=
  if (m.1 11 0) ≤ (a1 + 1) then
 (0)
 else (a1 + 1)
set_option maxRecDepth 20000 in
set_option maxHeartbeats 4000000 in
theorem Jo_behind_ok {G : Gw} (hG : gOk G) (hs : gsh G = shC) {a1 : Int32} {m : Mm} {P : Option Value → Mm → Prop} (h : P (some (.int (Jo_behind m a1))) m) : mjR G 0 yX1_behind cX1_behind 2 (some .int) [.ref (gr G 1), .int a1] m P := by
  refine mjR_of hG (by decide) (Nat.le_of_ble_eq_true rfl) ?_
  intro X F
  have F : mjF G X cX1_behind RX1 2 0 (some .int) := F
  show mjV G X 2 0 [(0, .ref (gr G 1)), (1, .int a1)] [] m P
  have h : mjO (some (Jo_behind m a1)) (fun r => P (some (.int r)) m) := ⟨_, rfl, h⟩
  unfold Jo_behind at h
  refine vIloadN F dX1_behind_0 (k := 1) rfl ?_
  refine vIconst F (v := 1) dX1_behind_1 k_1 ?_
  refine vIadd F dX1_behind_2 ?_
  refine vAloadN F dX1_behind_3 (k := 0) rfl ?_
  refine vGetR F (t := 11) dX1_behind_4 fa_X1_12 (cqC_1 hs) rfl ?_
  refine vGetI F dX1_behind_7 fa_X1_51 (is_X5_11 hs).1 rfl ?_
  refine vIcmpGe F (tgt := 19) dX1_behind_10 (by decide) (fun c1 => ?_) (fun c1 => ?_)
  · replace h := okTT h c1
    refine vIconst F (v := 0) dX1_behind_19 k_0 ?_
    have z := okS h
    exact vIret F dX1_behind_20 z
  · replace h := okFT h c1
    refine vIloadN F dX1_behind_13 (k := 1) rfl ?_
    refine vIconst F (v := 1) dX1_behind_14 k_1 ?_
    refine vIadd F dX1_behind_15 ?_
    refine vGoto F (tgt := 20) dX1_behind_16 (by decide) ?_
    have z := okS h
    exact vIret F dX1_behind_20 z
def Jo_setFalseArm (m : Mm) (a1 : Int32) (a2 : Int32) : Mm :=
  if ((si (si (si m 1 10 a1) 1 11 a2) 1 12 (Jo_behind (si (si m 1 10 a1) 1 11 a2) a2)).1 1 12) = a1 then
 (si (si (si (si m 1 10 a1) 1 11 a2) 1 12 (Jo_behind (si (si m 1 10 a1) 1 11 a2) a2)) 1 12 (Jo_behind (si (si (si m 1 10 a1) 1 11 a2) 1 12 (Jo_behind (si (si m 1 10 a1) 1 11 a2) a2)) a1))
 else (si (si (si m 1 10 a1) 1 11 a2) 1 12 (Jo_behind (si (si m 1 10 a1) 1 11 a2) a2))
set_option maxRecDepth 20000 in
set_option maxHeartbeats 4000000 in
theorem Jo_setFalseArm_ok {G : Gw} (hG : gOk G) (hs : gsh G = shC) {a1 : Int32} {a2 : Int32} {m : Mm} {P : Option Value → Mm → Prop} (h : P none (Jo_setFalseArm m a1 a2)) : mjR G 1 yX1_setFalseArm cX1_setFalseArm 3 none [.ref (gr G 1), .int a1, .int a2] m P := by
  refine mjR_of hG (by decide) (Nat.le_of_ble_eq_true rfl) ?_
  intro X F
  have F : mjF G X cX1_setFalseArm RX1 3 1 none := F
  show mjV G X 3 0 [(0, .ref (gr G 1)), (1, .int a1), (2, .int a2)] [] m P
  have h : mjO (some (Jo_setFalseArm m a1 a2)) (fun r => P none r) := ⟨_, rfl, h⟩
  unfold Jo_setFalseArm at h
  refine vAloadN F dX1_setFalseArm_0 (k := 0) rfl ?_
  refine vIloadN F dX1_setFalseArm_1 (k := 1) rfl ?_
  refine vPutI F dX1_setFalseArm_2 fw_X1_47 (cqC_1 hs) rfl ⟨rfl, rfl⟩ ?_
  refine vAloadN F dX1_setFalseArm_5 (k := 0) rfl ?_
  refine vIloadN F dX1_setFalseArm_6 (k := 2) rfl ?_
  refine vPutI F dX1_setFalseArm_7 fw_X1_90 (cqC_1 hs) rfl ⟨rfl, rfl⟩ ?_
  refine vAloadN F dX1_setFalseArm_10 (k := 0) rfl ?_
  refine vAloadN F dX1_setFalseArm_11 (k := 0) rfl ?_
  refine vIloadN F dX1_setFalseArm_12 (k := 2) rfl ?_
  refine vCallV F (d' := 0) (x := 1) (T := TX1) (N := 15) (As := [.int a2]) (st := [.ref (gr G 1)]) dX1_setFalseArm_13 lk_X1_121 my_X1_behind mv_X1_behind (cqC_1 hs) rfl (by decide) rfl rfl (Nat.le_of_ble_eq_true rfl) (Jo_behind_ok hG hs ?_)
  show mjV G X 3 16 [(0, .ref (gr G 1)), (1, .int a1), (2, .int a2)] [.int (Jo_behind (si (si m 1 10 a1) 1 11 a2) a2), .ref (gr G 1)] (si (si m 1 10 a1) 1 11 a2) P
  refine vPutI F dX1_setFalseArm_16 fw_X1_93 (cqC_1 hs) rfl ⟨rfl, rfl⟩ ?_
  refine vAloadN F dX1_setFalseArm_19 (k := 0) rfl ?_
  refine vGetI F dX1_setFalseArm_20 fa_X1_93 (cqC_1 hs) rfl ?_
  refine vIloadN F dX1_setFalseArm_23 (k := 1) rfl ?_
  refine vIcmpNe F (tgt := 36) dX1_setFalseArm_24 (by decide) (fun c1 => ?_) (fun c1 => ?_)
  · replace h := okFT h c1
    have z := okS h
    exact vVret F dX1_setFalseArm_36 z
  · replace h := okTT h c1
    refine vAloadN F dX1_setFalseArm_27 (k := 0) rfl ?_
    refine vAloadN F dX1_setFalseArm_28 (k := 0) rfl ?_
    refine vIloadN F dX1_setFalseArm_29 (k := 1) rfl ?_
    refine vCallV F (d' := 0) (x := 1) (T := TX1) (N := 15) (As := [.int a1]) (st := [.ref (gr G 1)]) dX1_setFalseArm_30 lk_X1_121 my_X1_behind mv_X1_behind (cqC_1 hs) rfl (by decide) rfl rfl (Nat.le_of_ble_eq_true rfl) (Jo_behind_ok hG hs ?_)
    show mjV G X 3 33 [(0, .ref (gr G 1)), (1, .int a1), (2, .int a2)] [.int (Jo_behind (si (si (si m 1 10 a1) 1 11 a2) 1 12 (Jo_behind (si (si m 1 10 a1) 1 11 a2) a2)) a1), .ref (gr G 1)] (si (si (si m 1 10 a1) 1 11 a2) 1 12 (Jo_behind (si (si m 1 10 a1) 1 11 a2) a2)) P
    refine vPutI F dX1_setFalseArm_33 fw_X1_93 (cqC_1 hs) rfl ⟨rfl, rfl⟩ ?_
    have z := okS h
    exact vVret F dX1_setFalseArm_36 z
def Jo_dropFalseArm (m : Mm) : Mm :=
  si m 1 10 (-1)
set_option maxRecDepth 20000 in
set_option maxHeartbeats 4000000 in
theorem Jo_dropFalseArm_ok {G : Gw} (hG : gOk G) (hs : gsh G = shC) {m : Mm} {P : Option Value → Mm → Prop} (h : P none (Jo_dropFalseArm m)) : mjR G 0 yX1_dropFalseArm cX1_dropFalseArm 1 none [.ref (gr G 1)] m P := by
  refine mjR_of hG (by decide) (Nat.le_of_ble_eq_true rfl) ?_
  intro X F
  have F : mjF G X cX1_dropFalseArm RX1 1 0 none := F
  show mjV G X 1 0 [(0, .ref (gr G 1))] [] m P
  have h : mjO (some (Jo_dropFalseArm m)) (fun r => P none r) := ⟨_, rfl, h⟩
  unfold Jo_dropFalseArm at h
  refine vAloadN F dX1_dropFalseArm_0 (k := 0) rfl ?_
  refine vIconst F (v := (-1)) dX1_dropFalseArm_1 k_m1 ?_
  refine vPutI F dX1_dropFalseArm_2 fw_X1_47 (cqC_1 hs) rfl ⟨rfl, rfl⟩ ?_
  have z := okS h
  exact vVret F dX1_dropFalseArm_5 z
def Jo_walk_l15 (a2 : Int32) (s1 : Int32 × Int32 × Mm) : Option ((Int32 × Int32 × Mm) ⊕ (Int32 × Mm ⊕ (Int32 × Mm))) :=
  if 20 ≤ (s1.2.1) then
 (some (.inr (.inl (s1.1, s1.2.2))))
 else (if (s1.1) = a2 then
 (some (.inr (.inl (s1.1, s1.2.2))))
 else (ga (NB_index (s1.1) a2) 49 (if 0 ≤ ((s1.2.2).1 8 (NB_index (s1.1) a2).toNatClampNeg) then
 (ga (NB_index (s1.1) ((s1.2.2).1 8 (NB_index (s1.1) a2).toNatClampNeg)) 49 (some (.inl ((s1.2.2).1 8 (NB_index (s1.1) a2).toNatClampNeg, (s1.2.1) + 1, si (si (s1.2.2) 1 13 (((s1.2.2).1 1 13) + 1)) 1 14 (((si (s1.2.2) 1 13 (((s1.2.2).1 1 13) + 1)).1 1 14) + ((si (s1.2.2) 1 13 (((s1.2.2).1 1 13) + 1)).1 5 (NB_index (s1.1) ((s1.2.2).1 8 (NB_index (s1.1) a2).toNatClampNeg)).toNatClampNeg))))))
 else (some (.inr (.inr (s1.1, s1.2.2)))))))
noncomputable def Jo_walk (m : Mm) (a1 : Int32) (a2 : Int32) : Option (Int32 × Mm) :=
  (iter (Jo_walk_l15 a2) (a1, 0, si (si m 1 13 0) 1 14 0)).bind (Sum.elim (fun e2 => some (e2.1, e2.2)) (fun v8 => some v8))
set_option maxRecDepth 20000 in
set_option maxHeartbeats 4000000 in
theorem Jo_walk_ok {G : Gw} (hG : gOk G) (hs : gsh G = shC) {a1 : Int32} {a2 : Int32} {m : Mm} {P : Option Value → Mm → Prop} (h : mjO (Jo_walk m a1 a2) (fun r => P (some (.int r.1)) r.2)) : mjR G 1 yX1_walk cX1_walk 6 (some .int) [.ref (gr G 1), .int a1, .int a2] m P := by
  refine mjR_of hG (by decide) (Nat.le_of_ble_eq_true rfl) ?_
  intro X F
  have F : mjF G X cX1_walk RX1 6 1 (some .int) := F
  show mjV G X 6 0 [(0, .ref (gr G 1)), (1, .int a1), (2, .int a2)] [] m P
  unfold Jo_walk at h
  refine vIloadN F dX1_walk_0 (k := 1) rfl ?_
  refine vIstoreN F (L' := [(3, .int a1), (0, .ref (gr G 1)), (1, .int a1), (2, .int a2)]) dX1_walk_1 rfl (by decide) rfl ?_
  refine vAloadN F dX1_walk_2 (k := 1) rfl ?_
  refine vIconst F (v := 0) dX1_walk_3 k_0 ?_
  refine vPutI F dX1_walk_4 fw_X1_124 (cqC_1 hs) rfl ⟨rfl, rfl⟩ ?_
  refine vAloadN F dX1_walk_7 (k := 1) rfl ?_
  refine vIconst F (v := 0) dX1_walk_8 k_0 ?_
  refine vPutI F dX1_walk_9 fw_X1_127 (cqC_1 hs) rfl ⟨rfl, rfl⟩ ?_
  refine vIconst F (v := 0) dX1_walk_12 k_0 ?_
  refine vIstore F (L' := [(4, .int 0), (3, .int a1), (0, .ref (gr G 1)), (1, .int a1), (2, .int a2)]) dX1_walk_13 (by decide) rfl ?_
  refine vSub [2, 4, 1, 0] rfl ?_
  refine okLoop (s0 := (a1, 0, si (si m 1 13 0) 1 14 0)) (T := (fun (s1 : Int32 × Int32 × Mm) => mjV G X 6 15 [(0, .ref (gr G 1)), (2, .int a2), (3, .int (s1.1)), (4, .int (s1.2.1))] [] (s1.2.2) P)) (Ve := (Sum.elim (fun (e2 : Int32 × Mm) => mjV G X 6 85 [(3, .int (e2.1))] [] (e2.2) P) (fun (v8 : Int32 × Mm) => P (some (.int v8.1)) v8.2))) h ?_ (fun s1 h => ?_)
  · intro q h
    rcases q with e2 | v8
    · refine vIloadN F dX1_walk_85 (k := 0) rfl ?_
      have z := okS h
      exact vIret F dX1_walk_86 z
    · have z := okS h
      exact z
  · unfold Jo_walk_l15 at h
    refine vIload F dX1_walk_15 (k := 3) rfl ?_
    refine vBipush F (v := 20) dX1_walk_17 kb_20 ?_
    refine vIcmpGe F (tgt := 85) dX1_walk_19 (by decide) (fun c7 => ?_) (fun c7 => ?_)
    · replace h := okT h c7
      refine vSub [2] rfl ?_
      have z := okR h
      exact z
    · replace h := okF h c7
      refine vIloadN F dX1_walk_22 (k := 2) rfl ?_
      refine vIloadN F dX1_walk_23 (k := 1) rfl ?_
      refine vIcmpEq F (tgt := 85) dX1_walk_24 (by decide) (fun c6 => ?_) (fun c6 => ?_)
      · replace h := okT h c6
        refine vSub [2] rfl ?_
        have z := okR h
        exact z
      · replace h := okF h c6
        refine vAloadN F dX1_walk_27 (k := 0) rfl ?_
        refine vGetR F (t := 8) dX1_walk_28 fa_X1_37 (cqC_1 hs) rfl ?_
        refine vIloadN F dX1_walk_31 (k := 2) rfl ?_
        refine vIloadN F dX1_walk_32 (k := 1) rfl ?_
        refine vCallS F (d' := 0) (As := [.int (s1.1), .int a2]) (st := [.ref (gr G 8)]) dX1_walk_33 lk_X1_70 my_X6_index sy_X6_index (by decide) rfl rfl (Nat.le_of_ble_eq_true rfl) (NB_index_ok hG hs ?_)
        show mjV G X 6 36 [(0, .ref (gr G 1)), (2, .int a2), (3, .int (s1.1)), (4, .int (s1.2.1))] [.int (NB_index (s1.1) a2), .ref (gr G 8)] (s1.2.2) P
        obtain ⟨g3, h⟩ := okga h
        refine vIald F dX1_walk_36 (cqC_8 hs) g3 ?_
        refine vIstore F (L' := [(5, .int ((s1.2.2).1 8 (NB_index (s1.1) a2).toNatClampNeg)), (0, .ref (gr G 1)), (2, .int a2), (3, .int (s1.1)), (4, .int (s1.2.1))]) dX1_walk_37 (by decide) rfl ?_
        refine vIload F dX1_walk_39 (k := 0) rfl ?_
        refine vIfGe F (tgt := 46) dX1_walk_41 (by decide) (fun c5 => ?_) (fun c5 => ?_)
        · replace h := okT h c5
          refine vAloadN F dX1_walk_46 (k := 1) rfl ?_
          refine vDup F dX1_walk_47 rfl ?_
          refine vGetI F dX1_walk_48 fa_X1_124 (cqC_1 hs) rfl ?_
          refine vIconst F (v := 1) dX1_walk_51 k_1 ?_
          refine vIadd F dX1_walk_52 ?_
          refine vPutI F dX1_walk_53 fw_X1_124 (cqC_1 hs) rfl ⟨rfl, rfl⟩ ?_
          refine vAloadN F dX1_walk_56 (k := 1) rfl ?_
          refine vDup F dX1_walk_57 rfl ?_
          refine vGetI F dX1_walk_58 fa_X1_127 (cqC_1 hs) rfl ?_
          refine vAloadN F dX1_walk_61 (k := 1) rfl ?_
          refine vGetR F (t := 5) dX1_walk_62 fa_X1_28 (cqC_1 hs) rfl ?_
          refine vIloadN F dX1_walk_65 (k := 3) rfl ?_
          refine vIload F dX1_walk_66 (k := 0) rfl ?_
          refine vCallS F (d' := 0) (As := [.int (s1.1), .int ((s1.2.2).1 8 (NB_index (s1.1) a2).toNatClampNeg)]) (st := [.ref (gr G 5), .int ((si (s1.2.2) 1 13 (((s1.2.2).1 1 13) + 1)).1 1 14), .ref (gr G 1)]) dX1_walk_68 lk_X1_70 my_X6_index sy_X6_index (by decide) rfl rfl (Nat.le_of_ble_eq_true rfl) (NB_index_ok hG hs ?_)
          show mjV G X 6 71 [(5, .int ((s1.2.2).1 8 (NB_index (s1.1) a2).toNatClampNeg)), (0, .ref (gr G 1)), (2, .int a2), (3, .int (s1.1)), (4, .int (s1.2.1))] [.int (NB_index (s1.1) ((s1.2.2).1 8 (NB_index (s1.1) a2).toNatClampNeg)), .ref (gr G 5), .int ((si (s1.2.2) 1 13 (((s1.2.2).1 1 13) + 1)).1 1 14), .ref (gr G 1)] (si (s1.2.2) 1 13 (((s1.2.2).1 1 13) + 1)) P
          obtain ⟨g4, h⟩ := okga h
          refine vIald F dX1_walk_71 (cqC_5 hs) g4 ?_
          refine vIadd F dX1_walk_72 ?_
          refine vPutI F dX1_walk_73 fw_X1_127 (cqC_1 hs) rfl ⟨rfl, rfl⟩ ?_
          refine vIload F dX1_walk_76 (k := 0) rfl ?_
          refine vIstoreN F (L' := [(3, .int ((s1.2.2).1 8 (NB_index (s1.1) a2).toNatClampNeg)), (5, .int ((s1.2.2).1 8 (NB_index (s1.1) a2).toNatClampNeg)), (0, .ref (gr G 1)), (2, .int a2), (4, .int (s1.2.1))]) dX1_walk_78 rfl (by decide) rfl ?_
          refine vIinc F (v := 1) (k := 4) (L' := [(4, .int ((s1.2.1) + 1)), (3, .int ((s1.2.2).1 8 (NB_index (s1.1) a2).toNatClampNeg)), (5, .int ((s1.2.2).1 8 (NB_index (s1.1) a2).toNatClampNeg)), (0, .ref (gr G 1)), (2, .int a2)]) dX1_walk_79 rfl k_1 (by decide) rfl ?_
          refine vGoto F (tgt := 15) dX1_walk_82 (by decide) ?_
          refine vSub [3, 4, 1, 0] rfl ?_
          have z := okL h
          exact z
        · replace h := okF h c5
          refine vIloadN F dX1_walk_44 (k := 3) rfl ?_
          have z := okR h
          exact vIret F dX1_walk_45 z
noncomputable def Jo_lostTravellers_l4  (s1 : Int32 × Int32 × Mm) : Option ((Int32 × Int32 × Mm) ⊕ (Int32 × Mm)) :=
  if ((s1.2.2).1 11 6) ≤ (s1.2.1) then
 (some (.inr (s1.1, s1.2.2)))
 else (ga (s1.2.1) 8 (ga (s1.2.1) 8 ((Jo_walk (s1.2.2) ((s1.2.2).1 (11 + 6) (s1.2.1).toNatClampNeg) ((s1.2.2).1 (11 + 7) (s1.2.1).toNatClampNeg)).bind fun r5 =>
  ga (s1.2.1) 8 (if (r5.1) = ((r5.2).1 (11 + 7) (s1.2.1).toNatClampNeg) then
 (some (.inl (s1.1, (s1.2.1) + 1, r5.2)))
 else (ga (s1.2.1) 8 (some (.inl ((s1.1) + ((r5.2).1 (11 + 8) (s1.2.1).toNatClampNeg), (s1.2.1) + 1, r5.2))))))))
noncomputable def Jo_lostTravellers (m : Mm) : Option (Int32 × Mm) :=
  (iter (Jo_lostTravellers_l4) (0, 0, m)).bind fun e2 =>
  some (e2.1, e2.2)
set_option maxRecDepth 20000 in
set_option maxHeartbeats 4000000 in
theorem Jo_lostTravellers_ok {G : Gw} (hG : gOk G) (hs : gsh G = shC) {m : Mm} {P : Option Value → Mm → Prop} (h : mjO (Jo_lostTravellers m) (fun r => P (some (.int r.1)) r.2)) : mjR G 2 yX1_lostTravellers cX1_lostTravellers 3 (some .int) [.ref (gr G 1)] m P := by
  refine mjR_of hG (by decide) (Nat.le_of_ble_eq_true rfl) ?_
  intro X F
  have F : mjF G X cX1_lostTravellers RX1 3 2 (some .int) := F
  show mjV G X 3 0 [(0, .ref (gr G 1))] [] m P
  unfold Jo_lostTravellers at h
  refine vIconst F (v := 0) dX1_lostTravellers_0 k_0 ?_
  refine vIstoreN F (L' := [(1, .int 0), (0, .ref (gr G 1))]) dX1_lostTravellers_1 rfl (by decide) rfl ?_
  refine vIconst F (v := 0) dX1_lostTravellers_2 k_0 ?_
  refine vIstoreN F (L' := [(2, .int 0), (1, .int 0), (0, .ref (gr G 1))]) dX1_lostTravellers_3 rfl (by decide) rfl ?_
  refine vSub [2, 1, 0] rfl ?_
  refine okLoop (s0 := (0, 0, m)) (T := (fun (s1 : Int32 × Int32 × Mm) => mjV G X 3 4 [(0, .ref (gr G 1)), (1, .int (s1.1)), (2, .int (s1.2.1))] [] (s1.2.2) P)) (Ve := (fun (e2 : Int32 × Mm) => mjV G X 3 67 [(1, .int (e2.1))] [] (e2.2) P)) h ?_ (fun s1 h => ?_)
  · intro e2 h
    refine vIloadN F dX1_lostTravellers_67 (k := 0) rfl ?_
    have z := okS h
    exact vIret F dX1_lostTravellers_68 z
  · unfold Jo_lostTravellers_l4 at h
    refine vIloadN F dX1_lostTravellers_4 (k := 2) rfl ?_
    refine vAloadN F dX1_lostTravellers_5 (k := 0) rfl ?_
    refine vGetR F (t := 11) dX1_lostTravellers_6 fa_X1_12 (cqC_1 hs) rfl ?_
    refine vGetI F dX1_lostTravellers_9 fa_X1_130 (is_X5_11 hs).1 rfl ?_
    refine vIcmpGe F (tgt := 67) dX1_lostTravellers_12 (by decide) (fun c9 => ?_) (fun c9 => ?_)
    · replace h := okT h c9
      refine vSub [1] rfl ?_
      have z := okR h
      exact z
    · replace h := okF h c9
      refine vAloadN F dX1_lostTravellers_15 (k := 0) rfl ?_
      refine vAloadN F dX1_lostTravellers_16 (k := 0) rfl ?_
      refine vGetR F (t := 11) dX1_lostTravellers_17 fa_X1_12 (cqC_1 hs) rfl ?_
      refine vGetR F (t := 11 + 6) dX1_lostTravellers_20 fa_X1_133 (is_X5_11 hs).1 rfl ?_
      refine vIloadN F dX1_lostTravellers_23 (k := 2) rfl ?_
      obtain ⟨g3, h⟩ := okga h
      refine vIald F dX1_lostTravellers_24 (is_X5_11 hs).2.2.2.2.2.2.1 g3 ?_
      refine vAloadN F dX1_lostTravellers_25 (k := 0) rfl ?_
      refine vGetR F (t := 11) dX1_lostTravellers_26 fa_X1_12 (cqC_1 hs) rfl ?_
      refine vGetR F (t := 11 + 7) dX1_lostTravellers_29 fa_X1_136 (is_X5_11 hs).1 rfl ?_
      refine vIloadN F dX1_lostTravellers_32 (k := 2) rfl ?_
      obtain ⟨g4, h⟩ := okga h
      refine vIald F dX1_lostTravellers_33 (is_X5_11 hs).2.2.2.2.2.2.2.1 g4 ?_
      refine vCallV F (d' := 1) (x := 1) (T := TX1) (N := 15) (As := [.int ((s1.2.2).1 (11 + 6) (s1.2.1).toNatClampNeg), .int ((s1.2.2).1 (11 + 7) (s1.2.1).toNatClampNeg)]) (st := []) dX1_lostTravellers_34 lk_X1_139 my_X1_walk mv_X1_walk (cqC_1 hs) rfl (by decide) rfl rfl (Nat.le_of_ble_eq_true rfl) (Jo_walk_ok hG hs (okB h fun r5 h => ?_))
      show mjV G X 3 37 [(0, .ref (gr G 1)), (1, .int (s1.1)), (2, .int (s1.2.1))] [.int (r5.1)] (r5.2) P
      refine vAloadN F dX1_lostTravellers_37 (k := 0) rfl ?_
      refine vGetR F (t := 11) dX1_lostTravellers_38 fa_X1_12 (cqC_1 hs) rfl ?_
      refine vGetR F (t := 11 + 7) dX1_lostTravellers_41 fa_X1_136 (is_X5_11 hs).1 rfl ?_
      refine vIloadN F dX1_lostTravellers_44 (k := 2) rfl ?_
      obtain ⟨g6, h⟩ := okga h
      refine vIald F dX1_lostTravellers_45 (is_X5_11 hs).2.2.2.2.2.2.2.1 g6 ?_
      refine vIcmpEq F (tgt := 61) dX1_lostTravellers_46 (by decide) (fun c8 => ?_) (fun c8 => ?_)
      · replace h := okT h c8
        refine vIinc F (v := 1) (k := 2) (L' := [(2, .int ((s1.2.1) + 1)), (0, .ref (gr G 1)), (1, .int (s1.1))]) dX1_lostTravellers_61 rfl k_1 (by decide) rfl ?_
        refine vGoto F (tgt := 4) dX1_lostTravellers_64 (by decide) ?_
        refine vSub [1, 2, 0] rfl ?_
        have z := okL h
        exact z
      · replace h := okF h c8
        refine vIloadN F dX1_lostTravellers_49 (k := 1) rfl ?_
        refine vAloadN F dX1_lostTravellers_50 (k := 0) rfl ?_
        refine vGetR F (t := 11) dX1_lostTravellers_51 fa_X1_12 (cqC_1 hs) rfl ?_
        refine vGetR F (t := 11 + 8) dX1_lostTravellers_54 fa_X1_142 (is_X5_11 hs).1 rfl ?_
        refine vIloadN F dX1_lostTravellers_57 (k := 2) rfl ?_
        obtain ⟨g7, h⟩ := okga h
        refine vIald F dX1_lostTravellers_58 (is_X5_11 hs).2.2.2.2.2.2.2.2.1 g7 ?_
        refine vIadd F dX1_lostTravellers_59 ?_
        refine vIstoreN F (L' := [(1, .int ((s1.1) + ((r5.2).1 (11 + 8) (s1.2.1).toNatClampNeg))), (0, .ref (gr G 1)), (2, .int (s1.2.1))]) dX1_lostTravellers_60 rfl (by decide) rfl ?_
        refine vIinc F (v := 1) (k := 2) (L' := [(2, .int ((s1.2.1) + 1)), (1, .int ((s1.1) + ((r5.2).1 (11 + 8) (s1.2.1).toNatClampNeg))), (0, .ref (gr G 1))]) dX1_lostTravellers_61 rfl k_1 (by decide) rfl ?_
        refine vGoto F (tgt := 4) dX1_lostTravellers_64 (by decide) ?_
        refine vSub [2, 1, 0] rfl ?_
        have z := okL h
        exact z
noncomputable def Jo_lostPairs_l17 (s1 : Int32 × Int32 × Mm) (s3 : Int32 × Int32 × Mm) : Option ((Int32 × Int32 × Mm) ⊕ (Int32 × Mm)) :=
  if ((s3.2.2).1 11 0) ≤ (s3.2.1) then
 (some (.inr (s3.1, s3.2.2)))
 else ((Jo_walk (s3.2.2) (s1.2.1) (s3.2.1)).bind fun r5 =>
  if (r5.1) = (s3.2.1) then
 (some (.inl (s3.1, (s3.2.1) + 1, r5.2)))
 else (some (.inl ((s3.1) + 1, (s3.2.1) + 1, r5.2))))
noncomputable def Jo_lostPairs_l4  (s1 : Int32 × Int32 × Mm) : Option ((Int32 × Int32 × Mm) ⊕ (Int32 × Mm)) :=
  if ((s1.2.2).1 11 0) ≤ (s1.2.1) then
 (some (.inr (s1.1, s1.2.2)))
 else ((iter (Jo_lostPairs_l17 s1) (s1.1, 0, s1.2.2)).bind fun e4 =>
  some (.inl (e4.1, (s1.2.1) + 1, e4.2)))
noncomputable def Jo_lostPairs (m : Mm) : Option (Int32 × Mm) :=
  (iter (Jo_lostPairs_l4) (0, 0, m)).bind fun e2 =>
  some (e2.1, e2.2)
set_option maxRecDepth 20000 in
set_option maxHeartbeats 4000000 in
theorem Jo_lostPairs_ok {G : Gw} (hG : gOk G) (hs : gsh G = shC) {m : Mm} {P : Option Value → Mm → Prop} (h : mjO (Jo_lostPairs m) (fun r => P (some (.int r.1)) r.2)) : mjR G 2 yX1_lostPairs cX1_lostPairs 4 (some .int) [.ref (gr G 1)] m P := by
  refine mjR_of hG (by decide) (Nat.le_of_ble_eq_true rfl) ?_
  intro X F
  have F : mjF G X cX1_lostPairs RX1 4 2 (some .int) := F
  show mjV G X 4 0 [(0, .ref (gr G 1))] [] m P
  unfold Jo_lostPairs at h
  refine vIconst F (v := 0) dX1_lostPairs_0 k_0 ?_
  refine vIstoreN F (L' := [(1, .int 0), (0, .ref (gr G 1))]) dX1_lostPairs_1 rfl (by decide) rfl ?_
  refine vIconst F (v := 0) dX1_lostPairs_2 k_0 ?_
  refine vIstoreN F (L' := [(2, .int 0), (1, .int 0), (0, .ref (gr G 1))]) dX1_lostPairs_3 rfl (by decide) rfl ?_
  refine vSub [2, 1, 0] rfl ?_
  refine okLoop (s0 := (0, 0, m)) (T := (fun (s1 : Int32 × Int32 × Mm) => mjV G X 4 4 [(0, .ref (gr G 1)), (1, .int (s1.1)), (2, .int (s1.2.1))] [] (s1.2.2) P)) (Ve := (fun (e2 : Int32 × Mm) => mjV G X 4 53 [(1, .int (e2.1))] [] (e2.2) P)) h ?_ (fun s1 h => ?_)
  · intro e2 h
    refine vIloadN F dX1_lostPairs_53 (k := 0) rfl ?_
    have z := okS h
    exact vIret F dX1_lostPairs_54 z
  · unfold Jo_lostPairs_l4 at h
    refine vIloadN F dX1_lostPairs_4 (k := 2) rfl ?_
    refine vAloadN F dX1_lostPairs_5 (k := 0) rfl ?_
    refine vGetR F (t := 11) dX1_lostPairs_6 fa_X1_12 (cqC_1 hs) rfl ?_
    refine vGetI F dX1_lostPairs_9 fa_X1_51 (is_X5_11 hs).1 rfl ?_
    refine vIcmpGe F (tgt := 53) dX1_lostPairs_12 (by decide) (fun c9 => ?_) (fun c9 => ?_)
    · replace h := okT h c9
      refine vSub [1] rfl ?_
      have z := okR h
      exact z
    · replace h := okF h c9
      refine vIconst F (v := 0) dX1_lostPairs_15 k_0 ?_
      refine vIstoreN F (L' := [(3, .int 0), (0, .ref (gr G 1)), (1, .int (s1.1)), (2, .int (s1.2.1))]) dX1_lostPairs_16 rfl (by decide) rfl ?_
      refine vSub [1, 2, 3, 0] rfl ?_
      refine okLoop (s0 := (s1.1, 0, s1.2.2)) (T := (fun (s3 : Int32 × Int32 × Mm) => mjV G X 4 17 [(0, .ref (gr G 1)), (1, .int (s3.1)), (2, .int (s1.2.1)), (3, .int (s3.2.1))] [] (s3.2.2) P)) (Ve := (fun (e4 : Int32 × Mm) => mjV G X 4 47 [(0, .ref (gr G 1)), (1, .int (e4.1)), (2, .int (s1.2.1))] [] (e4.2) P)) h ?_ (fun s3 h => ?_)
      · intro e4 h
        refine vIinc F (v := 1) (k := 2) (L' := [(2, .int ((s1.2.1) + 1)), (0, .ref (gr G 1)), (1, .int (e4.1))]) dX1_lostPairs_47 rfl k_1 (by decide) rfl ?_
        refine vGoto F (tgt := 4) dX1_lostPairs_50 (by decide) ?_
        refine vSub [1, 2, 0] rfl ?_
        have z := okL h
        exact z
      · unfold Jo_lostPairs_l17 at h
        refine vIloadN F dX1_lostPairs_17 (k := 3) rfl ?_
        refine vAloadN F dX1_lostPairs_18 (k := 0) rfl ?_
        refine vGetR F (t := 11) dX1_lostPairs_19 fa_X1_12 (cqC_1 hs) rfl ?_
        refine vGetI F dX1_lostPairs_22 fa_X1_51 (is_X5_11 hs).1 rfl ?_
        refine vIcmpGe F (tgt := 47) dX1_lostPairs_25 (by decide) (fun c7 => ?_) (fun c7 => ?_)
        · replace h := okT h c7
          refine vSub [0, 1, 2] rfl ?_
          have z := okR h
          exact z
        · replace h := okF h c7
          refine vAloadN F dX1_lostPairs_28 (k := 0) rfl ?_
          refine vIloadN F dX1_lostPairs_29 (k := 2) rfl ?_
          refine vIloadN F dX1_lostPairs_30 (k := 3) rfl ?_
          refine vCallV F (d' := 1) (x := 1) (T := TX1) (N := 15) (As := [.int (s1.2.1), .int (s3.2.1)]) (st := []) dX1_lostPairs_31 lk_X1_139 my_X1_walk mv_X1_walk (cqC_1 hs) rfl (by decide) rfl rfl (Nat.le_of_ble_eq_true rfl) (Jo_walk_ok hG hs (okB h fun r5 h => ?_))
          show mjV G X 4 34 [(0, .ref (gr G 1)), (1, .int (s3.1)), (2, .int (s1.2.1)), (3, .int (s3.2.1))] [.int (r5.1)] (r5.2) P
          refine vIloadN F dX1_lostPairs_34 (k := 3) rfl ?_
          refine vIcmpEq F (tgt := 41) dX1_lostPairs_35 (by decide) (fun c6 => ?_) (fun c6 => ?_)
          · replace h := okT h c6
            refine vIinc F (v := 1) (k := 3) (L' := [(3, .int ((s3.2.1) + 1)), (0, .ref (gr G 1)), (1, .int (s3.1)), (2, .int (s1.2.1))]) dX1_lostPairs_41 rfl k_1 (by decide) rfl ?_
            refine vGoto F (tgt := 17) dX1_lostPairs_44 (by decide) ?_
            refine vSub [1, 2, 3, 0] rfl ?_
            have z := okL h
            exact z
          · replace h := okF h c6
            refine vIinc F (v := 1) (k := 1) (L' := [(1, .int ((s3.1) + 1)), (0, .ref (gr G 1)), (2, .int (s1.2.1)), (3, .int (s3.2.1))]) dX1_lostPairs_38 rfl k_1 (by decide) rfl ?_
            refine vIinc F (v := 1) (k := 3) (L' := [(3, .int ((s3.2.1) + 1)), (1, .int ((s3.1) + 1)), (0, .ref (gr G 1)), (2, .int (s1.2.1))]) dX1_lostPairs_41 rfl k_1 (by decide) rfl ?_
            refine vGoto F (tgt := 17) dX1_lostPairs_44 (by decide) ?_
            refine vSub [2, 1, 3, 0] rfl ?_
            have z := okL h
            exact z
