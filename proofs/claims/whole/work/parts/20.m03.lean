noncomputable def Mo_turned (m : Mm) (a1 : Int32) (a2 : Int32) : Option (Int32 × Mm) :=
  if (Mo_arePlaces m a1 a2) = true then
 (ga a1 7 (if (Mo_has (m.1 4 a1.toNatClampNeg) a2) = true then
 ((Mo_lostPairs (si (si m 0 32 a1) 0 33 a2)).bind fun r2 =>
  some (r2.1, si (si (r2.2) 0 32 (-1)) 0 33 (-1)))
 else (some ((-3), m))))
 else (some ((-1), m))
set_option maxRecDepth 20000 in
set_option maxHeartbeats 4000000 in
theorem Mo_turned_ok {G : Gw} (hG : gOk G) (hs : gsh G = shM) {a1 : Int32} {a2 : Int32} {m : Mm} {P : Option Value → Mm → Prop} (h : mjO (Mo_turned m a1 a2) (fun r => P (some (.int r.1)) r.2)) : mjR G 6 yX7_turned cX7_turned 4 (some .int) [.ref (gr G 0), .int a1, .int a2] m P := by
  refine mjR_of hG (by decide) (Nat.le_of_ble_eq_true rfl) ?_
  intro X F
  have F : mjF G X cX7_turned RX7 4 6 (some .int) := F
  show mjV G X 4 0 [(0, .ref (gr G 0)), (1, .int a1), (2, .int a2)] [] m P
  unfold Mo_turned at h
  refine vAloadN F dX7_turned_0 (k := 0) rfl ?_
  refine vIloadN F dX7_turned_1 (k := 1) rfl ?_
  refine vIloadN F dX7_turned_2 (k := 2) rfl ?_
  refine vCallV F (d' := 2) (x := 0) (T := TX7) (N := 61) (As := [.int a1, .int a2]) (st := []) dX7_turned_3 lk_X7_205 my_X7_arePlaces mv_X7_arePlaces (cqM_0 hs) rfl (by decide) rfl rfl (Nat.le_of_ble_eq_true rfl) (Mo_arePlaces_ok hG hs ?_)
  show mjV G X 4 6 [(0, .ref (gr G 0)), (1, .int a1), (2, .int a2)] [.int (bI (Mo_arePlaces m a1 a2))] m P
  refine vIfNeB F (tgt := 11) dX7_turned_6 (by decide) (fun c4 => ?_) (fun c4 => ?_)
  · replace h := okT h c4
    refine vAloadN F dX7_turned_11 (k := 0) rfl ?_
    refine vAloadN F dX7_turned_12 (k := 0) rfl ?_
    refine vGetR F (t := 4) dX7_turned_13 fa_X7_26 (cqM_0 hs) rfl ?_
    refine vIloadN F dX7_turned_16 (k := 1) rfl ?_
    obtain ⟨g1, h⟩ := okga h
    refine vIald F dX7_turned_17 (cqM_4 hs) g1 ?_
    refine vIloadN F dX7_turned_18 (k := 2) rfl ?_
    refine vCallV F (d' := 0) (x := 0) (T := TX7) (N := 61) (As := [.int (m.1 4 a1.toNatClampNeg), .int a2]) (st := []) dX7_turned_19 lk_X7_209 my_X7_has mv_X7_has (cqM_0 hs) rfl (by decide) rfl rfl (Nat.le_of_ble_eq_true rfl) (Mo_has_ok hG hs ?_)
    show mjV G X 4 22 [(0, .ref (gr G 0)), (1, .int a1), (2, .int a2)] [.int (bI (Mo_has (m.1 4 a1.toNatClampNeg) a2))] m P
    refine vIfNeB F (tgt := 28) dX7_turned_22 (by decide) (fun c3 => ?_) (fun c3 => ?_)
    · replace h := okT h c3
      refine vAloadN F dX7_turned_28 (k := 0) rfl ?_
      refine vIloadN F dX7_turned_29 (k := 1) rfl ?_
      refine vPutI F dX7_turned_30 fw_X7_108 (cqM_0 hs) rfl ⟨rfl, rfl⟩ ?_
      refine vAloadN F dX7_turned_33 (k := 0) rfl ?_
      refine vIloadN F dX7_turned_34 (k := 2) rfl ?_
      refine vPutI F dX7_turned_35 fw_X7_111 (cqM_0 hs) rfl ⟨rfl, rfl⟩ ?_
      refine vAloadN F dX7_turned_38 (k := 0) rfl ?_
      refine vCallV F (d' := 5) (x := 0) (T := TX7) (N := 61) (As := []) (st := []) dX7_turned_39 lk_X7_327 my_X7_lostPairs mv_X7_lostPairs (cqM_0 hs) rfl (by decide) rfl rfl (Nat.le_of_ble_eq_true rfl) (Mo_lostPairs_ok hG hs (okB h fun r2 h => ?_))
      show mjV G X 4 42 [(0, .ref (gr G 0)), (1, .int a1), (2, .int a2)] [.int (r2.1)] (r2.2) P
      refine vIstoreN F (L' := [(3, .int (r2.1)), (0, .ref (gr G 0)), (1, .int a1), (2, .int a2)]) dX7_turned_42 rfl (by decide) rfl ?_
      refine vAloadN F dX7_turned_43 (k := 1) rfl ?_
      refine vIconst F (v := (-1)) dX7_turned_44 k_m1 ?_
      refine vPutI F dX7_turned_45 fw_X7_108 (cqM_0 hs) rfl ⟨rfl, rfl⟩ ?_
      refine vAloadN F dX7_turned_48 (k := 1) rfl ?_
      refine vIconst F (v := (-1)) dX7_turned_49 k_m1 ?_
      refine vPutI F dX7_turned_50 fw_X7_111 (cqM_0 hs) rfl ⟨rfl, rfl⟩ ?_
      refine vIloadN F dX7_turned_53 (k := 0) rfl ?_
      have z := okS h
      exact vIret F dX7_turned_54 z
    · replace h := okF h c3
      refine vBipush F (v := (-3)) dX7_turned_25 kb_m3 ?_
      have z := okS h
      exact vIret F dX7_turned_27 z
  · replace h := okF h c4
    refine vIconst F (v := (-1)) dX7_turned_9 k_m1 ?_
    have z := okS h
    exact vIret F dX7_turned_10 z
def Mo_chainOf_l20 (m : Mm) (s1 : Int32 × Int32) (s3 : Int32 × Int32) : Option ((Int32 × Int32) ⊕ Int32) :=
  if (m.1 0 0) ≤ (s3.2) then
 (some (.inr (s3.1)))
 else (if (Mo_has (s1.1) (s3.2)) = true then
 (ga (s3.2) 7 (some (.inl ((s3.1) ||| (m.1 4 (s3.2).toNatClampNeg), (s3.2) + 1))))
 else (some (.inl ((s3.1) ||| 0, (s3.2) + 1))))
noncomputable def Mo_chainOf_l7 (m : Mm) (a2 : Int32) (s1 : Int32 × Int32) : Option ((Int32 × Int32) ⊕ (Unit ⊕ Int32)) :=
  if 8 ≤ (s1.2) then
 (some (.inr (.inl ())))
 else ((iter (Mo_chainOf_l20 m s1) (s1.1, 0)).bind fun e4 =>
  if (Mo_has e4 a2) = true then
 (some (.inr (.inr (s1.2))))
 else (some (.inl (e4, (s1.2) + 1))))
noncomputable def Mo_chainOf (m : Mm) (a1 : Int32) (a2 : Int32) : Option (Int32) :=
  (iter (Mo_chainOf_l7 m a2) (1 <<< (a1 &&& 31), 1)).bind (Sum.elim (fun e2 => some (-5)) (fun v11 => some v11))
set_option maxRecDepth 20000 in
set_option maxHeartbeats 4000000 in
theorem Mo_chainOf_ok {G : Gw} (hG : gOk G) (hs : gsh G = shM) {a1 : Int32} {a2 : Int32} {m : Mm} {P : Option Value → Mm → Prop} (h : mjO (Mo_chainOf m a1 a2) (fun r => P (some (.int r)) m)) : mjR G 1 yX7_chainOf cX7_chainOf 7 (some .int) [.ref (gr G 0), .int a1, .int a2] m P := by
  refine mjR_of hG (by decide) (Nat.le_of_ble_eq_true rfl) ?_
  intro X F
  have F : mjF G X cX7_chainOf RX7 7 1 (some .int) := F
  show mjV G X 7 0 [(0, .ref (gr G 0)), (1, .int a1), (2, .int a2)] [] m P
  unfold Mo_chainOf at h
  refine vIconst F (v := 1) dX7_chainOf_0 k_1 ?_
  refine vIloadN F dX7_chainOf_1 (k := 1) rfl ?_
  refine vIshl F dX7_chainOf_2 ?_
  refine vIstoreN F (L' := [(3, .int (1 <<< (a1 &&& 31))), (0, .ref (gr G 0)), (1, .int a1), (2, .int a2)]) dX7_chainOf_3 rfl (by decide) rfl ?_
  refine vIconst F (v := 1) dX7_chainOf_4 k_1 ?_
  refine vIstore F (L' := [(4, .int 1), (3, .int (1 <<< (a1 &&& 31))), (0, .ref (gr G 0)), (1, .int a1), (2, .int a2)]) dX7_chainOf_5 (by decide) rfl ?_
  refine vSub [2, 4, 1, 0] rfl ?_
  refine okLoop (s0 := (1 <<< (a1 &&& 31), 1)) (T := (fun (s1 : Int32 × Int32) => mjV G X 7 7 [(0, .ref (gr G 0)), (2, .int a2), (3, .int (s1.1)), (4, .int (s1.2))] [] m P)) (Ve := (Sum.elim (fun (e2 : Unit) => mjV G X 7 83 [] [] m P) (fun (v11 : Int32) => P (some (.int v11)) m))) h ?_ (fun s1 h => ?_)
  · intro q h
    rcases q with e2 | v11
    · refine vBipush F (v := (-5)) dX7_chainOf_83 kb_m5 ?_
      have z := okS h
      exact vIret F dX7_chainOf_85 z
    · have z := okS h
      exact z
  · unfold Mo_chainOf_l7 at h
    refine vIload F dX7_chainOf_7 (k := 3) rfl ?_
    refine vBipush F (v := 8) dX7_chainOf_9 kb_8 ?_
    refine vIcmpGe F (tgt := 83) dX7_chainOf_11 (by decide) (fun c10 => ?_) (fun c10 => ?_)
    · replace h := okT h c10
      refine vSub [] rfl ?_
      have z := okR h
      exact z
    · replace h := okF h c10
      refine vIloadN F dX7_chainOf_14 (k := 2) rfl ?_
      refine vIstore F (L' := [(5, .int (s1.1)), (0, .ref (gr G 0)), (2, .int a2), (3, .int (s1.1)), (4, .int (s1.2))]) dX7_chainOf_15 (by decide) rfl ?_
      refine vIconst F (v := 0) dX7_chainOf_17 k_0 ?_
      refine vIstore F (L' := [(6, .int 0), (5, .int (s1.1)), (0, .ref (gr G 0)), (2, .int a2), (3, .int (s1.1)), (4, .int (s1.2))]) dX7_chainOf_18 (by decide) rfl ?_
      refine vSub [2, 3, 4, 5, 1, 0] rfl ?_
      refine okLoop (s0 := (s1.1, 0)) (T := (fun (s3 : Int32 × Int32) => mjV G X 7 20 [(0, .ref (gr G 0)), (2, .int a2), (3, .int (s1.1)), (4, .int (s1.2)), (5, .int (s3.1)), (6, .int (s3.2))] [] m P)) (Ve := (fun (e4 : Int32) => mjV G X 7 61 [(0, .ref (gr G 0)), (2, .int a2), (4, .int (s1.2)), (5, .int e4)] [] m P)) h ?_ (fun s3 h => ?_)
      · intro e4 h
        refine vAloadN F dX7_chainOf_61 (k := 0) rfl ?_
        refine vIload F dX7_chainOf_62 (k := 3) rfl ?_
        refine vIloadN F dX7_chainOf_64 (k := 1) rfl ?_
        refine vCallV F (d' := 0) (x := 0) (T := TX7) (N := 61) (As := [.int e4, .int a2]) (st := []) dX7_chainOf_65 lk_X7_209 my_X7_has mv_X7_has (cqM_0 hs) rfl (by decide) rfl rfl (Nat.le_of_ble_eq_true rfl) (Mo_has_ok hG hs ?_)
        show mjV G X 7 68 [(0, .ref (gr G 0)), (2, .int a2), (4, .int (s1.2)), (5, .int e4)] [.int (bI (Mo_has e4 a2))] m P
        refine vIfEqB F (tgt := 74) dX7_chainOf_68 (by decide) (fun c8 => ?_) (fun c8 => ?_)
        · replace h := okF h c8
          refine vIload F dX7_chainOf_74 (k := 3) rfl ?_
          refine vIstoreN F (L' := [(3, .int e4), (0, .ref (gr G 0)), (2, .int a2), (4, .int (s1.2)), (5, .int e4)]) dX7_chainOf_76 rfl (by decide) rfl ?_
          refine vIinc F (v := 1) (k := 3) (L' := [(4, .int ((s1.2) + 1)), (3, .int e4), (0, .ref (gr G 0)), (2, .int a2), (5, .int e4)]) dX7_chainOf_77 rfl k_1 (by decide) rfl ?_
          refine vGoto F (tgt := 7) dX7_chainOf_80 (by decide) ?_
          refine vSub [2, 3, 1, 0] rfl ?_
          have z := okL h
          exact z
        · replace h := okT h c8
          refine vIload F dX7_chainOf_71 (k := 2) rfl ?_
          have z := okR h
          exact vIret F dX7_chainOf_73 z
      · unfold Mo_chainOf_l20 at h
        refine vIload F dX7_chainOf_20 (k := 5) rfl ?_
        refine vAloadN F dX7_chainOf_22 (k := 0) rfl ?_
        refine vGetI F dX7_chainOf_23 fa_X7_7 (cqM_0 hs) rfl ?_
        refine vIcmpGe F (tgt := 61) dX7_chainOf_26 (by decide) (fun c7 => ?_) (fun c7 => ?_)
        · replace h := okT h c7
          refine vSub [0, 1, 3, 4] rfl ?_
          have z := okR h
          exact z
        · replace h := okF h c7
          refine vIload F dX7_chainOf_29 (k := 4) rfl ?_
          refine vAloadN F dX7_chainOf_31 (k := 0) rfl ?_
          refine vIloadN F dX7_chainOf_32 (k := 2) rfl ?_
          refine vIload F dX7_chainOf_33 (k := 5) rfl ?_
          refine vCallV F (d' := 0) (x := 0) (T := TX7) (N := 61) (As := [.int (s1.1), .int (s3.2)]) (st := [.int (s3.1)]) dX7_chainOf_35 lk_X7_209 my_X7_has mv_X7_has (cqM_0 hs) rfl (by decide) rfl rfl (Nat.le_of_ble_eq_true rfl) (Mo_has_ok hG hs ?_)
          show mjV G X 7 38 [(0, .ref (gr G 0)), (2, .int a2), (3, .int (s1.1)), (4, .int (s1.2)), (5, .int (s3.1)), (6, .int (s3.2))] [.int (bI (Mo_has (s1.1) (s3.2))), .int (s3.1)] m P
          refine vIfEqB F (tgt := 51) dX7_chainOf_38 (by decide) (fun c6 => ?_) (fun c6 => ?_)
          · replace h := okF h c6
            refine vIconst F (v := 0) dX7_chainOf_51 k_0 ?_
            refine vIor F dX7_chainOf_52 ?_
            refine vIstore F (L' := [(5, .int ((s3.1) ||| 0)), (0, .ref (gr G 0)), (2, .int a2), (3, .int (s1.1)), (4, .int (s1.2)), (6, .int (s3.2))]) dX7_chainOf_53 (by decide) rfl ?_
            refine vIinc F (v := 1) (k := 5) (L' := [(6, .int ((s3.2) + 1)), (5, .int ((s3.1) ||| 0)), (0, .ref (gr G 0)), (2, .int a2), (3, .int (s1.1)), (4, .int (s1.2))]) dX7_chainOf_55 rfl k_1 (by decide) rfl ?_
            refine vGoto F (tgt := 20) dX7_chainOf_58 (by decide) ?_
            refine vSub [2, 3, 4, 5, 1, 0] rfl ?_
            have z := okL h
            exact z
          · replace h := okT h c6
            refine vAloadN F dX7_chainOf_41 (k := 0) rfl ?_
            refine vGetR F (t := 4) dX7_chainOf_42 fa_X7_26 (cqM_0 hs) rfl ?_
            refine vIload F dX7_chainOf_45 (k := 5) rfl ?_
            obtain ⟨g5, h⟩ := okga h
            refine vIald F dX7_chainOf_47 (cqM_4 hs) g5 ?_
            refine vGoto F (tgt := 52) dX7_chainOf_48 (by decide) ?_
            refine vIor F dX7_chainOf_52 ?_
            refine vIstore F (L' := [(5, .int ((s3.1) ||| (m.1 4 (s3.2).toNatClampNeg))), (0, .ref (gr G 0)), (2, .int a2), (3, .int (s1.1)), (4, .int (s1.2)), (6, .int (s3.2))]) dX7_chainOf_53 (by decide) rfl ?_
            refine vIinc F (v := 1) (k := 5) (L' := [(6, .int ((s3.2) + 1)), (5, .int ((s3.1) ||| (m.1 4 (s3.2).toNatClampNeg))), (0, .ref (gr G 0)), (2, .int a2), (3, .int (s1.1)), (4, .int (s1.2))]) dX7_chainOf_55 rfl k_1 (by decide) rfl ?_
            refine vGoto F (tgt := 20) dX7_chainOf_58 (by decide) ?_
            refine vSub [2, 3, 4, 5, 1, 0] rfl ?_
            have z := okL h
            exact z
noncomputable def Mo_chain (m : Mm) (a1 : Int32) (a2 : Int32) : Option (Int32) :=
  if (Mo_arePlaces m a1 a2) = true then
 (if a1 = a2 then
 (some (-2))
 else ((Mo_chainOf m a1 a2).bind fun r1 =>
  some r1))
 else (some (-1))
set_option maxRecDepth 20000 in
set_option maxHeartbeats 4000000 in
theorem Mo_chain_ok {G : Gw} (hG : gOk G) (hs : gsh G = shM) {a1 : Int32} {a2 : Int32} {m : Mm} {P : Option Value → Mm → Prop} (h : mjO (Mo_chain m a1 a2) (fun r => P (some (.int r)) m)) : mjR G 3 yX7_chain cX7_chain 3 (some .int) [.ref (gr G 0), .int a1, .int a2] m P := by
  refine mjR_of hG (by decide) (Nat.le_of_ble_eq_true rfl) ?_
  intro X F
  have F : mjF G X cX7_chain RX7 3 3 (some .int) := F
  show mjV G X 3 0 [(0, .ref (gr G 0)), (1, .int a1), (2, .int a2)] [] m P
  unfold Mo_chain at h
  refine vAloadN F dX7_chain_0 (k := 0) rfl ?_
  refine vIloadN F dX7_chain_1 (k := 1) rfl ?_
  refine vIloadN F dX7_chain_2 (k := 2) rfl ?_
  refine vCallV F (d' := 2) (x := 0) (T := TX7) (N := 61) (As := [.int a1, .int a2]) (st := []) dX7_chain_3 lk_X7_205 my_X7_arePlaces mv_X7_arePlaces (cqM_0 hs) rfl (by decide) rfl rfl (Nat.le_of_ble_eq_true rfl) (Mo_arePlaces_ok hG hs ?_)
  show mjV G X 3 6 [(0, .ref (gr G 0)), (1, .int a1), (2, .int a2)] [.int (bI (Mo_arePlaces m a1 a2))] m P
  refine vIfNeB F (tgt := 11) dX7_chain_6 (by decide) (fun c3 => ?_) (fun c3 => ?_)
  · replace h := okT h c3
    refine vIloadN F dX7_chain_11 (k := 1) rfl ?_
    refine vIloadN F dX7_chain_12 (k := 2) rfl ?_
    refine vIcmpNe F (tgt := 21) dX7_chain_13 (by decide) (fun c2 => ?_) (fun c2 => ?_)
    · replace h := okF h c2
      refine vAloadN F dX7_chain_21 (k := 0) rfl ?_
      refine vIloadN F dX7_chain_22 (k := 1) rfl ?_
      refine vIloadN F dX7_chain_23 (k := 2) rfl ?_
      refine vCallV F (d' := 1) (x := 0) (T := TX7) (N := 61) (As := [.int a1, .int a2]) (st := []) dX7_chain_24 lk_X7_330 my_X7_chainOf mv_X7_chainOf (cqM_0 hs) rfl (by decide) rfl rfl (Nat.le_of_ble_eq_true rfl) (Mo_chainOf_ok hG hs (okB h fun r1 h => ?_))
      show mjV G X 3 27 [(0, .ref (gr G 0)), (1, .int a1), (2, .int a2)] [.int r1] m P
      have z := okS h
      exact vIret F dX7_chain_27 z
    · replace h := okT h c2
      refine vBipush F (v := (-2)) dX7_chain_16 kb_m2 ?_
      refine vGoto F (tgt := 27) dX7_chain_18 (by decide) ?_
      have z := okS h
      exact vIret F dX7_chain_27 z
  · replace h := okF h c3
    refine vIconst F (v := (-1)) dX7_chain_9 k_m1 ?_
    have z := okS h
    exact vIret F dX7_chain_10 z
noncomputable def Mo_allIn_l26 (m : Mm) (a1 : Int32) (s1 : Int32) (s3 : Int32) : Option ((Int32) ⊕ (Unit ⊕ Int32)) :=
  if (m.1 0 0) ≤ s3 then
 (some (.inr (.inl ())))
 else (if s1 = s3 then
 (some (.inl (s3 + 1)))
 else ((Mo_chainOf m s1 s3).bind fun r5 =>
  if (Mo_in r5 1 a1) = true then
 (some (.inl (s3 + 1)))
 else (some (.inr (.inr 0)))))
noncomputable def Mo_allIn_l16 (m : Mm) (a1 : Int32) (s1 : Int32) : Option ((Int32) ⊕ (Unit ⊕ Int32)) :=
  if (m.1 0 0) ≤ s1 then
 (some (.inr (.inl ())))
 else ((iter (Mo_allIn_l26 m a1 s1) (0)).bind (Sum.elim (fun e4 => some (.inl (s1 + 1))) (fun v9 => some (.inr (.inr v9)))))
noncomputable def Mo_allIn (m : Mm) (a1 : Int32) : Option (Int32) :=
  if (Mo_in a1 1 6) = true then
 ((iter (Mo_allIn_l16 m a1) (0)).bind (Sum.elim (fun e2 => some 1) (fun v12 => some v12)))
 else (some (-2))
set_option maxRecDepth 20000 in
set_option maxHeartbeats 4000000 in
theorem Mo_allIn_ok {G : Gw} (hG : gOk G) (hs : gsh G = shM) {a1 : Int32} {m : Mm} {P : Option Value → Mm → Prop} (h : mjO (Mo_allIn m a1) (fun r => P (some (.int r)) m)) : mjR G 2 yX7_allIn cX7_allIn 4 (some .int) [.ref (gr G 0), .int a1] m P := by
  refine mjR_of hG (by decide) (Nat.le_of_ble_eq_true rfl) ?_
  intro X F
  have F : mjF G X cX7_allIn RX7 4 2 (some .int) := F
  show mjV G X 4 0 [(0, .ref (gr G 0)), (1, .int a1)] [] m P
  unfold Mo_allIn at h
  refine vAloadN F dX7_allIn_0 (k := 0) rfl ?_
  refine vIloadN F dX7_allIn_1 (k := 1) rfl ?_
  refine vIconst F (v := 1) dX7_allIn_2 k_1 ?_
  refine vBipush F (v := 6) dX7_allIn_3 kb_6 ?_
  refine vCallV F (d' := 0) (x := 0) (T := TX7) (N := 61) (As := [.int a1, .int 1, .int 6]) (st := []) dX7_allIn_5 lk_X7_197 my_X7_in mv_X7_in (cqM_0 hs) rfl (by decide) rfl rfl (Nat.le_of_ble_eq_true rfl) (Mo_in_ok hG hs ?_)
  show mjV G X 4 8 [(0, .ref (gr G 0)), (1, .int a1)] [.int (bI (Mo_in a1 1 6))] m P
  refine vIfNeB F (tgt := 14) dX7_allIn_8 (by decide) (fun c14 => ?_) (fun c14 => ?_)
  · replace h := okT h c14
    refine vIconst F (v := 0) dX7_allIn_14 k_0 ?_
    refine vIstoreN F (L' := [(2, .int 0), (0, .ref (gr G 0)), (1, .int a1)]) dX7_allIn_15 rfl (by decide) rfl ?_
    refine vSub [1, 2, 0] rfl ?_
    refine okLoop (s0 := (0)) (T := (fun (s1 : Int32) => mjV G X 4 16 [(0, .ref (gr G 0)), (1, .int a1), (2, .int s1)] [] m P)) (Ve := (Sum.elim (fun (e2 : Unit) => mjV G X 4 68 [] [] m P) (fun (v12 : Int32) => P (some (.int v12)) m))) h ?_ (fun s1 h => ?_)
    · intro q h
      rcases q with e2 | v12
      · refine vIconst F (v := 1) dX7_allIn_68 k_1 ?_
        have z := okS h
        exact vIret F dX7_allIn_69 z
      · have z := okS h
        exact z
    · unfold Mo_allIn_l16 at h
      refine vIloadN F dX7_allIn_16 (k := 2) rfl ?_
      refine vAloadN F dX7_allIn_17 (k := 0) rfl ?_
      refine vGetI F dX7_allIn_18 fa_X7_7 (cqM_0 hs) rfl ?_
      refine vIcmpGe F (tgt := 68) dX7_allIn_21 (by decide) (fun c11 => ?_) (fun c11 => ?_)
      · replace h := okT h c11
        refine vSub [] rfl ?_
        have z := okR h
        exact z
      · replace h := okF h c11
        refine vIconst F (v := 0) dX7_allIn_24 k_0 ?_
        refine vIstoreN F (L' := [(3, .int 0), (0, .ref (gr G 0)), (1, .int a1), (2, .int s1)]) dX7_allIn_25 rfl (by decide) rfl ?_
        refine vSub [1, 2, 3, 0] rfl ?_
        refine okLoop (s0 := (0)) (T := (fun (s3 : Int32) => mjV G X 4 26 [(0, .ref (gr G 0)), (1, .int a1), (2, .int s1), (3, .int s3)] [] m P)) (Ve := (Sum.elim (fun (e4 : Unit) => mjV G X 4 62 [(0, .ref (gr G 0)), (1, .int a1), (2, .int s1)] [] m P) (fun (v9 : Int32) => P (some (.int v9)) m))) h ?_ (fun s3 h => ?_)
        · intro q h
          rcases q with e4 | v9
          · refine vIinc F (v := 1) (k := 2) (L' := [(2, .int (s1 + 1)), (0, .ref (gr G 0)), (1, .int a1)]) dX7_allIn_62 rfl k_1 (by decide) rfl ?_
            refine vGoto F (tgt := 16) dX7_allIn_65 (by decide) ?_
            refine vSub [1, 2, 0] rfl ?_
            have z := okL h
            exact z
          · have z := okR h
            exact z
        · unfold Mo_allIn_l26 at h
          refine vIloadN F dX7_allIn_26 (k := 3) rfl ?_
          refine vAloadN F dX7_allIn_27 (k := 0) rfl ?_
          refine vGetI F dX7_allIn_28 fa_X7_7 (cqM_0 hs) rfl ?_
          refine vIcmpGe F (tgt := 62) dX7_allIn_31 (by decide) (fun c8 => ?_) (fun c8 => ?_)
          · replace h := okT h c8
            refine vSub [0, 1, 2] rfl ?_
            have z := okR h
            exact z
          · replace h := okF h c8
            refine vIloadN F dX7_allIn_34 (k := 2) rfl ?_
            refine vIloadN F dX7_allIn_35 (k := 3) rfl ?_
            refine vIcmpEq F (tgt := 56) dX7_allIn_36 (by decide) (fun c7 => ?_) (fun c7 => ?_)
            · replace h := okT h c7
              refine vIinc F (v := 1) (k := 3) (L' := [(3, .int (s3 + 1)), (0, .ref (gr G 0)), (1, .int a1), (2, .int s1)]) dX7_allIn_56 rfl k_1 (by decide) rfl ?_
              refine vGoto F (tgt := 26) dX7_allIn_59 (by decide) ?_
              refine vSub [1, 2, 3, 0] rfl ?_
              have z := okL h
              exact z
            · replace h := okF h c7
              refine vAloadN F dX7_allIn_39 (k := 0) rfl ?_
              refine vAloadN F dX7_allIn_40 (k := 0) rfl ?_
              refine vIloadN F dX7_allIn_41 (k := 2) rfl ?_
              refine vIloadN F dX7_allIn_42 (k := 3) rfl ?_
              refine vCallV F (d' := 1) (x := 0) (T := TX7) (N := 61) (As := [.int s1, .int s3]) (st := [.ref (gr G 0)]) dX7_allIn_43 lk_X7_330 my_X7_chainOf mv_X7_chainOf (cqM_0 hs) rfl (by decide) rfl rfl (Nat.le_of_ble_eq_true rfl) (Mo_chainOf_ok hG hs (okB h fun r5 h => ?_))
              show mjV G X 4 46 [(0, .ref (gr G 0)), (1, .int a1), (2, .int s1), (3, .int s3)] [.int r5, .ref (gr G 0)] m P
              refine vIconst F (v := 1) dX7_allIn_46 k_1 ?_
              refine vIloadN F dX7_allIn_47 (k := 1) rfl ?_
              refine vCallV F (d' := 0) (x := 0) (T := TX7) (N := 61) (As := [.int r5, .int 1, .int a1]) (st := []) dX7_allIn_48 lk_X7_197 my_X7_in mv_X7_in (cqM_0 hs) rfl (by decide) rfl rfl (Nat.le_of_ble_eq_true rfl) (Mo_in_ok hG hs ?_)
              show mjV G X 4 51 [(0, .ref (gr G 0)), (1, .int a1), (2, .int s1), (3, .int s3)] [.int (bI (Mo_in r5 1 a1))] m P
              refine vIfNeB F (tgt := 56) dX7_allIn_51 (by decide) (fun c6 => ?_) (fun c6 => ?_)
              · replace h := okT h c6
                refine vIinc F (v := 1) (k := 3) (L' := [(3, .int (s3 + 1)), (0, .ref (gr G 0)), (1, .int a1), (2, .int s1)]) dX7_allIn_56 rfl k_1 (by decide) rfl ?_
                refine vGoto F (tgt := 26) dX7_allIn_59 (by decide) ?_
                refine vSub [1, 2, 3, 0] rfl ?_
                have z := okL h
                exact z
              · replace h := okF h c6
                refine vIconst F (v := 0) dX7_allIn_54 k_0 ?_
                have z := okR h
                exact vIret F dX7_allIn_55 z
  · replace h := okF h c14
    refine vBipush F (v := (-2)) dX7_allIn_11 kb_m2 ?_
    have z := okS h
    exact vIret F dX7_allIn_13 z
noncomputable def Mo_capitals_l4 (m : Mm) (s1 : Int32 × Int32) : Option ((Int32 × Int32) ⊕ Int32) :=
  if (m.1 0 0) ≤ (s1.2) then
 (some (.inr (s1.1)))
 else (ga (s1.2) 7 ((Mo_ones (m.1 4 (s1.2).toNatClampNeg)).bind fun r4 =>
  if r4 ≤ (s1.1) then
 (some (.inl (s1.1, (s1.2) + 1)))
 else (ga (s1.2) 7 ((Mo_ones (m.1 4 (s1.2).toNatClampNeg)).bind fun r6 =>
  some (.inl (r6, (s1.2) + 1))))))
noncomputable def Mo_capitals_l51 (m : Mm) (e2 : Int32) (s9 : Int32 × Int32) : Option ((Int32 × Int32) ⊕ Int32) :=
  if (m.1 0 0) ≤ (s9.2) then
 (some (.inr (s9.1)))
 else (ga (s9.2) 7 ((Mo_ones (m.1 4 (s9.2).toNatClampNeg)).bind fun r12 =>
  if r12 = e2 then
 (some (.inl ((s9.1) ||| (1 <<< ((s9.2) &&& 31)), (s9.2) + 1)))
 else (some (.inl ((s9.1) ||| 0, (s9.2) + 1)))))
noncomputable def Mo_capitals (m : Mm) : Option (Int32) :=
  (iter (Mo_capitals_l4 m) (0, 0)).bind fun e2 =>
  (iter (Mo_capitals_l51 m e2) (0, 0)).bind fun e10 =>
  some e10
set_option maxRecDepth 20000 in
set_option maxHeartbeats 4000000 in
theorem Mo_capitals_ok {G : Gw} (hG : gOk G) (hs : gsh G = shM) {m : Mm} {P : Option Value → Mm → Prop} (h : mjO (Mo_capitals m) (fun r => P (some (.int r)) m)) : mjR G 1 yX7_capitals cX7_capitals 4 (some .int) [.ref (gr G 0)] m P := by
  refine mjR_of hG (by decide) (Nat.le_of_ble_eq_true rfl) ?_
  intro X F
  have F : mjF G X cX7_capitals RX7 4 1 (some .int) := F
  show mjV G X 4 0 [(0, .ref (gr G 0))] [] m P
  unfold Mo_capitals at h
  refine vIconst F (v := 0) dX7_capitals_0 k_0 ?_
  refine vIstoreN F (L' := [(1, .int 0), (0, .ref (gr G 0))]) dX7_capitals_1 rfl (by decide) rfl ?_
  refine vIconst F (v := 0) dX7_capitals_2 k_0 ?_
  refine vIstoreN F (L' := [(2, .int 0), (1, .int 0), (0, .ref (gr G 0))]) dX7_capitals_3 rfl (by decide) rfl ?_
  refine vSub [2, 1, 0] rfl ?_
  refine okLoop (s0 := (0, 0)) (T := (fun (s1 : Int32 × Int32) => mjV G X 4 4 [(0, .ref (gr G 0)), (1, .int (s1.1)), (2, .int (s1.2))] [] m P)) (Ve := (fun (e2 : Int32) => mjV G X 4 47 [(0, .ref (gr G 0)), (1, .int e2)] [] m P)) h ?_ (fun s1 h => ?_)
  · intro e2 h
    refine vIconst F (v := 0) dX7_capitals_47 k_0 ?_
    refine vIstoreN F (L' := [(2, .int 0), (0, .ref (gr G 0)), (1, .int e2)]) dX7_capitals_48 rfl (by decide) rfl ?_
    refine vIconst F (v := 0) dX7_capitals_49 k_0 ?_
    refine vIstoreN F (L' := [(3, .int 0), (2, .int 0), (0, .ref (gr G 0)), (1, .int e2)]) dX7_capitals_50 rfl (by decide) rfl ?_
    refine vSub [2, 3, 1, 0] rfl ?_
    refine okLoop (s0 := (0, 0)) (T := (fun (s9 : Int32 × Int32) => mjV G X 4 51 [(0, .ref (gr G 0)), (1, .int e2), (2, .int (s9.1)), (3, .int (s9.2))] [] m P)) (Ve := (fun (e10 : Int32) => mjV G X 4 89 [(2, .int e10)] [] m P)) h ?_ (fun s9 h => ?_)
    · intro e10 h
      refine vIloadN F dX7_capitals_89 (k := 0) rfl ?_
      have z := okS h
      exact vIret F dX7_capitals_90 z
    · unfold Mo_capitals_l51 at h
      refine vIloadN F dX7_capitals_51 (k := 3) rfl ?_
      refine vAloadN F dX7_capitals_52 (k := 0) rfl ?_
      refine vGetI F dX7_capitals_53 fa_X7_7 (cqM_0 hs) rfl ?_
      refine vIcmpGe F (tgt := 89) dX7_capitals_56 (by decide) (fun c14 => ?_) (fun c14 => ?_)
      · replace h := okT h c14
        refine vSub [2] rfl ?_
        have z := okR h
        exact z
      · replace h := okF h c14
        refine vIloadN F dX7_capitals_59 (k := 2) rfl ?_
        refine vAloadN F dX7_capitals_60 (k := 0) rfl ?_
        refine vAloadN F dX7_capitals_61 (k := 0) rfl ?_
        refine vGetR F (t := 4) dX7_capitals_62 fa_X7_26 (cqM_0 hs) rfl ?_
        refine vIloadN F dX7_capitals_65 (k := 3) rfl ?_
        obtain ⟨g11, h⟩ := okga h
        refine vIald F dX7_capitals_66 (cqM_4 hs) g11 ?_
        refine vCallV F (d' := 0) (x := 0) (T := TX7) (N := 61) (As := [.int (m.1 4 (s9.2).toNatClampNeg)]) (st := [.int (s9.1)]) dX7_capitals_67 lk_X7_212 my_X7_ones mv_X7_ones (cqM_0 hs) rfl (by decide) rfl rfl (Nat.le_of_ble_eq_true rfl) (Mo_ones_ok hG hs (okB h fun r12 h => ?_))
        show mjV G X 4 70 [(0, .ref (gr G 0)), (1, .int e2), (2, .int (s9.1)), (3, .int (s9.2))] [.int r12, .int (s9.1)] m P
        refine vIloadN F dX7_capitals_70 (k := 1) rfl ?_
        refine vIcmpNe F (tgt := 80) dX7_capitals_71 (by decide) (fun c13 => ?_) (fun c13 => ?_)
        · replace h := okF h c13
          refine vIconst F (v := 0) dX7_capitals_80 k_0 ?_
          refine vIor F dX7_capitals_81 ?_
          refine vIstoreN F (L' := [(2, .int ((s9.1) ||| 0)), (0, .ref (gr G 0)), (1, .int e2), (3, .int (s9.2))]) dX7_capitals_82 rfl (by decide) rfl ?_
          refine vIinc F (v := 1) (k := 3) (L' := [(3, .int ((s9.2) + 1)), (2, .int ((s9.1) ||| 0)), (0, .ref (gr G 0)), (1, .int e2)]) dX7_capitals_83 rfl k_1 (by decide) rfl ?_
          refine vGoto F (tgt := 51) dX7_capitals_86 (by decide) ?_
          refine vSub [2, 3, 1, 0] rfl ?_
          have z := okL h
          exact z
        · replace h := okT h c13
          refine vIconst F (v := 1) dX7_capitals_74 k_1 ?_
          refine vIloadN F dX7_capitals_75 (k := 3) rfl ?_
          refine vIshl F dX7_capitals_76 ?_
          refine vGoto F (tgt := 81) dX7_capitals_77 (by decide) ?_
          refine vIor F dX7_capitals_81 ?_
          refine vIstoreN F (L' := [(2, .int ((s9.1) ||| (1 <<< ((s9.2) &&& 31)))), (0, .ref (gr G 0)), (1, .int e2), (3, .int (s9.2))]) dX7_capitals_82 rfl (by decide) rfl ?_
          refine vIinc F (v := 1) (k := 3) (L' := [(3, .int ((s9.2) + 1)), (2, .int ((s9.1) ||| (1 <<< ((s9.2) &&& 31)))), (0, .ref (gr G 0)), (1, .int e2)]) dX7_capitals_83 rfl k_1 (by decide) rfl ?_
          refine vGoto F (tgt := 51) dX7_capitals_86 (by decide) ?_
          refine vSub [2, 3, 1, 0] rfl ?_
          have z := okL h
          exact z
  · unfold Mo_capitals_l4 at h
    refine vIloadN F dX7_capitals_4 (k := 2) rfl ?_
    refine vAloadN F dX7_capitals_5 (k := 0) rfl ?_
    refine vGetI F dX7_capitals_6 fa_X7_7 (cqM_0 hs) rfl ?_
    refine vIcmpGe F (tgt := 47) dX7_capitals_9 (by decide) (fun c8 => ?_) (fun c8 => ?_)
    · replace h := okT h c8
      refine vSub [0, 1] rfl ?_
      have z := okR h
      exact z
    · replace h := okF h c8
      refine vAloadN F dX7_capitals_12 (k := 0) rfl ?_
      refine vAloadN F dX7_capitals_13 (k := 0) rfl ?_
      refine vGetR F (t := 4) dX7_capitals_14 fa_X7_26 (cqM_0 hs) rfl ?_
      refine vIloadN F dX7_capitals_17 (k := 2) rfl ?_
      obtain ⟨g3, h⟩ := okga h
      refine vIald F dX7_capitals_18 (cqM_4 hs) g3 ?_
      refine vCallV F (d' := 0) (x := 0) (T := TX7) (N := 61) (As := [.int (m.1 4 (s1.2).toNatClampNeg)]) (st := []) dX7_capitals_19 lk_X7_212 my_X7_ones mv_X7_ones (cqM_0 hs) rfl (by decide) rfl rfl (Nat.le_of_ble_eq_true rfl) (Mo_ones_ok hG hs (okB h fun r4 h => ?_))
      show mjV G X 4 22 [(0, .ref (gr G 0)), (1, .int (s1.1)), (2, .int (s1.2))] [.int r4] m P
      refine vIloadN F dX7_capitals_22 (k := 1) rfl ?_
      refine vIcmpLe F (tgt := 39) dX7_capitals_23 (by decide) (fun c7 => ?_) (fun c7 => ?_)
      · replace h := okT h c7
        refine vIloadN F dX7_capitals_39 (k := 1) rfl ?_
        refine vIstoreN F (L' := [(1, .int (s1.1)), (0, .ref (gr G 0)), (2, .int (s1.2))]) dX7_capitals_40 rfl (by decide) rfl ?_
        refine vIinc F (v := 1) (k := 2) (L' := [(2, .int ((s1.2) + 1)), (1, .int (s1.1)), (0, .ref (gr G 0))]) dX7_capitals_41 rfl k_1 (by decide) rfl ?_
        refine vGoto F (tgt := 4) dX7_capitals_44 (by decide) ?_
        refine vSub [2, 1, 0] rfl ?_
        have z := okL h
        exact z
      · replace h := okF h c7
        refine vAloadN F dX7_capitals_26 (k := 0) rfl ?_
        refine vAloadN F dX7_capitals_27 (k := 0) rfl ?_
        refine vGetR F (t := 4) dX7_capitals_28 fa_X7_26 (cqM_0 hs) rfl ?_
        refine vIloadN F dX7_capitals_31 (k := 2) rfl ?_
        obtain ⟨g5, h⟩ := okga h
        refine vIald F dX7_capitals_32 (cqM_4 hs) g5 ?_
        refine vCallV F (d' := 0) (x := 0) (T := TX7) (N := 61) (As := [.int (m.1 4 (s1.2).toNatClampNeg)]) (st := []) dX7_capitals_33 lk_X7_212 my_X7_ones mv_X7_ones (cqM_0 hs) rfl (by decide) rfl rfl (Nat.le_of_ble_eq_true rfl) (Mo_ones_ok hG hs (okB h fun r6 h => ?_))
        show mjV G X 4 36 [(0, .ref (gr G 0)), (1, .int (s1.1)), (2, .int (s1.2))] [.int r6] m P
        refine vGoto F (tgt := 40) dX7_capitals_36 (by decide) ?_
        refine vIstoreN F (L' := [(1, .int r6), (0, .ref (gr G 0)), (2, .int (s1.2))]) dX7_capitals_40 rfl (by decide) rfl ?_
        refine vIinc F (v := 1) (k := 2) (L' := [(2, .int ((s1.2) + 1)), (1, .int r6), (0, .ref (gr G 0))]) dX7_capitals_41 rfl k_1 (by decide) rfl ?_
        refine vGoto F (tgt := 4) dX7_capitals_44 (by decide) ?_
        refine vSub [2, 1, 0] rfl ?_
        have z := okL h
        exact z
def Mo_allWays_l18 (r1 : Mm) (s2 : Int32 × Int32) (s4 : Int32 × Int32) : Option ((Int32 × Int32) ⊕ Int32) :=
  if (r1.1 0 0) ≤ (s4.2) then
 (some (.inr (s4.1)))
 else (if (s2.2) = (s4.2) then
 (some (.inl ((s4.1) + 0, (s4.2) + 1)))
 else (ga ((7 * (s2.2)) + (s4.2)) 49 (if 0 ≤ (r1.1 20 ((7 * (s2.2)) + (s4.2)).toNatClampNeg) then
 (ga ((7 * (s2.2)) + (s4.2)) 49 (some (.inl ((s4.1) + (r1.1 20 ((7 * (s2.2)) + (s4.2)).toNatClampNeg), (s4.2) + 1))))
 else (some (.inl ((s4.1) + 999, (s4.2) + 1))))))
noncomputable def Mo_allWays_l8 (r1 : Mm) (s2 : Int32 × Int32) : Option ((Int32 × Int32) ⊕ Int32) :=
  if (r1.1 0 0) ≤ (s2.2) then
 (some (.inr (s2.1)))
 else ((iter (Mo_allWays_l18 r1 s2) (s2.1, 0)).bind fun e5 =>
  some (.inl (e5, (s2.2) + 1)))
noncomputable def Mo_allWays (m : Mm) : Option (Int32 × Mm) :=
  (Mo_layLand m).bind fun r1 =>
  (iter (Mo_allWays_l8 r1) (0, 0)).bind fun e3 =>
  some (e3, r1)
set_option maxRecDepth 20000 in
set_option maxHeartbeats 4000000 in
theorem Mo_allWays_ok {G : Gw} (hG : gOk G) (hs : gsh G = shM) {m : Mm} {P : Option Value → Mm → Prop} (h : mjO (Mo_allWays m) (fun r => P (some (.int r.1)) r.2)) : mjR G 5 yX7_allWays cX7_allWays 4 (some .int) [.ref (gr G 0)] m P := by
  refine mjR_of hG (by decide) (Nat.le_of_ble_eq_true rfl) ?_
  intro X F
  have F : mjF G X cX7_allWays RX7 4 5 (some .int) := F
  show mjV G X 4 0 [(0, .ref (gr G 0))] [] m P
  unfold Mo_allWays at h
  refine vAloadN F dX7_allWays_0 (k := 0) rfl ?_
  refine vCallV F (d' := 4) (x := 0) (T := TX7) (N := 61) (As := []) (st := []) dX7_allWays_1 lk_X7_294 my_X7_layLand mv_X7_layLand (cqM_0 hs) rfl (by decide) rfl rfl (Nat.le_of_ble_eq_true rfl) (Mo_layLand_ok hG hs (okB h fun r1 h => ?_))
  show mjV G X 4 4 [(0, .ref (gr G 0))] [] r1 P
  refine vIconst F (v := 0) dX7_allWays_4 k_0 ?_
  refine vIstoreN F (L' := [(1, .int 0), (0, .ref (gr G 0))]) dX7_allWays_5 rfl (by decide) rfl ?_
  refine vIconst F (v := 0) dX7_allWays_6 k_0 ?_
  refine vIstoreN F (L' := [(2, .int 0), (1, .int 0), (0, .ref (gr G 0))]) dX7_allWays_7 rfl (by decide) rfl ?_
  refine vSub [2, 1, 0] rfl ?_
  refine okLoop (s0 := (0, 0)) (T := (fun (s2 : Int32 × Int32) => mjV G X 4 8 [(0, .ref (gr G 0)), (1, .int (s2.1)), (2, .int (s2.2))] [] r1 P)) (Ve := (fun (e3 : Int32) => mjV G X 4 81 [(1, .int e3)] [] r1 P)) h ?_ (fun s2 h => ?_)
  · intro e3 h
    refine vIloadN F dX7_allWays_81 (k := 0) rfl ?_
    have z := okS h
    exact vIret F dX7_allWays_82 z
  · unfold Mo_allWays_l8 at h
    refine vIloadN F dX7_allWays_8 (k := 2) rfl ?_
    refine vAloadN F dX7_allWays_9 (k := 0) rfl ?_
    refine vGetI F dX7_allWays_10 fa_X7_7 (cqM_0 hs) rfl ?_
    refine vIcmpGe F (tgt := 81) dX7_allWays_13 (by decide) (fun c12 => ?_) (fun c12 => ?_)
    · replace h := okT h c12
      refine vSub [1] rfl ?_
      have z := okR h
      exact z
    · replace h := okF h c12
      refine vIconst F (v := 0) dX7_allWays_16 k_0 ?_
      refine vIstoreN F (L' := [(3, .int 0), (0, .ref (gr G 0)), (1, .int (s2.1)), (2, .int (s2.2))]) dX7_allWays_17 rfl (by decide) rfl ?_
      refine vSub [1, 2, 3, 0] rfl ?_
      refine okLoop (s0 := (s2.1, 0)) (T := (fun (s4 : Int32 × Int32) => mjV G X 4 18 [(0, .ref (gr G 0)), (1, .int (s4.1)), (2, .int (s2.2)), (3, .int (s4.2))] [] r1 P)) (Ve := (fun (e5 : Int32) => mjV G X 4 75 [(0, .ref (gr G 0)), (1, .int e5), (2, .int (s2.2))] [] r1 P)) h ?_ (fun s4 h => ?_)
      · intro e5 h
        refine vIinc F (v := 1) (k := 2) (L' := [(2, .int ((s2.2) + 1)), (0, .ref (gr G 0)), (1, .int e5)]) dX7_allWays_75 rfl k_1 (by decide) rfl ?_
        refine vGoto F (tgt := 8) dX7_allWays_78 (by decide) ?_
        refine vSub [1, 2, 0] rfl ?_
        have z := okL h
        exact z
      · unfold Mo_allWays_l18 at h
        refine vIloadN F dX7_allWays_18 (k := 3) rfl ?_
        refine vAloadN F dX7_allWays_19 (k := 0) rfl ?_
        refine vGetI F dX7_allWays_20 fa_X7_7 (cqM_0 hs) rfl ?_
        refine vIcmpGe F (tgt := 75) dX7_allWays_23 (by decide) (fun c10 => ?_) (fun c10 => ?_)
        · replace h := okT h c10
          refine vSub [0, 1, 2] rfl ?_
          have z := okR h
          exact z
        · replace h := okF h c10
          refine vIloadN F dX7_allWays_26 (k := 1) rfl ?_
          refine vIloadN F dX7_allWays_27 (k := 2) rfl ?_
          refine vIloadN F dX7_allWays_28 (k := 3) rfl ?_
          refine vIcmpNe F (tgt := 36) dX7_allWays_29 (by decide) (fun c9 => ?_) (fun c9 => ?_)
          · replace h := okF h c9
            refine vAloadN F dX7_allWays_36 (k := 0) rfl ?_
            refine vGetR F (t := 20) dX7_allWays_37 fa_X7_99 (cqM_0 hs) rfl ?_
            refine vBipush F (v := 7) dX7_allWays_40 kb_7 ?_
            refine vIloadN F dX7_allWays_42 (k := 2) rfl ?_
            refine vImul F dX7_allWays_43 ?_
            refine vIloadN F dX7_allWays_44 (k := 3) rfl ?_
            refine vIadd F dX7_allWays_45 ?_
            obtain ⟨g6, h⟩ := okga h
            refine vIald F dX7_allWays_46 (cqM_20 hs) g6 ?_
            refine vIfGe F (tgt := 56) dX7_allWays_47 (by decide) (fun c8 => ?_) (fun c8 => ?_)
            · replace h := okT h c8
              refine vAloadN F dX7_allWays_56 (k := 0) rfl ?_
              refine vGetR F (t := 20) dX7_allWays_57 fa_X7_99 (cqM_0 hs) rfl ?_
              refine vBipush F (v := 7) dX7_allWays_60 kb_7 ?_
              refine vIloadN F dX7_allWays_62 (k := 2) rfl ?_
              refine vImul F dX7_allWays_63 ?_
              refine vIloadN F dX7_allWays_64 (k := 3) rfl ?_
              refine vIadd F dX7_allWays_65 ?_
              obtain ⟨g7, h⟩ := okga h
              refine vIald F dX7_allWays_66 (cqM_20 hs) g7 ?_
              refine vIadd F dX7_allWays_67 ?_
              refine vIstoreN F (L' := [(1, .int ((s4.1) + (r1.1 20 ((7 * (s2.2)) + (s4.2)).toNatClampNeg))), (0, .ref (gr G 0)), (2, .int (s2.2)), (3, .int (s4.2))]) dX7_allWays_68 rfl (by decide) rfl ?_
              refine vIinc F (v := 1) (k := 3) (L' := [(3, .int ((s4.2) + 1)), (1, .int ((s4.1) + (r1.1 20 ((7 * (s2.2)) + (s4.2)).toNatClampNeg))), (0, .ref (gr G 0)), (2, .int (s2.2))]) dX7_allWays_69 rfl k_1 (by decide) rfl ?_
              refine vGoto F (tgt := 18) dX7_allWays_72 (by decide) ?_
              refine vSub [2, 1, 3, 0] rfl ?_
              have z := okL h
              exact z
            · replace h := okF h c8
              refine vSipush F (v := 999) dX7_allWays_50 ks_999 ?_
              refine vGoto F (tgt := 67) dX7_allWays_53 (by decide) ?_
              refine vIadd F dX7_allWays_67 ?_
              refine vIstoreN F (L' := [(1, .int ((s4.1) + 999)), (0, .ref (gr G 0)), (2, .int (s2.2)), (3, .int (s4.2))]) dX7_allWays_68 rfl (by decide) rfl ?_
              refine vIinc F (v := 1) (k := 3) (L' := [(3, .int ((s4.2) + 1)), (1, .int ((s4.1) + 999)), (0, .ref (gr G 0)), (2, .int (s2.2))]) dX7_allWays_69 rfl k_1 (by decide) rfl ?_
              refine vGoto F (tgt := 18) dX7_allWays_72 (by decide) ?_
              refine vSub [2, 1, 3, 0] rfl ?_
              have z := okL h
              exact z
          · replace h := okT h c9
            refine vIconst F (v := 0) dX7_allWays_32 k_0 ?_
            refine vGoto F (tgt := 67) dX7_allWays_33 (by decide) ?_
            refine vIadd F dX7_allWays_67 ?_
            refine vIstoreN F (L' := [(1, .int ((s4.1) + 0)), (0, .ref (gr G 0)), (2, .int (s2.2)), (3, .int (s4.2))]) dX7_allWays_68 rfl (by decide) rfl ?_
            refine vIinc F (v := 1) (k := 3) (L' := [(3, .int ((s4.2) + 1)), (1, .int ((s4.1) + 0)), (0, .ref (gr G 0)), (2, .int (s2.2))]) dX7_allWays_69 rfl k_1 (by decide) rfl ?_
            refine vGoto F (tgt := 18) dX7_allWays_72 (by decide) ?_
            refine vSub [2, 1, 3, 0] rfl ?_
            have z := okL h
            exact z
noncomputable def Mo_newRoad_l56 (a1 : Int32) (s2 : Int32 × Int32 × Int32 × Mm) (s4 : Int32 × Int32 × Int32 × Mm) : Option ((Int32 × Int32 × Int32 × Mm) ⊕ (Int32 × Int32 × Mm)) :=
  if ((s4.2.2.2).1 0 0) ≤ (s4.2.2.1) then
 (some (.inr (s4.1, s4.2.1, s4.2.2.2)))
 else (ga ((7 * (s2.2.2.1)) + (s4.2.2.1)) 49 (if ((s4.2.2.2).1 5 ((7 * (s2.2.2.1)) + (s4.2.2.1)).toNatClampNeg) ≤ 0 then
 (ga ((7 * (s2.2.2.1)) + (s4.2.2.1)) 49 (ga ((7 * (s4.2.2.1)) + (s2.2.2.1)) 49 ((Mo_allWays (si (si (s4.2.2.2) 5 ((7 * (s2.2.2.1)) + (s4.2.2.1)).toNatClampNeg a1) 5 ((7 * (s4.2.2.1)) + (s2.2.2.1)).toNatClampNeg a1)).bind fun r9 =>
  ga ((7 * (s2.2.2.1)) + (s4.2.2.1)) 49 (ga ((7 * (s4.2.2.1)) + (s2.2.2.1)) 49 (jn (fun (e12 : Unit) => some (.inl ((10 * (s2.2.2.1)) + (s4.2.2.1), r9.1, (s4.2.2.1) + 1, si (si (r9.2) 5 ((7 * (s2.2.2.1)) + (s4.2.2.1)).toNatClampNeg 0) 5 ((7 * (s4.2.2.1)) + (s2.2.2.1)).toNatClampNeg 0))) fun j13 =>
  if (s4.1) < 0 then
 (j13 ())
 else (if (r9.1) < (s4.2.1) then
 (j13 ())
 else (some (.inl (s4.1, s4.2.1, (s4.2.2.1) + 1, si (si (r9.2) 5 ((7 * (s2.2.2.1)) + (s4.2.2.1)).toNatClampNeg 0) 5 ((7 * (s4.2.2.1)) + (s2.2.2.1)).toNatClampNeg 0)))))))))
 else (some (.inl (s4.1, s4.2.1, (s4.2.2.1) + 1, s4.2.2.2)))))
noncomputable def Mo_newRoad_l41 (a1 : Int32) (s2 : Int32 × Int32 × Int32 × Mm) : Option ((Int32 × Int32 × Int32 × Mm) ⊕ (Int32 × Int32 × Mm)) :=
  if ((s2.2.2.2).1 0 0) ≤ (s2.2.2.1) then
 (some (.inr (s2.1, s2.2.1, s2.2.2.2)))
 else ((iter (Mo_newRoad_l56 a1 s2) (s2.1, s2.2.1, (s2.2.2.1) + 1, s2.2.2.2)).bind fun e5 =>
  some (.inl (e5.1, e5.2.1, (s2.2.2.1) + 1, e5.2.2)))
noncomputable def Mo_newRoad (m : Mm) (a1 : Int32) (a2 : Int32) : Option (Int32 × Mm) :=
  if (Mo_in a2 0 1) = true then
 (if (Mo_in a1 1 99) = true then
 ((Mo_allWays m).bind fun r1 =>
  (iter (Mo_newRoad_l41 a1) ((-5), 0, 0, r1.2)).bind fun e3 =>
  if (e3.1) < 0 then
 (some (e3.1, e3.2.2))
 else (if a2 = 0 then
 (some (e3.1, e3.2.2))
 else (some ((r1.1) - (e3.2.1), e3.2.2))))
 else (some ((-2), m)))
 else (some ((-1), m))
set_option maxRecDepth 20000 in
set_option maxHeartbeats 4000000 in
theorem Mo_newRoad_ok {G : Gw} (hG : gOk G) (hs : gsh G = shM) {a1 : Int32} {a2 : Int32} {m : Mm} {P : Option Value → Mm → Prop} (h : mjO (Mo_newRoad m a1 a2) (fun r => P (some (.int r.1)) r.2)) : mjR G 6 yX7_newRoad cX7_newRoad 9 (some .int) [.ref (gr G 0), .int a1, .int a2] m P := by
  refine mjR_of hG (by decide) (Nat.le_of_ble_eq_true rfl) ?_
  intro X F
  have F : mjF G X cX7_newRoad RX7 9 6 (some .int) := F
  show mjV G X 9 0 [(0, .ref (gr G 0)), (1, .int a1), (2, .int a2)] [] m P
  unfold Mo_newRoad at h
  refine vAloadN F dX7_newRoad_0 (k := 0) rfl ?_
  refine vIloadN F dX7_newRoad_1 (k := 2) rfl ?_
  refine vIconst F (v := 0) dX7_newRoad_2 k_0 ?_
  refine vIconst F (v := 1) dX7_newRoad_3 k_1 ?_
  refine vCallV F (d' := 0) (x := 0) (T := TX7) (N := 61) (As := [.int a2, .int 0, .int 1]) (st := []) dX7_newRoad_4 lk_X7_197 my_X7_in mv_X7_in (cqM_0 hs) rfl (by decide) rfl rfl (Nat.le_of_ble_eq_true rfl) (Mo_in_ok hG hs ?_)
  show mjV G X 9 7 [(0, .ref (gr G 0)), (1, .int a1), (2, .int a2)] [.int (bI (Mo_in a2 0 1))] m P
  refine vIfNeB F (tgt := 12) dX7_newRoad_7 (by decide) (fun c24 => ?_) (fun c24 => ?_)
  · replace h := okT h c24
    refine vAloadN F dX7_newRoad_12 (k := 0) rfl ?_
    refine vIloadN F dX7_newRoad_13 (k := 1) rfl ?_
    refine vIconst F (v := 1) dX7_newRoad_14 k_1 ?_
    refine vBipush F (v := 99) dX7_newRoad_15 kb_99 ?_
    refine vCallV F (d' := 0) (x := 0) (T := TX7) (N := 61) (As := [.int a1, .int 1, .int 99]) (st := []) dX7_newRoad_17 lk_X7_197 my_X7_in mv_X7_in (cqM_0 hs) rfl (by decide) rfl rfl (Nat.le_of_ble_eq_true rfl) (Mo_in_ok hG hs ?_)
    show mjV G X 9 20 [(0, .ref (gr G 0)), (1, .int a1), (2, .int a2)] [.int (bI (Mo_in a1 1 99))] m P
    refine vIfNeB F (tgt := 26) dX7_newRoad_20 (by decide) (fun c23 => ?_) (fun c23 => ?_)
    · replace h := okT h c23
      refine vAloadN F dX7_newRoad_26 (k := 0) rfl ?_
      refine vCallV F (d' := 5) (x := 0) (T := TX7) (N := 61) (As := []) (st := []) dX7_newRoad_27 lk_X7_333 my_X7_allWays mv_X7_allWays (cqM_0 hs) rfl (by decide) rfl rfl (Nat.le_of_ble_eq_true rfl) (Mo_allWays_ok hG hs (okB h fun r1 h => ?_))
      show mjV G X 9 30 [(0, .ref (gr G 0)), (1, .int a1), (2, .int a2)] [.int (r1.1)] (r1.2) P
      refine vIstoreN F (L' := [(3, .int (r1.1)), (0, .ref (gr G 0)), (1, .int a1), (2, .int a2)]) dX7_newRoad_30 rfl (by decide) rfl ?_
      refine vBipush F (v := (-5)) dX7_newRoad_31 kb_m5 ?_
      refine vIstore F (L' := [(4, .int (-5)), (3, .int (r1.1)), (0, .ref (gr G 0)), (1, .int a1), (2, .int a2)]) dX7_newRoad_33 (by decide) rfl ?_
      refine vIconst F (v := 0) dX7_newRoad_35 k_0 ?_
      refine vIstore F (L' := [(5, .int 0), (4, .int (-5)), (3, .int (r1.1)), (0, .ref (gr G 0)), (1, .int a1), (2, .int a2)]) dX7_newRoad_36 (by decide) rfl ?_
      refine vIconst F (v := 0) dX7_newRoad_38 k_0 ?_
      refine vIstore F (L' := [(6, .int 0), (5, .int 0), (4, .int (-5)), (3, .int (r1.1)), (0, .ref (gr G 0)), (1, .int a1), (2, .int a2)]) dX7_newRoad_39 (by decide) rfl ?_
      refine vSub [4, 5, 6, 3, 2, 1, 0] rfl ?_
      refine okLoop (s0 := ((-5), 0, 0, r1.2)) (T := (fun (s2 : Int32 × Int32 × Int32 × Mm) => mjV G X 9 41 [(0, .ref (gr G 0)), (1, .int a1), (2, .int a2), (3, .int (r1.1)), (4, .int (s2.1)), (5, .int (s2.2.1)), (6, .int (s2.2.2.1))] [] (s2.2.2.2) P)) (Ve := (fun (e3 : Int32 × Int32 × Mm) => mjV G X 9 187 [(2, .int a2), (3, .int (r1.1)), (4, .int (e3.1)), (5, .int (e3.2.1))] [] (e3.2.2) P)) h ?_ (fun s2 h => ?_)
      · intro e3 h
        refine vIload F dX7_newRoad_187 (k := 2) rfl ?_
        refine vIfLt F (tgt := 196) dX7_newRoad_189 (by decide) (fun c21 => ?_) (fun c21 => ?_)
        · replace h := okT h c21
          refine vIload F dX7_newRoad_196 (k := 2) rfl ?_
          refine vGoto F (tgt := 205) dX7_newRoad_198 (by decide) ?_
          have z := okS h
          exact vIret F dX7_newRoad_205 z
        · replace h := okF h c21
          refine vIloadN F dX7_newRoad_192 (k := 0) rfl ?_
          refine vIfNe F (tgt := 201) dX7_newRoad_193 (by decide) (fun c20 => ?_) (fun c20 => ?_)
          · replace h := okF h c20
            refine vIloadN F dX7_newRoad_201 (k := 1) rfl ?_
            refine vIload F dX7_newRoad_202 (k := 3) rfl ?_
            refine vIsub F dX7_newRoad_204 ?_
            have z := okS h
            exact vIret F dX7_newRoad_205 z
          · replace h := okT h c20
            refine vIload F dX7_newRoad_196 (k := 2) rfl ?_
            refine vGoto F (tgt := 205) dX7_newRoad_198 (by decide) ?_
            have z := okS h
            exact vIret F dX7_newRoad_205 z
      · unfold Mo_newRoad_l41 at h
        refine vIload F dX7_newRoad_41 (k := 6) rfl ?_
        refine vAloadN F dX7_newRoad_43 (k := 0) rfl ?_
        refine vGetI F dX7_newRoad_44 fa_X7_7 (cqM_0 hs) rfl ?_
        refine vIcmpGe F (tgt := 187) dX7_newRoad_47 (by decide) (fun c19 => ?_) (fun c19 => ?_)
        · replace h := okT h c19
          refine vSub [2, 3, 4, 5] rfl ?_
          have z := okR h
          exact z
        · replace h := okF h c19
          refine vIload F dX7_newRoad_50 (k := 6) rfl ?_
          refine vIconst F (v := 1) dX7_newRoad_52 k_1 ?_
          refine vIadd F dX7_newRoad_53 ?_
          refine vIstore F (L' := [(7, .int ((s2.2.2.1) + 1)), (0, .ref (gr G 0)), (1, .int a1), (2, .int a2), (3, .int (r1.1)), (4, .int (s2.1)), (5, .int (s2.2.1)), (6, .int (s2.2.2.1))]) dX7_newRoad_54 (by decide) rfl ?_
          refine vSub [1, 2, 3, 4, 5, 6, 7, 0] rfl ?_
          refine okLoop (s0 := (s2.1, s2.2.1, (s2.2.2.1) + 1, s2.2.2.2)) (T := (fun (s4 : Int32 × Int32 × Int32 × Mm) => mjV G X 9 56 [(0, .ref (gr G 0)), (1, .int a1), (2, .int a2), (3, .int (r1.1)), (4, .int (s4.1)), (5, .int (s4.2.1)), (6, .int (s2.2.2.1)), (7, .int (s4.2.2.1))] [] (s4.2.2.2) P)) (Ve := (fun (e5 : Int32 × Int32 × Mm) => mjV G X 9 181 [(0, .ref (gr G 0)), (1, .int a1), (2, .int a2), (3, .int (r1.1)), (4, .int (e5.1)), (5, .int (e5.2.1)), (6, .int (s2.2.2.1))] [] (e5.2.2) P)) h ?_ (fun s4 h => ?_)
          · intro e5 h
            refine vIinc F (v := 1) (k := 6) (L' := [(6, .int ((s2.2.2.1) + 1)), (0, .ref (gr G 0)), (1, .int a1), (2, .int a2), (3, .int (r1.1)), (4, .int (e5.1)), (5, .int (e5.2.1))]) dX7_newRoad_181 rfl k_1 (by decide) rfl ?_
            refine vGoto F (tgt := 41) dX7_newRoad_184 (by decide) ?_
            refine vSub [1, 2, 3, 4, 5, 6, 0] rfl ?_
            have z := okL h
            exact z
          · unfold Mo_newRoad_l56 at h
            refine vIload F dX7_newRoad_56 (k := 7) rfl ?_
            refine vAloadN F dX7_newRoad_58 (k := 0) rfl ?_
            refine vGetI F dX7_newRoad_59 fa_X7_7 (cqM_0 hs) rfl ?_
            refine vIcmpGe F (tgt := 181) dX7_newRoad_62 (by decide) (fun c17 => ?_) (fun c17 => ?_)
            · replace h := okT h c17
              refine vSub [0, 1, 2, 3, 4, 5, 6] rfl ?_
              have z := okR h
              exact z
            · replace h := okF h c17
              refine vAloadN F dX7_newRoad_65 (k := 0) rfl ?_
              refine vGetR F (t := 5) dX7_newRoad_66 fa_X7_29 (cqM_0 hs) rfl ?_
              refine vBipush F (v := 7) dX7_newRoad_69 kb_7 ?_
              refine vIload F dX7_newRoad_71 (k := 6) rfl ?_
              refine vImul F dX7_newRoad_73 ?_
              refine vIload F dX7_newRoad_74 (k := 7) rfl ?_
              refine vIadd F dX7_newRoad_76 ?_
              obtain ⟨g6, h⟩ := okga h
              refine vIald F dX7_newRoad_77 (cqM_5 hs) g6 ?_
              refine vIfLe F (tgt := 84) dX7_newRoad_78 (by decide) (fun c16 => ?_) (fun c16 => ?_)
              · replace h := okT h c16
                refine vAloadN F dX7_newRoad_84 (k := 0) rfl ?_
                refine vGetR F (t := 5) dX7_newRoad_85 fa_X7_29 (cqM_0 hs) rfl ?_
                refine vBipush F (v := 7) dX7_newRoad_88 kb_7 ?_
                refine vIload F dX7_newRoad_90 (k := 6) rfl ?_
                refine vImul F dX7_newRoad_92 ?_
                refine vIload F dX7_newRoad_93 (k := 7) rfl ?_
                refine vIadd F dX7_newRoad_95 ?_
                refine vIloadN F dX7_newRoad_96 (k := 1) rfl ?_
                obtain ⟨g7, h⟩ := okga h
                refine vIast F dX7_newRoad_97 (cqM_5 hs) g7 ?_
                refine vAloadN F dX7_newRoad_98 (k := 0) rfl ?_
                refine vGetR F (t := 5) dX7_newRoad_99 fa_X7_29 (cqM_0 hs) rfl ?_
                refine vBipush F (v := 7) dX7_newRoad_102 kb_7 ?_
                refine vIload F dX7_newRoad_104 (k := 7) rfl ?_
                refine vImul F dX7_newRoad_106 ?_
                refine vIload F dX7_newRoad_107 (k := 6) rfl ?_
                refine vIadd F dX7_newRoad_109 ?_
                refine vIloadN F dX7_newRoad_110 (k := 1) rfl ?_
                obtain ⟨g8, h⟩ := okga h
                refine vIast F dX7_newRoad_111 (cqM_5 hs) g8 ?_
                refine vAloadN F dX7_newRoad_112 (k := 0) rfl ?_
                refine vCallV F (d' := 5) (x := 0) (T := TX7) (N := 61) (As := []) (st := []) dX7_newRoad_113 lk_X7_333 my_X7_allWays mv_X7_allWays (cqM_0 hs) rfl (by decide) rfl rfl (Nat.le_of_ble_eq_true rfl) (Mo_allWays_ok hG hs (okB h fun r9 h => ?_))
                show mjV G X 9 116 [(0, .ref (gr G 0)), (1, .int a1), (2, .int a2), (3, .int (r1.1)), (4, .int (s4.1)), (5, .int (s4.2.1)), (6, .int (s2.2.2.1)), (7, .int (s4.2.2.1))] [.int (r9.1)] (r9.2) P
                refine vIstore F (L' := [(8, .int (r9.1)), (0, .ref (gr G 0)), (1, .int a1), (2, .int a2), (3, .int (r1.1)), (4, .int (s4.1)), (5, .int (s4.2.1)), (6, .int (s2.2.2.1)), (7, .int (s4.2.2.1))]) dX7_newRoad_116 (by decide) rfl ?_
                refine vAloadN F dX7_newRoad_118 (k := 1) rfl ?_
                refine vGetR F (t := 5) dX7_newRoad_119 fa_X7_29 (cqM_0 hs) rfl ?_
                refine vBipush F (v := 7) dX7_newRoad_122 kb_7 ?_
                refine vIload F dX7_newRoad_124 (k := 7) rfl ?_
                refine vImul F dX7_newRoad_126 ?_
                refine vIload F dX7_newRoad_127 (k := 8) rfl ?_
                refine vIadd F dX7_newRoad_129 ?_
                refine vIconst F (v := 0) dX7_newRoad_130 k_0 ?_
                obtain ⟨g10, h⟩ := okga h
                refine vIast F dX7_newRoad_131 (cqM_5 hs) g10 ?_
                refine vAloadN F dX7_newRoad_132 (k := 1) rfl ?_
                refine vGetR F (t := 5) dX7_newRoad_133 fa_X7_29 (cqM_0 hs) rfl ?_
                refine vBipush F (v := 7) dX7_newRoad_136 kb_7 ?_
                refine vIload F dX7_newRoad_138 (k := 8) rfl ?_
                refine vImul F dX7_newRoad_140 ?_
                refine vIload F dX7_newRoad_141 (k := 7) rfl ?_
                refine vIadd F dX7_newRoad_143 ?_
                refine vIconst F (v := 0) dX7_newRoad_144 k_0 ?_
                obtain ⟨g11, h⟩ := okga h
                refine vIast F dX7_newRoad_145 (cqM_5 hs) g11 ?_
                refine vIload F dX7_newRoad_146 (k := 5) rfl ?_
                refine okJ (Vj := fun (e12 : Unit) => mjV G X 9 161 [(0, .ref (gr G 0)), (1, .int a1), (2, .int a2), (3, .int (r1.1)), (6, .int (s2.2.2.1)), (7, .int (s4.2.2.1)), (8, .int (r9.1))] [] (si (si (r9.2) 5 ((7 * (s2.2.2.1)) + (s4.2.2.1)).toNatClampNeg 0) 5 ((7 * (s4.2.2.1)) + (s2.2.2.1)).toNatClampNeg 0) P) h (fun e12 h => ?_) (fun j13 Jj13 h => ?_)
                · refine vBipush F (v := 10) dX7_newRoad_161 kb_10 ?_
                  refine vIload F dX7_newRoad_163 (k := 4) rfl ?_
                  refine vImul F dX7_newRoad_165 ?_
                  refine vIload F dX7_newRoad_166 (k := 5) rfl ?_
                  refine vIadd F dX7_newRoad_168 ?_
                  refine vIstore F (L' := [(4, .int ((10 * (s2.2.2.1)) + (s4.2.2.1))), (0, .ref (gr G 0)), (1, .int a1), (2, .int a2), (3, .int (r1.1)), (6, .int (s2.2.2.1)), (7, .int (s4.2.2.1)), (8, .int (r9.1))]) dX7_newRoad_169 (by decide) rfl ?_
                  refine vIload F dX7_newRoad_171 (k := 7) rfl ?_
                  refine vIstore F (L' := [(5, .int (r9.1)), (4, .int ((10 * (s2.2.2.1)) + (s4.2.2.1))), (0, .ref (gr G 0)), (1, .int a1), (2, .int a2), (3, .int (r1.1)), (6, .int (s2.2.2.1)), (7, .int (s4.2.2.1)), (8, .int (r9.1))]) dX7_newRoad_173 (by decide) rfl ?_
                  refine vIinc F (v := 1) (k := 7) (L' := [(7, .int ((s4.2.2.1) + 1)), (5, .int (r9.1)), (4, .int ((10 * (s2.2.2.1)) + (s4.2.2.1))), (0, .ref (gr G 0)), (1, .int a1), (2, .int a2), (3, .int (r1.1)), (6, .int (s2.2.2.1)), (8, .int (r9.1))]) dX7_newRoad_175 rfl k_1 (by decide) rfl ?_
                  refine vGoto F (tgt := 56) dX7_newRoad_178 (by decide) ?_
                  refine vSub [3, 4, 5, 6, 2, 1, 7, 0] rfl ?_
                  have z := okL h
                  exact z
                · refine vIfLt F (tgt := 161) dX7_newRoad_148 (by decide) (fun c15 => ?_) (fun c15 => ?_)
                  · replace h := okT h c15
                    refine vSub [1, 2, 3, 4, 7, 8, 0] rfl ?_
                    exact Jj13 () h
                  · replace h := okF h c15
                    refine vIload F dX7_newRoad_151 (k := 0) rfl ?_
                    refine vIload F dX7_newRoad_153 (k := 6) rfl ?_
                    refine vIcmpLt F (tgt := 161) dX7_newRoad_155 (by decide) (fun c14 => ?_) (fun c14 => ?_)
                    · replace h := okT h c14
                      refine vSub [1, 2, 3, 4, 7, 8, 0] rfl ?_
                      exact Jj13 () h
                    · replace h := okF h c14
                      refine vGoto F (tgt := 175) dX7_newRoad_158 (by decide) ?_
                      refine vIinc F (v := 1) (k := 8) (L' := [(7, .int ((s4.2.2.1) + 1)), (8, .int (r9.1)), (0, .ref (gr G 0)), (1, .int a1), (2, .int a2), (3, .int (r1.1)), (4, .int (s4.1)), (5, .int (s4.2.1)), (6, .int (s2.2.2.1))]) dX7_newRoad_175 rfl k_1 (by decide) rfl ?_
                      refine vGoto F (tgt := 56) dX7_newRoad_178 (by decide) ?_
                      refine vSub [2, 3, 4, 5, 6, 7, 8, 0] rfl ?_
                      have z := okL h
                      exact z
              · replace h := okF h c16
                refine vGoto F (tgt := 175) dX7_newRoad_81 (by decide) ?_
                refine vIinc F (v := 1) (k := 7) (L' := [(7, .int ((s4.2.2.1) + 1)), (0, .ref (gr G 0)), (1, .int a1), (2, .int a2), (3, .int (r1.1)), (4, .int (s4.1)), (5, .int (s4.2.1)), (6, .int (s2.2.2.1))]) dX7_newRoad_175 rfl k_1 (by decide) rfl ?_
                refine vGoto F (tgt := 56) dX7_newRoad_178 (by decide) ?_
                refine vSub [1, 2, 3, 4, 5, 6, 7, 0] rfl ?_
                have z := okL h
                exact z
    · replace h := okF h c23
      refine vBipush F (v := (-2)) dX7_newRoad_23 kb_m2 ?_
      have z := okS h
      exact vIret F dX7_newRoad_25 z
  · replace h := okF h c24
    refine vIconst F (v := (-1)) dX7_newRoad_10 k_m1 ?_
    have z := okS h
    exact vIret F dX7_newRoad_11 z
noncomputable def Mo_gets_l18 (a1 : Int32) (s2 : Int32 × Int32 × Mm) : Option ((Int32 × Int32 × Mm) ⊕ (Int32 × Mm)) :=
  if ((s2.2.2).1 0 1) ≤ (s2.2.1) then
 (some (.inr (s2.1, s2.2.2)))
 else (ga (s2.2.1) 8 (ga (s2.2.1) 8 ((Mo_goes (s2.2.2) ((s2.2.2).1 6 (s2.2.1).toNatClampNeg) ((s2.2.2).1 7 (s2.2.1).toNatClampNeg)).bind fun r6 =>
  if (r6.1) = true then
 (some (.inl ((s2.1) + 0, (s2.2.1) + 1, r6.2)))
 else (if ((r6.2).1 0 36) = a1 then
 (ga (s2.2.1) 8 (some (.inl ((s2.1) + ((r6.2).1 8 (s2.2.1).toNatClampNeg), (s2.2.1) + 1, r6.2))))
 else (some (.inl ((s2.1) + 0, (s2.2.1) + 1, r6.2)))))))
noncomputable def Mo_gets (m : Mm) (a1 : Int32) : Option (Int32 × Mm) :=
  if (Mo_isPlace m a1) = true then
 ((Mo_layLand m).bind fun r1 =>
  (iter (Mo_gets_l18 a1) (0, 0, r1)).bind fun e3 =>
  some (e3.1, e3.2))
 else (some ((-1), m))
set_option maxRecDepth 20000 in
set_option maxHeartbeats 4000000 in
theorem Mo_gets_ok {G : Gw} (hG : gOk G) (hs : gsh G = shM) {a1 : Int32} {m : Mm} {P : Option Value → Mm → Prop} (h : mjO (Mo_gets m a1) (fun r => P (some (.int r.1)) r.2)) : mjR G 5 yX7_gets cX7_gets 4 (some .int) [.ref (gr G 0), .int a1] m P := by
  refine mjR_of hG (by decide) (Nat.le_of_ble_eq_true rfl) ?_
  intro X F
  have F : mjF G X cX7_gets RX7 4 5 (some .int) := F
  show mjV G X 4 0 [(0, .ref (gr G 0)), (1, .int a1)] [] m P
  unfold Mo_gets at h
  refine vAloadN F dX7_gets_0 (k := 0) rfl ?_
  refine vIloadN F dX7_gets_1 (k := 1) rfl ?_
  refine vCallV F (d' := 1) (x := 0) (T := TX7) (N := 61) (As := [.int a1]) (st := []) dX7_gets_2 lk_X7_201 my_X7_isPlace mv_X7_isPlace (cqM_0 hs) rfl (by decide) rfl rfl (Nat.le_of_ble_eq_true rfl) (Mo_isPlace_ok hG hs ?_)
  show mjV G X 4 5 [(0, .ref (gr G 0)), (1, .int a1)] [.int (bI (Mo_isPlace m a1))] m P
  refine vIfNeB F (tgt := 10) dX7_gets_5 (by decide) (fun c12 => ?_) (fun c12 => ?_)
  · replace h := okT h c12
    refine vAloadN F dX7_gets_10 (k := 0) rfl ?_
    refine vCallV F (d' := 4) (x := 0) (T := TX7) (N := 61) (As := []) (st := []) dX7_gets_11 lk_X7_294 my_X7_layLand mv_X7_layLand (cqM_0 hs) rfl (by decide) rfl rfl (Nat.le_of_ble_eq_true rfl) (Mo_layLand_ok hG hs (okB h fun r1 h => ?_))
    show mjV G X 4 14 [(0, .ref (gr G 0)), (1, .int a1)] [] r1 P
    refine vIconst F (v := 0) dX7_gets_14 k_0 ?_
    refine vIstoreN F (L' := [(2, .int 0), (0, .ref (gr G 0)), (1, .int a1)]) dX7_gets_15 rfl (by decide) rfl ?_
    refine vIconst F (v := 0) dX7_gets_16 k_0 ?_
    refine vIstoreN F (L' := [(3, .int 0), (2, .int 0), (0, .ref (gr G 0)), (1, .int a1)]) dX7_gets_17 rfl (by decide) rfl ?_
    refine vSub [2, 3, 1, 0] rfl ?_
    refine okLoop (s0 := (0, 0, r1)) (T := (fun (s2 : Int32 × Int32 × Mm) => mjV G X 4 18 [(0, .ref (gr G 0)), (1, .int a1), (2, .int (s2.1)), (3, .int (s2.2.1))] [] (s2.2.2) P)) (Ve := (fun (e3 : Int32 × Mm) => mjV G X 4 72 [(2, .int (e3.1))] [] (e3.2) P)) h ?_ (fun s2 h => ?_)
    · intro e3 h
      refine vIloadN F dX7_gets_72 (k := 0) rfl ?_
      have z := okS h
      exact vIret F dX7_gets_73 z
    · unfold Mo_gets_l18 at h
      refine vIloadN F dX7_gets_18 (k := 3) rfl ?_
      refine vAloadN F dX7_gets_19 (k := 0) rfl ?_
      refine vGetI F dX7_gets_20 fa_X7_13 (cqM_0 hs) rfl ?_
      refine vIcmpGe F (tgt := 72) dX7_gets_23 (by decide) (fun c10 => ?_) (fun c10 => ?_)
      · replace h := okT h c10
        refine vSub [2] rfl ?_
        have z := okR h
        exact z
      · replace h := okF h c10
        refine vIloadN F dX7_gets_26 (k := 2) rfl ?_
        refine vAloadN F dX7_gets_27 (k := 0) rfl ?_
        refine vAloadN F dX7_gets_28 (k := 0) rfl ?_
        refine vGetR F (t := 6) dX7_gets_29 fa_X7_32 (cqM_0 hs) rfl ?_
        refine vIloadN F dX7_gets_32 (k := 3) rfl ?_
        obtain ⟨g4, h⟩ := okga h
        refine vIald F dX7_gets_33 (cqM_6 hs) g4 ?_
        refine vAloadN F dX7_gets_34 (k := 0) rfl ?_
        refine vGetR F (t := 7) dX7_gets_35 fa_X7_35 (cqM_0 hs) rfl ?_
        refine vIloadN F dX7_gets_38 (k := 3) rfl ?_
        obtain ⟨g5, h⟩ := okga h
        refine vIald F dX7_gets_39 (cqM_7 hs) g5 ?_
        refine vCallV F (d' := 4) (x := 0) (T := TX7) (N := 61) (As := [.int ((s2.2.2).1 6 (s2.2.1).toNatClampNeg), .int ((s2.2.2).1 7 (s2.2.1).toNatClampNeg)]) (st := [.int (s2.1)]) dX7_gets_40 lk_X7_321 my_X7_goes mv_X7_goes (cqM_0 hs) rfl (by decide) rfl rfl (Nat.le_of_ble_eq_true rfl) (Mo_goes_ok hG hs (okB h fun r6 h => ?_))
        show mjV G X 4 43 [(0, .ref (gr G 0)), (1, .int a1), (2, .int (s2.1)), (3, .int (s2.2.1))] [.int (bI (r6.1)), .int (s2.1)] (r6.2) P
        refine vIfNeB F (tgt := 63) dX7_gets_43 (by decide) (fun c9 => ?_) (fun c9 => ?_)
        · replace h := okT h c9
          refine vIconst F (v := 0) dX7_gets_63 k_0 ?_
          refine vIadd F dX7_gets_64 ?_
          refine vIstoreN F (L' := [(2, .int ((s2.1) + 0)), (0, .ref (gr G 0)), (1, .int a1), (3, .int (s2.2.1))]) dX7_gets_65 rfl (by decide) rfl ?_
          refine vIinc F (v := 1) (k := 3) (L' := [(3, .int ((s2.2.1) + 1)), (2, .int ((s2.1) + 0)), (0, .ref (gr G 0)), (1, .int a1)]) dX7_gets_66 rfl k_1 (by decide) rfl ?_
          refine vGoto F (tgt := 18) dX7_gets_69 (by decide) ?_
          refine vSub [2, 3, 1, 0] rfl ?_
          have z := okL h
          exact z
        · replace h := okF h c9
          refine vAloadN F dX7_gets_46 (k := 0) rfl ?_
          refine vGetI F dX7_gets_47 fa_X7_120 (cqM_0 hs) rfl ?_
          refine vIloadN F dX7_gets_50 (k := 1) rfl ?_
          refine vIcmpNe F (tgt := 63) dX7_gets_51 (by decide) (fun c8 => ?_) (fun c8 => ?_)
          · replace h := okF h c8
            refine vIconst F (v := 0) dX7_gets_63 k_0 ?_
            refine vIadd F dX7_gets_64 ?_
            refine vIstoreN F (L' := [(2, .int ((s2.1) + 0)), (0, .ref (gr G 0)), (1, .int a1), (3, .int (s2.2.1))]) dX7_gets_65 rfl (by decide) rfl ?_
            refine vIinc F (v := 1) (k := 3) (L' := [(3, .int ((s2.2.1) + 1)), (2, .int ((s2.1) + 0)), (0, .ref (gr G 0)), (1, .int a1)]) dX7_gets_66 rfl k_1 (by decide) rfl ?_
            refine vGoto F (tgt := 18) dX7_gets_69 (by decide) ?_
            refine vSub [2, 3, 1, 0] rfl ?_
            have z := okL h
            exact z
          · replace h := okT h c8
            refine vAloadN F dX7_gets_54 (k := 0) rfl ?_
            refine vGetR F (t := 8) dX7_gets_55 fa_X7_38 (cqM_0 hs) rfl ?_
            refine vIloadN F dX7_gets_58 (k := 3) rfl ?_
            obtain ⟨g7, h⟩ := okga h
            refine vIald F dX7_gets_59 (cqM_8 hs) g7 ?_
            refine vGoto F (tgt := 64) dX7_gets_60 (by decide) ?_
            refine vIadd F dX7_gets_64 ?_
            refine vIstoreN F (L' := [(2, .int ((s2.1) + ((r6.2).1 8 (s2.2.1).toNatClampNeg))), (0, .ref (gr G 0)), (1, .int a1), (3, .int (s2.2.1))]) dX7_gets_65 rfl (by decide) rfl ?_
            refine vIinc F (v := 1) (k := 3) (L' := [(3, .int ((s2.2.1) + 1)), (2, .int ((s2.1) + ((r6.2).1 8 (s2.2.1).toNatClampNeg))), (0, .ref (gr G 0)), (1, .int a1)]) dX7_gets_66 rfl k_1 (by decide) rfl ?_
            refine vGoto F (tgt := 18) dX7_gets_69 (by decide) ?_
            refine vSub [2, 3, 1, 0] rfl ?_
            have z := okL h
            exact z
  · replace h := okF h c12
    refine vIconst F (v := (-1)) dX7_gets_8 k_m1 ?_
    have z := okS h
    exact vIret F dX7_gets_9 z
def Mo_divisor_l6  (s1 : Int64 × Int64) : Option ((Int64 × Int64) ⊕ Int64) :=
  if (lg_cmp (s1.2) 0) = 0 then
 (some (.inr (s1.1)))
 else (gzl (s1.2) (some (.inl (s1.2, (s1.1) - (s1.1) / (s1.2) * (s1.2)))))
noncomputable def Mo_divisor (a1 : Int64) (a2 : Int64) : Option (Int64) :=
  (iter (Mo_divisor_l6) (a1, a2)).bind fun e2 =>
  some e2
set_option maxRecDepth 20000 in
set_option maxHeartbeats 4000000 in
theorem Mo_divisor_ok {G : Gw} (hG : gOk G) (hs : gsh G = shM) {a1 : Int64} {a2 : Int64} {m : Mm} {P : Option Value → Mm → Prop} (h : mjO (Mo_divisor a1 a2) (fun r => P (some (.long r)) m)) : mjR G 0 yX7_divisor cX7_divisor 11 (some .long) [.ref (gr G 0), .long a1, .long a2] m P := by
  refine mjR_of hG (by decide) (Nat.le_of_ble_eq_true rfl) ?_
  intro X F
  have F : mjF G X cX7_divisor RX7 11 0 (some .long) := F
  show mjV G X 11 0 [(0, .ref (gr G 0)), (1, .long a1), (3, .long a2)] [] m P
  unfold Mo_divisor at h
  refine vLloadN F dX7_divisor_0 (k := 1) rfl ?_
  refine vLstore F (L' := [(5, .long a1), (0, .ref (gr G 0)), (1, .long a1), (3, .long a2)]) dX7_divisor_1 (by decide) rfl ?_
  refine vLloadN F dX7_divisor_3 (k := 3) rfl ?_
  refine vLstore F (L' := [(7, .long a2), (5, .long a1), (0, .ref (gr G 0)), (1, .long a1), (3, .long a2)]) dX7_divisor_4 (by decide) rfl ?_
  refine vSub [1, 0] rfl ?_
  refine okLoop (s0 := (a1, a2)) (T := (fun (s1 : Int64 × Int64) => mjV G X 11 6 [(5, .long (s1.1)), (7, .long (s1.2))] [] m P)) (Ve := (fun (e2 : Int64) => mjV G X 11 31 [(5, .long e2)] [] m P)) h ?_ (fun s1 h => ?_)
  · intro e2 h
    refine vLload F dX7_divisor_31 (k := 0) rfl ?_
    have z := okS h
    exact vLret F dX7_divisor_33 z
  · unfold Mo_divisor_l6 at h
    refine vLload F dX7_divisor_6 (k := 1) rfl ?_
    refine vLconst F (v := 0) dX7_divisor_8 rfl ?_
    refine vLcmp F dX7_divisor_9 ?_
    refine vIfEq F (tgt := 31) dX7_divisor_10 (by decide) (fun c4 => ?_) (fun c4 => ?_)
    · replace h := okT h c4
      refine vSub [0] rfl ?_
      have z := okR h
      exact z
    · replace h := okF h c4
      refine vLload F dX7_divisor_13 (k := 0) rfl ?_
      refine vLload F dX7_divisor_15 (k := 1) rfl ?_
      obtain ⟨g3, h⟩ := okgzl h
      refine vLrem F dX7_divisor_17 g3 ?_
      refine vLstore F (L' := [(9, .long ((s1.1) - (s1.1) / (s1.2) * (s1.2))), (5, .long (s1.1)), (7, .long (s1.2))]) dX7_divisor_18 (by decide) rfl ?_
      refine vLload F dX7_divisor_20 (k := 2) rfl ?_
      refine vLstore F (L' := [(5, .long (s1.2)), (9, .long ((s1.1) - (s1.1) / (s1.2) * (s1.2))), (7, .long (s1.2))]) dX7_divisor_22 (by decide) rfl ?_
      refine vLload F dX7_divisor_24 (k := 1) rfl ?_
      refine vLstore F (L' := [(7, .long ((s1.1) - (s1.1) / (s1.2) * (s1.2))), (5, .long (s1.2)), (9, .long ((s1.1) - (s1.1) / (s1.2) * (s1.2)))]) dX7_divisor_26 (by decide) rfl ?_
      refine vGoto F (tgt := 6) dX7_divisor_28 (by decide) ?_
      refine vSub [1, 0] rfl ?_
      have z := okL h
      exact z
noncomputable def Mo_lowest (a1 : Int64) (a2 : Int64) (a3 : Int32) : Option (Int64) :=
  (Mo_divisor a1 a2).bind fun r1 =>
  if a3 = 0 then
 (gzl r1 (some (a1 / r1)))
 else (gzl r1 (some (a2 / r1)))
set_option maxRecDepth 20000 in
set_option maxHeartbeats 4000000 in
theorem Mo_lowest_ok {G : Gw} (hG : gOk G) (hs : gsh G = shM) {a1 : Int64} {a2 : Int64} {a3 : Int32} {m : Mm} {P : Option Value → Mm → Prop} (h : mjO (Mo_lowest a1 a2 a3) (fun r => P (some (.long r)) m)) : mjR G 1 yX7_lowest cX7_lowest 8 (some .long) [.ref (gr G 0), .long a1, .long a2, .int a3] m P := by
  refine mjR_of hG (by decide) (Nat.le_of_ble_eq_true rfl) ?_
  intro X F
  have F : mjF G X cX7_lowest RX7 8 1 (some .long) := F
  show mjV G X 8 0 [(0, .ref (gr G 0)), (1, .long a1), (3, .long a2), (5, .int a3)] [] m P
  unfold Mo_lowest at h
  refine vAloadN F dX7_lowest_0 (k := 0) rfl ?_
  refine vLloadN F dX7_lowest_1 (k := 1) rfl ?_
  refine vLloadN F dX7_lowest_2 (k := 2) rfl ?_
  refine vCallV F (d' := 0) (x := 0) (T := TX7) (N := 61) (As := [.long a1, .long a2]) (st := []) dX7_lowest_3 lk_X7_336 my_X7_divisor mv_X7_divisor (cqM_0 hs) rfl (by decide) rfl rfl (Nat.le_of_ble_eq_true rfl) (Mo_divisor_ok hG hs (okB h fun r1 h => ?_))
  show mjV G X 8 6 [(0, .ref (gr G 0)), (1, .long a1), (3, .long a2), (5, .int a3)] [.long r1] m P
  refine vLstore F (L' := [(6, .long r1), (0, .ref (gr G 0)), (1, .long a1), (3, .long a2), (5, .int a3)]) dX7_lowest_6 (by decide) rfl ?_
  refine vIload F dX7_lowest_8 (k := 4) rfl ?_
  refine vIfNe F (tgt := 20) dX7_lowest_10 (by decide) (fun c4 => ?_) (fun c4 => ?_)
  · replace h := okF h c4
    refine vLloadN F dX7_lowest_20 (k := 3) rfl ?_
    refine vLload F dX7_lowest_21 (k := 0) rfl ?_
    obtain ⟨g2, h⟩ := okgzl h
    refine vLdiv F dX7_lowest_23 g2 ?_
    have z := okS h
    exact vLret F dX7_lowest_24 z
  · replace h := okT h c4
    refine vLloadN F dX7_lowest_13 (k := 2) rfl ?_
    refine vLload F dX7_lowest_14 (k := 0) rfl ?_
    obtain ⟨g3, h⟩ := okgzl h
    refine vLdiv F dX7_lowest_16 g3 ?_
    refine vGoto F (tgt := 24) dX7_lowest_17 (by decide) ?_
    have z := okS h
    exact vLret F dX7_lowest_24 z
def Mo_goStep_l2  (s1 : Int32 × Mm) : Option ((Int32 × Mm) ⊕ Mm) :=
  if 7 ≤ (s1.1) then
 (some (.inr (s1.2)))
 else (ga (s1.1) 7 (some (.inl ((s1.1) + 1, sl (s1.2) 24 (s1.1).toNatClampNeg 0))))
noncomputable def Mo_goStep_l61 (s5 : Int32 × Mm) (s10 : Int32 × Mm) : Option ((Int32 × Mm) ⊕ Mm) :=
  if ((s10.2).1 0 0) ≤ (s10.1) then
 (some (.inr (s10.2)))
 else (ga (s5.1) 7 (if (Mo_has ((s10.2).1 4 (s5.1).toNatClampNeg) (s10.1)) = true then
 ((Mo_towardOf (s10.2) (s5.1) (s10.1)).bind fun r13 =>
  if 0 ≤ r13 then
 (ga r13 7 (ga (s5.1) 7 ((Mo_ones ((s10.2).1 4 (s5.1).toNatClampNeg)).bind fun r16 =>
  gzl (r16.toInt64) (ga (s5.1) 7 (ga r13 7 (some (.inl ((s10.1) + 1, sl (s10.2) 24 r13.toNatClampNeg (((s10.2).2.1 24 r13.toNatClampNeg) + ((60 / (r16.toInt64)) * ((s10.2).2.1 23 (s5.1).toNatClampNeg)))))))))))
 else (ga (s5.1) 7 (ga (s5.1) 7 ((Mo_ones ((s10.2).1 4 (s5.1).toNatClampNeg)).bind fun r22 =>
  gzl (r22.toInt64) (ga (s5.1) 7 (ga (s5.1) 7 (some (.inl ((s10.1) + 1, sl (s10.2) 24 (s5.1).toNatClampNeg (((s10.2).2.1 24 (s5.1).toNatClampNeg) + ((60 / (r22.toInt64)) * ((s10.2).2.1 23 (s5.1).toNatClampNeg))))))))))))
 else (some (.inl ((s10.1) + 1, s10.2)))))
noncomputable def Mo_goStep_l23  (s5 : Int32 × Mm) : Option ((Int32 × Mm) ⊕ Mm) :=
  if ((s5.2).1 0 0) ≤ (s5.1) then
 (some (.inr (s5.2)))
 else (ga (s5.1) 7 (jn (fun (e8 : Mm) => (iter (Mo_goStep_l61 s5) (0, e8)).bind fun e11 =>
  some (.inl ((s5.1) + 1, e11))) fun j9 =>
  if ((s5.2).1 4 (s5.1).toNatClampNeg) = 0 then
 (ga (s5.1) 7 (ga (s5.1) 7 (ga (s5.1) 7 (j9 (sl (s5.2) 24 (s5.1).toNatClampNeg (((s5.2).2.1 24 (s5.1).toNatClampNeg) + (60 * ((s5.2).2.1 23 (s5.1).toNatClampNeg))))))))
 else (j9 (s5.2))))
def Mo_goStep_l146  (s35 : Int32 × Mm) : Option ((Int32 × Mm) ⊕ Mm) :=
  if 7 ≤ (s35.1) then
 (some (.inr (s35.2)))
 else (ga (s35.1) 7 (ga (s35.1) 7 (some (.inl ((s35.1) + 1, sl (s35.2) 23 (s35.1).toNatClampNeg ((s35.2).2.1 24 (s35.1).toNatClampNeg))))))
noncomputable def Mo_goStep (m : Mm) : Option (Mm) :=
  (iter (Mo_goStep_l2) (0, m)).bind fun e2 =>
  (iter (Mo_goStep_l23) (0, e2)).bind fun e6 =>
  (iter (Mo_goStep_l146) (0, e6)).bind fun e36 =>
  some e36
set_option maxRecDepth 20000 in
set_option maxHeartbeats 4000000 in
theorem Mo_goStep_ok {G : Gw} (hG : gOk G) (hs : gsh G = shM) {m : Mm} {P : Option Value → Mm → Prop} (h : mjO (Mo_goStep m) (fun r => P none r)) : mjR G 1 yX7_goStep cX7_goStep 4 none [.ref (gr G 0)] m P := by
  refine mjR_of hG (by decide) (Nat.le_of_ble_eq_true rfl) ?_
  intro X F
  have F : mjF G X cX7_goStep RX7 4 1 none := F
  show mjV G X 4 0 [(0, .ref (gr G 0))] [] m P
  unfold Mo_goStep at h
  refine vIconst F (v := 0) dX7_goStep_0 k_0 ?_
  refine vIstoreN F (L' := [(1, .int 0), (0, .ref (gr G 0))]) dX7_goStep_1 rfl (by decide) rfl ?_
  refine vSub [1, 0] rfl ?_
  refine okLoop (s0 := (0, m)) (T := (fun (s1 : Int32 × Mm) => mjV G X 4 2 [(0, .ref (gr G 0)), (1, .int (s1.1))] [] (s1.2) P)) (Ve := (fun (e2 : Mm) => mjV G X 4 21 [(0, .ref (gr G 0))] [] e2 P)) h ?_ (fun s1 h => ?_)
  · intro e2 h
    refine vIconst F (v := 0) dX7_goStep_21 k_0 ?_
    refine vIstoreN F (L' := [(1, .int 0), (0, .ref (gr G 0))]) dX7_goStep_22 rfl (by decide) rfl ?_
    refine vSub [1, 0] rfl ?_
    refine okLoop (s0 := (0, e2)) (T := (fun (s5 : Int32 × Mm) => mjV G X 4 23 [(0, .ref (gr G 0)), (1, .int (s5.1))] [] (s5.2) P)) (Ve := (fun (e6 : Mm) => mjV G X 4 144 [(0, .ref (gr G 0))] [] e6 P)) h ?_ (fun s5 h => ?_)
    · intro e6 h
      refine vIconst F (v := 0) dX7_goStep_144 k_0 ?_
      refine vIstoreN F (L' := [(1, .int 0), (0, .ref (gr G 0))]) dX7_goStep_145 rfl (by decide) rfl ?_
      refine vSub [1, 0] rfl ?_
      refine okLoop (s0 := (0, e6)) (T := (fun (s35 : Int32 × Mm) => mjV G X 4 146 [(0, .ref (gr G 0)), (1, .int (s35.1))] [] (s35.2) P)) (Ve := (fun (e36 : Mm) => mjV G X 4 170 [] [] e36 P)) h ?_ (fun s35 h => ?_)
      · intro e36 h
        have z := okS h
        exact vVret F dX7_goStep_170 z
      · unfold Mo_goStep_l146 at h
        refine vIloadN F dX7_goStep_146 (k := 1) rfl ?_
        refine vBipush F (v := 7) dX7_goStep_147 kb_7 ?_
        refine vIcmpGe F (tgt := 170) dX7_goStep_149 (by decide) (fun c39 => ?_) (fun c39 => ?_)
        · replace h := okT h c39
          refine vSub [] rfl ?_
          have z := okR h
          exact z
        · replace h := okF h c39
          refine vAloadN F dX7_goStep_152 (k := 0) rfl ?_
          refine vGetR F (t := 23) dX7_goStep_153 fa_X7_123 (cqM_0 hs) rfl ?_
          refine vIloadN F dX7_goStep_156 (k := 1) rfl ?_
          refine vAloadN F dX7_goStep_157 (k := 0) rfl ?_
          refine vGetR F (t := 24) dX7_goStep_158 fa_X7_127 (cqM_0 hs) rfl ?_
          refine vIloadN F dX7_goStep_161 (k := 1) rfl ?_
          obtain ⟨g37, h⟩ := okga h
          refine vLald F dX7_goStep_162 (cqM_24 hs) g37 ?_
          obtain ⟨g38, h⟩ := okga h
          refine vLast F dX7_goStep_163 (cqM_23 hs) g38 ?_
          refine vIinc F (v := 1) (k := 1) (L' := [(1, .int ((s35.1) + 1)), (0, .ref (gr G 0))]) dX7_goStep_164 rfl k_1 (by decide) rfl ?_
          refine vGoto F (tgt := 146) dX7_goStep_167 (by decide) ?_
          refine vSub [1, 0] rfl ?_
          have z := okL h
          exact z
    · unfold Mo_goStep_l23 at h
      refine vIloadN F dX7_goStep_23 (k := 1) rfl ?_
      refine vAloadN F dX7_goStep_24 (k := 0) rfl ?_
      refine vGetI F dX7_goStep_25 fa_X7_7 (cqM_0 hs) rfl ?_
      refine vIcmpGe F (tgt := 144) dX7_goStep_28 (by decide) (fun c34 => ?_) (fun c34 => ?_)
      · replace h := okT h c34
        refine vSub [0] rfl ?_
        have z := okR h
        exact z
      · replace h := okF h c34
        refine vAloadN F dX7_goStep_31 (k := 0) rfl ?_
        refine vGetR F (t := 4) dX7_goStep_32 fa_X7_26 (cqM_0 hs) rfl ?_
        refine vIloadN F dX7_goStep_35 (k := 1) rfl ?_
        obtain ⟨g7, h⟩ := okga h
        refine vIald F dX7_goStep_36 (cqM_4 hs) g7 ?_
        refine okJ (Vj := fun (e8 : Mm) => mjV G X 4 59 [(0, .ref (gr G 0)), (1, .int (s5.1))] [] e8 P) h (fun e8 h => ?_) (fun j9 Jj9 h => ?_)
        · refine vIconst F (v := 0) dX7_goStep_59 k_0 ?_
          refine vIstoreN F (L' := [(2, .int 0), (0, .ref (gr G 0)), (1, .int (s5.1))]) dX7_goStep_60 rfl (by decide) rfl ?_
          refine vSub [1, 2, 0] rfl ?_
          refine okLoop (s0 := (0, e8)) (T := (fun (s10 : Int32 × Mm) => mjV G X 4 61 [(0, .ref (gr G 0)), (1, .int (s5.1)), (2, .int (s10.1))] [] (s10.2) P)) (Ve := (fun (e11 : Mm) => mjV G X 4 138 [(0, .ref (gr G 0)), (1, .int (s5.1))] [] e11 P)) h ?_ (fun s10 h => ?_)
          · intro e11 h
            refine vIinc F (v := 1) (k := 1) (L' := [(1, .int ((s5.1) + 1)), (0, .ref (gr G 0))]) dX7_goStep_138 rfl k_1 (by decide) rfl ?_
            refine vGoto F (tgt := 23) dX7_goStep_141 (by decide) ?_
            refine vSub [1, 0] rfl ?_
            have z := okL h
            exact z
          · unfold Mo_goStep_l61 at h
            refine vIloadN F dX7_goStep_61 (k := 2) rfl ?_
            refine vAloadN F dX7_goStep_62 (k := 0) rfl ?_
            refine vGetI F dX7_goStep_63 fa_X7_7 (cqM_0 hs) rfl ?_
            refine vIcmpGe F (tgt := 138) dX7_goStep_66 (by decide) (fun c28 => ?_) (fun c28 => ?_)
            · replace h := okT h c28
              refine vSub [0, 1] rfl ?_
              have z := okR h
              exact z
            · replace h := okF h c28
              refine vAloadN F dX7_goStep_69 (k := 0) rfl ?_
              refine vAloadN F dX7_goStep_70 (k := 0) rfl ?_
              refine vGetR F (t := 4) dX7_goStep_71 fa_X7_26 (cqM_0 hs) rfl ?_
              refine vIloadN F dX7_goStep_74 (k := 1) rfl ?_
              obtain ⟨g12, h⟩ := okga h
              refine vIald F dX7_goStep_75 (cqM_4 hs) g12 ?_
              refine vIloadN F dX7_goStep_76 (k := 2) rfl ?_
              refine vCallV F (d' := 0) (x := 0) (T := TX7) (N := 61) (As := [.int ((s10.2).1 4 (s5.1).toNatClampNeg), .int (s10.1)]) (st := []) dX7_goStep_77 lk_X7_209 my_X7_has mv_X7_has (cqM_0 hs) rfl (by decide) rfl rfl (Nat.le_of_ble_eq_true rfl) (Mo_has_ok hG hs ?_)
              show mjV G X 4 80 [(0, .ref (gr G 0)), (1, .int (s5.1)), (2, .int (s10.1))] [.int (bI (Mo_has ((s10.2).1 4 (s5.1).toNatClampNeg) (s10.1)))] (s10.2) P
              refine vIfNeB F (tgt := 86) dX7_goStep_80 (by decide) (fun c27 => ?_) (fun c27 => ?_)
              · replace h := okT h c27
                refine vAloadN F dX7_goStep_86 (k := 0) rfl ?_
                refine vIloadN F dX7_goStep_87 (k := 1) rfl ?_
                refine vIloadN F dX7_goStep_88 (k := 2) rfl ?_
                refine vCallV F (d' := 0) (x := 0) (T := TX7) (N := 61) (As := [.int (s5.1), .int (s10.1)]) (st := []) dX7_goStep_89 lk_X7_297 my_X7_towardOf mv_X7_towardOf (cqM_0 hs) rfl (by decide) rfl rfl (Nat.le_of_ble_eq_true rfl) (Mo_towardOf_ok hG hs (okB h fun r13 h => ?_))
                show mjV G X 4 92 [(0, .ref (gr G 0)), (1, .int (s5.1)), (2, .int (s10.1))] [.int r13] (s10.2) P
                refine vIstoreN F (L' := [(3, .int r13), (0, .ref (gr G 0)), (1, .int (s5.1)), (2, .int (s10.1))]) dX7_goStep_92 rfl (by decide) rfl ?_
                refine vAloadN F dX7_goStep_93 (k := 1) rfl ?_
                refine vGetR F (t := 24) dX7_goStep_94 fa_X7_127 (cqM_0 hs) rfl ?_
                refine vIloadN F dX7_goStep_97 (k := 0) rfl ?_
                refine vIfGe F (tgt := 105) dX7_goStep_98 (by decide) (fun c26 => ?_) (fun c26 => ?_)
                · replace h := okT h c26
                  refine vIloadN F dX7_goStep_105 (k := 0) rfl ?_
                  refine vDup2 F dX7_goStep_106 rfl rfl ?_
                  obtain ⟨g14, h⟩ := okga h
                  refine vLald F dX7_goStep_107 (cqM_24 hs) g14 ?_
                  refine vLdc2 F dX7_goStep_108 kc_X7_340 ?_
                  refine vAloadN F dX7_goStep_111 (k := 1) rfl ?_
                  refine vAloadN F dX7_goStep_112 (k := 1) rfl ?_
                  refine vGetR F (t := 4) dX7_goStep_113 fa_X7_26 (cqM_0 hs) rfl ?_
                  refine vIloadN F dX7_goStep_116 (k := 2) rfl ?_
                  obtain ⟨g15, h⟩ := okga h
                  refine vIald F dX7_goStep_117 (cqM_4 hs) g15 ?_
                  refine vCallV F (d' := 0) (x := 0) (T := TX7) (N := 61) (As := [.int ((s10.2).1 4 (s5.1).toNatClampNeg)]) (st := [.long 60, .long ((s10.2).2.1 24 r13.toNatClampNeg), .int r13, .ref (gr G 24)]) dX7_goStep_118 lk_X7_212 my_X7_ones mv_X7_ones (cqM_0 hs) rfl (by decide) rfl rfl (Nat.le_of_ble_eq_true rfl) (Mo_ones_ok hG hs (okB h fun r16 h => ?_))
                  show mjV G X 4 121 [(3, .int r13), (0, .ref (gr G 0)), (1, .int (s5.1)), (2, .int (s10.1))] [.int r16, .long 60, .long ((s10.2).2.1 24 r13.toNatClampNeg), .int r13, .ref (gr G 24)] (s10.2) P
                  refine vI2l F dX7_goStep_121 ?_
                  obtain ⟨g17, h⟩ := okgzl h
                  refine vLdiv F dX7_goStep_122 g17 ?_
                  refine vAloadN F dX7_goStep_123 (k := 1) rfl ?_
                  refine vGetR F (t := 23) dX7_goStep_124 fa_X7_123 (cqM_0 hs) rfl ?_
                  refine vIloadN F dX7_goStep_127 (k := 2) rfl ?_
                  obtain ⟨g18, h⟩ := okga h
                  refine vLald F dX7_goStep_128 (cqM_23 hs) g18 ?_
                  refine vLmul F dX7_goStep_129 ?_
                  refine vLadd F dX7_goStep_130 ?_
                  obtain ⟨g19, h⟩ := okga h
                  refine vLast F dX7_goStep_131 (cqM_24 hs) g19 ?_
                  refine vIinc F (v := 1) (k := 3) (L' := [(2, .int ((s10.1) + 1)), (3, .int r13), (0, .ref (gr G 0)), (1, .int (s5.1))]) dX7_goStep_132 rfl k_1 (by decide) rfl ?_
                  refine vGoto F (tgt := 61) dX7_goStep_135 (by decide) ?_
                  refine vSub [2, 3, 0] rfl ?_
                  have z := okL h
                  exact z
                · replace h := okF h c26
                  refine vIloadN F dX7_goStep_101 (k := 2) rfl ?_
                  refine vGoto F (tgt := 106) dX7_goStep_102 (by decide) ?_
                  refine vDup2 F dX7_goStep_106 rfl rfl ?_
                  obtain ⟨g20, h⟩ := okga h
                  refine vLald F dX7_goStep_107 (cqM_24 hs) g20 ?_
                  refine vLdc2 F dX7_goStep_108 kc_X7_340 ?_
                  refine vAloadN F dX7_goStep_111 (k := 1) rfl ?_
                  refine vAloadN F dX7_goStep_112 (k := 1) rfl ?_
                  refine vGetR F (t := 4) dX7_goStep_113 fa_X7_26 (cqM_0 hs) rfl ?_
                  refine vIloadN F dX7_goStep_116 (k := 2) rfl ?_
                  obtain ⟨g21, h⟩ := okga h
                  refine vIald F dX7_goStep_117 (cqM_4 hs) g21 ?_
                  refine vCallV F (d' := 0) (x := 0) (T := TX7) (N := 61) (As := [.int ((s10.2).1 4 (s5.1).toNatClampNeg)]) (st := [.long 60, .long ((s10.2).2.1 24 (s5.1).toNatClampNeg), .int (s5.1), .ref (gr G 24)]) dX7_goStep_118 lk_X7_212 my_X7_ones mv_X7_ones (cqM_0 hs) rfl (by decide) rfl rfl (Nat.le_of_ble_eq_true rfl) (Mo_ones_ok hG hs (okB h fun r22 h => ?_))
                  show mjV G X 4 121 [(3, .int r13), (0, .ref (gr G 0)), (1, .int (s5.1)), (2, .int (s10.1))] [.int r22, .long 60, .long ((s10.2).2.1 24 (s5.1).toNatClampNeg), .int (s5.1), .ref (gr G 24)] (s10.2) P
                  refine vI2l F dX7_goStep_121 ?_
                  obtain ⟨g23, h⟩ := okgzl h
                  refine vLdiv F dX7_goStep_122 g23 ?_
                  refine vAloadN F dX7_goStep_123 (k := 1) rfl ?_
                  refine vGetR F (t := 23) dX7_goStep_124 fa_X7_123 (cqM_0 hs) rfl ?_
                  refine vIloadN F dX7_goStep_127 (k := 2) rfl ?_
                  obtain ⟨g24, h⟩ := okga h
                  refine vLald F dX7_goStep_128 (cqM_23 hs) g24 ?_
                  refine vLmul F dX7_goStep_129 ?_
                  refine vLadd F dX7_goStep_130 ?_
                  obtain ⟨g25, h⟩ := okga h
                  refine vLast F dX7_goStep_131 (cqM_24 hs) g25 ?_
                  refine vIinc F (v := 1) (k := 3) (L' := [(2, .int ((s10.1) + 1)), (3, .int r13), (0, .ref (gr G 0)), (1, .int (s5.1))]) dX7_goStep_132 rfl k_1 (by decide) rfl ?_
                  refine vGoto F (tgt := 61) dX7_goStep_135 (by decide) ?_
                  refine vSub [2, 3, 0] rfl ?_
                  have z := okL h
                  exact z
              · replace h := okF h c27
                refine vGoto F (tgt := 132) dX7_goStep_83 (by decide) ?_
                refine vIinc F (v := 1) (k := 2) (L' := [(2, .int ((s10.1) + 1)), (0, .ref (gr G 0)), (1, .int (s5.1))]) dX7_goStep_132 rfl k_1 (by decide) rfl ?_
                refine vGoto F (tgt := 61) dX7_goStep_135 (by decide) ?_
                refine vSub [1, 2, 0] rfl ?_
                have z := okL h
                exact z
        · refine vIfNe F (tgt := 59) dX7_goStep_37 (by decide) (fun c33 => ?_) (fun c33 => ?_)
          · replace h := okF h c33
            exact Jj9 (s5.2) h
          · replace h := okT h c33
            refine vAloadN F dX7_goStep_40 (k := 0) rfl ?_
            refine vGetR F (t := 24) dX7_goStep_41 fa_X7_127 (cqM_0 hs) rfl ?_
            refine vIloadN F dX7_goStep_44 (k := 1) rfl ?_
            refine vDup2 F dX7_goStep_45 rfl rfl ?_
            obtain ⟨g30, h⟩ := okga h
            refine vLald F dX7_goStep_46 (cqM_24 hs) g30 ?_
            refine vLdc2 F dX7_goStep_47 kc_X7_340 ?_
            refine vAloadN F dX7_goStep_50 (k := 0) rfl ?_
            refine vGetR F (t := 23) dX7_goStep_51 fa_X7_123 (cqM_0 hs) rfl ?_
            refine vIloadN F dX7_goStep_54 (k := 1) rfl ?_
            obtain ⟨g31, h⟩ := okga h
            refine vLald F dX7_goStep_55 (cqM_23 hs) g31 ?_
            refine vLmul F dX7_goStep_56 ?_
            refine vLadd F dX7_goStep_57 ?_
            obtain ⟨g32, h⟩ := okga h
            refine vLast F dX7_goStep_58 (cqM_24 hs) g32 ?_
            exact Jj9 (sl (s5.2) 24 (s5.1).toNatClampNeg (((s5.2).2.1 24 (s5.1).toNatClampNeg) + (60 * ((s5.2).2.1 23 (s5.1).toNatClampNeg)))) h
  · unfold Mo_goStep_l2 at h
    refine vIloadN F dX7_goStep_2 (k := 1) rfl ?_
    refine vBipush F (v := 7) dX7_goStep_3 kb_7 ?_
    refine vIcmpGe F (tgt := 21) dX7_goStep_5 (by decide) (fun c4 => ?_) (fun c4 => ?_)
    · replace h := okT h c4
      refine vSub [0] rfl ?_
      have z := okR h
      exact z
    · replace h := okF h c4
      refine vAloadN F dX7_goStep_8 (k := 0) rfl ?_
      refine vGetR F (t := 24) dX7_goStep_9 fa_X7_127 (cqM_0 hs) rfl ?_
      refine vIloadN F dX7_goStep_12 (k := 1) rfl ?_
      refine vLconst F (v := 0) dX7_goStep_13 rfl ?_
      obtain ⟨g3, h⟩ := okga h
      refine vLast F dX7_goStep_14 (cqM_24 hs) g3 ?_
      refine vIinc F (v := 1) (k := 1) (L' := [(1, .int ((s1.1) + 1)), (0, .ref (gr G 0))]) dX7_goStep_15 rfl k_1 (by decide) rfl ?_
      refine vGoto F (tgt := 2) dX7_goStep_18 (by decide) ?_
      refine vSub [1, 0] rfl ?_
      have z := okL h
      exact z
def Mo_odds_l42 (a1 : Int32) (s2 : Int32 × Mm) : Option ((Int32 × Mm) ⊕ Mm) :=
  if 7 ≤ (s2.1) then
 (some (.inr (s2.2)))
 else (if (s2.1) = a1 then
 (ga (s2.1) 7 (some (.inl ((s2.1) + 1, sl (s2.2) 23 (s2.1).toNatClampNeg 1))))
 else (ga (s2.1) 7 (some (.inl ((s2.1) + 1, sl (s2.2) 23 (s2.1).toNatClampNeg 0)))))
noncomputable def Mo_odds_l79 (a3 : Int32) (s8 : Int64 × Int32 × Mm) : Option ((Int64 × Int32 × Mm) ⊕ (Int64 × Mm)) :=
  if a3 ≤ (s8.2.1) then
 (some (.inr (s8.1, s8.2.2)))
 else ((Mo_goStep (s8.2.2)).bind fun r10 =>
  some (.inl ((s8.1) * 60, (s8.2.1) + 1, r10)))
noncomputable def Mo_odds (m : Mm) (a1 : Int32) (a2 : Int32) (a3 : Int32) (a4 : Int32) : Option (Int64 × Mm) :=
  if (Mo_arePlaces m a1 a2) = true then
 (if (Mo_in a3 0 6) = true then
 (if (Mo_in a4 0 1) = true then
 ((Mo_layLand m).bind fun r1 =>
  (iter (Mo_odds_l42 a1) (0, r1)).bind fun e3 =>
  (iter (Mo_odds_l79 a3) (1, 0, e3)).bind fun e9 =>
  ga a2 7 ((Mo_lowest ((e9.2).2.1 23 a2.toNatClampNeg) (e9.1) a4).bind fun r13 =>
  some (r13, e9.2)))
 else (some ((-9223372036854775808), m)))
 else (some ((-9223372036854775808), m)))
 else (some ((-9223372036854775808), m))
set_option maxRecDepth 20000 in
set_option maxHeartbeats 4000000 in
theorem Mo_odds_ok {G : Gw} (hG : gOk G) (hs : gsh G = shM) {a1 : Int32} {a2 : Int32} {a3 : Int32} {a4 : Int32} {m : Mm} {P : Option Value → Mm → Prop} (h : mjO (Mo_odds m a1 a2 a3 a4) (fun r => P (some (.long r.1)) r.2)) : mjR G 5 yX7_odds cX7_odds 8 (some .long) [.ref (gr G 0), .int a1, .int a2, .int a3, .int a4] m P := by
  refine mjR_of hG (by decide) (Nat.le_of_ble_eq_true rfl) ?_
  intro X F
  have F : mjF G X cX7_odds RX7 8 5 (some .long) := F
  show mjV G X 8 0 [(0, .ref (gr G 0)), (1, .int a1), (2, .int a2), (3, .int a3), (4, .int a4)] [] m P
  unfold Mo_odds at h
  refine vAloadN F dX7_odds_0 (k := 0) rfl ?_
  refine vIloadN F dX7_odds_1 (k := 1) rfl ?_
  refine vIloadN F dX7_odds_2 (k := 2) rfl ?_
  refine vCallV F (d' := 2) (x := 0) (T := TX7) (N := 61) (As := [.int a1, .int a2]) (st := []) dX7_odds_3 lk_X7_205 my_X7_arePlaces mv_X7_arePlaces (cqM_0 hs) rfl (by decide) rfl rfl (Nat.le_of_ble_eq_true rfl) (Mo_arePlaces_ok hG hs ?_)
  show mjV G X 8 6 [(0, .ref (gr G 0)), (1, .int a1), (2, .int a2), (3, .int a3), (4, .int a4)] [.int (bI (Mo_arePlaces m a1 a2))] m P
  refine vIfEqB F (tgt := 31) dX7_odds_6 (by decide) (fun c18 => ?_) (fun c18 => ?_)
  · replace h := okF h c18
    refine vLdc2 F dX7_odds_31 kc_X7_342 ?_
    have z := okS h
    exact vLret F dX7_odds_34 z
  · replace h := okT h c18
    refine vAloadN F dX7_odds_9 (k := 0) rfl ?_
    refine vIloadN F dX7_odds_10 (k := 3) rfl ?_
    refine vIconst F (v := 0) dX7_odds_11 k_0 ?_
    refine vBipush F (v := 6) dX7_odds_12 kb_6 ?_
    refine vCallV F (d' := 0) (x := 0) (T := TX7) (N := 61) (As := [.int a3, .int 0, .int 6]) (st := []) dX7_odds_14 lk_X7_197 my_X7_in mv_X7_in (cqM_0 hs) rfl (by decide) rfl rfl (Nat.le_of_ble_eq_true rfl) (Mo_in_ok hG hs ?_)
    show mjV G X 8 17 [(0, .ref (gr G 0)), (1, .int a1), (2, .int a2), (3, .int a3), (4, .int a4)] [.int (bI (Mo_in a3 0 6))] m P
    refine vIfEqB F (tgt := 31) dX7_odds_17 (by decide) (fun c17 => ?_) (fun c17 => ?_)
    · replace h := okF h c17
      refine vLdc2 F dX7_odds_31 kc_X7_342 ?_
      have z := okS h
      exact vLret F dX7_odds_34 z
    · replace h := okT h c17
      refine vAloadN F dX7_odds_20 (k := 0) rfl ?_
      refine vIload F dX7_odds_21 (k := 4) rfl ?_
      refine vIconst F (v := 0) dX7_odds_23 k_0 ?_
      refine vIconst F (v := 1) dX7_odds_24 k_1 ?_
      refine vCallV F (d' := 0) (x := 0) (T := TX7) (N := 61) (As := [.int a4, .int 0, .int 1]) (st := []) dX7_odds_25 lk_X7_197 my_X7_in mv_X7_in (cqM_0 hs) rfl (by decide) rfl rfl (Nat.le_of_ble_eq_true rfl) (Mo_in_ok hG hs ?_)
      show mjV G X 8 28 [(0, .ref (gr G 0)), (1, .int a1), (2, .int a2), (3, .int a3), (4, .int a4)] [.int (bI (Mo_in a4 0 1))] m P
      refine vIfNeB F (tgt := 35) dX7_odds_28 (by decide) (fun c16 => ?_) (fun c16 => ?_)
      · replace h := okT h c16
        refine vAloadN F dX7_odds_35 (k := 0) rfl ?_
        refine vCallV F (d' := 4) (x := 0) (T := TX7) (N := 61) (As := []) (st := []) dX7_odds_36 lk_X7_294 my_X7_layLand mv_X7_layLand (cqM_0 hs) rfl (by decide) rfl rfl (Nat.le_of_ble_eq_true rfl) (Mo_layLand_ok hG hs (okB h fun r1 h => ?_))
        show mjV G X 8 39 [(0, .ref (gr G 0)), (1, .int a1), (2, .int a2), (3, .int a3), (4, .int a4)] [] r1 P
        refine vIconst F (v := 0) dX7_odds_39 k_0 ?_
        refine vIstore F (L' := [(5, .int 0), (0, .ref (gr G 0)), (1, .int a1), (2, .int a2), (3, .int a3), (4, .int a4)]) dX7_odds_40 (by decide) rfl ?_
        refine vSub [1, 2, 3, 4, 5, 0] rfl ?_
        refine okLoop (s0 := (0, r1)) (T := (fun (s2 : Int32 × Mm) => mjV G X 8 42 [(0, .ref (gr G 0)), (1, .int a1), (2, .int a2), (3, .int a3), (4, .int a4), (5, .int (s2.1))] [] (s2.2) P)) (Ve := (fun (e3 : Mm) => mjV G X 8 73 [(0, .ref (gr G 0)), (2, .int a2), (3, .int a3), (4, .int a4)] [] e3 P)) h ?_ (fun s2 h => ?_)
        · intro e3 h
          refine vLconst F (v := 1) dX7_odds_73 rfl ?_
          refine vLstore F (L' := [(5, .long 1), (0, .ref (gr G 0)), (2, .int a2), (3, .int a3), (4, .int a4)]) dX7_odds_74 (by decide) rfl ?_
          refine vIconst F (v := 0) dX7_odds_76 k_0 ?_
          refine vIstore F (L' := [(7, .int 0), (5, .long 1), (0, .ref (gr G 0)), (2, .int a2), (3, .int a3), (4, .int a4)]) dX7_odds_77 (by decide) rfl ?_
          refine vSub [2, 3, 4, 5, 1, 0] rfl ?_
          refine okLoop (s0 := (1, 0, e3)) (T := (fun (s8 : Int64 × Int32 × Mm) => mjV G X 8 79 [(0, .ref (gr G 0)), (2, .int a2), (3, .int a3), (4, .int a4), (5, .long (s8.1)), (7, .int (s8.2.1))] [] (s8.2.2) P)) (Ve := (fun (e9 : Int64 × Mm) => mjV G X 8 103 [(0, .ref (gr G 0)), (2, .int a2), (4, .int a4), (5, .long (e9.1))] [] (e9.2) P)) h ?_ (fun s8 h => ?_)
          · intro e9 h
            refine vAloadN F dX7_odds_103 (k := 0) rfl ?_
            refine vAloadN F dX7_odds_104 (k := 0) rfl ?_
            refine vGetR F (t := 23) dX7_odds_105 fa_X7_123 (cqM_0 hs) rfl ?_
            refine vIloadN F dX7_odds_108 (k := 1) rfl ?_
            obtain ⟨g12, h⟩ := okga h
            refine vLald F dX7_odds_109 (cqM_23 hs) g12 ?_
            refine vLload F dX7_odds_110 (k := 3) rfl ?_
            refine vIload F dX7_odds_112 (k := 2) rfl ?_
            refine vCallV F (d' := 1) (x := 0) (T := TX7) (N := 61) (As := [.long ((e9.2).2.1 23 a2.toNatClampNeg), .long (e9.1), .int a4]) (st := []) dX7_odds_114 lk_X7_347 my_X7_lowest mv_X7_lowest (cqM_0 hs) rfl (by decide) rfl rfl (Nat.le_of_ble_eq_true rfl) (Mo_lowest_ok hG hs (okB h fun r13 h => ?_))
            show mjV G X 8 117 [(0, .ref (gr G 0)), (2, .int a2), (4, .int a4), (5, .long (e9.1))] [.long r13] (e9.2) P
            have z := okS h
            exact vLret F dX7_odds_117 z
          · unfold Mo_odds_l79 at h
            refine vIload F dX7_odds_79 (k := 5) rfl ?_
            refine vIloadN F dX7_odds_81 (k := 2) rfl ?_
            refine vIcmpGe F (tgt := 103) dX7_odds_82 (by decide) (fun c11 => ?_) (fun c11 => ?_)
            · replace h := okT h c11
              refine vSub [0, 1, 3, 4] rfl ?_
              have z := okR h
              exact z
            · replace h := okF h c11
              refine vAloadN F dX7_odds_85 (k := 0) rfl ?_
              refine vCallV F (d' := 1) (x := 0) (T := TX7) (N := 61) (As := []) (st := []) dX7_odds_86 lk_X7_344 my_X7_goStep mv_X7_goStep (cqM_0 hs) rfl (by decide) rfl rfl (Nat.le_of_ble_eq_true rfl) (Mo_goStep_ok hG hs (okB h fun r10 h => ?_))
              show mjV G X 8 89 [(0, .ref (gr G 0)), (2, .int a2), (3, .int a3), (4, .int a4), (5, .long (s8.1)), (7, .int (s8.2.1))] [] r10 P
              refine vLload F dX7_odds_89 (k := 4) rfl ?_
              refine vLdc2 F dX7_odds_91 kc_X7_340 ?_
              refine vLmul F dX7_odds_94 ?_
              refine vLstore F (L' := [(5, .long ((s8.1) * 60)), (0, .ref (gr G 0)), (2, .int a2), (3, .int a3), (4, .int a4), (7, .int (s8.2.1))]) dX7_odds_95 (by decide) rfl ?_
              refine vIinc F (v := 1) (k := 5) (L' := [(7, .int ((s8.2.1) + 1)), (5, .long ((s8.1) * 60)), (0, .ref (gr G 0)), (2, .int a2), (3, .int a3), (4, .int a4)]) dX7_odds_97 rfl k_1 (by decide) rfl ?_
              refine vGoto F (tgt := 79) dX7_odds_100 (by decide) ?_
              refine vSub [2, 3, 4, 5, 1, 0] rfl ?_
              have z := okL h
              exact z
        · unfold Mo_odds_l42 at h
          refine vIload F dX7_odds_42 (k := 5) rfl ?_
          refine vBipush F (v := 7) dX7_odds_44 kb_7 ?_
          refine vIcmpGe F (tgt := 73) dX7_odds_46 (by decide) (fun c7 => ?_) (fun c7 => ?_)
          · replace h := okT h c7
            refine vSub [0, 2, 3, 4] rfl ?_
            have z := okR h
            exact z
          · replace h := okF h c7
            refine vAloadN F dX7_odds_49 (k := 0) rfl ?_
            refine vGetR F (t := 23) dX7_odds_50 fa_X7_123 (cqM_0 hs) rfl ?_
            refine vIload F dX7_odds_53 (k := 5) rfl ?_
            refine vIload F dX7_odds_55 (k := 5) rfl ?_
            refine vIloadN F dX7_odds_57 (k := 1) rfl ?_
            refine vIcmpNe F (tgt := 65) dX7_odds_58 (by decide) (fun c6 => ?_) (fun c6 => ?_)
            · replace h := okF h c6
              refine vLconst F (v := 0) dX7_odds_65 rfl ?_
              obtain ⟨g4, h⟩ := okga h
              refine vLast F dX7_odds_66 (cqM_23 hs) g4 ?_
              refine vIinc F (v := 1) (k := 5) (L' := [(5, .int ((s2.1) + 1)), (0, .ref (gr G 0)), (1, .int a1), (2, .int a2), (3, .int a3), (4, .int a4)]) dX7_odds_67 rfl k_1 (by decide) rfl ?_
              refine vGoto F (tgt := 42) dX7_odds_70 (by decide) ?_
              refine vSub [1, 2, 3, 4, 5, 0] rfl ?_
              have z := okL h
              exact z
            · replace h := okT h c6
              refine vLconst F (v := 1) dX7_odds_61 rfl ?_
              refine vGoto F (tgt := 66) dX7_odds_62 (by decide) ?_
              obtain ⟨g5, h⟩ := okga h
              refine vLast F dX7_odds_66 (cqM_23 hs) g5 ?_
              refine vIinc F (v := 1) (k := 5) (L' := [(5, .int ((s2.1) + 1)), (0, .ref (gr G 0)), (1, .int a1), (2, .int a2), (3, .int a3), (4, .int a4)]) dX7_odds_67 rfl k_1 (by decide) rfl ?_
              refine vGoto F (tgt := 42) dX7_odds_70 (by decide) ?_
              refine vSub [1, 2, 3, 4, 5, 0] rfl ?_
              have z := okL h
              exact z
      · replace h := okF h c16
        refine vLdc2 F dX7_odds_31 kc_X7_342 ?_
        have z := okS h
        exact vLret F dX7_odds_34 z
noncomputable def Mo_mean_l37 (s2 : Int32 × Int32 × Int32 × Mm) (s4 : Int32 × Int32 × Int32 × Mm) : Option ((Int32 × Int32 × Int32 × Mm) ⊕ (Int32 × Int32 × Mm)) :=
  if ((s4.2.2.2).1 0 0) ≤ (s4.2.2.1) then
 (some (.inr (s4.1, s4.2.1, s4.2.2.2)))
 else (if (s2.2.2.1) = (s4.2.2.1) then
 (some (.inl (s4.1, s4.2.1, (s4.2.2.1) + 1, s4.2.2.2)))
 else ((Mo_goes (s4.2.2.2) (s2.2.2.1) (s4.2.2.1)).bind fun r6 =>
  if (r6.1) = true then
 (some (.inl ((s4.1) + ((r6.2).1 0 34), (s4.2.1) + 1, (s4.2.2.1) + 1, r6.2)))
 else (some (.inl (s4.1, s4.2.1, (s4.2.2.1) + 1, r6.2)))))
noncomputable def Mo_mean_l25  (s2 : Int32 × Int32 × Int32 × Mm) : Option ((Int32 × Int32 × Int32 × Mm) ⊕ (Int32 × Int32 × Mm)) :=
  if ((s2.2.2.2).1 0 0) ≤ (s2.2.2.1) then
 (some (.inr (s2.1, s2.2.1, s2.2.2.2)))
 else ((iter (Mo_mean_l37 s2) (s2.1, s2.2.1, 0, s2.2.2.2)).bind fun e5 =>
  some (.inl (e5.1, e5.2.1, (s2.2.2.1) + 1, e5.2.2)))
noncomputable def Mo_mean (m : Mm) (a1 : Int32) : Option (Int64 × Mm) :=
  if (Mo_in a1 0 1) = true then
 ((Mo_layLand m).bind fun r1 =>
  (iter (Mo_mean_l25) (0, 0, 0, r1)).bind fun e3 =>
  if (e3.2.1) = 0 then
 (some ((-9223372036854775808), e3.2.2))
 else ((Mo_lowest ((e3.1).toInt64) ((e3.2.1).toInt64) a1).bind fun r12 =>
  some (r12, e3.2.2)))
 else (some ((-9223372036854775808), m))
set_option maxRecDepth 20000 in
set_option maxHeartbeats 4000000 in
theorem Mo_mean_ok {G : Gw} (hG : gOk G) (hs : gsh G = shM) {a1 : Int32} {m : Mm} {P : Option Value → Mm → Prop} (h : mjO (Mo_mean m a1) (fun r => P (some (.long r.1)) r.2)) : mjR G 5 yX7_mean cX7_mean 6 (some .long) [.ref (gr G 0), .int a1] m P := by
  refine mjR_of hG (by decide) (Nat.le_of_ble_eq_true rfl) ?_
  intro X F
  have F : mjF G X cX7_mean RX7 6 5 (some .long) := F
  show mjV G X 6 0 [(0, .ref (gr G 0)), (1, .int a1)] [] m P
  unfold Mo_mean at h
  refine vAloadN F dX7_mean_0 (k := 0) rfl ?_
  refine vIloadN F dX7_mean_1 (k := 1) rfl ?_
  refine vIconst F (v := 0) dX7_mean_2 k_0 ?_
  refine vIconst F (v := 1) dX7_mean_3 k_1 ?_
  refine vCallV F (d' := 0) (x := 0) (T := TX7) (N := 61) (As := [.int a1, .int 0, .int 1]) (st := []) dX7_mean_4 lk_X7_197 my_X7_in mv_X7_in (cqM_0 hs) rfl (by decide) rfl rfl (Nat.le_of_ble_eq_true rfl) (Mo_in_ok hG hs ?_)
  show mjV G X 6 7 [(0, .ref (gr G 0)), (1, .int a1)] [.int (bI (Mo_in a1 0 1))] m P
  refine vIfNeB F (tgt := 14) dX7_mean_7 (by decide) (fun c15 => ?_) (fun c15 => ?_)
  · replace h := okT h c15
    refine vAloadN F dX7_mean_14 (k := 0) rfl ?_
    refine vCallV F (d' := 4) (x := 0) (T := TX7) (N := 61) (As := []) (st := []) dX7_mean_15 lk_X7_294 my_X7_layLand mv_X7_layLand (cqM_0 hs) rfl (by decide) rfl rfl (Nat.le_of_ble_eq_true rfl) (Mo_layLand_ok hG hs (okB h fun r1 h => ?_))
    show mjV G X 6 18 [(0, .ref (gr G 0)), (1, .int a1)] [] r1 P
    refine vIconst F (v := 0) dX7_mean_18 k_0 ?_
    refine vIstoreN F (L' := [(2, .int 0), (0, .ref (gr G 0)), (1, .int a1)]) dX7_mean_19 rfl (by decide) rfl ?_
    refine vIconst F (v := 0) dX7_mean_20 k_0 ?_
    refine vIstoreN F (L' := [(3, .int 0), (2, .int 0), (0, .ref (gr G 0)), (1, .int a1)]) dX7_mean_21 rfl (by decide) rfl ?_
    refine vIconst F (v := 0) dX7_mean_22 k_0 ?_
    refine vIstore F (L' := [(4, .int 0), (3, .int 0), (2, .int 0), (0, .ref (gr G 0)), (1, .int a1)]) dX7_mean_23 (by decide) rfl ?_
    refine vSub [3, 4, 2, 1, 0] rfl ?_
    refine okLoop (s0 := (0, 0, 0, r1)) (T := (fun (s2 : Int32 × Int32 × Int32 × Mm) => mjV G X 6 25 [(0, .ref (gr G 0)), (1, .int a1), (2, .int (s2.1)), (3, .int (s2.2.1)), (4, .int (s2.2.2.1))] [] (s2.2.2.2) P)) (Ve := (fun (e3 : Int32 × Int32 × Mm) => mjV G X 6 89 [(0, .ref (gr G 0)), (1, .int a1), (2, .int (e3.1)), (3, .int (e3.2.1))] [] (e3.2.2) P)) h ?_ (fun s2 h => ?_)
    · intro e3 h
      refine vIloadN F dX7_mean_89 (k := 3) rfl ?_
      refine vIfNe F (tgt := 99) dX7_mean_90 (by decide) (fun c13 => ?_) (fun c13 => ?_)
      · replace h := okF h c13
        refine vAloadN F dX7_mean_99 (k := 0) rfl ?_
        refine vIloadN F dX7_mean_100 (k := 2) rfl ?_
        refine vI2l F dX7_mean_101 ?_
        refine vIloadN F dX7_mean_102 (k := 3) rfl ?_
        refine vI2l F dX7_mean_103 ?_
        refine vIloadN F dX7_mean_104 (k := 1) rfl ?_
        refine vCallV F (d' := 1) (x := 0) (T := TX7) (N := 61) (As := [.long ((e3.1).toInt64), .long ((e3.2.1).toInt64), .int a1]) (st := []) dX7_mean_105 lk_X7_347 my_X7_lowest mv_X7_lowest (cqM_0 hs) rfl (by decide) rfl rfl (Nat.le_of_ble_eq_true rfl) (Mo_lowest_ok hG hs (okB h fun r12 h => ?_))
        show mjV G X 6 108 [(0, .ref (gr G 0)), (1, .int a1), (2, .int (e3.1)), (3, .int (e3.2.1))] [.long r12] (e3.2.2) P
        have z := okS h
        exact vLret F dX7_mean_108 z
      · replace h := okT h c13
        refine vLdc2 F dX7_mean_93 kc_X7_342 ?_
        refine vGoto F (tgt := 108) dX7_mean_96 (by decide) ?_
        have z := okS h
        exact vLret F dX7_mean_108 z
    · unfold Mo_mean_l25 at h
      refine vIload F dX7_mean_25 (k := 4) rfl ?_
      refine vAloadN F dX7_mean_27 (k := 0) rfl ?_
      refine vGetI F dX7_mean_28 fa_X7_7 (cqM_0 hs) rfl ?_
      refine vIcmpGe F (tgt := 89) dX7_mean_31 (by decide) (fun c11 => ?_) (fun c11 => ?_)
      · replace h := okT h c11
        refine vSub [0, 1, 2, 3] rfl ?_
        have z := okR h
        exact z
      · replace h := okF h c11
        refine vIconst F (v := 0) dX7_mean_34 k_0 ?_
        refine vIstore F (L' := [(5, .int 0), (0, .ref (gr G 0)), (1, .int a1), (2, .int (s2.1)), (3, .int (s2.2.1)), (4, .int (s2.2.2.1))]) dX7_mean_35 (by decide) rfl ?_
        refine vSub [1, 2, 3, 4, 5, 0] rfl ?_
        refine okLoop (s0 := (s2.1, s2.2.1, 0, s2.2.2.2)) (T := (fun (s4 : Int32 × Int32 × Int32 × Mm) => mjV G X 6 37 [(0, .ref (gr G 0)), (1, .int a1), (2, .int (s4.1)), (3, .int (s4.2.1)), (4, .int (s2.2.2.1)), (5, .int (s4.2.2.1))] [] (s4.2.2.2) P)) (Ve := (fun (e5 : Int32 × Int32 × Mm) => mjV G X 6 83 [(0, .ref (gr G 0)), (1, .int a1), (2, .int (e5.1)), (3, .int (e5.2.1)), (4, .int (s2.2.2.1))] [] (e5.2.2) P)) h ?_ (fun s4 h => ?_)
        · intro e5 h
          refine vIinc F (v := 1) (k := 4) (L' := [(4, .int ((s2.2.2.1) + 1)), (0, .ref (gr G 0)), (1, .int a1), (2, .int (e5.1)), (3, .int (e5.2.1))]) dX7_mean_83 rfl k_1 (by decide) rfl ?_
          refine vGoto F (tgt := 25) dX7_mean_86 (by decide) ?_
          refine vSub [1, 2, 3, 4, 0] rfl ?_
          have z := okL h
          exact z
        · unfold Mo_mean_l37 at h
          refine vIload F dX7_mean_37 (k := 5) rfl ?_
          refine vAloadN F dX7_mean_39 (k := 0) rfl ?_
          refine vGetI F dX7_mean_40 fa_X7_7 (cqM_0 hs) rfl ?_
          refine vIcmpGe F (tgt := 83) dX7_mean_43 (by decide) (fun c9 => ?_) (fun c9 => ?_)
          · replace h := okT h c9
            refine vSub [0, 1, 2, 3, 4] rfl ?_
            have z := okR h
            exact z
          · replace h := okF h c9
            refine vIload F dX7_mean_46 (k := 4) rfl ?_
            refine vIload F dX7_mean_48 (k := 5) rfl ?_
            refine vIcmpEq F (tgt := 77) dX7_mean_50 (by decide) (fun c8 => ?_) (fun c8 => ?_)
            · replace h := okT h c8
              refine vIinc F (v := 1) (k := 5) (L' := [(5, .int ((s4.2.2.1) + 1)), (0, .ref (gr G 0)), (1, .int a1), (2, .int (s4.1)), (3, .int (s4.2.1)), (4, .int (s2.2.2.1))]) dX7_mean_77 rfl k_1 (by decide) rfl ?_
              refine vGoto F (tgt := 37) dX7_mean_80 (by decide) ?_
              refine vSub [1, 2, 3, 4, 5, 0] rfl ?_
              have z := okL h
              exact z
            · replace h := okF h c8
              refine vAloadN F dX7_mean_53 (k := 0) rfl ?_
              refine vIload F dX7_mean_54 (k := 4) rfl ?_
              refine vIload F dX7_mean_56 (k := 5) rfl ?_
              refine vCallV F (d' := 4) (x := 0) (T := TX7) (N := 61) (As := [.int (s2.2.2.1), .int (s4.2.2.1)]) (st := []) dX7_mean_58 lk_X7_321 my_X7_goes mv_X7_goes (cqM_0 hs) rfl (by decide) rfl rfl (Nat.le_of_ble_eq_true rfl) (Mo_goes_ok hG hs (okB h fun r6 h => ?_))
              show mjV G X 6 61 [(0, .ref (gr G 0)), (1, .int a1), (2, .int (s4.1)), (3, .int (s4.2.1)), (4, .int (s2.2.2.1)), (5, .int (s4.2.2.1))] [.int (bI (r6.1))] (r6.2) P
              refine vIfNeB F (tgt := 67) dX7_mean_61 (by decide) (fun c7 => ?_) (fun c7 => ?_)
              · replace h := okT h c7
                refine vIloadN F dX7_mean_67 (k := 2) rfl ?_
                refine vAloadN F dX7_mean_68 (k := 0) rfl ?_
                refine vGetI F dX7_mean_69 fa_X7_114 (cqM_0 hs) rfl ?_
                refine vIadd F dX7_mean_72 ?_
                refine vIstoreN F (L' := [(2, .int ((s4.1) + ((r6.2).1 0 34))), (0, .ref (gr G 0)), (1, .int a1), (3, .int (s4.2.1)), (4, .int (s2.2.2.1)), (5, .int (s4.2.2.1))]) dX7_mean_73 rfl (by decide) rfl ?_
                refine vIinc F (v := 1) (k := 3) (L' := [(3, .int ((s4.2.1) + 1)), (2, .int ((s4.1) + ((r6.2).1 0 34))), (0, .ref (gr G 0)), (1, .int a1), (4, .int (s2.2.2.1)), (5, .int (s4.2.2.1))]) dX7_mean_74 rfl k_1 (by decide) rfl ?_
                refine vIinc F (v := 1) (k := 5) (L' := [(5, .int ((s4.2.2.1) + 1)), (3, .int ((s4.2.1) + 1)), (2, .int ((s4.1) + ((r6.2).1 0 34))), (0, .ref (gr G 0)), (1, .int a1), (4, .int (s2.2.2.1))]) dX7_mean_77 rfl k_1 (by decide) rfl ?_
                refine vGoto F (tgt := 37) dX7_mean_80 (by decide) ?_
                refine vSub [3, 4, 2, 1, 5, 0] rfl ?_
                have z := okL h
                exact z
              · replace h := okF h c7
                refine vGoto F (tgt := 77) dX7_mean_64 (by decide) ?_
                refine vIinc F (v := 1) (k := 5) (L' := [(5, .int ((s4.2.2.1) + 1)), (0, .ref (gr G 0)), (1, .int a1), (2, .int (s4.1)), (3, .int (s4.2.1)), (4, .int (s2.2.2.1))]) dX7_mean_77 rfl k_1 (by decide) rfl ?_
                refine vGoto F (tgt := 37) dX7_mean_80 (by decide) ?_
                refine vSub [1, 2, 3, 4, 5, 0] rfl ?_
                have z := okL h
                exact z
  · replace h := okF h c15
    refine vLdc2 F dX7_mean_10 kc_X7_342 ?_
    have z := okS h
    exact vLret F dX7_mean_13 z
def Mo_book (m : Mm) (a1 : Int32) : Option (Int32 × Mm) :=
  if a1 = (-1) then
 (some (0, si m 0 39 0))
 else (if (Mo_isPlace m a1) = true then
 (if (m.1 0 39) = 12 then
 (some ((-4), m))
 else (ga (m.1 0 39) 12 (some ((si (si m 25 (m.1 0 39).toNatClampNeg a1) 0 39 (((si m 25 (m.1 0 39).toNatClampNeg a1).1 0 39) + 1)).1 0 39, si (si m 25 (m.1 0 39).toNatClampNeg a1) 0 39 (((si m 25 (m.1 0 39).toNatClampNeg a1).1 0 39) + 1)))))
 else (some ((-1), m)))
set_option maxRecDepth 20000 in
set_option maxHeartbeats 4000000 in
theorem Mo_book_ok {G : Gw} (hG : gOk G) (hs : gsh G = shM) {a1 : Int32} {m : Mm} {P : Option Value → Mm → Prop} (h : mjO (Mo_book m a1) (fun r => P (some (.int r.1)) r.2)) : mjR G 2 yX7_book cX7_book 2 (some .int) [.ref (gr G 0), .int a1] m P := by
  refine mjR_of hG (by decide) (Nat.le_of_ble_eq_true rfl) ?_
  intro X F
  have F : mjF G X cX7_book RX7 2 2 (some .int) := F
  show mjV G X 2 0 [(0, .ref (gr G 0)), (1, .int a1)] [] m P
  unfold Mo_book at h
  refine vIloadN F dX7_book_0 (k := 1) rfl ?_
  refine vIconst F (v := (-1)) dX7_book_1 k_m1 ?_
  refine vIcmpNe F (tgt := 12) dX7_book_2 (by decide) (fun c4 => ?_) (fun c4 => ?_)
  · replace h := okF h c4
    refine vAloadN F dX7_book_12 (k := 0) rfl ?_
    refine vIloadN F dX7_book_13 (k := 1) rfl ?_
    refine vCallV F (d' := 1) (x := 0) (T := TX7) (N := 61) (As := [.int a1]) (st := []) dX7_book_14 lk_X7_201 my_X7_isPlace mv_X7_isPlace (cqM_0 hs) rfl (by decide) rfl rfl (Nat.le_of_ble_eq_true rfl) (Mo_isPlace_ok hG hs ?_)
    show mjV G X 2 17 [(0, .ref (gr G 0)), (1, .int a1)] [.int (bI (Mo_isPlace m a1))] m P
    refine vIfNeB F (tgt := 22) dX7_book_17 (by decide) (fun c3 => ?_) (fun c3 => ?_)
    · replace h := okT h c3
      refine vAloadN F dX7_book_22 (k := 0) rfl ?_
      refine vGetI F dX7_book_23 fa_X7_130 (cqM_0 hs) rfl ?_
      refine vBipush F (v := 12) dX7_book_26 kb_12 ?_
      refine vIcmpNe F (tgt := 34) dX7_book_28 (by decide) (fun c2 => ?_) (fun c2 => ?_)
      · replace h := okF h c2
        refine vAloadN F dX7_book_34 (k := 0) rfl ?_
        refine vGetR F (t := 25) dX7_book_35 fa_X7_133 (cqM_0 hs) rfl ?_
        refine vAloadN F dX7_book_38 (k := 0) rfl ?_
        refine vGetI F dX7_book_39 fa_X7_130 (cqM_0 hs) rfl ?_
        refine vIloadN F dX7_book_42 (k := 1) rfl ?_
        obtain ⟨g1, h⟩ := okga h
        refine vIast F dX7_book_43 (cqM_25 hs) g1 ?_
        refine vAloadN F dX7_book_44 (k := 0) rfl ?_
        refine vDup F dX7_book_45 rfl ?_
        refine vGetI F dX7_book_46 fa_X7_130 (cqM_0 hs) rfl ?_
        refine vIconst F (v := 1) dX7_book_49 k_1 ?_
        refine vIadd F dX7_book_50 ?_
        refine vPutI F dX7_book_51 fw_X7_130 (cqM_0 hs) rfl ⟨rfl, rfl⟩ ?_
        refine vAloadN F dX7_book_54 (k := 0) rfl ?_
        refine vGetI F dX7_book_55 fa_X7_130 (cqM_0 hs) rfl ?_
        have z := okS h
        exact vIret F dX7_book_58 z
      · replace h := okT h c2
        refine vBipush F (v := (-4)) dX7_book_31 kb_m4 ?_
        have z := okS h
        exact vIret F dX7_book_33 z
    · replace h := okF h c3
      refine vIconst F (v := (-1)) dX7_book_20 k_m1 ?_
      have z := okS h
      exact vIret F dX7_book_21 z
  · replace h := okT h c4
    refine vAloadN F dX7_book_5 (k := 0) rfl ?_
    refine vIconst F (v := 0) dX7_book_6 k_0 ?_
    refine vPutI F dX7_book_7 fw_X7_130 (cqM_0 hs) rfl ⟨rfl, rfl⟩ ?_
    refine vIconst F (v := 0) dX7_book_10 k_0 ?_
    have z := okS h
    exact vIret F dX7_book_11 z
noncomputable def Mo_looked_l16 (a1 : Int32) (r1 : Mm) (s2 : Int32) : Option ((Int32) ⊕ (Unit ⊕ (Int32 × Mm))) :=
  if (r1.1 0 39) ≤ s2 then
 (some (.inr (.inl ())))
 else (ga (s2 - 1) 12 (if (r1.1 25 (s2 - 1).toNatClampNeg) = a1 then
 (some (.inr (.inr (s2, r1))))
 else (ga (s2 - 1) 12 ((Mo_nextOf r1 (r1.1 25 (s2 - 1).toNatClampNeg) a1).bind fun r6 =>
  ga s2 12 (if r6 = (r1.1 25 s2.toNatClampNeg) then
 (some (.inl (s2 + 1)))
 else (some (.inr (.inr (s2, r1)))))))))
noncomputable def Mo_looked (m : Mm) (a1 : Int32) : Option (Int32 × Mm) :=
  if (Mo_isPlace m a1) = true then
 ((Mo_layLand m).bind fun r1 =>
  (iter (Mo_looked_l16 a1 r1) (1)).bind (Sum.elim (fun e3 => some ((-5), r1)) (fun v11 => some v11)))
 else (some ((-1), m))
set_option maxRecDepth 20000 in
set_option maxHeartbeats 4000000 in
theorem Mo_looked_ok {G : Gw} (hG : gOk G) (hs : gsh G = shM) {a1 : Int32} {m : Mm} {P : Option Value → Mm → Prop} (h : mjO (Mo_looked m a1) (fun r => P (some (.int r.1)) r.2)) : mjR G 5 yX7_looked cX7_looked 3 (some .int) [.ref (gr G 0), .int a1] m P := by
  refine mjR_of hG (by decide) (Nat.le_of_ble_eq_true rfl) ?_
  intro X F
  have F : mjF G X cX7_looked RX7 3 5 (some .int) := F
  show mjV G X 3 0 [(0, .ref (gr G 0)), (1, .int a1)] [] m P
  unfold Mo_looked at h
  refine vAloadN F dX7_looked_0 (k := 0) rfl ?_
  refine vIloadN F dX7_looked_1 (k := 1) rfl ?_
  refine vCallV F (d' := 1) (x := 0) (T := TX7) (N := 61) (As := [.int a1]) (st := []) dX7_looked_2 lk_X7_201 my_X7_isPlace mv_X7_isPlace (cqM_0 hs) rfl (by decide) rfl rfl (Nat.le_of_ble_eq_true rfl) (Mo_isPlace_ok hG hs ?_)
  show mjV G X 3 5 [(0, .ref (gr G 0)), (1, .int a1)] [.int (bI (Mo_isPlace m a1))] m P
  refine vIfNeB F (tgt := 10) dX7_looked_5 (by decide) (fun c13 => ?_) (fun c13 => ?_)
  · replace h := okT h c13
    refine vAloadN F dX7_looked_10 (k := 0) rfl ?_
    refine vCallV F (d' := 4) (x := 0) (T := TX7) (N := 61) (As := []) (st := []) dX7_looked_11 lk_X7_294 my_X7_layLand mv_X7_layLand (cqM_0 hs) rfl (by decide) rfl rfl (Nat.le_of_ble_eq_true rfl) (Mo_layLand_ok hG hs (okB h fun r1 h => ?_))
    show mjV G X 3 14 [(0, .ref (gr G 0)), (1, .int a1)] [] r1 P
    refine vIconst F (v := 1) dX7_looked_14 k_1 ?_
    refine vIstoreN F (L' := [(2, .int 1), (0, .ref (gr G 0)), (1, .int a1)]) dX7_looked_15 rfl (by decide) rfl ?_
    refine vSub [1, 2, 0] rfl ?_
    refine okLoop (s0 := (1)) (T := (fun (s2 : Int32) => mjV G X 3 16 [(0, .ref (gr G 0)), (1, .int a1), (2, .int s2)] [] r1 P)) (Ve := (Sum.elim (fun (e3 : Unit) => mjV G X 3 66 [] [] r1 P) (fun (v11 : Int32 × Mm) => P (some (.int v11.1)) v11.2))) h ?_ (fun s2 h => ?_)
    · intro q h
      rcases q with e3 | v11
      · refine vBipush F (v := (-5)) dX7_looked_66 kb_m5 ?_
        have z := okS h
        exact vIret F dX7_looked_68 z
      · have z := okS h
        exact z
    · unfold Mo_looked_l16 at h
      refine vIloadN F dX7_looked_16 (k := 2) rfl ?_
      refine vAloadN F dX7_looked_17 (k := 0) rfl ?_
      refine vGetI F dX7_looked_18 fa_X7_130 (cqM_0 hs) rfl ?_
      refine vIcmpGe F (tgt := 66) dX7_looked_21 (by decide) (fun c10 => ?_) (fun c10 => ?_)
      · replace h := okT h c10
        refine vSub [] rfl ?_
        have z := okR h
        exact z
      · replace h := okF h c10
        refine vAloadN F dX7_looked_24 (k := 0) rfl ?_
        refine vGetR F (t := 25) dX7_looked_25 fa_X7_133 (cqM_0 hs) rfl ?_
        refine vIloadN F dX7_looked_28 (k := 2) rfl ?_
        refine vIconst F (v := 1) dX7_looked_29 k_1 ?_
        refine vIsub F dX7_looked_30 ?_
        obtain ⟨g4, h⟩ := okga h
        refine vIald F dX7_looked_31 (cqM_25 hs) g4 ?_
        refine vIloadN F dX7_looked_32 (k := 1) rfl ?_
        refine vIcmpEq F (tgt := 58) dX7_looked_33 (by decide) (fun c9 => ?_) (fun c9 => ?_)
        · replace h := okT h c9
          refine vIloadN F dX7_looked_58 (k := 2) rfl ?_
          have z := okR h
          exact vIret F dX7_looked_59 z
        · replace h := okF h c9
          refine vAloadN F dX7_looked_36 (k := 0) rfl ?_
          refine vAloadN F dX7_looked_37 (k := 0) rfl ?_
          refine vGetR F (t := 25) dX7_looked_38 fa_X7_133 (cqM_0 hs) rfl ?_
          refine vIloadN F dX7_looked_41 (k := 2) rfl ?_
          refine vIconst F (v := 1) dX7_looked_42 k_1 ?_
          refine vIsub F dX7_looked_43 ?_
          obtain ⟨g5, h⟩ := okga h
          refine vIald F dX7_looked_44 (cqM_25 hs) g5 ?_
          refine vIloadN F dX7_looked_45 (k := 1) rfl ?_
          refine vCallV F (d' := 3) (x := 0) (T := TX7) (N := 61) (As := [.int (r1.1 25 (s2 - 1).toNatClampNeg), .int a1]) (st := []) dX7_looked_46 lk_X7_318 my_X7_nextOf mv_X7_nextOf (cqM_0 hs) rfl (by decide) rfl rfl (Nat.le_of_ble_eq_true rfl) (Mo_nextOf_ok hG hs (okB h fun r6 h => ?_))
          show mjV G X 3 49 [(0, .ref (gr G 0)), (1, .int a1), (2, .int s2)] [.int r6] r1 P
          refine vAloadN F dX7_looked_49 (k := 0) rfl ?_
          refine vGetR F (t := 25) dX7_looked_50 fa_X7_133 (cqM_0 hs) rfl ?_
          refine vIloadN F dX7_looked_53 (k := 2) rfl ?_
          obtain ⟨g7, h⟩ := okga h
          refine vIald F dX7_looked_54 (cqM_25 hs) g7 ?_
          refine vIcmpEq F (tgt := 60) dX7_looked_55 (by decide) (fun c8 => ?_) (fun c8 => ?_)
          · replace h := okT h c8
            refine vIinc F (v := 1) (k := 2) (L' := [(2, .int (s2 + 1)), (0, .ref (gr G 0)), (1, .int a1)]) dX7_looked_60 rfl k_1 (by decide) rfl ?_
            refine vGoto F (tgt := 16) dX7_looked_63 (by decide) ?_
            refine vSub [1, 2, 0] rfl ?_
            have z := okL h
            exact z
          · replace h := okF h c8
            refine vIloadN F dX7_looked_58 (k := 2) rfl ?_
            have z := okR h
            exact vIret F dX7_looked_59 z
  · replace h := okF h c13
    refine vIconst F (v := (-1)) dX7_looked_8 k_m1 ?_
    have z := okS h
    exact vIret F dX7_looked_9 z
