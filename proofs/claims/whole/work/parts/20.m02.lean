noncomputable def Mo_toward (m : Mm) (a1 : Int32) (a2 : Int32) : Option (Int32 × Mm) :=
  if (Mo_arePlaces m a1 a2) = true then
 ((Mo_layLand m).bind fun r1 =>
  (Mo_towardOf r1 a1 a2).bind fun r2 =>
  some (r2, r1))
 else (some ((-1), m))
set_option maxRecDepth 20000 in
set_option maxHeartbeats 4000000 in
theorem Mo_toward_ok {G : Gw} (hG : gOk G) (hs : gsh G = shM) {a1 : Int32} {a2 : Int32} {m : Mm} {P : Option Value → Mm → Prop} (h : mjO (Mo_toward m a1 a2) (fun r => P (some (.int r.1)) r.2)) : mjR G 5 yX7_toward cX7_toward 3 (some .int) [.ref (gr G 0), .int a1, .int a2] m P := by
  refine mjR_of hG (by decide) (Nat.le_of_ble_eq_true rfl) ?_
  intro X F
  have F : mjF G X cX7_toward RX7 3 5 (some .int) := F
  show mjV G X 3 0 [(0, .ref (gr G 0)), (1, .int a1), (2, .int a2)] [] m P
  unfold Mo_toward at h
  refine vAloadN F dX7_toward_0 (k := 0) rfl ?_
  refine vIloadN F dX7_toward_1 (k := 1) rfl ?_
  refine vIloadN F dX7_toward_2 (k := 2) rfl ?_
  refine vCallV F (d' := 2) (x := 0) (T := TX7) (N := 61) (As := [.int a1, .int a2]) (st := []) dX7_toward_3 lk_X7_205 my_X7_arePlaces mv_X7_arePlaces (cqM_0 hs) rfl (by decide) rfl rfl (Nat.le_of_ble_eq_true rfl) (Mo_arePlaces_ok hG hs ?_)
  show mjV G X 3 6 [(0, .ref (gr G 0)), (1, .int a1), (2, .int a2)] [.int (bI (Mo_arePlaces m a1 a2))] m P
  refine vIfNeB F (tgt := 11) dX7_toward_6 (by decide) (fun c3 => ?_) (fun c3 => ?_)
  · replace h := okT h c3
    refine vAloadN F dX7_toward_11 (k := 0) rfl ?_
    refine vCallV F (d' := 4) (x := 0) (T := TX7) (N := 61) (As := []) (st := []) dX7_toward_12 lk_X7_294 my_X7_layLand mv_X7_layLand (cqM_0 hs) rfl (by decide) rfl rfl (Nat.le_of_ble_eq_true rfl) (Mo_layLand_ok hG hs (okB h fun r1 h => ?_))
    show mjV G X 3 15 [(0, .ref (gr G 0)), (1, .int a1), (2, .int a2)] [] r1 P
    refine vAloadN F dX7_toward_15 (k := 0) rfl ?_
    refine vIloadN F dX7_toward_16 (k := 1) rfl ?_
    refine vIloadN F dX7_toward_17 (k := 2) rfl ?_
    refine vCallV F (d' := 0) (x := 0) (T := TX7) (N := 61) (As := [.int a1, .int a2]) (st := []) dX7_toward_18 lk_X7_297 my_X7_towardOf mv_X7_towardOf (cqM_0 hs) rfl (by decide) rfl rfl (Nat.le_of_ble_eq_true rfl) (Mo_towardOf_ok hG hs (okB h fun r2 h => ?_))
    show mjV G X 3 21 [(0, .ref (gr G 0)), (1, .int a1), (2, .int a2)] [.int r2] r1 P
    have z := okS h
    exact vIret F dX7_toward_21 z
  · replace h := okF h c3
    refine vIconst F (v := (-1)) dX7_toward_9 k_m1 ?_
    have z := okS h
    exact vIret F dX7_toward_10 z
def Mo_leastNamed_l2 (m : Mm) (a1 : Int32) (s1 : Int32) : Option ((Int32) ⊕ (Unit ⊕ Int32)) :=
  if (m.1 0 0) ≤ s1 then
 (some (.inr (.inl ())))
 else (ga a1 7 (if (Mo_has (m.1 4 a1.toNatClampNeg) s1) = true then
 (some (.inr (.inr s1)))
 else (some (.inl (s1 + 1)))))
noncomputable def Mo_leastNamed (m : Mm) (a1 : Int32) : Option (Int32) :=
  (iter (Mo_leastNamed_l2 m a1) (0)).bind (Sum.elim (fun e2 => some (-5)) (fun v6 => some v6))
set_option maxRecDepth 20000 in
set_option maxHeartbeats 4000000 in
theorem Mo_leastNamed_ok {G : Gw} (hG : gOk G) (hs : gsh G = shM) {a1 : Int32} {m : Mm} {P : Option Value → Mm → Prop} (h : mjO (Mo_leastNamed m a1) (fun r => P (some (.int r)) m)) : mjR G 1 yX7_leastNamed cX7_leastNamed 3 (some .int) [.ref (gr G 0), .int a1] m P := by
  refine mjR_of hG (by decide) (Nat.le_of_ble_eq_true rfl) ?_
  intro X F
  have F : mjF G X cX7_leastNamed RX7 3 1 (some .int) := F
  show mjV G X 3 0 [(0, .ref (gr G 0)), (1, .int a1)] [] m P
  unfold Mo_leastNamed at h
  refine vIconst F (v := 0) dX7_leastNamed_0 k_0 ?_
  refine vIstoreN F (L' := [(2, .int 0), (0, .ref (gr G 0)), (1, .int a1)]) dX7_leastNamed_1 rfl (by decide) rfl ?_
  refine vSub [1, 2, 0] rfl ?_
  refine okLoop (s0 := (0)) (T := (fun (s1 : Int32) => mjV G X 3 2 [(0, .ref (gr G 0)), (1, .int a1), (2, .int s1)] [] m P)) (Ve := (Sum.elim (fun (e2 : Unit) => mjV G X 3 32 [] [] m P) (fun (v6 : Int32) => P (some (.int v6)) m))) h ?_ (fun s1 h => ?_)
  · intro q h
    rcases q with e2 | v6
    · refine vBipush F (v := (-5)) dX7_leastNamed_32 kb_m5 ?_
      have z := okS h
      exact vIret F dX7_leastNamed_34 z
    · have z := okS h
      exact z
  · unfold Mo_leastNamed_l2 at h
    refine vIloadN F dX7_leastNamed_2 (k := 2) rfl ?_
    refine vAloadN F dX7_leastNamed_3 (k := 0) rfl ?_
    refine vGetI F dX7_leastNamed_4 fa_X7_7 (cqM_0 hs) rfl ?_
    refine vIcmpGe F (tgt := 32) dX7_leastNamed_7 (by decide) (fun c5 => ?_) (fun c5 => ?_)
    · replace h := okT h c5
      refine vSub [] rfl ?_
      have z := okR h
      exact z
    · replace h := okF h c5
      refine vAloadN F dX7_leastNamed_10 (k := 0) rfl ?_
      refine vAloadN F dX7_leastNamed_11 (k := 0) rfl ?_
      refine vGetR F (t := 4) dX7_leastNamed_12 fa_X7_26 (cqM_0 hs) rfl ?_
      refine vIloadN F dX7_leastNamed_15 (k := 1) rfl ?_
      obtain ⟨g3, h⟩ := okga h
      refine vIald F dX7_leastNamed_16 (cqM_4 hs) g3 ?_
      refine vIloadN F dX7_leastNamed_17 (k := 2) rfl ?_
      refine vCallV F (d' := 0) (x := 0) (T := TX7) (N := 61) (As := [.int (m.1 4 a1.toNatClampNeg), .int s1]) (st := []) dX7_leastNamed_18 lk_X7_209 my_X7_has mv_X7_has (cqM_0 hs) rfl (by decide) rfl rfl (Nat.le_of_ble_eq_true rfl) (Mo_has_ok hG hs ?_)
      show mjV G X 3 21 [(0, .ref (gr G 0)), (1, .int a1), (2, .int s1)] [.int (bI (Mo_has (m.1 4 a1.toNatClampNeg) s1))] m P
      refine vIfEqB F (tgt := 26) dX7_leastNamed_21 (by decide) (fun c4 => ?_) (fun c4 => ?_)
      · replace h := okF h c4
        refine vIinc F (v := 1) (k := 2) (L' := [(2, .int (s1 + 1)), (0, .ref (gr G 0)), (1, .int a1)]) dX7_leastNamed_26 rfl k_1 (by decide) rfl ?_
        refine vGoto F (tgt := 2) dX7_leastNamed_29 (by decide) ?_
        refine vSub [1, 2, 0] rfl ?_
        have z := okL h
        exact z
      · replace h := okT h c4
        refine vIloadN F dX7_leastNamed_24 (k := 2) rfl ?_
        have z := okR h
        exact vIret F dX7_leastNamed_25 z
def Mo_lastNamed_l7 (m : Mm) (a1 : Int32) (s1 : Int32) : Option ((Int32) ⊕ (Unit ⊕ Int32)) :=
  if s1 < 0 then
 (some (.inr (.inl ())))
 else (ga a1 7 (if (Mo_has (m.1 4 a1.toNatClampNeg) s1) = true then
 (some (.inr (.inr s1)))
 else (some (.inl (s1 + (-1))))))
noncomputable def Mo_lastNamed (m : Mm) (a1 : Int32) : Option (Int32) :=
  (iter (Mo_lastNamed_l7 m a1) ((m.1 0 0) - 1)).bind (Sum.elim (fun e2 => some (-5)) (fun v6 => some v6))
set_option maxRecDepth 20000 in
set_option maxHeartbeats 4000000 in
theorem Mo_lastNamed_ok {G : Gw} (hG : gOk G) (hs : gsh G = shM) {a1 : Int32} {m : Mm} {P : Option Value → Mm → Prop} (h : mjO (Mo_lastNamed m a1) (fun r => P (some (.int r)) m)) : mjR G 1 yX7_lastNamed cX7_lastNamed 3 (some .int) [.ref (gr G 0), .int a1] m P := by
  refine mjR_of hG (by decide) (Nat.le_of_ble_eq_true rfl) ?_
  intro X F
  have F : mjF G X cX7_lastNamed RX7 3 1 (some .int) := F
  show mjV G X 3 0 [(0, .ref (gr G 0)), (1, .int a1)] [] m P
  unfold Mo_lastNamed at h
  refine vAloadN F dX7_lastNamed_0 (k := 0) rfl ?_
  refine vGetI F dX7_lastNamed_1 fa_X7_7 (cqM_0 hs) rfl ?_
  refine vIconst F (v := 1) dX7_lastNamed_4 k_1 ?_
  refine vIsub F dX7_lastNamed_5 ?_
  refine vIstoreN F (L' := [(2, .int ((m.1 0 0) - 1)), (0, .ref (gr G 0)), (1, .int a1)]) dX7_lastNamed_6 rfl (by decide) rfl ?_
  refine vSub [1, 2, 0] rfl ?_
  refine okLoop (s0 := ((m.1 0 0) - 1)) (T := (fun (s1 : Int32) => mjV G X 3 7 [(0, .ref (gr G 0)), (1, .int a1), (2, .int s1)] [] m P)) (Ve := (Sum.elim (fun (e2 : Unit) => mjV G X 3 33 [] [] m P) (fun (v6 : Int32) => P (some (.int v6)) m))) h ?_ (fun s1 h => ?_)
  · intro q h
    rcases q with e2 | v6
    · refine vBipush F (v := (-5)) dX7_lastNamed_33 kb_m5 ?_
      have z := okS h
      exact vIret F dX7_lastNamed_35 z
    · have z := okS h
      exact z
  · unfold Mo_lastNamed_l7 at h
    refine vIloadN F dX7_lastNamed_7 (k := 2) rfl ?_
    refine vIfLt F (tgt := 33) dX7_lastNamed_8 (by decide) (fun c5 => ?_) (fun c5 => ?_)
    · replace h := okT h c5
      refine vSub [] rfl ?_
      have z := okR h
      exact z
    · replace h := okF h c5
      refine vAloadN F dX7_lastNamed_11 (k := 0) rfl ?_
      refine vAloadN F dX7_lastNamed_12 (k := 0) rfl ?_
      refine vGetR F (t := 4) dX7_lastNamed_13 fa_X7_26 (cqM_0 hs) rfl ?_
      refine vIloadN F dX7_lastNamed_16 (k := 1) rfl ?_
      obtain ⟨g3, h⟩ := okga h
      refine vIald F dX7_lastNamed_17 (cqM_4 hs) g3 ?_
      refine vIloadN F dX7_lastNamed_18 (k := 2) rfl ?_
      refine vCallV F (d' := 0) (x := 0) (T := TX7) (N := 61) (As := [.int (m.1 4 a1.toNatClampNeg), .int s1]) (st := []) dX7_lastNamed_19 lk_X7_209 my_X7_has mv_X7_has (cqM_0 hs) rfl (by decide) rfl rfl (Nat.le_of_ble_eq_true rfl) (Mo_has_ok hG hs ?_)
      show mjV G X 3 22 [(0, .ref (gr G 0)), (1, .int a1), (2, .int s1)] [.int (bI (Mo_has (m.1 4 a1.toNatClampNeg) s1))] m P
      refine vIfEqB F (tgt := 27) dX7_lastNamed_22 (by decide) (fun c4 => ?_) (fun c4 => ?_)
      · replace h := okF h c4
        refine vIinc F (v := (-1)) (k := 2) (L' := [(2, .int (s1 + (-1))), (0, .ref (gr G 0)), (1, .int a1)]) dX7_lastNamed_27 rfl k_m1 (by decide) rfl ?_
        refine vGoto F (tgt := 7) dX7_lastNamed_30 (by decide) ?_
        refine vSub [1, 2, 0] rfl ?_
        have z := okL h
        exact z
      · replace h := okT h c4
        refine vIloadN F dX7_lastNamed_25 (k := 2) rfl ?_
        have z := okR h
        exact vIret F dX7_lastNamed_26 z
def Mo_nearestNamed_l5 (m : Mm) (a1 : Int32) (s1 : Int32 × Int32) : Option ((Int32 × Int32) ⊕ Int32) :=
  if (m.1 0 0) ≤ (s1.2) then
 (some (.inr (s1.1)))
 else (ga a1 7 (if (Mo_has (m.1 4 a1.toNatClampNeg) (s1.2)) = true then
 (ga ((7 * a1) + (s1.2)) 49 (if (m.1 20 ((7 * a1) + (s1.2)).toNatClampNeg) < 0 then
 (some (.inl (s1.1, (s1.2) + 1)))
 else (if (s1.1) < 0 then
 (some (.inl (s1.2, (s1.2) + 1)))
 else (ga ((7 * a1) + (s1.2)) 49 (ga ((7 * a1) + (s1.1)) 49 (if (m.1 20 ((7 * a1) + (s1.1)).toNatClampNeg) ≤ (m.1 20 ((7 * a1) + (s1.2)).toNatClampNeg) then
 (some (.inl (s1.1, (s1.2) + 1)))
 else (some (.inl (s1.2, (s1.2) + 1)))))))))
 else (some (.inl (s1.1, (s1.2) + 1)))))
noncomputable def Mo_nearestNamed (m : Mm) (a1 : Int32) : Option (Int32) :=
  (iter (Mo_nearestNamed_l5 m a1) ((-5), 0)).bind fun e2 =>
  some e2
set_option maxRecDepth 20000 in
set_option maxHeartbeats 4000000 in
theorem Mo_nearestNamed_ok {G : Gw} (hG : gOk G) (hs : gsh G = shM) {a1 : Int32} {m : Mm} {P : Option Value → Mm → Prop} (h : mjO (Mo_nearestNamed m a1) (fun r => P (some (.int r)) m)) : mjR G 1 yX7_nearestNamed cX7_nearestNamed 4 (some .int) [.ref (gr G 0), .int a1] m P := by
  refine mjR_of hG (by decide) (Nat.le_of_ble_eq_true rfl) ?_
  intro X F
  have F : mjF G X cX7_nearestNamed RX7 4 1 (some .int) := F
  show mjV G X 4 0 [(0, .ref (gr G 0)), (1, .int a1)] [] m P
  unfold Mo_nearestNamed at h
  refine vBipush F (v := (-5)) dX7_nearestNamed_0 kb_m5 ?_
  refine vIstoreN F (L' := [(2, .int (-5)), (0, .ref (gr G 0)), (1, .int a1)]) dX7_nearestNamed_2 rfl (by decide) rfl ?_
  refine vIconst F (v := 0) dX7_nearestNamed_3 k_0 ?_
  refine vIstoreN F (L' := [(3, .int 0), (2, .int (-5)), (0, .ref (gr G 0)), (1, .int a1)]) dX7_nearestNamed_4 rfl (by decide) rfl ?_
  refine vSub [2, 3, 1, 0] rfl ?_
  refine okLoop (s0 := ((-5), 0)) (T := (fun (s1 : Int32 × Int32) => mjV G X 4 5 [(0, .ref (gr G 0)), (1, .int a1), (2, .int (s1.1)), (3, .int (s1.2))] [] m P)) (Ve := (fun (e2 : Int32) => mjV G X 4 78 [(2, .int e2)] [] m P)) h ?_ (fun s1 h => ?_)
  · intro e2 h
    refine vIloadN F dX7_nearestNamed_78 (k := 0) rfl ?_
    have z := okS h
    exact vIret F dX7_nearestNamed_79 z
  · unfold Mo_nearestNamed_l5 at h
    refine vIloadN F dX7_nearestNamed_5 (k := 3) rfl ?_
    refine vAloadN F dX7_nearestNamed_6 (k := 0) rfl ?_
    refine vGetI F dX7_nearestNamed_7 fa_X7_7 (cqM_0 hs) rfl ?_
    refine vIcmpGe F (tgt := 78) dX7_nearestNamed_10 (by decide) (fun c11 => ?_) (fun c11 => ?_)
    · replace h := okT h c11
      refine vSub [2] rfl ?_
      have z := okR h
      exact z
    · replace h := okF h c11
      refine vAloadN F dX7_nearestNamed_13 (k := 0) rfl ?_
      refine vAloadN F dX7_nearestNamed_14 (k := 0) rfl ?_
      refine vGetR F (t := 4) dX7_nearestNamed_15 fa_X7_26 (cqM_0 hs) rfl ?_
      refine vIloadN F dX7_nearestNamed_18 (k := 1) rfl ?_
      obtain ⟨g3, h⟩ := okga h
      refine vIald F dX7_nearestNamed_19 (cqM_4 hs) g3 ?_
      refine vIloadN F dX7_nearestNamed_20 (k := 3) rfl ?_
      refine vCallV F (d' := 0) (x := 0) (T := TX7) (N := 61) (As := [.int (m.1 4 a1.toNatClampNeg), .int (s1.2)]) (st := []) dX7_nearestNamed_21 lk_X7_209 my_X7_has mv_X7_has (cqM_0 hs) rfl (by decide) rfl rfl (Nat.le_of_ble_eq_true rfl) (Mo_has_ok hG hs ?_)
      show mjV G X 4 24 [(0, .ref (gr G 0)), (1, .int a1), (2, .int (s1.1)), (3, .int (s1.2))] [.int (bI (Mo_has (m.1 4 a1.toNatClampNeg) (s1.2)))] m P
      refine vIfEqB F (tgt := 72) dX7_nearestNamed_24 (by decide) (fun c10 => ?_) (fun c10 => ?_)
      · replace h := okF h c10
        refine vIinc F (v := 1) (k := 3) (L' := [(3, .int ((s1.2) + 1)), (0, .ref (gr G 0)), (1, .int a1), (2, .int (s1.1))]) dX7_nearestNamed_72 rfl k_1 (by decide) rfl ?_
        refine vGoto F (tgt := 5) dX7_nearestNamed_75 (by decide) ?_
        refine vSub [1, 2, 3, 0] rfl ?_
        have z := okL h
        exact z
      · replace h := okT h c10
        refine vAloadN F dX7_nearestNamed_27 (k := 0) rfl ?_
        refine vGetR F (t := 20) dX7_nearestNamed_28 fa_X7_99 (cqM_0 hs) rfl ?_
        refine vBipush F (v := 7) dX7_nearestNamed_31 kb_7 ?_
        refine vIloadN F dX7_nearestNamed_33 (k := 1) rfl ?_
        refine vImul F dX7_nearestNamed_34 ?_
        refine vIloadN F dX7_nearestNamed_35 (k := 3) rfl ?_
        refine vIadd F dX7_nearestNamed_36 ?_
        obtain ⟨g4, h⟩ := okga h
        refine vIald F dX7_nearestNamed_37 (cqM_20 hs) g4 ?_
        refine vIfLt F (tgt := 72) dX7_nearestNamed_38 (by decide) (fun c9 => ?_) (fun c9 => ?_)
        · replace h := okT h c9
          refine vIinc F (v := 1) (k := 3) (L' := [(3, .int ((s1.2) + 1)), (0, .ref (gr G 0)), (1, .int a1), (2, .int (s1.1))]) dX7_nearestNamed_72 rfl k_1 (by decide) rfl ?_
          refine vGoto F (tgt := 5) dX7_nearestNamed_75 (by decide) ?_
          refine vSub [1, 2, 3, 0] rfl ?_
          have z := okL h
          exact z
        · replace h := okF h c9
          refine vIloadN F dX7_nearestNamed_41 (k := 2) rfl ?_
          refine vIfLt F (tgt := 70) dX7_nearestNamed_42 (by decide) (fun c8 => ?_) (fun c8 => ?_)
          · replace h := okT h c8
            refine vIloadN F dX7_nearestNamed_70 (k := 3) rfl ?_
            refine vIstoreN F (L' := [(2, .int (s1.2)), (0, .ref (gr G 0)), (1, .int a1), (3, .int (s1.2))]) dX7_nearestNamed_71 rfl (by decide) rfl ?_
            refine vIinc F (v := 1) (k := 3) (L' := [(3, .int ((s1.2) + 1)), (2, .int (s1.2)), (0, .ref (gr G 0)), (1, .int a1)]) dX7_nearestNamed_72 rfl k_1 (by decide) rfl ?_
            refine vGoto F (tgt := 5) dX7_nearestNamed_75 (by decide) ?_
            refine vSub [2, 3, 1, 0] rfl ?_
            have z := okL h
            exact z
          · replace h := okF h c8
            refine vAloadN F dX7_nearestNamed_45 (k := 0) rfl ?_
            refine vGetR F (t := 20) dX7_nearestNamed_46 fa_X7_99 (cqM_0 hs) rfl ?_
            refine vBipush F (v := 7) dX7_nearestNamed_49 kb_7 ?_
            refine vIloadN F dX7_nearestNamed_51 (k := 1) rfl ?_
            refine vImul F dX7_nearestNamed_52 ?_
            refine vIloadN F dX7_nearestNamed_53 (k := 3) rfl ?_
            refine vIadd F dX7_nearestNamed_54 ?_
            obtain ⟨g5, h⟩ := okga h
            refine vIald F dX7_nearestNamed_55 (cqM_20 hs) g5 ?_
            refine vAloadN F dX7_nearestNamed_56 (k := 0) rfl ?_
            refine vGetR F (t := 20) dX7_nearestNamed_57 fa_X7_99 (cqM_0 hs) rfl ?_
            refine vBipush F (v := 7) dX7_nearestNamed_60 kb_7 ?_
            refine vIloadN F dX7_nearestNamed_62 (k := 1) rfl ?_
            refine vImul F dX7_nearestNamed_63 ?_
            refine vIloadN F dX7_nearestNamed_64 (k := 2) rfl ?_
            refine vIadd F dX7_nearestNamed_65 ?_
            obtain ⟨g6, h⟩ := okga h
            refine vIald F dX7_nearestNamed_66 (cqM_20 hs) g6 ?_
            refine vIcmpGe F (tgt := 72) dX7_nearestNamed_67 (by decide) (fun c7 => ?_) (fun c7 => ?_)
            · replace h := okT h c7
              refine vIinc F (v := 1) (k := 3) (L' := [(3, .int ((s1.2) + 1)), (0, .ref (gr G 0)), (1, .int a1), (2, .int (s1.1))]) dX7_nearestNamed_72 rfl k_1 (by decide) rfl ?_
              refine vGoto F (tgt := 5) dX7_nearestNamed_75 (by decide) ?_
              refine vSub [1, 2, 3, 0] rfl ?_
              have z := okL h
              exact z
            · replace h := okF h c7
              refine vIloadN F dX7_nearestNamed_70 (k := 3) rfl ?_
              refine vIstoreN F (L' := [(2, .int (s1.2)), (0, .ref (gr G 0)), (1, .int a1), (3, .int (s1.2))]) dX7_nearestNamed_71 rfl (by decide) rfl ?_
              refine vIinc F (v := 1) (k := 3) (L' := [(3, .int ((s1.2) + 1)), (2, .int (s1.2)), (0, .ref (gr G 0)), (1, .int a1)]) dX7_nearestNamed_72 rfl k_1 (by decide) rfl ?_
              refine vGoto F (tgt := 5) dX7_nearestNamed_75 (by decide) ?_
              refine vSub [2, 3, 1, 0] rfl ?_
              have z := okL h
              exact z
def Mo_greatestNamed_l5 (m : Mm) (a1 : Int32) (s1 : Int32 × Int32) : Option ((Int32 × Int32) ⊕ Int32) :=
  if (m.1 0 0) ≤ (s1.2) then
 (some (.inr (s1.1)))
 else (ga a1 7 (if (Mo_has (m.1 4 a1.toNatClampNeg) (s1.2)) = true then
 (if (s1.1) < 0 then
 (some (.inl (s1.2, (s1.2) + 1)))
 else (ga (s1.2) 7 (ga (s1.1) 7 (if (m.1 21 (s1.2).toNatClampNeg) ≤ (m.1 21 (s1.1).toNatClampNeg) then
 (some (.inl (s1.1, (s1.2) + 1)))
 else (some (.inl (s1.2, (s1.2) + 1)))))))
 else (some (.inl (s1.1, (s1.2) + 1)))))
noncomputable def Mo_greatestNamed (m : Mm) (a1 : Int32) : Option (Int32) :=
  (iter (Mo_greatestNamed_l5 m a1) ((-5), 0)).bind fun e2 =>
  some e2
set_option maxRecDepth 20000 in
set_option maxHeartbeats 4000000 in
theorem Mo_greatestNamed_ok {G : Gw} (hG : gOk G) (hs : gsh G = shM) {a1 : Int32} {m : Mm} {P : Option Value → Mm → Prop} (h : mjO (Mo_greatestNamed m a1) (fun r => P (some (.int r)) m)) : mjR G 1 yX7_greatestNamed cX7_greatestNamed 4 (some .int) [.ref (gr G 0), .int a1] m P := by
  refine mjR_of hG (by decide) (Nat.le_of_ble_eq_true rfl) ?_
  intro X F
  have F : mjF G X cX7_greatestNamed RX7 4 1 (some .int) := F
  show mjV G X 4 0 [(0, .ref (gr G 0)), (1, .int a1)] [] m P
  unfold Mo_greatestNamed at h
  refine vBipush F (v := (-5)) dX7_greatestNamed_0 kb_m5 ?_
  refine vIstoreN F (L' := [(2, .int (-5)), (0, .ref (gr G 0)), (1, .int a1)]) dX7_greatestNamed_2 rfl (by decide) rfl ?_
  refine vIconst F (v := 0) dX7_greatestNamed_3 k_0 ?_
  refine vIstoreN F (L' := [(3, .int 0), (2, .int (-5)), (0, .ref (gr G 0)), (1, .int a1)]) dX7_greatestNamed_4 rfl (by decide) rfl ?_
  refine vSub [2, 3, 1, 0] rfl ?_
  refine okLoop (s0 := ((-5), 0)) (T := (fun (s1 : Int32 × Int32) => mjV G X 4 5 [(0, .ref (gr G 0)), (1, .int a1), (2, .int (s1.1)), (3, .int (s1.2))] [] m P)) (Ve := (fun (e2 : Int32) => mjV G X 4 54 [(2, .int e2)] [] m P)) h ?_ (fun s1 h => ?_)
  · intro e2 h
    refine vIloadN F dX7_greatestNamed_54 (k := 0) rfl ?_
    have z := okS h
    exact vIret F dX7_greatestNamed_55 z
  · unfold Mo_greatestNamed_l5 at h
    refine vIloadN F dX7_greatestNamed_5 (k := 3) rfl ?_
    refine vAloadN F dX7_greatestNamed_6 (k := 0) rfl ?_
    refine vGetI F dX7_greatestNamed_7 fa_X7_7 (cqM_0 hs) rfl ?_
    refine vIcmpGe F (tgt := 54) dX7_greatestNamed_10 (by decide) (fun c9 => ?_) (fun c9 => ?_)
    · replace h := okT h c9
      refine vSub [2] rfl ?_
      have z := okR h
      exact z
    · replace h := okF h c9
      refine vAloadN F dX7_greatestNamed_13 (k := 0) rfl ?_
      refine vAloadN F dX7_greatestNamed_14 (k := 0) rfl ?_
      refine vGetR F (t := 4) dX7_greatestNamed_15 fa_X7_26 (cqM_0 hs) rfl ?_
      refine vIloadN F dX7_greatestNamed_18 (k := 1) rfl ?_
      obtain ⟨g3, h⟩ := okga h
      refine vIald F dX7_greatestNamed_19 (cqM_4 hs) g3 ?_
      refine vIloadN F dX7_greatestNamed_20 (k := 3) rfl ?_
      refine vCallV F (d' := 0) (x := 0) (T := TX7) (N := 61) (As := [.int (m.1 4 a1.toNatClampNeg), .int (s1.2)]) (st := []) dX7_greatestNamed_21 lk_X7_209 my_X7_has mv_X7_has (cqM_0 hs) rfl (by decide) rfl rfl (Nat.le_of_ble_eq_true rfl) (Mo_has_ok hG hs ?_)
      show mjV G X 4 24 [(0, .ref (gr G 0)), (1, .int a1), (2, .int (s1.1)), (3, .int (s1.2))] [.int (bI (Mo_has (m.1 4 a1.toNatClampNeg) (s1.2)))] m P
      refine vIfEqB F (tgt := 48) dX7_greatestNamed_24 (by decide) (fun c8 => ?_) (fun c8 => ?_)
      · replace h := okF h c8
        refine vIinc F (v := 1) (k := 3) (L' := [(3, .int ((s1.2) + 1)), (0, .ref (gr G 0)), (1, .int a1), (2, .int (s1.1))]) dX7_greatestNamed_48 rfl k_1 (by decide) rfl ?_
        refine vGoto F (tgt := 5) dX7_greatestNamed_51 (by decide) ?_
        refine vSub [1, 2, 3, 0] rfl ?_
        have z := okL h
        exact z
      · replace h := okT h c8
        refine vIloadN F dX7_greatestNamed_27 (k := 2) rfl ?_
        refine vIfLt F (tgt := 46) dX7_greatestNamed_28 (by decide) (fun c7 => ?_) (fun c7 => ?_)
        · replace h := okT h c7
          refine vIloadN F dX7_greatestNamed_46 (k := 3) rfl ?_
          refine vIstoreN F (L' := [(2, .int (s1.2)), (0, .ref (gr G 0)), (1, .int a1), (3, .int (s1.2))]) dX7_greatestNamed_47 rfl (by decide) rfl ?_
          refine vIinc F (v := 1) (k := 3) (L' := [(3, .int ((s1.2) + 1)), (2, .int (s1.2)), (0, .ref (gr G 0)), (1, .int a1)]) dX7_greatestNamed_48 rfl k_1 (by decide) rfl ?_
          refine vGoto F (tgt := 5) dX7_greatestNamed_51 (by decide) ?_
          refine vSub [2, 3, 1, 0] rfl ?_
          have z := okL h
          exact z
        · replace h := okF h c7
          refine vAloadN F dX7_greatestNamed_31 (k := 0) rfl ?_
          refine vGetR F (t := 21) dX7_greatestNamed_32 fa_X7_102 (cqM_0 hs) rfl ?_
          refine vIloadN F dX7_greatestNamed_35 (k := 3) rfl ?_
          obtain ⟨g4, h⟩ := okga h
          refine vIald F dX7_greatestNamed_36 (cqM_21 hs) g4 ?_
          refine vAloadN F dX7_greatestNamed_37 (k := 0) rfl ?_
          refine vGetR F (t := 21) dX7_greatestNamed_38 fa_X7_102 (cqM_0 hs) rfl ?_
          refine vIloadN F dX7_greatestNamed_41 (k := 2) rfl ?_
          obtain ⟨g5, h⟩ := okga h
          refine vIald F dX7_greatestNamed_42 (cqM_21 hs) g5 ?_
          refine vIcmpLe F (tgt := 48) dX7_greatestNamed_43 (by decide) (fun c6 => ?_) (fun c6 => ?_)
          · replace h := okT h c6
            refine vIinc F (v := 1) (k := 3) (L' := [(3, .int ((s1.2) + 1)), (0, .ref (gr G 0)), (1, .int a1), (2, .int (s1.1))]) dX7_greatestNamed_48 rfl k_1 (by decide) rfl ?_
            refine vGoto F (tgt := 5) dX7_greatestNamed_51 (by decide) ?_
            refine vSub [1, 2, 3, 0] rfl ?_
            have z := okL h
            exact z
          · replace h := okF h c6
            refine vIloadN F dX7_greatestNamed_46 (k := 3) rfl ?_
            refine vIstoreN F (L' := [(2, .int (s1.2)), (0, .ref (gr G 0)), (1, .int a1), (3, .int (s1.2))]) dX7_greatestNamed_47 rfl (by decide) rfl ?_
            refine vIinc F (v := 1) (k := 3) (L' := [(3, .int ((s1.2) + 1)), (2, .int (s1.2)), (0, .ref (gr G 0)), (1, .int a1)]) dX7_greatestNamed_48 rfl k_1 (by decide) rfl ?_
            refine vGoto F (tgt := 5) dX7_greatestNamed_51 (by decide) ?_
            refine vSub [2, 3, 1, 0] rfl ?_
            have z := okL h
            exact z
noncomputable def Mo_goalOf (m : Mm) (a1 : Int32) (a2 : Int32) : Option (Int32) :=
  ga a1 7 (if (Mo_has (m.1 4 a1.toNatClampNeg) a2) = true then
 (some a2)
 else (ga ((7 * a1) + a2) 49 (if (m.1 5 ((7 * a1) + a2).toNatClampNeg) ≤ 0 then
 (ga a1 7 (if (m.1 1 a1.toNatClampNeg) = 1 then
 ((Mo_nearestNamed m a1).bind fun r6 =>
  some r6)
 else (if (m.1 1 a1.toNatClampNeg) = 2 then
 ((Mo_greatestNamed m a1).bind fun r8 =>
  some r8)
 else (if (m.1 1 a1.toNatClampNeg) = 3 then
 ((Mo_lastNamed m a1).bind fun r10 =>
  some r10)
 else (if (m.1 1 a1.toNatClampNeg) = 4 then
 (some a2)
 else (if (m.1 1 a1.toNatClampNeg) = 5 then
 (ga a1 7 (gz (m.1 0 0) (if ((m.1 2 a1.toNatClampNeg) - (m.1 2 a1.toNatClampNeg) / (m.1 0 0) * (m.1 0 0)) = a1 then
 ((Mo_greatestNamed m a1).bind fun r17 =>
  some r17)
 else (ga a1 7 (gz (m.1 0 0) (some ((m.1 2 a1.toNatClampNeg) - (m.1 2 a1.toNatClampNeg) / (m.1 0 0) * (m.1 0 0))))))))
 else (if (m.1 1 a1.toNatClampNeg) = 6 then
 (ga a1 7 (if (m.1 2 a1.toNatClampNeg) ≤ 4 then
 (some (-5))
 else ((Mo_lastNamed m a1).bind fun r21 =>
  some r21)))
 else ((Mo_leastNamed m a1).bind fun r4 =>
  some r4))))))))
 else (some a2))))
set_option maxRecDepth 20000 in
set_option maxHeartbeats 4000000 in
theorem Mo_goalOf_ok {G : Gw} (hG : gOk G) (hs : gsh G = shM) {a1 : Int32} {a2 : Int32} {m : Mm} {P : Option Value → Mm → Prop} (h : mjO (Mo_goalOf m a1 a2) (fun r => P (some (.int r)) m)) : mjR G 2 yX7_goalOf cX7_goalOf 3 (some .int) [.ref (gr G 0), .int a1, .int a2] m P := by
  refine mjR_of hG (by decide) (Nat.le_of_ble_eq_true rfl) ?_
  intro X F
  have F : mjF G X cX7_goalOf RX7 3 2 (some .int) := F
  show mjV G X 3 0 [(0, .ref (gr G 0)), (1, .int a1), (2, .int a2)] [] m P
  unfold Mo_goalOf at h
  refine vAloadN F dX7_goalOf_0 (k := 0) rfl ?_
  refine vAloadN F dX7_goalOf_1 (k := 0) rfl ?_
  refine vGetR F (t := 4) dX7_goalOf_2 fa_X7_26 (cqM_0 hs) rfl ?_
  refine vIloadN F dX7_goalOf_5 (k := 1) rfl ?_
  obtain ⟨g1, h⟩ := okga h
  refine vIald F dX7_goalOf_6 (cqM_4 hs) g1 ?_
  refine vIloadN F dX7_goalOf_7 (k := 2) rfl ?_
  refine vCallV F (d' := 0) (x := 0) (T := TX7) (N := 61) (As := [.int (m.1 4 a1.toNatClampNeg), .int a2]) (st := []) dX7_goalOf_8 lk_X7_209 my_X7_has mv_X7_has (cqM_0 hs) rfl (by decide) rfl rfl (Nat.le_of_ble_eq_true rfl) (Mo_has_ok hG hs ?_)
  show mjV G X 3 11 [(0, .ref (gr G 0)), (1, .int a1), (2, .int a2)] [.int (bI (Mo_has (m.1 4 a1.toNatClampNeg) a2))] m P
  refine vIfNeB F (tgt := 28) dX7_goalOf_11 (by decide) (fun c24 => ?_) (fun c24 => ?_)
  · replace h := okT h c24
    refine vIloadN F dX7_goalOf_28 (k := 2) rfl ?_
    have z := okS h
    exact vIret F dX7_goalOf_29 z
  · replace h := okF h c24
    refine vAloadN F dX7_goalOf_14 (k := 0) rfl ?_
    refine vGetR F (t := 5) dX7_goalOf_15 fa_X7_29 (cqM_0 hs) rfl ?_
    refine vBipush F (v := 7) dX7_goalOf_18 kb_7 ?_
    refine vIloadN F dX7_goalOf_20 (k := 1) rfl ?_
    refine vImul F dX7_goalOf_21 ?_
    refine vIloadN F dX7_goalOf_22 (k := 2) rfl ?_
    refine vIadd F dX7_goalOf_23 ?_
    obtain ⟨g2, h⟩ := okga h
    refine vIald F dX7_goalOf_24 (cqM_5 hs) g2 ?_
    refine vIfLe F (tgt := 30) dX7_goalOf_25 (by decide) (fun c23 => ?_) (fun c23 => ?_)
    · replace h := okT h c23
      refine vAloadN F dX7_goalOf_30 (k := 0) rfl ?_
      refine vGetR F (t := 1) dX7_goalOf_31 fa_X7_16 (cqM_0 hs) rfl ?_
      refine vIloadN F dX7_goalOf_34 (k := 1) rfl ?_
      obtain ⟨g3, h⟩ := okga h
      refine vIald F dX7_goalOf_35 (cqM_1 hs) g3 ?_
      by_cases c5 : (m.1 1 a1.toNatClampNeg) = 1
      · replace h := okT h c5
        refine vTabIn F (tgt := 76) dX7_goalOf_36 c5 (by decide) (by decide) rfl (by decide) ?_
        refine vAloadN F dX7_goalOf_76 (k := 0) rfl ?_
        refine vIloadN F dX7_goalOf_77 (k := 1) rfl ?_
        refine vCallV F (d' := 1) (x := 0) (T := TX7) (N := 61) (As := [.int a1]) (st := []) dX7_goalOf_78 lk_X7_300 my_X7_nearestNamed mv_X7_nearestNamed (cqM_0 hs) rfl (by decide) rfl rfl (Nat.le_of_ble_eq_true rfl) (Mo_nearestNamed_ok hG hs (okB h fun r6 h => ?_))
        show mjV G X 3 81 [(0, .ref (gr G 0)), (1, .int a1), (2, .int a2)] [.int r6] m P
        have z := okS h
        exact vIret F dX7_goalOf_81 z
      replace h := okF h c5
      by_cases c7 : (m.1 1 a1.toNatClampNeg) = 2
      · replace h := okT h c7
        refine vTabIn F (tgt := 82) dX7_goalOf_36 c7 (by decide) (by decide) rfl (by decide) ?_
        refine vAloadN F dX7_goalOf_82 (k := 0) rfl ?_
        refine vIloadN F dX7_goalOf_83 (k := 1) rfl ?_
        refine vCallV F (d' := 1) (x := 0) (T := TX7) (N := 61) (As := [.int a1]) (st := []) dX7_goalOf_84 lk_X7_303 my_X7_greatestNamed mv_X7_greatestNamed (cqM_0 hs) rfl (by decide) rfl rfl (Nat.le_of_ble_eq_true rfl) (Mo_greatestNamed_ok hG hs (okB h fun r8 h => ?_))
        show mjV G X 3 87 [(0, .ref (gr G 0)), (1, .int a1), (2, .int a2)] [.int r8] m P
        have z := okS h
        exact vIret F dX7_goalOf_87 z
      replace h := okF h c7
      by_cases c9 : (m.1 1 a1.toNatClampNeg) = 3
      · replace h := okT h c9
        refine vTabIn F (tgt := 88) dX7_goalOf_36 c9 (by decide) (by decide) rfl (by decide) ?_
        refine vAloadN F dX7_goalOf_88 (k := 0) rfl ?_
        refine vIloadN F dX7_goalOf_89 (k := 1) rfl ?_
        refine vCallV F (d' := 1) (x := 0) (T := TX7) (N := 61) (As := [.int a1]) (st := []) dX7_goalOf_90 lk_X7_306 my_X7_lastNamed mv_X7_lastNamed (cqM_0 hs) rfl (by decide) rfl rfl (Nat.le_of_ble_eq_true rfl) (Mo_lastNamed_ok hG hs (okB h fun r10 h => ?_))
        show mjV G X 3 93 [(0, .ref (gr G 0)), (1, .int a1), (2, .int a2)] [.int r10] m P
        have z := okS h
        exact vIret F dX7_goalOf_93 z
      replace h := okF h c9
      by_cases c11 : (m.1 1 a1.toNatClampNeg) = 4
      · replace h := okT h c11
        refine vTabIn F (tgt := 94) dX7_goalOf_36 c11 (by decide) (by decide) rfl (by decide) ?_
        refine vIloadN F dX7_goalOf_94 (k := 2) rfl ?_
        have z := okS h
        exact vIret F dX7_goalOf_95 z
      replace h := okF h c11
      by_cases c12 : (m.1 1 a1.toNatClampNeg) = 5
      · replace h := okT h c12
        refine vTabIn F (tgt := 96) dX7_goalOf_36 c12 (by decide) (by decide) rfl (by decide) ?_
        refine vAloadN F dX7_goalOf_96 (k := 0) rfl ?_
        refine vGetR F (t := 2) dX7_goalOf_97 fa_X7_20 (cqM_0 hs) rfl ?_
        refine vIloadN F dX7_goalOf_100 (k := 1) rfl ?_
        obtain ⟨g13, h⟩ := okga h
        refine vIald F dX7_goalOf_101 (cqM_2 hs) g13 ?_
        refine vAloadN F dX7_goalOf_102 (k := 0) rfl ?_
        refine vGetI F dX7_goalOf_103 fa_X7_7 (cqM_0 hs) rfl ?_
        obtain ⟨g14, h⟩ := okgz h
        refine vIrem F dX7_goalOf_106 g14 ?_
        refine vIloadN F dX7_goalOf_107 (k := 1) rfl ?_
        refine vIcmpNe F (tgt := 119) dX7_goalOf_108 (by decide) (fun c18 => ?_) (fun c18 => ?_)
        · replace h := okF h c18
          refine vAloadN F dX7_goalOf_119 (k := 0) rfl ?_
          refine vGetR F (t := 2) dX7_goalOf_120 fa_X7_20 (cqM_0 hs) rfl ?_
          refine vIloadN F dX7_goalOf_123 (k := 1) rfl ?_
          obtain ⟨g15, h⟩ := okga h
          refine vIald F dX7_goalOf_124 (cqM_2 hs) g15 ?_
          refine vAloadN F dX7_goalOf_125 (k := 0) rfl ?_
          refine vGetI F dX7_goalOf_126 fa_X7_7 (cqM_0 hs) rfl ?_
          obtain ⟨g16, h⟩ := okgz h
          refine vIrem F dX7_goalOf_129 g16 ?_
          have z := okS h
          exact vIret F dX7_goalOf_130 z
        · replace h := okT h c18
          refine vAloadN F dX7_goalOf_111 (k := 0) rfl ?_
          refine vIloadN F dX7_goalOf_112 (k := 1) rfl ?_
          refine vCallV F (d' := 1) (x := 0) (T := TX7) (N := 61) (As := [.int a1]) (st := []) dX7_goalOf_113 lk_X7_303 my_X7_greatestNamed mv_X7_greatestNamed (cqM_0 hs) rfl (by decide) rfl rfl (Nat.le_of_ble_eq_true rfl) (Mo_greatestNamed_ok hG hs (okB h fun r17 h => ?_))
          show mjV G X 3 116 [(0, .ref (gr G 0)), (1, .int a1), (2, .int a2)] [.int r17] m P
          refine vGoto F (tgt := 130) dX7_goalOf_116 (by decide) ?_
          have z := okS h
          exact vIret F dX7_goalOf_130 z
      replace h := okF h c12
      by_cases c19 : (m.1 1 a1.toNatClampNeg) = 6
      · replace h := okT h c19
        refine vTabIn F (tgt := 131) dX7_goalOf_36 c19 (by decide) (by decide) rfl (by decide) ?_
        refine vAloadN F dX7_goalOf_131 (k := 0) rfl ?_
        refine vGetR F (t := 2) dX7_goalOf_132 fa_X7_20 (cqM_0 hs) rfl ?_
        refine vIloadN F dX7_goalOf_135 (k := 1) rfl ?_
        obtain ⟨g20, h⟩ := okga h
        refine vIald F dX7_goalOf_136 (cqM_2 hs) g20 ?_
        refine vIconst F (v := 4) dX7_goalOf_137 k_4 ?_
        refine vIcmpLe F (tgt := 149) dX7_goalOf_138 (by decide) (fun c22 => ?_) (fun c22 => ?_)
        · replace h := okT h c22
          refine vBipush F (v := (-5)) dX7_goalOf_149 kb_m5 ?_
          have z := okS h
          exact vIret F dX7_goalOf_151 z
        · replace h := okF h c22
          refine vAloadN F dX7_goalOf_141 (k := 0) rfl ?_
          refine vIloadN F dX7_goalOf_142 (k := 1) rfl ?_
          refine vCallV F (d' := 1) (x := 0) (T := TX7) (N := 61) (As := [.int a1]) (st := []) dX7_goalOf_143 lk_X7_306 my_X7_lastNamed mv_X7_lastNamed (cqM_0 hs) rfl (by decide) rfl rfl (Nat.le_of_ble_eq_true rfl) (Mo_lastNamed_ok hG hs (okB h fun r21 h => ?_))
          show mjV G X 3 146 [(0, .ref (gr G 0)), (1, .int a1), (2, .int a2)] [.int r21] m P
          refine vGoto F (tgt := 151) dX7_goalOf_146 (by decide) ?_
          have z := okS h
          exact vIret F dX7_goalOf_151 z
      replace h := okF h c19
      replace c5 := lv_neT c5 (a := 1) (by decide)
      replace c7 := lv_neT c7 (a := 2) (by decide)
      replace c9 := lv_neT c9 (a := 3) (by decide)
      replace c11 := lv_neT c11 (a := 4) (by decide)
      replace c12 := lv_neT c12 (a := 5) (by decide)
      replace c19 := lv_neT c19 (a := 6) (by decide)
      refine vTabOut F (tgt := 152) dX7_goalOf_36 (by omega) (by decide) ?_
      refine vAloadN F dX7_goalOf_152 (k := 0) rfl ?_
      refine vIloadN F dX7_goalOf_153 (k := 1) rfl ?_
      refine vCallV F (d' := 1) (x := 0) (T := TX7) (N := 61) (As := [.int a1]) (st := []) dX7_goalOf_154 lk_X7_309 my_X7_leastNamed mv_X7_leastNamed (cqM_0 hs) rfl (by decide) rfl rfl (Nat.le_of_ble_eq_true rfl) (Mo_leastNamed_ok hG hs (okB h fun r4 h => ?_))
      show mjV G X 3 157 [(0, .ref (gr G 0)), (1, .int a1), (2, .int a2)] [.int r4] m P
      have z := okS h
      exact vIret F dX7_goalOf_157 z
    · replace h := okF h c23
      refine vIloadN F dX7_goalOf_28 (k := 2) rfl ?_
      have z := okS h
      exact vIret F dX7_goalOf_29 z
def Mo_turnedTo (m : Mm) : Option (Int32) :=
  gz (m.1 0 0) (if (((m.1 0 33) + 1) - ((m.1 0 33) + 1) / (m.1 0 0) * (m.1 0 0)) = (m.1 0 32) then
 (gz (m.1 0 0) (some (((((m.1 0 33) + 1) - ((m.1 0 33) + 1) / (m.1 0 0) * (m.1 0 0)) + 1) - ((((m.1 0 33) + 1) - ((m.1 0 33) + 1) / (m.1 0 0) * (m.1 0 0)) + 1) / (m.1 0 0) * (m.1 0 0))))
 else (some (((m.1 0 33) + 1) - ((m.1 0 33) + 1) / (m.1 0 0) * (m.1 0 0))))
set_option maxRecDepth 20000 in
set_option maxHeartbeats 4000000 in
theorem Mo_turnedTo_ok {G : Gw} (hG : gOk G) (hs : gsh G = shM) {m : Mm} {P : Option Value → Mm → Prop} (h : mjO (Mo_turnedTo m) (fun r => P (some (.int r)) m)) : mjR G 0 yX7_turnedTo cX7_turnedTo 2 (some .int) [.ref (gr G 0)] m P := by
  refine mjR_of hG (by decide) (Nat.le_of_ble_eq_true rfl) ?_
  intro X F
  have F : mjF G X cX7_turnedTo RX7 2 0 (some .int) := F
  show mjV G X 2 0 [(0, .ref (gr G 0))] [] m P
  unfold Mo_turnedTo at h
  refine vAloadN F dX7_turnedTo_0 (k := 0) rfl ?_
  refine vGetI F dX7_turnedTo_1 fa_X7_111 (cqM_0 hs) rfl ?_
  refine vIconst F (v := 1) dX7_turnedTo_4 k_1 ?_
  refine vIadd F dX7_turnedTo_5 ?_
  refine vAloadN F dX7_turnedTo_6 (k := 0) rfl ?_
  refine vGetI F dX7_turnedTo_7 fa_X7_7 (cqM_0 hs) rfl ?_
  obtain ⟨g1, h⟩ := okgz h
  refine vIrem F dX7_turnedTo_10 g1 ?_
  refine vIstoreN F (L' := [(1, .int (((m.1 0 33) + 1) - ((m.1 0 33) + 1) / (m.1 0 0) * (m.1 0 0))), (0, .ref (gr G 0))]) dX7_turnedTo_11 rfl (by decide) rfl ?_
  refine vIloadN F dX7_turnedTo_12 (k := 0) rfl ?_
  refine vAloadN F dX7_turnedTo_13 (k := 1) rfl ?_
  refine vGetI F dX7_turnedTo_14 fa_X7_108 (cqM_0 hs) rfl ?_
  refine vIcmpNe F (tgt := 31) dX7_turnedTo_17 (by decide) (fun c3 => ?_) (fun c3 => ?_)
  · replace h := okF h c3
    refine vIloadN F dX7_turnedTo_31 (k := 0) rfl ?_
    have z := okS h
    exact vIret F dX7_turnedTo_32 z
  · replace h := okT h c3
    refine vIloadN F dX7_turnedTo_20 (k := 0) rfl ?_
    refine vIconst F (v := 1) dX7_turnedTo_21 k_1 ?_
    refine vIadd F dX7_turnedTo_22 ?_
    refine vAloadN F dX7_turnedTo_23 (k := 1) rfl ?_
    refine vGetI F dX7_turnedTo_24 fa_X7_7 (cqM_0 hs) rfl ?_
    obtain ⟨g2, h⟩ := okgz h
    refine vIrem F dX7_turnedTo_27 g2 ?_
    refine vGoto F (tgt := 32) dX7_turnedTo_28 (by decide) ?_
    have z := okS h
    exact vIret F dX7_turnedTo_32 z
noncomputable def Mo_nextOf (m : Mm) (a1 : Int32) (a2 : Int32) : Option (Int32) :=
  (Mo_goalOf m a1 a2).bind fun r1 =>
  if 0 ≤ r1 then
 (if a1 = (m.1 0 32) then
 (if r1 = (m.1 0 33) then
 ((Mo_turnedTo m).bind fun r4 =>
  (Mo_towardOf m a1 r4).bind fun r5 =>
  some r5)
 else ((Mo_towardOf m a1 r1).bind fun r3 =>
  some r3))
 else ((Mo_towardOf m a1 r1).bind fun r2 =>
  some r2))
 else (some (-5))
set_option maxRecDepth 20000 in
set_option maxHeartbeats 4000000 in
theorem Mo_nextOf_ok {G : Gw} (hG : gOk G) (hs : gsh G = shM) {a1 : Int32} {a2 : Int32} {m : Mm} {P : Option Value → Mm → Prop} (h : mjO (Mo_nextOf m a1 a2) (fun r => P (some (.int r)) m)) : mjR G 3 yX7_nextOf cX7_nextOf 4 (some .int) [.ref (gr G 0), .int a1, .int a2] m P := by
  refine mjR_of hG (by decide) (Nat.le_of_ble_eq_true rfl) ?_
  intro X F
  have F : mjF G X cX7_nextOf RX7 4 3 (some .int) := F
  show mjV G X 4 0 [(0, .ref (gr G 0)), (1, .int a1), (2, .int a2)] [] m P
  unfold Mo_nextOf at h
  refine vAloadN F dX7_nextOf_0 (k := 0) rfl ?_
  refine vIloadN F dX7_nextOf_1 (k := 1) rfl ?_
  refine vIloadN F dX7_nextOf_2 (k := 2) rfl ?_
  refine vCallV F (d' := 2) (x := 0) (T := TX7) (N := 61) (As := [.int a1, .int a2]) (st := []) dX7_nextOf_3 lk_X7_312 my_X7_goalOf mv_X7_goalOf (cqM_0 hs) rfl (by decide) rfl rfl (Nat.le_of_ble_eq_true rfl) (Mo_goalOf_ok hG hs (okB h fun r1 h => ?_))
  show mjV G X 4 6 [(0, .ref (gr G 0)), (1, .int a1), (2, .int a2)] [.int r1] m P
  refine vIstoreN F (L' := [(3, .int r1), (0, .ref (gr G 0)), (1, .int a1), (2, .int a2)]) dX7_nextOf_6 rfl (by decide) rfl ?_
  refine vIloadN F dX7_nextOf_7 (k := 0) rfl ?_
  refine vIfGe F (tgt := 14) dX7_nextOf_8 (by decide) (fun c8 => ?_) (fun c8 => ?_)
  · replace h := okT h c8
    refine vAloadN F dX7_nextOf_14 (k := 1) rfl ?_
    refine vIloadN F dX7_nextOf_15 (k := 2) rfl ?_
    refine vIloadN F dX7_nextOf_16 (k := 2) rfl ?_
    refine vAloadN F dX7_nextOf_17 (k := 1) rfl ?_
    refine vGetI F dX7_nextOf_18 fa_X7_108 (cqM_0 hs) rfl ?_
    refine vIcmpNe F (tgt := 39) dX7_nextOf_21 (by decide) (fun c7 => ?_) (fun c7 => ?_)
    · replace h := okF h c7
      refine vIloadN F dX7_nextOf_39 (k := 0) rfl ?_
      refine vCallV F (d' := 0) (x := 0) (T := TX7) (N := 61) (As := [.int a1, .int r1]) (st := []) dX7_nextOf_40 lk_X7_297 my_X7_towardOf mv_X7_towardOf (cqM_0 hs) rfl (by decide) rfl rfl (Nat.le_of_ble_eq_true rfl) (Mo_towardOf_ok hG hs (okB h fun r2 h => ?_))
      show mjV G X 4 43 [(3, .int r1), (0, .ref (gr G 0)), (1, .int a1), (2, .int a2)] [.int r2] m P
      have z := okS h
      exact vIret F dX7_nextOf_43 z
    · replace h := okT h c7
      refine vIloadN F dX7_nextOf_24 (k := 0) rfl ?_
      refine vAloadN F dX7_nextOf_25 (k := 1) rfl ?_
      refine vGetI F dX7_nextOf_26 fa_X7_111 (cqM_0 hs) rfl ?_
      refine vIcmpNe F (tgt := 39) dX7_nextOf_29 (by decide) (fun c6 => ?_) (fun c6 => ?_)
      · replace h := okF h c6
        refine vIloadN F dX7_nextOf_39 (k := 0) rfl ?_
        refine vCallV F (d' := 0) (x := 0) (T := TX7) (N := 61) (As := [.int a1, .int r1]) (st := []) dX7_nextOf_40 lk_X7_297 my_X7_towardOf mv_X7_towardOf (cqM_0 hs) rfl (by decide) rfl rfl (Nat.le_of_ble_eq_true rfl) (Mo_towardOf_ok hG hs (okB h fun r3 h => ?_))
        show mjV G X 4 43 [(3, .int r1), (0, .ref (gr G 0)), (1, .int a1), (2, .int a2)] [.int r3] m P
        have z := okS h
        exact vIret F dX7_nextOf_43 z
      · replace h := okT h c6
        refine vAloadN F dX7_nextOf_32 (k := 1) rfl ?_
        refine vCallV F (d' := 0) (x := 0) (T := TX7) (N := 61) (As := []) (st := [.int a1, .ref (gr G 0)]) dX7_nextOf_33 lk_X7_315 my_X7_turnedTo mv_X7_turnedTo (cqM_0 hs) rfl (by decide) rfl rfl (Nat.le_of_ble_eq_true rfl) (Mo_turnedTo_ok hG hs (okB h fun r4 h => ?_))
        show mjV G X 4 36 [(3, .int r1), (0, .ref (gr G 0)), (1, .int a1), (2, .int a2)] [.int r4, .int a1, .ref (gr G 0)] m P
        refine vGoto F (tgt := 40) dX7_nextOf_36 (by decide) ?_
        refine vCallV F (d' := 0) (x := 0) (T := TX7) (N := 61) (As := [.int a1, .int r4]) (st := []) dX7_nextOf_40 lk_X7_297 my_X7_towardOf mv_X7_towardOf (cqM_0 hs) rfl (by decide) rfl rfl (Nat.le_of_ble_eq_true rfl) (Mo_towardOf_ok hG hs (okB h fun r5 h => ?_))
        show mjV G X 4 43 [(3, .int r1), (0, .ref (gr G 0)), (1, .int a1), (2, .int a2)] [.int r5] m P
        have z := okS h
        exact vIret F dX7_nextOf_43 z
  · replace h := okF h c8
    refine vBipush F (v := (-5)) dX7_nextOf_11 kb_m5 ?_
    have z := okS h
    exact vIret F dX7_nextOf_13 z
noncomputable def Mo_next (m : Mm) (a1 : Int32) (a2 : Int32) : Option (Int32 × Mm) :=
  if (Mo_arePlaces m a1 a2) = true then
 (if a1 = a2 then
 (some ((-2), m))
 else ((Mo_layLand m).bind fun r1 =>
  (Mo_nextOf r1 a1 a2).bind fun r2 =>
  some (r2, r1)))
 else (some ((-1), m))
set_option maxRecDepth 20000 in
set_option maxHeartbeats 4000000 in
theorem Mo_next_ok {G : Gw} (hG : gOk G) (hs : gsh G = shM) {a1 : Int32} {a2 : Int32} {m : Mm} {P : Option Value → Mm → Prop} (h : mjO (Mo_next m a1 a2) (fun r => P (some (.int r.1)) r.2)) : mjR G 5 yX7_next cX7_next 3 (some .int) [.ref (gr G 0), .int a1, .int a2] m P := by
  refine mjR_of hG (by decide) (Nat.le_of_ble_eq_true rfl) ?_
  intro X F
  have F : mjF G X cX7_next RX7 3 5 (some .int) := F
  show mjV G X 3 0 [(0, .ref (gr G 0)), (1, .int a1), (2, .int a2)] [] m P
  unfold Mo_next at h
  refine vAloadN F dX7_next_0 (k := 0) rfl ?_
  refine vIloadN F dX7_next_1 (k := 1) rfl ?_
  refine vIloadN F dX7_next_2 (k := 2) rfl ?_
  refine vCallV F (d' := 2) (x := 0) (T := TX7) (N := 61) (As := [.int a1, .int a2]) (st := []) dX7_next_3 lk_X7_205 my_X7_arePlaces mv_X7_arePlaces (cqM_0 hs) rfl (by decide) rfl rfl (Nat.le_of_ble_eq_true rfl) (Mo_arePlaces_ok hG hs ?_)
  show mjV G X 3 6 [(0, .ref (gr G 0)), (1, .int a1), (2, .int a2)] [.int (bI (Mo_arePlaces m a1 a2))] m P
  refine vIfNeB F (tgt := 11) dX7_next_6 (by decide) (fun c4 => ?_) (fun c4 => ?_)
  · replace h := okT h c4
    refine vIloadN F dX7_next_11 (k := 1) rfl ?_
    refine vIloadN F dX7_next_12 (k := 2) rfl ?_
    refine vIcmpNe F (tgt := 19) dX7_next_13 (by decide) (fun c3 => ?_) (fun c3 => ?_)
    · replace h := okF h c3
      refine vAloadN F dX7_next_19 (k := 0) rfl ?_
      refine vCallV F (d' := 4) (x := 0) (T := TX7) (N := 61) (As := []) (st := []) dX7_next_20 lk_X7_294 my_X7_layLand mv_X7_layLand (cqM_0 hs) rfl (by decide) rfl rfl (Nat.le_of_ble_eq_true rfl) (Mo_layLand_ok hG hs (okB h fun r1 h => ?_))
      show mjV G X 3 23 [(0, .ref (gr G 0)), (1, .int a1), (2, .int a2)] [] r1 P
      refine vAloadN F dX7_next_23 (k := 0) rfl ?_
      refine vIloadN F dX7_next_24 (k := 1) rfl ?_
      refine vIloadN F dX7_next_25 (k := 2) rfl ?_
      refine vCallV F (d' := 3) (x := 0) (T := TX7) (N := 61) (As := [.int a1, .int a2]) (st := []) dX7_next_26 lk_X7_318 my_X7_nextOf mv_X7_nextOf (cqM_0 hs) rfl (by decide) rfl rfl (Nat.le_of_ble_eq_true rfl) (Mo_nextOf_ok hG hs (okB h fun r2 h => ?_))
      show mjV G X 3 29 [(0, .ref (gr G 0)), (1, .int a1), (2, .int a2)] [.int r2] r1 P
      have z := okS h
      exact vIret F dX7_next_29 z
    · replace h := okT h c3
      refine vBipush F (v := (-2)) dX7_next_16 kb_m2 ?_
      have z := okS h
      exact vIret F dX7_next_18 z
  · replace h := okF h c4
    refine vIconst F (v := (-1)) dX7_next_9 k_m1 ?_
    have z := okS h
    exact vIret F dX7_next_10 z
noncomputable def Mo_goes_l15 (a2 : Int32) (s1 : Mm) : Option ((Mm) ⊕ (Mm ⊕ (Bool × Mm))) :=
  if (s1.1 0 36) = a2 then
 (some (.inr (.inl (s1))))
 else (if 20 ≤ (s1.1 0 35) then
 (some (.inr (.inl (s1))))
 else ((Mo_nextOf s1 (s1.1 0 36) a2).bind fun r3 =>
  if 0 ≤ r3 then
 (ga ((7 * (s1.1 0 36)) + r3) 49 (some (.inl (si (si (si s1 0 34 ((s1.1 0 34) + (s1.1 19 ((7 * (s1.1 0 36)) + r3).toNatClampNeg))) 0 35 (((si s1 0 34 ((s1.1 0 34) + (s1.1 19 ((7 * (s1.1 0 36)) + r3).toNatClampNeg))).1 0 35) + 1)) 0 36 r3))))
 else (some (.inr (.inr (false, s1))))))
noncomputable def Mo_goes (m : Mm) (a1 : Int32) (a2 : Int32) : Option (Bool × Mm) :=
  (iter (Mo_goes_l15 a2) (si (si (si m 0 34 0) 0 35 0) 0 36 a1)).bind (Sum.elim (fun e2 => if (e2.1 0 36) = a2 then
 (some (true, e2))
 else (some (false, e2))) (fun v9 => some v9))
set_option maxRecDepth 20000 in
set_option maxHeartbeats 4000000 in
theorem Mo_goes_ok {G : Gw} (hG : gOk G) (hs : gsh G = shM) {a1 : Int32} {a2 : Int32} {m : Mm} {P : Option Value → Mm → Prop} (h : mjO (Mo_goes m a1 a2) (fun r => P (some (.int (bI r.1))) r.2)) : mjR G 4 yX7_goes cX7_goes 4 (some .boolean) [.ref (gr G 0), .int a1, .int a2] m P := by
  refine mjR_of hG (by decide) (Nat.le_of_ble_eq_true rfl) ?_
  intro X F
  have F : mjF G X cX7_goes RX7 4 4 (some .boolean) := F
  show mjV G X 4 0 [(0, .ref (gr G 0)), (1, .int a1), (2, .int a2)] [] m P
  unfold Mo_goes at h
  refine vAloadN F dX7_goes_0 (k := 0) rfl ?_
  refine vIconst F (v := 0) dX7_goes_1 k_0 ?_
  refine vPutI F dX7_goes_2 fw_X7_114 (cqM_0 hs) rfl ⟨rfl, rfl⟩ ?_
  refine vAloadN F dX7_goes_5 (k := 0) rfl ?_
  refine vIconst F (v := 0) dX7_goes_6 k_0 ?_
  refine vPutI F dX7_goes_7 fw_X7_117 (cqM_0 hs) rfl ⟨rfl, rfl⟩ ?_
  refine vAloadN F dX7_goes_10 (k := 0) rfl ?_
  refine vIloadN F dX7_goes_11 (k := 1) rfl ?_
  refine vPutI F dX7_goes_12 fw_X7_120 (cqM_0 hs) rfl ⟨rfl, rfl⟩ ?_
  refine vSub [0, 2] rfl ?_
  refine okLoop (s0 := (si (si (si m 0 34 0) 0 35 0) 0 36 a1)) (T := (fun (s1 : Mm) => mjV G X 4 15 [(0, .ref (gr G 0)), (2, .int a2)] [] s1 P)) (Ve := (Sum.elim (fun (e2 : Mm) => mjV G X 4 89 [(0, .ref (gr G 0)), (2, .int a2)] [] e2 P) (fun (v9 : Bool × Mm) => P (some (.int (bI v9.1))) v9.2))) h ?_ (fun s1 h => ?_)
  · intro q h
    rcases q with e2 | v9
    · refine vAloadN F dX7_goes_89 (k := 0) rfl ?_
      refine vGetI F dX7_goes_90 fa_X7_120 (cqM_0 hs) rfl ?_
      refine vIloadN F dX7_goes_93 (k := 1) rfl ?_
      refine vIcmpNe F (tgt := 101) dX7_goes_94 (by decide) (fun c8 => ?_) (fun c8 => ?_)
      · replace h := okF h c8
        refine vIconst F (v := 0) dX7_goes_101 k_0 ?_
        have z := okS h
        exact vZret (x := bI false) F dX7_goes_102 (nzI _) z
      · replace h := okT h c8
        refine vIconst F (v := 1) dX7_goes_97 k_1 ?_
        refine vGoto F (tgt := 102) dX7_goes_98 (by decide) ?_
        have z := okS h
        exact vZret (x := bI true) F dX7_goes_102 (nzI _) z
    · have z := okS h
      exact z
  · unfold Mo_goes_l15 at h
    refine vAloadN F dX7_goes_15 (k := 0) rfl ?_
    refine vGetI F dX7_goes_16 fa_X7_120 (cqM_0 hs) rfl ?_
    refine vIloadN F dX7_goes_19 (k := 1) rfl ?_
    refine vIcmpEq F (tgt := 89) dX7_goes_20 (by decide) (fun c7 => ?_) (fun c7 => ?_)
    · replace h := okT h c7
      have z := okR h
      exact z
    · replace h := okF h c7
      refine vAloadN F dX7_goes_23 (k := 0) rfl ?_
      refine vGetI F dX7_goes_24 fa_X7_117 (cqM_0 hs) rfl ?_
      refine vBipush F (v := 20) dX7_goes_27 kb_20 ?_
      refine vIcmpGe F (tgt := 89) dX7_goes_29 (by decide) (fun c6 => ?_) (fun c6 => ?_)
      · replace h := okT h c6
        have z := okR h
        exact z
      · replace h := okF h c6
        refine vAloadN F dX7_goes_32 (k := 0) rfl ?_
        refine vAloadN F dX7_goes_33 (k := 0) rfl ?_
        refine vGetI F dX7_goes_34 fa_X7_120 (cqM_0 hs) rfl ?_
        refine vIloadN F dX7_goes_37 (k := 1) rfl ?_
        refine vCallV F (d' := 3) (x := 0) (T := TX7) (N := 61) (As := [.int (s1.1 0 36), .int a2]) (st := []) dX7_goes_38 lk_X7_318 my_X7_nextOf mv_X7_nextOf (cqM_0 hs) rfl (by decide) rfl rfl (Nat.le_of_ble_eq_true rfl) (Mo_nextOf_ok hG hs (okB h fun r3 h => ?_))
        show mjV G X 4 41 [(0, .ref (gr G 0)), (2, .int a2)] [.int r3] s1 P
        refine vIstoreN F (L' := [(3, .int r3), (0, .ref (gr G 0)), (2, .int a2)]) dX7_goes_41 rfl (by decide) rfl ?_
        refine vIloadN F dX7_goes_42 (k := 0) rfl ?_
        refine vIfGe F (tgt := 48) dX7_goes_43 (by decide) (fun c5 => ?_) (fun c5 => ?_)
        · replace h := okT h c5
          refine vAloadN F dX7_goes_48 (k := 1) rfl ?_
          refine vDup F dX7_goes_49 rfl ?_
          refine vGetI F dX7_goes_50 fa_X7_114 (cqM_0 hs) rfl ?_
          refine vAloadN F dX7_goes_53 (k := 1) rfl ?_
          refine vGetR F (t := 19) dX7_goes_54 fa_X7_96 (cqM_0 hs) rfl ?_
          refine vBipush F (v := 7) dX7_goes_57 kb_7 ?_
          refine vAloadN F dX7_goes_59 (k := 1) rfl ?_
          refine vGetI F dX7_goes_60 fa_X7_120 (cqM_0 hs) rfl ?_
          refine vImul F dX7_goes_63 ?_
          refine vIloadN F dX7_goes_64 (k := 0) rfl ?_
          refine vIadd F dX7_goes_65 ?_
          obtain ⟨g4, h⟩ := okga h
          refine vIald F dX7_goes_66 (cqM_19 hs) g4 ?_
          refine vIadd F dX7_goes_67 ?_
          refine vPutI F dX7_goes_68 fw_X7_114 (cqM_0 hs) rfl ⟨rfl, rfl⟩ ?_
          refine vAloadN F dX7_goes_71 (k := 1) rfl ?_
          refine vDup F dX7_goes_72 rfl ?_
          refine vGetI F dX7_goes_73 fa_X7_117 (cqM_0 hs) rfl ?_
          refine vIconst F (v := 1) dX7_goes_76 k_1 ?_
          refine vIadd F dX7_goes_77 ?_
          refine vPutI F dX7_goes_78 fw_X7_117 (cqM_0 hs) rfl ⟨rfl, rfl⟩ ?_
          refine vAloadN F dX7_goes_81 (k := 1) rfl ?_
          refine vIloadN F dX7_goes_82 (k := 0) rfl ?_
          refine vPutI F dX7_goes_83 fw_X7_120 (cqM_0 hs) rfl ⟨rfl, rfl⟩ ?_
          refine vGoto F (tgt := 15) dX7_goes_86 (by decide) ?_
          refine vSub [1, 2] rfl ?_
          have z := okL h
          exact z
        · replace h := okF h c5
          refine vIconst F (v := 0) dX7_goes_46 k_0 ?_
          have z := okR h
          exact vZret (x := bI false) F dX7_goes_47 (nzI _) z
noncomputable def Mo_gone (m : Mm) (a1 : Int32) (a2 : Int32) (a3 : Int32) : Option (Int32 × Mm) :=
  if (Mo_arePlaces m a1 a2) = true then
 (if (Mo_in a3 0 1) = true then
 (if a1 = a2 then
 (some ((-2), m))
 else ((Mo_layLand m).bind fun r1 =>
  (Mo_goes r1 a1 a2).bind fun r2 =>
  if (r2.1) = true then
 (if a3 = 0 then
 (some ((r2.2).1 0 34, r2.2))
 else (some ((r2.2).1 0 35, r2.2)))
 else (some ((-5), r2.2))))
 else (some ((-1), m)))
 else (some ((-1), m))
set_option maxRecDepth 20000 in
set_option maxHeartbeats 4000000 in
theorem Mo_gone_ok {G : Gw} (hG : gOk G) (hs : gsh G = shM) {a1 : Int32} {a2 : Int32} {a3 : Int32} {m : Mm} {P : Option Value → Mm → Prop} (h : mjO (Mo_gone m a1 a2 a3) (fun r => P (some (.int r.1)) r.2)) : mjR G 5 yX7_gone cX7_gone 4 (some .int) [.ref (gr G 0), .int a1, .int a2, .int a3] m P := by
  refine mjR_of hG (by decide) (Nat.le_of_ble_eq_true rfl) ?_
  intro X F
  have F : mjF G X cX7_gone RX7 4 5 (some .int) := F
  show mjV G X 4 0 [(0, .ref (gr G 0)), (1, .int a1), (2, .int a2), (3, .int a3)] [] m P
  unfold Mo_gone at h
  refine vAloadN F dX7_gone_0 (k := 0) rfl ?_
  refine vIloadN F dX7_gone_1 (k := 1) rfl ?_
  refine vIloadN F dX7_gone_2 (k := 2) rfl ?_
  refine vCallV F (d' := 2) (x := 0) (T := TX7) (N := 61) (As := [.int a1, .int a2]) (st := []) dX7_gone_3 lk_X7_205 my_X7_arePlaces mv_X7_arePlaces (cqM_0 hs) rfl (by decide) rfl rfl (Nat.le_of_ble_eq_true rfl) (Mo_arePlaces_ok hG hs ?_)
  show mjV G X 4 6 [(0, .ref (gr G 0)), (1, .int a1), (2, .int a2), (3, .int a3)] [.int (bI (Mo_arePlaces m a1 a2))] m P
  refine vIfEqB F (tgt := 19) dX7_gone_6 (by decide) (fun c7 => ?_) (fun c7 => ?_)
  · replace h := okF h c7
    refine vIconst F (v := (-1)) dX7_gone_19 k_m1 ?_
    have z := okS h
    exact vIret F dX7_gone_20 z
  · replace h := okT h c7
    refine vAloadN F dX7_gone_9 (k := 0) rfl ?_
    refine vIloadN F dX7_gone_10 (k := 3) rfl ?_
    refine vIconst F (v := 0) dX7_gone_11 k_0 ?_
    refine vIconst F (v := 1) dX7_gone_12 k_1 ?_
    refine vCallV F (d' := 0) (x := 0) (T := TX7) (N := 61) (As := [.int a3, .int 0, .int 1]) (st := []) dX7_gone_13 lk_X7_197 my_X7_in mv_X7_in (cqM_0 hs) rfl (by decide) rfl rfl (Nat.le_of_ble_eq_true rfl) (Mo_in_ok hG hs ?_)
    show mjV G X 4 16 [(0, .ref (gr G 0)), (1, .int a1), (2, .int a2), (3, .int a3)] [.int (bI (Mo_in a3 0 1))] m P
    refine vIfNeB F (tgt := 21) dX7_gone_16 (by decide) (fun c6 => ?_) (fun c6 => ?_)
    · replace h := okT h c6
      refine vIloadN F dX7_gone_21 (k := 1) rfl ?_
      refine vIloadN F dX7_gone_22 (k := 2) rfl ?_
      refine vIcmpNe F (tgt := 29) dX7_gone_23 (by decide) (fun c5 => ?_) (fun c5 => ?_)
      · replace h := okF h c5
        refine vAloadN F dX7_gone_29 (k := 0) rfl ?_
        refine vCallV F (d' := 4) (x := 0) (T := TX7) (N := 61) (As := []) (st := []) dX7_gone_30 lk_X7_294 my_X7_layLand mv_X7_layLand (cqM_0 hs) rfl (by decide) rfl rfl (Nat.le_of_ble_eq_true rfl) (Mo_layLand_ok hG hs (okB h fun r1 h => ?_))
        show mjV G X 4 33 [(0, .ref (gr G 0)), (1, .int a1), (2, .int a2), (3, .int a3)] [] r1 P
        refine vAloadN F dX7_gone_33 (k := 0) rfl ?_
        refine vIloadN F dX7_gone_34 (k := 1) rfl ?_
        refine vIloadN F dX7_gone_35 (k := 2) rfl ?_
        refine vCallV F (d' := 4) (x := 0) (T := TX7) (N := 61) (As := [.int a1, .int a2]) (st := []) dX7_gone_36 lk_X7_321 my_X7_goes mv_X7_goes (cqM_0 hs) rfl (by decide) rfl rfl (Nat.le_of_ble_eq_true rfl) (Mo_goes_ok hG hs (okB h fun r2 h => ?_))
        show mjV G X 4 39 [(0, .ref (gr G 0)), (1, .int a1), (2, .int a2), (3, .int a3)] [.int (bI (r2.1))] (r2.2) P
        refine vIfNeB F (tgt := 45) dX7_gone_39 (by decide) (fun c4 => ?_) (fun c4 => ?_)
        · replace h := okT h c4
          refine vIloadN F dX7_gone_45 (k := 3) rfl ?_
          refine vIfNe F (tgt := 56) dX7_gone_46 (by decide) (fun c3 => ?_) (fun c3 => ?_)
          · replace h := okF h c3
            refine vAloadN F dX7_gone_56 (k := 0) rfl ?_
            refine vGetI F dX7_gone_57 fa_X7_117 (cqM_0 hs) rfl ?_
            have z := okS h
            exact vIret F dX7_gone_60 z
          · replace h := okT h c3
            refine vAloadN F dX7_gone_49 (k := 0) rfl ?_
            refine vGetI F dX7_gone_50 fa_X7_114 (cqM_0 hs) rfl ?_
            refine vGoto F (tgt := 60) dX7_gone_53 (by decide) ?_
            have z := okS h
            exact vIret F dX7_gone_60 z
        · replace h := okF h c4
          refine vBipush F (v := (-5)) dX7_gone_42 kb_m5 ?_
          have z := okS h
          exact vIret F dX7_gone_44 z
      · replace h := okT h c5
        refine vBipush F (v := (-2)) dX7_gone_26 kb_m2 ?_
        have z := okS h
        exact vIret F dX7_gone_28 z
    · replace h := okF h c6
      refine vIconst F (v := (-1)) dX7_gone_19 k_m1 ?_
      have z := okS h
      exact vIret F dX7_gone_20 z
noncomputable def Mo_lostPairs_l18 (s2 : Int32 × Int32 × Mm) (s4 : Int32 × Int32 × Mm) : Option ((Int32 × Int32 × Mm) ⊕ (Int32 × Mm)) :=
  if ((s4.2.2).1 0 0) ≤ (s4.2.1) then
 (some (.inr (s4.1, s4.2.2)))
 else (if (s2.2.1) = (s4.2.1) then
 (some (.inl ((s4.1) + 0, (s4.2.1) + 1, s4.2.2)))
 else ((Mo_goes (s4.2.2) (s2.2.1) (s4.2.1)).bind fun r6 =>
  if (r6.1) = true then
 (some (.inl ((s4.1) + 0, (s4.2.1) + 1, r6.2)))
 else (some (.inl ((s4.1) + 1, (s4.2.1) + 1, r6.2)))))
noncomputable def Mo_lostPairs_l8  (s2 : Int32 × Int32 × Mm) : Option ((Int32 × Int32 × Mm) ⊕ (Int32 × Mm)) :=
  if ((s2.2.2).1 0 0) ≤ (s2.2.1) then
 (some (.inr (s2.1, s2.2.2)))
 else ((iter (Mo_lostPairs_l18 s2) (s2.1, 0, s2.2.2)).bind fun e5 =>
  some (.inl (e5.1, (s2.2.1) + 1, e5.2)))
noncomputable def Mo_lostPairs (m : Mm) : Option (Int32 × Mm) :=
  (Mo_layLand m).bind fun r1 =>
  (iter (Mo_lostPairs_l8) (0, 0, r1)).bind fun e3 =>
  some (e3.1, e3.2)
set_option maxRecDepth 20000 in
set_option maxHeartbeats 4000000 in
theorem Mo_lostPairs_ok {G : Gw} (hG : gOk G) (hs : gsh G = shM) {m : Mm} {P : Option Value → Mm → Prop} (h : mjO (Mo_lostPairs m) (fun r => P (some (.int r.1)) r.2)) : mjR G 5 yX7_lostPairs cX7_lostPairs 4 (some .int) [.ref (gr G 0)] m P := by
  refine mjR_of hG (by decide) (Nat.le_of_ble_eq_true rfl) ?_
  intro X F
  have F : mjF G X cX7_lostPairs RX7 4 5 (some .int) := F
  show mjV G X 4 0 [(0, .ref (gr G 0))] [] m P
  unfold Mo_lostPairs at h
  refine vAloadN F dX7_lostPairs_0 (k := 0) rfl ?_
  refine vCallV F (d' := 4) (x := 0) (T := TX7) (N := 61) (As := []) (st := []) dX7_lostPairs_1 lk_X7_294 my_X7_layLand mv_X7_layLand (cqM_0 hs) rfl (by decide) rfl rfl (Nat.le_of_ble_eq_true rfl) (Mo_layLand_ok hG hs (okB h fun r1 h => ?_))
  show mjV G X 4 4 [(0, .ref (gr G 0))] [] r1 P
  refine vIconst F (v := 0) dX7_lostPairs_4 k_0 ?_
  refine vIstoreN F (L' := [(1, .int 0), (0, .ref (gr G 0))]) dX7_lostPairs_5 rfl (by decide) rfl ?_
  refine vIconst F (v := 0) dX7_lostPairs_6 k_0 ?_
  refine vIstoreN F (L' := [(2, .int 0), (1, .int 0), (0, .ref (gr G 0))]) dX7_lostPairs_7 rfl (by decide) rfl ?_
  refine vSub [2, 1, 0] rfl ?_
  refine okLoop (s0 := (0, 0, r1)) (T := (fun (s2 : Int32 × Int32 × Mm) => mjV G X 4 8 [(0, .ref (gr G 0)), (1, .int (s2.1)), (2, .int (s2.2.1))] [] (s2.2.2) P)) (Ve := (fun (e3 : Int32 × Mm) => mjV G X 4 60 [(1, .int (e3.1))] [] (e3.2) P)) h ?_ (fun s2 h => ?_)
  · intro e3 h
    refine vIloadN F dX7_lostPairs_60 (k := 0) rfl ?_
    have z := okS h
    exact vIret F dX7_lostPairs_61 z
  · unfold Mo_lostPairs_l8 at h
    refine vIloadN F dX7_lostPairs_8 (k := 2) rfl ?_
    refine vAloadN F dX7_lostPairs_9 (k := 0) rfl ?_
    refine vGetI F dX7_lostPairs_10 fa_X7_7 (cqM_0 hs) rfl ?_
    refine vIcmpGe F (tgt := 60) dX7_lostPairs_13 (by decide) (fun c11 => ?_) (fun c11 => ?_)
    · replace h := okT h c11
      refine vSub [1] rfl ?_
      have z := okR h
      exact z
    · replace h := okF h c11
      refine vIconst F (v := 0) dX7_lostPairs_16 k_0 ?_
      refine vIstoreN F (L' := [(3, .int 0), (0, .ref (gr G 0)), (1, .int (s2.1)), (2, .int (s2.2.1))]) dX7_lostPairs_17 rfl (by decide) rfl ?_
      refine vSub [1, 2, 3, 0] rfl ?_
      refine okLoop (s0 := (s2.1, 0, s2.2.2)) (T := (fun (s4 : Int32 × Int32 × Mm) => mjV G X 4 18 [(0, .ref (gr G 0)), (1, .int (s4.1)), (2, .int (s2.2.1)), (3, .int (s4.2.1))] [] (s4.2.2) P)) (Ve := (fun (e5 : Int32 × Mm) => mjV G X 4 54 [(0, .ref (gr G 0)), (1, .int (e5.1)), (2, .int (s2.2.1))] [] (e5.2) P)) h ?_ (fun s4 h => ?_)
      · intro e5 h
        refine vIinc F (v := 1) (k := 2) (L' := [(2, .int ((s2.2.1) + 1)), (0, .ref (gr G 0)), (1, .int (e5.1))]) dX7_lostPairs_54 rfl k_1 (by decide) rfl ?_
        refine vGoto F (tgt := 8) dX7_lostPairs_57 (by decide) ?_
        refine vSub [1, 2, 0] rfl ?_
        have z := okL h
        exact z
      · unfold Mo_lostPairs_l18 at h
        refine vIloadN F dX7_lostPairs_18 (k := 3) rfl ?_
        refine vAloadN F dX7_lostPairs_19 (k := 0) rfl ?_
        refine vGetI F dX7_lostPairs_20 fa_X7_7 (cqM_0 hs) rfl ?_
        refine vIcmpGe F (tgt := 54) dX7_lostPairs_23 (by decide) (fun c9 => ?_) (fun c9 => ?_)
        · replace h := okT h c9
          refine vSub [0, 1, 2] rfl ?_
          have z := okR h
          exact z
        · replace h := okF h c9
          refine vIloadN F dX7_lostPairs_26 (k := 1) rfl ?_
          refine vIloadN F dX7_lostPairs_27 (k := 2) rfl ?_
          refine vIloadN F dX7_lostPairs_28 (k := 3) rfl ?_
          refine vIcmpEq F (tgt := 41) dX7_lostPairs_29 (by decide) (fun c8 => ?_) (fun c8 => ?_)
          · replace h := okT h c8
            refine vIconst F (v := 0) dX7_lostPairs_41 k_0 ?_
            refine vGoto F (tgt := 46) dX7_lostPairs_42 (by decide) ?_
            refine vIadd F dX7_lostPairs_46 ?_
            refine vIstoreN F (L' := [(1, .int ((s4.1) + 0)), (0, .ref (gr G 0)), (2, .int (s2.2.1)), (3, .int (s4.2.1))]) dX7_lostPairs_47 rfl (by decide) rfl ?_
            refine vIinc F (v := 1) (k := 3) (L' := [(3, .int ((s4.2.1) + 1)), (1, .int ((s4.1) + 0)), (0, .ref (gr G 0)), (2, .int (s2.2.1))]) dX7_lostPairs_48 rfl k_1 (by decide) rfl ?_
            refine vGoto F (tgt := 18) dX7_lostPairs_51 (by decide) ?_
            refine vSub [2, 1, 3, 0] rfl ?_
            have z := okL h
            exact z
          · replace h := okF h c8
            refine vAloadN F dX7_lostPairs_32 (k := 0) rfl ?_
            refine vIloadN F dX7_lostPairs_33 (k := 2) rfl ?_
            refine vIloadN F dX7_lostPairs_34 (k := 3) rfl ?_
            refine vCallV F (d' := 4) (x := 0) (T := TX7) (N := 61) (As := [.int (s2.2.1), .int (s4.2.1)]) (st := [.int (s4.1)]) dX7_lostPairs_35 lk_X7_321 my_X7_goes mv_X7_goes (cqM_0 hs) rfl (by decide) rfl rfl (Nat.le_of_ble_eq_true rfl) (Mo_goes_ok hG hs (okB h fun r6 h => ?_))
            show mjV G X 4 38 [(0, .ref (gr G 0)), (1, .int (s4.1)), (2, .int (s2.2.1)), (3, .int (s4.2.1))] [.int (bI (r6.1)), .int (s4.1)] (r6.2) P
            refine vIfEqB F (tgt := 45) dX7_lostPairs_38 (by decide) (fun c7 => ?_) (fun c7 => ?_)
            · replace h := okF h c7
              refine vIconst F (v := 1) dX7_lostPairs_45 k_1 ?_
              refine vIadd F dX7_lostPairs_46 ?_
              refine vIstoreN F (L' := [(1, .int ((s4.1) + 1)), (0, .ref (gr G 0)), (2, .int (s2.2.1)), (3, .int (s4.2.1))]) dX7_lostPairs_47 rfl (by decide) rfl ?_
              refine vIinc F (v := 1) (k := 3) (L' := [(3, .int ((s4.2.1) + 1)), (1, .int ((s4.1) + 1)), (0, .ref (gr G 0)), (2, .int (s2.2.1))]) dX7_lostPairs_48 rfl k_1 (by decide) rfl ?_
              refine vGoto F (tgt := 18) dX7_lostPairs_51 (by decide) ?_
              refine vSub [2, 1, 3, 0] rfl ?_
              have z := okL h
              exact z
            · replace h := okT h c7
              refine vIconst F (v := 0) dX7_lostPairs_41 k_0 ?_
              refine vGoto F (tgt := 46) dX7_lostPairs_42 (by decide) ?_
              refine vIadd F dX7_lostPairs_46 ?_
              refine vIstoreN F (L' := [(1, .int ((s4.1) + 0)), (0, .ref (gr G 0)), (2, .int (s2.2.1)), (3, .int (s4.2.1))]) dX7_lostPairs_47 rfl (by decide) rfl ?_
              refine vIinc F (v := 1) (k := 3) (L' := [(3, .int ((s4.2.1) + 1)), (1, .int ((s4.1) + 0)), (0, .ref (gr G 0)), (2, .int (s2.2.1))]) dX7_lostPairs_48 rfl k_1 (by decide) rfl ?_
              refine vGoto F (tgt := 18) dX7_lostPairs_51 (by decide) ?_
              refine vSub [2, 1, 3, 0] rfl ?_
              have z := okL h
              exact z
noncomputable def Mo_lostMany_l8  (s2 : Int32 × Int32 × Mm) : Option ((Int32 × Int32 × Mm) ⊕ (Int32 × Mm)) :=
  if ((s2.2.2).1 0 1) ≤ (s2.2.1) then
 (some (.inr (s2.1, s2.2.2)))
 else (ga (s2.2.1) 8 (ga (s2.2.1) 8 ((Mo_goes (s2.2.2) ((s2.2.2).1 6 (s2.2.1).toNatClampNeg) ((s2.2.2).1 7 (s2.2.1).toNatClampNeg)).bind fun r6 =>
  if (r6.1) = true then
 (some (.inl ((s2.1) + 0, (s2.2.1) + 1, r6.2)))
 else (ga (s2.2.1) 8 (some (.inl ((s2.1) + ((r6.2).1 8 (s2.2.1).toNatClampNeg), (s2.2.1) + 1, r6.2)))))))
noncomputable def Mo_lostMany (m : Mm) : Option (Int32 × Mm) :=
  (Mo_layLand m).bind fun r1 =>
  (iter (Mo_lostMany_l8) (0, 0, r1)).bind fun e3 =>
  some (e3.1, e3.2)
set_option maxRecDepth 20000 in
set_option maxHeartbeats 4000000 in
theorem Mo_lostMany_ok {G : Gw} (hG : gOk G) (hs : gsh G = shM) {m : Mm} {P : Option Value → Mm → Prop} (h : mjO (Mo_lostMany m) (fun r => P (some (.int r.1)) r.2)) : mjR G 5 yX7_lostMany cX7_lostMany 3 (some .int) [.ref (gr G 0)] m P := by
  refine mjR_of hG (by decide) (Nat.le_of_ble_eq_true rfl) ?_
  intro X F
  have F : mjF G X cX7_lostMany RX7 3 5 (some .int) := F
  show mjV G X 3 0 [(0, .ref (gr G 0))] [] m P
  unfold Mo_lostMany at h
  refine vAloadN F dX7_lostMany_0 (k := 0) rfl ?_
  refine vCallV F (d' := 4) (x := 0) (T := TX7) (N := 61) (As := []) (st := []) dX7_lostMany_1 lk_X7_294 my_X7_layLand mv_X7_layLand (cqM_0 hs) rfl (by decide) rfl rfl (Nat.le_of_ble_eq_true rfl) (Mo_layLand_ok hG hs (okB h fun r1 h => ?_))
  show mjV G X 3 4 [(0, .ref (gr G 0))] [] r1 P
  refine vIconst F (v := 0) dX7_lostMany_4 k_0 ?_
  refine vIstoreN F (L' := [(1, .int 0), (0, .ref (gr G 0))]) dX7_lostMany_5 rfl (by decide) rfl ?_
  refine vIconst F (v := 0) dX7_lostMany_6 k_0 ?_
  refine vIstoreN F (L' := [(2, .int 0), (1, .int 0), (0, .ref (gr G 0))]) dX7_lostMany_7 rfl (by decide) rfl ?_
  refine vSub [2, 1, 0] rfl ?_
  refine okLoop (s0 := (0, 0, r1)) (T := (fun (s2 : Int32 × Int32 × Mm) => mjV G X 3 8 [(0, .ref (gr G 0)), (1, .int (s2.1)), (2, .int (s2.2.1))] [] (s2.2.2) P)) (Ve := (fun (e3 : Int32 × Mm) => mjV G X 3 54 [(1, .int (e3.1))] [] (e3.2) P)) h ?_ (fun s2 h => ?_)
  · intro e3 h
    refine vIloadN F dX7_lostMany_54 (k := 0) rfl ?_
    have z := okS h
    exact vIret F dX7_lostMany_55 z
  · unfold Mo_lostMany_l8 at h
    refine vIloadN F dX7_lostMany_8 (k := 2) rfl ?_
    refine vAloadN F dX7_lostMany_9 (k := 0) rfl ?_
    refine vGetI F dX7_lostMany_10 fa_X7_13 (cqM_0 hs) rfl ?_
    refine vIcmpGe F (tgt := 54) dX7_lostMany_13 (by decide) (fun c9 => ?_) (fun c9 => ?_)
    · replace h := okT h c9
      refine vSub [1] rfl ?_
      have z := okR h
      exact z
    · replace h := okF h c9
      refine vIloadN F dX7_lostMany_16 (k := 1) rfl ?_
      refine vAloadN F dX7_lostMany_17 (k := 0) rfl ?_
      refine vAloadN F dX7_lostMany_18 (k := 0) rfl ?_
      refine vGetR F (t := 6) dX7_lostMany_19 fa_X7_32 (cqM_0 hs) rfl ?_
      refine vIloadN F dX7_lostMany_22 (k := 2) rfl ?_
      obtain ⟨g4, h⟩ := okga h
      refine vIald F dX7_lostMany_23 (cqM_6 hs) g4 ?_
      refine vAloadN F dX7_lostMany_24 (k := 0) rfl ?_
      refine vGetR F (t := 7) dX7_lostMany_25 fa_X7_35 (cqM_0 hs) rfl ?_
      refine vIloadN F dX7_lostMany_28 (k := 2) rfl ?_
      obtain ⟨g5, h⟩ := okga h
      refine vIald F dX7_lostMany_29 (cqM_7 hs) g5 ?_
      refine vCallV F (d' := 4) (x := 0) (T := TX7) (N := 61) (As := [.int ((s2.2.2).1 6 (s2.2.1).toNatClampNeg), .int ((s2.2.2).1 7 (s2.2.1).toNatClampNeg)]) (st := [.int (s2.1)]) dX7_lostMany_30 lk_X7_321 my_X7_goes mv_X7_goes (cqM_0 hs) rfl (by decide) rfl rfl (Nat.le_of_ble_eq_true rfl) (Mo_goes_ok hG hs (okB h fun r6 h => ?_))
      show mjV G X 3 33 [(0, .ref (gr G 0)), (1, .int (s2.1)), (2, .int (s2.2.1))] [.int (bI (r6.1)), .int (s2.1)] (r6.2) P
      refine vIfEqB F (tgt := 40) dX7_lostMany_33 (by decide) (fun c8 => ?_) (fun c8 => ?_)
      · replace h := okF h c8
        refine vAloadN F dX7_lostMany_40 (k := 0) rfl ?_
        refine vGetR F (t := 8) dX7_lostMany_41 fa_X7_38 (cqM_0 hs) rfl ?_
        refine vIloadN F dX7_lostMany_44 (k := 2) rfl ?_
        obtain ⟨g7, h⟩ := okga h
        refine vIald F dX7_lostMany_45 (cqM_8 hs) g7 ?_
        refine vIadd F dX7_lostMany_46 ?_
        refine vIstoreN F (L' := [(1, .int ((s2.1) + ((r6.2).1 8 (s2.2.1).toNatClampNeg))), (0, .ref (gr G 0)), (2, .int (s2.2.1))]) dX7_lostMany_47 rfl (by decide) rfl ?_
        refine vIinc F (v := 1) (k := 2) (L' := [(2, .int ((s2.2.1) + 1)), (1, .int ((s2.1) + ((r6.2).1 8 (s2.2.1).toNatClampNeg))), (0, .ref (gr G 0))]) dX7_lostMany_48 rfl k_1 (by decide) rfl ?_
        refine vGoto F (tgt := 8) dX7_lostMany_51 (by decide) ?_
        refine vSub [2, 1, 0] rfl ?_
        have z := okL h
        exact z
      · replace h := okT h c8
        refine vIconst F (v := 0) dX7_lostMany_36 k_0 ?_
        refine vGoto F (tgt := 46) dX7_lostMany_37 (by decide) ?_
        refine vIadd F dX7_lostMany_46 ?_
        refine vIstoreN F (L' := [(1, .int ((s2.1) + 0)), (0, .ref (gr G 0)), (2, .int (s2.2.1))]) dX7_lostMany_47 rfl (by decide) rfl ?_
        refine vIinc F (v := 1) (k := 2) (L' := [(2, .int ((s2.2.1) + 1)), (1, .int ((s2.1) + 0)), (0, .ref (gr G 0))]) dX7_lostMany_48 rfl k_1 (by decide) rfl ?_
        refine vGoto F (tgt := 8) dX7_lostMany_51 (by decide) ?_
        refine vSub [2, 1, 0] rfl ?_
        have z := okL h
        exact z
noncomputable def Mo_lost (m : Mm) (a1 : Int32) : Option (Int32 × Mm) :=
  if a1 = 0 then
 ((Mo_lostMany m).bind fun r3 =>
  some (r3.1, r3.2))
 else (if a1 = 1 then
 ((Mo_lostPairs m).bind fun r1 =>
  some (r1.1, r1.2))
 else (some ((-1), m)))
set_option maxRecDepth 20000 in
set_option maxHeartbeats 4000000 in
theorem Mo_lost_ok {G : Gw} (hG : gOk G) (hs : gsh G = shM) {a1 : Int32} {m : Mm} {P : Option Value → Mm → Prop} (h : mjO (Mo_lost m a1) (fun r => P (some (.int r.1)) r.2)) : mjR G 6 yX7_lost cX7_lost 2 (some .int) [.ref (gr G 0), .int a1] m P := by
  refine mjR_of hG (by decide) (Nat.le_of_ble_eq_true rfl) ?_
  intro X F
  have F : mjF G X cX7_lost RX7 2 6 (some .int) := F
  show mjV G X 2 0 [(0, .ref (gr G 0)), (1, .int a1)] [] m P
  unfold Mo_lost at h
  refine vIloadN F dX7_lost_0 (k := 1) rfl ?_
  refine vIfNe F (tgt := 11) dX7_lost_1 (by decide) (fun c4 => ?_) (fun c4 => ?_)
  · replace h := okF h c4
    refine vIloadN F dX7_lost_11 (k := 1) rfl ?_
    refine vIconst F (v := 1) dX7_lost_12 k_1 ?_
    refine vIcmpNe F (tgt := 23) dX7_lost_13 (by decide) (fun c2 => ?_) (fun c2 => ?_)
    · replace h := okF h c2
      refine vIconst F (v := (-1)) dX7_lost_23 k_m1 ?_
      have z := okS h
      exact vIret F dX7_lost_24 z
    · replace h := okT h c2
      refine vAloadN F dX7_lost_16 (k := 0) rfl ?_
      refine vCallV F (d' := 5) (x := 0) (T := TX7) (N := 61) (As := []) (st := []) dX7_lost_17 lk_X7_327 my_X7_lostPairs mv_X7_lostPairs (cqM_0 hs) rfl (by decide) rfl rfl (Nat.le_of_ble_eq_true rfl) (Mo_lostPairs_ok hG hs (okB h fun r1 h => ?_))
      show mjV G X 2 20 [(0, .ref (gr G 0)), (1, .int a1)] [.int (r1.1)] (r1.2) P
      refine vGoto F (tgt := 24) dX7_lost_20 (by decide) ?_
      have z := okS h
      exact vIret F dX7_lost_24 z
  · replace h := okT h c4
    refine vAloadN F dX7_lost_4 (k := 0) rfl ?_
    refine vCallV F (d' := 5) (x := 0) (T := TX7) (N := 61) (As := []) (st := []) dX7_lost_5 lk_X7_324 my_X7_lostMany mv_X7_lostMany (cqM_0 hs) rfl (by decide) rfl rfl (Nat.le_of_ble_eq_true rfl) (Mo_lostMany_ok hG hs (okB h fun r3 h => ?_))
    show mjV G X 2 8 [(0, .ref (gr G 0)), (1, .int a1)] [.int (r3.1)] (r3.2) P
    refine vGoto F (tgt := 24) dX7_lost_8 (by decide) ?_
    have z := okS h
    exact vIret F dX7_lost_24 z
noncomputable def Mo_longest_l36 (s2 : Int32 × Int32 × Int32 × Mm) (s4 : Int32 × Int32 × Int32 × Mm) : Option ((Int32 × Int32 × Int32 × Mm) ⊕ (Int32 × Int32 × Mm)) :=
  if ((s4.2.2.2).1 0 0) ≤ (s4.2.2.1) then
 (some (.inr (s4.1, s4.2.1, s4.2.2.2)))
 else (if (s2.2.2.1) = (s4.2.2.1) then
 (some (.inl (s4.1, s4.2.1, (s4.2.2.1) + 1, s4.2.2.2)))
 else ((Mo_goes (s4.2.2.2) (s2.2.2.1) (s4.2.2.1)).bind fun r6 =>
  if (r6.1) = true then
 (if (s4.1) < ((r6.2).1 0 34) then
 (some (.inl ((r6.2).1 0 34, (10 * (s2.2.2.1)) + (s4.2.2.1), (s4.2.2.1) + 1, r6.2)))
 else (some (.inl (s4.1, s4.2.1, (s4.2.2.1) + 1, r6.2))))
 else (some (.inl (s4.1, s4.2.1, (s4.2.2.1) + 1, r6.2)))))
noncomputable def Mo_longest_l24  (s2 : Int32 × Int32 × Int32 × Mm) : Option ((Int32 × Int32 × Int32 × Mm) ⊕ (Int32 × Int32 × Mm)) :=
  if ((s2.2.2.2).1 0 0) ≤ (s2.2.2.1) then
 (some (.inr (s2.1, s2.2.1, s2.2.2.2)))
 else ((iter (Mo_longest_l36 s2) (s2.1, s2.2.1, 0, s2.2.2.2)).bind fun e5 =>
  some (.inl (e5.1, e5.2.1, (s2.2.2.1) + 1, e5.2.2)))
noncomputable def Mo_longest (m : Mm) (a1 : Int32) : Option (Int32 × Mm) :=
  if (Mo_in a1 0 1) = true then
 ((Mo_layLand m).bind fun r1 =>
  (iter (Mo_longest_l24) (0, (-5), 0, r1)).bind fun e3 =>
  if a1 = 0 then
 (some (e3.1, e3.2.2))
 else (some (e3.2.1, e3.2.2)))
 else (some ((-1), m))
set_option maxRecDepth 20000 in
set_option maxHeartbeats 4000000 in
theorem Mo_longest_ok {G : Gw} (hG : gOk G) (hs : gsh G = shM) {a1 : Int32} {m : Mm} {P : Option Value → Mm → Prop} (h : mjO (Mo_longest m a1) (fun r => P (some (.int r.1)) r.2)) : mjR G 5 yX7_longest cX7_longest 6 (some .int) [.ref (gr G 0), .int a1] m P := by
  refine mjR_of hG (by decide) (Nat.le_of_ble_eq_true rfl) ?_
  intro X F
  have F : mjF G X cX7_longest RX7 6 5 (some .int) := F
  show mjV G X 6 0 [(0, .ref (gr G 0)), (1, .int a1)] [] m P
  unfold Mo_longest at h
  refine vAloadN F dX7_longest_0 (k := 0) rfl ?_
  refine vIloadN F dX7_longest_1 (k := 1) rfl ?_
  refine vIconst F (v := 0) dX7_longest_2 k_0 ?_
  refine vIconst F (v := 1) dX7_longest_3 k_1 ?_
  refine vCallV F (d' := 0) (x := 0) (T := TX7) (N := 61) (As := [.int a1, .int 0, .int 1]) (st := []) dX7_longest_4 lk_X7_197 my_X7_in mv_X7_in (cqM_0 hs) rfl (by decide) rfl rfl (Nat.le_of_ble_eq_true rfl) (Mo_in_ok hG hs ?_)
  show mjV G X 6 7 [(0, .ref (gr G 0)), (1, .int a1)] [.int (bI (Mo_in a1 0 1))] m P
  refine vIfNeB F (tgt := 12) dX7_longest_7 (by decide) (fun c15 => ?_) (fun c15 => ?_)
  · replace h := okT h c15
    refine vAloadN F dX7_longest_12 (k := 0) rfl ?_
    refine vCallV F (d' := 4) (x := 0) (T := TX7) (N := 61) (As := []) (st := []) dX7_longest_13 lk_X7_294 my_X7_layLand mv_X7_layLand (cqM_0 hs) rfl (by decide) rfl rfl (Nat.le_of_ble_eq_true rfl) (Mo_layLand_ok hG hs (okB h fun r1 h => ?_))
    show mjV G X 6 16 [(0, .ref (gr G 0)), (1, .int a1)] [] r1 P
    refine vIconst F (v := 0) dX7_longest_16 k_0 ?_
    refine vIstoreN F (L' := [(2, .int 0), (0, .ref (gr G 0)), (1, .int a1)]) dX7_longest_17 rfl (by decide) rfl ?_
    refine vBipush F (v := (-5)) dX7_longest_18 kb_m5 ?_
    refine vIstoreN F (L' := [(3, .int (-5)), (2, .int 0), (0, .ref (gr G 0)), (1, .int a1)]) dX7_longest_20 rfl (by decide) rfl ?_
    refine vIconst F (v := 0) dX7_longest_21 k_0 ?_
    refine vIstore F (L' := [(4, .int 0), (3, .int (-5)), (2, .int 0), (0, .ref (gr G 0)), (1, .int a1)]) dX7_longest_22 (by decide) rfl ?_
    refine vSub [3, 4, 2, 1, 0] rfl ?_
    refine okLoop (s0 := (0, (-5), 0, r1)) (T := (fun (s2 : Int32 × Int32 × Int32 × Mm) => mjV G X 6 24 [(0, .ref (gr G 0)), (1, .int a1), (2, .int (s2.1)), (3, .int (s2.2.1)), (4, .int (s2.2.2.1))] [] (s2.2.2.2) P)) (Ve := (fun (e3 : Int32 × Int32 × Mm) => mjV G X 6 100 [(1, .int a1), (2, .int (e3.1)), (3, .int (e3.2.1))] [] (e3.2.2) P)) h ?_ (fun s2 h => ?_)
    · intro e3 h
      refine vIloadN F dX7_longest_100 (k := 0) rfl ?_
      refine vIfNe F (tgt := 108) dX7_longest_101 (by decide) (fun c13 => ?_) (fun c13 => ?_)
      · replace h := okF h c13
        refine vIloadN F dX7_longest_108 (k := 2) rfl ?_
        have z := okS h
        exact vIret F dX7_longest_109 z
      · replace h := okT h c13
        refine vIloadN F dX7_longest_104 (k := 1) rfl ?_
        refine vGoto F (tgt := 109) dX7_longest_105 (by decide) ?_
        have z := okS h
        exact vIret F dX7_longest_109 z
    · unfold Mo_longest_l24 at h
      refine vIload F dX7_longest_24 (k := 4) rfl ?_
      refine vAloadN F dX7_longest_26 (k := 0) rfl ?_
      refine vGetI F dX7_longest_27 fa_X7_7 (cqM_0 hs) rfl ?_
      refine vIcmpGe F (tgt := 100) dX7_longest_30 (by decide) (fun c12 => ?_) (fun c12 => ?_)
      · replace h := okT h c12
        refine vSub [1, 2, 3] rfl ?_
        have z := okR h
        exact z
      · replace h := okF h c12
        refine vIconst F (v := 0) dX7_longest_33 k_0 ?_
        refine vIstore F (L' := [(5, .int 0), (0, .ref (gr G 0)), (1, .int a1), (2, .int (s2.1)), (3, .int (s2.2.1)), (4, .int (s2.2.2.1))]) dX7_longest_34 (by decide) rfl ?_
        refine vSub [1, 2, 3, 4, 5, 0] rfl ?_
        refine okLoop (s0 := (s2.1, s2.2.1, 0, s2.2.2.2)) (T := (fun (s4 : Int32 × Int32 × Int32 × Mm) => mjV G X 6 36 [(0, .ref (gr G 0)), (1, .int a1), (2, .int (s4.1)), (3, .int (s4.2.1)), (4, .int (s2.2.2.1)), (5, .int (s4.2.2.1))] [] (s4.2.2.2) P)) (Ve := (fun (e5 : Int32 × Int32 × Mm) => mjV G X 6 94 [(0, .ref (gr G 0)), (1, .int a1), (2, .int (e5.1)), (3, .int (e5.2.1)), (4, .int (s2.2.2.1))] [] (e5.2.2) P)) h ?_ (fun s4 h => ?_)
        · intro e5 h
          refine vIinc F (v := 1) (k := 4) (L' := [(4, .int ((s2.2.2.1) + 1)), (0, .ref (gr G 0)), (1, .int a1), (2, .int (e5.1)), (3, .int (e5.2.1))]) dX7_longest_94 rfl k_1 (by decide) rfl ?_
          refine vGoto F (tgt := 24) dX7_longest_97 (by decide) ?_
          refine vSub [1, 2, 3, 4, 0] rfl ?_
          have z := okL h
          exact z
        · unfold Mo_longest_l36 at h
          refine vIload F dX7_longest_36 (k := 5) rfl ?_
          refine vAloadN F dX7_longest_38 (k := 0) rfl ?_
          refine vGetI F dX7_longest_39 fa_X7_7 (cqM_0 hs) rfl ?_
          refine vIcmpGe F (tgt := 94) dX7_longest_42 (by decide) (fun c10 => ?_) (fun c10 => ?_)
          · replace h := okT h c10
            refine vSub [0, 1, 2, 3, 4] rfl ?_
            have z := okR h
            exact z
          · replace h := okF h c10
            refine vIload F dX7_longest_45 (k := 4) rfl ?_
            refine vIload F dX7_longest_47 (k := 5) rfl ?_
            refine vIcmpEq F (tgt := 88) dX7_longest_49 (by decide) (fun c9 => ?_) (fun c9 => ?_)
            · replace h := okT h c9
              refine vIinc F (v := 1) (k := 5) (L' := [(5, .int ((s4.2.2.1) + 1)), (0, .ref (gr G 0)), (1, .int a1), (2, .int (s4.1)), (3, .int (s4.2.1)), (4, .int (s2.2.2.1))]) dX7_longest_88 rfl k_1 (by decide) rfl ?_
              refine vGoto F (tgt := 36) dX7_longest_91 (by decide) ?_
              refine vSub [1, 2, 3, 4, 5, 0] rfl ?_
              have z := okL h
              exact z
            · replace h := okF h c9
              refine vAloadN F dX7_longest_52 (k := 0) rfl ?_
              refine vIload F dX7_longest_53 (k := 4) rfl ?_
              refine vIload F dX7_longest_55 (k := 5) rfl ?_
              refine vCallV F (d' := 4) (x := 0) (T := TX7) (N := 61) (As := [.int (s2.2.2.1), .int (s4.2.2.1)]) (st := []) dX7_longest_57 lk_X7_321 my_X7_goes mv_X7_goes (cqM_0 hs) rfl (by decide) rfl rfl (Nat.le_of_ble_eq_true rfl) (Mo_goes_ok hG hs (okB h fun r6 h => ?_))
              show mjV G X 6 60 [(0, .ref (gr G 0)), (1, .int a1), (2, .int (s4.1)), (3, .int (s4.2.1)), (4, .int (s2.2.2.1)), (5, .int (s4.2.2.1))] [.int (bI (r6.1))] (r6.2) P
              refine vIfEqB F (tgt := 88) dX7_longest_60 (by decide) (fun c8 => ?_) (fun c8 => ?_)
              · replace h := okF h c8
                refine vIinc F (v := 1) (k := 5) (L' := [(5, .int ((s4.2.2.1) + 1)), (0, .ref (gr G 0)), (1, .int a1), (2, .int (s4.1)), (3, .int (s4.2.1)), (4, .int (s2.2.2.1))]) dX7_longest_88 rfl k_1 (by decide) rfl ?_
                refine vGoto F (tgt := 36) dX7_longest_91 (by decide) ?_
                refine vSub [1, 2, 3, 4, 5, 0] rfl ?_
                have z := okL h
                exact z
              · replace h := okT h c8
                refine vAloadN F dX7_longest_63 (k := 0) rfl ?_
                refine vGetI F dX7_longest_64 fa_X7_114 (cqM_0 hs) rfl ?_
                refine vIloadN F dX7_longest_67 (k := 2) rfl ?_
                refine vIcmpGt F (tgt := 74) dX7_longest_68 (by decide) (fun c7 => ?_) (fun c7 => ?_)
                · replace h := okT h c7
                  refine vAloadN F dX7_longest_74 (k := 0) rfl ?_
                  refine vGetI F dX7_longest_75 fa_X7_114 (cqM_0 hs) rfl ?_
                  refine vIstoreN F (L' := [(2, .int ((r6.2).1 0 34)), (0, .ref (gr G 0)), (1, .int a1), (3, .int (s4.2.1)), (4, .int (s2.2.2.1)), (5, .int (s4.2.2.1))]) dX7_longest_78 rfl (by decide) rfl ?_
                  refine vBipush F (v := 10) dX7_longest_79 kb_10 ?_
                  refine vIload F dX7_longest_81 (k := 4) rfl ?_
                  refine vImul F dX7_longest_83 ?_
                  refine vIload F dX7_longest_84 (k := 5) rfl ?_
                  refine vIadd F dX7_longest_86 ?_
                  refine vIstoreN F (L' := [(3, .int ((10 * (s2.2.2.1)) + (s4.2.2.1))), (2, .int ((r6.2).1 0 34)), (0, .ref (gr G 0)), (1, .int a1), (4, .int (s2.2.2.1)), (5, .int (s4.2.2.1))]) dX7_longest_87 rfl (by decide) rfl ?_
                  refine vIinc F (v := 1) (k := 5) (L' := [(5, .int ((s4.2.2.1) + 1)), (3, .int ((10 * (s2.2.2.1)) + (s4.2.2.1))), (2, .int ((r6.2).1 0 34)), (0, .ref (gr G 0)), (1, .int a1), (4, .int (s2.2.2.1))]) dX7_longest_88 rfl k_1 (by decide) rfl ?_
                  refine vGoto F (tgt := 36) dX7_longest_91 (by decide) ?_
                  refine vSub [3, 4, 2, 1, 5, 0] rfl ?_
                  have z := okL h
                  exact z
                · replace h := okF h c7
                  refine vGoto F (tgt := 88) dX7_longest_71 (by decide) ?_
                  refine vIinc F (v := 1) (k := 5) (L' := [(5, .int ((s4.2.2.1) + 1)), (0, .ref (gr G 0)), (1, .int a1), (2, .int (s4.1)), (3, .int (s4.2.1)), (4, .int (s2.2.2.1))]) dX7_longest_88 rfl k_1 (by decide) rfl ?_
                  refine vGoto F (tgt := 36) dX7_longest_91 (by decide) ?_
                  refine vSub [1, 2, 3, 4, 5, 0] rfl ?_
                  have z := okL h
                  exact z
  · replace h := okF h c15
    refine vIconst F (v := (-1)) dX7_longest_10 k_m1 ?_
    have z := okS h
    exact vIret F dX7_longest_11 z
noncomputable def Mo_put_l35 (s1 : Int32 × Int32 × Int32 × Mm) (s3 : Int32 × Int32 × Int32 × Mm) : Option ((Int32 × Int32 × Int32 × Mm) ⊕ (Int32 × Int32 × Mm)) :=
  if ((s3.2.2.2).1 0 0) ≤ (s3.2.2.1) then
 (some (.inr (s3.1, s3.2.1, s3.2.2.2)))
 else (ga (s1.2.2.1) 7 (if (Mo_has ((s3.2.2.2).1 4 (s1.2.2.1).toNatClampNeg) (s3.2.2.1)) = true then
 (some (.inl (s3.1, s3.2.1, (s3.2.2.1) + 1, s3.2.2.2)))
 else (ga (s1.2.2.1) 7 ((Mo_ones ((s3.2.2.2).1 4 (s1.2.2.1).toNatClampNeg)).bind fun r7 =>
  (Mo_armsNow (s3.2.2.2)).bind fun r8 =>
  if r8 ≤ r7 then
 (some (.inl (s3.1, s3.2.1, (s3.2.2.1) + 1, s3.2.2.2)))
 else (ga (s3.2.2.1) 7 ((Mo_ones ((s3.2.2.2).1 4 (s3.2.2.1).toNatClampNeg)).bind fun r10 =>
  (Mo_armsNow (s3.2.2.2)).bind fun r11 =>
  if r10 < r11 then
 ((Mo_lays (s3.2.2.2) (s1.2.2.1) (s3.2.2.1) 1).bind fun r12 =>
  (Mo_lostPairs r12).bind fun r13 =>
  (Mo_lays (r13.2) (s1.2.2.1) (s3.2.2.1) 0).bind fun r14 =>
  jn (fun (e15 : Unit) => some (.inl ((10 * (s1.2.2.1)) + (s3.2.2.1), r13.1, (s3.2.2.1) + 1, r14))) fun j16 =>
  if (s3.1) < 0 then
 (j16 ())
 else (if (r13.1) < (s3.2.1) then
 (j16 ())
 else (some (.inl (s3.1, s3.2.1, (s3.2.2.1) + 1, r14)))))
 else (some (.inl (s3.1, s3.2.1, (s3.2.2.1) + 1, s3.2.2.2)))))))))
noncomputable def Mo_put_l20  (s1 : Int32 × Int32 × Int32 × Mm) : Option ((Int32 × Int32 × Int32 × Mm) ⊕ (Int32 × Int32 × Mm)) :=
  if ((s1.2.2.2).1 0 0) ≤ (s1.2.2.1) then
 (some (.inr (s1.1, s1.2.1, s1.2.2.2)))
 else ((iter (Mo_put_l35 s1) (s1.1, s1.2.1, (s1.2.2.1) + 1, s1.2.2.2)).bind fun e4 =>
  some (.inl (e4.1, e4.2.1, (s1.2.2.1) + 1, e4.2.2)))
noncomputable def Mo_put (m : Mm) (a1 : Int32) : Option (Int32 × Mm) :=
  if (Mo_in a1 0 1) = true then
 ((iter (Mo_put_l20) ((-5), 0, 0, m)).bind fun e2 =>
  if (e2.1) < 0 then
 (some (e2.1, e2.2.2))
 else (if a1 = 0 then
 (some (e2.1, e2.2.2))
 else (some (e2.2.1, e2.2.2))))
 else (some ((-1), m))
set_option maxRecDepth 20000 in
set_option maxHeartbeats 4000000 in
theorem Mo_put_ok {G : Gw} (hG : gOk G) (hs : gsh G = shM) {a1 : Int32} {m : Mm} {P : Option Value → Mm → Prop} (h : mjO (Mo_put m a1) (fun r => P (some (.int r.1)) r.2)) : mjR G 6 yX7_put cX7_put 7 (some .int) [.ref (gr G 0), .int a1] m P := by
  refine mjR_of hG (by decide) (Nat.le_of_ble_eq_true rfl) ?_
  intro X F
  have F : mjF G X cX7_put RX7 7 6 (some .int) := F
  show mjV G X 7 0 [(0, .ref (gr G 0)), (1, .int a1)] [] m P
  unfold Mo_put at h
  refine vAloadN F dX7_put_0 (k := 0) rfl ?_
  refine vIloadN F dX7_put_1 (k := 1) rfl ?_
  refine vIconst F (v := 0) dX7_put_2 k_0 ?_
  refine vIconst F (v := 1) dX7_put_3 k_1 ?_
  refine vCallV F (d' := 0) (x := 0) (T := TX7) (N := 61) (As := [.int a1, .int 0, .int 1]) (st := []) dX7_put_4 lk_X7_197 my_X7_in mv_X7_in (cqM_0 hs) rfl (by decide) rfl rfl (Nat.le_of_ble_eq_true rfl) (Mo_in_ok hG hs ?_)
  show mjV G X 7 7 [(0, .ref (gr G 0)), (1, .int a1)] [.int (bI (Mo_in a1 0 1))] m P
  refine vIfNeB F (tgt := 12) dX7_put_7 (by decide) (fun c28 => ?_) (fun c28 => ?_)
  · replace h := okT h c28
    refine vBipush F (v := (-5)) dX7_put_12 kb_m5 ?_
    refine vIstoreN F (L' := [(2, .int (-5)), (0, .ref (gr G 0)), (1, .int a1)]) dX7_put_14 rfl (by decide) rfl ?_
    refine vIconst F (v := 0) dX7_put_15 k_0 ?_
    refine vIstoreN F (L' := [(3, .int 0), (2, .int (-5)), (0, .ref (gr G 0)), (1, .int a1)]) dX7_put_16 rfl (by decide) rfl ?_
    refine vIconst F (v := 0) dX7_put_17 k_0 ?_
    refine vIstore F (L' := [(4, .int 0), (3, .int 0), (2, .int (-5)), (0, .ref (gr G 0)), (1, .int a1)]) dX7_put_18 (by decide) rfl ?_
    refine vSub [3, 4, 2, 1, 0] rfl ?_
    refine okLoop (s0 := ((-5), 0, 0, m)) (T := (fun (s1 : Int32 × Int32 × Int32 × Mm) => mjV G X 7 20 [(0, .ref (gr G 0)), (1, .int a1), (2, .int (s1.1)), (3, .int (s1.2.1)), (4, .int (s1.2.2.1))] [] (s1.2.2.2) P)) (Ve := (fun (e2 : Int32 × Int32 × Mm) => mjV G X 7 160 [(1, .int a1), (2, .int (e2.1)), (3, .int (e2.2.1))] [] (e2.2.2) P)) h ?_ (fun s1 h => ?_)
    · intro e2 h
      refine vIloadN F dX7_put_160 (k := 1) rfl ?_
      refine vIfLt F (tgt := 168) dX7_put_161 (by decide) (fun c26 => ?_) (fun c26 => ?_)
      · replace h := okT h c26
        refine vIloadN F dX7_put_168 (k := 1) rfl ?_
        refine vGoto F (tgt := 173) dX7_put_169 (by decide) ?_
        have z := okS h
        exact vIret F dX7_put_173 z
      · replace h := okF h c26
        refine vIloadN F dX7_put_164 (k := 0) rfl ?_
        refine vIfNe F (tgt := 172) dX7_put_165 (by decide) (fun c25 => ?_) (fun c25 => ?_)
        · replace h := okF h c25
          refine vIloadN F dX7_put_172 (k := 2) rfl ?_
          have z := okS h
          exact vIret F dX7_put_173 z
        · replace h := okT h c25
          refine vIloadN F dX7_put_168 (k := 1) rfl ?_
          refine vGoto F (tgt := 173) dX7_put_169 (by decide) ?_
          have z := okS h
          exact vIret F dX7_put_173 z
    · unfold Mo_put_l20 at h
      refine vIload F dX7_put_20 (k := 4) rfl ?_
      refine vAloadN F dX7_put_22 (k := 0) rfl ?_
      refine vGetI F dX7_put_23 fa_X7_7 (cqM_0 hs) rfl ?_
      refine vIcmpGe F (tgt := 160) dX7_put_26 (by decide) (fun c24 => ?_) (fun c24 => ?_)
      · replace h := okT h c24
        refine vSub [1, 2, 3] rfl ?_
        have z := okR h
        exact z
      · replace h := okF h c24
        refine vIload F dX7_put_29 (k := 4) rfl ?_
        refine vIconst F (v := 1) dX7_put_31 k_1 ?_
        refine vIadd F dX7_put_32 ?_
        refine vIstore F (L' := [(5, .int ((s1.2.2.1) + 1)), (0, .ref (gr G 0)), (1, .int a1), (2, .int (s1.1)), (3, .int (s1.2.1)), (4, .int (s1.2.2.1))]) dX7_put_33 (by decide) rfl ?_
        refine vSub [1, 2, 3, 4, 5, 0] rfl ?_
        refine okLoop (s0 := (s1.1, s1.2.1, (s1.2.2.1) + 1, s1.2.2.2)) (T := (fun (s3 : Int32 × Int32 × Int32 × Mm) => mjV G X 7 35 [(0, .ref (gr G 0)), (1, .int a1), (2, .int (s3.1)), (3, .int (s3.2.1)), (4, .int (s1.2.2.1)), (5, .int (s3.2.2.1))] [] (s3.2.2.2) P)) (Ve := (fun (e4 : Int32 × Int32 × Mm) => mjV G X 7 154 [(0, .ref (gr G 0)), (1, .int a1), (2, .int (e4.1)), (3, .int (e4.2.1)), (4, .int (s1.2.2.1))] [] (e4.2.2) P)) h ?_ (fun s3 h => ?_)
        · intro e4 h
          refine vIinc F (v := 1) (k := 4) (L' := [(4, .int ((s1.2.2.1) + 1)), (0, .ref (gr G 0)), (1, .int a1), (2, .int (e4.1)), (3, .int (e4.2.1))]) dX7_put_154 rfl k_1 (by decide) rfl ?_
          refine vGoto F (tgt := 20) dX7_put_157 (by decide) ?_
          refine vSub [1, 2, 3, 4, 0] rfl ?_
          have z := okL h
          exact z
        · unfold Mo_put_l35 at h
          refine vIload F dX7_put_35 (k := 5) rfl ?_
          refine vAloadN F dX7_put_37 (k := 0) rfl ?_
          refine vGetI F dX7_put_38 fa_X7_7 (cqM_0 hs) rfl ?_
          refine vIcmpGe F (tgt := 154) dX7_put_41 (by decide) (fun c22 => ?_) (fun c22 => ?_)
          · replace h := okT h c22
            refine vSub [0, 1, 2, 3, 4] rfl ?_
            have z := okR h
            exact z
          · replace h := okF h c22
            refine vAloadN F dX7_put_44 (k := 0) rfl ?_
            refine vAloadN F dX7_put_45 (k := 0) rfl ?_
            refine vGetR F (t := 4) dX7_put_46 fa_X7_26 (cqM_0 hs) rfl ?_
            refine vIload F dX7_put_49 (k := 4) rfl ?_
            obtain ⟨g5, h⟩ := okga h
            refine vIald F dX7_put_51 (cqM_4 hs) g5 ?_
            refine vIload F dX7_put_52 (k := 5) rfl ?_
            refine vCallV F (d' := 0) (x := 0) (T := TX7) (N := 61) (As := [.int ((s3.2.2.2).1 4 (s1.2.2.1).toNatClampNeg), .int (s3.2.2.1)]) (st := []) dX7_put_54 lk_X7_209 my_X7_has mv_X7_has (cqM_0 hs) rfl (by decide) rfl rfl (Nat.le_of_ble_eq_true rfl) (Mo_has_ok hG hs ?_)
            show mjV G X 7 57 [(0, .ref (gr G 0)), (1, .int a1), (2, .int (s3.1)), (3, .int (s3.2.1)), (4, .int (s1.2.2.1)), (5, .int (s3.2.2.1))] [.int (bI (Mo_has ((s3.2.2.2).1 4 (s1.2.2.1).toNatClampNeg) (s3.2.2.1)))] (s3.2.2.2) P
            refine vIfNeB F (tgt := 148) dX7_put_57 (by decide) (fun c21 => ?_) (fun c21 => ?_)
            · replace h := okT h c21
              refine vIinc F (v := 1) (k := 5) (L' := [(5, .int ((s3.2.2.1) + 1)), (0, .ref (gr G 0)), (1, .int a1), (2, .int (s3.1)), (3, .int (s3.2.1)), (4, .int (s1.2.2.1))]) dX7_put_148 rfl k_1 (by decide) rfl ?_
              refine vGoto F (tgt := 35) dX7_put_151 (by decide) ?_
              refine vSub [1, 2, 3, 4, 5, 0] rfl ?_
              have z := okL h
              exact z
            · replace h := okF h c21
              refine vAloadN F dX7_put_60 (k := 0) rfl ?_
              refine vAloadN F dX7_put_61 (k := 0) rfl ?_
              refine vGetR F (t := 4) dX7_put_62 fa_X7_26 (cqM_0 hs) rfl ?_
              refine vIload F dX7_put_65 (k := 4) rfl ?_
              obtain ⟨g6, h⟩ := okga h
              refine vIald F dX7_put_67 (cqM_4 hs) g6 ?_
              refine vCallV F (d' := 0) (x := 0) (T := TX7) (N := 61) (As := [.int ((s3.2.2.2).1 4 (s1.2.2.1).toNatClampNeg)]) (st := []) dX7_put_68 lk_X7_212 my_X7_ones mv_X7_ones (cqM_0 hs) rfl (by decide) rfl rfl (Nat.le_of_ble_eq_true rfl) (Mo_ones_ok hG hs (okB h fun r7 h => ?_))
              show mjV G X 7 71 [(0, .ref (gr G 0)), (1, .int a1), (2, .int (s3.1)), (3, .int (s3.2.1)), (4, .int (s1.2.2.1)), (5, .int (s3.2.2.1))] [.int r7] (s3.2.2.2) P
              refine vAloadN F dX7_put_71 (k := 0) rfl ?_
              refine vCallV F (d' := 1) (x := 0) (T := TX7) (N := 61) (As := []) (st := [.int r7]) dX7_put_72 lk_X7_216 my_X7_armsNow mv_X7_armsNow (cqM_0 hs) rfl (by decide) rfl rfl (Nat.le_of_ble_eq_true rfl) (Mo_armsNow_ok hG hs (okB h fun r8 h => ?_))
              show mjV G X 7 75 [(0, .ref (gr G 0)), (1, .int a1), (2, .int (s3.1)), (3, .int (s3.2.1)), (4, .int (s1.2.2.1)), (5, .int (s3.2.2.1))] [.int r8, .int r7] (s3.2.2.2) P
              refine vIcmpGe F (tgt := 148) dX7_put_75 (by decide) (fun c20 => ?_) (fun c20 => ?_)
              · replace h := okT h c20
                refine vIinc F (v := 1) (k := 5) (L' := [(5, .int ((s3.2.2.1) + 1)), (0, .ref (gr G 0)), (1, .int a1), (2, .int (s3.1)), (3, .int (s3.2.1)), (4, .int (s1.2.2.1))]) dX7_put_148 rfl k_1 (by decide) rfl ?_
                refine vGoto F (tgt := 35) dX7_put_151 (by decide) ?_
                refine vSub [1, 2, 3, 4, 5, 0] rfl ?_
                have z := okL h
                exact z
              · replace h := okF h c20
                refine vAloadN F dX7_put_78 (k := 0) rfl ?_
                refine vAloadN F dX7_put_79 (k := 0) rfl ?_
                refine vGetR F (t := 4) dX7_put_80 fa_X7_26 (cqM_0 hs) rfl ?_
                refine vIload F dX7_put_83 (k := 5) rfl ?_
                obtain ⟨g9, h⟩ := okga h
                refine vIald F dX7_put_85 (cqM_4 hs) g9 ?_
                refine vCallV F (d' := 0) (x := 0) (T := TX7) (N := 61) (As := [.int ((s3.2.2.2).1 4 (s3.2.2.1).toNatClampNeg)]) (st := []) dX7_put_86 lk_X7_212 my_X7_ones mv_X7_ones (cqM_0 hs) rfl (by decide) rfl rfl (Nat.le_of_ble_eq_true rfl) (Mo_ones_ok hG hs (okB h fun r10 h => ?_))
                show mjV G X 7 89 [(0, .ref (gr G 0)), (1, .int a1), (2, .int (s3.1)), (3, .int (s3.2.1)), (4, .int (s1.2.2.1)), (5, .int (s3.2.2.1))] [.int r10] (s3.2.2.2) P
                refine vAloadN F dX7_put_89 (k := 0) rfl ?_
                refine vCallV F (d' := 1) (x := 0) (T := TX7) (N := 61) (As := []) (st := [.int r10]) dX7_put_90 lk_X7_216 my_X7_armsNow mv_X7_armsNow (cqM_0 hs) rfl (by decide) rfl rfl (Nat.le_of_ble_eq_true rfl) (Mo_armsNow_ok hG hs (okB h fun r11 h => ?_))
                show mjV G X 7 93 [(0, .ref (gr G 0)), (1, .int a1), (2, .int (s3.1)), (3, .int (s3.2.1)), (4, .int (s1.2.2.1)), (5, .int (s3.2.2.1))] [.int r11, .int r10] (s3.2.2.2) P
                refine vIcmpLt F (tgt := 99) dX7_put_93 (by decide) (fun c19 => ?_) (fun c19 => ?_)
                · replace h := okT h c19
                  refine vAloadN F dX7_put_99 (k := 0) rfl ?_
                  refine vIload F dX7_put_100 (k := 4) rfl ?_
                  refine vIload F dX7_put_102 (k := 5) rfl ?_
                  refine vIconst F (v := 1) dX7_put_104 k_1 ?_
                  refine vCallV F (d' := 0) (x := 0) (T := TX7) (N := 61) (As := [.int (s1.2.2.1), .int (s3.2.2.1), .int 1]) (st := []) dX7_put_105 lk_X7_220 my_X7_lays mv_X7_lays (cqM_0 hs) rfl (by decide) rfl rfl (Nat.le_of_ble_eq_true rfl) (Mo_lays_ok hG hs (okB h fun r12 h => ?_))
                  show mjV G X 7 108 [(0, .ref (gr G 0)), (1, .int a1), (2, .int (s3.1)), (3, .int (s3.2.1)), (4, .int (s1.2.2.1)), (5, .int (s3.2.2.1))] [] r12 P
                  refine vAloadN F dX7_put_108 (k := 0) rfl ?_
                  refine vCallV F (d' := 5) (x := 0) (T := TX7) (N := 61) (As := []) (st := []) dX7_put_109 lk_X7_327 my_X7_lostPairs mv_X7_lostPairs (cqM_0 hs) rfl (by decide) rfl rfl (Nat.le_of_ble_eq_true rfl) (Mo_lostPairs_ok hG hs (okB h fun r13 h => ?_))
                  show mjV G X 7 112 [(0, .ref (gr G 0)), (1, .int a1), (2, .int (s3.1)), (3, .int (s3.2.1)), (4, .int (s1.2.2.1)), (5, .int (s3.2.2.1))] [.int (r13.1)] (r13.2) P
                  refine vIstore F (L' := [(6, .int (r13.1)), (0, .ref (gr G 0)), (1, .int a1), (2, .int (s3.1)), (3, .int (s3.2.1)), (4, .int (s1.2.2.1)), (5, .int (s3.2.2.1))]) dX7_put_112 (by decide) rfl ?_
                  refine vAloadN F dX7_put_114 (k := 1) rfl ?_
                  refine vIload F dX7_put_115 (k := 5) rfl ?_
                  refine vIload F dX7_put_117 (k := 6) rfl ?_
                  refine vIconst F (v := 0) dX7_put_119 k_0 ?_
                  refine vCallV F (d' := 0) (x := 0) (T := TX7) (N := 61) (As := [.int (s1.2.2.1), .int (s3.2.2.1), .int 0]) (st := []) dX7_put_120 lk_X7_220 my_X7_lays mv_X7_lays (cqM_0 hs) rfl (by decide) rfl rfl (Nat.le_of_ble_eq_true rfl) (Mo_lays_ok hG hs (okB h fun r14 h => ?_))
                  show mjV G X 7 123 [(6, .int (r13.1)), (0, .ref (gr G 0)), (1, .int a1), (2, .int (s3.1)), (3, .int (s3.2.1)), (4, .int (s1.2.2.1)), (5, .int (s3.2.2.1))] [] r14 P
                  refine vIloadN F dX7_put_123 (k := 3) rfl ?_
                  refine okJ (Vj := fun (e15 : Unit) => mjV G X 7 136 [(0, .ref (gr G 0)), (1, .int a1), (4, .int (s1.2.2.1)), (5, .int (s3.2.2.1)), (6, .int (r13.1))] [] r14 P) h (fun e15 h => ?_) (fun j16 Jj16 h => ?_)
                  · refine vBipush F (v := 10) dX7_put_136 kb_10 ?_
                    refine vIload F dX7_put_138 (k := 2) rfl ?_
                    refine vImul F dX7_put_140 ?_
                    refine vIload F dX7_put_141 (k := 3) rfl ?_
                    refine vIadd F dX7_put_143 ?_
                    refine vIstoreN F (L' := [(2, .int ((10 * (s1.2.2.1)) + (s3.2.2.1))), (0, .ref (gr G 0)), (1, .int a1), (4, .int (s1.2.2.1)), (5, .int (s3.2.2.1)), (6, .int (r13.1))]) dX7_put_144 rfl (by decide) rfl ?_
                    refine vIload F dX7_put_145 (k := 5) rfl ?_
                    refine vIstoreN F (L' := [(3, .int (r13.1)), (2, .int ((10 * (s1.2.2.1)) + (s3.2.2.1))), (0, .ref (gr G 0)), (1, .int a1), (4, .int (s1.2.2.1)), (5, .int (s3.2.2.1)), (6, .int (r13.1))]) dX7_put_147 rfl (by decide) rfl ?_
                    refine vIinc F (v := 1) (k := 5) (L' := [(5, .int ((s3.2.2.1) + 1)), (3, .int (r13.1)), (2, .int ((10 * (s1.2.2.1)) + (s3.2.2.1))), (0, .ref (gr G 0)), (1, .int a1), (4, .int (s1.2.2.1)), (6, .int (r13.1))]) dX7_put_148 rfl k_1 (by decide) rfl ?_
                    refine vGoto F (tgt := 35) dX7_put_151 (by decide) ?_
                    refine vSub [3, 4, 2, 1, 5, 0] rfl ?_
                    have z := okL h
                    exact z
                  · refine vIfLt F (tgt := 136) dX7_put_124 (by decide) (fun c18 => ?_) (fun c18 => ?_)
                    · replace h := okT h c18
                      refine vSub [1, 2, 5, 6, 0] rfl ?_
                      exact Jj16 () h
                    · replace h := okF h c18
                      refine vIload F dX7_put_127 (k := 0) rfl ?_
                      refine vIloadN F dX7_put_129 (k := 4) rfl ?_
                      refine vIcmpLt F (tgt := 136) dX7_put_130 (by decide) (fun c17 => ?_) (fun c17 => ?_)
                      · replace h := okT h c17
                        refine vSub [1, 2, 5, 6, 0] rfl ?_
                        exact Jj16 () h
                      · replace h := okF h c17
                        refine vGoto F (tgt := 148) dX7_put_133 (by decide) ?_
                        refine vIinc F (v := 1) (k := 6) (L' := [(5, .int ((s3.2.2.1) + 1)), (6, .int (r13.1)), (0, .ref (gr G 0)), (1, .int a1), (2, .int (s3.1)), (3, .int (s3.2.1)), (4, .int (s1.2.2.1))]) dX7_put_148 rfl k_1 (by decide) rfl ?_
                        refine vGoto F (tgt := 35) dX7_put_151 (by decide) ?_
                        refine vSub [2, 3, 4, 5, 6, 0] rfl ?_
                        have z := okL h
                        exact z
                · replace h := okF h c19
                  refine vGoto F (tgt := 148) dX7_put_96 (by decide) ?_
                  refine vIinc F (v := 1) (k := 5) (L' := [(5, .int ((s3.2.2.1) + 1)), (0, .ref (gr G 0)), (1, .int a1), (2, .int (s3.1)), (3, .int (s3.2.1)), (4, .int (s1.2.2.1))]) dX7_put_148 rfl k_1 (by decide) rfl ?_
                  refine vGoto F (tgt := 35) dX7_put_151 (by decide) ?_
                  refine vSub [1, 2, 3, 4, 5, 0] rfl ?_
                  have z := okL h
                  exact z
  · replace h := okF h c28
    refine vIconst F (v := (-1)) dX7_put_10 k_m1 ?_
    have z := okS h
    exact vIret F dX7_put_11 z
noncomputable def Mo_worst_l35 (s1 : Int32 × Int32 × Int32 × Mm) (s3 : Int32 × Int32 × Int32 × Mm) : Option ((Int32 × Int32 × Int32 × Mm) ⊕ (Int32 × Int32 × Mm)) :=
  if ((s3.2.2.2).1 0 0) ≤ (s3.2.2.1) then
 (some (.inr (s3.1, s3.2.1, s3.2.2.2)))
 else (ga (s1.2.2.1) 7 (if (Mo_has ((s3.2.2.2).1 4 (s1.2.2.1).toNatClampNeg) (s3.2.2.1)) = true then
 ((Mo_lays (s3.2.2.2) (s1.2.2.1) (s3.2.2.1) 0).bind fun r6 =>
  (Mo_lostPairs r6).bind fun r7 =>
  (Mo_lays (r7.2) (s1.2.2.1) (s3.2.2.1) 1).bind fun r8 =>
  jn (fun (e9 : Unit) => some (.inl ((10 * (s1.2.2.1)) + (s3.2.2.1), r7.1, (s3.2.2.1) + 1, r8))) fun j10 =>
  if (s3.1) < 0 then
 (j10 ())
 else (if (s3.2.1) < (r7.1) then
 (j10 ())
 else (some (.inl (s3.1, s3.2.1, (s3.2.2.1) + 1, r8)))))
 else (some (.inl (s3.1, s3.2.1, (s3.2.2.1) + 1, s3.2.2.2)))))
noncomputable def Mo_worst_l20  (s1 : Int32 × Int32 × Int32 × Mm) : Option ((Int32 × Int32 × Int32 × Mm) ⊕ (Int32 × Int32 × Mm)) :=
  if ((s1.2.2.2).1 0 0) ≤ (s1.2.2.1) then
 (some (.inr (s1.1, s1.2.1, s1.2.2.2)))
 else ((iter (Mo_worst_l35 s1) (s1.1, s1.2.1, (s1.2.2.1) + 1, s1.2.2.2)).bind fun e4 =>
  some (.inl (e4.1, e4.2.1, (s1.2.2.1) + 1, e4.2.2)))
noncomputable def Mo_worst (m : Mm) (a1 : Int32) : Option (Int32 × Mm) :=
  if (Mo_in a1 0 1) = true then
 ((iter (Mo_worst_l20) ((-5), 0, 0, m)).bind fun e2 =>
  if (e2.1) < 0 then
 (some (e2.1, e2.2.2))
 else (if a1 = 0 then
 (some (e2.1, e2.2.2))
 else (some (e2.2.1, e2.2.2))))
 else (some ((-1), m))
set_option maxRecDepth 20000 in
set_option maxHeartbeats 4000000 in
theorem Mo_worst_ok {G : Gw} (hG : gOk G) (hs : gsh G = shM) {a1 : Int32} {m : Mm} {P : Option Value → Mm → Prop} (h : mjO (Mo_worst m a1) (fun r => P (some (.int r.1)) r.2)) : mjR G 6 yX7_worst cX7_worst 7 (some .int) [.ref (gr G 0), .int a1] m P := by
  refine mjR_of hG (by decide) (Nat.le_of_ble_eq_true rfl) ?_
  intro X F
  have F : mjF G X cX7_worst RX7 7 6 (some .int) := F
  show mjV G X 7 0 [(0, .ref (gr G 0)), (1, .int a1)] [] m P
  unfold Mo_worst at h
  refine vAloadN F dX7_worst_0 (k := 0) rfl ?_
  refine vIloadN F dX7_worst_1 (k := 1) rfl ?_
  refine vIconst F (v := 0) dX7_worst_2 k_0 ?_
  refine vIconst F (v := 1) dX7_worst_3 k_1 ?_
  refine vCallV F (d' := 0) (x := 0) (T := TX7) (N := 61) (As := [.int a1, .int 0, .int 1]) (st := []) dX7_worst_4 lk_X7_197 my_X7_in mv_X7_in (cqM_0 hs) rfl (by decide) rfl rfl (Nat.le_of_ble_eq_true rfl) (Mo_in_ok hG hs ?_)
  show mjV G X 7 7 [(0, .ref (gr G 0)), (1, .int a1)] [.int (bI (Mo_in a1 0 1))] m P
  refine vIfNeB F (tgt := 12) dX7_worst_7 (by decide) (fun c20 => ?_) (fun c20 => ?_)
  · replace h := okT h c20
    refine vBipush F (v := (-5)) dX7_worst_12 kb_m5 ?_
    refine vIstoreN F (L' := [(2, .int (-5)), (0, .ref (gr G 0)), (1, .int a1)]) dX7_worst_14 rfl (by decide) rfl ?_
    refine vIconst F (v := 0) dX7_worst_15 k_0 ?_
    refine vIstoreN F (L' := [(3, .int 0), (2, .int (-5)), (0, .ref (gr G 0)), (1, .int a1)]) dX7_worst_16 rfl (by decide) rfl ?_
    refine vIconst F (v := 0) dX7_worst_17 k_0 ?_
    refine vIstore F (L' := [(4, .int 0), (3, .int 0), (2, .int (-5)), (0, .ref (gr G 0)), (1, .int a1)]) dX7_worst_18 (by decide) rfl ?_
    refine vSub [3, 4, 2, 1, 0] rfl ?_
    refine okLoop (s0 := ((-5), 0, 0, m)) (T := (fun (s1 : Int32 × Int32 × Int32 × Mm) => mjV G X 7 20 [(0, .ref (gr G 0)), (1, .int a1), (2, .int (s1.1)), (3, .int (s1.2.1)), (4, .int (s1.2.2.1))] [] (s1.2.2.2) P)) (Ve := (fun (e2 : Int32 × Int32 × Mm) => mjV G X 7 124 [(1, .int a1), (2, .int (e2.1)), (3, .int (e2.2.1))] [] (e2.2.2) P)) h ?_ (fun s1 h => ?_)
    · intro e2 h
      refine vIloadN F dX7_worst_124 (k := 1) rfl ?_
      refine vIfLt F (tgt := 132) dX7_worst_125 (by decide) (fun c18 => ?_) (fun c18 => ?_)
      · replace h := okT h c18
        refine vIloadN F dX7_worst_132 (k := 1) rfl ?_
        refine vGoto F (tgt := 137) dX7_worst_133 (by decide) ?_
        have z := okS h
        exact vIret F dX7_worst_137 z
      · replace h := okF h c18
        refine vIloadN F dX7_worst_128 (k := 0) rfl ?_
        refine vIfNe F (tgt := 136) dX7_worst_129 (by decide) (fun c17 => ?_) (fun c17 => ?_)
        · replace h := okF h c17
          refine vIloadN F dX7_worst_136 (k := 2) rfl ?_
          have z := okS h
          exact vIret F dX7_worst_137 z
        · replace h := okT h c17
          refine vIloadN F dX7_worst_132 (k := 1) rfl ?_
          refine vGoto F (tgt := 137) dX7_worst_133 (by decide) ?_
          have z := okS h
          exact vIret F dX7_worst_137 z
    · unfold Mo_worst_l20 at h
      refine vIload F dX7_worst_20 (k := 4) rfl ?_
      refine vAloadN F dX7_worst_22 (k := 0) rfl ?_
      refine vGetI F dX7_worst_23 fa_X7_7 (cqM_0 hs) rfl ?_
      refine vIcmpGe F (tgt := 124) dX7_worst_26 (by decide) (fun c16 => ?_) (fun c16 => ?_)
      · replace h := okT h c16
        refine vSub [1, 2, 3] rfl ?_
        have z := okR h
        exact z
      · replace h := okF h c16
        refine vIload F dX7_worst_29 (k := 4) rfl ?_
        refine vIconst F (v := 1) dX7_worst_31 k_1 ?_
        refine vIadd F dX7_worst_32 ?_
        refine vIstore F (L' := [(5, .int ((s1.2.2.1) + 1)), (0, .ref (gr G 0)), (1, .int a1), (2, .int (s1.1)), (3, .int (s1.2.1)), (4, .int (s1.2.2.1))]) dX7_worst_33 (by decide) rfl ?_
        refine vSub [1, 2, 3, 4, 5, 0] rfl ?_
        refine okLoop (s0 := (s1.1, s1.2.1, (s1.2.2.1) + 1, s1.2.2.2)) (T := (fun (s3 : Int32 × Int32 × Int32 × Mm) => mjV G X 7 35 [(0, .ref (gr G 0)), (1, .int a1), (2, .int (s3.1)), (3, .int (s3.2.1)), (4, .int (s1.2.2.1)), (5, .int (s3.2.2.1))] [] (s3.2.2.2) P)) (Ve := (fun (e4 : Int32 × Int32 × Mm) => mjV G X 7 118 [(0, .ref (gr G 0)), (1, .int a1), (2, .int (e4.1)), (3, .int (e4.2.1)), (4, .int (s1.2.2.1))] [] (e4.2.2) P)) h ?_ (fun s3 h => ?_)
        · intro e4 h
          refine vIinc F (v := 1) (k := 4) (L' := [(4, .int ((s1.2.2.1) + 1)), (0, .ref (gr G 0)), (1, .int a1), (2, .int (e4.1)), (3, .int (e4.2.1))]) dX7_worst_118 rfl k_1 (by decide) rfl ?_
          refine vGoto F (tgt := 20) dX7_worst_121 (by decide) ?_
          refine vSub [1, 2, 3, 4, 0] rfl ?_
          have z := okL h
          exact z
        · unfold Mo_worst_l35 at h
          refine vIload F dX7_worst_35 (k := 5) rfl ?_
          refine vAloadN F dX7_worst_37 (k := 0) rfl ?_
          refine vGetI F dX7_worst_38 fa_X7_7 (cqM_0 hs) rfl ?_
          refine vIcmpGe F (tgt := 118) dX7_worst_41 (by decide) (fun c14 => ?_) (fun c14 => ?_)
          · replace h := okT h c14
            refine vSub [0, 1, 2, 3, 4] rfl ?_
            have z := okR h
            exact z
          · replace h := okF h c14
            refine vAloadN F dX7_worst_44 (k := 0) rfl ?_
            refine vAloadN F dX7_worst_45 (k := 0) rfl ?_
            refine vGetR F (t := 4) dX7_worst_46 fa_X7_26 (cqM_0 hs) rfl ?_
            refine vIload F dX7_worst_49 (k := 4) rfl ?_
            obtain ⟨g5, h⟩ := okga h
            refine vIald F dX7_worst_51 (cqM_4 hs) g5 ?_
            refine vIload F dX7_worst_52 (k := 5) rfl ?_
            refine vCallV F (d' := 0) (x := 0) (T := TX7) (N := 61) (As := [.int ((s3.2.2.2).1 4 (s1.2.2.1).toNatClampNeg), .int (s3.2.2.1)]) (st := []) dX7_worst_54 lk_X7_209 my_X7_has mv_X7_has (cqM_0 hs) rfl (by decide) rfl rfl (Nat.le_of_ble_eq_true rfl) (Mo_has_ok hG hs ?_)
            show mjV G X 7 57 [(0, .ref (gr G 0)), (1, .int a1), (2, .int (s3.1)), (3, .int (s3.2.1)), (4, .int (s1.2.2.1)), (5, .int (s3.2.2.1))] [.int (bI (Mo_has ((s3.2.2.2).1 4 (s1.2.2.1).toNatClampNeg) (s3.2.2.1)))] (s3.2.2.2) P
            refine vIfNeB F (tgt := 63) dX7_worst_57 (by decide) (fun c13 => ?_) (fun c13 => ?_)
            · replace h := okT h c13
              refine vAloadN F dX7_worst_63 (k := 0) rfl ?_
              refine vIload F dX7_worst_64 (k := 4) rfl ?_
              refine vIload F dX7_worst_66 (k := 5) rfl ?_
              refine vIconst F (v := 0) dX7_worst_68 k_0 ?_
              refine vCallV F (d' := 0) (x := 0) (T := TX7) (N := 61) (As := [.int (s1.2.2.1), .int (s3.2.2.1), .int 0]) (st := []) dX7_worst_69 lk_X7_220 my_X7_lays mv_X7_lays (cqM_0 hs) rfl (by decide) rfl rfl (Nat.le_of_ble_eq_true rfl) (Mo_lays_ok hG hs (okB h fun r6 h => ?_))
              show mjV G X 7 72 [(0, .ref (gr G 0)), (1, .int a1), (2, .int (s3.1)), (3, .int (s3.2.1)), (4, .int (s1.2.2.1)), (5, .int (s3.2.2.1))] [] r6 P
              refine vAloadN F dX7_worst_72 (k := 0) rfl ?_
              refine vCallV F (d' := 5) (x := 0) (T := TX7) (N := 61) (As := []) (st := []) dX7_worst_73 lk_X7_327 my_X7_lostPairs mv_X7_lostPairs (cqM_0 hs) rfl (by decide) rfl rfl (Nat.le_of_ble_eq_true rfl) (Mo_lostPairs_ok hG hs (okB h fun r7 h => ?_))
              show mjV G X 7 76 [(0, .ref (gr G 0)), (1, .int a1), (2, .int (s3.1)), (3, .int (s3.2.1)), (4, .int (s1.2.2.1)), (5, .int (s3.2.2.1))] [.int (r7.1)] (r7.2) P
              refine vIstore F (L' := [(6, .int (r7.1)), (0, .ref (gr G 0)), (1, .int a1), (2, .int (s3.1)), (3, .int (s3.2.1)), (4, .int (s1.2.2.1)), (5, .int (s3.2.2.1))]) dX7_worst_76 (by decide) rfl ?_
              refine vAloadN F dX7_worst_78 (k := 1) rfl ?_
              refine vIload F dX7_worst_79 (k := 5) rfl ?_
              refine vIload F dX7_worst_81 (k := 6) rfl ?_
              refine vIconst F (v := 1) dX7_worst_83 k_1 ?_
              refine vCallV F (d' := 0) (x := 0) (T := TX7) (N := 61) (As := [.int (s1.2.2.1), .int (s3.2.2.1), .int 1]) (st := []) dX7_worst_84 lk_X7_220 my_X7_lays mv_X7_lays (cqM_0 hs) rfl (by decide) rfl rfl (Nat.le_of_ble_eq_true rfl) (Mo_lays_ok hG hs (okB h fun r8 h => ?_))
              show mjV G X 7 87 [(6, .int (r7.1)), (0, .ref (gr G 0)), (1, .int a1), (2, .int (s3.1)), (3, .int (s3.2.1)), (4, .int (s1.2.2.1)), (5, .int (s3.2.2.1))] [] r8 P
              refine vIloadN F dX7_worst_87 (k := 3) rfl ?_
              refine okJ (Vj := fun (e9 : Unit) => mjV G X 7 100 [(0, .ref (gr G 0)), (1, .int a1), (4, .int (s1.2.2.1)), (5, .int (s3.2.2.1)), (6, .int (r7.1))] [] r8 P) h (fun e9 h => ?_) (fun j10 Jj10 h => ?_)
              · refine vBipush F (v := 10) dX7_worst_100 kb_10 ?_
                refine vIload F dX7_worst_102 (k := 2) rfl ?_
                refine vImul F dX7_worst_104 ?_
                refine vIload F dX7_worst_105 (k := 3) rfl ?_
                refine vIadd F dX7_worst_107 ?_
                refine vIstoreN F (L' := [(2, .int ((10 * (s1.2.2.1)) + (s3.2.2.1))), (0, .ref (gr G 0)), (1, .int a1), (4, .int (s1.2.2.1)), (5, .int (s3.2.2.1)), (6, .int (r7.1))]) dX7_worst_108 rfl (by decide) rfl ?_
                refine vIload F dX7_worst_109 (k := 5) rfl ?_
                refine vIstoreN F (L' := [(3, .int (r7.1)), (2, .int ((10 * (s1.2.2.1)) + (s3.2.2.1))), (0, .ref (gr G 0)), (1, .int a1), (4, .int (s1.2.2.1)), (5, .int (s3.2.2.1)), (6, .int (r7.1))]) dX7_worst_111 rfl (by decide) rfl ?_
                refine vIinc F (v := 1) (k := 5) (L' := [(5, .int ((s3.2.2.1) + 1)), (3, .int (r7.1)), (2, .int ((10 * (s1.2.2.1)) + (s3.2.2.1))), (0, .ref (gr G 0)), (1, .int a1), (4, .int (s1.2.2.1)), (6, .int (r7.1))]) dX7_worst_112 rfl k_1 (by decide) rfl ?_
                refine vGoto F (tgt := 35) dX7_worst_115 (by decide) ?_
                refine vSub [3, 4, 2, 1, 5, 0] rfl ?_
                have z := okL h
                exact z
              · refine vIfLt F (tgt := 100) dX7_worst_88 (by decide) (fun c12 => ?_) (fun c12 => ?_)
                · replace h := okT h c12
                  refine vSub [1, 2, 5, 6, 0] rfl ?_
                  exact Jj10 () h
                · replace h := okF h c12
                  refine vIload F dX7_worst_91 (k := 0) rfl ?_
                  refine vIloadN F dX7_worst_93 (k := 4) rfl ?_
                  refine vIcmpGt F (tgt := 100) dX7_worst_94 (by decide) (fun c11 => ?_) (fun c11 => ?_)
                  · replace h := okT h c11
                    refine vSub [1, 2, 5, 6, 0] rfl ?_
                    exact Jj10 () h
                  · replace h := okF h c11
                    refine vGoto F (tgt := 112) dX7_worst_97 (by decide) ?_
                    refine vIinc F (v := 1) (k := 6) (L' := [(5, .int ((s3.2.2.1) + 1)), (6, .int (r7.1)), (0, .ref (gr G 0)), (1, .int a1), (2, .int (s3.1)), (3, .int (s3.2.1)), (4, .int (s1.2.2.1))]) dX7_worst_112 rfl k_1 (by decide) rfl ?_
                    refine vGoto F (tgt := 35) dX7_worst_115 (by decide) ?_
                    refine vSub [2, 3, 4, 5, 6, 0] rfl ?_
                    have z := okL h
                    exact z
            · replace h := okF h c13
              refine vGoto F (tgt := 112) dX7_worst_60 (by decide) ?_
              refine vIinc F (v := 1) (k := 5) (L' := [(5, .int ((s3.2.2.1) + 1)), (0, .ref (gr G 0)), (1, .int a1), (2, .int (s3.1)), (3, .int (s3.2.1)), (4, .int (s1.2.2.1))]) dX7_worst_112 rfl k_1 (by decide) rfl ?_
              refine vGoto F (tgt := 35) dX7_worst_115 (by decide) ?_
              refine vSub [1, 2, 3, 4, 5, 0] rfl ?_
              have z := okL h
              exact z
  · replace h := okF h c20
    refine vIconst F (v := (-1)) dX7_worst_10 k_m1 ?_
    have z := okS h
    exact vIret F dX7_worst_11 z
