def Mo_in (a1 : Int32) (a2 : Int32) (a3 : Int32) : Bool :=
  if a1 < a2 then
 (false)
 else (if a3 < a1 then
 (false)
 else (true))
set_option maxRecDepth 20000 in
set_option maxHeartbeats 4000000 in
theorem Mo_in_ok {G : Gw} (hG : gOk G) (hs : gsh G = shM) {a1 : Int32} {a2 : Int32} {a3 : Int32} {m : Mm} {P : Option Value → Mm → Prop} (h : P (some (.int (bI (Mo_in a1 a2 a3)))) m) : mjR G 0 yX7_in cX7_in 4 (some .boolean) [.ref (gr G 0), .int a1, .int a2, .int a3] m P := by
  refine mjR_of hG (by decide) (Nat.le_of_ble_eq_true rfl) ?_
  intro X F
  have F : mjF G X cX7_in RX7 4 0 (some .boolean) := F
  show mjV G X 4 0 [(0, .ref (gr G 0)), (1, .int a1), (2, .int a2), (3, .int a3)] [] m P
  have h : mjO (some (Mo_in a1 a2 a3)) (fun r => P (some (.int (bI r))) m) := ⟨_, rfl, h⟩
  unfold Mo_in at h
  refine vIloadN F dX7_in_0 (k := 1) rfl ?_
  refine vIloadN F dX7_in_1 (k := 2) rfl ?_
  refine vIcmpLt F (tgt := 14) dX7_in_2 (by decide) (fun c2 => ?_) (fun c2 => ?_)
  · replace h := okTT h c2
    refine vIconst F (v := 0) dX7_in_14 k_0 ?_
    have z := okS h
    exact vZret (x := bI false) F dX7_in_15 (nzI _) z
  · replace h := okFT h c2
    refine vIloadN F dX7_in_5 (k := 1) rfl ?_
    refine vIloadN F dX7_in_6 (k := 3) rfl ?_
    refine vIcmpGt F (tgt := 14) dX7_in_7 (by decide) (fun c1 => ?_) (fun c1 => ?_)
    · replace h := okTT h c1
      refine vIconst F (v := 0) dX7_in_14 k_0 ?_
      have z := okS h
      exact vZret (x := bI false) F dX7_in_15 (nzI _) z
    · replace h := okFT h c1
      refine vIconst F (v := 1) dX7_in_10 k_1 ?_
      refine vGoto F (tgt := 15) dX7_in_11 (by decide) ?_
      have z := okS h
      exact vZret (x := bI true) F dX7_in_15 (nzI _) z
def Mo_has (a1 : Int32) (a2 : Int32) : Bool :=
  if ((a1 >>> (a2 &&& 31)) &&& 1) = 1 then
 (true)
 else (false)
set_option maxRecDepth 20000 in
set_option maxHeartbeats 4000000 in
theorem Mo_has_ok {G : Gw} (hG : gOk G) (hs : gsh G = shM) {a1 : Int32} {a2 : Int32} {m : Mm} {P : Option Value → Mm → Prop} (h : P (some (.int (bI (Mo_has a1 a2)))) m) : mjR G 0 yX7_has cX7_has 3 (some .boolean) [.ref (gr G 0), .int a1, .int a2] m P := by
  refine mjR_of hG (by decide) (Nat.le_of_ble_eq_true rfl) ?_
  intro X F
  have F : mjF G X cX7_has RX7 3 0 (some .boolean) := F
  show mjV G X 3 0 [(0, .ref (gr G 0)), (1, .int a1), (2, .int a2)] [] m P
  have h : mjO (some (Mo_has a1 a2)) (fun r => P (some (.int (bI r))) m) := ⟨_, rfl, h⟩
  unfold Mo_has at h
  refine vIloadN F dX7_has_0 (k := 1) rfl ?_
  refine vIloadN F dX7_has_1 (k := 2) rfl ?_
  refine vIshr F dX7_has_2 ?_
  refine vIconst F (v := 1) dX7_has_3 k_1 ?_
  refine vIand F dX7_has_4 ?_
  refine vIconst F (v := 1) dX7_has_5 k_1 ?_
  refine vIcmpNe F (tgt := 13) dX7_has_6 (by decide) (fun c1 => ?_) (fun c1 => ?_)
  · replace h := okFT h c1
    refine vIconst F (v := 0) dX7_has_13 k_0 ?_
    have z := okS h
    exact vZret (x := bI false) F dX7_has_14 (nzI _) z
  · replace h := okTT h c1
    refine vIconst F (v := 1) dX7_has_9 k_1 ?_
    refine vGoto F (tgt := 14) dX7_has_10 (by decide) ?_
    have z := okS h
    exact vZret (x := bI true) F dX7_has_14 (nzI _) z
def Mo_ones_l4  (s1 : Int32 × Int32) : Option ((Int32 × Int32) ⊕ Int32) :=
  if (s1.2) = 0 then
 (some (.inr (s1.1)))
 else (some (.inl ((s1.1) + 1, (s1.2) &&& ((s1.2) - 1))))
noncomputable def Mo_ones (a1 : Int32) : Option (Int32) :=
  (iter (Mo_ones_l4) (0, a1)).bind fun e2 =>
  some e2
set_option maxRecDepth 20000 in
set_option maxHeartbeats 4000000 in
theorem Mo_ones_ok {G : Gw} (hG : gOk G) (hs : gsh G = shM) {a1 : Int32} {m : Mm} {P : Option Value → Mm → Prop} (h : mjO (Mo_ones a1) (fun r => P (some (.int r)) m)) : mjR G 0 yX7_ones cX7_ones 4 (some .int) [.ref (gr G 0), .int a1] m P := by
  refine mjR_of hG (by decide) (Nat.le_of_ble_eq_true rfl) ?_
  intro X F
  have F : mjF G X cX7_ones RX7 4 0 (some .int) := F
  show mjV G X 4 0 [(0, .ref (gr G 0)), (1, .int a1)] [] m P
  unfold Mo_ones at h
  refine vIconst F (v := 0) dX7_ones_0 k_0 ?_
  refine vIstoreN F (L' := [(2, .int 0), (0, .ref (gr G 0)), (1, .int a1)]) dX7_ones_1 rfl (by decide) rfl ?_
  refine vIloadN F dX7_ones_2 (k := 2) rfl ?_
  refine vIstoreN F (L' := [(3, .int a1), (2, .int 0), (0, .ref (gr G 0)), (1, .int a1)]) dX7_ones_3 rfl (by decide) rfl ?_
  refine vSub [1, 0] rfl ?_
  refine okLoop (s0 := (0, a1)) (T := (fun (s1 : Int32 × Int32) => mjV G X 4 4 [(2, .int (s1.1)), (3, .int (s1.2))] [] m P)) (Ve := (fun (e2 : Int32) => mjV G X 4 20 [(2, .int e2)] [] m P)) h ?_ (fun s1 h => ?_)
  · intro e2 h
    refine vIloadN F dX7_ones_20 (k := 0) rfl ?_
    have z := okS h
    exact vIret F dX7_ones_21 z
  · unfold Mo_ones_l4 at h
    refine vIloadN F dX7_ones_4 (k := 1) rfl ?_
    refine vIfEq F (tgt := 20) dX7_ones_5 (by decide) (fun c3 => ?_) (fun c3 => ?_)
    · replace h := okT h c3
      refine vSub [0] rfl ?_
      have z := okR h
      exact z
    · replace h := okF h c3
      refine vIinc F (v := 1) (k := 0) (L' := [(2, .int ((s1.1) + 1)), (3, .int (s1.2))]) dX7_ones_8 rfl k_1 (by decide) rfl ?_
      refine vIloadN F dX7_ones_11 (k := 1) rfl ?_
      refine vIloadN F dX7_ones_12 (k := 1) rfl ?_
      refine vIconst F (v := 1) dX7_ones_13 k_1 ?_
      refine vIsub F dX7_ones_14 ?_
      refine vIand F dX7_ones_15 ?_
      refine vIstoreN F (L' := [(3, .int ((s1.2) &&& ((s1.2) - 1))), (2, .int ((s1.1) + 1))]) dX7_ones_16 rfl (by decide) rfl ?_
      refine vGoto F (tgt := 4) dX7_ones_17 (by decide) ?_
      refine vSub [1, 0] rfl ?_
      have z := okL h
      exact z
def Mo_isPlace (m : Mm) (a1 : Int32) : Bool :=
  (Mo_in a1 0 ((m.1 0 0) - 1))
set_option maxRecDepth 20000 in
set_option maxHeartbeats 4000000 in
theorem Mo_isPlace_ok {G : Gw} (hG : gOk G) (hs : gsh G = shM) {a1 : Int32} {m : Mm} {P : Option Value → Mm → Prop} (h : P (some (.int (bI (Mo_isPlace m a1)))) m) : mjR G 1 yX7_isPlace cX7_isPlace 2 (some .boolean) [.ref (gr G 0), .int a1] m P := by
  refine mjR_of hG (by decide) (Nat.le_of_ble_eq_true rfl) ?_
  intro X F
  have F : mjF G X cX7_isPlace RX7 2 1 (some .boolean) := F
  show mjV G X 2 0 [(0, .ref (gr G 0)), (1, .int a1)] [] m P
  have h : mjO (some (Mo_isPlace m a1)) (fun r => P (some (.int (bI r))) m) := ⟨_, rfl, h⟩
  unfold Mo_isPlace at h
  refine vAloadN F dX7_isPlace_0 (k := 0) rfl ?_
  refine vIloadN F dX7_isPlace_1 (k := 1) rfl ?_
  refine vIconst F (v := 0) dX7_isPlace_2 k_0 ?_
  refine vAloadN F dX7_isPlace_3 (k := 0) rfl ?_
  refine vGetI F dX7_isPlace_4 fa_X7_7 (cqM_0 hs) rfl ?_
  refine vIconst F (v := 1) dX7_isPlace_7 k_1 ?_
  refine vIsub F dX7_isPlace_8 ?_
  refine vCallV F (d' := 0) (x := 0) (T := TX7) (N := 61) (As := [.int a1, .int 0, .int ((m.1 0 0) - 1)]) (st := []) dX7_isPlace_9 lk_X7_197 my_X7_in mv_X7_in (cqM_0 hs) rfl (by decide) rfl rfl (Nat.le_of_ble_eq_true rfl) (Mo_in_ok hG hs ?_)
  show mjV G X 2 12 [(0, .ref (gr G 0)), (1, .int a1)] [.int (bI (Mo_in a1 0 ((m.1 0 0) - 1)))] m P
  have z := okS h
  exact vZret (x := bI (Mo_in a1 0 ((m.1 0 0) - 1))) F dX7_isPlace_12 (nzI _) z
def Mo_arePlaces (m : Mm) (a1 : Int32) (a2 : Int32) : Bool :=
  if (Mo_isPlace m a1) = true then
 (if (Mo_isPlace m a2) = true then
 (true)
 else (false))
 else (false)
set_option maxRecDepth 20000 in
set_option maxHeartbeats 4000000 in
theorem Mo_arePlaces_ok {G : Gw} (hG : gOk G) (hs : gsh G = shM) {a1 : Int32} {a2 : Int32} {m : Mm} {P : Option Value → Mm → Prop} (h : P (some (.int (bI (Mo_arePlaces m a1 a2)))) m) : mjR G 2 yX7_arePlaces cX7_arePlaces 3 (some .boolean) [.ref (gr G 0), .int a1, .int a2] m P := by
  refine mjR_of hG (by decide) (Nat.le_of_ble_eq_true rfl) ?_
  intro X F
  have F : mjF G X cX7_arePlaces RX7 3 2 (some .boolean) := F
  show mjV G X 3 0 [(0, .ref (gr G 0)), (1, .int a1), (2, .int a2)] [] m P
  have h : mjO (some (Mo_arePlaces m a1 a2)) (fun r => P (some (.int (bI r))) m) := ⟨_, rfl, h⟩
  unfold Mo_arePlaces at h
  refine vAloadN F dX7_arePlaces_0 (k := 0) rfl ?_
  refine vIloadN F dX7_arePlaces_1 (k := 1) rfl ?_
  refine vCallV F (d' := 1) (x := 0) (T := TX7) (N := 61) (As := [.int a1]) (st := []) dX7_arePlaces_2 lk_X7_201 my_X7_isPlace mv_X7_isPlace (cqM_0 hs) rfl (by decide) rfl rfl (Nat.le_of_ble_eq_true rfl) (Mo_isPlace_ok hG hs ?_)
  show mjV G X 3 5 [(0, .ref (gr G 0)), (1, .int a1), (2, .int a2)] [.int (bI (Mo_isPlace m a1))] m P
  refine vIfEqB F (tgt := 20) dX7_arePlaces_5 (by decide) (fun c2 => ?_) (fun c2 => ?_)
  · replace h := okFT h c2
    refine vIconst F (v := 0) dX7_arePlaces_20 k_0 ?_
    have z := okS h
    exact vZret (x := bI false) F dX7_arePlaces_21 (nzI _) z
  · replace h := okTT h c2
    refine vAloadN F dX7_arePlaces_8 (k := 0) rfl ?_
    refine vIloadN F dX7_arePlaces_9 (k := 2) rfl ?_
    refine vCallV F (d' := 1) (x := 0) (T := TX7) (N := 61) (As := [.int a2]) (st := []) dX7_arePlaces_10 lk_X7_201 my_X7_isPlace mv_X7_isPlace (cqM_0 hs) rfl (by decide) rfl rfl (Nat.le_of_ble_eq_true rfl) (Mo_isPlace_ok hG hs ?_)
    show mjV G X 3 13 [(0, .ref (gr G 0)), (1, .int a1), (2, .int a2)] [.int (bI (Mo_isPlace m a2))] m P
    refine vIfEqB F (tgt := 20) dX7_arePlaces_13 (by decide) (fun c1 => ?_) (fun c1 => ?_)
    · replace h := okFT h c1
      refine vIconst F (v := 0) dX7_arePlaces_20 k_0 ?_
      have z := okS h
      exact vZret (x := bI false) F dX7_arePlaces_21 (nzI _) z
    · replace h := okTT h c1
      refine vIconst F (v := 1) dX7_arePlaces_16 k_1 ?_
      refine vGoto F (tgt := 21) dX7_arePlaces_17 (by decide) ?_
      have z := okS h
      exact vZret (x := bI true) F dX7_arePlaces_21 (nzI _) z
def Mo_place_l93  (s5 : Int32 × Mm) : Option ((Int32 × Mm) ⊕ Mm) :=
  if 7 ≤ (s5.1) then
 (some (.inr (s5.2)))
 else (ga ((7 * ((s5.2).1 0 0)) + (s5.1)) 49 (ga ((7 * (s5.1)) + ((si (s5.2) 5 ((7 * ((s5.2).1 0 0)) + (s5.1)).toNatClampNeg 0).1 0 0)) 49 (some (.inl ((s5.1) + 1, si (si (s5.2) 5 ((7 * ((s5.2).1 0 0)) + (s5.1)).toNatClampNeg 0) 5 ((7 * (s5.1)) + ((si (s5.2) 5 ((7 * ((s5.2).1 0 0)) + (s5.1)).toNatClampNeg 0).1 0 0)).toNatClampNeg 0)))))
noncomputable def Mo_place (m : Mm) (a1 : Int32) (a2 : Int32) (a3 : Int32) : Option (Int32 × Mm) :=
  if (Mo_in a1 0 6) = true then
 (if (Mo_in a2 0 9) = true then
 (if (Mo_in a3 0 99) = true then
 (if (m.1 0 0) = 7 then
 (some ((-4), m))
 else (ga (m.1 0 0) 7 (ga ((si m 1 (m.1 0 0).toNatClampNeg a1).1 0 0) 7 (ga ((si (si m 1 (m.1 0 0).toNatClampNeg a1) 2 ((si m 1 (m.1 0 0).toNatClampNeg a1).1 0 0).toNatClampNeg a2).1 0 0) 7 (ga ((si (si (si m 1 (m.1 0 0).toNatClampNeg a1) 2 ((si m 1 (m.1 0 0).toNatClampNeg a1).1 0 0).toNatClampNeg a2) 3 ((si (si m 1 (m.1 0 0).toNatClampNeg a1) 2 ((si m 1 (m.1 0 0).toNatClampNeg a1).1 0 0).toNatClampNeg a2).1 0 0).toNatClampNeg a3).1 0 0) 7 ((iter (Mo_place_l93) (0, si (si (si (si m 1 (m.1 0 0).toNatClampNeg a1) 2 ((si m 1 (m.1 0 0).toNatClampNeg a1).1 0 0).toNatClampNeg a2) 3 ((si (si m 1 (m.1 0 0).toNatClampNeg a1) 2 ((si m 1 (m.1 0 0).toNatClampNeg a1).1 0 0).toNatClampNeg a2).1 0 0).toNatClampNeg a3) 4 ((si (si (si m 1 (m.1 0 0).toNatClampNeg a1) 2 ((si m 1 (m.1 0 0).toNatClampNeg a1).1 0 0).toNatClampNeg a2) 3 ((si (si m 1 (m.1 0 0).toNatClampNeg a1) 2 ((si m 1 (m.1 0 0).toNatClampNeg a1).1 0 0).toNatClampNeg a2).1 0 0).toNatClampNeg a3).1 0 0).toNatClampNeg 0)).bind fun e6 =>
  some (((si e6 0 0 ((e6.1 0 0) + 1)).1 0 0) - 1, si e6 0 0 ((e6.1 0 0) + 1))))))))
 else (some ((-2), m)))
 else (some ((-2), m)))
 else (some ((-1), m))
set_option maxRecDepth 20000 in
set_option maxHeartbeats 4000000 in
theorem Mo_place_ok {G : Gw} (hG : gOk G) (hs : gsh G = shM) {a1 : Int32} {a2 : Int32} {a3 : Int32} {m : Mm} {P : Option Value → Mm → Prop} (h : mjO (Mo_place m a1 a2 a3) (fun r => P (some (.int r.1)) r.2)) : mjR G 1 yX7_place cX7_place 5 (some .int) [.ref (gr G 0), .int a1, .int a2, .int a3] m P := by
  refine mjR_of hG (by decide) (Nat.le_of_ble_eq_true rfl) ?_
  intro X F
  have F : mjF G X cX7_place RX7 5 1 (some .int) := F
  show mjV G X 5 0 [(0, .ref (gr G 0)), (1, .int a1), (2, .int a2), (3, .int a3)] [] m P
  unfold Mo_place at h
  refine vAloadN F dX7_place_0 (k := 0) rfl ?_
  refine vIloadN F dX7_place_1 (k := 1) rfl ?_
  refine vIconst F (v := 0) dX7_place_2 k_0 ?_
  refine vBipush F (v := 6) dX7_place_3 kb_6 ?_
  refine vCallV F (d' := 0) (x := 0) (T := TX7) (N := 61) (As := [.int a1, .int 0, .int 6]) (st := []) dX7_place_5 lk_X7_197 my_X7_in mv_X7_in (cqM_0 hs) rfl (by decide) rfl rfl (Nat.le_of_ble_eq_true rfl) (Mo_in_ok hG hs ?_)
  show mjV G X 5 8 [(0, .ref (gr G 0)), (1, .int a1), (2, .int a2), (3, .int a3)] [.int (bI (Mo_in a1 0 6))] m P
  refine vIfNeB F (tgt := 13) dX7_place_8 (by decide) (fun c14 => ?_) (fun c14 => ?_)
  · replace h := okT h c14
    refine vAloadN F dX7_place_13 (k := 0) rfl ?_
    refine vIloadN F dX7_place_14 (k := 2) rfl ?_
    refine vIconst F (v := 0) dX7_place_15 k_0 ?_
    refine vBipush F (v := 9) dX7_place_16 kb_9 ?_
    refine vCallV F (d' := 0) (x := 0) (T := TX7) (N := 61) (As := [.int a2, .int 0, .int 9]) (st := []) dX7_place_18 lk_X7_197 my_X7_in mv_X7_in (cqM_0 hs) rfl (by decide) rfl rfl (Nat.le_of_ble_eq_true rfl) (Mo_in_ok hG hs ?_)
    show mjV G X 5 21 [(0, .ref (gr G 0)), (1, .int a1), (2, .int a2), (3, .int a3)] [.int (bI (Mo_in a2 0 9))] m P
    refine vIfEqB F (tgt := 35) dX7_place_21 (by decide) (fun c13 => ?_) (fun c13 => ?_)
    · replace h := okF h c13
      refine vBipush F (v := (-2)) dX7_place_35 kb_m2 ?_
      have z := okS h
      exact vIret F dX7_place_37 z
    · replace h := okT h c13
      refine vAloadN F dX7_place_24 (k := 0) rfl ?_
      refine vIloadN F dX7_place_25 (k := 3) rfl ?_
      refine vIconst F (v := 0) dX7_place_26 k_0 ?_
      refine vBipush F (v := 99) dX7_place_27 kb_99 ?_
      refine vCallV F (d' := 0) (x := 0) (T := TX7) (N := 61) (As := [.int a3, .int 0, .int 99]) (st := []) dX7_place_29 lk_X7_197 my_X7_in mv_X7_in (cqM_0 hs) rfl (by decide) rfl rfl (Nat.le_of_ble_eq_true rfl) (Mo_in_ok hG hs ?_)
      show mjV G X 5 32 [(0, .ref (gr G 0)), (1, .int a1), (2, .int a2), (3, .int a3)] [.int (bI (Mo_in a3 0 99))] m P
      refine vIfNeB F (tgt := 38) dX7_place_32 (by decide) (fun c12 => ?_) (fun c12 => ?_)
      · replace h := okT h c12
        refine vAloadN F dX7_place_38 (k := 0) rfl ?_
        refine vGetI F dX7_place_39 fa_X7_7 (cqM_0 hs) rfl ?_
        refine vBipush F (v := 7) dX7_place_42 kb_7 ?_
        refine vIcmpNe F (tgt := 50) dX7_place_44 (by decide) (fun c11 => ?_) (fun c11 => ?_)
        · replace h := okF h c11
          refine vAloadN F dX7_place_50 (k := 0) rfl ?_
          refine vGetR F (t := 1) dX7_place_51 fa_X7_16 (cqM_0 hs) rfl ?_
          refine vAloadN F dX7_place_54 (k := 0) rfl ?_
          refine vGetI F dX7_place_55 fa_X7_7 (cqM_0 hs) rfl ?_
          refine vIloadN F dX7_place_58 (k := 1) rfl ?_
          obtain ⟨g1, h⟩ := okga h
          refine vIast F dX7_place_59 (cqM_1 hs) g1 ?_
          refine vAloadN F dX7_place_60 (k := 0) rfl ?_
          refine vGetR F (t := 2) dX7_place_61 fa_X7_20 (cqM_0 hs) rfl ?_
          refine vAloadN F dX7_place_64 (k := 0) rfl ?_
          refine vGetI F dX7_place_65 fa_X7_7 (cqM_0 hs) rfl ?_
          refine vIloadN F dX7_place_68 (k := 2) rfl ?_
          obtain ⟨g2, h⟩ := okga h
          refine vIast F dX7_place_69 (cqM_2 hs) g2 ?_
          refine vAloadN F dX7_place_70 (k := 0) rfl ?_
          refine vGetR F (t := 3) dX7_place_71 fa_X7_23 (cqM_0 hs) rfl ?_
          refine vAloadN F dX7_place_74 (k := 0) rfl ?_
          refine vGetI F dX7_place_75 fa_X7_7 (cqM_0 hs) rfl ?_
          refine vIloadN F dX7_place_78 (k := 3) rfl ?_
          obtain ⟨g3, h⟩ := okga h
          refine vIast F dX7_place_79 (cqM_3 hs) g3 ?_
          refine vAloadN F dX7_place_80 (k := 0) rfl ?_
          refine vGetR F (t := 4) dX7_place_81 fa_X7_26 (cqM_0 hs) rfl ?_
          refine vAloadN F dX7_place_84 (k := 0) rfl ?_
          refine vGetI F dX7_place_85 fa_X7_7 (cqM_0 hs) rfl ?_
          refine vIconst F (v := 0) dX7_place_88 k_0 ?_
          obtain ⟨g4, h⟩ := okga h
          refine vIast F dX7_place_89 (cqM_4 hs) g4 ?_
          refine vIconst F (v := 0) dX7_place_90 k_0 ?_
          refine vIstore F (L' := [(4, .int 0), (0, .ref (gr G 0)), (1, .int a1), (2, .int a2), (3, .int a3)]) dX7_place_91 (by decide) rfl ?_
          refine vSub [1, 0] rfl ?_
          refine okLoop (s0 := (0, si (si (si (si m 1 (m.1 0 0).toNatClampNeg a1) 2 ((si m 1 (m.1 0 0).toNatClampNeg a1).1 0 0).toNatClampNeg a2) 3 ((si (si m 1 (m.1 0 0).toNatClampNeg a1) 2 ((si m 1 (m.1 0 0).toNatClampNeg a1).1 0 0).toNatClampNeg a2).1 0 0).toNatClampNeg a3) 4 ((si (si (si m 1 (m.1 0 0).toNatClampNeg a1) 2 ((si m 1 (m.1 0 0).toNatClampNeg a1).1 0 0).toNatClampNeg a2) 3 ((si (si m 1 (m.1 0 0).toNatClampNeg a1) 2 ((si m 1 (m.1 0 0).toNatClampNeg a1).1 0 0).toNatClampNeg a2).1 0 0).toNatClampNeg a3).1 0 0).toNatClampNeg 0)) (T := (fun (s5 : Int32 × Mm) => mjV G X 5 93 [(0, .ref (gr G 0)), (4, .int (s5.1))] [] (s5.2) P)) (Ve := (fun (e6 : Mm) => mjV G X 5 138 [(0, .ref (gr G 0))] [] e6 P)) h ?_ (fun s5 h => ?_)
          · intro e6 h
            refine vAloadN F dX7_place_138 (k := 0) rfl ?_
            refine vDup F dX7_place_139 rfl ?_
            refine vGetI F dX7_place_140 fa_X7_7 (cqM_0 hs) rfl ?_
            refine vIconst F (v := 1) dX7_place_143 k_1 ?_
            refine vIadd F dX7_place_144 ?_
            refine vPutI F dX7_place_145 fw_X7_7 (cqM_0 hs) rfl ⟨rfl, rfl⟩ ?_
            refine vAloadN F dX7_place_148 (k := 0) rfl ?_
            refine vGetI F dX7_place_149 fa_X7_7 (cqM_0 hs) rfl ?_
            refine vIconst F (v := 1) dX7_place_152 k_1 ?_
            refine vIsub F dX7_place_153 ?_
            have z := okS h
            exact vIret F dX7_place_154 z
          · unfold Mo_place_l93 at h
            refine vIload F dX7_place_93 (k := 1) rfl ?_
            refine vBipush F (v := 7) dX7_place_95 kb_7 ?_
            refine vIcmpGe F (tgt := 138) dX7_place_97 (by decide) (fun c9 => ?_) (fun c9 => ?_)
            · replace h := okT h c9
              refine vSub [0] rfl ?_
              have z := okR h
              exact z
            · replace h := okF h c9
              refine vAloadN F dX7_place_100 (k := 0) rfl ?_
              refine vGetR F (t := 5) dX7_place_101 fa_X7_29 (cqM_0 hs) rfl ?_
              refine vBipush F (v := 7) dX7_place_104 kb_7 ?_
              refine vAloadN F dX7_place_106 (k := 0) rfl ?_
              refine vGetI F dX7_place_107 fa_X7_7 (cqM_0 hs) rfl ?_
              refine vImul F dX7_place_110 ?_
              refine vIload F dX7_place_111 (k := 1) rfl ?_
              refine vIadd F dX7_place_113 ?_
              refine vIconst F (v := 0) dX7_place_114 k_0 ?_
              obtain ⟨g7, h⟩ := okga h
              refine vIast F dX7_place_115 (cqM_5 hs) g7 ?_
              refine vAloadN F dX7_place_116 (k := 0) rfl ?_
              refine vGetR F (t := 5) dX7_place_117 fa_X7_29 (cqM_0 hs) rfl ?_
              refine vBipush F (v := 7) dX7_place_120 kb_7 ?_
              refine vIload F dX7_place_122 (k := 1) rfl ?_
              refine vImul F dX7_place_124 ?_
              refine vAloadN F dX7_place_125 (k := 0) rfl ?_
              refine vGetI F dX7_place_126 fa_X7_7 (cqM_0 hs) rfl ?_
              refine vIadd F dX7_place_129 ?_
              refine vIconst F (v := 0) dX7_place_130 k_0 ?_
              obtain ⟨g8, h⟩ := okga h
              refine vIast F dX7_place_131 (cqM_5 hs) g8 ?_
              refine vIinc F (v := 1) (k := 1) (L' := [(4, .int ((s5.1) + 1)), (0, .ref (gr G 0))]) dX7_place_132 rfl k_1 (by decide) rfl ?_
              refine vGoto F (tgt := 93) dX7_place_135 (by decide) ?_
              refine vSub [1, 0] rfl ?_
              have z := okL h
              exact z
        · replace h := okT h c11
          refine vBipush F (v := (-4)) dX7_place_47 kb_m4 ?_
          have z := okS h
          exact vIret F dX7_place_49 z
      · replace h := okF h c12
        refine vBipush F (v := (-2)) dX7_place_35 kb_m2 ?_
        have z := okS h
        exact vIret F dX7_place_37 z
  · replace h := okF h c14
    refine vIconst F (v := (-1)) dX7_place_11 k_m1 ?_
    have z := okS h
    exact vIret F dX7_place_12 z
def Mo_road (m : Mm) (a1 : Int32) (a2 : Int32) (a3 : Int32) : Option (Int32 × Mm) :=
  if (Mo_arePlaces m a1 a2) = true then
 (if a1 = a2 then
 (some ((-2), m))
 else (if (Mo_in a3 0 99) = true then
 (ga ((7 * a1) + a2) 49 (ga ((7 * a1) + a2) 49 (ga ((7 * a2) + a1) 49 (some (m.1 5 ((7 * a1) + a2).toNatClampNeg, si (si m 5 ((7 * a1) + a2).toNatClampNeg a3) 5 ((7 * a2) + a1).toNatClampNeg a3)))))
 else (some ((-2), m))))
 else (some ((-1), m))
set_option maxRecDepth 20000 in
set_option maxHeartbeats 4000000 in
theorem Mo_road_ok {G : Gw} (hG : gOk G) (hs : gsh G = shM) {a1 : Int32} {a2 : Int32} {a3 : Int32} {m : Mm} {P : Option Value → Mm → Prop} (h : mjO (Mo_road m a1 a2 a3) (fun r => P (some (.int r.1)) r.2)) : mjR G 3 yX7_road cX7_road 5 (some .int) [.ref (gr G 0), .int a1, .int a2, .int a3] m P := by
  refine mjR_of hG (by decide) (Nat.le_of_ble_eq_true rfl) ?_
  intro X F
  have F : mjF G X cX7_road RX7 5 3 (some .int) := F
  show mjV G X 5 0 [(0, .ref (gr G 0)), (1, .int a1), (2, .int a2), (3, .int a3)] [] m P
  unfold Mo_road at h
  refine vAloadN F dX7_road_0 (k := 0) rfl ?_
  refine vIloadN F dX7_road_1 (k := 1) rfl ?_
  refine vIloadN F dX7_road_2 (k := 2) rfl ?_
  refine vCallV F (d' := 2) (x := 0) (T := TX7) (N := 61) (As := [.int a1, .int a2]) (st := []) dX7_road_3 lk_X7_205 my_X7_arePlaces mv_X7_arePlaces (cqM_0 hs) rfl (by decide) rfl rfl (Nat.le_of_ble_eq_true rfl) (Mo_arePlaces_ok hG hs ?_)
  show mjV G X 5 6 [(0, .ref (gr G 0)), (1, .int a1), (2, .int a2), (3, .int a3)] [.int (bI (Mo_arePlaces m a1 a2))] m P
  refine vIfNeB F (tgt := 11) dX7_road_6 (by decide) (fun c6 => ?_) (fun c6 => ?_)
  · replace h := okT h c6
    refine vIloadN F dX7_road_11 (k := 1) rfl ?_
    refine vIloadN F dX7_road_12 (k := 2) rfl ?_
    refine vIcmpEq F (tgt := 27) dX7_road_13 (by decide) (fun c5 => ?_) (fun c5 => ?_)
    · replace h := okT h c5
      refine vBipush F (v := (-2)) dX7_road_27 kb_m2 ?_
      have z := okS h
      exact vIret F dX7_road_29 z
    · replace h := okF h c5
      refine vAloadN F dX7_road_16 (k := 0) rfl ?_
      refine vIloadN F dX7_road_17 (k := 3) rfl ?_
      refine vIconst F (v := 0) dX7_road_18 k_0 ?_
      refine vBipush F (v := 99) dX7_road_19 kb_99 ?_
      refine vCallV F (d' := 0) (x := 0) (T := TX7) (N := 61) (As := [.int a3, .int 0, .int 99]) (st := []) dX7_road_21 lk_X7_197 my_X7_in mv_X7_in (cqM_0 hs) rfl (by decide) rfl rfl (Nat.le_of_ble_eq_true rfl) (Mo_in_ok hG hs ?_)
      show mjV G X 5 24 [(0, .ref (gr G 0)), (1, .int a1), (2, .int a2), (3, .int a3)] [.int (bI (Mo_in a3 0 99))] m P
      refine vIfNeB F (tgt := 30) dX7_road_24 (by decide) (fun c4 => ?_) (fun c4 => ?_)
      · replace h := okT h c4
        refine vAloadN F dX7_road_30 (k := 0) rfl ?_
        refine vGetR F (t := 5) dX7_road_31 fa_X7_29 (cqM_0 hs) rfl ?_
        refine vBipush F (v := 7) dX7_road_34 kb_7 ?_
        refine vIloadN F dX7_road_36 (k := 1) rfl ?_
        refine vImul F dX7_road_37 ?_
        refine vIloadN F dX7_road_38 (k := 2) rfl ?_
        refine vIadd F dX7_road_39 ?_
        obtain ⟨g1, h⟩ := okga h
        refine vIald F dX7_road_40 (cqM_5 hs) g1 ?_
        refine vIstore F (L' := [(4, .int (m.1 5 ((7 * a1) + a2).toNatClampNeg)), (0, .ref (gr G 0)), (1, .int a1), (2, .int a2), (3, .int a3)]) dX7_road_41 (by decide) rfl ?_
        refine vAloadN F dX7_road_43 (k := 1) rfl ?_
        refine vGetR F (t := 5) dX7_road_44 fa_X7_29 (cqM_0 hs) rfl ?_
        refine vBipush F (v := 7) dX7_road_47 kb_7 ?_
        refine vIloadN F dX7_road_49 (k := 2) rfl ?_
        refine vImul F dX7_road_50 ?_
        refine vIloadN F dX7_road_51 (k := 3) rfl ?_
        refine vIadd F dX7_road_52 ?_
        refine vIloadN F dX7_road_53 (k := 4) rfl ?_
        obtain ⟨g2, h⟩ := okga h
        refine vIast F dX7_road_54 (cqM_5 hs) g2 ?_
        refine vAloadN F dX7_road_55 (k := 1) rfl ?_
        refine vGetR F (t := 5) dX7_road_56 fa_X7_29 (cqM_0 hs) rfl ?_
        refine vBipush F (v := 7) dX7_road_59 kb_7 ?_
        refine vIloadN F dX7_road_61 (k := 3) rfl ?_
        refine vImul F dX7_road_62 ?_
        refine vIloadN F dX7_road_63 (k := 2) rfl ?_
        refine vIadd F dX7_road_64 ?_
        refine vIloadN F dX7_road_65 (k := 4) rfl ?_
        obtain ⟨g3, h⟩ := okga h
        refine vIast F dX7_road_66 (cqM_5 hs) g3 ?_
        refine vIload F dX7_road_67 (k := 0) rfl ?_
        have z := okS h
        exact vIret F dX7_road_69 z
      · replace h := okF h c4
        refine vBipush F (v := (-2)) dX7_road_27 kb_m2 ?_
        have z := okS h
        exact vIret F dX7_road_29 z
  · replace h := okF h c6
    refine vIconst F (v := (-1)) dX7_road_9 k_m1 ?_
    have z := okS h
    exact vIret F dX7_road_10 z
def Mo_roadsOf_l4 (m : Mm) (a1 : Int32) (s1 : Int32 × Int32) : Option ((Int32 × Int32) ⊕ Int32) :=
  if (m.1 0 0) ≤ (s1.2) then
 (some (.inr (s1.1)))
 else (ga ((7 * a1) + (s1.2)) 49 (if (m.1 5 ((7 * a1) + (s1.2)).toNatClampNeg) ≤ 0 then
 (some (.inl ((s1.1) ||| 0, (s1.2) + 1)))
 else (some (.inl ((s1.1) ||| (1 <<< ((s1.2) &&& 31)), (s1.2) + 1)))))
noncomputable def Mo_roadsOf (m : Mm) (a1 : Int32) : Option (Int32) :=
  (iter (Mo_roadsOf_l4 m a1) (0, 0)).bind fun e2 =>
  some e2
set_option maxRecDepth 20000 in
set_option maxHeartbeats 4000000 in
theorem Mo_roadsOf_ok {G : Gw} (hG : gOk G) (hs : gsh G = shM) {a1 : Int32} {m : Mm} {P : Option Value → Mm → Prop} (h : mjO (Mo_roadsOf m a1) (fun r => P (some (.int r)) m)) : mjR G 0 yX7_roadsOf cX7_roadsOf 4 (some .int) [.ref (gr G 0), .int a1] m P := by
  refine mjR_of hG (by decide) (Nat.le_of_ble_eq_true rfl) ?_
  intro X F
  have F : mjF G X cX7_roadsOf RX7 4 0 (some .int) := F
  show mjV G X 4 0 [(0, .ref (gr G 0)), (1, .int a1)] [] m P
  unfold Mo_roadsOf at h
  refine vIconst F (v := 0) dX7_roadsOf_0 k_0 ?_
  refine vIstoreN F (L' := [(2, .int 0), (0, .ref (gr G 0)), (1, .int a1)]) dX7_roadsOf_1 rfl (by decide) rfl ?_
  refine vIconst F (v := 0) dX7_roadsOf_2 k_0 ?_
  refine vIstoreN F (L' := [(3, .int 0), (2, .int 0), (0, .ref (gr G 0)), (1, .int a1)]) dX7_roadsOf_3 rfl (by decide) rfl ?_
  refine vSub [2, 3, 1, 0] rfl ?_
  refine okLoop (s0 := (0, 0)) (T := (fun (s1 : Int32 × Int32) => mjV G X 4 4 [(0, .ref (gr G 0)), (1, .int a1), (2, .int (s1.1)), (3, .int (s1.2))] [] m P)) (Ve := (fun (e2 : Int32) => mjV G X 4 42 [(2, .int e2)] [] m P)) h ?_ (fun s1 h => ?_)
  · intro e2 h
    refine vIloadN F dX7_roadsOf_42 (k := 0) rfl ?_
    have z := okS h
    exact vIret F dX7_roadsOf_43 z
  · unfold Mo_roadsOf_l4 at h
    refine vIloadN F dX7_roadsOf_4 (k := 3) rfl ?_
    refine vAloadN F dX7_roadsOf_5 (k := 0) rfl ?_
    refine vGetI F dX7_roadsOf_6 fa_X7_7 (cqM_0 hs) rfl ?_
    refine vIcmpGe F (tgt := 42) dX7_roadsOf_9 (by decide) (fun c5 => ?_) (fun c5 => ?_)
    · replace h := okT h c5
      refine vSub [2] rfl ?_
      have z := okR h
      exact z
    · replace h := okF h c5
      refine vIloadN F dX7_roadsOf_12 (k := 2) rfl ?_
      refine vAloadN F dX7_roadsOf_13 (k := 0) rfl ?_
      refine vGetR F (t := 5) dX7_roadsOf_14 fa_X7_29 (cqM_0 hs) rfl ?_
      refine vBipush F (v := 7) dX7_roadsOf_17 kb_7 ?_
      refine vIloadN F dX7_roadsOf_19 (k := 1) rfl ?_
      refine vImul F dX7_roadsOf_20 ?_
      refine vIloadN F dX7_roadsOf_21 (k := 3) rfl ?_
      refine vIadd F dX7_roadsOf_22 ?_
      obtain ⟨g3, h⟩ := okga h
      refine vIald F dX7_roadsOf_23 (cqM_5 hs) g3 ?_
      refine vIfLe F (tgt := 33) dX7_roadsOf_24 (by decide) (fun c4 => ?_) (fun c4 => ?_)
      · replace h := okT h c4
        refine vIconst F (v := 0) dX7_roadsOf_33 k_0 ?_
        refine vIor F dX7_roadsOf_34 ?_
        refine vIstoreN F (L' := [(2, .int ((s1.1) ||| 0)), (0, .ref (gr G 0)), (1, .int a1), (3, .int (s1.2))]) dX7_roadsOf_35 rfl (by decide) rfl ?_
        refine vIinc F (v := 1) (k := 3) (L' := [(3, .int ((s1.2) + 1)), (2, .int ((s1.1) ||| 0)), (0, .ref (gr G 0)), (1, .int a1)]) dX7_roadsOf_36 rfl k_1 (by decide) rfl ?_
        refine vGoto F (tgt := 4) dX7_roadsOf_39 (by decide) ?_
        refine vSub [2, 3, 1, 0] rfl ?_
        have z := okL h
        exact z
      · replace h := okF h c4
        refine vIconst F (v := 1) dX7_roadsOf_27 k_1 ?_
        refine vIloadN F dX7_roadsOf_28 (k := 3) rfl ?_
        refine vIshl F dX7_roadsOf_29 ?_
        refine vGoto F (tgt := 34) dX7_roadsOf_30 (by decide) ?_
        refine vIor F dX7_roadsOf_34 ?_
        refine vIstoreN F (L' := [(2, .int ((s1.1) ||| (1 <<< ((s1.2) &&& 31)))), (0, .ref (gr G 0)), (1, .int a1), (3, .int (s1.2))]) dX7_roadsOf_35 rfl (by decide) rfl ?_
        refine vIinc F (v := 1) (k := 3) (L' := [(3, .int ((s1.2) + 1)), (2, .int ((s1.1) ||| (1 <<< ((s1.2) &&& 31)))), (0, .ref (gr G 0)), (1, .int a1)]) dX7_roadsOf_36 rfl k_1 (by decide) rfl ?_
        refine vGoto F (tgt := 4) dX7_roadsOf_39 (by decide) ?_
        refine vSub [2, 3, 1, 0] rfl ?_
        have z := okL h
        exact z
def Mo_lays (m : Mm) (a1 : Int32) (a2 : Int32) (a3 : Int32) : Option (Mm) :=
  if a3 = 0 then
 (ga a1 7 (ga a1 7 (if a3 = 0 then
 (ga a2 7 (ga a2 7 (some (si (si m 4 a1.toNatClampNeg ((m.1 4 a1.toNatClampNeg) &&& ((1 <<< (a2 &&& 31)) ^^^ (-1)))) 4 a2.toNatClampNeg (((si m 4 a1.toNatClampNeg ((m.1 4 a1.toNatClampNeg) &&& ((1 <<< (a2 &&& 31)) ^^^ (-1)))).1 4 a2.toNatClampNeg) &&& ((1 <<< (a1 &&& 31)) ^^^ (-1)))))))
 else (ga a2 7 (ga a2 7 (some (si (si m 4 a1.toNatClampNeg ((m.1 4 a1.toNatClampNeg) &&& ((1 <<< (a2 &&& 31)) ^^^ (-1)))) 4 a2.toNatClampNeg (((si m 4 a1.toNatClampNeg ((m.1 4 a1.toNatClampNeg) &&& ((1 <<< (a2 &&& 31)) ^^^ (-1)))).1 4 a2.toNatClampNeg) ||| (1 <<< (a1 &&& 31))))))))))
 else (ga a1 7 (ga a1 7 (if a3 = 0 then
 (ga a2 7 (ga a2 7 (some (si (si m 4 a1.toNatClampNeg ((m.1 4 a1.toNatClampNeg) ||| (1 <<< (a2 &&& 31)))) 4 a2.toNatClampNeg (((si m 4 a1.toNatClampNeg ((m.1 4 a1.toNatClampNeg) ||| (1 <<< (a2 &&& 31)))).1 4 a2.toNatClampNeg) &&& ((1 <<< (a1 &&& 31)) ^^^ (-1)))))))
 else (ga a2 7 (ga a2 7 (some (si (si m 4 a1.toNatClampNeg ((m.1 4 a1.toNatClampNeg) ||| (1 <<< (a2 &&& 31)))) 4 a2.toNatClampNeg (((si m 4 a1.toNatClampNeg ((m.1 4 a1.toNatClampNeg) ||| (1 <<< (a2 &&& 31)))).1 4 a2.toNatClampNeg) ||| (1 <<< (a1 &&& 31))))))))))
set_option maxRecDepth 20000 in
set_option maxHeartbeats 4000000 in
theorem Mo_lays_ok {G : Gw} (hG : gOk G) (hs : gsh G = shM) {a1 : Int32} {a2 : Int32} {a3 : Int32} {m : Mm} {P : Option Value → Mm → Prop} (h : mjO (Mo_lays m a1 a2 a3) (fun r => P none r)) : mjR G 0 yX7_lays cX7_lays 4 none [.ref (gr G 0), .int a1, .int a2, .int a3] m P := by
  refine mjR_of hG (by decide) (Nat.le_of_ble_eq_true rfl) ?_
  intro X F
  have F : mjF G X cX7_lays RX7 4 0 none := F
  show mjV G X 4 0 [(0, .ref (gr G 0)), (1, .int a1), (2, .int a2), (3, .int a3)] [] m P
  unfold Mo_lays at h
  refine vAloadN F dX7_lays_0 (k := 0) rfl ?_
  refine vGetR F (t := 4) dX7_lays_1 fa_X7_26 (cqM_0 hs) rfl ?_
  refine vIloadN F dX7_lays_4 (k := 1) rfl ?_
  refine vIloadN F dX7_lays_5 (k := 3) rfl ?_
  refine vIfEq F (tgt := 22) dX7_lays_6 (by decide) (fun c15 => ?_) (fun c15 => ?_)
  · replace h := okT h c15
    refine vAloadN F dX7_lays_22 (k := 0) rfl ?_
    refine vGetR F (t := 4) dX7_lays_23 fa_X7_26 (cqM_0 hs) rfl ?_
    refine vIloadN F dX7_lays_26 (k := 1) rfl ?_
    obtain ⟨g1, h⟩ := okga h
    refine vIald F dX7_lays_27 (cqM_4 hs) g1 ?_
    refine vIconst F (v := 1) dX7_lays_28 k_1 ?_
    refine vIloadN F dX7_lays_29 (k := 2) rfl ?_
    refine vIshl F dX7_lays_30 ?_
    refine vIconst F (v := (-1)) dX7_lays_31 k_m1 ?_
    refine vIxor F dX7_lays_32 ?_
    refine vIand F dX7_lays_33 ?_
    obtain ⟨g2, h⟩ := okga h
    refine vIast F dX7_lays_34 (cqM_4 hs) g2 ?_
    refine vAloadN F dX7_lays_35 (k := 0) rfl ?_
    refine vGetR F (t := 4) dX7_lays_36 fa_X7_26 (cqM_0 hs) rfl ?_
    refine vIloadN F dX7_lays_39 (k := 2) rfl ?_
    refine vIloadN F dX7_lays_40 (k := 3) rfl ?_
    refine vIfEq F (tgt := 57) dX7_lays_41 (by decide) (fun c7 => ?_) (fun c7 => ?_)
    · replace h := okT h c7
      refine vAloadN F dX7_lays_57 (k := 0) rfl ?_
      refine vGetR F (t := 4) dX7_lays_58 fa_X7_26 (cqM_0 hs) rfl ?_
      refine vIloadN F dX7_lays_61 (k := 2) rfl ?_
      obtain ⟨g3, h⟩ := okga h
      refine vIald F dX7_lays_62 (cqM_4 hs) g3 ?_
      refine vIconst F (v := 1) dX7_lays_63 k_1 ?_
      refine vIloadN F dX7_lays_64 (k := 1) rfl ?_
      refine vIshl F dX7_lays_65 ?_
      refine vIconst F (v := (-1)) dX7_lays_66 k_m1 ?_
      refine vIxor F dX7_lays_67 ?_
      refine vIand F dX7_lays_68 ?_
      obtain ⟨g4, h⟩ := okga h
      refine vIast F dX7_lays_69 (cqM_4 hs) g4 ?_
      have z := okS h
      exact vVret F dX7_lays_70 z
    · replace h := okF h c7
      refine vAloadN F dX7_lays_44 (k := 0) rfl ?_
      refine vGetR F (t := 4) dX7_lays_45 fa_X7_26 (cqM_0 hs) rfl ?_
      refine vIloadN F dX7_lays_48 (k := 2) rfl ?_
      obtain ⟨g5, h⟩ := okga h
      refine vIald F dX7_lays_49 (cqM_4 hs) g5 ?_
      refine vIconst F (v := 1) dX7_lays_50 k_1 ?_
      refine vIloadN F dX7_lays_51 (k := 1) rfl ?_
      refine vIshl F dX7_lays_52 ?_
      refine vIor F dX7_lays_53 ?_
      refine vGoto F (tgt := 69) dX7_lays_54 (by decide) ?_
      obtain ⟨g6, h⟩ := okga h
      refine vIast F dX7_lays_69 (cqM_4 hs) g6 ?_
      have z := okS h
      exact vVret F dX7_lays_70 z
  · replace h := okF h c15
    refine vAloadN F dX7_lays_9 (k := 0) rfl ?_
    refine vGetR F (t := 4) dX7_lays_10 fa_X7_26 (cqM_0 hs) rfl ?_
    refine vIloadN F dX7_lays_13 (k := 1) rfl ?_
    obtain ⟨g8, h⟩ := okga h
    refine vIald F dX7_lays_14 (cqM_4 hs) g8 ?_
    refine vIconst F (v := 1) dX7_lays_15 k_1 ?_
    refine vIloadN F dX7_lays_16 (k := 2) rfl ?_
    refine vIshl F dX7_lays_17 ?_
    refine vIor F dX7_lays_18 ?_
    refine vGoto F (tgt := 34) dX7_lays_19 (by decide) ?_
    obtain ⟨g9, h⟩ := okga h
    refine vIast F dX7_lays_34 (cqM_4 hs) g9 ?_
    refine vAloadN F dX7_lays_35 (k := 0) rfl ?_
    refine vGetR F (t := 4) dX7_lays_36 fa_X7_26 (cqM_0 hs) rfl ?_
    refine vIloadN F dX7_lays_39 (k := 2) rfl ?_
    refine vIloadN F dX7_lays_40 (k := 3) rfl ?_
    refine vIfEq F (tgt := 57) dX7_lays_41 (by decide) (fun c14 => ?_) (fun c14 => ?_)
    · replace h := okT h c14
      refine vAloadN F dX7_lays_57 (k := 0) rfl ?_
      refine vGetR F (t := 4) dX7_lays_58 fa_X7_26 (cqM_0 hs) rfl ?_
      refine vIloadN F dX7_lays_61 (k := 2) rfl ?_
      obtain ⟨g10, h⟩ := okga h
      refine vIald F dX7_lays_62 (cqM_4 hs) g10 ?_
      refine vIconst F (v := 1) dX7_lays_63 k_1 ?_
      refine vIloadN F dX7_lays_64 (k := 1) rfl ?_
      refine vIshl F dX7_lays_65 ?_
      refine vIconst F (v := (-1)) dX7_lays_66 k_m1 ?_
      refine vIxor F dX7_lays_67 ?_
      refine vIand F dX7_lays_68 ?_
      obtain ⟨g11, h⟩ := okga h
      refine vIast F dX7_lays_69 (cqM_4 hs) g11 ?_
      have z := okS h
      exact vVret F dX7_lays_70 z
    · replace h := okF h c14
      refine vAloadN F dX7_lays_44 (k := 0) rfl ?_
      refine vGetR F (t := 4) dX7_lays_45 fa_X7_26 (cqM_0 hs) rfl ?_
      refine vIloadN F dX7_lays_48 (k := 2) rfl ?_
      obtain ⟨g12, h⟩ := okga h
      refine vIald F dX7_lays_49 (cqM_4 hs) g12 ?_
      refine vIconst F (v := 1) dX7_lays_50 k_1 ?_
      refine vIloadN F dX7_lays_51 (k := 1) rfl ?_
      refine vIshl F dX7_lays_52 ?_
      refine vIor F dX7_lays_53 ?_
      refine vGoto F (tgt := 69) dX7_lays_54 (by decide) ?_
      obtain ⟨g13, h⟩ := okga h
      refine vIast F dX7_lays_69 (cqM_4 hs) g13 ?_
      have z := okS h
      exact vVret F dX7_lays_70 z
def Mo_begin (m : Mm) : Int32 :=
  if 0 ≤ (m.1 0 11) then
 (10 * (m.1 0 11))
 else (0)
set_option maxRecDepth 20000 in
set_option maxHeartbeats 4000000 in
theorem Mo_begin_ok {G : Gw} (hG : gOk G) (hs : gsh G = shM) {m : Mm} {P : Option Value → Mm → Prop} (h : P (some (.int (Mo_begin m))) m) : mjR G 0 yX7_begin cX7_begin 1 (some .int) [.ref (gr G 0)] m P := by
  refine mjR_of hG (by decide) (Nat.le_of_ble_eq_true rfl) ?_
  intro X F
  have F : mjF G X cX7_begin RX7 1 0 (some .int) := F
  show mjV G X 1 0 [(0, .ref (gr G 0))] [] m P
  have h : mjO (some (Mo_begin m)) (fun r => P (some (.int r)) m) := ⟨_, rfl, h⟩
  unfold Mo_begin at h
  refine vAloadN F dX7_begin_0 (k := 0) rfl ?_
  refine vGetI F dX7_begin_1 fa_X7_44 (cqM_0 hs) rfl ?_
  refine vIfGe F (tgt := 11) dX7_begin_4 (by decide) (fun c1 => ?_) (fun c1 => ?_)
  · replace h := okTT h c1
    refine vBipush F (v := 10) dX7_begin_11 kb_10 ?_
    refine vAloadN F dX7_begin_13 (k := 0) rfl ?_
    refine vGetI F dX7_begin_14 fa_X7_44 (cqM_0 hs) rfl ?_
    refine vImul F dX7_begin_17 ?_
    have z := okS h
    exact vIret F dX7_begin_18 z
  · replace h := okFT h c1
    refine vIconst F (v := 0) dX7_begin_7 k_0 ?_
    refine vGoto F (tgt := 18) dX7_begin_8 (by decide) ?_
    have z := okS h
    exact vIret F dX7_begin_18 z
def Mo_behind (m : Mm) : Option (Int32) :=
  if 0 ≤ (m.1 0 11) then
 (ga (m.1 0 11) 6 (some ((10 * (m.1 0 11)) + (m.1 10 (m.1 0 11).toNatClampNeg))))
 else (some 0)
set_option maxRecDepth 20000 in
set_option maxHeartbeats 4000000 in
theorem Mo_behind_ok {G : Gw} (hG : gOk G) (hs : gsh G = shM) {m : Mm} {P : Option Value → Mm → Prop} (h : mjO (Mo_behind m) (fun r => P (some (.int r)) m)) : mjR G 0 yX7_behind cX7_behind 1 (some .int) [.ref (gr G 0)] m P := by
  refine mjR_of hG (by decide) (Nat.le_of_ble_eq_true rfl) ?_
  intro X F
  have F : mjF G X cX7_behind RX7 1 0 (some .int) := F
  show mjV G X 1 0 [(0, .ref (gr G 0))] [] m P
  unfold Mo_behind at h
  refine vAloadN F dX7_behind_0 (k := 0) rfl ?_
  refine vGetI F dX7_behind_1 fa_X7_44 (cqM_0 hs) rfl ?_
  refine vIfGe F (tgt := 11) dX7_behind_4 (by decide) (fun c2 => ?_) (fun c2 => ?_)
  · replace h := okT h c2
    refine vBipush F (v := 10) dX7_behind_11 kb_10 ?_
    refine vAloadN F dX7_behind_13 (k := 0) rfl ?_
    refine vGetI F dX7_behind_14 fa_X7_44 (cqM_0 hs) rfl ?_
    refine vImul F dX7_behind_17 ?_
    refine vAloadN F dX7_behind_18 (k := 0) rfl ?_
    refine vGetR F (t := 10) dX7_behind_19 fa_X7_59 (cqM_0 hs) rfl ?_
    refine vAloadN F dX7_behind_22 (k := 0) rfl ?_
    refine vGetI F dX7_behind_23 fa_X7_44 (cqM_0 hs) rfl ?_
    obtain ⟨g1, h⟩ := okga h
    refine vIald F dX7_behind_26 (cqM_10 hs) g1 ?_
    refine vIadd F dX7_behind_27 ?_
    have z := okS h
    exact vIret F dX7_behind_28 z
  · replace h := okF h c2
    refine vIconst F (v := 0) dX7_behind_7 k_0 ?_
    refine vGoto F (tgt := 28) dX7_behind_8 (by decide) ?_
    have z := okS h
    exact vIret F dX7_behind_28 z
def Mo_armsNow_l7 (m : Mm) (s1 : Int32 × Int32) : Option ((Int32 × Int32) ⊕ Int32) :=
  (Mo_behind m).bind fun r3 =>
  if r3 ≤ (s1.2) then
 (some (.inr (s1.1)))
 else (ga (s1.2) 60 (if (m.1 11 (s1.2).toNatClampNeg) = 2 then
 (ga (s1.2) 60 (some (.inl (m.1 12 (s1.2).toNatClampNeg, (s1.2) + 1))))
 else (some (.inl (s1.1, (s1.2) + 1)))))
noncomputable def Mo_armsNow (m : Mm) : Option (Int32) :=
  (iter (Mo_armsNow_l7 m) (4, (Mo_begin m))).bind fun e2 =>
  some e2
set_option maxRecDepth 20000 in
set_option maxHeartbeats 4000000 in
theorem Mo_armsNow_ok {G : Gw} (hG : gOk G) (hs : gsh G = shM) {m : Mm} {P : Option Value → Mm → Prop} (h : mjO (Mo_armsNow m) (fun r => P (some (.int r)) m)) : mjR G 1 yX7_armsNow cX7_armsNow 3 (some .int) [.ref (gr G 0)] m P := by
  refine mjR_of hG (by decide) (Nat.le_of_ble_eq_true rfl) ?_
  intro X F
  have F : mjF G X cX7_armsNow RX7 3 1 (some .int) := F
  show mjV G X 3 0 [(0, .ref (gr G 0))] [] m P
  unfold Mo_armsNow at h
  refine vIconst F (v := 4) dX7_armsNow_0 k_4 ?_
  refine vIstoreN F (L' := [(1, .int 4), (0, .ref (gr G 0))]) dX7_armsNow_1 rfl (by decide) rfl ?_
  refine vAloadN F dX7_armsNow_2 (k := 1) rfl ?_
  refine vCallV F (d' := 0) (x := 0) (T := TX7) (N := 61) (As := []) (st := []) dX7_armsNow_3 lk_X7_268 my_X7_begin mv_X7_begin (cqM_0 hs) rfl (by decide) rfl rfl (Nat.le_of_ble_eq_true rfl) (Mo_begin_ok hG hs ?_)
  show mjV G X 3 6 [(1, .int 4), (0, .ref (gr G 0))] [.int (Mo_begin m)] m P
  refine vIstoreN F (L' := [(2, .int (Mo_begin m)), (1, .int 4), (0, .ref (gr G 0))]) dX7_armsNow_6 rfl (by decide) rfl ?_
  refine vSub [2, 1, 0] rfl ?_
  refine okLoop (s0 := (4, (Mo_begin m))) (T := (fun (s1 : Int32 × Int32) => mjV G X 3 7 [(0, .ref (gr G 0)), (1, .int (s1.1)), (2, .int (s1.2))] [] m P)) (Ve := (fun (e2 : Int32) => mjV G X 3 42 [(1, .int e2)] [] m P)) h ?_ (fun s1 h => ?_)
  · intro e2 h
    refine vIloadN F dX7_armsNow_42 (k := 0) rfl ?_
    have z := okS h
    exact vIret F dX7_armsNow_43 z
  · unfold Mo_armsNow_l7 at h
    refine vIloadN F dX7_armsNow_7 (k := 2) rfl ?_
    refine vAloadN F dX7_armsNow_8 (k := 0) rfl ?_
    refine vCallV F (d' := 0) (x := 0) (T := TX7) (N := 61) (As := []) (st := [.int (s1.2)]) dX7_armsNow_9 lk_X7_271 my_X7_behind mv_X7_behind (cqM_0 hs) rfl (by decide) rfl rfl (Nat.le_of_ble_eq_true rfl) (Mo_behind_ok hG hs (okB h fun r3 h => ?_))
    show mjV G X 3 12 [(0, .ref (gr G 0)), (1, .int (s1.1)), (2, .int (s1.2))] [.int r3, .int (s1.2)] m P
    refine vIcmpGe F (tgt := 42) dX7_armsNow_12 (by decide) (fun c7 => ?_) (fun c7 => ?_)
    · replace h := okT h c7
      refine vSub [1] rfl ?_
      have z := okR h
      exact z
    · replace h := okF h c7
      refine vAloadN F dX7_armsNow_15 (k := 0) rfl ?_
      refine vGetR F (t := 11) dX7_armsNow_16 fa_X7_62 (cqM_0 hs) rfl ?_
      refine vIloadN F dX7_armsNow_19 (k := 2) rfl ?_
      obtain ⟨g4, h⟩ := okga h
      refine vIald F dX7_armsNow_20 (cqM_11 hs) g4 ?_
      refine vIconst F (v := 2) dX7_armsNow_21 k_2 ?_
      refine vIcmpNe F (tgt := 34) dX7_armsNow_22 (by decide) (fun c6 => ?_) (fun c6 => ?_)
      · replace h := okF h c6
        refine vIloadN F dX7_armsNow_34 (k := 1) rfl ?_
        refine vIstoreN F (L' := [(1, .int (s1.1)), (0, .ref (gr G 0)), (2, .int (s1.2))]) dX7_armsNow_35 rfl (by decide) rfl ?_
        refine vIinc F (v := 1) (k := 2) (L' := [(2, .int ((s1.2) + 1)), (1, .int (s1.1)), (0, .ref (gr G 0))]) dX7_armsNow_36 rfl k_1 (by decide) rfl ?_
        refine vGoto F (tgt := 7) dX7_armsNow_39 (by decide) ?_
        refine vSub [2, 1, 0] rfl ?_
        have z := okL h
        exact z
      · replace h := okT h c6
        refine vAloadN F dX7_armsNow_25 (k := 0) rfl ?_
        refine vGetR F (t := 12) dX7_armsNow_26 fa_X7_65 (cqM_0 hs) rfl ?_
        refine vIloadN F dX7_armsNow_29 (k := 2) rfl ?_
        obtain ⟨g5, h⟩ := okga h
        refine vIald F dX7_armsNow_30 (cqM_12 hs) g5 ?_
        refine vGoto F (tgt := 35) dX7_armsNow_31 (by decide) ?_
        refine vIstoreN F (L' := [(1, .int (m.1 12 (s1.2).toNatClampNeg)), (0, .ref (gr G 0)), (2, .int (s1.2))]) dX7_armsNow_35 rfl (by decide) rfl ?_
        refine vIinc F (v := 1) (k := 2) (L' := [(2, .int ((s1.2) + 1)), (1, .int (m.1 12 (s1.2).toNatClampNeg)), (0, .ref (gr G 0))]) dX7_armsNow_36 rfl k_1 (by decide) rfl ?_
        refine vGoto F (tgt := 7) dX7_armsNow_39 (by decide) ?_
        refine vSub [2, 1, 0] rfl ?_
        have z := okL h
        exact z
noncomputable def Mo_name (m : Mm) (a1 : Int32) (a2 : Int32) : Option (Int32 × Mm) :=
  if (Mo_arePlaces m a1 a2) = true then
 (if a1 = a2 then
 (some ((-2), m))
 else (ga a1 7 (if (Mo_has (m.1 4 a1.toNatClampNeg) a2) = true then
 (some ((-3), m))
 else (ga a1 7 ((Mo_ones (m.1 4 a1.toNatClampNeg)).bind fun r3 =>
  (Mo_armsNow m).bind fun r4 =>
  if r4 ≤ r3 then
 (some ((-4), m))
 else (ga a2 7 ((Mo_ones (m.1 4 a2.toNatClampNeg)).bind fun r6 =>
  (Mo_armsNow m).bind fun r7 =>
  if r6 < r7 then
 ((Mo_lays m a1 a2 1).bind fun r8 =>
  ga a1 7 ((Mo_ones (r8.1 4 a1.toNatClampNeg)).bind fun r10 =>
  some (r10, r8)))
 else (some ((-4), m)))))))))
 else (some ((-1), m))
set_option maxRecDepth 20000 in
set_option maxHeartbeats 4000000 in
theorem Mo_name_ok {G : Gw} (hG : gOk G) (hs : gsh G = shM) {a1 : Int32} {a2 : Int32} {m : Mm} {P : Option Value → Mm → Prop} (h : mjO (Mo_name m a1 a2) (fun r => P (some (.int r.1)) r.2)) : mjR G 3 yX7_name cX7_name 3 (some .int) [.ref (gr G 0), .int a1, .int a2] m P := by
  refine mjR_of hG (by decide) (Nat.le_of_ble_eq_true rfl) ?_
  intro X F
  have F : mjF G X cX7_name RX7 3 3 (some .int) := F
  show mjV G X 3 0 [(0, .ref (gr G 0)), (1, .int a1), (2, .int a2)] [] m P
  unfold Mo_name at h
  refine vAloadN F dX7_name_0 (k := 0) rfl ?_
  refine vIloadN F dX7_name_1 (k := 1) rfl ?_
  refine vIloadN F dX7_name_2 (k := 2) rfl ?_
  refine vCallV F (d' := 2) (x := 0) (T := TX7) (N := 61) (As := [.int a1, .int a2]) (st := []) dX7_name_3 lk_X7_205 my_X7_arePlaces mv_X7_arePlaces (cqM_0 hs) rfl (by decide) rfl rfl (Nat.le_of_ble_eq_true rfl) (Mo_arePlaces_ok hG hs ?_)
  show mjV G X 3 6 [(0, .ref (gr G 0)), (1, .int a1), (2, .int a2)] [.int (bI (Mo_arePlaces m a1 a2))] m P
  refine vIfNeB F (tgt := 11) dX7_name_6 (by decide) (fun c15 => ?_) (fun c15 => ?_)
  · replace h := okT h c15
    refine vIloadN F dX7_name_11 (k := 1) rfl ?_
    refine vIloadN F dX7_name_12 (k := 2) rfl ?_
    refine vIcmpNe F (tgt := 19) dX7_name_13 (by decide) (fun c14 => ?_) (fun c14 => ?_)
    · replace h := okF h c14
      refine vAloadN F dX7_name_19 (k := 0) rfl ?_
      refine vAloadN F dX7_name_20 (k := 0) rfl ?_
      refine vGetR F (t := 4) dX7_name_21 fa_X7_26 (cqM_0 hs) rfl ?_
      refine vIloadN F dX7_name_24 (k := 1) rfl ?_
      obtain ⟨g1, h⟩ := okga h
      refine vIald F dX7_name_25 (cqM_4 hs) g1 ?_
      refine vIloadN F dX7_name_26 (k := 2) rfl ?_
      refine vCallV F (d' := 0) (x := 0) (T := TX7) (N := 61) (As := [.int (m.1 4 a1.toNatClampNeg), .int a2]) (st := []) dX7_name_27 lk_X7_209 my_X7_has mv_X7_has (cqM_0 hs) rfl (by decide) rfl rfl (Nat.le_of_ble_eq_true rfl) (Mo_has_ok hG hs ?_)
      show mjV G X 3 30 [(0, .ref (gr G 0)), (1, .int a1), (2, .int a2)] [.int (bI (Mo_has (m.1 4 a1.toNatClampNeg) a2))] m P
      refine vIfEqB F (tgt := 36) dX7_name_30 (by decide) (fun c13 => ?_) (fun c13 => ?_)
      · replace h := okF h c13
        refine vAloadN F dX7_name_36 (k := 0) rfl ?_
        refine vAloadN F dX7_name_37 (k := 0) rfl ?_
        refine vGetR F (t := 4) dX7_name_38 fa_X7_26 (cqM_0 hs) rfl ?_
        refine vIloadN F dX7_name_41 (k := 1) rfl ?_
        obtain ⟨g2, h⟩ := okga h
        refine vIald F dX7_name_42 (cqM_4 hs) g2 ?_
        refine vCallV F (d' := 0) (x := 0) (T := TX7) (N := 61) (As := [.int (m.1 4 a1.toNatClampNeg)]) (st := []) dX7_name_43 lk_X7_212 my_X7_ones mv_X7_ones (cqM_0 hs) rfl (by decide) rfl rfl (Nat.le_of_ble_eq_true rfl) (Mo_ones_ok hG hs (okB h fun r3 h => ?_))
        show mjV G X 3 46 [(0, .ref (gr G 0)), (1, .int a1), (2, .int a2)] [.int r3] m P
        refine vAloadN F dX7_name_46 (k := 0) rfl ?_
        refine vCallV F (d' := 1) (x := 0) (T := TX7) (N := 61) (As := []) (st := [.int r3]) dX7_name_47 lk_X7_216 my_X7_armsNow mv_X7_armsNow (cqM_0 hs) rfl (by decide) rfl rfl (Nat.le_of_ble_eq_true rfl) (Mo_armsNow_ok hG hs (okB h fun r4 h => ?_))
        show mjV G X 3 50 [(0, .ref (gr G 0)), (1, .int a1), (2, .int a2)] [.int r4, .int r3] m P
        refine vIcmpGe F (tgt := 70) dX7_name_50 (by decide) (fun c12 => ?_) (fun c12 => ?_)
        · replace h := okT h c12
          refine vBipush F (v := (-4)) dX7_name_70 kb_m4 ?_
          have z := okS h
          exact vIret F dX7_name_72 z
        · replace h := okF h c12
          refine vAloadN F dX7_name_53 (k := 0) rfl ?_
          refine vAloadN F dX7_name_54 (k := 0) rfl ?_
          refine vGetR F (t := 4) dX7_name_55 fa_X7_26 (cqM_0 hs) rfl ?_
          refine vIloadN F dX7_name_58 (k := 2) rfl ?_
          obtain ⟨g5, h⟩ := okga h
          refine vIald F dX7_name_59 (cqM_4 hs) g5 ?_
          refine vCallV F (d' := 0) (x := 0) (T := TX7) (N := 61) (As := [.int (m.1 4 a2.toNatClampNeg)]) (st := []) dX7_name_60 lk_X7_212 my_X7_ones mv_X7_ones (cqM_0 hs) rfl (by decide) rfl rfl (Nat.le_of_ble_eq_true rfl) (Mo_ones_ok hG hs (okB h fun r6 h => ?_))
          show mjV G X 3 63 [(0, .ref (gr G 0)), (1, .int a1), (2, .int a2)] [.int r6] m P
          refine vAloadN F dX7_name_63 (k := 0) rfl ?_
          refine vCallV F (d' := 1) (x := 0) (T := TX7) (N := 61) (As := []) (st := [.int r6]) dX7_name_64 lk_X7_216 my_X7_armsNow mv_X7_armsNow (cqM_0 hs) rfl (by decide) rfl rfl (Nat.le_of_ble_eq_true rfl) (Mo_armsNow_ok hG hs (okB h fun r7 h => ?_))
          show mjV G X 3 67 [(0, .ref (gr G 0)), (1, .int a1), (2, .int a2)] [.int r7, .int r6] m P
          refine vIcmpLt F (tgt := 73) dX7_name_67 (by decide) (fun c11 => ?_) (fun c11 => ?_)
          · replace h := okT h c11
            refine vAloadN F dX7_name_73 (k := 0) rfl ?_
            refine vIloadN F dX7_name_74 (k := 1) rfl ?_
            refine vIloadN F dX7_name_75 (k := 2) rfl ?_
            refine vIconst F (v := 1) dX7_name_76 k_1 ?_
            refine vCallV F (d' := 0) (x := 0) (T := TX7) (N := 61) (As := [.int a1, .int a2, .int 1]) (st := []) dX7_name_77 lk_X7_220 my_X7_lays mv_X7_lays (cqM_0 hs) rfl (by decide) rfl rfl (Nat.le_of_ble_eq_true rfl) (Mo_lays_ok hG hs (okB h fun r8 h => ?_))
            show mjV G X 3 80 [(0, .ref (gr G 0)), (1, .int a1), (2, .int a2)] [] r8 P
            refine vAloadN F dX7_name_80 (k := 0) rfl ?_
            refine vAloadN F dX7_name_81 (k := 0) rfl ?_
            refine vGetR F (t := 4) dX7_name_82 fa_X7_26 (cqM_0 hs) rfl ?_
            refine vIloadN F dX7_name_85 (k := 1) rfl ?_
            obtain ⟨g9, h⟩ := okga h
            refine vIald F dX7_name_86 (cqM_4 hs) g9 ?_
            refine vCallV F (d' := 0) (x := 0) (T := TX7) (N := 61) (As := [.int (r8.1 4 a1.toNatClampNeg)]) (st := []) dX7_name_87 lk_X7_212 my_X7_ones mv_X7_ones (cqM_0 hs) rfl (by decide) rfl rfl (Nat.le_of_ble_eq_true rfl) (Mo_ones_ok hG hs (okB h fun r10 h => ?_))
            show mjV G X 3 90 [(0, .ref (gr G 0)), (1, .int a1), (2, .int a2)] [.int r10] r8 P
            have z := okS h
            exact vIret F dX7_name_90 z
          · replace h := okF h c11
            refine vBipush F (v := (-4)) dX7_name_70 kb_m4 ?_
            have z := okS h
            exact vIret F dX7_name_72 z
      · replace h := okT h c13
        refine vBipush F (v := (-3)) dX7_name_33 kb_m3 ?_
        have z := okS h
        exact vIret F dX7_name_35 z
    · replace h := okT h c14
      refine vBipush F (v := (-2)) dX7_name_16 kb_m2 ?_
      have z := okS h
      exact vIret F dX7_name_18 z
  · replace h := okF h c15
    refine vIconst F (v := (-1)) dX7_name_9 k_m1 ?_
    have z := okS h
    exact vIret F dX7_name_10 z
noncomputable def Mo_strike (m : Mm) (a1 : Int32) (a2 : Int32) : Option (Int32 × Mm) :=
  if (Mo_arePlaces m a1 a2) = true then
 (ga a1 7 (if (Mo_has (m.1 4 a1.toNatClampNeg) a2) = true then
 ((Mo_lays m a1 a2 0).bind fun r2 =>
  ga a1 7 ((Mo_ones (r2.1 4 a1.toNatClampNeg)).bind fun r4 =>
  some (r4, r2)))
 else (some ((-3), m))))
 else (some ((-1), m))
set_option maxRecDepth 20000 in
set_option maxHeartbeats 4000000 in
theorem Mo_strike_ok {G : Gw} (hG : gOk G) (hs : gsh G = shM) {a1 : Int32} {a2 : Int32} {m : Mm} {P : Option Value → Mm → Prop} (h : mjO (Mo_strike m a1 a2) (fun r => P (some (.int r.1)) r.2)) : mjR G 3 yX7_strike cX7_strike 3 (some .int) [.ref (gr G 0), .int a1, .int a2] m P := by
  refine mjR_of hG (by decide) (Nat.le_of_ble_eq_true rfl) ?_
  intro X F
  have F : mjF G X cX7_strike RX7 3 3 (some .int) := F
  show mjV G X 3 0 [(0, .ref (gr G 0)), (1, .int a1), (2, .int a2)] [] m P
  unfold Mo_strike at h
  refine vAloadN F dX7_strike_0 (k := 0) rfl ?_
  refine vIloadN F dX7_strike_1 (k := 1) rfl ?_
  refine vIloadN F dX7_strike_2 (k := 2) rfl ?_
  refine vCallV F (d' := 2) (x := 0) (T := TX7) (N := 61) (As := [.int a1, .int a2]) (st := []) dX7_strike_3 lk_X7_205 my_X7_arePlaces mv_X7_arePlaces (cqM_0 hs) rfl (by decide) rfl rfl (Nat.le_of_ble_eq_true rfl) (Mo_arePlaces_ok hG hs ?_)
  show mjV G X 3 6 [(0, .ref (gr G 0)), (1, .int a1), (2, .int a2)] [.int (bI (Mo_arePlaces m a1 a2))] m P
  refine vIfNeB F (tgt := 11) dX7_strike_6 (by decide) (fun c6 => ?_) (fun c6 => ?_)
  · replace h := okT h c6
    refine vAloadN F dX7_strike_11 (k := 0) rfl ?_
    refine vAloadN F dX7_strike_12 (k := 0) rfl ?_
    refine vGetR F (t := 4) dX7_strike_13 fa_X7_26 (cqM_0 hs) rfl ?_
    refine vIloadN F dX7_strike_16 (k := 1) rfl ?_
    obtain ⟨g1, h⟩ := okga h
    refine vIald F dX7_strike_17 (cqM_4 hs) g1 ?_
    refine vIloadN F dX7_strike_18 (k := 2) rfl ?_
    refine vCallV F (d' := 0) (x := 0) (T := TX7) (N := 61) (As := [.int (m.1 4 a1.toNatClampNeg), .int a2]) (st := []) dX7_strike_19 lk_X7_209 my_X7_has mv_X7_has (cqM_0 hs) rfl (by decide) rfl rfl (Nat.le_of_ble_eq_true rfl) (Mo_has_ok hG hs ?_)
    show mjV G X 3 22 [(0, .ref (gr G 0)), (1, .int a1), (2, .int a2)] [.int (bI (Mo_has (m.1 4 a1.toNatClampNeg) a2))] m P
    refine vIfNeB F (tgt := 28) dX7_strike_22 (by decide) (fun c5 => ?_) (fun c5 => ?_)
    · replace h := okT h c5
      refine vAloadN F dX7_strike_28 (k := 0) rfl ?_
      refine vIloadN F dX7_strike_29 (k := 1) rfl ?_
      refine vIloadN F dX7_strike_30 (k := 2) rfl ?_
      refine vIconst F (v := 0) dX7_strike_31 k_0 ?_
      refine vCallV F (d' := 0) (x := 0) (T := TX7) (N := 61) (As := [.int a1, .int a2, .int 0]) (st := []) dX7_strike_32 lk_X7_220 my_X7_lays mv_X7_lays (cqM_0 hs) rfl (by decide) rfl rfl (Nat.le_of_ble_eq_true rfl) (Mo_lays_ok hG hs (okB h fun r2 h => ?_))
      show mjV G X 3 35 [(0, .ref (gr G 0)), (1, .int a1), (2, .int a2)] [] r2 P
      refine vAloadN F dX7_strike_35 (k := 0) rfl ?_
      refine vAloadN F dX7_strike_36 (k := 0) rfl ?_
      refine vGetR F (t := 4) dX7_strike_37 fa_X7_26 (cqM_0 hs) rfl ?_
      refine vIloadN F dX7_strike_40 (k := 1) rfl ?_
      obtain ⟨g3, h⟩ := okga h
      refine vIald F dX7_strike_41 (cqM_4 hs) g3 ?_
      refine vCallV F (d' := 0) (x := 0) (T := TX7) (N := 61) (As := [.int (r2.1 4 a1.toNatClampNeg)]) (st := []) dX7_strike_42 lk_X7_212 my_X7_ones mv_X7_ones (cqM_0 hs) rfl (by decide) rfl rfl (Nat.le_of_ble_eq_true rfl) (Mo_ones_ok hG hs (okB h fun r4 h => ?_))
      show mjV G X 3 45 [(0, .ref (gr G 0)), (1, .int a1), (2, .int a2)] [.int r4] r2 P
      have z := okS h
      exact vIret F dX7_strike_45 z
    · replace h := okF h c5
      refine vBipush F (v := (-3)) dX7_strike_25 kb_m3 ?_
      have z := okS h
      exact vIret F dX7_strike_27 z
  · replace h := okF h c6
    refine vIconst F (v := (-1)) dX7_strike_9 k_m1 ?_
    have z := okS h
    exact vIret F dX7_strike_10 z
def Mo_traveller (m : Mm) (a1 : Int32) (a2 : Int32) (a3 : Int32) : Option (Int32 × Mm) :=
  if (Mo_arePlaces m a1 a2) = true then
 (if a1 = a2 then
 (some ((-2), m))
 else (if (Mo_in a3 1 99) = true then
 (if (m.1 0 1) = 8 then
 (some ((-4), m))
 else (ga (m.1 0 1) 8 (ga ((si m 6 (m.1 0 1).toNatClampNeg a1).1 0 1) 8 (ga ((si (si m 6 (m.1 0 1).toNatClampNeg a1) 7 ((si m 6 (m.1 0 1).toNatClampNeg a1).1 0 1).toNatClampNeg a2).1 0 1) 8 (some (((si (si (si (si m 6 (m.1 0 1).toNatClampNeg a1) 7 ((si m 6 (m.1 0 1).toNatClampNeg a1).1 0 1).toNatClampNeg a2) 8 ((si (si m 6 (m.1 0 1).toNatClampNeg a1) 7 ((si m 6 (m.1 0 1).toNatClampNeg a1).1 0 1).toNatClampNeg a2).1 0 1).toNatClampNeg a3) 0 1 (((si (si (si m 6 (m.1 0 1).toNatClampNeg a1) 7 ((si m 6 (m.1 0 1).toNatClampNeg a1).1 0 1).toNatClampNeg a2) 8 ((si (si m 6 (m.1 0 1).toNatClampNeg a1) 7 ((si m 6 (m.1 0 1).toNatClampNeg a1).1 0 1).toNatClampNeg a2).1 0 1).toNatClampNeg a3).1 0 1) + 1)).1 0 1) - 1, si (si (si (si m 6 (m.1 0 1).toNatClampNeg a1) 7 ((si m 6 (m.1 0 1).toNatClampNeg a1).1 0 1).toNatClampNeg a2) 8 ((si (si m 6 (m.1 0 1).toNatClampNeg a1) 7 ((si m 6 (m.1 0 1).toNatClampNeg a1).1 0 1).toNatClampNeg a2).1 0 1).toNatClampNeg a3) 0 1 (((si (si (si m 6 (m.1 0 1).toNatClampNeg a1) 7 ((si m 6 (m.1 0 1).toNatClampNeg a1).1 0 1).toNatClampNeg a2) 8 ((si (si m 6 (m.1 0 1).toNatClampNeg a1) 7 ((si m 6 (m.1 0 1).toNatClampNeg a1).1 0 1).toNatClampNeg a2).1 0 1).toNatClampNeg a3).1 0 1) + 1)))))))
 else (some ((-2), m))))
 else (some ((-1), m))
set_option maxRecDepth 20000 in
set_option maxHeartbeats 4000000 in
theorem Mo_traveller_ok {G : Gw} (hG : gOk G) (hs : gsh G = shM) {a1 : Int32} {a2 : Int32} {a3 : Int32} {m : Mm} {P : Option Value → Mm → Prop} (h : mjO (Mo_traveller m a1 a2 a3) (fun r => P (some (.int r.1)) r.2)) : mjR G 3 yX7_traveller cX7_traveller 4 (some .int) [.ref (gr G 0), .int a1, .int a2, .int a3] m P := by
  refine mjR_of hG (by decide) (Nat.le_of_ble_eq_true rfl) ?_
  intro X F
  have F : mjF G X cX7_traveller RX7 4 3 (some .int) := F
  show mjV G X 4 0 [(0, .ref (gr G 0)), (1, .int a1), (2, .int a2), (3, .int a3)] [] m P
  unfold Mo_traveller at h
  refine vAloadN F dX7_traveller_0 (k := 0) rfl ?_
  refine vIloadN F dX7_traveller_1 (k := 1) rfl ?_
  refine vIloadN F dX7_traveller_2 (k := 2) rfl ?_
  refine vCallV F (d' := 2) (x := 0) (T := TX7) (N := 61) (As := [.int a1, .int a2]) (st := []) dX7_traveller_3 lk_X7_205 my_X7_arePlaces mv_X7_arePlaces (cqM_0 hs) rfl (by decide) rfl rfl (Nat.le_of_ble_eq_true rfl) (Mo_arePlaces_ok hG hs ?_)
  show mjV G X 4 6 [(0, .ref (gr G 0)), (1, .int a1), (2, .int a2), (3, .int a3)] [.int (bI (Mo_arePlaces m a1 a2))] m P
  refine vIfNeB F (tgt := 11) dX7_traveller_6 (by decide) (fun c7 => ?_) (fun c7 => ?_)
  · replace h := okT h c7
    refine vIloadN F dX7_traveller_11 (k := 1) rfl ?_
    refine vIloadN F dX7_traveller_12 (k := 2) rfl ?_
    refine vIcmpEq F (tgt := 27) dX7_traveller_13 (by decide) (fun c6 => ?_) (fun c6 => ?_)
    · replace h := okT h c6
      refine vBipush F (v := (-2)) dX7_traveller_27 kb_m2 ?_
      have z := okS h
      exact vIret F dX7_traveller_29 z
    · replace h := okF h c6
      refine vAloadN F dX7_traveller_16 (k := 0) rfl ?_
      refine vIloadN F dX7_traveller_17 (k := 3) rfl ?_
      refine vIconst F (v := 1) dX7_traveller_18 k_1 ?_
      refine vBipush F (v := 99) dX7_traveller_19 kb_99 ?_
      refine vCallV F (d' := 0) (x := 0) (T := TX7) (N := 61) (As := [.int a3, .int 1, .int 99]) (st := []) dX7_traveller_21 lk_X7_197 my_X7_in mv_X7_in (cqM_0 hs) rfl (by decide) rfl rfl (Nat.le_of_ble_eq_true rfl) (Mo_in_ok hG hs ?_)
      show mjV G X 4 24 [(0, .ref (gr G 0)), (1, .int a1), (2, .int a2), (3, .int a3)] [.int (bI (Mo_in a3 1 99))] m P
      refine vIfNeB F (tgt := 30) dX7_traveller_24 (by decide) (fun c5 => ?_) (fun c5 => ?_)
      · replace h := okT h c5
        refine vAloadN F dX7_traveller_30 (k := 0) rfl ?_
        refine vGetI F dX7_traveller_31 fa_X7_13 (cqM_0 hs) rfl ?_
        refine vBipush F (v := 8) dX7_traveller_34 kb_8 ?_
        refine vIcmpNe F (tgt := 42) dX7_traveller_36 (by decide) (fun c4 => ?_) (fun c4 => ?_)
        · replace h := okF h c4
          refine vAloadN F dX7_traveller_42 (k := 0) rfl ?_
          refine vGetR F (t := 6) dX7_traveller_43 fa_X7_32 (cqM_0 hs) rfl ?_
          refine vAloadN F dX7_traveller_46 (k := 0) rfl ?_
          refine vGetI F dX7_traveller_47 fa_X7_13 (cqM_0 hs) rfl ?_
          refine vIloadN F dX7_traveller_50 (k := 1) rfl ?_
          obtain ⟨g1, h⟩ := okga h
          refine vIast F dX7_traveller_51 (cqM_6 hs) g1 ?_
          refine vAloadN F dX7_traveller_52 (k := 0) rfl ?_
          refine vGetR F (t := 7) dX7_traveller_53 fa_X7_35 (cqM_0 hs) rfl ?_
          refine vAloadN F dX7_traveller_56 (k := 0) rfl ?_
          refine vGetI F dX7_traveller_57 fa_X7_13 (cqM_0 hs) rfl ?_
          refine vIloadN F dX7_traveller_60 (k := 2) rfl ?_
          obtain ⟨g2, h⟩ := okga h
          refine vIast F dX7_traveller_61 (cqM_7 hs) g2 ?_
          refine vAloadN F dX7_traveller_62 (k := 0) rfl ?_
          refine vGetR F (t := 8) dX7_traveller_63 fa_X7_38 (cqM_0 hs) rfl ?_
          refine vAloadN F dX7_traveller_66 (k := 0) rfl ?_
          refine vGetI F dX7_traveller_67 fa_X7_13 (cqM_0 hs) rfl ?_
          refine vIloadN F dX7_traveller_70 (k := 3) rfl ?_
          obtain ⟨g3, h⟩ := okga h
          refine vIast F dX7_traveller_71 (cqM_8 hs) g3 ?_
          refine vAloadN F dX7_traveller_72 (k := 0) rfl ?_
          refine vDup F dX7_traveller_73 rfl ?_
          refine vGetI F dX7_traveller_74 fa_X7_13 (cqM_0 hs) rfl ?_
          refine vIconst F (v := 1) dX7_traveller_77 k_1 ?_
          refine vIadd F dX7_traveller_78 ?_
          refine vPutI F dX7_traveller_79 fw_X7_13 (cqM_0 hs) rfl ⟨rfl, rfl⟩ ?_
          refine vAloadN F dX7_traveller_82 (k := 0) rfl ?_
          refine vGetI F dX7_traveller_83 fa_X7_13 (cqM_0 hs) rfl ?_
          refine vIconst F (v := 1) dX7_traveller_86 k_1 ?_
          refine vIsub F dX7_traveller_87 ?_
          have z := okS h
          exact vIret F dX7_traveller_88 z
        · replace h := okT h c4
          refine vBipush F (v := (-4)) dX7_traveller_39 kb_m4 ?_
          have z := okS h
          exact vIret F dX7_traveller_41 z
      · replace h := okF h c5
        refine vBipush F (v := (-2)) dX7_traveller_27 kb_m2 ?_
        have z := okS h
        exact vIret F dX7_traveller_29 z
  · replace h := okF h c7
    refine vIconst F (v := (-1)) dX7_traveller_9 k_m1 ?_
    have z := okS h
    exact vIret F dX7_traveller_10 z
def Mo_feed (m : Mm) (a1 : Int32) : Option (Int32 × Mm) :=
  if (Mo_in a1 0 127) = true then
 (if (m.1 0 12) = 100 then
 (some ((-4), m))
 else (ga (m.1 0 12) 100 (some ((si (si m 9 (m.1 0 12).toNatClampNeg a1) 0 12 (((si m 9 (m.1 0 12).toNatClampNeg a1).1 0 12) + 1)).1 0 12, si (si m 9 (m.1 0 12).toNatClampNeg a1) 0 12 (((si m 9 (m.1 0 12).toNatClampNeg a1).1 0 12) + 1)))))
 else (some ((-2), m))
set_option maxRecDepth 20000 in
set_option maxHeartbeats 4000000 in
theorem Mo_feed_ok {G : Gw} (hG : gOk G) (hs : gsh G = shM) {a1 : Int32} {m : Mm} {P : Option Value → Mm → Prop} (h : mjO (Mo_feed m a1) (fun r => P (some (.int r.1)) r.2)) : mjR G 1 yX7_feed cX7_feed 2 (some .int) [.ref (gr G 0), .int a1] m P := by
  refine mjR_of hG (by decide) (Nat.le_of_ble_eq_true rfl) ?_
  intro X F
  have F : mjF G X cX7_feed RX7 2 1 (some .int) := F
  show mjV G X 2 0 [(0, .ref (gr G 0)), (1, .int a1)] [] m P
  unfold Mo_feed at h
  refine vAloadN F dX7_feed_0 (k := 0) rfl ?_
  refine vIloadN F dX7_feed_1 (k := 1) rfl ?_
  refine vIconst F (v := 0) dX7_feed_2 k_0 ?_
  refine vBipush F (v := 127) dX7_feed_3 kb_127 ?_
  refine vCallV F (d' := 0) (x := 0) (T := TX7) (N := 61) (As := [.int a1, .int 0, .int 127]) (st := []) dX7_feed_5 lk_X7_197 my_X7_in mv_X7_in (cqM_0 hs) rfl (by decide) rfl rfl (Nat.le_of_ble_eq_true rfl) (Mo_in_ok hG hs ?_)
  show mjV G X 2 8 [(0, .ref (gr G 0)), (1, .int a1)] [.int (bI (Mo_in a1 0 127))] m P
  refine vIfNeB F (tgt := 14) dX7_feed_8 (by decide) (fun c3 => ?_) (fun c3 => ?_)
  · replace h := okT h c3
    refine vAloadN F dX7_feed_14 (k := 0) rfl ?_
    refine vGetI F dX7_feed_15 fa_X7_47 (cqM_0 hs) rfl ?_
    refine vBipush F (v := 100) dX7_feed_18 kb_100 ?_
    refine vIcmpNe F (tgt := 26) dX7_feed_20 (by decide) (fun c2 => ?_) (fun c2 => ?_)
    · replace h := okF h c2
      refine vAloadN F dX7_feed_26 (k := 0) rfl ?_
      refine vGetR F (t := 9) dX7_feed_27 fa_X7_56 (cqM_0 hs) rfl ?_
      refine vAloadN F dX7_feed_30 (k := 0) rfl ?_
      refine vGetI F dX7_feed_31 fa_X7_47 (cqM_0 hs) rfl ?_
      refine vIloadN F dX7_feed_34 (k := 1) rfl ?_
      obtain ⟨g1, h⟩ := okga h
      refine vIast F dX7_feed_35 (cqM_9 hs) g1 ?_
      refine vAloadN F dX7_feed_36 (k := 0) rfl ?_
      refine vDup F dX7_feed_37 rfl ?_
      refine vGetI F dX7_feed_38 fa_X7_47 (cqM_0 hs) rfl ?_
      refine vIconst F (v := 1) dX7_feed_41 k_1 ?_
      refine vIadd F dX7_feed_42 ?_
      refine vPutI F dX7_feed_43 fw_X7_47 (cqM_0 hs) rfl ⟨rfl, rfl⟩ ?_
      refine vAloadN F dX7_feed_46 (k := 0) rfl ?_
      refine vGetI F dX7_feed_47 fa_X7_47 (cqM_0 hs) rfl ?_
      have z := okS h
      exact vIret F dX7_feed_50 z
    · replace h := okT h c2
      refine vBipush F (v := (-4)) dX7_feed_23 kb_m4 ?_
      have z := okS h
      exact vIret F dX7_feed_25 z
  · replace h := okF h c3
    refine vBipush F (v := (-2)) dX7_feed_11 kb_m2 ?_
    have z := okS h
    exact vIret F dX7_feed_13 z
def Mo_peek (m : Mm) : Option (Int32) :=
  if (m.1 0 12) ≤ (m.1 0 13) then
 (some (-1))
 else (ga (m.1 0 13) 100 (some (m.1 9 (m.1 0 13).toNatClampNeg)))
set_option maxRecDepth 20000 in
set_option maxHeartbeats 4000000 in
theorem Mo_peek_ok {G : Gw} (hG : gOk G) (hs : gsh G = shM) {m : Mm} {P : Option Value → Mm → Prop} (h : mjO (Mo_peek m) (fun r => P (some (.int r)) m)) : mjR G 0 yX7_peek cX7_peek 1 (some .int) [.ref (gr G 0)] m P := by
  refine mjR_of hG (by decide) (Nat.le_of_ble_eq_true rfl) ?_
  intro X F
  have F : mjF G X cX7_peek RX7 1 0 (some .int) := F
  show mjV G X 1 0 [(0, .ref (gr G 0))] [] m P
  unfold Mo_peek at h
  refine vAloadN F dX7_peek_0 (k := 0) rfl ?_
  refine vGetI F dX7_peek_1 fa_X7_50 (cqM_0 hs) rfl ?_
  refine vAloadN F dX7_peek_4 (k := 0) rfl ?_
  refine vGetI F dX7_peek_5 fa_X7_47 (cqM_0 hs) rfl ?_
  refine vIcmpGe F (tgt := 23) dX7_peek_8 (by decide) (fun c2 => ?_) (fun c2 => ?_)
  · replace h := okT h c2
    refine vIconst F (v := (-1)) dX7_peek_23 k_m1 ?_
    have z := okS h
    exact vIret F dX7_peek_24 z
  · replace h := okF h c2
    refine vAloadN F dX7_peek_11 (k := 0) rfl ?_
    refine vGetR F (t := 9) dX7_peek_12 fa_X7_56 (cqM_0 hs) rfl ?_
    refine vAloadN F dX7_peek_15 (k := 0) rfl ?_
    refine vGetI F dX7_peek_16 fa_X7_50 (cqM_0 hs) rfl ?_
    obtain ⟨g1, h⟩ := okga h
    refine vIald F dX7_peek_19 (cqM_9 hs) g1 ?_
    refine vGoto F (tgt := 24) dX7_peek_20 (by decide) ?_
    have z := okS h
    exact vIret F dX7_peek_24 z
def Mo_takes (m : Mm) (a1 : Int32) : Option (Bool × Mm) :=
  (Mo_peek m).bind fun r1 =>
  if r1 = a1 then
 (some (true, si m 0 13 ((m.1 0 13) + 1)))
 else (some (false, m))
set_option maxRecDepth 20000 in
set_option maxHeartbeats 4000000 in
theorem Mo_takes_ok {G : Gw} (hG : gOk G) (hs : gsh G = shM) {a1 : Int32} {m : Mm} {P : Option Value → Mm → Prop} (h : mjO (Mo_takes m a1) (fun r => P (some (.int (bI r.1))) r.2)) : mjR G 1 yX7_takes cX7_takes 2 (some .boolean) [.ref (gr G 0), .int a1] m P := by
  refine mjR_of hG (by decide) (Nat.le_of_ble_eq_true rfl) ?_
  intro X F
  have F : mjF G X cX7_takes RX7 2 1 (some .boolean) := F
  show mjV G X 2 0 [(0, .ref (gr G 0)), (1, .int a1)] [] m P
  unfold Mo_takes at h
  refine vAloadN F dX7_takes_0 (k := 0) rfl ?_
  refine vCallV F (d' := 0) (x := 0) (T := TX7) (N := 61) (As := []) (st := []) dX7_takes_1 lk_X7_224 my_X7_peek mv_X7_peek (cqM_0 hs) rfl (by decide) rfl rfl (Nat.le_of_ble_eq_true rfl) (Mo_peek_ok hG hs (okB h fun r1 h => ?_))
  show mjV G X 2 4 [(0, .ref (gr G 0)), (1, .int a1)] [.int r1] m P
  refine vIloadN F dX7_takes_4 (k := 1) rfl ?_
  refine vIcmpEq F (tgt := 10) dX7_takes_5 (by decide) (fun c2 => ?_) (fun c2 => ?_)
  · replace h := okT h c2
    refine vAloadN F dX7_takes_10 (k := 0) rfl ?_
    refine vDup F dX7_takes_11 rfl ?_
    refine vGetI F dX7_takes_12 fa_X7_50 (cqM_0 hs) rfl ?_
    refine vIconst F (v := 1) dX7_takes_15 k_1 ?_
    refine vIadd F dX7_takes_16 ?_
    refine vPutI F dX7_takes_17 fw_X7_50 (cqM_0 hs) rfl ⟨rfl, rfl⟩ ?_
    refine vIconst F (v := 1) dX7_takes_20 k_1 ?_
    have z := okS h
    exact vZret (x := bI true) F dX7_takes_21 (nzI _) z
  · replace h := okF h c2
    refine vIconst F (v := 0) dX7_takes_8 k_0 ?_
    have z := okS h
    exact vZret (x := bI false) F dX7_takes_9 (nzI _) z
def Mo_takesWord_l2 (a1 : Int32) (a2 : Int32) (s1 : Int32 × Mm) : Option ((Int32 × Mm) ⊕ (Mm ⊕ (Bool × Mm))) :=
  if a2 ≤ (s1.1) then
 (some (.inr (.inl (s1.2))))
 else (ga (a1 + (s1.1)) 12 ((Mo_takes (s1.2) ((s1.2).1 17 (a1 + (s1.1)).toNatClampNeg)).bind fun r4 =>
  if (r4.1) = true then
 (some (.inl ((s1.1) + 1, r4.2)))
 else (some (.inr (.inr (false, r4.2))))))
noncomputable def Mo_takesWord (m : Mm) (a1 : Int32) (a2 : Int32) : Option (Bool × Mm) :=
  (iter (Mo_takesWord_l2 a1 a2) (0, m)).bind (Sum.elim (fun e2 => (Mo_takes e2 32).bind fun r7 =>
  some (r7.1, r7.2)) (fun v8 => some v8))
set_option maxRecDepth 20000 in
set_option maxHeartbeats 4000000 in
theorem Mo_takesWord_ok {G : Gw} (hG : gOk G) (hs : gsh G = shM) {a1 : Int32} {a2 : Int32} {m : Mm} {P : Option Value → Mm → Prop} (h : mjO (Mo_takesWord m a1 a2) (fun r => P (some (.int (bI r.1))) r.2)) : mjR G 2 yX7_takesWord cX7_takesWord 4 (some .boolean) [.ref (gr G 0), .int a1, .int a2] m P := by
  refine mjR_of hG (by decide) (Nat.le_of_ble_eq_true rfl) ?_
  intro X F
  have F : mjF G X cX7_takesWord RX7 4 2 (some .boolean) := F
  show mjV G X 4 0 [(0, .ref (gr G 0)), (1, .int a1), (2, .int a2)] [] m P
  unfold Mo_takesWord at h
  refine vIconst F (v := 0) dX7_takesWord_0 k_0 ?_
  refine vIstoreN F (L' := [(3, .int 0), (0, .ref (gr G 0)), (1, .int a1), (2, .int a2)]) dX7_takesWord_1 rfl (by decide) rfl ?_
  refine vSub [1, 2, 3, 0] rfl ?_
  refine okLoop (s0 := (0, m)) (T := (fun (s1 : Int32 × Mm) => mjV G X 4 2 [(0, .ref (gr G 0)), (1, .int a1), (2, .int a2), (3, .int (s1.1))] [] (s1.2) P)) (Ve := (Sum.elim (fun (e2 : Mm) => mjV G X 4 30 [(0, .ref (gr G 0))] [] e2 P) (fun (v8 : Bool × Mm) => P (some (.int (bI v8.1))) v8.2))) h ?_ (fun s1 h => ?_)
  · intro q h
    rcases q with e2 | v8
    · refine vAloadN F dX7_takesWord_30 (k := 0) rfl ?_
      refine vBipush F (v := 32) dX7_takesWord_31 kb_32 ?_
      refine vCallV F (d' := 1) (x := 0) (T := TX7) (N := 61) (As := [.int 32]) (st := []) dX7_takesWord_33 lk_X7_227 my_X7_takes mv_X7_takes (cqM_0 hs) rfl (by decide) rfl rfl (Nat.le_of_ble_eq_true rfl) (Mo_takes_ok hG hs (okB h fun r7 h => ?_))
      show mjV G X 4 36 [(0, .ref (gr G 0))] [.int (bI (r7.1))] (r7.2) P
      have z := okS h
      exact vZret (x := bI (r7.1)) F dX7_takesWord_36 (nzI _) z
    · have z := okS h
      exact z
  · unfold Mo_takesWord_l2 at h
    refine vIloadN F dX7_takesWord_2 (k := 3) rfl ?_
    refine vIloadN F dX7_takesWord_3 (k := 2) rfl ?_
    refine vIcmpGe F (tgt := 30) dX7_takesWord_4 (by decide) (fun c6 => ?_) (fun c6 => ?_)
    · replace h := okT h c6
      refine vSub [0] rfl ?_
      have z := okR h
      exact z
    · replace h := okF h c6
      refine vAloadN F dX7_takesWord_7 (k := 0) rfl ?_
      refine vAloadN F dX7_takesWord_8 (k := 0) rfl ?_
      refine vGetR F (t := 17) dX7_takesWord_9 fa_X7_89 (cqM_0 hs) rfl ?_
      refine vIloadN F dX7_takesWord_12 (k := 1) rfl ?_
      refine vIloadN F dX7_takesWord_13 (k := 3) rfl ?_
      refine vIadd F dX7_takesWord_14 ?_
      obtain ⟨g3, h⟩ := okga h
      refine vIald F dX7_takesWord_15 (cqM_17 hs) g3 ?_
      refine vCallV F (d' := 1) (x := 0) (T := TX7) (N := 61) (As := [.int ((s1.2).1 17 (a1 + (s1.1)).toNatClampNeg)]) (st := []) dX7_takesWord_16 lk_X7_227 my_X7_takes mv_X7_takes (cqM_0 hs) rfl (by decide) rfl rfl (Nat.le_of_ble_eq_true rfl) (Mo_takes_ok hG hs (okB h fun r4 h => ?_))
      show mjV G X 4 19 [(0, .ref (gr G 0)), (1, .int a1), (2, .int a2), (3, .int (s1.1))] [.int (bI (r4.1))] (r4.2) P
      refine vIfNeB F (tgt := 24) dX7_takesWord_19 (by decide) (fun c5 => ?_) (fun c5 => ?_)
      · replace h := okT h c5
        refine vIinc F (v := 1) (k := 3) (L' := [(3, .int ((s1.1) + 1)), (0, .ref (gr G 0)), (1, .int a1), (2, .int a2)]) dX7_takesWord_24 rfl k_1 (by decide) rfl ?_
        refine vGoto F (tgt := 2) dX7_takesWord_27 (by decide) ?_
        refine vSub [1, 2, 3, 0] rfl ?_
        have z := okL h
        exact z
      · replace h := okF h c5
        refine vIconst F (v := 0) dX7_takesWord_22 k_0 ?_
        have z := okR h
        exact vZret (x := bI false) F dX7_takesWord_23 (nzI _) z
def Mo_isDigit (m : Mm) : Option (Bool) :=
  (Mo_peek m).bind fun r1 =>
  some (Mo_in r1 48 57)
set_option maxRecDepth 20000 in
set_option maxHeartbeats 4000000 in
theorem Mo_isDigit_ok {G : Gw} (hG : gOk G) (hs : gsh G = shM) {m : Mm} {P : Option Value → Mm → Prop} (h : mjO (Mo_isDigit m) (fun r => P (some (.int (bI r))) m)) : mjR G 1 yX7_isDigit cX7_isDigit 1 (some .boolean) [.ref (gr G 0)] m P := by
  refine mjR_of hG (by decide) (Nat.le_of_ble_eq_true rfl) ?_
  intro X F
  have F : mjF G X cX7_isDigit RX7 1 1 (some .boolean) := F
  show mjV G X 1 0 [(0, .ref (gr G 0))] [] m P
  unfold Mo_isDigit at h
  refine vAloadN F dX7_isDigit_0 (k := 0) rfl ?_
  refine vAloadN F dX7_isDigit_1 (k := 0) rfl ?_
  refine vCallV F (d' := 0) (x := 0) (T := TX7) (N := 61) (As := []) (st := [.ref (gr G 0)]) dX7_isDigit_2 lk_X7_224 my_X7_peek mv_X7_peek (cqM_0 hs) rfl (by decide) rfl rfl (Nat.le_of_ble_eq_true rfl) (Mo_peek_ok hG hs (okB h fun r1 h => ?_))
  show mjV G X 1 5 [(0, .ref (gr G 0))] [.int r1, .ref (gr G 0)] m P
  refine vBipush F (v := 48) dX7_isDigit_5 kb_48 ?_
  refine vBipush F (v := 57) dX7_isDigit_7 kb_57 ?_
  refine vCallV F (d' := 0) (x := 0) (T := TX7) (N := 61) (As := [.int r1, .int 48, .int 57]) (st := []) dX7_isDigit_9 lk_X7_197 my_X7_in mv_X7_in (cqM_0 hs) rfl (by decide) rfl rfl (Nat.le_of_ble_eq_true rfl) (Mo_in_ok hG hs ?_)
  show mjV G X 1 12 [(0, .ref (gr G 0))] [.int (bI (Mo_in r1 48 57))] m P
  have z := okS h
  exact vZret (x := bI (Mo_in r1 48 57)) F dX7_isDigit_12 (nzI _) z
def Mo_takesNumber_l16  (s2 : Int32 × Mm) : Option ((Int32 × Mm) ⊕ Mm) :=
  if 2 ≤ (s2.1) then
 (some (.inr (s2.2)))
 else ((Mo_isDigit (s2.2)).bind fun r4 =>
  if r4 = true then
 ((Mo_peek (s2.2)).bind fun r5 =>
  some (.inl ((s2.1) + 1, si (si (s2.2) 0 14 (((10 * ((s2.2).1 0 14)) + r5) - 48)) 0 13 (((si (s2.2) 0 14 (((10 * ((s2.2).1 0 14)) + r5) - 48)).1 0 13) + 1))))
 else (some (.inr (s2.2))))
noncomputable def Mo_takesNumber (m : Mm) : Option (Bool × Mm) :=
  (Mo_isDigit m).bind fun r1 =>
  if r1 = true then
 ((iter (Mo_takesNumber_l16) (0, si m 0 14 0)).bind fun e3 =>
  some (true, e3))
 else (some (false, m))
set_option maxRecDepth 20000 in
set_option maxHeartbeats 4000000 in
theorem Mo_takesNumber_ok {G : Gw} (hG : gOk G) (hs : gsh G = shM) {m : Mm} {P : Option Value → Mm → Prop} (h : mjO (Mo_takesNumber m) (fun r => P (some (.int (bI r.1))) r.2)) : mjR G 2 yX7_takesNumber cX7_takesNumber 2 (some .boolean) [.ref (gr G 0)] m P := by
  refine mjR_of hG (by decide) (Nat.le_of_ble_eq_true rfl) ?_
  intro X F
  have F : mjF G X cX7_takesNumber RX7 2 2 (some .boolean) := F
  show mjV G X 2 0 [(0, .ref (gr G 0))] [] m P
  unfold Mo_takesNumber at h
  refine vAloadN F dX7_takesNumber_0 (k := 0) rfl ?_
  refine vCallV F (d' := 1) (x := 0) (T := TX7) (N := 61) (As := []) (st := []) dX7_takesNumber_1 lk_X7_230 my_X7_isDigit mv_X7_isDigit (cqM_0 hs) rfl (by decide) rfl rfl (Nat.le_of_ble_eq_true rfl) (Mo_isDigit_ok hG hs (okB h fun r1 h => ?_))
  show mjV G X 2 4 [(0, .ref (gr G 0))] [.int (bI r1)] m P
  refine vIfNeB F (tgt := 9) dX7_takesNumber_4 (by decide) (fun c9 => ?_) (fun c9 => ?_)
  · replace h := okT h c9
    refine vAloadN F dX7_takesNumber_9 (k := 0) rfl ?_
    refine vIconst F (v := 0) dX7_takesNumber_10 k_0 ?_
    refine vPutI F dX7_takesNumber_11 fw_X7_53 (cqM_0 hs) rfl ⟨rfl, rfl⟩ ?_
    refine vIconst F (v := 0) dX7_takesNumber_14 k_0 ?_
    refine vIstoreN F (L' := [(1, .int 0), (0, .ref (gr G 0))]) dX7_takesNumber_15 rfl (by decide) rfl ?_
    refine vSub [1, 0] rfl ?_
    refine okLoop (s0 := (0, si m 0 14 0)) (T := (fun (s2 : Int32 × Mm) => mjV G X 2 16 [(0, .ref (gr G 0)), (1, .int (s2.1))] [] (s2.2) P)) (Ve := (fun (e3 : Mm) => mjV G X 2 63 [] [] e3 P)) h ?_ (fun s2 h => ?_)
    · intro e3 h
      refine vIconst F (v := 1) dX7_takesNumber_63 k_1 ?_
      have z := okS h
      exact vZret (x := bI true) F dX7_takesNumber_64 (nzI _) z
    · unfold Mo_takesNumber_l16 at h
      refine vIloadN F dX7_takesNumber_16 (k := 1) rfl ?_
      refine vIconst F (v := 2) dX7_takesNumber_17 k_2 ?_
      refine vIcmpGe F (tgt := 63) dX7_takesNumber_18 (by decide) (fun c7 => ?_) (fun c7 => ?_)
      · replace h := okT h c7
        refine vSub [] rfl ?_
        have z := okR h
        exact z
      · replace h := okF h c7
        refine vAloadN F dX7_takesNumber_21 (k := 0) rfl ?_
        refine vCallV F (d' := 1) (x := 0) (T := TX7) (N := 61) (As := []) (st := []) dX7_takesNumber_22 lk_X7_230 my_X7_isDigit mv_X7_isDigit (cqM_0 hs) rfl (by decide) rfl rfl (Nat.le_of_ble_eq_true rfl) (Mo_isDigit_ok hG hs (okB h fun r4 h => ?_))
        show mjV G X 2 25 [(0, .ref (gr G 0)), (1, .int (s2.1))] [.int (bI r4)] (s2.2) P
        refine vIfEqB F (tgt := 63) dX7_takesNumber_25 (by decide) (fun c6 => ?_) (fun c6 => ?_)
        · replace h := okF h c6
          refine vSub [] rfl ?_
          have z := okR h
          exact z
        · replace h := okT h c6
          refine vAloadN F dX7_takesNumber_28 (k := 0) rfl ?_
          refine vBipush F (v := 10) dX7_takesNumber_29 kb_10 ?_
          refine vAloadN F dX7_takesNumber_31 (k := 0) rfl ?_
          refine vGetI F dX7_takesNumber_32 fa_X7_53 (cqM_0 hs) rfl ?_
          refine vImul F dX7_takesNumber_35 ?_
          refine vAloadN F dX7_takesNumber_36 (k := 0) rfl ?_
          refine vCallV F (d' := 0) (x := 0) (T := TX7) (N := 61) (As := []) (st := [.int (10 * ((s2.2).1 0 14)), .ref (gr G 0)]) dX7_takesNumber_37 lk_X7_224 my_X7_peek mv_X7_peek (cqM_0 hs) rfl (by decide) rfl rfl (Nat.le_of_ble_eq_true rfl) (Mo_peek_ok hG hs (okB h fun r5 h => ?_))
          show mjV G X 2 40 [(0, .ref (gr G 0)), (1, .int (s2.1))] [.int r5, .int (10 * ((s2.2).1 0 14)), .ref (gr G 0)] (s2.2) P
          refine vIadd F dX7_takesNumber_40 ?_
          refine vBipush F (v := 48) dX7_takesNumber_41 kb_48 ?_
          refine vIsub F dX7_takesNumber_43 ?_
          refine vPutI F dX7_takesNumber_44 fw_X7_53 (cqM_0 hs) rfl ⟨rfl, rfl⟩ ?_
          refine vAloadN F dX7_takesNumber_47 (k := 0) rfl ?_
          refine vDup F dX7_takesNumber_48 rfl ?_
          refine vGetI F dX7_takesNumber_49 fa_X7_50 (cqM_0 hs) rfl ?_
          refine vIconst F (v := 1) dX7_takesNumber_52 k_1 ?_
          refine vIadd F dX7_takesNumber_53 ?_
          refine vPutI F dX7_takesNumber_54 fw_X7_50 (cqM_0 hs) rfl ⟨rfl, rfl⟩ ?_
          refine vIinc F (v := 1) (k := 1) (L' := [(1, .int ((s2.1) + 1)), (0, .ref (gr G 0))]) dX7_takesNumber_57 rfl k_1 (by decide) rfl ?_
          refine vGoto F (tgt := 16) dX7_takesNumber_60 (by decide) ?_
          refine vSub [1, 0] rfl ?_
          have z := okL h
          exact z
  · replace h := okF h c9
    refine vIconst F (v := 0) dX7_takesNumber_7 k_0 ?_
    have z := okS h
    exact vZret (x := bI false) F dX7_takesNumber_8 (nzI _) z
def Mo_emits (m : Mm) (a1 : Int32) : Option (Mm) :=
  ga (m.1 0 23) 600 (some (si (si m 15 (m.1 0 23).toNatClampNeg a1) 0 23 (((si m 15 (m.1 0 23).toNatClampNeg a1).1 0 23) + 1)))
set_option maxRecDepth 20000 in
set_option maxHeartbeats 4000000 in
theorem Mo_emits_ok {G : Gw} (hG : gOk G) (hs : gsh G = shM) {a1 : Int32} {m : Mm} {P : Option Value → Mm → Prop} (h : mjO (Mo_emits m a1) (fun r => P none r)) : mjR G 0 yX7_emits cX7_emits 2 none [.ref (gr G 0), .int a1] m P := by
  refine mjR_of hG (by decide) (Nat.le_of_ble_eq_true rfl) ?_
  intro X F
  have F : mjF G X cX7_emits RX7 2 0 none := F
  show mjV G X 2 0 [(0, .ref (gr G 0)), (1, .int a1)] [] m P
  unfold Mo_emits at h
  refine vAloadN F dX7_emits_0 (k := 0) rfl ?_
  refine vGetR F (t := 15) dX7_emits_1 fa_X7_74 (cqM_0 hs) rfl ?_
  refine vAloadN F dX7_emits_4 (k := 0) rfl ?_
  refine vGetI F dX7_emits_5 fa_X7_80 (cqM_0 hs) rfl ?_
  refine vIloadN F dX7_emits_8 (k := 1) rfl ?_
  obtain ⟨g1, h⟩ := okga h
  refine vIast F dX7_emits_9 (cqM_15 hs) g1 ?_
  refine vAloadN F dX7_emits_10 (k := 0) rfl ?_
  refine vDup F dX7_emits_11 rfl ?_
  refine vGetI F dX7_emits_12 fa_X7_80 (cqM_0 hs) rfl ?_
  refine vIconst F (v := 1) dX7_emits_15 k_1 ?_
  refine vIadd F dX7_emits_16 ?_
  refine vPutI F dX7_emits_17 fw_X7_80 (cqM_0 hs) rfl ⟨rfl, rfl⟩ ?_
  have z := okS h
  exact vVret F dX7_emits_20 z
def Mo_whole_l0  (s1 : Mm) : Option ((Mm) ⊕ Mm) :=
  if (s1.1 0 24) ≤ 0 then
 (some (.inr (s1)))
 else (ga ((s1.1 0 24) - 1) 101 (if (s1.1 16 ((s1.1 0 24) - 1).toNatClampNeg) = 33 then
 ((Mo_emits s1 (-33)).bind fun r4 =>
  some (.inl (si (si r4 0 24 ((r4.1 0 24) - 1)) 0 25 (((si r4 0 24 ((r4.1 0 24) - 1)).1 0 25) - 1))))
 else (some (.inr (s1)))))
noncomputable def Mo_whole (m : Mm) : Option (Mm) :=
  (iter (Mo_whole_l0) (m)).bind fun e2 =>
  some e2
set_option maxRecDepth 20000 in
set_option maxHeartbeats 4000000 in
theorem Mo_whole_ok {G : Gw} (hG : gOk G) (hs : gsh G = shM) {m : Mm} {P : Option Value → Mm → Prop} (h : mjO (Mo_whole m) (fun r => P none r)) : mjR G 1 yX7_whole cX7_whole 1 none [.ref (gr G 0)] m P := by
  refine mjR_of hG (by decide) (Nat.le_of_ble_eq_true rfl) ?_
  intro X F
  have F : mjF G X cX7_whole RX7 1 1 none := F
  show mjV G X 1 0 [(0, .ref (gr G 0))] [] m P
  unfold Mo_whole at h
  refine okLoop (s0 := (m)) (T := (fun (s1 : Mm) => mjV G X 1 0 [(0, .ref (gr G 0))] [] s1 P)) (Ve := (fun (e2 : Mm) => mjV G X 1 52 [] [] e2 P)) h ?_ (fun s1 h => ?_)
  · intro e2 h
    have z := okS h
    exact vVret F dX7_whole_52 z
  · unfold Mo_whole_l0 at h
    refine vAloadN F dX7_whole_0 (k := 0) rfl ?_
    refine vGetI F dX7_whole_1 fa_X7_83 (cqM_0 hs) rfl ?_
    refine vIfLe F (tgt := 52) dX7_whole_4 (by decide) (fun c6 => ?_) (fun c6 => ?_)
    · replace h := okT h c6
      refine vSub [] rfl ?_
      have z := okR h
      exact z
    · replace h := okF h c6
      refine vAloadN F dX7_whole_7 (k := 0) rfl ?_
      refine vGetR F (t := 16) dX7_whole_8 fa_X7_77 (cqM_0 hs) rfl ?_
      refine vAloadN F dX7_whole_11 (k := 0) rfl ?_
      refine vGetI F dX7_whole_12 fa_X7_83 (cqM_0 hs) rfl ?_
      refine vIconst F (v := 1) dX7_whole_15 k_1 ?_
      refine vIsub F dX7_whole_16 ?_
      obtain ⟨g3, h⟩ := okga h
      refine vIald F dX7_whole_17 (cqM_16 hs) g3 ?_
      refine vBipush F (v := 33) dX7_whole_18 kb_33 ?_
      refine vIcmpNe F (tgt := 52) dX7_whole_20 (by decide) (fun c5 => ?_) (fun c5 => ?_)
      · replace h := okF h c5
        refine vSub [] rfl ?_
        have z := okR h
        exact z
      · replace h := okT h c5
        refine vAloadN F dX7_whole_23 (k := 0) rfl ?_
        refine vBipush F (v := (-33)) dX7_whole_24 kb_m33 ?_
        refine vCallV F (d' := 0) (x := 0) (T := TX7) (N := 61) (As := [.int (-33)]) (st := []) dX7_whole_26 lk_X7_234 my_X7_emits mv_X7_emits (cqM_0 hs) rfl (by decide) rfl rfl (Nat.le_of_ble_eq_true rfl) (Mo_emits_ok hG hs (okB h fun r4 h => ?_))
        show mjV G X 1 29 [(0, .ref (gr G 0))] [] r4 P
        refine vAloadN F dX7_whole_29 (k := 0) rfl ?_
        refine vDup F dX7_whole_30 rfl ?_
        refine vGetI F dX7_whole_31 fa_X7_83 (cqM_0 hs) rfl ?_
        refine vIconst F (v := 1) dX7_whole_34 k_1 ?_
        refine vIsub F dX7_whole_35 ?_
        refine vPutI F dX7_whole_36 fw_X7_83 (cqM_0 hs) rfl ⟨rfl, rfl⟩ ?_
        refine vAloadN F dX7_whole_39 (k := 0) rfl ?_
        refine vDup F dX7_whole_40 rfl ?_
        refine vGetI F dX7_whole_41 fa_X7_86 (cqM_0 hs) rfl ?_
        refine vIconst F (v := 1) dX7_whole_44 k_1 ?_
        refine vIsub F dX7_whole_45 ?_
        refine vPutI F dX7_whole_46 fw_X7_86 (cqM_0 hs) rfl ⟨rfl, rfl⟩ ?_
        refine vGoto F (tgt := 0) dX7_whole_49 (by decide) ?_
        have z := okL h
        exact z
def Mo_settle_l0 (a1 : Int32) (s1 : Mm) : Option ((Mm) ⊕ Mm) :=
  if (s1.1 0 24) ≤ 0 then
 (some (.inr (s1)))
 else (ga ((s1.1 0 24) - 1) 101 (jn (fun (e4 : Unit) => ga ((si s1 0 24 ((s1.1 0 24) - 1)).1 0 24) 101 ((Mo_emits (si s1 0 24 ((s1.1 0 24) - 1)) (-((si s1 0 24 ((s1.1 0 24) - 1)).1 16 ((si s1 0 24 ((s1.1 0 24) - 1)).1 0 24).toNatClampNeg))).bind fun r7 =>
  some (.inl (r7)))) fun j5 =>
  if (s1.1 16 ((s1.1 0 24) - 1).toNatClampNeg) = 38 then
 (j5 ())
 else (ga ((s1.1 0 24) - 1) 101 (if (s1.1 16 ((s1.1 0 24) - 1).toNatClampNeg) = 124 then
 (if a1 = 38 then
 (some (.inr (s1)))
 else (j5 ()))
 else (some (.inr (s1)))))))
noncomputable def Mo_settle (m : Mm) (a1 : Int32) : Option (Mm) :=
  (iter (Mo_settle_l0 a1) (m)).bind fun e2 =>
  some e2
set_option maxRecDepth 20000 in
set_option maxHeartbeats 4000000 in
theorem Mo_settle_ok {G : Gw} (hG : gOk G) (hs : gsh G = shM) {a1 : Int32} {m : Mm} {P : Option Value → Mm → Prop} (h : mjO (Mo_settle m a1) (fun r => P none r)) : mjR G 1 yX7_settle cX7_settle 2 none [.ref (gr G 0), .int a1] m P := by
  refine mjR_of hG (by decide) (Nat.le_of_ble_eq_true rfl) ?_
  intro X F
  have F : mjF G X cX7_settle RX7 2 1 none := F
  show mjV G X 2 0 [(0, .ref (gr G 0)), (1, .int a1)] [] m P
  unfold Mo_settle at h
  refine okLoop (s0 := (m)) (T := (fun (s1 : Mm) => mjV G X 2 0 [(0, .ref (gr G 0)), (1, .int a1)] [] s1 P)) (Ve := (fun (e2 : Mm) => mjV G X 2 72 [] [] e2 P)) h ?_ (fun s1 h => ?_)
  · intro e2 h
    have z := okS h
    exact vVret F dX7_settle_72 z
  · unfold Mo_settle_l0 at h
    refine vAloadN F dX7_settle_0 (k := 0) rfl ?_
    refine vGetI F dX7_settle_1 fa_X7_83 (cqM_0 hs) rfl ?_
    refine vIfLe F (tgt := 72) dX7_settle_4 (by decide) (fun c12 => ?_) (fun c12 => ?_)
    · replace h := okT h c12
      refine vSub [] rfl ?_
      have z := okR h
      exact z
    · replace h := okF h c12
      refine vAloadN F dX7_settle_7 (k := 0) rfl ?_
      refine vGetR F (t := 16) dX7_settle_8 fa_X7_77 (cqM_0 hs) rfl ?_
      refine vAloadN F dX7_settle_11 (k := 0) rfl ?_
      refine vGetI F dX7_settle_12 fa_X7_83 (cqM_0 hs) rfl ?_
      refine vIconst F (v := 1) dX7_settle_15 k_1 ?_
      refine vIsub F dX7_settle_16 ?_
      obtain ⟨g3, h⟩ := okga h
      refine vIald F dX7_settle_17 (cqM_16 hs) g3 ?_
      refine vBipush F (v := 38) dX7_settle_18 kb_38 ?_
      refine okJ (Vj := fun (e4 : Unit) => mjV G X 2 45 [(0, .ref (gr G 0)), (1, .int a1)] [] s1 P) h (fun e4 h => ?_) (fun j5 Jj5 h => ?_)
      · refine vAloadN F dX7_settle_45 (k := 0) rfl ?_
        refine vDup F dX7_settle_46 rfl ?_
        refine vGetI F dX7_settle_47 fa_X7_83 (cqM_0 hs) rfl ?_
        refine vIconst F (v := 1) dX7_settle_50 k_1 ?_
        refine vIsub F dX7_settle_51 ?_
        refine vPutI F dX7_settle_52 fw_X7_83 (cqM_0 hs) rfl ⟨rfl, rfl⟩ ?_
        refine vAloadN F dX7_settle_55 (k := 0) rfl ?_
        refine vAloadN F dX7_settle_56 (k := 0) rfl ?_
        refine vGetR F (t := 16) dX7_settle_57 fa_X7_77 (cqM_0 hs) rfl ?_
        refine vAloadN F dX7_settle_60 (k := 0) rfl ?_
        refine vGetI F dX7_settle_61 fa_X7_83 (cqM_0 hs) rfl ?_
        obtain ⟨g6, h⟩ := okga h
        refine vIald F dX7_settle_64 (cqM_16 hs) g6 ?_
        refine vIneg F dX7_settle_65 ?_
        refine vCallV F (d' := 0) (x := 0) (T := TX7) (N := 61) (As := [.int (-((si s1 0 24 ((s1.1 0 24) - 1)).1 16 ((si s1 0 24 ((s1.1 0 24) - 1)).1 0 24).toNatClampNeg))]) (st := []) dX7_settle_66 lk_X7_234 my_X7_emits mv_X7_emits (cqM_0 hs) rfl (by decide) rfl rfl (Nat.le_of_ble_eq_true rfl) (Mo_emits_ok hG hs (okB h fun r7 h => ?_))
        show mjV G X 2 69 [(0, .ref (gr G 0)), (1, .int a1)] [] r7 P
        refine vGoto F (tgt := 0) dX7_settle_69 (by decide) ?_
        have z := okL h
        exact z
      · refine vIcmpEq F (tgt := 45) dX7_settle_20 (by decide) (fun c11 => ?_) (fun c11 => ?_)
        · replace h := okT h c11
          exact Jj5 () h
        · replace h := okF h c11
          refine vAloadN F dX7_settle_23 (k := 0) rfl ?_
          refine vGetR F (t := 16) dX7_settle_24 fa_X7_77 (cqM_0 hs) rfl ?_
          refine vAloadN F dX7_settle_27 (k := 0) rfl ?_
          refine vGetI F dX7_settle_28 fa_X7_83 (cqM_0 hs) rfl ?_
          refine vIconst F (v := 1) dX7_settle_31 k_1 ?_
          refine vIsub F dX7_settle_32 ?_
          obtain ⟨g8, h⟩ := okga h
          refine vIald F dX7_settle_33 (cqM_16 hs) g8 ?_
          refine vBipush F (v := 124) dX7_settle_34 kb_124 ?_
          refine vIcmpNe F (tgt := 72) dX7_settle_36 (by decide) (fun c10 => ?_) (fun c10 => ?_)
          · replace h := okF h c10
            refine vSub [] rfl ?_
            have z := okR h
            exact z
          · replace h := okT h c10
            refine vIloadN F dX7_settle_39 (k := 1) rfl ?_
            refine vBipush F (v := 38) dX7_settle_40 kb_38 ?_
            refine vIcmpEq F (tgt := 72) dX7_settle_42 (by decide) (fun c9 => ?_) (fun c9 => ?_)
            · replace h := okT h c9
              refine vSub [] rfl ?_
              have z := okR h
              exact z
            · replace h := okF h c9
              exact Jj5 () h
def Mo_letterOf (a1 : Int32) : Int32 :=
  if a1 = 99 then
 (3)
 else (if a1 = 100 then
 ((-1))
 else (if a1 = 101 then
 ((-1))
 else (if a1 = 102 then
 ((-1))
 else (if a1 = 103 then
 ((-1))
 else (if a1 = 104 then
 ((-1))
 else (if a1 = 105 then
 ((-1))
 else (if a1 = 106 then
 ((-1))
 else (if a1 = 107 then
 (1)
 else (if a1 = 108 then
 ((-1))
 else (if a1 = 109 then
 ((-1))
 else (if a1 = 110 then
 (4)
 else (if a1 = 111 then
 ((-1))
 else (if a1 = 112 then
 (0)
 else (if a1 = 113 then
 ((-1))
 else (if a1 = 114 then
 (5)
 else (if a1 = 115 then
 ((-1))
 else (if a1 = 116 then
 ((-1))
 else (if a1 = 117 then
 ((-1))
 else (if a1 = 118 then
 (2)
 else ((-1)))))))))))))))))))))
set_option maxRecDepth 20000 in
set_option maxHeartbeats 4000000 in
theorem Mo_letterOf_ok {G : Gw} (hG : gOk G) (hs : gsh G = shM) {a1 : Int32} {m : Mm} {P : Option Value → Mm → Prop} (h : P (some (.int (Mo_letterOf a1))) m) : mjR G 0 yX7_letterOf cX7_letterOf 2 (some .int) [.ref (gr G 0), .int a1] m P := by
  refine mjR_of hG (by decide) (Nat.le_of_ble_eq_true rfl) ?_
  intro X F
  have F : mjF G X cX7_letterOf RX7 2 0 (some .int) := F
  show mjV G X 2 0 [(0, .ref (gr G 0)), (1, .int a1)] [] m P
  have h : mjO (some (Mo_letterOf a1)) (fun r => P (some (.int r)) m) := ⟨_, rfl, h⟩
  unfold Mo_letterOf at h
  refine vIloadN F dX7_letterOf_0 (k := 1) rfl ?_
  by_cases c1 : a1 = 99
  · replace h := okTT h c1
    refine vTabIn F (tgt := 102) dX7_letterOf_1 c1 (by decide) (by decide) rfl (by decide) ?_
    refine vIconst F (v := 3) dX7_letterOf_102 k_3 ?_
    have z := okS h
    exact vIret F dX7_letterOf_103 z
  replace h := okFT h c1
  by_cases c2 : a1 = 100
  · replace h := okTT h c2
    refine vTabIn F (tgt := 108) dX7_letterOf_1 c2 (by decide) (by decide) rfl (by decide) ?_
    refine vIconst F (v := (-1)) dX7_letterOf_108 k_m1 ?_
    have z := okS h
    exact vIret F dX7_letterOf_109 z
  replace h := okFT h c2
  by_cases c3 : a1 = 101
  · replace h := okTT h c3
    refine vTabIn F (tgt := 108) dX7_letterOf_1 c3 (by decide) (by decide) rfl (by decide) ?_
    refine vIconst F (v := (-1)) dX7_letterOf_108 k_m1 ?_
    have z := okS h
    exact vIret F dX7_letterOf_109 z
  replace h := okFT h c3
  by_cases c4 : a1 = 102
  · replace h := okTT h c4
    refine vTabIn F (tgt := 108) dX7_letterOf_1 c4 (by decide) (by decide) rfl (by decide) ?_
    refine vIconst F (v := (-1)) dX7_letterOf_108 k_m1 ?_
    have z := okS h
    exact vIret F dX7_letterOf_109 z
  replace h := okFT h c4
  by_cases c5 : a1 = 103
  · replace h := okTT h c5
    refine vTabIn F (tgt := 108) dX7_letterOf_1 c5 (by decide) (by decide) rfl (by decide) ?_
    refine vIconst F (v := (-1)) dX7_letterOf_108 k_m1 ?_
    have z := okS h
    exact vIret F dX7_letterOf_109 z
  replace h := okFT h c5
  by_cases c6 : a1 = 104
  · replace h := okTT h c6
    refine vTabIn F (tgt := 108) dX7_letterOf_1 c6 (by decide) (by decide) rfl (by decide) ?_
    refine vIconst F (v := (-1)) dX7_letterOf_108 k_m1 ?_
    have z := okS h
    exact vIret F dX7_letterOf_109 z
  replace h := okFT h c6
  by_cases c7 : a1 = 105
  · replace h := okTT h c7
    refine vTabIn F (tgt := 108) dX7_letterOf_1 c7 (by decide) (by decide) rfl (by decide) ?_
    refine vIconst F (v := (-1)) dX7_letterOf_108 k_m1 ?_
    have z := okS h
    exact vIret F dX7_letterOf_109 z
  replace h := okFT h c7
  by_cases c8 : a1 = 106
  · replace h := okTT h c8
    refine vTabIn F (tgt := 108) dX7_letterOf_1 c8 (by decide) (by decide) rfl (by decide) ?_
    refine vIconst F (v := (-1)) dX7_letterOf_108 k_m1 ?_
    have z := okS h
    exact vIret F dX7_letterOf_109 z
  replace h := okFT h c8
  by_cases c9 : a1 = 107
  · replace h := okTT h c9
    refine vTabIn F (tgt := 98) dX7_letterOf_1 c9 (by decide) (by decide) rfl (by decide) ?_
    refine vIconst F (v := 1) dX7_letterOf_98 k_1 ?_
    have z := okS h
    exact vIret F dX7_letterOf_99 z
  replace h := okFT h c9
  by_cases c10 : a1 = 108
  · replace h := okTT h c10
    refine vTabIn F (tgt := 108) dX7_letterOf_1 c10 (by decide) (by decide) rfl (by decide) ?_
    refine vIconst F (v := (-1)) dX7_letterOf_108 k_m1 ?_
    have z := okS h
    exact vIret F dX7_letterOf_109 z
  replace h := okFT h c10
  by_cases c11 : a1 = 109
  · replace h := okTT h c11
    refine vTabIn F (tgt := 108) dX7_letterOf_1 c11 (by decide) (by decide) rfl (by decide) ?_
    refine vIconst F (v := (-1)) dX7_letterOf_108 k_m1 ?_
    have z := okS h
    exact vIret F dX7_letterOf_109 z
  replace h := okFT h c11
  by_cases c12 : a1 = 110
  · replace h := okTT h c12
    refine vTabIn F (tgt := 104) dX7_letterOf_1 c12 (by decide) (by decide) rfl (by decide) ?_
    refine vIconst F (v := 4) dX7_letterOf_104 k_4 ?_
    have z := okS h
    exact vIret F dX7_letterOf_105 z
  replace h := okFT h c12
  by_cases c13 : a1 = 111
  · replace h := okTT h c13
    refine vTabIn F (tgt := 108) dX7_letterOf_1 c13 (by decide) (by decide) rfl (by decide) ?_
    refine vIconst F (v := (-1)) dX7_letterOf_108 k_m1 ?_
    have z := okS h
    exact vIret F dX7_letterOf_109 z
  replace h := okFT h c13
  by_cases c14 : a1 = 112
  · replace h := okTT h c14
    refine vTabIn F (tgt := 96) dX7_letterOf_1 c14 (by decide) (by decide) rfl (by decide) ?_
    refine vIconst F (v := 0) dX7_letterOf_96 k_0 ?_
    have z := okS h
    exact vIret F dX7_letterOf_97 z
  replace h := okFT h c14
  by_cases c15 : a1 = 113
  · replace h := okTT h c15
    refine vTabIn F (tgt := 108) dX7_letterOf_1 c15 (by decide) (by decide) rfl (by decide) ?_
    refine vIconst F (v := (-1)) dX7_letterOf_108 k_m1 ?_
    have z := okS h
    exact vIret F dX7_letterOf_109 z
  replace h := okFT h c15
  by_cases c16 : a1 = 114
  · replace h := okTT h c16
    refine vTabIn F (tgt := 106) dX7_letterOf_1 c16 (by decide) (by decide) rfl (by decide) ?_
    refine vIconst F (v := 5) dX7_letterOf_106 k_5 ?_
    have z := okS h
    exact vIret F dX7_letterOf_107 z
  replace h := okFT h c16
  by_cases c17 : a1 = 115
  · replace h := okTT h c17
    refine vTabIn F (tgt := 108) dX7_letterOf_1 c17 (by decide) (by decide) rfl (by decide) ?_
    refine vIconst F (v := (-1)) dX7_letterOf_108 k_m1 ?_
    have z := okS h
    exact vIret F dX7_letterOf_109 z
  replace h := okFT h c17
  by_cases c18 : a1 = 116
  · replace h := okTT h c18
    refine vTabIn F (tgt := 108) dX7_letterOf_1 c18 (by decide) (by decide) rfl (by decide) ?_
    refine vIconst F (v := (-1)) dX7_letterOf_108 k_m1 ?_
    have z := okS h
    exact vIret F dX7_letterOf_109 z
  replace h := okFT h c18
  by_cases c19 : a1 = 117
  · replace h := okTT h c19
    refine vTabIn F (tgt := 108) dX7_letterOf_1 c19 (by decide) (by decide) rfl (by decide) ?_
    refine vIconst F (v := (-1)) dX7_letterOf_108 k_m1 ?_
    have z := okS h
    exact vIret F dX7_letterOf_109 z
  replace h := okFT h c19
  by_cases c20 : a1 = 118
  · replace h := okTT h c20
    refine vTabIn F (tgt := 100) dX7_letterOf_1 c20 (by decide) (by decide) rfl (by decide) ?_
    refine vIconst F (v := 2) dX7_letterOf_100 k_2 ?_
    have z := okS h
    exact vIret F dX7_letterOf_101 z
  replace h := okFT h c20
  replace c1 := lv_neT c1 (a := 99) (by decide)
  replace c2 := lv_neT c2 (a := 100) (by decide)
  replace c3 := lv_neT c3 (a := 101) (by decide)
  replace c4 := lv_neT c4 (a := 102) (by decide)
  replace c5 := lv_neT c5 (a := 103) (by decide)
  replace c6 := lv_neT c6 (a := 104) (by decide)
  replace c7 := lv_neT c7 (a := 105) (by decide)
  replace c8 := lv_neT c8 (a := 106) (by decide)
  replace c9 := lv_neT c9 (a := 107) (by decide)
  replace c10 := lv_neT c10 (a := 108) (by decide)
  replace c11 := lv_neT c11 (a := 109) (by decide)
  replace c12 := lv_neT c12 (a := 110) (by decide)
  replace c13 := lv_neT c13 (a := 111) (by decide)
  replace c14 := lv_neT c14 (a := 112) (by decide)
  replace c15 := lv_neT c15 (a := 113) (by decide)
  replace c16 := lv_neT c16 (a := 114) (by decide)
  replace c17 := lv_neT c17 (a := 115) (by decide)
  replace c18 := lv_neT c18 (a := 116) (by decide)
  replace c19 := lv_neT c19 (a := 117) (by decide)
  replace c20 := lv_neT c20 (a := 118) (by decide)
  refine vTabOut F (tgt := 108) dX7_letterOf_1 (by omega) (by decide) ?_
  refine vIconst F (v := (-1)) dX7_letterOf_108 k_m1 ?_
  have z := okS h
  exact vIret F dX7_letterOf_109 z
noncomputable def Mo_takesTest (m : Mm) : Option (Bool × Mm) :=
  (Mo_peek m).bind fun r1 =>
  if 0 ≤ (Mo_letterOf r1) then
 ((Mo_peek (si m 0 13 ((m.1 0 13) + 1))).bind fun r2 =>
  if (Mo_in r2 60 62) = true then
 ((Mo_takesNumber (si (si m 0 13 ((m.1 0 13) + 1)) 0 13 (((si m 0 13 ((m.1 0 13) + 1)).1 0 13) + 1))).bind fun r3 =>
  if (r3.1) = true then
 ((Mo_emits (r3.2) (((1000 * (Mo_letterOf r1)) + (100 * (r2 - 60))) + ((r3.2).1 0 14))).bind fun r4 =>
  (Mo_whole r4).bind fun r5 =>
  some (true, r5))
 else (some (false, r3.2)))
 else (some (false, si m 0 13 ((m.1 0 13) + 1))))
 else (some (false, m))
set_option maxRecDepth 20000 in
set_option maxHeartbeats 4000000 in
theorem Mo_takesTest_ok {G : Gw} (hG : gOk G) (hs : gsh G = shM) {m : Mm} {P : Option Value → Mm → Prop} (h : mjO (Mo_takesTest m) (fun r => P (some (.int (bI r.1))) r.2)) : mjR G 3 yX7_takesTest cX7_takesTest 3 (some .boolean) [.ref (gr G 0)] m P := by
  refine mjR_of hG (by decide) (Nat.le_of_ble_eq_true rfl) ?_
  intro X F
  have F : mjF G X cX7_takesTest RX7 3 3 (some .boolean) := F
  show mjV G X 3 0 [(0, .ref (gr G 0))] [] m P
  unfold Mo_takesTest at h
  refine vAloadN F dX7_takesTest_0 (k := 0) rfl ?_
  refine vAloadN F dX7_takesTest_1 (k := 0) rfl ?_
  refine vCallV F (d' := 0) (x := 0) (T := TX7) (N := 61) (As := []) (st := [.ref (gr G 0)]) dX7_takesTest_2 lk_X7_224 my_X7_peek mv_X7_peek (cqM_0 hs) rfl (by decide) rfl rfl (Nat.le_of_ble_eq_true rfl) (Mo_peek_ok hG hs (okB h fun r1 h => ?_))
  show mjV G X 3 5 [(0, .ref (gr G 0))] [.int r1, .ref (gr G 0)] m P
  refine vCallV F (d' := 0) (x := 0) (T := TX7) (N := 61) (As := [.int r1]) (st := []) dX7_takesTest_5 lk_X7_238 my_X7_letterOf mv_X7_letterOf (cqM_0 hs) rfl (by decide) rfl rfl (Nat.le_of_ble_eq_true rfl) (Mo_letterOf_ok hG hs ?_)
  show mjV G X 3 8 [(0, .ref (gr G 0))] [.int (Mo_letterOf r1)] m P
  refine vIstoreN F (L' := [(1, .int (Mo_letterOf r1)), (0, .ref (gr G 0))]) dX7_takesTest_8 rfl (by decide) rfl ?_
  refine vIloadN F dX7_takesTest_9 (k := 0) rfl ?_
  refine vIfGe F (tgt := 15) dX7_takesTest_10 (by decide) (fun c8 => ?_) (fun c8 => ?_)
  · replace h := okT h c8
    refine vAloadN F dX7_takesTest_15 (k := 1) rfl ?_
    refine vDup F dX7_takesTest_16 rfl ?_
    refine vGetI F dX7_takesTest_17 fa_X7_50 (cqM_0 hs) rfl ?_
    refine vIconst F (v := 1) dX7_takesTest_20 k_1 ?_
    refine vIadd F dX7_takesTest_21 ?_
    refine vPutI F dX7_takesTest_22 fw_X7_50 (cqM_0 hs) rfl ⟨rfl, rfl⟩ ?_
    refine vAloadN F dX7_takesTest_25 (k := 1) rfl ?_
    refine vCallV F (d' := 0) (x := 0) (T := TX7) (N := 61) (As := []) (st := []) dX7_takesTest_26 lk_X7_224 my_X7_peek mv_X7_peek (cqM_0 hs) rfl (by decide) rfl rfl (Nat.le_of_ble_eq_true rfl) (Mo_peek_ok hG hs (okB h fun r2 h => ?_))
    show mjV G X 3 29 [(1, .int (Mo_letterOf r1)), (0, .ref (gr G 0))] [.int r2] (si m 0 13 ((m.1 0 13) + 1)) P
    refine vIstoreN F (L' := [(2, .int r2), (1, .int (Mo_letterOf r1)), (0, .ref (gr G 0))]) dX7_takesTest_29 rfl (by decide) rfl ?_
    refine vAloadN F dX7_takesTest_30 (k := 2) rfl ?_
    refine vIloadN F dX7_takesTest_31 (k := 0) rfl ?_
    refine vBipush F (v := 60) dX7_takesTest_32 kb_60 ?_
    refine vBipush F (v := 62) dX7_takesTest_34 kb_62 ?_
    refine vCallV F (d' := 0) (x := 0) (T := TX7) (N := 61) (As := [.int r2, .int 60, .int 62]) (st := []) dX7_takesTest_36 lk_X7_197 my_X7_in mv_X7_in (cqM_0 hs) rfl (by decide) rfl rfl (Nat.le_of_ble_eq_true rfl) (Mo_in_ok hG hs ?_)
    show mjV G X 3 39 [(2, .int r2), (1, .int (Mo_letterOf r1)), (0, .ref (gr G 0))] [.int (bI (Mo_in r2 60 62))] (si m 0 13 ((m.1 0 13) + 1)) P
    refine vIfNeB F (tgt := 44) dX7_takesTest_39 (by decide) (fun c7 => ?_) (fun c7 => ?_)
    · replace h := okT h c7
      refine vAloadN F dX7_takesTest_44 (k := 2) rfl ?_
      refine vDup F dX7_takesTest_45 rfl ?_
      refine vGetI F dX7_takesTest_46 fa_X7_50 (cqM_0 hs) rfl ?_
      refine vIconst F (v := 1) dX7_takesTest_49 k_1 ?_
      refine vIadd F dX7_takesTest_50 ?_
      refine vPutI F dX7_takesTest_51 fw_X7_50 (cqM_0 hs) rfl ⟨rfl, rfl⟩ ?_
      refine vAloadN F dX7_takesTest_54 (k := 2) rfl ?_
      refine vCallV F (d' := 2) (x := 0) (T := TX7) (N := 61) (As := []) (st := []) dX7_takesTest_55 lk_X7_241 my_X7_takesNumber mv_X7_takesNumber (cqM_0 hs) rfl (by decide) rfl rfl (Nat.le_of_ble_eq_true rfl) (Mo_takesNumber_ok hG hs (okB h fun r3 h => ?_))
      show mjV G X 3 58 [(2, .int r2), (1, .int (Mo_letterOf r1)), (0, .ref (gr G 0))] [.int (bI (r3.1))] (r3.2) P
      refine vIfNeB F (tgt := 63) dX7_takesTest_58 (by decide) (fun c6 => ?_) (fun c6 => ?_)
      · replace h := okT h c6
        refine vAloadN F dX7_takesTest_63 (k := 2) rfl ?_
        refine vSipush F (v := 1000) dX7_takesTest_64 ks_1000 ?_
        refine vIloadN F dX7_takesTest_67 (k := 1) rfl ?_
        refine vImul F dX7_takesTest_68 ?_
        refine vBipush F (v := 100) dX7_takesTest_69 kb_100 ?_
        refine vIloadN F dX7_takesTest_71 (k := 0) rfl ?_
        refine vBipush F (v := 60) dX7_takesTest_72 kb_60 ?_
        refine vIsub F dX7_takesTest_74 ?_
        refine vImul F dX7_takesTest_75 ?_
        refine vIadd F dX7_takesTest_76 ?_
        refine vAloadN F dX7_takesTest_77 (k := 2) rfl ?_
        refine vGetI F dX7_takesTest_78 fa_X7_53 (cqM_0 hs) rfl ?_
        refine vIadd F dX7_takesTest_81 ?_
        refine vCallV F (d' := 0) (x := 0) (T := TX7) (N := 61) (As := [.int (((1000 * (Mo_letterOf r1)) + (100 * (r2 - 60))) + ((r3.2).1 0 14))]) (st := []) dX7_takesTest_82 lk_X7_234 my_X7_emits mv_X7_emits (cqM_0 hs) rfl (by decide) rfl rfl (Nat.le_of_ble_eq_true rfl) (Mo_emits_ok hG hs (okB h fun r4 h => ?_))
        show mjV G X 3 85 [(2, .int r2), (1, .int (Mo_letterOf r1)), (0, .ref (gr G 0))] [] r4 P
        refine vAloadN F dX7_takesTest_85 (k := 2) rfl ?_
        refine vCallV F (d' := 1) (x := 0) (T := TX7) (N := 61) (As := []) (st := []) dX7_takesTest_86 lk_X7_244 my_X7_whole mv_X7_whole (cqM_0 hs) rfl (by decide) rfl rfl (Nat.le_of_ble_eq_true rfl) (Mo_whole_ok hG hs (okB h fun r5 h => ?_))
        show mjV G X 3 89 [(2, .int r2), (1, .int (Mo_letterOf r1)), (0, .ref (gr G 0))] [] r5 P
        refine vIconst F (v := 1) dX7_takesTest_89 k_1 ?_
        have z := okS h
        exact vZret (x := bI true) F dX7_takesTest_90 (nzI _) z
      · replace h := okF h c6
        refine vIconst F (v := 0) dX7_takesTest_61 k_0 ?_
        have z := okS h
        exact vZret (x := bI false) F dX7_takesTest_62 (nzI _) z
    · replace h := okF h c7
      refine vIconst F (v := 0) dX7_takesTest_42 k_0 ?_
      have z := okS h
      exact vZret (x := bI false) F dX7_takesTest_43 (nzI _) z
  · replace h := okF h c8
    refine vIconst F (v := 0) dX7_takesTest_13 k_0 ?_
    have z := okS h
    exact vZret (x := bI false) F dX7_takesTest_14 (nzI _) z
noncomputable def Mo_takesE_l22 (a1 : Int32) (s2 : Int32 × Mm) : Option ((Int32 × Mm) ⊕ (Bool × Mm)) :=
  (Mo_peek (s2.2)).bind fun r3 =>
  if (s2.1) = 0 then
 (jn (fun (e4 : Unit) => (Mo_settle (s2.2) r3).bind fun r6 =>
  ga (r6.1 0 24) 101 (some (.inl (1, si (si (si r6 16 (r6.1 0 24).toNatClampNeg r3) 0 24 (((si r6 16 (r6.1 0 24).toNatClampNeg r3).1 0 24) + 1)) 0 13 (((si (si r6 16 (r6.1 0 24).toNatClampNeg r3) 0 24 (((si r6 16 (r6.1 0 24).toNatClampNeg r3).1 0 24) + 1)).1 0 13) + 1))))) fun j5 =>
  if r3 = 38 then
 (j5 ())
 else (if r3 = 124 then
 (j5 ())
 else ((Mo_settle (s2.2) 124).bind fun r8 =>
  ga a1 60 (if ((si r8 14 a1.toNatClampNeg (r8.1 0 23)).1 0 24) = 0 then
 (some (.inr (true, si r8 14 a1.toNatClampNeg (r8.1 0 23))))
 else (if r3 = 41 then
 ((Mo_whole (si (si (si (si r8 14 a1.toNatClampNeg (r8.1 0 23)) 0 24 (((si r8 14 a1.toNatClampNeg (r8.1 0 23)).1 0 24) - 1)) 0 25 (((si (si r8 14 a1.toNatClampNeg (r8.1 0 23)) 0 24 (((si r8 14 a1.toNatClampNeg (r8.1 0 23)).1 0 24) - 1)).1 0 25) - 1)) 0 13 (((si (si (si r8 14 a1.toNatClampNeg (r8.1 0 23)) 0 24 (((si r8 14 a1.toNatClampNeg (r8.1 0 23)).1 0 24) - 1)) 0 25 (((si (si r8 14 a1.toNatClampNeg (r8.1 0 23)) 0 24 (((si r8 14 a1.toNatClampNeg (r8.1 0 23)).1 0 24) - 1)).1 0 25) - 1)).1 0 13) + 1))).bind fun r10 =>
  some (.inl (s2.1, r10)))
 else (some (.inr (false, si r8 14 a1.toNatClampNeg (r8.1 0 23)))))))))
 else (jn (fun (e15 : Unit) => if ((s2.2).1 0 25) = 4 then
 (some (.inr (false, s2.2)))
 else (ga ((si (s2.2) 0 25 (((s2.2).1 0 25) + 1)).1 0 24) 101 (some (.inl (s2.1, si (si (si (si (s2.2) 0 25 (((s2.2).1 0 25) + 1)) 16 ((si (s2.2) 0 25 (((s2.2).1 0 25) + 1)).1 0 24).toNatClampNeg r3) 0 24 (((si (si (s2.2) 0 25 (((s2.2).1 0 25) + 1)) 16 ((si (s2.2) 0 25 (((s2.2).1 0 25) + 1)).1 0 24).toNatClampNeg r3).1 0 24) + 1)) 0 13 (((si (si (si (s2.2) 0 25 (((s2.2).1 0 25) + 1)) 16 ((si (s2.2) 0 25 (((s2.2).1 0 25) + 1)).1 0 24).toNatClampNeg r3) 0 24 (((si (si (s2.2) 0 25 (((s2.2).1 0 25) + 1)) 16 ((si (s2.2) 0 25 (((s2.2).1 0 25) + 1)).1 0 24).toNatClampNeg r3).1 0 24) + 1)).1 0 13) + 1)))))) fun j16 =>
  if r3 = 33 then
 (j16 ())
 else (if r3 = 40 then
 (j16 ())
 else ((Mo_takesTest (s2.2)).bind fun r19 =>
  if (r19.1) = true then
 (some (.inl (0, r19.2)))
 else (some (.inr (false, r19.2))))))
noncomputable def Mo_takesE (m : Mm) (a1 : Int32) : Option (Bool × Mm) :=
  ga a1 60 ((iter (Mo_takesE_l22 a1) (1, si (si (si m 0 24 0) 0 25 0) 13 a1.toNatClampNeg ((si (si m 0 24 0) 0 25 0).1 0 23))).bind fun v24 =>
  some v24)
set_option maxRecDepth 20000 in
set_option maxHeartbeats 4000000 in
theorem Mo_takesE_ok {G : Gw} (hG : gOk G) (hs : gsh G = shM) {a1 : Int32} {m : Mm} {P : Option Value → Mm → Prop} (h : mjO (Mo_takesE m a1) (fun r => P (some (.int (bI r.1))) r.2)) : mjR G 4 yX7_takesE cX7_takesE 4 (some .boolean) [.ref (gr G 0), .int a1] m P := by
  refine mjR_of hG (by decide) (Nat.le_of_ble_eq_true rfl) ?_
  intro X F
  have F : mjF G X cX7_takesE RX7 4 4 (some .boolean) := F
  show mjV G X 4 0 [(0, .ref (gr G 0)), (1, .int a1)] [] m P
  unfold Mo_takesE at h
  refine vAloadN F dX7_takesE_0 (k := 0) rfl ?_
  refine vIconst F (v := 0) dX7_takesE_1 k_0 ?_
  refine vPutI F dX7_takesE_2 fw_X7_83 (cqM_0 hs) rfl ⟨rfl, rfl⟩ ?_
  refine vAloadN F dX7_takesE_5 (k := 0) rfl ?_
  refine vIconst F (v := 0) dX7_takesE_6 k_0 ?_
  refine vPutI F dX7_takesE_7 fw_X7_86 (cqM_0 hs) rfl ⟨rfl, rfl⟩ ?_
  refine vAloadN F dX7_takesE_10 (k := 0) rfl ?_
  refine vGetR F (t := 13) dX7_takesE_11 fa_X7_68 (cqM_0 hs) rfl ?_
  refine vIloadN F dX7_takesE_14 (k := 1) rfl ?_
  refine vAloadN F dX7_takesE_15 (k := 0) rfl ?_
  refine vGetI F dX7_takesE_16 fa_X7_80 (cqM_0 hs) rfl ?_
  obtain ⟨g1, h⟩ := okga h
  refine vIast F dX7_takesE_19 (cqM_13 hs) g1 ?_
  refine vIconst F (v := 1) dX7_takesE_20 k_1 ?_
  refine vIstoreN F (L' := [(2, .int 1), (0, .ref (gr G 0)), (1, .int a1)]) dX7_takesE_21 rfl (by decide) rfl ?_
  refine vSub [1, 2, 0] rfl ?_
  refine okLoop (s0 := (1, si (si (si m 0 24 0) 0 25 0) 13 a1.toNatClampNeg ((si (si m 0 24 0) 0 25 0).1 0 23))) (T := (fun (s2 : Int32 × Mm) => mjV G X 4 22 [(0, .ref (gr G 0)), (1, .int a1), (2, .int (s2.1))] [] (s2.2) P)) (Ve := (fun (v24 : Bool × Mm) => P (some (.int (bI v24.1))) v24.2)) h ?_ (fun s2 h => ?_)
  · intro v24 h
    have z := okS h
    exact z
  · unfold Mo_takesE_l22 at h
    refine vAloadN F dX7_takesE_22 (k := 0) rfl ?_
    refine vCallV F (d' := 0) (x := 0) (T := TX7) (N := 61) (As := []) (st := []) dX7_takesE_23 lk_X7_224 my_X7_peek mv_X7_peek (cqM_0 hs) rfl (by decide) rfl rfl (Nat.le_of_ble_eq_true rfl) (Mo_peek_ok hG hs (okB h fun r3 h => ?_))
    show mjV G X 4 26 [(0, .ref (gr G 0)), (1, .int a1), (2, .int (s2.1))] [.int r3] (s2.2) P
    refine vIstoreN F (L' := [(3, .int r3), (0, .ref (gr G 0)), (1, .int a1), (2, .int (s2.1))]) dX7_takesE_26 rfl (by decide) rfl ?_
    refine vIloadN F dX7_takesE_27 (k := 3) rfl ?_
    refine vIfEq F (tgt := 110) dX7_takesE_28 (by decide) (fun c23 => ?_) (fun c23 => ?_)
    · replace h := okT h c23
      refine vIloadN F dX7_takesE_110 (k := 0) rfl ?_
      refine vBipush F (v := 38) dX7_takesE_111 kb_38 ?_
      refine okJ (Vj := fun (e4 : Unit) => mjV G X 4 122 [(0, .ref (gr G 0)), (1, .int a1), (3, .int r3)] [] (s2.2) P) h (fun e4 h => ?_) (fun j5 Jj5 h => ?_)
      · refine vAloadN F dX7_takesE_122 (k := 0) rfl ?_
        refine vIloadN F dX7_takesE_123 (k := 2) rfl ?_
        refine vCallV F (d' := 1) (x := 0) (T := TX7) (N := 61) (As := [.int r3]) (st := []) dX7_takesE_124 lk_X7_250 my_X7_settle mv_X7_settle (cqM_0 hs) rfl (by decide) rfl rfl (Nat.le_of_ble_eq_true rfl) (Mo_settle_ok hG hs (okB h fun r6 h => ?_))
        show mjV G X 4 127 [(0, .ref (gr G 0)), (1, .int a1), (3, .int r3)] [] r6 P
        refine vAloadN F dX7_takesE_127 (k := 0) rfl ?_
        refine vGetR F (t := 16) dX7_takesE_128 fa_X7_77 (cqM_0 hs) rfl ?_
        refine vAloadN F dX7_takesE_131 (k := 0) rfl ?_
        refine vGetI F dX7_takesE_132 fa_X7_83 (cqM_0 hs) rfl ?_
        refine vIloadN F dX7_takesE_135 (k := 2) rfl ?_
        obtain ⟨g7, h⟩ := okga h
        refine vIast F dX7_takesE_136 (cqM_16 hs) g7 ?_
        refine vAloadN F dX7_takesE_137 (k := 0) rfl ?_
        refine vDup F dX7_takesE_138 rfl ?_
        refine vGetI F dX7_takesE_139 fa_X7_83 (cqM_0 hs) rfl ?_
        refine vIconst F (v := 1) dX7_takesE_142 k_1 ?_
        refine vIadd F dX7_takesE_143 ?_
        refine vPutI F dX7_takesE_144 fw_X7_83 (cqM_0 hs) rfl ⟨rfl, rfl⟩ ?_
        refine vIconst F (v := 1) dX7_takesE_147 k_1 ?_
        refine vIstoreN F (L' := [(2, .int 1), (0, .ref (gr G 0)), (1, .int a1), (3, .int r3)]) dX7_takesE_148 rfl (by decide) rfl ?_
        refine vAloadN F dX7_takesE_149 (k := 1) rfl ?_
        refine vDup F dX7_takesE_150 rfl ?_
        refine vGetI F dX7_takesE_151 fa_X7_50 (cqM_0 hs) rfl ?_
        refine vIconst F (v := 1) dX7_takesE_154 k_1 ?_
        refine vIadd F dX7_takesE_155 ?_
        refine vPutI F dX7_takesE_156 fw_X7_50 (cqM_0 hs) rfl ⟨rfl, rfl⟩ ?_
        refine vGoto F (tgt := 22) dX7_takesE_159 (by decide) ?_
        refine vSub [1, 2, 0] rfl ?_
        have z := okL h
        exact z
      · refine vIcmpEq F (tgt := 122) dX7_takesE_113 (by decide) (fun c14 => ?_) (fun c14 => ?_)
        · replace h := okT h c14
          refine vSub [1, 2, 0] rfl ?_
          exact Jj5 () h
        · replace h := okF h c14
          refine vIloadN F dX7_takesE_116 (k := 0) rfl ?_
          refine vBipush F (v := 124) dX7_takesE_117 kb_124 ?_
          refine vIcmpNe F (tgt := 162) dX7_takesE_119 (by decide) (fun c13 => ?_) (fun c13 => ?_)
          · replace h := okF h c13
            refine vAloadN F dX7_takesE_162 (k := 1) rfl ?_
            refine vBipush F (v := 124) dX7_takesE_163 kb_124 ?_
            refine vCallV F (d' := 1) (x := 0) (T := TX7) (N := 61) (As := [.int 124]) (st := []) dX7_takesE_165 lk_X7_250 my_X7_settle mv_X7_settle (cqM_0 hs) rfl (by decide) rfl rfl (Nat.le_of_ble_eq_true rfl) (Mo_settle_ok hG hs (okB h fun r8 h => ?_))
            show mjV G X 4 168 [(3, .int r3), (0, .ref (gr G 0)), (1, .int a1), (2, .int (s2.1))] [] r8 P
            refine vAloadN F dX7_takesE_168 (k := 1) rfl ?_
            refine vGetR F (t := 14) dX7_takesE_169 fa_X7_71 (cqM_0 hs) rfl ?_
            refine vIloadN F dX7_takesE_172 (k := 2) rfl ?_
            refine vAloadN F dX7_takesE_173 (k := 1) rfl ?_
            refine vGetI F dX7_takesE_174 fa_X7_80 (cqM_0 hs) rfl ?_
            obtain ⟨g9, h⟩ := okga h
            refine vIast F dX7_takesE_177 (cqM_14 hs) g9 ?_
            refine vAloadN F dX7_takesE_178 (k := 1) rfl ?_
            refine vGetI F dX7_takesE_179 fa_X7_83 (cqM_0 hs) rfl ?_
            refine vIfNe F (tgt := 187) dX7_takesE_182 (by decide) (fun c12 => ?_) (fun c12 => ?_)
            · replace h := okF h c12
              refine vIloadN F dX7_takesE_187 (k := 0) rfl ?_
              refine vBipush F (v := 41) dX7_takesE_188 kb_41 ?_
              refine vIcmpEq F (tgt := 195) dX7_takesE_190 (by decide) (fun c11 => ?_) (fun c11 => ?_)
              · replace h := okT h c11
                refine vAloadN F dX7_takesE_195 (k := 1) rfl ?_
                refine vDup F dX7_takesE_196 rfl ?_
                refine vGetI F dX7_takesE_197 fa_X7_83 (cqM_0 hs) rfl ?_
                refine vIconst F (v := 1) dX7_takesE_200 k_1 ?_
                refine vIsub F dX7_takesE_201 ?_
                refine vPutI F dX7_takesE_202 fw_X7_83 (cqM_0 hs) rfl ⟨rfl, rfl⟩ ?_
                refine vAloadN F dX7_takesE_205 (k := 1) rfl ?_
                refine vDup F dX7_takesE_206 rfl ?_
                refine vGetI F dX7_takesE_207 fa_X7_86 (cqM_0 hs) rfl ?_
                refine vIconst F (v := 1) dX7_takesE_210 k_1 ?_
                refine vIsub F dX7_takesE_211 ?_
                refine vPutI F dX7_takesE_212 fw_X7_86 (cqM_0 hs) rfl ⟨rfl, rfl⟩ ?_
                refine vAloadN F dX7_takesE_215 (k := 1) rfl ?_
                refine vDup F dX7_takesE_216 rfl ?_
                refine vGetI F dX7_takesE_217 fa_X7_50 (cqM_0 hs) rfl ?_
                refine vIconst F (v := 1) dX7_takesE_220 k_1 ?_
                refine vIadd F dX7_takesE_221 ?_
                refine vPutI F dX7_takesE_222 fw_X7_50 (cqM_0 hs) rfl ⟨rfl, rfl⟩ ?_
                refine vAloadN F dX7_takesE_225 (k := 1) rfl ?_
                refine vCallV F (d' := 1) (x := 0) (T := TX7) (N := 61) (As := []) (st := []) dX7_takesE_226 lk_X7_244 my_X7_whole mv_X7_whole (cqM_0 hs) rfl (by decide) rfl rfl (Nat.le_of_ble_eq_true rfl) (Mo_whole_ok hG hs (okB h fun r10 h => ?_))
                show mjV G X 4 229 [(3, .int r3), (0, .ref (gr G 0)), (1, .int a1), (2, .int (s2.1))] [] r10 P
                refine vGoto F (tgt := 22) dX7_takesE_229 (by decide) ?_
                refine vSub [1, 2, 3] rfl ?_
                have z := okL h
                exact z
              · replace h := okF h c11
                refine vIconst F (v := 0) dX7_takesE_193 k_0 ?_
                have z := okR h
                exact vZret (x := bI false) F dX7_takesE_194 (nzI _) z
            · replace h := okT h c12
              refine vIconst F (v := 1) dX7_takesE_185 k_1 ?_
              have z := okR h
              exact vZret (x := bI true) F dX7_takesE_186 (nzI _) z
          · replace h := okT h c13
            refine vSub [1, 2, 0] rfl ?_
            exact Jj5 () h
    · replace h := okF h c23
      refine vIloadN F dX7_takesE_31 (k := 0) rfl ?_
      refine vBipush F (v := 33) dX7_takesE_32 kb_33 ?_
      refine okJ (Vj := fun (e15 : Unit) => mjV G X 4 43 [(0, .ref (gr G 0)), (1, .int a1), (2, .int (s2.1)), (3, .int r3)] [] (s2.2) P) h (fun e15 h => ?_) (fun j16 Jj16 h => ?_)
      · refine vAloadN F dX7_takesE_43 (k := 0) rfl ?_
        refine vGetI F dX7_takesE_44 fa_X7_86 (cqM_0 hs) rfl ?_
        refine vIconst F (v := 4) dX7_takesE_47 k_4 ?_
        refine vIcmpNe F (tgt := 53) dX7_takesE_48 (by decide) (fun c18 => ?_) (fun c18 => ?_)
        · replace h := okF h c18
          refine vAloadN F dX7_takesE_53 (k := 0) rfl ?_
          refine vDup F dX7_takesE_54 rfl ?_
          refine vGetI F dX7_takesE_55 fa_X7_86 (cqM_0 hs) rfl ?_
          refine vIconst F (v := 1) dX7_takesE_58 k_1 ?_
          refine vIadd F dX7_takesE_59 ?_
          refine vPutI F dX7_takesE_60 fw_X7_86 (cqM_0 hs) rfl ⟨rfl, rfl⟩ ?_
          refine vAloadN F dX7_takesE_63 (k := 0) rfl ?_
          refine vGetR F (t := 16) dX7_takesE_64 fa_X7_77 (cqM_0 hs) rfl ?_
          refine vAloadN F dX7_takesE_67 (k := 0) rfl ?_
          refine vGetI F dX7_takesE_68 fa_X7_83 (cqM_0 hs) rfl ?_
          refine vIloadN F dX7_takesE_71 (k := 3) rfl ?_
          obtain ⟨g17, h⟩ := okga h
          refine vIast F dX7_takesE_72 (cqM_16 hs) g17 ?_
          refine vAloadN F dX7_takesE_73 (k := 0) rfl ?_
          refine vDup F dX7_takesE_74 rfl ?_
          refine vGetI F dX7_takesE_75 fa_X7_83 (cqM_0 hs) rfl ?_
          refine vIconst F (v := 1) dX7_takesE_78 k_1 ?_
          refine vIadd F dX7_takesE_79 ?_
          refine vPutI F dX7_takesE_80 fw_X7_83 (cqM_0 hs) rfl ⟨rfl, rfl⟩ ?_
          refine vAloadN F dX7_takesE_83 (k := 0) rfl ?_
          refine vDup F dX7_takesE_84 rfl ?_
          refine vGetI F dX7_takesE_85 fa_X7_50 (cqM_0 hs) rfl ?_
          refine vIconst F (v := 1) dX7_takesE_88 k_1 ?_
          refine vIadd F dX7_takesE_89 ?_
          refine vPutI F dX7_takesE_90 fw_X7_50 (cqM_0 hs) rfl ⟨rfl, rfl⟩ ?_
          refine vGoto F (tgt := 22) dX7_takesE_93 (by decide) ?_
          refine vSub [0, 1, 2] rfl ?_
          have z := okL h
          exact z
        · replace h := okT h c18
          refine vIconst F (v := 0) dX7_takesE_51 k_0 ?_
          have z := okR h
          exact vZret (x := bI false) F dX7_takesE_52 (nzI _) z
      · refine vIcmpEq F (tgt := 43) dX7_takesE_34 (by decide) (fun c22 => ?_) (fun c22 => ?_)
        · replace h := okT h c22
          refine vSub [1, 2, 3, 0] rfl ?_
          exact Jj16 () h
        · replace h := okF h c22
          refine vIloadN F dX7_takesE_37 (k := 0) rfl ?_
          refine vBipush F (v := 40) dX7_takesE_38 kb_40 ?_
          refine vIcmpNe F (tgt := 96) dX7_takesE_40 (by decide) (fun c21 => ?_) (fun c21 => ?_)
          · replace h := okF h c21
            refine vAloadN F dX7_takesE_96 (k := 1) rfl ?_
            refine vCallV F (d' := 3) (x := 0) (T := TX7) (N := 61) (As := []) (st := []) dX7_takesE_97 lk_X7_247 my_X7_takesTest mv_X7_takesTest (cqM_0 hs) rfl (by decide) rfl rfl (Nat.le_of_ble_eq_true rfl) (Mo_takesTest_ok hG hs (okB h fun r19 h => ?_))
            show mjV G X 4 100 [(3, .int r3), (0, .ref (gr G 0)), (1, .int a1), (2, .int (s2.1))] [.int (bI (r19.1))] (r19.2) P
            refine vIfEqB F (tgt := 108) dX7_takesE_100 (by decide) (fun c20 => ?_) (fun c20 => ?_)
            · replace h := okF h c20
              refine vIconst F (v := 0) dX7_takesE_108 k_0 ?_
              have z := okR h
              exact vZret (x := bI false) F dX7_takesE_109 (nzI _) z
            · replace h := okT h c20
              refine vIconst F (v := 0) dX7_takesE_103 k_0 ?_
              refine vIstoreN F (L' := [(2, .int 0), (3, .int r3), (0, .ref (gr G 0)), (1, .int a1)]) dX7_takesE_104 rfl (by decide) rfl ?_
              refine vGoto F (tgt := 22) dX7_takesE_105 (by decide) ?_
              refine vSub [2, 3, 0] rfl ?_
              have z := okL h
              exact z
          · replace h := okT h c21
            refine vSub [1, 2, 3, 0] rfl ?_
            exact Jj16 () h
