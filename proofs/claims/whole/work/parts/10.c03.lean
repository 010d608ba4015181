def Ta_spans (x : Nat) (m : Mm) (a1 : Int32) (a2 : Int32) : Bool :=
  if a1 < 0 then
 (false)
 else (if a2 < 0 then
 (false)
 else (if ((m.1 x 1) - a2) < a1 then
 (false)
 else (true)))
set_option maxRecDepth 20000 in
set_option maxHeartbeats 4000000 in
theorem Ta_spans_ok {G : Gw} (hG : gOk G) (hs : gsh G = shC) {x : Nat} (hx : is_X4 (gsh G) x) {a1 : Int32} {a2 : Int32} {m : Mm} {P : Option Value → Mm → Prop} (h : P (some (.int (bI (Ta_spans x m a1 a2)))) m) : mjR G 0 yX4_spans cX4_spans 3 (some .boolean) [.ref (gr G x), .int a1, .int a2] m P := by
  refine mjR_of hG (by decide) (Nat.le_of_ble_eq_true rfl) ?_
  intro X F
  have F : mjF G X cX4_spans RX4 3 0 (some .boolean) := F
  show mjV G X 3 0 [(0, .ref (gr G x)), (1, .int a1), (2, .int a2)] [] m P
  have h : mjO (some (Ta_spans x m a1 a2)) (fun r => P (some (.int (bI r))) m) := ⟨_, rfl, h⟩
  unfold Ta_spans at h
  refine vIloadN F dX4_spans_0 (k := 1) rfl ?_
  refine vIfLt F (tgt := 22) dX4_spans_1 (by decide) (fun c3 => ?_) (fun c3 => ?_)
  · replace h := okTT h c3
    refine vIconst F (v := 0) dX4_spans_22 k_0 ?_
    have z := okS h
    exact vZret (x := bI false) F dX4_spans_23 (nzI _) z
  · replace h := okFT h c3
    refine vIloadN F dX4_spans_4 (k := 2) rfl ?_
    refine vIfLt F (tgt := 22) dX4_spans_5 (by decide) (fun c2 => ?_) (fun c2 => ?_)
    · replace h := okTT h c2
      refine vIconst F (v := 0) dX4_spans_22 k_0 ?_
      have z := okS h
      exact vZret (x := bI false) F dX4_spans_23 (nzI _) z
    · replace h := okFT h c2
      refine vIloadN F dX4_spans_8 (k := 1) rfl ?_
      refine vAloadN F dX4_spans_9 (k := 0) rfl ?_
      refine vGetI F dX4_spans_10 fa_X4_17 hx.1 rfl ?_
      refine vIloadN F dX4_spans_13 (k := 2) rfl ?_
      refine vIsub F dX4_spans_14 ?_
      refine vIcmpGt F (tgt := 22) dX4_spans_15 (by decide) (fun c1 => ?_) (fun c1 => ?_)
      · replace h := okTT h c1
        refine vIconst F (v := 0) dX4_spans_22 k_0 ?_
        have z := okS h
        exact vZret (x := bI false) F dX4_spans_23 (nzI _) z
      · replace h := okFT h c1
        refine vIconst F (v := 1) dX4_spans_18 k_1 ?_
        refine vGoto F (tgt := 23) dX4_spans_19 (by decide) ?_
        have z := okS h
        exact vZret (x := bI true) F dX4_spans_23 (nzI _) z
def Ta_asItem (x : Nat) (m : Mm) (a1 : Int64) : Int64 :=
  if (m.1 x 0) = 0 then
 (((a1.toInt32).toInt8.toInt32).toInt64)
 else (if (m.1 x 0) = 1 then
 (((a1.toInt32).toInt16.toInt32).toInt64)
 else (if (m.1 x 0) = 2 then
 ((a1.toInt32).toInt64)
 else (if (m.1 x 0) = 3 then
 (a1)
 else (if (m.1 x 0) = 4 then
 (if (lg_cmp a1 0) = 0 then
 (0)
 else (1))
 else (a1)))))
set_option maxRecDepth 20000 in
set_option maxHeartbeats 4000000 in
theorem Ta_asItem_ok {G : Gw} (hG : gOk G) (hs : gsh G = shC) {x : Nat} (hx : is_X4 (gsh G) x) {a1 : Int64} {m : Mm} {P : Option Value → Mm → Prop} (h : P (some (.long (Ta_asItem x m a1))) m) : mjR G 0 yX4_asItem cX4_asItem 3 (some .long) [.ref (gr G x), .long a1] m P := by
  refine mjR_of hG (by decide) (Nat.le_of_ble_eq_true rfl) ?_
  intro X F
  have F : mjF G X cX4_asItem RX4 3 0 (some .long) := F
  show mjV G X 3 0 [(0, .ref (gr G x)), (1, .long a1)] [] m P
  have h : mjO (some (Ta_asItem x m a1)) (fun r => P (some (.long r)) m) := ⟨_, rfl, h⟩
  unfold Ta_asItem at h
  refine vAloadN F dX4_asItem_0 (k := 0) rfl ?_
  refine vGetI F dX4_asItem_1 fa_X4_9 hx.1 rfl ?_
  by_cases c1 : (m.1 x 0) = 0
  · replace h := okTT h c1
    refine vTabIn F (tgt := 40) dX4_asItem_4 c1 (by decide) (by decide) rfl (by decide) ?_
    refine vLloadN F dX4_asItem_40 (k := 1) rfl ?_
    refine vL2i F dX4_asItem_41 ?_
    refine vI2b F dX4_asItem_42 ?_
    refine vI2l F dX4_asItem_43 ?_
    have z := okS h
    exact vLret F dX4_asItem_44 z
  replace h := okFT h c1
  by_cases c2 : (m.1 x 0) = 1
  · replace h := okTT h c2
    refine vTabIn F (tgt := 45) dX4_asItem_4 c2 (by decide) (by decide) rfl (by decide) ?_
    refine vLloadN F dX4_asItem_45 (k := 1) rfl ?_
    refine vL2i F dX4_asItem_46 ?_
    refine vI2s F dX4_asItem_47 ?_
    refine vI2l F dX4_asItem_48 ?_
    have z := okS h
    exact vLret F dX4_asItem_49 z
  replace h := okFT h c2
  by_cases c3 : (m.1 x 0) = 2
  · replace h := okTT h c3
    refine vTabIn F (tgt := 50) dX4_asItem_4 c3 (by decide) (by decide) rfl (by decide) ?_
    refine vLloadN F dX4_asItem_50 (k := 1) rfl ?_
    refine vL2i F dX4_asItem_51 ?_
    refine vI2l F dX4_asItem_52 ?_
    have z := okS h
    exact vLret F dX4_asItem_53 z
  replace h := okFT h c3
  by_cases c4 : (m.1 x 0) = 3
  · replace h := okTT h c4
    refine vTabIn F (tgt := 66) dX4_asItem_4 c4 (by decide) (by decide) rfl (by decide) ?_
    refine vLloadN F dX4_asItem_66 (k := 1) rfl ?_
    have z := okS h
    exact vLret F dX4_asItem_67 z
  replace h := okFT h c4
  by_cases c5 : (m.1 x 0) = 4
  · replace h := okTT h c5
    refine vTabIn F (tgt := 54) dX4_asItem_4 c5 (by decide) (by decide) rfl (by decide) ?_
    refine vLloadN F dX4_asItem_54 (k := 1) rfl ?_
    refine vLconst F (v := 0) dX4_asItem_55 rfl ?_
    refine vLcmp F dX4_asItem_56 ?_
    refine vIfEq F (tgt := 64) dX4_asItem_57 (by decide) (fun c6 => ?_) (fun c6 => ?_)
    · replace h := okTT h c6
      refine vLconst F (v := 0) dX4_asItem_64 rfl ?_
      have z := okS h
      exact vLret F dX4_asItem_65 z
    · replace h := okFT h c6
      refine vLconst F (v := 1) dX4_asItem_60 rfl ?_
      refine vGoto F (tgt := 65) dX4_asItem_61 (by decide) ?_
      have z := okS h
      exact vLret F dX4_asItem_65 z
  replace h := okFT h c5
  replace c1 := lv_neT c1 (a := 0) (by decide)
  replace c2 := lv_neT c2 (a := 1) (by decide)
  replace c3 := lv_neT c3 (a := 2) (by decide)
  replace c4 := lv_neT c4 (a := 3) (by decide)
  replace c5 := lv_neT c5 (a := 4) (by decide)
  refine vTabOut F (tgt := 66) dX4_asItem_4 (by omega) (by decide) ?_
  refine vLloadN F dX4_asItem_66 (k := 1) rfl ?_
  have z := okS h
  exact vLret F dX4_asItem_67 z
def Wo_has (x : Nat) (m : Mm) (a1 : Int32) : Bool :=
  if a1 < 0 then
 (false)
 else (if (m.1 x 0) ≤ a1 then
 (false)
 else (true))
set_option maxRecDepth 20000 in
set_option maxHeartbeats 4000000 in
theorem Wo_has_ok {G : Gw} (hG : gOk G) (hs : gsh G = shC) {x : Nat} (hx : is_X5 (gsh G) x) {a1 : Int32} {m : Mm} {P : Option Value → Mm → Prop} (h : P (some (.int (bI (Wo_has x m a1)))) m) : mjR G 0 yX5_has cX5_has 2 (some .boolean) [.ref (gr G x), .int a1] m P := by
  refine mjR_of hG (by decide) (Nat.le_of_ble_eq_true rfl) ?_
  intro X F
  have F : mjF G X cX5_has RX5 2 0 (some .boolean) := F
  show mjV G X 2 0 [(0, .ref (gr G x)), (1, .int a1)] [] m P
  have h : mjO (some (Wo_has x m a1)) (fun r => P (some (.int (bI r))) m) := ⟨_, rfl, h⟩
  unfold Wo_has at h
  refine vIloadN F dX5_has_0 (k := 1) rfl ?_
  refine vIfLt F (tgt := 16) dX5_has_1 (by decide) (fun c2 => ?_) (fun c2 => ?_)
  · replace h := okTT h c2
    refine vIconst F (v := 0) dX5_has_16 k_0 ?_
    have z := okS h
    exact vZret (x := bI false) F dX5_has_17 (nzI _) z
  · replace h := okFT h c2
    refine vIloadN F dX5_has_4 (k := 1) rfl ?_
    refine vAloadN F dX5_has_5 (k := 0) rfl ?_
    refine vGetI F dX5_has_6 fa_X5_43 hx.1 rfl ?_
    refine vIcmpGe F (tgt := 16) dX5_has_9 (by decide) (fun c1 => ?_) (fun c1 => ?_)
    · replace h := okTT h c1
      refine vIconst F (v := 0) dX5_has_16 k_0 ?_
      have z := okS h
      exact vZret (x := bI false) F dX5_has_17 (nzI _) z
    · replace h := okFT h c1
      refine vIconst F (v := 1) dX5_has_12 k_1 ?_
      refine vGoto F (tgt := 17) dX5_has_13 (by decide) ?_
      have z := okS h
      exact vZret (x := bI true) F dX5_has_17 (nzI _) z
def Wo_addPlace (x : Nat) (m : Mm) (a1 : Int32) (a2 : Int32) (a3 : Int32) : Option (Int32 × Mm) :=
  ga (m.1 x 0) 7 (ga (m.1 x 0) 7 (ga (m.1 x 0) 7 (some (m.1 x 0, si (si (si (si m (x + 1) (m.1 x 0).toNatClampNeg a1) (x + 2) (m.1 x 0).toNatClampNeg a2) (x + 3) (m.1 x 0).toNatClampNeg a3) x 0 (((si (si (si m (x + 1) (m.1 x 0).toNatClampNeg a1) (x + 2) (m.1 x 0).toNatClampNeg a2) (x + 3) (m.1 x 0).toNatClampNeg a3).1 x 0) + 1)))))
set_option maxRecDepth 20000 in
set_option maxHeartbeats 4000000 in
theorem Wo_addPlace_ok {G : Gw} (hG : gOk G) (hs : gsh G = shC) {x : Nat} (hx : is_X5 (gsh G) x) {a1 : Int32} {a2 : Int32} {a3 : Int32} {m : Mm} {P : Option Value → Mm → Prop} (h : mjO (Wo_addPlace x m a1 a2 a3) (fun r => P (some (.int r.1)) r.2)) : mjR G 0 yX5_addPlace cX5_addPlace 5 (some .int) [.ref (gr G x), .int a1, .int a2, .int a3] m P := by
  refine mjR_of hG (by decide) (Nat.le_of_ble_eq_true rfl) ?_
  intro X F
  have F : mjF G X cX5_addPlace RX5 5 0 (some .int) := F
  show mjV G X 5 0 [(0, .ref (gr G x)), (1, .int a1), (2, .int a2), (3, .int a3)] [] m P
  unfold Wo_addPlace at h
  refine vAloadN F dX5_addPlace_0 (k := 0) rfl ?_
  refine vGetI F dX5_addPlace_1 fa_X5_43 hx.1 rfl ?_
  refine vIstore F (L' := [(4, .int (m.1 x 0)), (0, .ref (gr G x)), (1, .int a1), (2, .int a2), (3, .int a3)]) dX5_addPlace_4 (by decide) rfl ?_
  refine vAloadN F dX5_addPlace_6 (k := 1) rfl ?_
  refine vGetR F (t := x + 1) dX5_addPlace_7 fa_X5_9 hx.1 rfl ?_
  refine vIload F dX5_addPlace_10 (k := 0) rfl ?_
  refine vIloadN F dX5_addPlace_12 (k := 2) rfl ?_
  obtain ⟨g1, h⟩ := okga h
  refine vIast F dX5_addPlace_13 hx.2.1 g1 ?_
  refine vAloadN F dX5_addPlace_14 (k := 1) rfl ?_
  refine vGetR F (t := x + 2) dX5_addPlace_15 fa_X5_15 hx.1 rfl ?_
  refine vIload F dX5_addPlace_18 (k := 0) rfl ?_
  refine vIloadN F dX5_addPlace_20 (k := 3) rfl ?_
  obtain ⟨g2, h⟩ := okga h
  refine vIast F dX5_addPlace_21 hx.2.2.1 g2 ?_
  refine vAloadN F dX5_addPlace_22 (k := 1) rfl ?_
  refine vGetR F (t := x + 3) dX5_addPlace_23 fa_X5_18 hx.1 rfl ?_
  refine vIload F dX5_addPlace_26 (k := 0) rfl ?_
  refine vIloadN F dX5_addPlace_28 (k := 4) rfl ?_
  obtain ⟨g3, h⟩ := okga h
  refine vIast F dX5_addPlace_29 hx.2.2.2.1 g3 ?_
  refine vAloadN F dX5_addPlace_30 (k := 1) rfl ?_
  refine vDup F dX5_addPlace_31 rfl ?_
  refine vGetI F dX5_addPlace_32 fa_X5_43 hx.1 rfl ?_
  refine vIconst F (v := 1) dX5_addPlace_35 k_1 ?_
  refine vIadd F dX5_addPlace_36 ?_
  refine vPutI F dX5_addPlace_37 fw_X5_43 hx.1 rfl ⟨rfl, rfl⟩ ?_
  refine vIload F dX5_addPlace_40 (k := 0) rfl ?_
  have z := okS h
  exact vIret F dX5_addPlace_42 z
def Wo_addTraveller (x : Nat) (m : Mm) (a1 : Int32) (a2 : Int32) (a3 : Int32) : Option (Int32 × Mm) :=
  ga (m.1 x 6) 8 (ga (m.1 x 6) 8 (ga (m.1 x 6) 8 (some (m.1 x 6, si (si (si (si m (x + 6) (m.1 x 6).toNatClampNeg a1) (x + 7) (m.1 x 6).toNatClampNeg a2) (x + 8) (m.1 x 6).toNatClampNeg a3) x 6 (((si (si (si m (x + 6) (m.1 x 6).toNatClampNeg a1) (x + 7) (m.1 x 6).toNatClampNeg a2) (x + 8) (m.1 x 6).toNatClampNeg a3).1 x 6) + 1)))))
set_option maxRecDepth 20000 in
set_option maxHeartbeats 4000000 in
theorem Wo_addTraveller_ok {G : Gw} (hG : gOk G) (hs : gsh G = shC) {x : Nat} (hx : is_X5 (gsh G) x) {a1 : Int32} {a2 : Int32} {a3 : Int32} {m : Mm} {P : Option Value → Mm → Prop} (h : mjO (Wo_addTraveller x m a1 a2 a3) (fun r => P (some (.int r.1)) r.2)) : mjR G 0 yX5_addTraveller cX5_addTraveller 5 (some .int) [.ref (gr G x), .int a1, .int a2, .int a3] m P := by
  refine mjR_of hG (by decide) (Nat.le_of_ble_eq_true rfl) ?_
  intro X F
  have F : mjF G X cX5_addTraveller RX5 5 0 (some .int) := F
  show mjV G X 5 0 [(0, .ref (gr G x)), (1, .int a1), (2, .int a2), (3, .int a3)] [] m P
  unfold Wo_addTraveller at h
  refine vAloadN F dX5_addTraveller_0 (k := 0) rfl ?_
  refine vGetI F dX5_addTraveller_1 fa_X5_46 hx.1 rfl ?_
  refine vIstore F (L' := [(4, .int (m.1 x 6)), (0, .ref (gr G x)), (1, .int a1), (2, .int a2), (3, .int a3)]) dX5_addTraveller_4 (by decide) rfl ?_
  refine vAloadN F dX5_addTraveller_6 (k := 1) rfl ?_
  refine vGetR F (t := x + 6) dX5_addTraveller_7 fa_X5_27 hx.1 rfl ?_
  refine vIload F dX5_addTraveller_10 (k := 0) rfl ?_
  refine vIloadN F dX5_addTraveller_12 (k := 2) rfl ?_
  obtain ⟨g1, h⟩ := okga h
  refine vIast F dX5_addTraveller_13 hx.2.2.2.2.2.2.1 g1 ?_
  refine vAloadN F dX5_addTraveller_14 (k := 1) rfl ?_
  refine vGetR F (t := x + 7) dX5_addTraveller_15 fa_X5_30 hx.1 rfl ?_
  refine vIload F dX5_addTraveller_18 (k := 0) rfl ?_
  refine vIloadN F dX5_addTraveller_20 (k := 3) rfl ?_
  obtain ⟨g2, h⟩ := okga h
  refine vIast F dX5_addTraveller_21 hx.2.2.2.2.2.2.2.1 g2 ?_
  refine vAloadN F dX5_addTraveller_22 (k := 1) rfl ?_
  refine vGetR F (t := x + 8) dX5_addTraveller_23 fa_X5_33 hx.1 rfl ?_
  refine vIload F dX5_addTraveller_26 (k := 0) rfl ?_
  refine vIloadN F dX5_addTraveller_28 (k := 4) rfl ?_
  obtain ⟨g3, h⟩ := okga h
  refine vIast F dX5_addTraveller_29 hx.2.2.2.2.2.2.2.2.1 g3 ?_
  refine vAloadN F dX5_addTraveller_30 (k := 1) rfl ?_
  refine vDup F dX5_addTraveller_31 rfl ?_
  refine vGetI F dX5_addTraveller_32 fa_X5_46 hx.1 rfl ?_
  refine vIconst F (v := 1) dX5_addTraveller_35 k_1 ?_
  refine vIadd F dX5_addTraveller_36 ?_
  refine vPutI F dX5_addTraveller_37 fw_X5_46 hx.1 rfl ⟨rfl, rfl⟩ ?_
  refine vIload F dX5_addTraveller_40 (k := 0) rfl ?_
  have z := okS h
  exact vIret F dX5_addTraveller_42 z
def Wo_setMiles (x : Nat) (m : Mm) (a1 : Int32) (a2 : Int32) (a3 : Int32) : Option (Mm) :=
  ga (NB_index a1 a2) 49 (ga (NB_index a2 a1) 49 (some (si (si m (x + 4) (NB_index a1 a2).toNatClampNeg a3) (x + 4) (NB_index a2 a1).toNatClampNeg a3)))
set_option maxRecDepth 20000 in
set_option maxHeartbeats 4000000 in
theorem Wo_setMiles_ok {G : Gw} (hG : gOk G) (hs : gsh G = shC) {x : Nat} (hx : is_X5 (gsh G) x) {a1 : Int32} {a2 : Int32} {a3 : Int32} {m : Mm} {P : Option Value → Mm → Prop} (h : mjO (Wo_setMiles x m a1 a2 a3) (fun r => P none r)) : mjR G 1 yX5_setMiles cX5_setMiles 4 none [.ref (gr G x), .int a1, .int a2, .int a3] m P := by
  refine mjR_of hG (by decide) (Nat.le_of_ble_eq_true rfl) ?_
  intro X F
  have F : mjF G X cX5_setMiles RX5 4 1 none := F
  show mjV G X 4 0 [(0, .ref (gr G x)), (1, .int a1), (2, .int a2), (3, .int a3)] [] m P
  unfold Wo_setMiles at h
  refine vAloadN F dX5_setMiles_0 (k := 0) rfl ?_
  refine vGetR F (t := x + 4) dX5_setMiles_1 fa_X5_21 hx.1 rfl ?_
  refine vIloadN F dX5_setMiles_4 (k := 1) rfl ?_
  refine vIloadN F dX5_setMiles_5 (k := 2) rfl ?_
  refine vCallS F (d' := 0) (As := [.int a1, .int a2]) (st := [.ref (gr G (x + 4))]) dX5_setMiles_6 lk_X5_49 my_X6_index sy_X6_index (by decide) rfl rfl (Nat.le_of_ble_eq_true rfl) (NB_index_ok hG hs ?_)
  show mjV G X 4 9 [(0, .ref (gr G x)), (1, .int a1), (2, .int a2), (3, .int a3)] [.int (NB_index a1 a2), .ref (gr G (x + 4))] m P
  refine vIloadN F dX5_setMiles_9 (k := 3) rfl ?_
  obtain ⟨g1, h⟩ := okga h
  refine vIast F dX5_setMiles_10 hx.2.2.2.2.1 g1 ?_
  refine vAloadN F dX5_setMiles_11 (k := 0) rfl ?_
  refine vGetR F (t := x + 4) dX5_setMiles_12 fa_X5_21 hx.1 rfl ?_
  refine vIloadN F dX5_setMiles_15 (k := 2) rfl ?_
  refine vIloadN F dX5_setMiles_16 (k := 1) rfl ?_
  refine vCallS F (d' := 0) (As := [.int a2, .int a1]) (st := [.ref (gr G (x + 4))]) dX5_setMiles_17 lk_X5_49 my_X6_index sy_X6_index (by decide) rfl rfl (Nat.le_of_ble_eq_true rfl) (NB_index_ok hG hs ?_)
  show mjV G X 4 20 [(0, .ref (gr G x)), (1, .int a1), (2, .int a2), (3, .int a3)] [.int (NB_index a2 a1), .ref (gr G (x + 4))] (si m (x + 4) (NB_index a1 a2).toNatClampNeg a3) P
  refine vIloadN F dX5_setMiles_20 (k := 3) rfl ?_
  obtain ⟨g2, h⟩ := okga h
  refine vIast F dX5_setMiles_21 hx.2.2.2.2.1 g2 ?_
  have z := okS h
  exact vVret F dX5_setMiles_22 z
def Wo_turnName (x : Nat) (m : Mm) (a1 : Int32) (a2 : Int32) : Option (Mm) :=
  ga a1 7 (ga a1 7 (ga a2 7 (ga a2 7 (some (si (si m (x + 5) a1.toNatClampNeg ((m.1 (x + 5) a1.toNatClampNeg) ^^^ (1 <<< (a2 &&& 31)))) (x + 5) a2.toNatClampNeg (((si m (x + 5) a1.toNatClampNeg ((m.1 (x + 5) a1.toNatClampNeg) ^^^ (1 <<< (a2 &&& 31)))).1 (x + 5) a2.toNatClampNeg) ^^^ (1 <<< (a1 &&& 31))))))))
set_option maxRecDepth 20000 in
set_option maxHeartbeats 4000000 in
theorem Wo_turnName_ok {G : Gw} (hG : gOk G) (hs : gsh G = shC) {x : Nat} (hx : is_X5 (gsh G) x) {a1 : Int32} {a2 : Int32} {m : Mm} {P : Option Value → Mm → Prop} (h : mjO (Wo_turnName x m a1 a2) (fun r => P none r)) : mjR G 0 yX5_turnName cX5_turnName 3 none [.ref (gr G x), .int a1, .int a2] m P := by
  refine mjR_of hG (by decide) (Nat.le_of_ble_eq_true rfl) ?_
  intro X F
  have F : mjF G X cX5_turnName RX5 3 0 none := F
  show mjV G X 3 0 [(0, .ref (gr G x)), (1, .int a1), (2, .int a2)] [] m P
  unfold Wo_turnName at h
  refine vAloadN F dX5_turnName_0 (k := 0) rfl ?_
  refine vGetR F (t := x + 5) dX5_turnName_1 fa_X5_24 hx.1 rfl ?_
  refine vIloadN F dX5_turnName_4 (k := 1) rfl ?_
  refine vDup2 F dX5_turnName_5 rfl rfl ?_
  obtain ⟨g1, h⟩ := okga h
  refine vIald F dX5_turnName_6 hx.2.2.2.2.2.1 g1 ?_
  refine vIconst F (v := 1) dX5_turnName_7 k_1 ?_
  refine vIloadN F dX5_turnName_8 (k := 2) rfl ?_
  refine vIshl F dX5_turnName_9 ?_
  refine vIxor F dX5_turnName_10 ?_
  obtain ⟨g2, h⟩ := okga h
  refine vIast F dX5_turnName_11 hx.2.2.2.2.2.1 g2 ?_
  refine vAloadN F dX5_turnName_12 (k := 0) rfl ?_
  refine vGetR F (t := x + 5) dX5_turnName_13 fa_X5_24 hx.1 rfl ?_
  refine vIloadN F dX5_turnName_16 (k := 2) rfl ?_
  refine vDup2 F dX5_turnName_17 rfl rfl ?_
  obtain ⟨g3, h⟩ := okga h
  refine vIald F dX5_turnName_18 hx.2.2.2.2.2.1 g3 ?_
  refine vIconst F (v := 1) dX5_turnName_19 k_1 ?_
  refine vIloadN F dX5_turnName_20 (k := 1) rfl ?_
  refine vIshl F dX5_turnName_21 ?_
  refine vIxor F dX5_turnName_22 ?_
  obtain ⟨g4, h⟩ := okga h
  refine vIast F dX5_turnName_23 hx.2.2.2.2.2.1 g4 ?_
  have z := okS h
  exact vVret F dX5_turnName_24 z
def Wo_countNames_l4 (x : Nat) (m : Mm) (s1 : Int32 × Int32) : Option ((Int32 × Int32) ⊕ Int32) :=
  if (m.1 x 0) ≤ (s1.2) then
 (some (.inr (s1.1)))
 else (ga (s1.2) 7 (some (.inl ((s1.1) + (JI_bitCount (m.1 (x + 5) (s1.2).toNatClampNeg)), (s1.2) + 1))))
noncomputable def Wo_countNames (x : Nat) (m : Mm) : Option (Int32) :=
  (iter (Wo_countNames_l4 x m) (0, 0)).bind fun e2 =>
  some (e2 / 2)
set_option maxRecDepth 20000 in
set_option maxHeartbeats 4000000 in
theorem Wo_countNames_ok {G : Gw} (hG : gOk G) (hs : gsh G = shC) {x : Nat} (hx : is_X5 (gsh G) x) {m : Mm} {P : Option Value → Mm → Prop} (h : mjO (Wo_countNames x m) (fun r => P (some (.int r)) m)) : mjR G 1 yX5_countNames cX5_countNames 3 (some .int) [.ref (gr G x)] m P := by
  refine mjR_of hG (by decide) (Nat.le_of_ble_eq_true rfl) ?_
  intro X F
  have F : mjF G X cX5_countNames RX5 3 1 (some .int) := F
  show mjV G X 3 0 [(0, .ref (gr G x))] [] m P
  unfold Wo_countNames at h
  refine vIconst F (v := 0) dX5_countNames_0 k_0 ?_
  refine vIstoreN F (L' := [(1, .int 0), (0, .ref (gr G x))]) dX5_countNames_1 rfl (by decide) rfl ?_
  refine vIconst F (v := 0) dX5_countNames_2 k_0 ?_
  refine vIstoreN F (L' := [(2, .int 0), (1, .int 0), (0, .ref (gr G x))]) dX5_countNames_3 rfl (by decide) rfl ?_
  refine vSub [2, 1, 0] rfl ?_
  refine okLoop (s0 := (0, 0)) (T := (fun (s1 : Int32 × Int32) => mjV G X 3 4 [(0, .ref (gr G x)), (1, .int (s1.1)), (2, .int (s1.2))] [] m P)) (Ve := (fun (e2 : Int32) => mjV G X 3 30 [(1, .int e2)] [] m P)) h ?_ (fun s1 h => ?_)
  · intro e2 h
    refine vIloadN F dX5_countNames_30 (k := 0) rfl ?_
    refine vIconst F (v := 2) dX5_countNames_31 k_2 ?_
    refine vIdiv F dX5_countNames_32 (by decide) ?_
    have z := okS h
    exact vIret F dX5_countNames_33 z
  · unfold Wo_countNames_l4 at h
    refine vIloadN F dX5_countNames_4 (k := 2) rfl ?_
    refine vAloadN F dX5_countNames_5 (k := 0) rfl ?_
    refine vGetI F dX5_countNames_6 fa_X5_43 hx.1 rfl ?_
    refine vIcmpGe F (tgt := 30) dX5_countNames_9 (by decide) (fun c4 => ?_) (fun c4 => ?_)
    · replace h := okT h c4
      refine vSub [1] rfl ?_
      have z := okR h
      exact z
    · replace h := okF h c4
      refine vIloadN F dX5_countNames_12 (k := 1) rfl ?_
      refine vAloadN F dX5_countNames_13 (k := 0) rfl ?_
      refine vGetR F (t := x + 5) dX5_countNames_14 fa_X5_24 hx.1 rfl ?_
      refine vIloadN F dX5_countNames_17 (k := 2) rfl ?_
      obtain ⟨g3, h⟩ := okga h
      refine vIald F dX5_countNames_18 hx.2.2.2.2.2.1 g3 ?_
      refine vCallS F (d' := 0) (As := [.int (m.1 (x + 5) (s1.2).toNatClampNeg)]) (st := [.int (s1.1)]) dX5_countNames_19 lk_X5_53 my_J6_bitCount_0f7a4 sy_J6_bitCount_0f7a4 (by decide) rfl rfl (Nat.le_of_ble_eq_true rfl) (JI_bitCount_ok hG ?_)
      show mjV G X 3 22 [(0, .ref (gr G x)), (1, .int (s1.1)), (2, .int (s1.2))] [.int (JI_bitCount (m.1 (x + 5) (s1.2).toNatClampNeg)), .int (s1.1)] m P
      refine vIadd F dX5_countNames_22 ?_
      refine vIstoreN F (L' := [(1, .int ((s1.1) + (JI_bitCount (m.1 (x + 5) (s1.2).toNatClampNeg)))), (0, .ref (gr G x)), (2, .int (s1.2))]) dX5_countNames_23 rfl (by decide) rfl ?_
      refine vIinc F (v := 1) (k := 2) (L' := [(2, .int ((s1.2) + 1)), (1, .int ((s1.1) + (JI_bitCount (m.1 (x + 5) (s1.2).toNatClampNeg)))), (0, .ref (gr G x))]) dX5_countNames_24 rfl k_1 (by decide) rfl ?_
      refine vGoto F (tgt := 4) dX5_countNames_27 (by decide) ?_
      refine vSub [2, 1, 0] rfl ?_
      have z := okL h
      exact z
def Wo_comeToBy_l19 (x : Nat) (m : Mm) (s1 : Int32 × Int32) (s3 : Int32 × Int32) : Option ((Int32 × Int32) ⊕ Int32) :=
  if (m.1 x 0) ≤ (s3.2) then
 (some (.inr (s3.1)))
 else (if ((s1.1) &&& (1 <<< ((s3.2) &&& 31))) = 0 then
 (some (.inl (s3.1, (s3.2) + 1)))
 else (ga (s3.2) 7 (some (.inl ((s3.1) ||| (m.1 (x + 5) (s3.2).toNatClampNeg), (s3.2) + 1)))))
noncomputable def Wo_comeToBy_l7 (x : Nat) (m : Mm) (a2 : Int32) (s1 : Int32 × Int32) : Option ((Int32 × Int32) ⊕ Int32) :=
  if a2 ≤ (s1.2) then
 (some (.inr (s1.1)))
 else ((iter (Wo_comeToBy_l19 x m s1) (s1.1, 0)).bind fun e4 =>
  some (.inl (e4, (s1.2) + 1)))
noncomputable def Wo_comeToBy (x : Nat) (m : Mm) (a1 : Int32) (a2 : Int32) : Option (Int32) :=
  (iter (Wo_comeToBy_l7 x m a2) (1 <<< (a1 &&& 31), 0)).bind fun e2 =>
  some e2
set_option maxRecDepth 20000 in
set_option maxHeartbeats 4000000 in
theorem Wo_comeToBy_ok {G : Gw} (hG : gOk G) (hs : gsh G = shC) {x : Nat} (hx : is_X5 (gsh G) x) {a1 : Int32} {a2 : Int32} {m : Mm} {P : Option Value → Mm → Prop} (h : mjO (Wo_comeToBy x m a1 a2) (fun r => P (some (.int r)) m)) : mjR G 0 yX5_comeToBy cX5_comeToBy 7 (some .int) [.ref (gr G x), .int a1, .int a2] m P := by
  refine mjR_of hG (by decide) (Nat.le_of_ble_eq_true rfl) ?_
  intro X F
  have F : mjF G X cX5_comeToBy RX5 7 0 (some .int) := F
  show mjV G X 7 0 [(0, .ref (gr G x)), (1, .int a1), (2, .int a2)] [] m P
  unfold Wo_comeToBy at h
  refine vIconst F (v := 1) dX5_comeToBy_0 k_1 ?_
  refine vIloadN F dX5_comeToBy_1 (k := 1) rfl ?_
  refine vIshl F dX5_comeToBy_2 ?_
  refine vIstoreN F (L' := [(3, .int (1 <<< (a1 &&& 31))), (0, .ref (gr G x)), (1, .int a1), (2, .int a2)]) dX5_comeToBy_3 rfl (by decide) rfl ?_
  refine vIconst F (v := 0) dX5_comeToBy_4 k_0 ?_
  refine vIstore F (L' := [(4, .int 0), (3, .int (1 <<< (a1 &&& 31))), (0, .ref (gr G x)), (1, .int a1), (2, .int a2)]) dX5_comeToBy_5 (by decide) rfl ?_
  refine vSub [2, 4, 1, 0] rfl ?_
  refine okLoop (s0 := (1 <<< (a1 &&& 31), 0)) (T := (fun (s1 : Int32 × Int32) => mjV G X 7 7 [(0, .ref (gr G x)), (2, .int a2), (3, .int (s1.1)), (4, .int (s1.2))] [] m P)) (Ve := (fun (e2 : Int32) => mjV G X 7 60 [(3, .int e2)] [] m P)) h ?_ (fun s1 h => ?_)
  · intro e2 h
    refine vIloadN F dX5_comeToBy_60 (k := 0) rfl ?_
    have z := okS h
    exact vIret F dX5_comeToBy_61 z
  · unfold Wo_comeToBy_l7 at h
    refine vIload F dX5_comeToBy_7 (k := 3) rfl ?_
    refine vIloadN F dX5_comeToBy_9 (k := 1) rfl ?_
    refine vIcmpGe F (tgt := 60) dX5_comeToBy_10 (by decide) (fun c9 => ?_) (fun c9 => ?_)
    · replace h := okT h c9
      refine vSub [2] rfl ?_
      have z := okR h
      exact z
    · replace h := okF h c9
      refine vIloadN F dX5_comeToBy_13 (k := 2) rfl ?_
      refine vIstore F (L' := [(5, .int (s1.1)), (0, .ref (gr G x)), (2, .int a2), (3, .int (s1.1)), (4, .int (s1.2))]) dX5_comeToBy_14 (by decide) rfl ?_
      refine vIconst F (v := 0) dX5_comeToBy_16 k_0 ?_
      refine vIstore F (L' := [(6, .int 0), (5, .int (s1.1)), (0, .ref (gr G x)), (2, .int a2), (3, .int (s1.1)), (4, .int (s1.2))]) dX5_comeToBy_17 (by decide) rfl ?_
      refine vSub [2, 3, 4, 5, 1, 0] rfl ?_
      refine okLoop (s0 := (s1.1, 0)) (T := (fun (s3 : Int32 × Int32) => mjV G X 7 19 [(0, .ref (gr G x)), (2, .int a2), (3, .int (s3.1)), (4, .int (s1.2)), (5, .int (s1.1)), (6, .int (s3.2))] [] m P)) (Ve := (fun (e4 : Int32) => mjV G X 7 54 [(0, .ref (gr G x)), (2, .int a2), (3, .int e4), (4, .int (s1.2))] [] m P)) h ?_ (fun s3 h => ?_)
      · intro e4 h
        refine vIinc F (v := 1) (k := 3) (L' := [(4, .int ((s1.2) + 1)), (0, .ref (gr G x)), (2, .int a2), (3, .int e4)]) dX5_comeToBy_54 rfl k_1 (by decide) rfl ?_
        refine vGoto F (tgt := 7) dX5_comeToBy_57 (by decide) ?_
        refine vSub [1, 2, 3, 0] rfl ?_
        have z := okL h
        exact z
      · unfold Wo_comeToBy_l19 at h
        refine vIload F dX5_comeToBy_19 (k := 5) rfl ?_
        refine vAloadN F dX5_comeToBy_21 (k := 0) rfl ?_
        refine vGetI F dX5_comeToBy_22 fa_X5_43 hx.1 rfl ?_
        refine vIcmpGe F (tgt := 54) dX5_comeToBy_25 (by decide) (fun c7 => ?_) (fun c7 => ?_)
        · replace h := okT h c7
          refine vSub [0, 1, 2, 3] rfl ?_
          have z := okR h
          exact z
        · replace h := okF h c7
          refine vIload F dX5_comeToBy_28 (k := 4) rfl ?_
          refine vIconst F (v := 1) dX5_comeToBy_30 k_1 ?_
          refine vIload F dX5_comeToBy_31 (k := 5) rfl ?_
          refine vIshl F dX5_comeToBy_33 ?_
          refine vIand F dX5_comeToBy_34 ?_
          refine vIfEq F (tgt := 48) dX5_comeToBy_35 (by decide) (fun c6 => ?_) (fun c6 => ?_)
          · replace h := okT h c6
            refine vIinc F (v := 1) (k := 5) (L' := [(6, .int ((s3.2) + 1)), (0, .ref (gr G x)), (2, .int a2), (3, .int (s3.1)), (4, .int (s1.2)), (5, .int (s1.1))]) dX5_comeToBy_48 rfl k_1 (by decide) rfl ?_
            refine vGoto F (tgt := 19) dX5_comeToBy_51 (by decide) ?_
            refine vSub [1, 2, 3, 4, 5, 0] rfl ?_
            have z := okL h
            exact z
          · replace h := okF h c6
            refine vIloadN F dX5_comeToBy_38 (k := 2) rfl ?_
            refine vAloadN F dX5_comeToBy_39 (k := 0) rfl ?_
            refine vGetR F (t := x + 5) dX5_comeToBy_40 fa_X5_24 hx.1 rfl ?_
            refine vIload F dX5_comeToBy_43 (k := 5) rfl ?_
            obtain ⟨g5, h⟩ := okga h
            refine vIald F dX5_comeToBy_45 hx.2.2.2.2.2.1 g5 ?_
            refine vIor F dX5_comeToBy_46 ?_
            refine vIstoreN F (L' := [(3, .int ((s3.1) ||| (m.1 (x + 5) (s3.2).toNatClampNeg))), (0, .ref (gr G x)), (2, .int a2), (4, .int (s1.2)), (5, .int (s1.1)), (6, .int (s3.2))]) dX5_comeToBy_47 rfl (by decide) rfl ?_
            refine vIinc F (v := 1) (k := 5) (L' := [(6, .int ((s3.2) + 1)), (3, .int ((s3.1) ||| (m.1 (x + 5) (s3.2).toNatClampNeg))), (0, .ref (gr G x)), (2, .int a2), (4, .int (s1.2)), (5, .int (s1.1))]) dX5_comeToBy_48 rfl k_1 (by decide) rfl ?_
            refine vGoto F (tgt := 19) dX5_comeToBy_51 (by decide) ?_
            refine vSub [2, 3, 1, 4, 5, 0] rfl ?_
            have z := okL h
            exact z
def Wo_becomeAs (x : Nat) (m : Mm) (a1 : Nat) : Option (Mm) :=
  gq (cpOk 0 0 7 7 7) (gq (cpOk 0 0 7 7 7) (gq (cpOk 0 0 7 7 7) (gq (cpOk 0 0 49 49 49) (gq (cpOk 0 0 7 7 7) (gq (cpOk 0 0 8 8 8) (gq (cpOk 0 0 8 8 8) (gq (cpOk 0 0 8 8 8) (gq (cpOk 0 0 12 12 12) (some (si (cpi (si (cpi (cpi (cpi (si (cpi (cpi (cpi (cpi (cpi (si m x 0 (m.1 a1 0)) (a1 + 1) (x + 1) 0 0 7) (a1 + 2) (x + 2) 0 0 7) (a1 + 3) (x + 3) 0 0 7) (a1 + 4) (x + 4) 0 0 49) (a1 + 5) (x + 5) 0 0 7) x 6 ((cpi (cpi (cpi (cpi (cpi (si m x 0 (m.1 a1 0)) (a1 + 1) (x + 1) 0 0 7) (a1 + 2) (x + 2) 0 0 7) (a1 + 3) (x + 3) 0 0 7) (a1 + 4) (x + 4) 0 0 49) (a1 + 5) (x + 5) 0 0 7).1 a1 6)) (a1 + 6) (x + 6) 0 0 8) (a1 + 7) (x + 7) 0 0 8) (a1 + 8) (x + 8) 0 0 8) x 10 ((cpi (cpi (cpi (si (cpi (cpi (cpi (cpi (cpi (si m x 0 (m.1 a1 0)) (a1 + 1) (x + 1) 0 0 7) (a1 + 2) (x + 2) 0 0 7) (a1 + 3) (x + 3) 0 0 7) (a1 + 4) (x + 4) 0 0 49) (a1 + 5) (x + 5) 0 0 7) x 6 ((cpi (cpi (cpi (cpi (cpi (si m x 0 (m.1 a1 0)) (a1 + 1) (x + 1) 0 0 7) (a1 + 2) (x + 2) 0 0 7) (a1 + 3) (x + 3) 0 0 7) (a1 + 4) (x + 4) 0 0 49) (a1 + 5) (x + 5) 0 0 7).1 a1 6)) (a1 + 6) (x + 6) 0 0 8) (a1 + 7) (x + 7) 0 0 8) (a1 + 8) (x + 8) 0 0 8).1 a1 10)) (a1 + 9) (x + 9) 0 0 12) x 12 ((cpi (si (cpi (cpi (cpi (si (cpi (cpi (cpi (cpi (cpi (si m x 0 (m.1 a1 0)) (a1 + 1) (x + 1) 0 0 7) (a1 + 2) (x + 2) 0 0 7) (a1 + 3) (x + 3) 0 0 7) (a1 + 4) (x + 4) 0 0 49) (a1 + 5) (x + 5) 0 0 7) x 6 ((cpi (cpi (cpi (cpi (cpi (si m x 0 (m.1 a1 0)) (a1 + 1) (x + 1) 0 0 7) (a1 + 2) (x + 2) 0 0 7) (a1 + 3) (x + 3) 0 0 7) (a1 + 4) (x + 4) 0 0 49) (a1 + 5) (x + 5) 0 0 7).1 a1 6)) (a1 + 6) (x + 6) 0 0 8) (a1 + 7) (x + 7) 0 0 8) (a1 + 8) (x + 8) 0 0 8) x 10 ((cpi (cpi (cpi (si (cpi (cpi (cpi (cpi (cpi (si m x 0 (m.1 a1 0)) (a1 + 1) (x + 1) 0 0 7) (a1 + 2) (x + 2) 0 0 7) (a1 + 3) (x + 3) 0 0 7) (a1 + 4) (x + 4) 0 0 49) (a1 + 5) (x + 5) 0 0 7) x 6 ((cpi (cpi (cpi (cpi (cpi (si m x 0 (m.1 a1 0)) (a1 + 1) (x + 1) 0 0 7) (a1 + 2) (x + 2) 0 0 7) (a1 + 3) (x + 3) 0 0 7) (a1 + 4) (x + 4) 0 0 49) (a1 + 5) (x + 5) 0 0 7).1 a1 6)) (a1 + 6) (x + 6) 0 0 8) (a1 + 7) (x + 7) 0 0 8) (a1 + 8) (x + 8) 0 0 8).1 a1 10)) (a1 + 9) (x + 9) 0 0 12).1 a1 12)))))))))))
set_option maxRecDepth 20000 in
set_option maxHeartbeats 4000000 in
theorem Wo_becomeAs_ok {G : Gw} (hG : gOk G) (hs : gsh G = shC) {x : Nat} (hx : is_X5 (gsh G) x) {a1 : Nat} (ha1 : is_X5 (gsh G) a1) {m : Mm} {P : Option Value → Mm → Prop} (h : mjO (Wo_becomeAs x m a1) (fun r => P none r)) : mjR G 0 yX5_becomeAs cX5_becomeAs 2 none [.ref (gr G x), .ref (gr G a1)] m P := by
  refine mjR_of hG (by decide) (Nat.le_of_ble_eq_true rfl) ?_
  intro X F
  have F : mjF G X cX5_becomeAs RX5 2 0 none := F
  show mjV G X 2 0 [(0, .ref (gr G x)), (1, .ref (gr G a1))] [] m P
  unfold Wo_becomeAs at h
  refine vAloadN F dX5_becomeAs_0 (k := 0) rfl ?_
  refine vAloadN F dX5_becomeAs_1 (k := 1) rfl ?_
  refine vGetI F dX5_becomeAs_2 fa_X5_43 ha1.1 rfl ?_
  refine vPutI F dX5_becomeAs_5 fw_X5_43 hx.1 rfl ⟨rfl, rfl⟩ ?_
  refine vAloadN F dX5_becomeAs_8 (k := 1) rfl ?_
  refine vGetR F (t := a1 + 1) dX5_becomeAs_9 fa_X5_9 ha1.1 rfl ?_
  refine vIconst F (v := 0) dX5_becomeAs_12 k_0 ?_
  refine vAloadN F dX5_becomeAs_13 (k := 0) rfl ?_
  refine vGetR F (t := x + 1) dX5_becomeAs_14 fa_X5_9 hx.1 rfl ?_
  refine vIconst F (v := 0) dX5_becomeAs_17 k_0 ?_
  refine vBipush F (v := 7) dX5_becomeAs_18 kb_7 ?_
  obtain ⟨g1, h⟩ := okgq h
  refine vCopyI F dX5_becomeAs_20 kp_X5_62 ha1.2.1 hx.2.1 g1 (Nat.le_of_ble_eq_true rfl) ?_
  refine vAloadN F dX5_becomeAs_23 (k := 1) rfl ?_
  refine vGetR F (t := a1 + 2) dX5_becomeAs_24 fa_X5_15 ha1.1 rfl ?_
  refine vIconst F (v := 0) dX5_becomeAs_27 k_0 ?_
  refine vAloadN F dX5_becomeAs_28 (k := 0) rfl ?_
  refine vGetR F (t := x + 2) dX5_becomeAs_29 fa_X5_15 hx.1 rfl ?_
  refine vIconst F (v := 0) dX5_becomeAs_32 k_0 ?_
  refine vBipush F (v := 7) dX5_becomeAs_33 kb_7 ?_
  obtain ⟨g2, h⟩ := okgq h
  refine vCopyI F dX5_becomeAs_35 kp_X5_62 ha1.2.2.1 hx.2.2.1 g2 (Nat.le_of_ble_eq_true rfl) ?_
  refine vAloadN F dX5_becomeAs_38 (k := 1) rfl ?_
  refine vGetR F (t := a1 + 3) dX5_becomeAs_39 fa_X5_18 ha1.1 rfl ?_
  refine vIconst F (v := 0) dX5_becomeAs_42 k_0 ?_
  refine vAloadN F dX5_becomeAs_43 (k := 0) rfl ?_
  refine vGetR F (t := x + 3) dX5_becomeAs_44 fa_X5_18 hx.1 rfl ?_
  refine vIconst F (v := 0) dX5_becomeAs_47 k_0 ?_
  refine vBipush F (v := 7) dX5_becomeAs_48 kb_7 ?_
  obtain ⟨g3, h⟩ := okgq h
  refine vCopyI F dX5_becomeAs_50 kp_X5_62 ha1.2.2.2.1 hx.2.2.2.1 g3 (Nat.le_of_ble_eq_true rfl) ?_
  refine vAloadN F dX5_becomeAs_53 (k := 1) rfl ?_
  refine vGetR F (t := a1 + 4) dX5_becomeAs_54 fa_X5_21 ha1.1 rfl ?_
  refine vIconst F (v := 0) dX5_becomeAs_57 k_0 ?_
  refine vAloadN F dX5_becomeAs_58 (k := 0) rfl ?_
  refine vGetR F (t := x + 4) dX5_becomeAs_59 fa_X5_21 hx.1 rfl ?_
  refine vIconst F (v := 0) dX5_becomeAs_62 k_0 ?_
  refine vBipush F (v := 49) dX5_becomeAs_63 kb_49 ?_
  obtain ⟨g4, h⟩ := okgq h
  refine vCopyI F dX5_becomeAs_65 kp_X5_62 ha1.2.2.2.2.1 hx.2.2.2.2.1 g4 (Nat.le_of_ble_eq_true rfl) ?_
  refine vAloadN F dX5_becomeAs_68 (k := 1) rfl ?_
  refine vGetR F (t := a1 + 5) dX5_becomeAs_69 fa_X5_24 ha1.1 rfl ?_
  refine vIconst F (v := 0) dX5_becomeAs_72 k_0 ?_
  refine vAloadN F dX5_becomeAs_73 (k := 0) rfl ?_
  refine vGetR F (t := x + 5) dX5_becomeAs_74 fa_X5_24 hx.1 rfl ?_
  refine vIconst F (v := 0) dX5_becomeAs_77 k_0 ?_
  refine vBipush F (v := 7) dX5_becomeAs_78 kb_7 ?_
  obtain ⟨g5, h⟩ := okgq h
  refine vCopyI F dX5_becomeAs_80 kp_X5_62 ha1.2.2.2.2.2.1 hx.2.2.2.2.2.1 g5 (Nat.le_of_ble_eq_true rfl) ?_
  refine vAloadN F dX5_becomeAs_83 (k := 0) rfl ?_
  refine vAloadN F dX5_becomeAs_84 (k := 1) rfl ?_
  refine vGetI F dX5_becomeAs_85 fa_X5_46 ha1.1 rfl ?_
  refine vPutI F dX5_becomeAs_88 fw_X5_46 hx.1 rfl ⟨rfl, rfl⟩ ?_
  refine vAloadN F dX5_becomeAs_91 (k := 1) rfl ?_
  refine vGetR F (t := a1 + 6) dX5_becomeAs_92 fa_X5_27 ha1.1 rfl ?_
  refine vIconst F (v := 0) dX5_becomeAs_95 k_0 ?_
  refine vAloadN F dX5_becomeAs_96 (k := 0) rfl ?_
  refine vGetR F (t := x + 6) dX5_becomeAs_97 fa_X5_27 hx.1 rfl ?_
  refine vIconst F (v := 0) dX5_becomeAs_100 k_0 ?_
  refine vBipush F (v := 8) dX5_becomeAs_101 kb_8 ?_
  obtain ⟨g6, h⟩ := okgq h
  refine vCopyI F dX5_becomeAs_103 kp_X5_62 ha1.2.2.2.2.2.2.1 hx.2.2.2.2.2.2.1 g6 (Nat.le_of_ble_eq_true rfl) ?_
  refine vAloadN F dX5_becomeAs_106 (k := 1) rfl ?_
  refine vGetR F (t := a1 + 7) dX5_becomeAs_107 fa_X5_30 ha1.1 rfl ?_
  refine vIconst F (v := 0) dX5_becomeAs_110 k_0 ?_
  refine vAloadN F dX5_becomeAs_111 (k := 0) rfl ?_
  refine vGetR F (t := x + 7) dX5_becomeAs_112 fa_X5_30 hx.1 rfl ?_
  refine vIconst F (v := 0) dX5_becomeAs_115 k_0 ?_
  refine vBipush F (v := 8) dX5_becomeAs_116 kb_8 ?_
  obtain ⟨g7, h⟩ := okgq h
  refine vCopyI F dX5_becomeAs_118 kp_X5_62 ha1.2.2.2.2.2.2.2.1 hx.2.2.2.2.2.2.2.1 g7 (Nat.le_of_ble_eq_true rfl) ?_
  refine vAloadN F dX5_becomeAs_121 (k := 1) rfl ?_
  refine vGetR F (t := a1 + 8) dX5_becomeAs_122 fa_X5_33 ha1.1 rfl ?_
  refine vIconst F (v := 0) dX5_becomeAs_125 k_0 ?_
  refine vAloadN F dX5_becomeAs_126 (k := 0) rfl ?_
  refine vGetR F (t := x + 8) dX5_becomeAs_127 fa_X5_33 hx.1 rfl ?_
  refine vIconst F (v := 0) dX5_becomeAs_130 k_0 ?_
  refine vBipush F (v := 8) dX5_becomeAs_131 kb_8 ?_
  obtain ⟨g8, h⟩ := okgq h
  refine vCopyI F dX5_becomeAs_133 kp_X5_62 ha1.2.2.2.2.2.2.2.2.1 hx.2.2.2.2.2.2.2.2.1 g8 (Nat.le_of_ble_eq_true rfl) ?_
  refine vAloadN F dX5_becomeAs_136 (k := 0) rfl ?_
  refine vAloadN F dX5_becomeAs_137 (k := 1) rfl ?_
  refine vGetI F dX5_becomeAs_138 fa_X5_68 ha1.1 rfl ?_
  refine vPutI F dX5_becomeAs_141 fw_X5_68 hx.1 rfl ⟨rfl, rfl⟩ ?_
  refine vAloadN F dX5_becomeAs_144 (k := 1) rfl ?_
  refine vGetR F (t := a1 + 9) dX5_becomeAs_145 fa_X5_36 ha1.1 rfl ?_
  refine vIconst F (v := 0) dX5_becomeAs_148 k_0 ?_
  refine vAloadN F dX5_becomeAs_149 (k := 0) rfl ?_
  refine vGetR F (t := x + 9) dX5_becomeAs_150 fa_X5_36 hx.1 rfl ?_
  refine vIconst F (v := 0) dX5_becomeAs_153 k_0 ?_
  refine vBipush F (v := 12) dX5_becomeAs_154 kb_12 ?_
  obtain ⟨g9, h⟩ := okgq h
  refine vCopyI F dX5_becomeAs_156 kp_X5_62 ha1.2.2.2.2.2.2.2.2.2 hx.2.2.2.2.2.2.2.2.2 g9 (Nat.le_of_ble_eq_true rfl) ?_
  refine vAloadN F dX5_becomeAs_159 (k := 0) rfl ?_
  refine vAloadN F dX5_becomeAs_160 (k := 1) rfl ?_
  refine vGetI F dX5_becomeAs_161 fa_X5_39 ha1.1 rfl ?_
  refine vPutI F dX5_becomeAs_164 fw_X5_39 hx.1 rfl ⟨rfl, rfl⟩ ?_
  have z := okS h
  exact vVret F dX5_becomeAs_167 z
def NB_place (m : Mm) (a1 : Int32) (a2 : Int32) (a3 : Int32) : Option (Int32 × Mm) :=
  if a1 < 0 then
 (some ((-1), m))
 else (if a1 ≤ 6 then
 (if a2 < 0 then
 (some ((-2), m))
 else (if 9 < a2 then
 (some ((-2), m))
 else (if a3 < 0 then
 (some ((-2), m))
 else (if a3 ≤ 99 then
 (if (m.1 11 0) < 7 then
 ((Wo_addPlace 11 m a1 a2 a3).bind fun r1 =>
  some (r1.1, r1.2))
 else (some ((-4), m)))
 else (some ((-2), m))))))
 else (some ((-1), m)))
set_option maxRecDepth 20000 in
set_option maxHeartbeats 4000000 in
theorem NB_place_ok {G : Gw} (hG : gOk G) (hs : gsh G = shC) {a1 : Int32} {a2 : Int32} {a3 : Int32} {m : Mm} {P : Option Value → Mm → Prop} (h : mjO (NB_place m a1 a2 a3) (fun r => P (some (.int r.1)) r.2)) : mjR G 1 yX6_place cX6_place 4 (some .int) [.ref (gr G 0), .int a1, .int a2, .int a3] m P := by
  refine mjR_of hG (by decide) (Nat.le_of_ble_eq_true rfl) ?_
  intro X F
  have F : mjF G X cX6_place RX6 4 1 (some .int) := F
  show mjV G X 4 0 [(0, .ref (gr G 0)), (1, .int a1), (2, .int a2), (3, .int a3)] [] m P
  unfold NB_place at h
  refine vIloadN F dX6_place_0 (k := 1) rfl ?_
  refine vIfLt F (tgt := 10) dX6_place_1 (by decide) (fun c8 => ?_) (fun c8 => ?_)
  · replace h := okT h c8
    refine vIconst F (v := (-1)) dX6_place_10 k_m1 ?_
    have z := okS h
    exact vIret F dX6_place_11 z
  · replace h := okF h c8
    refine vIloadN F dX6_place_4 (k := 1) rfl ?_
    refine vBipush F (v := 6) dX6_place_5 kb_6 ?_
    refine vIcmpLe F (tgt := 12) dX6_place_7 (by decide) (fun c7 => ?_) (fun c7 => ?_)
    · replace h := okT h c7
      refine vIloadN F dX6_place_12 (k := 2) rfl ?_
      refine vIfLt F (tgt := 32) dX6_place_13 (by decide) (fun c6 => ?_) (fun c6 => ?_)
      · replace h := okT h c6
        refine vBipush F (v := (-2)) dX6_place_32 kb_m2 ?_
        have z := okS h
        exact vIret F dX6_place_34 z
      · replace h := okF h c6
        refine vIloadN F dX6_place_16 (k := 2) rfl ?_
        refine vBipush F (v := 9) dX6_place_17 kb_9 ?_
        refine vIcmpGt F (tgt := 32) dX6_place_19 (by decide) (fun c5 => ?_) (fun c5 => ?_)
        · replace h := okT h c5
          refine vBipush F (v := (-2)) dX6_place_32 kb_m2 ?_
          have z := okS h
          exact vIret F dX6_place_34 z
        · replace h := okF h c5
          refine vIloadN F dX6_place_22 (k := 3) rfl ?_
          refine vIfLt F (tgt := 32) dX6_place_23 (by decide) (fun c4 => ?_) (fun c4 => ?_)
          · replace h := okT h c4
            refine vBipush F (v := (-2)) dX6_place_32 kb_m2 ?_
            have z := okS h
            exact vIret F dX6_place_34 z
          · replace h := okF h c4
            refine vIloadN F dX6_place_26 (k := 3) rfl ?_
            refine vBipush F (v := 99) dX6_place_27 kb_99 ?_
            refine vIcmpLe F (tgt := 35) dX6_place_29 (by decide) (fun c3 => ?_) (fun c3 => ?_)
            · replace h := okT h c3
              refine vAloadN F dX6_place_35 (k := 0) rfl ?_
              refine vGetR F (t := 11) dX6_place_36 fa_X6_22 (cqC_0 hs) rfl ?_
              refine vGetI F dX6_place_39 fa_X6_61 (is_X5_11 hs).1 rfl ?_
              refine vBipush F (v := 7) dX6_place_42 kb_7 ?_
              refine vIcmpLt F (tgt := 50) dX6_place_44 (by decide) (fun c2 => ?_) (fun c2 => ?_)
              · replace h := okT h c2
                refine vAloadN F dX6_place_50 (k := 0) rfl ?_
                refine vGetR F (t := 11) dX6_place_51 fa_X6_22 (cqC_0 hs) rfl ?_
                refine vIloadN F dX6_place_54 (k := 1) rfl ?_
                refine vIloadN F dX6_place_55 (k := 2) rfl ?_
                refine vIloadN F dX6_place_56 (k := 3) rfl ?_
                refine vCallV F (d' := 0) (x := 11) (T := TX5) (N := 13) (As := [.int a1, .int a2, .int a3]) (st := []) dX6_place_57 lk_X6_65 my_X5_addPlace mv_X5_addPlace (is_X5_11 hs).1 rfl (by decide) rfl rfl (Nat.le_of_ble_eq_true rfl) (Wo_addPlace_ok hG hs (is_X5_11 hs) (okB h fun r1 h => ?_))
                show mjV G X 4 60 [(0, .ref (gr G 0)), (1, .int a1), (2, .int a2), (3, .int a3)] [.int (r1.1)] (r1.2) P
                have z := okS h
                exact vIret F dX6_place_60 z
              · replace h := okF h c2
                refine vBipush F (v := (-4)) dX6_place_47 kb_m4 ?_
                have z := okS h
                exact vIret F dX6_place_49 z
            · replace h := okF h c3
              refine vBipush F (v := (-2)) dX6_place_32 kb_m2 ?_
              have z := okS h
              exact vIret F dX6_place_34 z
    · replace h := okF h c7
      refine vIconst F (v := (-1)) dX6_place_10 k_m1 ?_
      have z := okS h
      exact vIret F dX6_place_11 z
def NB_holding (m : Mm) : Option (Nat) :=
  if (m.1 11 12) < 0 then
 (some 31)
 else (if 6 ≤ (m.1 11 12) then
 (some 31)
 else (ga (m.1 11 12) 6 (some (37 + 5 * (m.1 11 12).toNatClampNeg))))
set_option maxRecDepth 20000 in
set_option maxHeartbeats 4000000 in
theorem NB_holding_ok {G : Gw} (hG : gOk G) (hs : gsh G = shC) {m : Mm} {P : Option Value → Mm → Prop} (h : mjO (NB_holding m) (fun r => P (some (.ref (gr G r))) m)) : mjR G 0 yX6_holding cX6_holding 1 (some (.object "NamesBack$Land")) [.ref (gr G 0)] m P := by
  refine mjR_of hG (by decide) (Nat.le_of_ble_eq_true rfl) ?_
  intro X F
  have F : mjF G X cX6_holding RX6 1 0 (some (.object "NamesBack$Land")) := F
  show mjV G X 1 0 [(0, .ref (gr G 0))] [] m P
  unfold NB_holding at h
  refine vAloadN F dX6_holding_0 (k := 0) rfl ?_
  refine vGetR F (t := 11) dX6_holding_1 fa_X6_22 (cqC_0 hs) rfl ?_
  refine vGetI F dX6_holding_4 fa_X6_150 (is_X5_11 hs).1 rfl ?_
  refine vIfLt F (tgt := 37) dX6_holding_7 (by decide) (fun c3 => ?_) (fun c3 => ?_)
  · replace h := okT h c3
    refine vAloadN F dX6_holding_37 (k := 0) rfl ?_
    refine vGetR F (t := 31) dX6_holding_38 fa_X6_32 (cqC_0 hs) rfl ?_
    have z := okS h
    exact vAret F dX6_holding_41 (Or.inl ⟨_, rfl⟩) z
  · replace h := okF h c3
    refine vAloadN F dX6_holding_10 (k := 0) rfl ?_
    refine vGetR F (t := 11) dX6_holding_11 fa_X6_22 (cqC_0 hs) rfl ?_
    refine vGetI F dX6_holding_14 fa_X6_150 (is_X5_11 hs).1 rfl ?_
    refine vBipush F (v := 6) dX6_holding_17 kb_6 ?_
    refine vIcmpGe F (tgt := 37) dX6_holding_19 (by decide) (fun c2 => ?_) (fun c2 => ?_)
    · replace h := okT h c2
      refine vAloadN F dX6_holding_37 (k := 0) rfl ?_
      refine vGetR F (t := 31) dX6_holding_38 fa_X6_32 (cqC_0 hs) rfl ?_
      have z := okS h
      exact vAret F dX6_holding_41 (Or.inl ⟨_, rfl⟩) z
    · replace h := okF h c2
      refine vAloadN F dX6_holding_22 (k := 0) rfl ?_
      refine vGetR F (t := 36) dX6_holding_23 fa_X6_36 (cqC_0 hs) rfl ?_
      refine vAloadN F dX6_holding_26 (k := 0) rfl ?_
      refine vGetR F (t := 11) dX6_holding_27 fa_X6_22 (cqC_0 hs) rfl ?_
      refine vGetI F dX6_holding_30 fa_X6_150 (is_X5_11 hs).1 rfl ?_
      obtain ⟨g1, h⟩ := okga h
      refine vAald4 F dX6_holding_33 (cqC_36 hs) g1 ?_
      show mjV G X 1 34 [(0, .ref (gr G 0))] [.ref (gr G (37 + 5 * (m.1 11 12).toNatClampNeg))] m P
      refine vGoto F (tgt := 41) dX6_holding_34 (by decide) ?_
      have z := okS h
      exact vAret F dX6_holding_41 (Or.inl ⟨_, rfl⟩) z
noncomputable def NB_look (m : Mm) : Option (Mm) :=
  (NB_holding m).bind fun r1 =>
  gq (isL r1) ((Jo_findSizes m r1).bind fun r3 =>
  (Jo_findLongs r3).bind fun r4 =>
  (Jo_findWays r4).bind fun r5 =>
  (Jo_findTowards r5).bind fun r6 =>
  (Jo_findSteps r6).bind fun r7 =>
  some r7)
set_option maxRecDepth 20000 in
set_option maxHeartbeats 4000000 in
theorem NB_look_ok {G : Gw} (hG : gOk G) (hs : gsh G = shC) {m : Mm} {P : Option Value → Mm → Prop} (h : mjO (NB_look m) (fun r => P (some (.ref (gr G 1))) r)) : mjR G 4 yX6_look cX6_look 1 (some (.object "NamesBack$Journeys")) [.ref (gr G 0)] m P := by
  refine mjR_of hG (by decide) (Nat.le_of_ble_eq_true rfl) ?_
  intro X F
  have F : mjF G X cX6_look RX6 1 4 (some (.object "NamesBack$Journeys")) := F
  show mjV G X 1 0 [(0, .ref (gr G 0))] [] m P
  unfold NB_look at h
  refine vAloadN F dX6_look_0 (k := 0) rfl ?_
  refine vGetR F (t := 1) dX6_look_1 fa_X6_12 (cqC_0 hs) rfl ?_
  refine vAloadN F dX6_look_4 (k := 0) rfl ?_
  refine vCallV F (d' := 0) (x := 0) (T := TX6) (N := 10) (As := []) (st := [.ref (gr G 1)]) dX6_look_5 lk_X6_153 my_X6_holding mv_X6_holding (cqC_0 hs) rfl (by decide) rfl rfl (Nat.le_of_ble_eq_true rfl) (NB_holding_ok hG hs (okB h fun r1 h => ?_))
  show mjV G X 1 8 [(0, .ref (gr G 0))] [.ref (gr G r1), .ref (gr G 1)] m P
  obtain ⟨g2, h⟩ := okgq h
  refine vCallV F (d' := 3) (x := 1) (T := TX1) (N := 15) (As := [.ref (gr G r1)]) (st := []) dX6_look_8 lk_X6_304 my_X1_findSizes mv_X1_findSizes (cqC_1 hs) rfl (by decide) rfl rfl (Nat.le_of_ble_eq_true rfl) (Jo_findSizes_ok hG hs (isL_ok hs g2) (okB h fun r3 h => ?_))
  show mjV G X 1 11 [(0, .ref (gr G 0))] [] r3 P
  refine vAloadN F dX6_look_11 (k := 0) rfl ?_
  refine vGetR F (t := 1) dX6_look_12 fa_X6_12 (cqC_0 hs) rfl ?_
  refine vCallV F (d' := 1) (x := 1) (T := TX1) (N := 15) (As := []) (st := []) dX6_look_15 lk_X6_308 my_X1_findLongs mv_X1_findLongs (cqC_1 hs) rfl (by decide) rfl rfl (Nat.le_of_ble_eq_true rfl) (Jo_findLongs_ok hG hs (okB h fun r4 h => ?_))
  show mjV G X 1 18 [(0, .ref (gr G 0))] [] r4 P
  refine vAloadN F dX6_look_18 (k := 0) rfl ?_
  refine vGetR F (t := 1) dX6_look_19 fa_X6_12 (cqC_0 hs) rfl ?_
  refine vCallV F (d' := 1) (x := 1) (T := TX1) (N := 15) (As := []) (st := []) dX6_look_22 lk_X6_311 my_X1_findWays mv_X1_findWays (cqC_1 hs) rfl (by decide) rfl rfl (Nat.le_of_ble_eq_true rfl) (Jo_findWays_ok hG hs (okB h fun r5 h => ?_))
  show mjV G X 1 25 [(0, .ref (gr G 0))] [] r5 P
  refine vAloadN F dX6_look_25 (k := 0) rfl ?_
  refine vGetR F (t := 1) dX6_look_26 fa_X6_12 (cqC_0 hs) rfl ?_
  refine vCallV F (d' := 3) (x := 1) (T := TX1) (N := 15) (As := []) (st := []) dX6_look_29 lk_X6_314 my_X1_findTowards mv_X1_findTowards (cqC_1 hs) rfl (by decide) rfl rfl (Nat.le_of_ble_eq_true rfl) (Jo_findTowards_ok hG hs (okB h fun r6 h => ?_))
  show mjV G X 1 32 [(0, .ref (gr G 0))] [] r6 P
  refine vAloadN F dX6_look_32 (k := 0) rfl ?_
  refine vGetR F (t := 1) dX6_look_33 fa_X6_12 (cqC_0 hs) rfl ?_
  refine vCallV F (d' := 3) (x := 1) (T := TX1) (N := 15) (As := []) (st := []) dX6_look_36 lk_X6_317 my_X1_findSteps mv_X1_findSteps (cqC_1 hs) rfl (by decide) rfl rfl (Nat.le_of_ble_eq_true rfl) (Jo_findSteps_ok hG hs (okB h fun r7 h => ?_))
  show mjV G X 1 39 [(0, .ref (gr G 0))] [] r7 P
  refine vAloadN F dX6_look_39 (k := 0) rfl ?_
  refine vGetR F (t := 1) dX6_look_40 fa_X6_12 (cqC_0 hs) rfl ?_
  have z := okS h
  exact vAret F dX6_look_43 (Or.inl ⟨_, rfl⟩) z
noncomputable def NB_of (m : Mm) (a1 : Int32) (a2 : Int32) : Option (Int32 × Mm) :=
  if (Wo_has 11 m a1) = true then
 (if a2 = 0 then
 (ga a1 7 (some (m.1 (11 + 1) a1.toNatClampNeg, m)))
 else (if a2 = 1 then
 (ga a1 7 (some (m.1 (11 + 2) a1.toNatClampNeg, m)))
 else (if a2 = 2 then
 (ga a1 7 (some (m.1 (11 + 3) a1.toNatClampNeg, m)))
 else (if a2 = 3 then
 ((NB_look m).bind fun r8 =>
  ga a1 7 (some (r8.1 3 a1.toNatClampNeg, r8)))
 else (if a2 = 4 then
 (ga a1 7 (some (m.1 (11 + 5) a1.toNatClampNeg, m)))
 else (if a2 = 5 then
 ((Wo_roadsOf 11 m a1).bind fun r13 =>
  some (r13, m))
 else (some ((-1), m))))))))
 else (some ((-1), m))
set_option maxRecDepth 20000 in
set_option maxHeartbeats 4000000 in
theorem NB_of_ok {G : Gw} (hG : gOk G) (hs : gsh G = shC) {a1 : Int32} {a2 : Int32} {m : Mm} {P : Option Value → Mm → Prop} (h : mjO (NB_of m a1 a2) (fun r => P (some (.int r.1)) r.2)) : mjR G 5 yX6_of cX6_of 3 (some .int) [.ref (gr G 0), .int a1, .int a2] m P := by
  refine mjR_of hG (by decide) (Nat.le_of_ble_eq_true rfl) ?_
  intro X F
  have F : mjF G X cX6_of RX6 3 5 (some .int) := F
  show mjV G X 3 0 [(0, .ref (gr G 0)), (1, .int a1), (2, .int a2)] [] m P
  unfold NB_of at h
  refine vAloadN F dX6_of_0 (k := 0) rfl ?_
  refine vGetR F (t := 11) dX6_of_1 fa_X6_22 (cqC_0 hs) rfl ?_
  refine vIloadN F dX6_of_4 (k := 1) rfl ?_
  refine vCallV F (d' := 0) (x := 11) (T := TX5) (N := 13) (As := [.int a1]) (st := []) dX6_of_5 lk_X6_69 my_X5_has mv_X5_has (is_X5_11 hs).1 rfl (by decide) rfl rfl (Nat.le_of_ble_eq_true rfl) (Wo_has_ok hG hs (is_X5_11 hs) ?_)
  show mjV G X 3 8 [(0, .ref (gr G 0)), (1, .int a1), (2, .int a2)] [.int (bI (Wo_has 11 m a1))] m P
  refine vIfNeB F (tgt := 13) dX6_of_8 (by decide) (fun c14 => ?_) (fun c14 => ?_)
  · replace h := okT h c14
    refine vIloadN F dX6_of_13 (k := 2) rfl ?_
    by_cases c1 : a2 = 0
    · replace h := okT h c1
      refine vTabIn F (tgt := 52) dX6_of_14 c1 (by decide) (by decide) rfl (by decide) ?_
      refine vAloadN F dX6_of_52 (k := 0) rfl ?_
      refine vGetR F (t := 11) dX6_of_53 fa_X6_22 (cqC_0 hs) rfl ?_
      refine vGetR F (t := 11 + 1) dX6_of_56 fa_X6_73 (is_X5_11 hs).1 rfl ?_
      refine vIloadN F dX6_of_59 (k := 1) rfl ?_
      obtain ⟨g2, h⟩ := okga h
      refine vIald F dX6_of_60 (is_X5_11 hs).2.1 g2 ?_
      have z := okS h
      exact vIret F dX6_of_61 z
    replace h := okF h c1
    by_cases c3 : a2 = 1
    · replace h := okT h c3
      refine vTabIn F (tgt := 62) dX6_of_14 c3 (by decide) (by decide) rfl (by decide) ?_
      refine vAloadN F dX6_of_62 (k := 0) rfl ?_
      refine vGetR F (t := 11) dX6_of_63 fa_X6_22 (cqC_0 hs) rfl ?_
      refine vGetR F (t := 11 + 2) dX6_of_66 fa_X6_77 (is_X5_11 hs).1 rfl ?_
      refine vIloadN F dX6_of_69 (k := 1) rfl ?_
      obtain ⟨g4, h⟩ := okga h
      refine vIald F dX6_of_70 (is_X5_11 hs).2.2.1 g4 ?_
      have z := okS h
      exact vIret F dX6_of_71 z
    replace h := okF h c3
    by_cases c5 : a2 = 2
    · replace h := okT h c5
      refine vTabIn F (tgt := 72) dX6_of_14 c5 (by decide) (by decide) rfl (by decide) ?_
      refine vAloadN F dX6_of_72 (k := 0) rfl ?_
      refine vGetR F (t := 11) dX6_of_73 fa_X6_22 (cqC_0 hs) rfl ?_
      refine vGetR F (t := 11 + 3) dX6_of_76 fa_X6_80 (is_X5_11 hs).1 rfl ?_
      refine vIloadN F dX6_of_79 (k := 1) rfl ?_
      obtain ⟨g6, h⟩ := okga h
      refine vIald F dX6_of_80 (is_X5_11 hs).2.2.2.1 g6 ?_
      have z := okS h
      exact vIret F dX6_of_81 z
    replace h := okF h c5
    by_cases c7 : a2 = 3
    · replace h := okT h c7
      refine vTabIn F (tgt := 82) dX6_of_14 c7 (by decide) (by decide) rfl (by decide) ?_
      refine vAloadN F dX6_of_82 (k := 0) rfl ?_
      refine vCallV F (d' := 4) (x := 0) (T := TX6) (N := 10) (As := []) (st := []) dX6_of_83 lk_X6_83 my_X6_look mv_X6_look (cqC_0 hs) rfl (by decide) rfl rfl (Nat.le_of_ble_eq_true rfl) (NB_look_ok hG hs (okB h fun r8 h => ?_))
      show mjV G X 3 86 [(0, .ref (gr G 0)), (1, .int a1), (2, .int a2)] [.ref (gr G 1)] r8 P
      refine vGetR F (t := 3) dX6_of_86 fa_X6_87 (cqC_1 hs) rfl ?_
      refine vIloadN F dX6_of_89 (k := 1) rfl ?_
      obtain ⟨g9, h⟩ := okga h
      refine vIald F dX6_of_90 (cqC_3 hs) g9 ?_
      have z := okS h
      exact vIret F dX6_of_91 z
    replace h := okF h c7
    by_cases c10 : a2 = 4
    · replace h := okT h c10
      refine vTabIn F (tgt := 92) dX6_of_14 c10 (by decide) (by decide) rfl (by decide) ?_
      refine vAloadN F dX6_of_92 (k := 0) rfl ?_
      refine vGetR F (t := 11) dX6_of_93 fa_X6_22 (cqC_0 hs) rfl ?_
      refine vGetR F (t := 11 + 5) dX6_of_96 fa_X6_90 (is_X5_11 hs).1 rfl ?_
      refine vIloadN F dX6_of_99 (k := 1) rfl ?_
      obtain ⟨g11, h⟩ := okga h
      refine vIald F dX6_of_100 (is_X5_11 hs).2.2.2.2.2.1 g11 ?_
      have z := okS h
      exact vIret F dX6_of_101 z
    replace h := okF h c10
    by_cases c12 : a2 = 5
    · replace h := okT h c12
      refine vTabIn F (tgt := 102) dX6_of_14 c12 (by decide) (by decide) rfl (by decide) ?_
      refine vAloadN F dX6_of_102 (k := 0) rfl ?_
      refine vGetR F (t := 11) dX6_of_103 fa_X6_22 (cqC_0 hs) rfl ?_
      refine vIloadN F dX6_of_106 (k := 1) rfl ?_
      refine vCallV F (d' := 1) (x := 11) (T := TX5) (N := 13) (As := [.int a1]) (st := []) dX6_of_107 lk_X6_93 my_X5_roadsOf mv_X5_roadsOf (is_X5_11 hs).1 rfl (by decide) rfl rfl (Nat.le_of_ble_eq_true rfl) (Wo_roadsOf_ok hG hs (is_X5_11 hs) (okB h fun r13 h => ?_))
      show mjV G X 3 110 [(0, .ref (gr G 0)), (1, .int a1), (2, .int a2)] [.int r13] m P
      have z := okS h
      exact vIret F dX6_of_110 z
    replace h := okF h c12
    replace c1 := lv_neT c1 (a := 0) (by decide)
    replace c3 := lv_neT c3 (a := 1) (by decide)
    replace c5 := lv_neT c5 (a := 2) (by decide)
    replace c7 := lv_neT c7 (a := 3) (by decide)
    replace c10 := lv_neT c10 (a := 4) (by decide)
    replace c12 := lv_neT c12 (a := 5) (by decide)
    refine vTabOut F (tgt := 111) dX6_of_14 (by omega) (by decide) ?_
    refine vIconst F (v := (-1)) dX6_of_111 k_m1 ?_
    have z := okS h
    exact vIret F dX6_of_112 z
  · replace h := okF h c14
    refine vIconst F (v := (-1)) dX6_of_11 k_m1 ?_
    have z := okS h
    exact vIret F dX6_of_12 z
def NB_road (m : Mm) (a1 : Int32) (a2 : Int32) (a3 : Int32) : Option (Int32 × Mm) :=
  if (Wo_has 11 m a1) = true then
 (if (Wo_has 11 m a2) = true then
 (if a1 = a2 then
 (some ((-2), m))
 else (if a3 < 0 then
 (some ((-2), m))
 else (if a3 ≤ 99 then
 (ga (NB_index a1 a2) 49 ((Wo_setMiles 11 m a1 a2 a3).bind fun r2 =>
  some (m.1 (11 + 4) (NB_index a1 a2).toNatClampNeg, r2)))
 else (some ((-2), m)))))
 else (some ((-1), m)))
 else (some ((-1), m))
set_option maxRecDepth 20000 in
set_option maxHeartbeats 4000000 in
theorem NB_road_ok {G : Gw} (hG : gOk G) (hs : gsh G = shC) {a1 : Int32} {a2 : Int32} {a3 : Int32} {m : Mm} {P : Option Value → Mm → Prop} (h : mjO (NB_road m a1 a2 a3) (fun r => P (some (.int r.1)) r.2)) : mjR G 2 yX6_road cX6_road 5 (some .int) [.ref (gr G 0), .int a1, .int a2, .int a3] m P := by
  refine mjR_of hG (by decide) (Nat.le_of_ble_eq_true rfl) ?_
  intro X F
  have F : mjF G X cX6_road RX6 5 2 (some .int) := F
  show mjV G X 5 0 [(0, .ref (gr G 0)), (1, .int a1), (2, .int a2), (3, .int a3)] [] m P
  unfold NB_road at h
  refine vAloadN F dX6_road_0 (k := 0) rfl ?_
  refine vGetR F (t := 11) dX6_road_1 fa_X6_22 (cqC_0 hs) rfl ?_
  refine vIloadN F dX6_road_4 (k := 1) rfl ?_
  refine vCallV F (d' := 0) (x := 11) (T := TX5) (N := 13) (As := [.int a1]) (st := []) dX6_road_5 lk_X6_69 my_X5_has mv_X5_has (is_X5_11 hs).1 rfl (by decide) rfl rfl (Nat.le_of_ble_eq_true rfl) (Wo_has_ok hG hs (is_X5_11 hs) ?_)
  show mjV G X 5 8 [(0, .ref (gr G 0)), (1, .int a1), (2, .int a2), (3, .int a3)] [.int (bI (Wo_has 11 m a1))] m P
  refine vIfEqB F (tgt := 22) dX6_road_8 (by decide) (fun c7 => ?_) (fun c7 => ?_)
  · replace h := okF h c7
    refine vIconst F (v := (-1)) dX6_road_22 k_m1 ?_
    have z := okS h
    exact vIret F dX6_road_23 z
  · replace h := okT h c7
    refine vAloadN F dX6_road_11 (k := 0) rfl ?_
    refine vGetR F (t := 11) dX6_road_12 fa_X6_22 (cqC_0 hs) rfl ?_
    refine vIloadN F dX6_road_15 (k := 2) rfl ?_
    refine vCallV F (d' := 0) (x := 11) (T := TX5) (N := 13) (As := [.int a2]) (st := []) dX6_road_16 lk_X6_69 my_X5_has mv_X5_has (is_X5_11 hs).1 rfl (by decide) rfl rfl (Nat.le_of_ble_eq_true rfl) (Wo_has_ok hG hs (is_X5_11 hs) ?_)
    show mjV G X 5 19 [(0, .ref (gr G 0)), (1, .int a1), (2, .int a2), (3, .int a3)] [.int (bI (Wo_has 11 m a2))] m P
    refine vIfNeB F (tgt := 24) dX6_road_19 (by decide) (fun c6 => ?_) (fun c6 => ?_)
    · replace h := okT h c6
      refine vIloadN F dX6_road_24 (k := 1) rfl ?_
      refine vIloadN F dX6_road_25 (k := 2) rfl ?_
      refine vIcmpEq F (tgt := 39) dX6_road_26 (by decide) (fun c5 => ?_) (fun c5 => ?_)
      · replace h := okT h c5
        refine vBipush F (v := (-2)) dX6_road_39 kb_m2 ?_
        have z := okS h
        exact vIret F dX6_road_41 z
      · replace h := okF h c5
        refine vIloadN F dX6_road_29 (k := 3) rfl ?_
        refine vIfLt F (tgt := 39) dX6_road_30 (by decide) (fun c4 => ?_) (fun c4 => ?_)
        · replace h := okT h c4
          refine vBipush F (v := (-2)) dX6_road_39 kb_m2 ?_
          have z := okS h
          exact vIret F dX6_road_41 z
        · replace h := okF h c4
          refine vIloadN F dX6_road_33 (k := 3) rfl ?_
          refine vBipush F (v := 99) dX6_road_34 kb_99 ?_
          refine vIcmpLe F (tgt := 42) dX6_road_36 (by decide) (fun c3 => ?_) (fun c3 => ?_)
          · replace h := okT h c3
            refine vAloadN F dX6_road_42 (k := 0) rfl ?_
            refine vGetR F (t := 11) dX6_road_43 fa_X6_22 (cqC_0 hs) rfl ?_
            refine vGetR F (t := 11 + 4) dX6_road_46 fa_X6_97 (is_X5_11 hs).1 rfl ?_
            refine vIloadN F dX6_road_49 (k := 1) rfl ?_
            refine vIloadN F dX6_road_50 (k := 2) rfl ?_
            refine vCallS F (d' := 0) (As := [.int a1, .int a2]) (st := [.ref (gr G (11 + 4))]) dX6_road_51 lk_X6_100 my_X6_index sy_X6_index (by decide) rfl rfl (Nat.le_of_ble_eq_true rfl) (NB_index_ok hG hs ?_)
            show mjV G X 5 54 [(0, .ref (gr G 0)), (1, .int a1), (2, .int a2), (3, .int a3)] [.int (NB_index a1 a2), .ref (gr G (11 + 4))] m P
            obtain ⟨g1, h⟩ := okga h
            refine vIald F dX6_road_54 (is_X5_11 hs).2.2.2.2.1 g1 ?_
            refine vIstore F (L' := [(4, .int (m.1 (11 + 4) (NB_index a1 a2).toNatClampNeg)), (0, .ref (gr G 0)), (1, .int a1), (2, .int a2), (3, .int a3)]) dX6_road_55 (by decide) rfl ?_
            refine vAloadN F dX6_road_57 (k := 1) rfl ?_
            refine vGetR F (t := 11) dX6_road_58 fa_X6_22 (cqC_0 hs) rfl ?_
            refine vIloadN F dX6_road_61 (k := 2) rfl ?_
            refine vIloadN F dX6_road_62 (k := 3) rfl ?_
            refine vIloadN F dX6_road_63 (k := 4) rfl ?_
            refine vCallV F (d' := 1) (x := 11) (T := TX5) (N := 13) (As := [.int a1, .int a2, .int a3]) (st := []) dX6_road_64 lk_X6_104 my_X5_setMiles mv_X5_setMiles (is_X5_11 hs).1 rfl (by decide) rfl rfl (Nat.le_of_ble_eq_true rfl) (Wo_setMiles_ok hG hs (is_X5_11 hs) (okB h fun r2 h => ?_))
            show mjV G X 5 67 [(4, .int (m.1 (11 + 4) (NB_index a1 a2).toNatClampNeg)), (0, .ref (gr G 0)), (1, .int a1), (2, .int a2), (3, .int a3)] [] r2 P
            refine vIload F dX6_road_67 (k := 0) rfl ?_
            have z := okS h
            exact vIret F dX6_road_69 z
          · replace h := okF h c3
            refine vBipush F (v := (-2)) dX6_road_39 kb_m2 ?_
            have z := okS h
            exact vIret F dX6_road_41 z
    · replace h := okF h c6
      refine vIconst F (v := (-1)) dX6_road_22 k_m1 ?_
      have z := okS h
      exact vIret F dX6_road_23 z
noncomputable def NB_far (m : Mm) (a1 : Int32) (a2 : Int32) : Option (Int32 × Mm) :=
  if (Wo_has 11 m a1) = true then
 (if (Wo_has 11 m a2) = true then
 ((NB_look m).bind fun r1 =>
  ga (NB_index a1 a2) 49 (some (r1.1 5 (NB_index a1 a2).toNatClampNeg, r1)))
 else (some ((-1), m)))
 else (some ((-1), m))
set_option maxRecDepth 20000 in
set_option maxHeartbeats 4000000 in
theorem NB_far_ok {G : Gw} (hG : gOk G) (hs : gsh G = shC) {a1 : Int32} {a2 : Int32} {m : Mm} {P : Option Value → Mm → Prop} (h : mjO (NB_far m a1 a2) (fun r => P (some (.int r.1)) r.2)) : mjR G 5 yX6_far cX6_far 3 (some .int) [.ref (gr G 0), .int a1, .int a2] m P := by
  refine mjR_of hG (by decide) (Nat.le_of_ble_eq_true rfl) ?_
  intro X F
  have F : mjF G X cX6_far RX6 3 5 (some .int) := F
  show mjV G X 3 0 [(0, .ref (gr G 0)), (1, .int a1), (2, .int a2)] [] m P
  unfold NB_far at h
  refine vAloadN F dX6_far_0 (k := 0) rfl ?_
  refine vGetR F (t := 11) dX6_far_1 fa_X6_22 (cqC_0 hs) rfl ?_
  refine vIloadN F dX6_far_4 (k := 1) rfl ?_
  refine vCallV F (d' := 0) (x := 11) (T := TX5) (N := 13) (As := [.int a1]) (st := []) dX6_far_5 lk_X6_69 my_X5_has mv_X5_has (is_X5_11 hs).1 rfl (by decide) rfl rfl (Nat.le_of_ble_eq_true rfl) (Wo_has_ok hG hs (is_X5_11 hs) ?_)
  show mjV G X 3 8 [(0, .ref (gr G 0)), (1, .int a1), (2, .int a2)] [.int (bI (Wo_has 11 m a1))] m P
  refine vIfEqB F (tgt := 22) dX6_far_8 (by decide) (fun c4 => ?_) (fun c4 => ?_)
  · replace h := okF h c4
    refine vIconst F (v := (-1)) dX6_far_22 k_m1 ?_
    have z := okS h
    exact vIret F dX6_far_23 z
  · replace h := okT h c4
    refine vAloadN F dX6_far_11 (k := 0) rfl ?_
    refine vGetR F (t := 11) dX6_far_12 fa_X6_22 (cqC_0 hs) rfl ?_
    refine vIloadN F dX6_far_15 (k := 2) rfl ?_
    refine vCallV F (d' := 0) (x := 11) (T := TX5) (N := 13) (As := [.int a2]) (st := []) dX6_far_16 lk_X6_69 my_X5_has mv_X5_has (is_X5_11 hs).1 rfl (by decide) rfl rfl (Nat.le_of_ble_eq_true rfl) (Wo_has_ok hG hs (is_X5_11 hs) ?_)
    show mjV G X 3 19 [(0, .ref (gr G 0)), (1, .int a1), (2, .int a2)] [.int (bI (Wo_has 11 m a2))] m P
    refine vIfNeB F (tgt := 24) dX6_far_19 (by decide) (fun c3 => ?_) (fun c3 => ?_)
    · replace h := okT h c3
      refine vAloadN F dX6_far_24 (k := 0) rfl ?_
      refine vCallV F (d' := 4) (x := 0) (T := TX6) (N := 10) (As := []) (st := []) dX6_far_25 lk_X6_83 my_X6_look mv_X6_look (cqC_0 hs) rfl (by decide) rfl rfl (Nat.le_of_ble_eq_true rfl) (NB_look_ok hG hs (okB h fun r1 h => ?_))
      show mjV G X 3 28 [(0, .ref (gr G 0)), (1, .int a1), (2, .int a2)] [.ref (gr G 1)] r1 P
      refine vGetR F (t := 5) dX6_far_28 fa_X6_108 (cqC_1 hs) rfl ?_
      refine vIloadN F dX6_far_31 (k := 1) rfl ?_
      refine vIloadN F dX6_far_32 (k := 2) rfl ?_
      refine vCallS F (d' := 0) (As := [.int a1, .int a2]) (st := [.ref (gr G 5)]) dX6_far_33 lk_X6_100 my_X6_index sy_X6_index (by decide) rfl rfl (Nat.le_of_ble_eq_true rfl) (NB_index_ok hG hs ?_)
      show mjV G X 3 36 [(0, .ref (gr G 0)), (1, .int a1), (2, .int a2)] [.int (NB_index a1 a2), .ref (gr G 5)] r1 P
      obtain ⟨g2, h⟩ := okga h
      refine vIald F dX6_far_36 (cqC_5 hs) g2 ?_
      have z := okS h
      exact vIret F dX6_far_37 z
    · replace h := okF h c3
      refine vIconst F (v := (-1)) dX6_far_22 k_m1 ?_
      have z := okS h
      exact vIret F dX6_far_23 z
def NB_hasArmFree (m : Mm) (a1 : Int32) : Option (Bool) :=
  ga a1 7 ((NB_holding m).bind fun r2 =>
  gq (isL r2) (if (m.1 r2 6) ≤ (JI_bitCount (m.1 (11 + 5) a1.toNatClampNeg)) then
 (some false)
 else (some true)))
set_option maxRecDepth 20000 in
set_option maxHeartbeats 4000000 in
theorem NB_hasArmFree_ok {G : Gw} (hG : gOk G) (hs : gsh G = shC) {a1 : Int32} {m : Mm} {P : Option Value → Mm → Prop} (h : mjO (NB_hasArmFree m a1) (fun r => P (some (.int (bI r))) m)) : mjR G 1 yX6_hasArmFree cX6_hasArmFree 2 (some .boolean) [.ref (gr G 0), .int a1] m P := by
  refine mjR_of hG (by decide) (Nat.le_of_ble_eq_true rfl) ?_
  intro X F
  have F : mjF G X cX6_hasArmFree RX6 2 1 (some .boolean) := F
  show mjV G X 2 0 [(0, .ref (gr G 0)), (1, .int a1)] [] m P
  unfold NB_hasArmFree at h
  refine vAloadN F dX6_hasArmFree_0 (k := 0) rfl ?_
  refine vGetR F (t := 11) dX6_hasArmFree_1 fa_X6_22 (cqC_0 hs) rfl ?_
  refine vGetR F (t := 11 + 5) dX6_hasArmFree_4 fa_X6_90 (is_X5_11 hs).1 rfl ?_
  refine vIloadN F dX6_hasArmFree_7 (k := 1) rfl ?_
  obtain ⟨g1, h⟩ := okga h
  refine vIald F dX6_hasArmFree_8 (is_X5_11 hs).2.2.2.2.2.1 g1 ?_
  refine vCallS F (d' := 0) (As := [.int (m.1 (11 + 5) a1.toNatClampNeg)]) (st := []) dX6_hasArmFree_9 lk_X6_122 my_J6_bitCount_0f7a4 sy_J6_bitCount_0f7a4 (by decide) rfl rfl (Nat.le_of_ble_eq_true rfl) (JI_bitCount_ok hG ?_)
  show mjV G X 2 12 [(0, .ref (gr G 0)), (1, .int a1)] [.int (JI_bitCount (m.1 (11 + 5) a1.toNatClampNeg))] m P
  refine vAloadN F dX6_hasArmFree_12 (k := 0) rfl ?_
  refine vCallV F (d' := 0) (x := 0) (T := TX6) (N := 10) (As := []) (st := [.int (JI_bitCount (m.1 (11 + 5) a1.toNatClampNeg))]) dX6_hasArmFree_13 lk_X6_153 my_X6_holding mv_X6_holding (cqC_0 hs) rfl (by decide) rfl rfl (Nat.le_of_ble_eq_true rfl) (NB_holding_ok hG hs (okB h fun r2 h => ?_))
  show mjV G X 2 16 [(0, .ref (gr G 0)), (1, .int a1)] [.ref (gr G r2), .int (JI_bitCount (m.1 (11 + 5) a1.toNatClampNeg))] m P
  obtain ⟨g3, h⟩ := okgq h
  refine vGetI F dX6_hasArmFree_16 fa_X6_157 (isL_ok hs g3).1 rfl ?_
  refine vIcmpGe F (tgt := 26) dX6_hasArmFree_19 (by decide) (fun c4 => ?_) (fun c4 => ?_)
  · replace h := okT h c4
    refine vIconst F (v := 0) dX6_hasArmFree_26 k_0 ?_
    have z := okS h
    exact vZret (x := bI false) F dX6_hasArmFree_27 (nzI _) z
  · replace h := okF h c4
    refine vIconst F (v := 1) dX6_hasArmFree_22 k_1 ?_
    refine vGoto F (tgt := 27) dX6_hasArmFree_23 (by decide) ?_
    have z := okS h
    exact vZret (x := bI true) F dX6_hasArmFree_27 (nzI _) z
def NB_name (m : Mm) (a1 : Int32) (a2 : Int32) : Option (Int32 × Mm) :=
  if (Wo_has 11 m a1) = true then
 (if (Wo_has 11 m a2) = true then
 (if a1 = a2 then
 (some ((-2), m))
 else ((Wo_names 11 m a1 a2).bind fun r1 =>
  if r1 = true then
 (some ((-3), m))
 else ((NB_hasArmFree m a1).bind fun r2 =>
  if r2 = true then
 ((NB_hasArmFree m a2).bind fun r3 =>
  if r3 = true then
 ((Wo_turnName 11 m a1 a2).bind fun r4 =>
  ga a1 7 (some ((JI_bitCount (r4.1 (11 + 5) a1.toNatClampNeg)), r4)))
 else (some ((-4), m)))
 else (some ((-4), m)))))
 else (some ((-1), m)))
 else (some ((-1), m))
set_option maxRecDepth 20000 in
set_option maxHeartbeats 4000000 in
theorem NB_name_ok {G : Gw} (hG : gOk G) (hs : gsh G = shC) {a1 : Int32} {a2 : Int32} {m : Mm} {P : Option Value → Mm → Prop} (h : mjO (NB_name m a1 a2) (fun r => P (some (.int r.1)) r.2)) : mjR G 2 yX6_name cX6_name 3 (some .int) [.ref (gr G 0), .int a1, .int a2] m P := by
  refine mjR_of hG (by decide) (Nat.le_of_ble_eq_true rfl) ?_
  intro X F
  have F : mjF G X cX6_name RX6 3 2 (some .int) := F
  show mjV G X 3 0 [(0, .ref (gr G 0)), (1, .int a1), (2, .int a2)] [] m P
  unfold NB_name at h
  refine vAloadN F dX6_name_0 (k := 0) rfl ?_
  refine vGetR F (t := 11) dX6_name_1 fa_X6_22 (cqC_0 hs) rfl ?_
  refine vIloadN F dX6_name_4 (k := 1) rfl ?_
  refine vCallV F (d' := 0) (x := 11) (T := TX5) (N := 13) (As := [.int a1]) (st := []) dX6_name_5 lk_X6_69 my_X5_has mv_X5_has (is_X5_11 hs).1 rfl (by decide) rfl rfl (Nat.le_of_ble_eq_true rfl) (Wo_has_ok hG hs (is_X5_11 hs) ?_)
  show mjV G X 3 8 [(0, .ref (gr G 0)), (1, .int a1), (2, .int a2)] [.int (bI (Wo_has 11 m a1))] m P
  refine vIfEqB F (tgt := 22) dX6_name_8 (by decide) (fun c11 => ?_) (fun c11 => ?_)
  · replace h := okF h c11
    refine vIconst F (v := (-1)) dX6_name_22 k_m1 ?_
    have z := okS h
    exact vIret F dX6_name_23 z
  · replace h := okT h c11
    refine vAloadN F dX6_name_11 (k := 0) rfl ?_
    refine vGetR F (t := 11) dX6_name_12 fa_X6_22 (cqC_0 hs) rfl ?_
    refine vIloadN F dX6_name_15 (k := 2) rfl ?_
    refine vCallV F (d' := 0) (x := 11) (T := TX5) (N := 13) (As := [.int a2]) (st := []) dX6_name_16 lk_X6_69 my_X5_has mv_X5_has (is_X5_11 hs).1 rfl (by decide) rfl rfl (Nat.le_of_ble_eq_true rfl) (Wo_has_ok hG hs (is_X5_11 hs) ?_)
    show mjV G X 3 19 [(0, .ref (gr G 0)), (1, .int a1), (2, .int a2)] [.int (bI (Wo_has 11 m a2))] m P
    refine vIfNeB F (tgt := 24) dX6_name_19 (by decide) (fun c10 => ?_) (fun c10 => ?_)
    · replace h := okT h c10
      refine vIloadN F dX6_name_24 (k := 1) rfl ?_
      refine vIloadN F dX6_name_25 (k := 2) rfl ?_
      refine vIcmpNe F (tgt := 32) dX6_name_26 (by decide) (fun c9 => ?_) (fun c9 => ?_)
      · replace h := okF h c9
        refine vAloadN F dX6_name_32 (k := 0) rfl ?_
        refine vGetR F (t := 11) dX6_name_33 fa_X6_22 (cqC_0 hs) rfl ?_
        refine vIloadN F dX6_name_36 (k := 1) rfl ?_
        refine vIloadN F dX6_name_37 (k := 2) rfl ?_
        refine vCallV F (d' := 0) (x := 11) (T := TX5) (N := 13) (As := [.int a1, .int a2]) (st := []) dX6_name_38 lk_X6_111 my_X5_names mv_X5_names (is_X5_11 hs).1 rfl (by decide) rfl rfl (Nat.le_of_ble_eq_true rfl) (Wo_names_ok hG hs (is_X5_11 hs) (okB h fun r1 h => ?_))
        show mjV G X 3 41 [(0, .ref (gr G 0)), (1, .int a1), (2, .int a2)] [.int (bI r1)] m P
        refine vIfEqB F (tgt := 47) dX6_name_41 (by decide) (fun c8 => ?_) (fun c8 => ?_)
        · replace h := okF h c8
          refine vAloadN F dX6_name_47 (k := 0) rfl ?_
          refine vIloadN F dX6_name_48 (k := 1) rfl ?_
          refine vCallV F (d' := 1) (x := 0) (T := TX6) (N := 10) (As := [.int a1]) (st := []) dX6_name_49 lk_X6_115 my_X6_hasArmFree mv_X6_hasArmFree (cqC_0 hs) rfl (by decide) rfl rfl (Nat.le_of_ble_eq_true rfl) (NB_hasArmFree_ok hG hs (okB h fun r2 h => ?_))
          show mjV G X 3 52 [(0, .ref (gr G 0)), (1, .int a1), (2, .int a2)] [.int (bI r2)] m P
          refine vIfEqB F (tgt := 63) dX6_name_52 (by decide) (fun c7 => ?_) (fun c7 => ?_)
          · replace h := okF h c7
            refine vBipush F (v := (-4)) dX6_name_63 kb_m4 ?_
            have z := okS h
            exact vIret F dX6_name_65 z
          · replace h := okT h c7
            refine vAloadN F dX6_name_55 (k := 0) rfl ?_
            refine vIloadN F dX6_name_56 (k := 2) rfl ?_
            refine vCallV F (d' := 1) (x := 0) (T := TX6) (N := 10) (As := [.int a2]) (st := []) dX6_name_57 lk_X6_115 my_X6_hasArmFree mv_X6_hasArmFree (cqC_0 hs) rfl (by decide) rfl rfl (Nat.le_of_ble_eq_true rfl) (NB_hasArmFree_ok hG hs (okB h fun r3 h => ?_))
            show mjV G X 3 60 [(0, .ref (gr G 0)), (1, .int a1), (2, .int a2)] [.int (bI r3)] m P
            refine vIfNeB F (tgt := 66) dX6_name_60 (by decide) (fun c6 => ?_) (fun c6 => ?_)
            · replace h := okT h c6
              refine vAloadN F dX6_name_66 (k := 0) rfl ?_
              refine vGetR F (t := 11) dX6_name_67 fa_X6_22 (cqC_0 hs) rfl ?_
              refine vIloadN F dX6_name_70 (k := 1) rfl ?_
              refine vIloadN F dX6_name_71 (k := 2) rfl ?_
              refine vCallV F (d' := 0) (x := 11) (T := TX5) (N := 13) (As := [.int a1, .int a2]) (st := []) dX6_name_72 lk_X6_118 my_X5_turnName mv_X5_turnName (is_X5_11 hs).1 rfl (by decide) rfl rfl (Nat.le_of_ble_eq_true rfl) (Wo_turnName_ok hG hs (is_X5_11 hs) (okB h fun r4 h => ?_))
              show mjV G X 3 75 [(0, .ref (gr G 0)), (1, .int a1), (2, .int a2)] [] r4 P
              refine vAloadN F dX6_name_75 (k := 0) rfl ?_
              refine vGetR F (t := 11) dX6_name_76 fa_X6_22 (cqC_0 hs) rfl ?_
              refine vGetR F (t := 11 + 5) dX6_name_79 fa_X6_90 (is_X5_11 hs).1 rfl ?_
              refine vIloadN F dX6_name_82 (k := 1) rfl ?_
              obtain ⟨g5, h⟩ := okga h
              refine vIald F dX6_name_83 (is_X5_11 hs).2.2.2.2.2.1 g5 ?_
              refine vCallS F (d' := 0) (As := [.int (r4.1 (11 + 5) a1.toNatClampNeg)]) (st := []) dX6_name_84 lk_X6_122 my_J6_bitCount_0f7a4 sy_J6_bitCount_0f7a4 (by decide) rfl rfl (Nat.le_of_ble_eq_true rfl) (JI_bitCount_ok hG ?_)
              show mjV G X 3 87 [(0, .ref (gr G 0)), (1, .int a1), (2, .int a2)] [.int (JI_bitCount (r4.1 (11 + 5) a1.toNatClampNeg))] r4 P
              have z := okS h
              exact vIret F dX6_name_87 z
            · replace h := okF h c6
              refine vBipush F (v := (-4)) dX6_name_63 kb_m4 ?_
              have z := okS h
              exact vIret F dX6_name_65 z
        · replace h := okT h c8
          refine vBipush F (v := (-3)) dX6_name_44 kb_m3 ?_
          have z := okS h
          exact vIret F dX6_name_46 z
      · replace h := okT h c9
        refine vBipush F (v := (-2)) dX6_name_29 kb_m2 ?_
        have z := okS h
        exact vIret F dX6_name_31 z
    · replace h := okF h c10
      refine vIconst F (v := (-1)) dX6_name_22 k_m1 ?_
      have z := okS h
      exact vIret F dX6_name_23 z
def NB_strike (m : Mm) (a1 : Int32) (a2 : Int32) : Option (Int32 × Mm) :=
  if (Wo_has 11 m a1) = true then
 (if (Wo_has 11 m a2) = true then
 ((Wo_names 11 m a1 a2).bind fun r1 =>
  if r1 = true then
 ((Wo_turnName 11 m a1 a2).bind fun r2 =>
  ga a1 7 (some ((JI_bitCount (r2.1 (11 + 5) a1.toNatClampNeg)), r2)))
 else (some ((-3), m)))
 else (some ((-1), m)))
 else (some ((-1), m))
set_option maxRecDepth 20000 in
set_option maxHeartbeats 4000000 in
theorem NB_strike_ok {G : Gw} (hG : gOk G) (hs : gsh G = shC) {a1 : Int32} {a2 : Int32} {m : Mm} {P : Option Value → Mm → Prop} (h : mjO (NB_strike m a1 a2) (fun r => P (some (.int r.1)) r.2)) : mjR G 1 yX6_strike cX6_strike 3 (some .int) [.ref (gr G 0), .int a1, .int a2] m P := by
  refine mjR_of hG (by decide) (Nat.le_of_ble_eq_true rfl) ?_
  intro X F
  have F : mjF G X cX6_strike RX6 3 1 (some .int) := F
  show mjV G X 3 0 [(0, .ref (gr G 0)), (1, .int a1), (2, .int a2)] [] m P
  unfold NB_strike at h
  refine vAloadN F dX6_strike_0 (k := 0) rfl ?_
  refine vGetR F (t := 11) dX6_strike_1 fa_X6_22 (cqC_0 hs) rfl ?_
  refine vIloadN F dX6_strike_4 (k := 1) rfl ?_
  refine vCallV F (d' := 0) (x := 11) (T := TX5) (N := 13) (As := [.int a1]) (st := []) dX6_strike_5 lk_X6_69 my_X5_has mv_X5_has (is_X5_11 hs).1 rfl (by decide) rfl rfl (Nat.le_of_ble_eq_true rfl) (Wo_has_ok hG hs (is_X5_11 hs) ?_)
  show mjV G X 3 8 [(0, .ref (gr G 0)), (1, .int a1), (2, .int a2)] [.int (bI (Wo_has 11 m a1))] m P
  refine vIfEqB F (tgt := 22) dX6_strike_8 (by decide) (fun c6 => ?_) (fun c6 => ?_)
  · replace h := okF h c6
    refine vIconst F (v := (-1)) dX6_strike_22 k_m1 ?_
    have z := okS h
    exact vIret F dX6_strike_23 z
  · replace h := okT h c6
    refine vAloadN F dX6_strike_11 (k := 0) rfl ?_
    refine vGetR F (t := 11) dX6_strike_12 fa_X6_22 (cqC_0 hs) rfl ?_
    refine vIloadN F dX6_strike_15 (k := 2) rfl ?_
    refine vCallV F (d' := 0) (x := 11) (T := TX5) (N := 13) (As := [.int a2]) (st := []) dX6_strike_16 lk_X6_69 my_X5_has mv_X5_has (is_X5_11 hs).1 rfl (by decide) rfl rfl (Nat.le_of_ble_eq_true rfl) (Wo_has_ok hG hs (is_X5_11 hs) ?_)
    show mjV G X 3 19 [(0, .ref (gr G 0)), (1, .int a1), (2, .int a2)] [.int (bI (Wo_has 11 m a2))] m P
    refine vIfNeB F (tgt := 24) dX6_strike_19 (by decide) (fun c5 => ?_) (fun c5 => ?_)
    · replace h := okT h c5
      refine vAloadN F dX6_strike_24 (k := 0) rfl ?_
      refine vGetR F (t := 11) dX6_strike_25 fa_X6_22 (cqC_0 hs) rfl ?_
      refine vIloadN F dX6_strike_28 (k := 1) rfl ?_
      refine vIloadN F dX6_strike_29 (k := 2) rfl ?_
      refine vCallV F (d' := 0) (x := 11) (T := TX5) (N := 13) (As := [.int a1, .int a2]) (st := []) dX6_strike_30 lk_X6_111 my_X5_names mv_X5_names (is_X5_11 hs).1 rfl (by decide) rfl rfl (Nat.le_of_ble_eq_true rfl) (Wo_names_ok hG hs (is_X5_11 hs) (okB h fun r1 h => ?_))
      show mjV G X 3 33 [(0, .ref (gr G 0)), (1, .int a1), (2, .int a2)] [.int (bI r1)] m P
      refine vIfNeB F (tgt := 39) dX6_strike_33 (by decide) (fun c4 => ?_) (fun c4 => ?_)
      · replace h := okT h c4
        refine vAloadN F dX6_strike_39 (k := 0) rfl ?_
        refine vGetR F (t := 11) dX6_strike_40 fa_X6_22 (cqC_0 hs) rfl ?_
        refine vIloadN F dX6_strike_43 (k := 1) rfl ?_
        refine vIloadN F dX6_strike_44 (k := 2) rfl ?_
        refine vCallV F (d' := 0) (x := 11) (T := TX5) (N := 13) (As := [.int a1, .int a2]) (st := []) dX6_strike_45 lk_X6_118 my_X5_turnName mv_X5_turnName (is_X5_11 hs).1 rfl (by decide) rfl rfl (Nat.le_of_ble_eq_true rfl) (Wo_turnName_ok hG hs (is_X5_11 hs) (okB h fun r2 h => ?_))
        show mjV G X 3 48 [(0, .ref (gr G 0)), (1, .int a1), (2, .int a2)] [] r2 P
        refine vAloadN F dX6_strike_48 (k := 0) rfl ?_
        refine vGetR F (t := 11) dX6_strike_49 fa_X6_22 (cqC_0 hs) rfl ?_
        refine vGetR F (t := 11 + 5) dX6_strike_52 fa_X6_90 (is_X5_11 hs).1 rfl ?_
        refine vIloadN F dX6_strike_55 (k := 1) rfl ?_
        obtain ⟨g3, h⟩ := okga h
        refine vIald F dX6_strike_56 (is_X5_11 hs).2.2.2.2.2.1 g3 ?_
        refine vCallS F (d' := 0) (As := [.int (r2.1 (11 + 5) a1.toNatClampNeg)]) (st := []) dX6_strike_57 lk_X6_122 my_J6_bitCount_0f7a4 sy_J6_bitCount_0f7a4 (by decide) rfl rfl (Nat.le_of_ble_eq_true rfl) (JI_bitCount_ok hG ?_)
        show mjV G X 3 60 [(0, .ref (gr G 0)), (1, .int a1), (2, .int a2)] [.int (JI_bitCount (r2.1 (11 + 5) a1.toNatClampNeg))] r2 P
        have z := okS h
        exact vIret F dX6_strike_60 z
      · replace h := okF h c4
        refine vBipush F (v := (-3)) dX6_strike_36 kb_m3 ?_
        have z := okS h
        exact vIret F dX6_strike_38 z
    · replace h := okF h c5
      refine vIconst F (v := (-1)) dX6_strike_22 k_m1 ?_
      have z := okS h
      exact vIret F dX6_strike_23 z
def NB_traveller (m : Mm) (a1 : Int32) (a2 : Int32) (a3 : Int32) : Option (Int32 × Mm) :=
  if (Wo_has 11 m a1) = true then
 (if (Wo_has 11 m a2) = true then
 (if a1 = a2 then
 (some ((-2), m))
 else (if a3 < 1 then
 (some ((-2), m))
 else (if a3 ≤ 99 then
 (if (m.1 11 6) < 8 then
 ((Wo_addTraveller 11 m a1 a2 a3).bind fun r1 =>
  some (r1.1, r1.2))
 else (some ((-4), m)))
 else (some ((-2), m)))))
 else (some ((-1), m)))
 else (some ((-1), m))
set_option maxRecDepth 20000 in
set_option maxHeartbeats 4000000 in
theorem NB_traveller_ok {G : Gw} (hG : gOk G) (hs : gsh G = shC) {a1 : Int32} {a2 : Int32} {a3 : Int32} {m : Mm} {P : Option Value → Mm → Prop} (h : mjO (NB_traveller m a1 a2 a3) (fun r => P (some (.int r.1)) r.2)) : mjR G 1 yX6_traveller cX6_traveller 4 (some .int) [.ref (gr G 0), .int a1, .int a2, .int a3] m P := by
  refine mjR_of hG (by decide) (Nat.le_of_ble_eq_true rfl) ?_
  intro X F
  have F : mjF G X cX6_traveller RX6 4 1 (some .int) := F
  show mjV G X 4 0 [(0, .ref (gr G 0)), (1, .int a1), (2, .int a2), (3, .int a3)] [] m P
  unfold NB_traveller at h
  refine vAloadN F dX6_traveller_0 (k := 0) rfl ?_
  refine vGetR F (t := 11) dX6_traveller_1 fa_X6_22 (cqC_0 hs) rfl ?_
  refine vIloadN F dX6_traveller_4 (k := 1) rfl ?_
  refine vCallV F (d' := 0) (x := 11) (T := TX5) (N := 13) (As := [.int a1]) (st := []) dX6_traveller_5 lk_X6_69 my_X5_has mv_X5_has (is_X5_11 hs).1 rfl (by decide) rfl rfl (Nat.le_of_ble_eq_true rfl) (Wo_has_ok hG hs (is_X5_11 hs) ?_)
  show mjV G X 4 8 [(0, .ref (gr G 0)), (1, .int a1), (2, .int a2), (3, .int a3)] [.int (bI (Wo_has 11 m a1))] m P
  refine vIfEqB F (tgt := 22) dX6_traveller_8 (by decide) (fun c7 => ?_) (fun c7 => ?_)
  · replace h := okF h c7
    refine vIconst F (v := (-1)) dX6_traveller_22 k_m1 ?_
    have z := okS h
    exact vIret F dX6_traveller_23 z
  · replace h := okT h c7
    refine vAloadN F dX6_traveller_11 (k := 0) rfl ?_
    refine vGetR F (t := 11) dX6_traveller_12 fa_X6_22 (cqC_0 hs) rfl ?_
    refine vIloadN F dX6_traveller_15 (k := 2) rfl ?_
    refine vCallV F (d' := 0) (x := 11) (T := TX5) (N := 13) (As := [.int a2]) (st := []) dX6_traveller_16 lk_X6_69 my_X5_has mv_X5_has (is_X5_11 hs).1 rfl (by decide) rfl rfl (Nat.le_of_ble_eq_true rfl) (Wo_has_ok hG hs (is_X5_11 hs) ?_)
    show mjV G X 4 19 [(0, .ref (gr G 0)), (1, .int a1), (2, .int a2), (3, .int a3)] [.int (bI (Wo_has 11 m a2))] m P
    refine vIfNeB F (tgt := 24) dX6_traveller_19 (by decide) (fun c6 => ?_) (fun c6 => ?_)
    · replace h := okT h c6
      refine vIloadN F dX6_traveller_24 (k := 1) rfl ?_
      refine vIloadN F dX6_traveller_25 (k := 2) rfl ?_
      refine vIcmpEq F (tgt := 40) dX6_traveller_26 (by decide) (fun c5 => ?_) (fun c5 => ?_)
      · replace h := okT h c5
        refine vBipush F (v := (-2)) dX6_traveller_40 kb_m2 ?_
        have z := okS h
        exact vIret F dX6_traveller_42 z
      · replace h := okF h c5
        refine vIloadN F dX6_traveller_29 (k := 3) rfl ?_
        refine vIconst F (v := 1) dX6_traveller_30 k_1 ?_
        refine vIcmpLt F (tgt := 40) dX6_traveller_31 (by decide) (fun c4 => ?_) (fun c4 => ?_)
        · replace h := okT h c4
          refine vBipush F (v := (-2)) dX6_traveller_40 kb_m2 ?_
          have z := okS h
          exact vIret F dX6_traveller_42 z
        · replace h := okF h c4
          refine vIloadN F dX6_traveller_34 (k := 3) rfl ?_
          refine vBipush F (v := 99) dX6_traveller_35 kb_99 ?_
          refine vIcmpLe F (tgt := 43) dX6_traveller_37 (by decide) (fun c3 => ?_) (fun c3 => ?_)
          · replace h := okT h c3
            refine vAloadN F dX6_traveller_43 (k := 0) rfl ?_
            refine vGetR F (t := 11) dX6_traveller_44 fa_X6_22 (cqC_0 hs) rfl ?_
            refine vGetI F dX6_traveller_47 fa_X6_127 (is_X5_11 hs).1 rfl ?_
            refine vBipush F (v := 8) dX6_traveller_50 kb_8 ?_
            refine vIcmpLt F (tgt := 58) dX6_traveller_52 (by decide) (fun c2 => ?_) (fun c2 => ?_)
            · replace h := okT h c2
              refine vAloadN F dX6_traveller_58 (k := 0) rfl ?_
              refine vGetR F (t := 11) dX6_traveller_59 fa_X6_22 (cqC_0 hs) rfl ?_
              refine vIloadN F dX6_traveller_62 (k := 1) rfl ?_
              refine vIloadN F dX6_traveller_63 (k := 2) rfl ?_
              refine vIloadN F dX6_traveller_64 (k := 3) rfl ?_
              refine vCallV F (d' := 0) (x := 11) (T := TX5) (N := 13) (As := [.int a1, .int a2, .int a3]) (st := []) dX6_traveller_65 lk_X6_130 my_X5_addTraveller mv_X5_addTraveller (is_X5_11 hs).1 rfl (by decide) rfl rfl (Nat.le_of_ble_eq_true rfl) (Wo_addTraveller_ok hG hs (is_X5_11 hs) (okB h fun r1 h => ?_))
              show mjV G X 4 68 [(0, .ref (gr G 0)), (1, .int a1), (2, .int a2), (3, .int a3)] [.int (r1.1)] (r1.2) P
              have z := okS h
              exact vIret F dX6_traveller_68 z
            · replace h := okF h c2
              refine vBipush F (v := (-4)) dX6_traveller_55 kb_m4 ?_
              have z := okS h
              exact vIret F dX6_traveller_57 z
          · replace h := okF h c3
            refine vBipush F (v := (-2)) dX6_traveller_40 kb_m2 ?_
            have z := okS h
            exact vIret F dX6_traveller_42 z
    · replace h := okF h c6
      refine vIconst F (v := (-1)) dX6_traveller_22 k_m1 ?_
      have z := okS h
      exact vIret F dX6_traveller_23 z
def NB_feed (m : Mm) (a1 : Int32) : Option (Int32 × Mm) :=
  if a1 < 0 then
 (some ((-2), m))
 else (if a1 ≤ 127 then
 (if (m.1 67 1) < 100 then
 ((Re_addSign m ((a1.toUInt32 % 65536).toInt32)).bind fun r1 =>
  some (r1.1, r1.2))
 else (some ((-4), m)))
 else (some ((-2), m)))
set_option maxRecDepth 20000 in
set_option maxHeartbeats 4000000 in
theorem NB_feed_ok {G : Gw} (hG : gOk G) (hs : gsh G = shC) {a1 : Int32} {m : Mm} {P : Option Value → Mm → Prop} (h : mjO (NB_feed m a1) (fun r => P (some (.int r.1)) r.2)) : mjR G 1 yX6_feed cX6_feed 2 (some .int) [.ref (gr G 0), .int a1] m P := by
  refine mjR_of hG (by decide) (Nat.le_of_ble_eq_true rfl) ?_
  intro X F
  have F : mjF G X cX6_feed RX6 2 1 (some .int) := F
  show mjV G X 2 0 [(0, .ref (gr G 0)), (1, .int a1)] [] m P
  unfold NB_feed at h
  refine vIloadN F dX6_feed_0 (k := 1) rfl ?_
  refine vIfLt F (tgt := 10) dX6_feed_1 (by decide) (fun c4 => ?_) (fun c4 => ?_)
  · replace h := okT h c4
    refine vBipush F (v := (-2)) dX6_feed_10 kb_m2 ?_
    have z := okS h
    exact vIret F dX6_feed_12 z
  · replace h := okF h c4
    refine vIloadN F dX6_feed_4 (k := 1) rfl ?_
    refine vBipush F (v := 127) dX6_feed_5 kb_127 ?_
    refine vIcmpLe F (tgt := 13) dX6_feed_7 (by decide) (fun c3 => ?_) (fun c3 => ?_)
    · replace h := okT h c3
      refine vAloadN F dX6_feed_13 (k := 0) rfl ?_
      refine vGetR F (t := 67) dX6_feed_14 fa_X6_43 (cqC_0 hs) rfl ?_
      refine vGetI F dX6_feed_17 fa_X6_133 (cqC_67 hs) rfl ?_
      refine vBipush F (v := 100) dX6_feed_20 kb_100 ?_
      refine vIcmpLt F (tgt := 28) dX6_feed_22 (by decide) (fun c2 => ?_) (fun c2 => ?_)
      · replace h := okT h c2
        refine vAloadN F dX6_feed_28 (k := 0) rfl ?_
        refine vGetR F (t := 67) dX6_feed_29 fa_X6_43 (cqC_0 hs) rfl ?_
        refine vIloadN F dX6_feed_32 (k := 1) rfl ?_
        refine vI2c F dX6_feed_33 ?_
        refine vCallV F (d' := 0) (x := 67) (T := TX3) (N := 4) (As := [.int ((a1.toUInt32 % 65536).toInt32)]) (st := []) dX6_feed_34 lk_X6_136 my_X3_addSign mv_X3_addSign (cqC_67 hs) rfl (by decide) rfl rfl (Nat.le_of_ble_eq_true rfl) (Re_addSign_ok hG hs (okB h fun r1 h => ?_))
        show mjV G X 2 37 [(0, .ref (gr G 0)), (1, .int a1)] [.int (r1.1)] (r1.2) P
        have z := okS h
        exact vIret F dX6_feed_37 z
      · replace h := okF h c2
        refine vBipush F (v := (-4)) dX6_feed_25 kb_m4 ?_
        have z := okS h
        exact vIret F dX6_feed_27 z
    · replace h := okF h c3
      refine vBipush F (v := (-2)) dX6_feed_10 kb_m2 ?_
      have z := okS h
      exact vIret F dX6_feed_12 z
noncomputable def NB_land (m : Mm) : Option (Int32 × Mm) :=
  if (m.1 0 6) < 6 then
 (ga (m.1 0 6) 6 ((Re_faultOf m (37 + 5 * (m.1 0 6).toNatClampNeg)).bind fun r2 =>
  if (r2.1) < 0 then
 (some ((si (si (Re_empty (r2.2)) 11 12 ((Re_empty (r2.2)).1 0 6)) 0 6 (((si (Re_empty (r2.2)) 11 12 ((Re_empty (r2.2)).1 0 6)).1 0 6) + 1)).1 11 12, si (si (Re_empty (r2.2)) 11 12 ((Re_empty (r2.2)).1 0 6)) 0 6 (((si (Re_empty (r2.2)) 11 12 ((Re_empty (r2.2)).1 0 6)).1 0 6) + 1)))
 else (some ((-10) - (r2.1), (Re_empty (r2.2))))))
 else (some ((-4), m))
set_option maxRecDepth 20000 in
set_option maxHeartbeats 4000000 in
theorem NB_land_ok {G : Gw} (hG : gOk G) (hs : gsh G = shC) {m : Mm} {P : Option Value → Mm → Prop} (h : mjO (NB_land m) (fun r => P (some (.int r.1)) r.2)) : mjR G 24 yX6_land cX6_land 2 (some .int) [.ref (gr G 0)] m P := by
  refine mjR_of hG (by decide) (Nat.le_of_ble_eq_true rfl) ?_
  intro X F
  have F : mjF G X cX6_land RX6 2 24 (some .int) := F
  show mjV G X 2 0 [(0, .ref (gr G 0))] [] m P
  unfold NB_land at h
  refine vAloadN F dX6_land_0 (k := 0) rfl ?_
  refine vGetI F dX6_land_1 fa_X6_140 (cqC_0 hs) rfl ?_
  refine vBipush F (v := 6) dX6_land_4 kb_6 ?_
  refine vIcmpLt F (tgt := 12) dX6_land_6 (by decide) (fun c4 => ?_) (fun c4 => ?_)
  · replace h := okT h c4
    refine vAloadN F dX6_land_12 (k := 0) rfl ?_
    refine vGetR F (t := 67) dX6_land_13 fa_X6_43 (cqC_0 hs) rfl ?_
    refine vAloadN F dX6_land_16 (k := 0) rfl ?_
    refine vGetR F (t := 36) dX6_land_17 fa_X6_36 (cqC_0 hs) rfl ?_
    refine vAloadN F dX6_land_20 (k := 0) rfl ?_
    refine vGetI F dX6_land_21 fa_X6_140 (cqC_0 hs) rfl ?_
    obtain ⟨g1, h⟩ := okga h
    refine vAald4 F dX6_land_24 (cqC_36 hs) g1 ?_
    show mjV G X 2 25 [(0, .ref (gr G 0))] [.ref (gr G (37 + 5 * (m.1 0 6).toNatClampNeg)), .ref (gr G 67)] m P
    refine vCallV F (d' := 23) (x := 67) (T := TX3) (N := 4) (As := [.ref (gr G (37 + 5 * (m.1 0 6).toNatClampNeg))]) (st := []) dX6_land_25 lk_X6_143 my_X3_faultOf mv_X3_faultOf (cqC_67 hs) rfl (by decide) rfl rfl (Nat.le_of_ble_eq_true rfl) (Re_faultOf_ok hG hs (is_X2_at hs g1) (okB h fun r2 h => ?_))
    show mjV G X 2 28 [(0, .ref (gr G 0))] [.int (r2.1)] (r2.2) P
    refine vIstoreN F (L' := [(1, .int (r2.1)), (0, .ref (gr G 0))]) dX6_land_28 rfl (by decide) rfl ?_
    refine vAloadN F dX6_land_29 (k := 1) rfl ?_
    refine vGetR F (t := 67) dX6_land_30 fa_X6_43 (cqC_0 hs) rfl ?_
    refine vCallV F (d' := 0) (x := 67) (T := TX3) (N := 4) (As := []) (st := []) dX6_land_33 lk_X6_147 my_X3_empty mv_X3_empty (cqC_67 hs) rfl (by decide) rfl rfl (Nat.le_of_ble_eq_true rfl) (Re_empty_ok hG hs ?_)
    show mjV G X 2 36 [(1, .int (r2.1)), (0, .ref (gr G 0))] [] (Re_empty (r2.2)) P
    refine vIloadN F dX6_land_36 (k := 0) rfl ?_
    refine vIfLt F (tgt := 45) dX6_land_37 (by decide) (fun c3 => ?_) (fun c3 => ?_)
    · replace h := okT h c3
      refine vAloadN F dX6_land_45 (k := 1) rfl ?_
      refine vGetR F (t := 11) dX6_land_46 fa_X6_22 (cqC_0 hs) rfl ?_
      refine vAloadN F dX6_land_49 (k := 1) rfl ?_
      refine vGetI F dX6_land_50 fa_X6_140 (cqC_0 hs) rfl ?_
      refine vPutI F dX6_land_53 fw_X6_150 (is_X5_11 hs).1 rfl ⟨rfl, rfl⟩ ?_
      refine vAloadN F dX6_land_56 (k := 1) rfl ?_
      refine vDup F dX6_land_57 rfl ?_
      refine vGetI F dX6_land_58 fa_X6_140 (cqC_0 hs) rfl ?_
      refine vIconst F (v := 1) dX6_land_61 k_1 ?_
      refine vIadd F dX6_land_62 ?_
      refine vPutI F dX6_land_63 fw_X6_140 (cqC_0 hs) rfl ⟨rfl, rfl⟩ ?_
      refine vAloadN F dX6_land_66 (k := 1) rfl ?_
      refine vGetR F (t := 11) dX6_land_67 fa_X6_22 (cqC_0 hs) rfl ?_
      refine vGetI F dX6_land_70 fa_X6_150 (is_X5_11 hs).1 rfl ?_
      have z := okS h
      exact vIret F dX6_land_73 z
    · replace h := okF h c3
      refine vBipush F (v := (-10)) dX6_land_40 kb_m10 ?_
      refine vIloadN F dX6_land_42 (k := 0) rfl ?_
      refine vIsub F dX6_land_43 ?_
      have z := okS h
      exact vIret F dX6_land_44 z
  · replace h := okF h c4
    refine vBipush F (v := (-4)) dX6_land_9 kb_m4 ?_
    have z := okS h
    exact vIret F dX6_land_11 z
noncomputable def NB_told (m : Mm) (a1 : Int32) : Option (Int32) :=
  if a1 = 0 then
 ((NB_holding m).bind fun r2 =>
  gq (isL r2) (some (m.1 r2 6)))
 else (if a1 = 1 then
 ((Wo_countNames 11 m).bind fun r5 =>
  some r5)
 else (some (-1)))
set_option maxRecDepth 20000 in
set_option maxHeartbeats 4000000 in
theorem NB_told_ok {G : Gw} (hG : gOk G) (hs : gsh G = shC) {a1 : Int32} {m : Mm} {P : Option Value → Mm → Prop} (h : mjO (NB_told m a1) (fun r => P (some (.int r)) m)) : mjR G 2 yX6_told cX6_told 2 (some .int) [.ref (gr G 0), .int a1] m P := by
  refine mjR_of hG (by decide) (Nat.le_of_ble_eq_true rfl) ?_
  intro X F
  have F : mjF G X cX6_told RX6 2 2 (some .int) := F
  show mjV G X 2 0 [(0, .ref (gr G 0)), (1, .int a1)] [] m P
  unfold NB_told at h
  refine vIloadN F dX6_told_0 (k := 1) rfl ?_
  by_cases c1 : a1 = 0
  · replace h := okT h c1
    refine vLook F (tgt := 28) dX6_told_1 (by decide) (lk_in 0 c1 (by decide)) (by decide) ?_
    refine vAloadN F dX6_told_28 (k := 0) rfl ?_
    refine vCallV F (d' := 0) (x := 0) (T := TX6) (N := 10) (As := []) (st := []) dX6_told_29 lk_X6_153 my_X6_holding mv_X6_holding (cqC_0 hs) rfl (by decide) rfl rfl (Nat.le_of_ble_eq_true rfl) (NB_holding_ok hG hs (okB h fun r2 h => ?_))
    show mjV G X 2 32 [(0, .ref (gr G 0)), (1, .int a1)] [.ref (gr G r2)] m P
    obtain ⟨g3, h⟩ := okgq h
    refine vGetI F dX6_told_32 fa_X6_157 (isL_ok hs g3).1 rfl ?_
    have z := okS h
    exact vIret F dX6_told_35 z
  replace h := okF h c1
  by_cases c4 : a1 = 1
  · replace h := okT h c4
    refine vLook F (tgt := 36) dX6_told_1 (by decide) ((lv_osw c1 (by decide)).trans (lk_in 1 c4 (by decide))) (by decide) ?_
    refine vAloadN F dX6_told_36 (k := 0) rfl ?_
    refine vGetR F (t := 11) dX6_told_37 fa_X6_22 (cqC_0 hs) rfl ?_
    refine vCallV F (d' := 1) (x := 11) (T := TX5) (N := 13) (As := []) (st := []) dX6_told_40 lk_X6_160 my_X5_countNames mv_X5_countNames (is_X5_11 hs).1 rfl (by decide) rfl rfl (Nat.le_of_ble_eq_true rfl) (Wo_countNames_ok hG hs (is_X5_11 hs) (okB h fun r5 h => ?_))
    show mjV G X 2 43 [(0, .ref (gr G 0)), (1, .int a1)] [.int r5] m P
    have z := okS h
    exact vIret F dX6_told_43 z
  replace h := okF h c4
  refine vLook F (tgt := 44) dX6_told_1 (by decide) ((lv_osw c1 (by decide)).trans ((lv_osw c4 (by decide)).trans lk_nil)) (by decide) ?_
  refine vIconst F (v := (-1)) dX6_told_44 k_m1 ?_
  have z := okS h
  exact vIret F dX6_told_45 z
noncomputable def NB_way (m : Mm) (a1 : Int32) (a2 : Int32) : Option (Int32 × Mm) :=
  if (Wo_has 11 m a1) = true then
 (if (Wo_has 11 m a2) = true then
 ((NB_look m).bind fun r1 =>
  (Jo_leads r1 a1 a2).bind fun r2 =>
  if r2 = true then
 (ga (NB_index a1 a2) 49 (some (r1.1 6 (NB_index a1 a2).toNatClampNeg, r1)))
 else (some ((-5), r1)))
 else (some ((-1), m)))
 else (some ((-1), m))
set_option maxRecDepth 20000 in
set_option maxHeartbeats 4000000 in
theorem NB_way_ok {G : Gw} (hG : gOk G) (hs : gsh G = shC) {a1 : Int32} {a2 : Int32} {m : Mm} {P : Option Value → Mm → Prop} (h : mjO (NB_way m a1 a2) (fun r => P (some (.int r.1)) r.2)) : mjR G 5 yX6_way cX6_way 3 (some .int) [.ref (gr G 0), .int a1, .int a2] m P := by
  refine mjR_of hG (by decide) (Nat.le_of_ble_eq_true rfl) ?_
  intro X F
  have F : mjF G X cX6_way RX6 3 5 (some .int) := F
  show mjV G X 3 0 [(0, .ref (gr G 0)), (1, .int a1), (2, .int a2)] [] m P
  unfold NB_way at h
  refine vAloadN F dX6_way_0 (k := 0) rfl ?_
  refine vGetR F (t := 11) dX6_way_1 fa_X6_22 (cqC_0 hs) rfl ?_
  refine vIloadN F dX6_way_4 (k := 1) rfl ?_
  refine vCallV F (d' := 0) (x := 11) (T := TX5) (N := 13) (As := [.int a1]) (st := []) dX6_way_5 lk_X6_69 my_X5_has mv_X5_has (is_X5_11 hs).1 rfl (by decide) rfl rfl (Nat.le_of_ble_eq_true rfl) (Wo_has_ok hG hs (is_X5_11 hs) ?_)
  show mjV G X 3 8 [(0, .ref (gr G 0)), (1, .int a1), (2, .int a2)] [.int (bI (Wo_has 11 m a1))] m P
  refine vIfEqB F (tgt := 22) dX6_way_8 (by decide) (fun c6 => ?_) (fun c6 => ?_)
  · replace h := okF h c6
    refine vIconst F (v := (-1)) dX6_way_22 k_m1 ?_
    have z := okS h
    exact vIret F dX6_way_23 z
  · replace h := okT h c6
    refine vAloadN F dX6_way_11 (k := 0) rfl ?_
    refine vGetR F (t := 11) dX6_way_12 fa_X6_22 (cqC_0 hs) rfl ?_
    refine vIloadN F dX6_way_15 (k := 2) rfl ?_
    refine vCallV F (d' := 0) (x := 11) (T := TX5) (N := 13) (As := [.int a2]) (st := []) dX6_way_16 lk_X6_69 my_X5_has mv_X5_has (is_X5_11 hs).1 rfl (by decide) rfl rfl (Nat.le_of_ble_eq_true rfl) (Wo_has_ok hG hs (is_X5_11 hs) ?_)
    show mjV G X 3 19 [(0, .ref (gr G 0)), (1, .int a1), (2, .int a2)] [.int (bI (Wo_has 11 m a2))] m P
    refine vIfNeB F (tgt := 24) dX6_way_19 (by decide) (fun c5 => ?_) (fun c5 => ?_)
    · replace h := okT h c5
      refine vAloadN F dX6_way_24 (k := 0) rfl ?_
      refine vCallV F (d' := 4) (x := 0) (T := TX6) (N := 10) (As := []) (st := []) dX6_way_25 lk_X6_83 my_X6_look mv_X6_look (cqC_0 hs) rfl (by decide) rfl rfl (Nat.le_of_ble_eq_true rfl) (NB_look_ok hG hs (okB h fun r1 h => ?_))
      show mjV G X 3 28 [(0, .ref (gr G 0)), (1, .int a1), (2, .int a2)] [.ref (gr G 1)] r1 P
      refine vPop F dX6_way_28 rfl ?_
      refine vAloadN F dX6_way_29 (k := 0) rfl ?_
      refine vGetR F (t := 1) dX6_way_30 fa_X6_12 (cqC_0 hs) rfl ?_
      refine vIloadN F dX6_way_33 (k := 1) rfl ?_
      refine vIloadN F dX6_way_34 (k := 2) rfl ?_
      refine vCallV F (d' := 1) (x := 1) (T := TX1) (N := 15) (As := [.int a1, .int a2]) (st := []) dX6_way_35 lk_X6_164 my_X1_leads mv_X1_leads (cqC_1 hs) rfl (by decide) rfl rfl (Nat.le_of_ble_eq_true rfl) (Jo_leads_ok hG hs (okB h fun r2 h => ?_))
      show mjV G X 3 38 [(0, .ref (gr G 0)), (1, .int a1), (2, .int a2)] [.int (bI r2)] r1 P
      refine vIfEqB F (tgt := 57) dX6_way_38 (by decide) (fun c4 => ?_) (fun c4 => ?_)
      · replace h := okF h c4
        refine vBipush F (v := (-5)) dX6_way_57 kb_m5 ?_
        have z := okS h
        exact vIret F dX6_way_59 z
      · replace h := okT h c4
        refine vAloadN F dX6_way_41 (k := 0) rfl ?_
        refine vGetR F (t := 1) dX6_way_42 fa_X6_12 (cqC_0 hs) rfl ?_
        refine vGetR F (t := 6) dX6_way_45 fa_X6_167 (cqC_1 hs) rfl ?_
        refine vIloadN F dX6_way_48 (k := 1) rfl ?_
        refine vIloadN F dX6_way_49 (k := 2) rfl ?_
        refine vCallS F (d' := 0) (As := [.int a1, .int a2]) (st := [.ref (gr G 6)]) dX6_way_50 lk_X6_100 my_X6_index sy_X6_index (by decide) rfl rfl (Nat.le_of_ble_eq_true rfl) (NB_index_ok hG hs ?_)
        show mjV G X 3 53 [(0, .ref (gr G 0)), (1, .int a1), (2, .int a2)] [.int (NB_index a1 a2), .ref (gr G 6)] r1 P
        obtain ⟨g3, h⟩ := okga h
        refine vIald F dX6_way_53 (cqC_6 hs) g3 ?_
        refine vGoto F (tgt := 59) dX6_way_54 (by decide) ?_
        have z := okS h
        exact vIret F dX6_way_59 z
    · replace h := okF h c5
      refine vIconst F (v := (-1)) dX6_way_22 k_m1 ?_
      have z := okS h
      exact vIret F dX6_way_23 z
noncomputable def NB_toward (m : Mm) (a1 : Int32) (a2 : Int32) : Option (Int32 × Mm) :=
  if (Wo_has 11 m a1) = true then
 (if (Wo_has 11 m a2) = true then
 ((NB_look m).bind fun r1 =>
  ga (NB_index a1 a2) 49 (some (r1.1 7 (NB_index a1 a2).toNatClampNeg, r1)))
 else (some ((-1), m)))
 else (some ((-1), m))
set_option maxRecDepth 20000 in
set_option maxHeartbeats 4000000 in
theorem NB_toward_ok {G : Gw} (hG : gOk G) (hs : gsh G = shC) {a1 : Int32} {a2 : Int32} {m : Mm} {P : Option Value → Mm → Prop} (h : mjO (NB_toward m a1 a2) (fun r => P (some (.int r.1)) r.2)) : mjR G 5 yX6_toward cX6_toward 3 (some .int) [.ref (gr G 0), .int a1, .int a2] m P := by
  refine mjR_of hG (by decide) (Nat.le_of_ble_eq_true rfl) ?_
  intro X F
  have F : mjF G X cX6_toward RX6 3 5 (some .int) := F
  show mjV G X 3 0 [(0, .ref (gr G 0)), (1, .int a1), (2, .int a2)] [] m P
  unfold NB_toward at h
  refine vAloadN F dX6_toward_0 (k := 0) rfl ?_
  refine vGetR F (t := 11) dX6_toward_1 fa_X6_22 (cqC_0 hs) rfl ?_
  refine vIloadN F dX6_toward_4 (k := 1) rfl ?_
  refine vCallV F (d' := 0) (x := 11) (T := TX5) (N := 13) (As := [.int a1]) (st := []) dX6_toward_5 lk_X6_69 my_X5_has mv_X5_has (is_X5_11 hs).1 rfl (by decide) rfl rfl (Nat.le_of_ble_eq_true rfl) (Wo_has_ok hG hs (is_X5_11 hs) ?_)
  show mjV G X 3 8 [(0, .ref (gr G 0)), (1, .int a1), (2, .int a2)] [.int (bI (Wo_has 11 m a1))] m P
  refine vIfEqB F (tgt := 22) dX6_toward_8 (by decide) (fun c4 => ?_) (fun c4 => ?_)
  · replace h := okF h c4
    refine vIconst F (v := (-1)) dX6_toward_22 k_m1 ?_
    have z := okS h
    exact vIret F dX6_toward_23 z
  · replace h := okT h c4
    refine vAloadN F dX6_toward_11 (k := 0) rfl ?_
    refine vGetR F (t := 11) dX6_toward_12 fa_X6_22 (cqC_0 hs) rfl ?_
    refine vIloadN F dX6_toward_15 (k := 2) rfl ?_
    refine vCallV F (d' := 0) (x := 11) (T := TX5) (N := 13) (As := [.int a2]) (st := []) dX6_toward_16 lk_X6_69 my_X5_has mv_X5_has (is_X5_11 hs).1 rfl (by decide) rfl rfl (Nat.le_of_ble_eq_true rfl) (Wo_has_ok hG hs (is_X5_11 hs) ?_)
    show mjV G X 3 19 [(0, .ref (gr G 0)), (1, .int a1), (2, .int a2)] [.int (bI (Wo_has 11 m a2))] m P
    refine vIfNeB F (tgt := 24) dX6_toward_19 (by decide) (fun c3 => ?_) (fun c3 => ?_)
    · replace h := okT h c3
      refine vAloadN F dX6_toward_24 (k := 0) rfl ?_
      refine vCallV F (d' := 4) (x := 0) (T := TX6) (N := 10) (As := []) (st := []) dX6_toward_25 lk_X6_83 my_X6_look mv_X6_look (cqC_0 hs) rfl (by decide) rfl rfl (Nat.le_of_ble_eq_true rfl) (NB_look_ok hG hs (okB h fun r1 h => ?_))
      show mjV G X 3 28 [(0, .ref (gr G 0)), (1, .int a1), (2, .int a2)] [.ref (gr G 1)] r1 P
      refine vGetR F (t := 7) dX6_toward_28 fa_X6_170 (cqC_1 hs) rfl ?_
      refine vIloadN F dX6_toward_31 (k := 1) rfl ?_
      refine vIloadN F dX6_toward_32 (k := 2) rfl ?_
      refine vCallS F (d' := 0) (As := [.int a1, .int a2]) (st := [.ref (gr G 7)]) dX6_toward_33 lk_X6_100 my_X6_index sy_X6_index (by decide) rfl rfl (Nat.le_of_ble_eq_true rfl) (NB_index_ok hG hs ?_)
      show mjV G X 3 36 [(0, .ref (gr G 0)), (1, .int a1), (2, .int a2)] [.int (NB_index a1 a2), .ref (gr G 7)] r1 P
      obtain ⟨g2, h⟩ := okga h
      refine vIald F dX6_toward_36 (cqC_7 hs) g2 ?_
      have z := okS h
      exact vIret F dX6_toward_37 z
    · replace h := okF h c3
      refine vIconst F (v := (-1)) dX6_toward_22 k_m1 ?_
      have z := okS h
      exact vIret F dX6_toward_23 z
noncomputable def NB_next (m : Mm) (a1 : Int32) (a2 : Int32) : Option (Int32 × Mm) :=
  if (Wo_has 11 m a1) = true then
 (if (Wo_has 11 m a2) = true then
 (if a1 = a2 then
 (some ((-2), m))
 else ((NB_look m).bind fun r1 =>
  ga (NB_index a1 a2) 49 (some (r1.1 8 (NB_index a1 a2).toNatClampNeg, r1))))
 else (some ((-1), m)))
 else (some ((-1), m))
set_option maxRecDepth 20000 in
set_option maxHeartbeats 4000000 in
theorem NB_next_ok {G : Gw} (hG : gOk G) (hs : gsh G = shC) {a1 : Int32} {a2 : Int32} {m : Mm} {P : Option Value → Mm → Prop} (h : mjO (NB_next m a1 a2) (fun r => P (some (.int r.1)) r.2)) : mjR G 5 yX6_next cX6_next 3 (some .int) [.ref (gr G 0), .int a1, .int a2] m P := by
  refine mjR_of hG (by decide) (Nat.le_of_ble_eq_true rfl) ?_
  intro X F
  have F : mjF G X cX6_next RX6 3 5 (some .int) := F
  show mjV G X 3 0 [(0, .ref (gr G 0)), (1, .int a1), (2, .int a2)] [] m P
  unfold NB_next at h
  refine vAloadN F dX6_next_0 (k := 0) rfl ?_
  refine vGetR F (t := 11) dX6_next_1 fa_X6_22 (cqC_0 hs) rfl ?_
  refine vIloadN F dX6_next_4 (k := 1) rfl ?_
  refine vCallV F (d' := 0) (x := 11) (T := TX5) (N := 13) (As := [.int a1]) (st := []) dX6_next_5 lk_X6_69 my_X5_has mv_X5_has (is_X5_11 hs).1 rfl (by decide) rfl rfl (Nat.le_of_ble_eq_true rfl) (Wo_has_ok hG hs (is_X5_11 hs) ?_)
  show mjV G X 3 8 [(0, .ref (gr G 0)), (1, .int a1), (2, .int a2)] [.int (bI (Wo_has 11 m a1))] m P
  refine vIfEqB F (tgt := 22) dX6_next_8 (by decide) (fun c5 => ?_) (fun c5 => ?_)
  · replace h := okF h c5
    refine vIconst F (v := (-1)) dX6_next_22 k_m1 ?_
    have z := okS h
    exact vIret F dX6_next_23 z
  · replace h := okT h c5
    refine vAloadN F dX6_next_11 (k := 0) rfl ?_
    refine vGetR F (t := 11) dX6_next_12 fa_X6_22 (cqC_0 hs) rfl ?_
    refine vIloadN F dX6_next_15 (k := 2) rfl ?_
    refine vCallV F (d' := 0) (x := 11) (T := TX5) (N := 13) (As := [.int a2]) (st := []) dX6_next_16 lk_X6_69 my_X5_has mv_X5_has (is_X5_11 hs).1 rfl (by decide) rfl rfl (Nat.le_of_ble_eq_true rfl) (Wo_has_ok hG hs (is_X5_11 hs) ?_)
    show mjV G X 3 19 [(0, .ref (gr G 0)), (1, .int a1), (2, .int a2)] [.int (bI (Wo_has 11 m a2))] m P
    refine vIfNeB F (tgt := 24) dX6_next_19 (by decide) (fun c4 => ?_) (fun c4 => ?_)
    · replace h := okT h c4
      refine vIloadN F dX6_next_24 (k := 1) rfl ?_
      refine vIloadN F dX6_next_25 (k := 2) rfl ?_
      refine vIcmpNe F (tgt := 32) dX6_next_26 (by decide) (fun c3 => ?_) (fun c3 => ?_)
      · replace h := okF h c3
        refine vAloadN F dX6_next_32 (k := 0) rfl ?_
        refine vCallV F (d' := 4) (x := 0) (T := TX6) (N := 10) (As := []) (st := []) dX6_next_33 lk_X6_83 my_X6_look mv_X6_look (cqC_0 hs) rfl (by decide) rfl rfl (Nat.le_of_ble_eq_true rfl) (NB_look_ok hG hs (okB h fun r1 h => ?_))
        show mjV G X 3 36 [(0, .ref (gr G 0)), (1, .int a1), (2, .int a2)] [.ref (gr G 1)] r1 P
        refine vGetR F (t := 8) dX6_next_36 fa_X6_173 (cqC_1 hs) rfl ?_
        refine vIloadN F dX6_next_39 (k := 1) rfl ?_
        refine vIloadN F dX6_next_40 (k := 2) rfl ?_
        refine vCallS F (d' := 0) (As := [.int a1, .int a2]) (st := [.ref (gr G 8)]) dX6_next_41 lk_X6_100 my_X6_index sy_X6_index (by decide) rfl rfl (Nat.le_of_ble_eq_true rfl) (NB_index_ok hG hs ?_)
        show mjV G X 3 44 [(0, .ref (gr G 0)), (1, .int a1), (2, .int a2)] [.int (NB_index a1 a2), .ref (gr G 8)] r1 P
        obtain ⟨g2, h⟩ := okga h
        refine vIald F dX6_next_44 (cqC_8 hs) g2 ?_
        have z := okS h
        exact vIret F dX6_next_45 z
      · replace h := okT h c3
        refine vBipush F (v := (-2)) dX6_next_29 kb_m2 ?_
        have z := okS h
        exact vIret F dX6_next_31 z
    · replace h := okF h c4
      refine vIconst F (v := (-1)) dX6_next_22 k_m1 ?_
      have z := okS h
      exact vIret F dX6_next_23 z
def NB_isPart (a1 : Int32) : Bool :=
  if a1 = 0 then
 (true)
 else (if a1 = 1 then
 (true)
 else (false))
set_option maxRecDepth 20000 in
set_option maxHeartbeats 4000000 in
theorem NB_isPart_ok {G : Gw} (hG : gOk G) (hs : gsh G = shC) {a1 : Int32} {m : Mm} {P : Option Value → Mm → Prop} (h : P (some (.int (bI (NB_isPart a1)))) m) : mjR G 0 yX6_isPart cX6_isPart 1 (some .boolean) [.int a1] m P := by
  refine mjR_of hG (by decide) (Nat.le_of_ble_eq_true rfl) ?_
  intro X F
  have F : mjF G X cX6_isPart RX6 1 0 (some .boolean) := F
  show mjV G X 1 0 [(0, .int a1)] [] m P
  have h : mjO (some (NB_isPart a1)) (fun r => P (some (.int (bI r))) m) := ⟨_, rfl, h⟩
  unfold NB_isPart at h
  refine vIloadN F dX6_isPart_0 (k := 0) rfl ?_
  refine vIfEq F (tgt := 9) dX6_isPart_1 (by decide) (fun c2 => ?_) (fun c2 => ?_)
  · replace h := okTT h c2
    refine vIconst F (v := 1) dX6_isPart_9 k_1 ?_
    refine vGoto F (tgt := 14) dX6_isPart_10 (by decide) ?_
    have z := okS h
    exact vZret (x := bI true) F dX6_isPart_14 (nzI _) z
  · replace h := okFT h c2
    refine vIloadN F dX6_isPart_4 (k := 0) rfl ?_
    refine vIconst F (v := 1) dX6_isPart_5 k_1 ?_
    refine vIcmpNe F (tgt := 13) dX6_isPart_6 (by decide) (fun c1 => ?_) (fun c1 => ?_)
    · replace h := okFT h c1
      refine vIconst F (v := 0) dX6_isPart_13 k_0 ?_
      have z := okS h
      exact vZret (x := bI false) F dX6_isPart_14 (nzI _) z
    · replace h := okTT h c1
      refine vIconst F (v := 1) dX6_isPart_9 k_1 ?_
      refine vGoto F (tgt := 14) dX6_isPart_10 (by decide) ?_
      have z := okS h
      exact vZret (x := bI true) F dX6_isPart_14 (nzI _) z
noncomputable def NB_gone (m : Mm) (a1 : Int32) (a2 : Int32) (a3 : Int32) : Option (Int32 × Mm) :=
  if (Wo_has 11 m a1) = true then
 (if (Wo_has 11 m a2) = true then
 (if (NB_isPart a3) = true then
 (if a1 = a2 then
 (some ((-2), m))
 else ((NB_look m).bind fun r1 =>
  (Jo_walk r1 a1 a2).bind fun r2 =>
  if (r2.1) = a2 then
 (if a3 = 0 then
 (some ((r2.2).1 1 14, r2.2))
 else (some ((r2.2).1 1 13, r2.2)))
 else (some ((-5), r2.2))))
 else (some ((-1), m)))
 else (some ((-1), m)))
 else (some ((-1), m))
set_option maxRecDepth 20000 in
set_option maxHeartbeats 4000000 in
theorem NB_gone_ok {G : Gw} (hG : gOk G) (hs : gsh G = shC) {a1 : Int32} {a2 : Int32} {a3 : Int32} {m : Mm} {P : Option Value → Mm → Prop} (h : mjO (NB_gone m a1 a2 a3) (fun r => P (some (.int r.1)) r.2)) : mjR G 5 yX6_gone cX6_gone 4 (some .int) [.ref (gr G 0), .int a1, .int a2, .int a3] m P := by
  refine mjR_of hG (by decide) (Nat.le_of_ble_eq_true rfl) ?_
  intro X F
  have F : mjF G X cX6_gone RX6 4 5 (some .int) := F
  show mjV G X 4 0 [(0, .ref (gr G 0)), (1, .int a1), (2, .int a2), (3, .int a3)] [] m P
  unfold NB_gone at h
  refine vAloadN F dX6_gone_0 (k := 0) rfl ?_
  refine vGetR F (t := 11) dX6_gone_1 fa_X6_22 (cqC_0 hs) rfl ?_
  refine vIloadN F dX6_gone_4 (k := 1) rfl ?_
  refine vCallV F (d' := 0) (x := 11) (T := TX5) (N := 13) (As := [.int a1]) (st := []) dX6_gone_5 lk_X6_69 my_X5_has mv_X5_has (is_X5_11 hs).1 rfl (by decide) rfl rfl (Nat.le_of_ble_eq_true rfl) (Wo_has_ok hG hs (is_X5_11 hs) ?_)
  show mjV G X 4 8 [(0, .ref (gr G 0)), (1, .int a1), (2, .int a2), (3, .int a3)] [.int (bI (Wo_has 11 m a1))] m P
  refine vIfEqB F (tgt := 29) dX6_gone_8 (by decide) (fun c8 => ?_) (fun c8 => ?_)
  · replace h := okF h c8
    refine vIconst F (v := (-1)) dX6_gone_29 k_m1 ?_
    have z := okS h
    exact vIret F dX6_gone_30 z
  · replace h := okT h c8
    refine vAloadN F dX6_gone_11 (k := 0) rfl ?_
    refine vGetR F (t := 11) dX6_gone_12 fa_X6_22 (cqC_0 hs) rfl ?_
    refine vIloadN F dX6_gone_15 (k := 2) rfl ?_
    refine vCallV F (d' := 0) (x := 11) (T := TX5) (N := 13) (As := [.int a2]) (st := []) dX6_gone_16 lk_X6_69 my_X5_has mv_X5_has (is_X5_11 hs).1 rfl (by decide) rfl rfl (Nat.le_of_ble_eq_true rfl) (Wo_has_ok hG hs (is_X5_11 hs) ?_)
    show mjV G X 4 19 [(0, .ref (gr G 0)), (1, .int a1), (2, .int a2), (3, .int a3)] [.int (bI (Wo_has 11 m a2))] m P
    refine vIfEqB F (tgt := 29) dX6_gone_19 (by decide) (fun c7 => ?_) (fun c7 => ?_)
    · replace h := okF h c7
      refine vIconst F (v := (-1)) dX6_gone_29 k_m1 ?_
      have z := okS h
      exact vIret F dX6_gone_30 z
    · replace h := okT h c7
      refine vIloadN F dX6_gone_22 (k := 3) rfl ?_
      refine vCallS F (d' := 0) (As := [.int a3]) (st := []) dX6_gone_23 lk_X6_176 my_X6_isPart sy_X6_isPart (by decide) rfl rfl (Nat.le_of_ble_eq_true rfl) (NB_isPart_ok hG hs ?_)
      show mjV G X 4 26 [(0, .ref (gr G 0)), (1, .int a1), (2, .int a2), (3, .int a3)] [.int (bI (NB_isPart a3))] m P
      refine vIfNeB F (tgt := 31) dX6_gone_26 (by decide) (fun c6 => ?_) (fun c6 => ?_)
      · replace h := okT h c6
        refine vIloadN F dX6_gone_31 (k := 1) rfl ?_
        refine vIloadN F dX6_gone_32 (k := 2) rfl ?_
        refine vIcmpNe F (tgt := 39) dX6_gone_33 (by decide) (fun c5 => ?_) (fun c5 => ?_)
        · replace h := okF h c5
          refine vAloadN F dX6_gone_39 (k := 0) rfl ?_
          refine vCallV F (d' := 4) (x := 0) (T := TX6) (N := 10) (As := []) (st := []) dX6_gone_40 lk_X6_83 my_X6_look mv_X6_look (cqC_0 hs) rfl (by decide) rfl rfl (Nat.le_of_ble_eq_true rfl) (NB_look_ok hG hs (okB h fun r1 h => ?_))
          show mjV G X 4 43 [(0, .ref (gr G 0)), (1, .int a1), (2, .int a2), (3, .int a3)] [.ref (gr G 1)] r1 P
          refine vIloadN F dX6_gone_43 (k := 1) rfl ?_
          refine vIloadN F dX6_gone_44 (k := 2) rfl ?_
          refine vCallV F (d' := 1) (x := 1) (T := TX1) (N := 15) (As := [.int a1, .int a2]) (st := []) dX6_gone_45 lk_X6_179 my_X1_walk mv_X1_walk (cqC_1 hs) rfl (by decide) rfl rfl (Nat.le_of_ble_eq_true rfl) (Jo_walk_ok hG hs (okB h fun r2 h => ?_))
          show mjV G X 4 48 [(0, .ref (gr G 0)), (1, .int a1), (2, .int a2), (3, .int a3)] [.int (r2.1)] (r2.2) P
          refine vIloadN F dX6_gone_48 (k := 2) rfl ?_
          refine vIcmpEq F (tgt := 55) dX6_gone_49 (by decide) (fun c4 => ?_) (fun c4 => ?_)
          · replace h := okT h c4
            refine vIloadN F dX6_gone_55 (k := 3) rfl ?_
            refine vIfNe F (tgt := 69) dX6_gone_56 (by decide) (fun c3 => ?_) (fun c3 => ?_)
            · replace h := okF h c3
              refine vAloadN F dX6_gone_69 (k := 0) rfl ?_
              refine vGetR F (t := 1) dX6_gone_70 fa_X6_12 (cqC_0 hs) rfl ?_
              refine vGetI F dX6_gone_73 fa_X6_185 (cqC_1 hs) rfl ?_
              have z := okS h
              exact vIret F dX6_gone_76 z
            · replace h := okT h c3
              refine vAloadN F dX6_gone_59 (k := 0) rfl ?_
              refine vGetR F (t := 1) dX6_gone_60 fa_X6_12 (cqC_0 hs) rfl ?_
              refine vGetI F dX6_gone_63 fa_X6_182 (cqC_1 hs) rfl ?_
              refine vGoto F (tgt := 76) dX6_gone_66 (by decide) ?_
              have z := okS h
              exact vIret F dX6_gone_76 z
          · replace h := okF h c4
            refine vBipush F (v := (-5)) dX6_gone_52 kb_m5 ?_
            have z := okS h
            exact vIret F dX6_gone_54 z
        · replace h := okT h c5
          refine vBipush F (v := (-2)) dX6_gone_36 kb_m2 ?_
          have z := okS h
          exact vIret F dX6_gone_38 z
      · replace h := okF h c6
        refine vIconst F (v := (-1)) dX6_gone_29 k_m1 ?_
        have z := okS h
        exact vIret F dX6_gone_30 z
noncomputable def NB_lost (m : Mm) (a1 : Int32) : Option (Int32 × Mm) :=
  if a1 = 0 then
 ((NB_look m).bind fun r2 =>
  (Jo_lostTravellers r2).bind fun r3 =>
  some (r3.1, r3.2))
 else (if a1 = 1 then
 ((NB_look m).bind fun r5 =>
  (Jo_lostPairs r5).bind fun r6 =>
  some (r6.1, r6.2))
 else (some ((-1), m)))
set_option maxRecDepth 20000 in
set_option maxHeartbeats 4000000 in
theorem NB_lost_ok {G : Gw} (hG : gOk G) (hs : gsh G = shC) {a1 : Int32} {m : Mm} {P : Option Value → Mm → Prop} (h : mjO (NB_lost m a1) (fun r => P (some (.int r.1)) r.2)) : mjR G 5 yX6_lost cX6_lost 2 (some .int) [.ref (gr G 0), .int a1] m P := by
  refine mjR_of hG (by decide) (Nat.le_of_ble_eq_true rfl) ?_
  intro X F
  have F : mjF G X cX6_lost RX6 2 5 (some .int) := F
  show mjV G X 2 0 [(0, .ref (gr G 0)), (1, .int a1)] [] m P
  unfold NB_lost at h
  refine vIloadN F dX6_lost_0 (k := 1) rfl ?_
  by_cases c1 : a1 = 0
  · replace h := okT h c1
    refine vLook F (tgt := 28) dX6_lost_1 (by decide) (lk_in 0 c1 (by decide)) (by decide) ?_
    refine vAloadN F dX6_lost_28 (k := 0) rfl ?_
    refine vCallV F (d' := 4) (x := 0) (T := TX6) (N := 10) (As := []) (st := []) dX6_lost_29 lk_X6_83 my_X6_look mv_X6_look (cqC_0 hs) rfl (by decide) rfl rfl (Nat.le_of_ble_eq_true rfl) (NB_look_ok hG hs (okB h fun r2 h => ?_))
    show mjV G X 2 32 [(0, .ref (gr G 0)), (1, .int a1)] [.ref (gr G 1)] r2 P
    refine vCallV F (d' := 2) (x := 1) (T := TX1) (N := 15) (As := []) (st := []) dX6_lost_32 lk_X6_188 my_X1_lostTravellers mv_X1_lostTravellers (cqC_1 hs) rfl (by decide) rfl rfl (Nat.le_of_ble_eq_true rfl) (Jo_lostTravellers_ok hG hs (okB h fun r3 h => ?_))
    show mjV G X 2 35 [(0, .ref (gr G 0)), (1, .int a1)] [.int (r3.1)] (r3.2) P
    have z := okS h
    exact vIret F dX6_lost_35 z
  replace h := okF h c1
  by_cases c4 : a1 = 1
  · replace h := okT h c4
    refine vLook F (tgt := 36) dX6_lost_1 (by decide) ((lv_osw c1 (by decide)).trans (lk_in 1 c4 (by decide))) (by decide) ?_
    refine vAloadN F dX6_lost_36 (k := 0) rfl ?_
    refine vCallV F (d' := 4) (x := 0) (T := TX6) (N := 10) (As := []) (st := []) dX6_lost_37 lk_X6_83 my_X6_look mv_X6_look (cqC_0 hs) rfl (by decide) rfl rfl (Nat.le_of_ble_eq_true rfl) (NB_look_ok hG hs (okB h fun r5 h => ?_))
    show mjV G X 2 40 [(0, .ref (gr G 0)), (1, .int a1)] [.ref (gr G 1)] r5 P
    refine vCallV F (d' := 2) (x := 1) (T := TX1) (N := 15) (As := []) (st := []) dX6_lost_40 lk_X6_191 my_X1_lostPairs mv_X1_lostPairs (cqC_1 hs) rfl (by decide) rfl rfl (Nat.le_of_ble_eq_true rfl) (Jo_lostPairs_ok hG hs (okB h fun r6 h => ?_))
    show mjV G X 2 43 [(0, .ref (gr G 0)), (1, .int a1)] [.int (r6.1)] (r6.2) P
    have z := okS h
    exact vIret F dX6_lost_43 z
  replace h := okF h c4
  refine vLook F (tgt := 44) dX6_lost_1 (by decide) ((lv_osw c1 (by decide)).trans ((lv_osw c4 (by decide)).trans lk_nil)) (by decide) ?_
  refine vIconst F (v := (-1)) dX6_lost_44 k_m1 ?_
  have z := okS h
  exact vIret F dX6_lost_45 z
