def NB_road (m : Mm) (a1 : Int32) (a2 : Int32) (a3 : Int32) : Option (Int32 × Mm) :=
  if (Wo_has 11 m a1) = true then
 (if (Wo_has 11 m a2) = true then
 (if a1 = a2 then
 (some ((-2), m))
 else (if a3 < 0 then
 (some ((-2), m))
 else (if a3 ≤ 99 then
 (ga (NB_index a1 a2) 49 ((Wo_setMiles 11 m a1 a2 a3).bind fun r2 =>
  some (m.1 (11 + 4) (NB_index a1 a2).toNatClampNeg, r2)))
 else (some ((-2), m)))))
 else (some ((-1), m)))
 else (some ((-1), m))
set_option maxRecDepth 20000 in
set_option maxHeartbeats 4000000 in
theorem NB_road_ok {G : Gw} (hG : gOk G) (hs : gsh G = shC) {a1 : Int32} {a2 : Int32} {a3 : Int32} {m : Mm} {P : Option Value → Mm → Prop} (h : mjO (NB_road m a1 a2 a3) (fun r => P (some (.int r.1)) r.2)) : mjR G 2 yX6_road cX6_road 5 (some .int) [.ref (gr G 0), .int a1, .int a2, .int a3] m P := by
  refine mjR_of hG (by decide) (Nat.le_of_ble_eq_true rfl) ?_
  intro X F
  have F : mjF G X cX6_road RX6 5 2 (some .int) := F
  show mjV G X 5 0 [(0, .ref (gr G 0)), (1, .int a1), (2, .int a2), (3, .int a3)] [] m P
  unfold NB_road at h
  refine vAloadN F dX6_road_0 (k := 0) rfl ?_
  refine vGetR F (t := 11) dX6_road_1 fa_X6_22 (cqC_0 hs) rfl ?_
  refine vIloadN F dX6_road_4 (k := 1) rfl ?_
  refine vCallV F (d' := 0) (x := 11) (T := TX5) (N := 13) (As := [.int a1]) (st := []) dX6_road_5 lk_X6_69 my_X5_has mv_X5_has (is_X5_11 hs).1 rfl (by decide) rfl rfl (Nat.le_of_ble_eq_true rfl) (Wo_has_ok hG hs (is_X5_11 hs) ?_)
  show mjV G X 5 8 [(0, .ref (gr G 0)), (1, .int a1), (2, .int a2), (3, .int a3)] [.int (bI (Wo_has 11 m a1))] m P
  refine vIfEqB F (tgt := 22) dX6_road_8 (by decide) (fun c7 => ?_) (fun c7 => ?_)
  · replace h := okF h c7
    refine vIconst F (v := (-1)) dX6_road_22 k_m1 ?_
    have z := okS h
    exact vIret F dX6_road_23 z
  · replace h := okT h c7
    refine vAloadN F dX6_road_11 (k := 0) rfl ?_
    refine vGetR F (t := 11) dX6_road_12 fa_X6_22 (cqC_0 hs) rfl ?_
    refine vIloadN F dX6_road_15 (k := 2) rfl ?_
    refine vCallV F (d' := 0) (x := 11) (T := TX5) (N := 13) (As := [.int a2]) (st := []) dX6_road_16 lk_X6_69 my_X5_has mv_X5_has (is_X5_11 hs).1 rfl (by decide) rfl rfl (Nat.le_of_ble_eq_true rfl) (Wo_has_ok hG hs (is_X5_11 hs) ?_)
    show mjV G X 5 19 [(0, .ref (gr G 0)), (1, .int a1), (2, .int a2), (3, .int a3)] [.int (bI (Wo_has 11 m a2))] m P
    refine vIfNeB F (tgt := 24) dX6_road_19 (by decide) (fun c6 => ?_) (fun c6 => ?_)
    · replace h := okT h c6
      refine vIloadN F dX6_road_24 (k := 1) rfl ?_
      refine vIloadN F dX6_road_25 (k := 2) rfl ?_
      refine vIcmpEq F (tgt := 39) dX6_road_26 (by decide) (fun c5 => ?_) (fun c5 => ?_)
      · replace h := okT h c5
        refine vBipush F (v := (-2)) dX6_road_39 kb_m2 ?_
        have z := okS h
        exact vIret F dX6_road_41 z
      · replace h := okF h c5
        refine vIloadN F dX6_road_29 (k := 3) rfl ?_
        refine vIfLt F (tgt := 39) dX6_road_30 (by decide) (fun c4 => ?_) (fun c4 => ?_)
        · replace h := okT h c4
          refine vBipush F (v := (-2)) dX6_road_39 kb_m2 ?_
          have z := okS h
          exact vIret F dX6_road_41 z
        · replace h := okF h c4
          refine vIloadN F dX6_road_33 (k := 3) rfl ?_
          refine vBipush F (v := 99) dX6_road_34 kb_99 ?_
          refine vIcmpLe F (tgt := 42) dX6_road_36 (by decide) (fun c3 => ?_) (fun c3 => ?_)
          · replace h := okT h c3
            refine vAloadN F dX6_road_42 (k := 0) rfl ?_
            refine vGetR F (t := 11) dX6_road_43 fa_X6_22 (cqC_0 hs) rfl ?_
            refine vGetR F (t := 11 + 4) dX6_road_46 fa_X6_97 (is_X5_11 hs).1 rfl ?_
            refine vIloadN F dX6_road_49 (k := 1) rfl ?_
            refine vIloadN F dX6_road_50 (k := 2) rfl ?_
            refine vCallS F (d' := 0) (As := [.int a1, .int a2]) (st := [.ref (gr G (11 + 4))]) dX6_road_51 lk_X6_100 my_X6_index sy_X6_index (by decide) rfl rfl (Nat.le_of_ble_eq_true rfl) (NB_index_ok hG hs ?_)
            show mjV G X 5 54 [(0, .ref (gr G 0)), (1, .int a1), (2, .int a2), (3, .int a3)] [.int (NB_index a1 a2), .ref (gr G (11 + 4))] m P
            obtain ⟨g1, h⟩ := okga h
            refine vIald F dX6_road_54 (is_X5_11 hs).2.2.2.2.1 g1 ?_
            refine vIstore F (L' := [(4, .int (m.1 (11 + 4) (NB_index a1 a2).toNatClampNeg)), (0, .ref (gr G 0)), (1, .int a1), (2, .int a2), (3, .int a3)]) dX6_road_55 (by decide) rfl ?_
            refine vAloadN F dX6_road_57 (k := 1) rfl ?_
            refine vGetR F (t := 11) dX6_road_58 fa_X6_22 (cqC_0 hs) rfl ?_
            refine vIloadN F dX6_road_61 (k := 2) rfl ?_
            refine vIloadN F dX6_road_62 (k := 3) rfl ?_
            refine vIloadN F dX6_road_63 (k := 4) rfl ?_
            refine vCallV F (d' := 1) (x := 11) (T := TX5) (N := 13) (As := [.int a1, .int a2, .int a3]) (st := []) dX6_road_64 lk_X6_104 my_X5_setMiles mv_X5_setMiles (is_X5_11 hs).1 rfl (by decide) rfl rfl (Nat.le_of_ble_eq_true rfl) (Wo_setMiles_ok hG hs (is_X5_11 hs) (okB h fun r2 h => ?_))
            show mjV G X 5 67 [(4, .int (m.1 (11 + 4) (NB_index a1 a2).toNatClampNeg)), (0, .ref (gr G 0)), (1, .int a1), (2, .int a2), (3, .int a3)] [] r2 P
            refine vIload F dX6_road_67 (k := 0) rfl ?_
            have z := okS h
            exact vIret F dX6_road_69 z
          · replace h := okF h c3
            refine vBipush F (v := (-2)) dX6_road_39 kb_m2 ?_
            have z := okS h
            exact vIret F dX6_road_41 z
    · replace h := okF h c6
      refine vIconst F (v := (-1)) dX6_road_22 k_m1 ?_
      have z := okS h
      exact vIret F dX6_road_23 z
noncomputable def NB_far (m : Mm) (a1 : Int32) (a2 : Int32) : Option (Int32 × Mm) :=
  if (Wo_has 11 m a1) = true then
 (if (Wo_has 11 m a2) = true then
 ((NB_look m).bind fun r1 =>
  ga (NB_index a1 a2) 49 (some (r1.1 5 (NB_index a1 a2).toNatClampNeg, r1)))
 else (some ((-1), m)))
 else (some ((-1), m))
set_option maxRecDepth 20000 in
set_option maxHeartbeats 4000000 in
theorem NB_far_ok {G : Gw} (hG : gOk G) (hs : gsh G = shC) {a1 : Int32} {a2 : Int32} {m : Mm} {P : Option Value → Mm → Prop} (h : mjO (NB_far m a1 a2) (fun r => P (some (.int r.1)) r.2)) : mjR G 5 yX6_far cX6_far 3 (some .int) [.ref (gr G 0), .int a1, .int a2] m P := by
  refine mjR_of hG (by decide) (Nat.le_of_ble_eq_true rfl) ?_
  intro X F
  have F : mjF G X cX6_far RX6 3 5 (some .int) := F
  show mjV G X 3 0 [(0, .ref (gr G 0)), (1, .int a1), (2, .int a2)] [] m P
  unfold NB_far at h
  refine vAloadN F dX6_far_0 (k := 0) rfl ?_
  refine vGetR F (t := 11) dX6_far_1 fa_X6_22 (cqC_0 hs) rfl ?_
  refine vIloadN F dX6_far_4 (k := 1) rfl ?_
  refine vCallV F (d' := 0) (x := 11) (T := TX5) (N := 13) (As := [.int a1]) (st := []) dX6_far_5 lk_X6_69 my_X5_has mv_X5_has (is_X5_11 hs).1 rfl (by decide) rfl rfl (Nat.le_of_ble_eq_true rfl) (Wo_has_ok hG hs (is_X5_11 hs) ?_)
  show mjV G X 3 8 [(0, .ref (gr G 0)), (1, .int a1), (2, .int a2)] [.int (bI (Wo_has 11 m a1))] m P
  refine vIfEqB F (tgt := 22) dX6_far_8 (by decide) (fun c4 => ?_) (fun c4 => ?_)
  · replace h := okF h c4
    refine vIconst F (v := (-1)) dX6_far_22 k_m1 ?_
    have z := okS h
    exact vIret F dX6_far_23 z
  · replace h := okT h c4
    refine vAloadN F dX6_far_11 (k := 0) rfl ?_
    refine vGetR F (t := 11) dX6_far_12 fa_X6_22 (cqC_0 hs) rfl ?_
    refine vIloadN F dX6_far_15 (k := 2) rfl ?_
    refine vCallV F (d' := 0) (x := 11) (T := TX5) (N := 13) (As := [.int a2]) (st := []) dX6_far_16 lk_X6_69 my_X5_has mv_X5_has (is_X5_11 hs).1 rfl (by decide) rfl rfl (Nat.le_of_ble_eq_true rfl) (Wo_has_ok hG hs (is_X5_11 hs) ?_)
    show mjV G X 3 19 [(0, .ref (gr G 0)), (1, .int a1), (2, .int a2)] [.int (bI (Wo_has 11 m a2))] m P
    refine vIfNeB F (tgt := 24) dX6_far_19 (by decide) (fun c3 => ?_) (fun c3 => ?_)
    · replace h := okT h c3
      refine vAloadN F dX6_far_24 (k := 0) rfl ?_
      refine vCallV F (d' := 4) (x := 0) (T := TX6) (N := 10) (As := []) (st := []) dX6_far_25 lk_X6_83 my_X6_look mv_X6_look (cqC_0 hs) rfl (by decide) rfl rfl (Nat.le_of_ble_eq_true rfl) (NB_look_ok hG hs (okB h fun r1 h => ?_))
      show mjV G X 3 28 [(0, .ref (gr G 0)), (1, .int a1), (2, .int a2)] [.ref (gr G 1)] r1 P
      refine vGetR F (t := 5) dX6_far_28 fa_X6_108 (cqC_1 hs) rfl ?_
      refine vIloadN F dX6_far_31 (k := 1) rfl ?_
      refine vIloadN F dX6_far_32 (k := 2) rfl ?_
      refine vCallS F (d' := 0) (As := [.int a1, .int a2]) (st := [.ref (gr G 5)]) dX6_far_33 lk_X6_100 my_X6_index sy_X6_index (by decide) rfl rfl (Nat.le_of_ble_eq_true rfl) (NB_index_ok hG hs ?_)
      show mjV G X 3 36 [(0, .ref (gr G 0)), (1, .int a1), (2, .int a2)] [.int (NB_index a1 a2), .ref (gr G 5)] r1 P
      obtain ⟨g2, h⟩ := okga h
      refine vIald F dX6_far_36 (cqC_5 hs) g2 ?_
      have z := okS h
      exact vIret F dX6_far_37 z
    · replace h := okF h c3
      refine vIconst F (v := (-1)) dX6_far_22 k_m1 ?_
      have z := okS h
      exact vIret F dX6_far_23 z
def NB_hasArmFree (m : Mm) (a1 : Int32) : Option (Bool) :=
  ga a1 7 ((NB_holding m).bind fun r2 =>
  gq (isL r2) (if (m.1 r2 6) ≤ (JI_bitCount (m.1 (11 + 5) a1.toNatClampNeg)) then
 (some false)
 else (some true)))
set_option maxRecDepth 20000 in
set_option maxHeartbeats 4000000 in
theorem NB_hasArmFree_ok {G : Gw} (hG : gOk G) (hs : gsh G = shC) {a1 : Int32} {m : Mm} {P : Option Value → Mm → Prop} (h : mjO (NB_hasArmFree m a1) (fun r => P (some (.int (bI r))) m)) : mjR G 1 yX6_hasArmFree cX6_hasArmFree 2 (some .boolean) [.ref (gr G 0), .int a1] m P := by
  refine mjR_of hG (by decide) (Nat.le_of_ble_eq_true rfl) ?_
  intro X F
  have F : mjF G X cX6_hasArmFree RX6 2 1 (some .boolean) := F
  show mjV G X 2 0 [(0, .ref (gr G 0)), (1, .int a1)] [] m P
  unfold NB_hasArmFree at h
  refine vAloadN F dX6_hasArmFree_0 (k := 0) rfl ?_
  refine vGetR F (t := 11) dX6_hasArmFree_1 fa_X6_22 (cqC_0 hs) rfl ?_
  refine vGetR F (t := 11 + 5) dX6_hasArmFree_4 fa_X6_90 (is_X5_11 hs).1 rfl ?_
  refine vIloadN F dX6_hasArmFree_7 (k := 1) rfl ?_
  obtain ⟨g1, h⟩ := okga h
  refine vIald F dX6_hasArmFree_8 (is_X5_11 hs).2.2.2.2.2.1 g1 ?_
  refine vCallS F (d' := 0) (As := [.int (m.1 (11 + 5) a1.toNatClampNeg)]) (st := []) dX6_hasArmFree_9 lk_X6_122 my_J6_bitCount_0f7a4 sy_J6_bitCount_0f7a4 (by decide) rfl rfl (Nat.le_of_ble_eq_true rfl) (JI_bitCount_ok hG ?_)
  show mjV G X 2 12 [(0, .ref (gr G 0)), (1, .int a1)] [.int (JI_bitCount (m.1 (11 + 5) a1.toNatClampNeg))] m P
  refine vAloadN F dX6_hasArmFree_12 (k := 0) rfl ?_
  refine vCallV F (d' := 0) (x := 0) (T := TX6) (N := 10) (As := []) (st := [.int (JI_bitCount (m.1 (11 + 5) a1.toNatClampNeg))]) dX6_hasArmFree_13 lk_X6_153 my_X6_holding mv_X6_holding (cqC_0 hs) rfl (by decide) rfl rfl (Nat.le_of_ble_eq_true rfl) (NB_holding_ok hG hs (okB h fun r2 h => ?_))
  show mjV G X 2 16 [(0, .ref (gr G 0)), (1, .int a1)] [.ref (gr G r2), .int (JI_bitCount (m.1 (11 + 5) a1.toNatClampNeg))] m P
  obtain ⟨g3, h⟩ := okgq h
  refine vGetI F dX6_hasArmFree_16 fa_X6_157 (isL_ok hs g3).1 rfl ?_
  refine vIcmpGe F (tgt := 26) dX6_hasArmFree_19 (by decide) (fun c4 => ?_) (fun c4 => ?_)
  · replace h := okT h c4
    refine vIconst F (v := 0) dX6_hasArmFree_26 k_0 ?_
    have z := okS h
    exact vZret (x := bI false) F dX6_hasArmFree_27 (nzI _) z
  · replace h := okF h c4
    refine vIconst F (v := 1) dX6_hasArmFree_22 k_1 ?_
    refine vGoto F (tgt := 27) dX6_hasArmFree_23 (by decide) ?_
    have z := okS h
    exact vZret (x := bI true) F dX6_hasArmFree_27 (nzI _) z
def NB_name (m : Mm) (a1 : Int32) (a2 : Int32) : Option (Int32 × Mm) :=
  if (Wo_has 11 m a1) = true then
 (if (Wo_has 11 m a2) = true then
 (if a1 = a2 then
 (some ((-2), m))
 else ((Wo_names 11 m a1 a2).bind fun r1 =>
  if r1 = true then
 (some ((-3), m))
 else ((NB_hasArmFree m a1).bind fun r2 =>
  if r2 = true then
 ((NB_hasArmFree m a2).bind fun r3 =>
  if r3 = true then
 ((Wo_turnName 11 m a1 a2).bind fun r4 =>
  ga a1 7 (some ((JI_bitCount (r4.1 (11 + 5) a1.toNatClampNeg)), r4)))
 else (some ((-4), m)))
 else (some ((-4), m)))))
 else (some ((-1), m)))
 else (some ((-1), m))
set_option maxRecDepth 20000 in
set_option maxHeartbeats 4000000 in
theorem NB_name_ok {G : Gw} (hG : gOk G) (hs : gsh G = shC) {a1 : Int32} {a2 : Int32} {m : Mm} {P : Option Value → Mm → Prop} (h : mjO (NB_name m a1 a2) (fun r => P (some (.int r.1)) r.2)) : mjR G 2 yX6_name cX6_name 3 (some .int) [.ref (gr G 0), .int a1, .int a2] m P := by
  refine mjR_of hG (by decide) (Nat.le_of_ble_eq_true rfl) ?_
  intro X F
  have F : mjF G X cX6_name RX6 3 2 (some .int) := F
  show mjV G X 3 0 [(0, .ref (gr G 0)), (1, .int a1), (2, .int a2)] [] m P
  unfold NB_name at h
  refine vAloadN F dX6_name_0 (k := 0) rfl ?_
  refine vGetR F (t := 11) dX6_name_1 fa_X6_22 (cqC_0 hs) rfl ?_
  refine vIloadN F dX6_name_4 (k := 1) rfl ?_
  refine vCallV F (d' := 0) (x := 11) (T := TX5) (N := 13) (As := [.int a1]) (st := []) dX6_name_5 lk_X6_69 my_X5_has mv_X5_has (is_X5_11 hs).1 rfl (by decide) rfl rfl (Nat.le_of_ble_eq_true rfl) (Wo_has_ok hG hs (is_X5_11 hs) ?_)
  show mjV G X 3 8 [(0, .ref (gr G 0)), (1, .int a1), (2, .int a2)] [.int (bI (Wo_has 11 m a1))] m P
  refine vIfEqB F (tgt := 22) dX6_name_8 (by decide) (fun c11 => ?_) (fun c11 => ?_)
  · replace h := okF h c11
    refine vIconst F (v := (-1)) dX6_name_22 k_m1 ?_
    have z := okS h
    exact vIret F dX6_name_23 z
  · replace h := okT h c11
    refine vAloadN F dX6_name_11 (k := 0) rfl ?_
    refine vGetR F (t := 11) dX6_name_12 fa_X6_22 (cqC_0 hs) rfl ?_
    refine vIloadN F dX6_name_15 (k := 2) rfl ?_
    refine vCallV F (d' := 0) (x := 11) (T := TX5) (N := 13) (As := [.int a2]) (st := []) dX6_name_16 lk_X6_69 my_X5_has mv_X5_has (is_X5_11 hs).1 rfl (by decide) rfl rfl (Nat.le_of_ble_eq_true rfl) (Wo_has_ok hG hs (is_X5_11 hs) ?_)
    show mjV G X 3 19 [(0, .ref (gr G 0)), (1, .int a1), (2, .int a2)] [.int (bI (Wo_has 11 m a2))] m P
    refine vIfNeB F (tgt := 24) dX6_name_19 (by decide) (fun c10 => ?_) (fun c10 => ?_)
    · replace h := okT h c10
      refine vIloadN F dX6_name_24 (k := 1) rfl ?_
      refine vIloadN F dX6_name_25 (k := 2) rfl ?_
      refine vIcmpNe F (tgt := 32) dX6_name_26 (by decide) (fun c9 => ?_) (fun c9 => ?_)
      · replace h := okF h c9
        refine vAloadN F dX6_name_32 (k := 0) rfl ?_
        refine vGetR F (t := 11) dX6_name_33 fa_X6_22 (cqC_0 hs) rfl ?_
        refine vIloadN F dX6_name_36 (k := 1) rfl ?_
        refine vIloadN F dX6_name_37 (k := 2) rfl ?_
        refine vCallV F (d' := 0) (x := 11) (T := TX5) (N := 13) (As := [.int a1, .int a2]) (st := []) dX6_name_38 lk_X6_111 my_X5_names mv_X5_names (is_X5_11 hs).1 rfl (by decide) rfl rfl (Nat.le_of_ble_eq_true rfl) (Wo_names_ok hG hs (is_X5_11 hs) (okB h fun r1 h => ?_))
        show mjV G X 3 41 [(0, .ref (gr G 0)), (1, .int a1), (2, .int a2)] [.int (bI r1)] m P
        refine vIfEqB F (tgt := 47) dX6_name_41 (by decide) (fun c8 => ?_) (fun c8 => ?_)
        · replace h := okF h c8
          refine vAloadN F dX6_name_47 (k := 0) rfl ?_
          refine vIloadN F dX6_name_48 (k := 1) rfl ?_
          refine vCallV F (d' := 1) (x := 0) (T := TX6) (N := 10) (As := [.int a1]) (st := []) dX6_name_49 lk_X6_115 my_X6_hasArmFree mv_X6_hasArmFree (cqC_0 hs) rfl (by decide) rfl rfl (Nat.le_of_ble_eq_true rfl) (NB_hasArmFree_ok hG hs (okB h fun r2 h => ?_))
          show mjV G X 3 52 [(0, .ref (gr G 0)), (1, .int a1), (2, .int a2)] [.int (bI r2)] m P
          refine vIfEqB F (tgt := 63) dX6_name_52 (by decide) (fun c7 => ?_) (fun c7 => ?_)
          · replace h := okF h c7
            refine vBipush F (v := (-4)) dX6_name_63 kb_m4 ?_
            have z := okS h
            exact vIret F dX6_name_65 z
          · replace h := okT h c7
            refine vAloadN F dX6_name_55 (k := 0) rfl ?_
            refine vIloadN F dX6_name_56 (k := 2) rfl ?_
            refine vCallV F (d' := 1) (x := 0) (T := TX6) (N := 10) (As := [.int a2]) (st := []) dX6_name_57 lk_X6_115 my_X6_hasArmFree mv_X6_hasArmFree (cqC_0 hs) rfl (by decide) rfl rfl (Nat.le_of_ble_eq_true rfl) (NB_hasArmFree_ok hG hs (okB h fun r3 h => ?_))
            show mjV G X 3 60 [(0, .ref (gr G 0)), (1, .int a1), (2, .int a2)] [.int (bI r3)] m P
            refine vIfNeB F (tgt := 66) dX6_name_60 (by decide) (fun c6 => ?_) (fun c6 => ?_)
            · replace h := okT h c6
              refine vAloadN F dX6_name_66 (k := 0) rfl ?_
              refine vGetR F (t := 11) dX6_name_67 fa_X6_22 (cqC_0 hs) rfl ?_
              refine vIloadN F dX6_name_70 (k := 1) rfl ?_
              refine vIloadN F dX6_name_71 (k := 2) rfl ?_
              refine vCallV F (d' := 0) (x := 11) (T := TX5) (N := 13) (As := [.int a1, .int a2]) (st := []) dX6_name_72 lk_X6_118 my_X5_turnName mv_X5_turnName (is_X5_11 hs).1 rfl (by decide) rfl rfl (Nat.le_of_ble_eq_true rfl) (Wo_turnName_ok hG hs (is_X5_11 hs) (okB h fun r4 h => ?_))
              show mjV G X 3 75 [(0, .ref (gr G 0)), (1, .int a1), (2, .int a2)] [] r4 P
              refine vAloadN F dX6_name_75 (k := 0) rfl ?_
              refine vGetR F (t := 11) dX6_name_76 fa_X6_22 (cqC_0 hs) rfl ?_
              refine vGetR F (t := 11 + 5) dX6_name_79 fa_X6_90 (is_X5_11 hs).1 rfl ?_
              refine vIloadN F dX6_name_82 (k := 1) rfl ?_
              obtain ⟨g5, h⟩ := okga h
              refine vIald F dX6_name_83 (is_X5_11 hs).2.2.2.2.2.1 g5 ?_
              refine vCallS F (d' := 0) (As := [.int (r4.1 (11 + 5) a1.toNatClampNeg)]) (st := []) dX6_name_84 lk_X6_122 my_J6_bitCount_0f7a4 sy_J6_bitCount_0f7a4 (by decide) rfl rfl (Nat.le_of_ble_eq_true rfl) (JI_bitCount_ok hG ?_)
              show mjV G X 3 87 [(0, .ref (gr G 0)), (1, .int a1), (2, .int a2)] [.int (JI_bitCount (r4.1 (11 + 5) a1.toNatClampNeg))] r4 P
              have z := okS h
              exact vIret F dX6_name_87 z
            · replace h := okF h c6
              refine vBipush F (v := (-4)) dX6_name_63 kb_m4 ?_
              have z := okS h
              exact vIret F dX6_name_65 z
        · replace h := okT h c8
          refine vBipush F (v := (-3)) dX6_name_44 kb_m3 ?_
          have z := okS h
          exact vIret F dX6_name_46 z
      · replace h := okT h c9
        refine vBipush F (v := (-2)) dX6_name_29 kb_m2 ?_
        have z := okS h
        exact vIret F dX6_name_31 z
    · replace h := okF h c10
      refine vIconst F (v := (-1)) dX6_name_22 k_m1 ?_
      have z := okS h
      exact vIret F dX6_name_23 z
def NB_strike (m : Mm) (a1 : Int32) (a2 : Int32) : Option (Int32 × Mm) :=
  if (Wo_has 11 m a1) = true then
 (if (Wo_has 11 m a2) = true then
 ((Wo_names 11 m a1 a2).bind fun r1 =>
  if r1 = true then
 ((Wo_turnName 11 m a1 a2).bind fun r2 =>
  ga a1 7 (some ((JI_bitCount (r2.1 (11 + 5) a1.toNatClampNeg)), r2)))
 else (some ((-3), m)))
 else (some ((-1), m)))
 else (some ((-1), m))
set_option maxRecDepth 20000 in
set_option maxHeartbeats 4000000 in
theorem NB_strike_ok {G : Gw} (hG : gOk G) (hs : gsh G = shC) {a1 : Int32} {a2 : Int32} {m : Mm} {P : Option Value → Mm → Prop} (h : mjO (NB_strike m a1 a2) (fun r => P (some (.int r.1)) r.2)) : mjR G 1 yX6_strike cX6_strike 3 (some .int) [.ref (gr G 0), .int a1, .int a2] m P := by
  refine mjR_of hG (by decide) (Nat.le_of_ble_eq_true rfl) ?_
  intro X F
  have F : mjF G X cX6_strike RX6 3 1 (some .int) := F
  show mjV G X 3 0 [(0, .ref (gr G 0)), (1, .int a1), (2, .int a2)] [] m P
  unfold NB_strike at h
  refine vAloadN F dX6_strike_0 (k := 0) rfl ?_
  refine vGetR F (t := 11) dX6_strike_1 fa_X6_22 (cqC_0 hs) rfl ?_
  refine vIloadN F dX6_strike_4 (k := 1) rfl ?_
  refine vCallV F (d' := 0) (x := 11) (T := TX5) (N := 13) (As := [.int a1]) (st := []) dX6_strike_5 lk_X6_69 my_X5_has mv_X5_has (is_X5_11 hs).1 rfl (by decide) rfl rfl (Nat.le_of_ble_eq_true rfl) (Wo_has_ok hG hs (is_X5_11 hs) ?_)
  show mjV G X 3 8 [(0, .ref (gr G 0)), (1, .int a1), (2, .int a2)] [.int (bI (Wo_has 11 m a1))] m P
  refine vIfEqB F (tgt := 22) dX6_strike_8 (by decide) (fun c6 => ?_) (fun c6 => ?_)
  · replace h := okF h c6
    refine vIconst F (v := (-1)) dX6_strike_22 k_m1 ?_
    have z := okS h
    exact vIret F dX6_strike_23 z
  · replace h := okT h c6
    refine vAloadN F dX6_strike_11 (k := 0) rfl ?_
    refine vGetR F (t := 11) dX6_strike_12 fa_X6_22 (cqC_0 hs) rfl ?_
    refine vIloadN F dX6_strike_15 (k := 2) rfl ?_
    refine vCallV F (d' := 0) (x := 11) (T := TX5) (N := 13) (As := [.int a2]) (st := []) dX6_strike_16 lk_X6_69 my_X5_has mv_X5_has (is_X5_11 hs).1 rfl (by decide) rfl rfl (Nat.le_of_ble_eq_true rfl) (Wo_has_ok hG hs (is_X5_11 hs) ?_)
    show mjV G X 3 19 [(0, .ref (gr G 0)), (1, .int a1), (2, .int a2)] [.int (bI (Wo_has 11 m a2))] m P
    refine vIfNeB F (tgt := 24) dX6_strike_19 (by decide) (fun c5 => ?_) (fun c5 => ?_)
    · replace h := okT h c5
      refine vAloadN F dX6_strike_24 (k := 0) rfl ?_
      refine vGetR F (t := 11) dX6_strike_25 fa_X6_22 (cqC_0 hs) rfl ?_
      refine vIloadN F dX6_strike_28 (k := 1) rfl ?_
      refine vIloadN F dX6_strike_29 (k := 2) rfl ?_
      refine vCallV F (d' := 0) (x := 11) (T := TX5) (N := 13) (As := [.int a1, .int a2]) (st := []) dX6_strike_30 lk_X6_111 my_X5_names mv_X5_names (is_X5_11 hs).1 rfl (by decide) rfl rfl (Nat.le_of_ble_eq_true rfl) (Wo_names_ok hG hs (is_X5_11 hs) (okB h fun r1 h => ?_))
      show mjV G X 3 33 [(0, .ref (gr G 0)), (1, .int a1), (2, .int a2)] [.int (bI r1)] m P
      refine vIfNeB F (tgt := 39) dX6_strike_33 (by decide) (fun c4 => ?_) (fun c4 => ?_)
      · replace h := okT h c4
        refine vAloadN F dX6_strike_39 (k := 0) rfl ?_
        refine vGetR F (t := 11) dX6_strike_40 fa_X6_22 (cqC_0 hs) rfl ?_
        refine vIloadN F dX6_strike_43 (k := 1) rfl ?_
        refine vIloadN F dX6_strike_44 (k := 2) rfl ?_
        refine vCallV F (d' := 0) (x := 11) (T := TX5) (N := 13) (As := [.int a1, .int a2]) (st := []) dX6_strike_45 lk_X6_118 my_X5_turnName mv_X5_turnName (is_X5_11 hs).1 rfl (by decide) rfl rfl (Nat.le_of_ble_eq_true rfl) (Wo_turnName_ok hG hs (is_X5_11 hs) (okB h fun r2 h => ?_))
        show mjV G X 3 48 [(0, .ref (gr G 0)), (1, .int a1), (2, .int a2)] [] r2 P
        refine vAloadN F dX6_strike_48 (k := 0) rfl ?_
        refine vGetR F (t := 11) dX6_strike_49 fa_X6_22 (cqC_0 hs) rfl ?_
        refine vGetR F (t := 11 + 5) dX6_strike_52 fa_X6_90 (is_X5_11 hs).1 rfl ?_
        refine vIloadN F dX6_strike_55 (k := 1) rfl ?_
        obtain ⟨g3, h⟩ := okga h
        refine vIald F dX6_strike_56 (is_X5_11 hs).2.2.2.2.2.1 g3 ?_
        refine vCallS F (d' := 0) (As := [.int (r2.1 (11 + 5) a1.toNatClampNeg)]) (st := []) dX6_strike_57 lk_X6_122 my_J6_bitCount_0f7a4 sy_J6_bitCount_0f7a4 (by decide) rfl rfl (Nat.le_of_ble_eq_true rfl) (JI_bitCount_ok hG ?_)
        show mjV G X 3 60 [(0, .ref (gr G 0)), (1, .int a1), (2, .int a2)] [.int (JI_bitCount (r2.1 (11 + 5) a1.toNatClampNeg))] r2 P
        have z := okS h
        exact vIret F dX6_strike_60 z
      · replace h := okF h c4
        refine vBipush F (v := (-3)) dX6_strike_36 kb_m3 ?_
        have z := okS h
        exact vIret F dX6_strike_38 z
    · replace h := okF h c5
      refine vIconst F (v := (-1)) dX6_strike_22 k_m1 ?_
      have z := okS h
      exact vIret F dX6_strike_23 z
def NB_traveller (m : Mm) (a1 : Int32) (a2 : Int32) (a3 : Int32) : Option (Int32 × Mm) :=
  if (Wo_has 11 m a1) = true then
 (if (Wo_has 11 m a2) = true then
 (if a1 = a2 then
 (some ((-2), m))
 else (if a3 < 1 then
 (some ((-2), m))
 else (if a3 ≤ 99 then
 (if (m.1 11 6) < 8 then
 ((Wo_addTraveller 11 m a1 a2 a3).bind fun r1 =>
  some (r1.1, r1.2))
 else (some ((-4), m)))
 else (some ((-2), m)))))
 else (some ((-1), m)))
 else (some ((-1), m))
set_option maxRecDepth 20000 in
set_option maxHeartbeats 4000000 in
theorem NB_traveller_ok {G : Gw} (hG : gOk G) (hs : gsh G = shC) {a1 : Int32} {a2 : Int32} {a3 : Int32} {m : Mm} {P : Option Value → Mm → Prop} (h : mjO (NB_traveller m a1 a2 a3) (fun r => P (some (.int r.1)) r.2)) : mjR G 1 yX6_traveller cX6_traveller 4 (some .int) [.ref (gr G 0), .int a1, .int a2, .int a3] m P := by
  refine mjR_of hG (by decide) (Nat.le_of_ble_eq_true rfl) ?_
  intro X F
  have F : mjF G X cX6_traveller RX6 4 1 (some .int) := F
  show mjV G X 4 0 [(0, .ref (gr G 0)), (1, .int a1), (2, .int a2), (3, .int a3)] [] m P
  unfold NB_traveller at h
  refine vAloadN F dX6_traveller_0 (k := 0) rfl ?_
  refine vGetR F (t := 11) dX6_traveller_1 fa_X6_22 (cqC_0 hs) rfl ?_
  refine vIloadN F dX6_traveller_4 (k := 1) rfl ?_
  refine vCallV F (d' := 0) (x := 11) (T := TX5) (N := 13) (As := [.int a1]) (st := []) dX6_traveller_5 lk_X6_69 my_X5_has mv_X5_has (is_X5_11 hs).1 rfl (by decide) rfl rfl (Nat.le_of_ble_eq_true rfl) (Wo_has_ok hG hs (is_X5_11 hs) ?_)
  show mjV G X 4 8 [(0, .ref (gr G 0)), (1, .int a1), (2, .int a2), (3, .int a3)] [.int (bI (Wo_has 11 m a1))] m P
  refine vIfEqB F (tgt := 22) dX6_traveller_8 (by decide) (fun c7 => ?_) (fun c7 => ?_)
  · replace h := okF h c7
    refine vIconst F (v := (-1)) dX6_traveller_22 k_m1 ?_
    have z := okS h
    exact vIret F dX6_traveller_23 z
  · replace h := okT h c7
    refine vAloadN F dX6_traveller_11 (k := 0) rfl ?_
    refine vGetR F (t := 11) dX6_traveller_12 fa_X6_22 (cqC_0 hs) rfl ?_
    refine vIloadN F dX6_traveller_15 (k := 2) rfl ?_
    refine vCallV F (d' := 0) (x := 11) (T := TX5) (N := 13) (As := [.int a2]) (st := []) dX6_traveller_16 lk_X6_69 my_X5_has mv_X5_has (is_X5_11 hs).1 rfl (by decide) rfl rfl (Nat.le_of_ble_eq_true rfl) (Wo_has_ok hG hs (is_X5_11 hs) ?_)
    show mjV G X 4 19 [(0, .ref (gr G 0)), (1, .int a1), (2, .int a2), (3, .int a3)] [.int (bI (Wo_has 11 m a2))] m P
    refine vIfNeB F (tgt := 24) dX6_traveller_19 (by decide) (fun c6 => ?_) (fun c6 => ?_)
    · replace h := okT h c6
      refine vIloadN F dX6_traveller_24 (k := 1) rfl ?_
      refine vIloadN F dX6_traveller_25 (k := 2) rfl ?_
      refine vIcmpEq F (tgt := 40) dX6_traveller_26 (by decide) (fun c5 => ?_) (fun c5 => ?_)
      · replace h := okT h c5
        refine vBipush F (v := (-2)) dX6_traveller_40 kb_m2 ?_
        have z := okS h
        exact vIret F dX6_traveller_42 z
      · replace h := okF h c5
        refine vIloadN F dX6_traveller_29 (k := 3) rfl ?_
        refine vIconst F (v := 1) dX6_traveller_30 k_1 ?_
        refine vIcmpLt F (tgt := 40) dX6_traveller_31 (by decide) (fun c4 => ?_) (fun c4 => ?_)
        · replace h := okT h c4
          refine vBipush F (v := (-2)) dX6_traveller_40 kb_m2 ?_
          have z := okS h
          exact vIret F dX6_traveller_42 z
        · replace h := okF h c4
          refine vIloadN F dX6_traveller_34 (k := 3) rfl ?_
          refine vBipush F (v := 99) dX6_traveller_35 kb_99 ?_
          refine vIcmpLe F (tgt := 43) dX6_traveller_37 (by decide) (fun c3 => ?_) (fun c3 => ?_)
          · replace h := okT h c3
            refine vAloadN F dX6_traveller_43 (k := 0) rfl ?_
            refine vGetR F (t := 11) dX6_traveller_44 fa_X6_22 (cqC_0 hs) rfl ?_
            refine vGetI F dX6_traveller_47 fa_X6_127 (is_X5_11 hs).1 rfl ?_
            refine vBipush F (v := 8) dX6_traveller_50 kb_8 ?_
            refine vIcmpLt F (tgt := 58) dX6_traveller_52 (by decide) (fun c2 => ?_) (fun c2 => ?_)
            · replace h := okT h c2
              refine vAloadN F dX6_traveller_58 (k := 0) rfl ?_
              refine vGetR F (t := 11) dX6_traveller_59 fa_X6_22 (cqC_0 hs) rfl ?_
              refine vIloadN F dX6_traveller_62 (k := 1) rfl ?_
              refine vIloadN F dX6_traveller_63 (k := 2) rfl ?_
              refine vIloadN F dX6_traveller_64 (k := 3) rfl ?_
              refine vCallV F (d' := 0) (x := 11) (T := TX5) (N := 13) (As := [.int a1, .int a2, .int a3]) (st := []) dX6_traveller_65 lk_X6_130 my_X5_addTraveller mv_X5_addTraveller (is_X5_11 hs).1 rfl (by decide) rfl rfl (Nat.le_of_ble_eq_true rfl) (Wo_addTraveller_ok hG hs (is_X5_11 hs) (okB h fun r1 h => ?_))
              show mjV G X 4 68 [(0, .ref (gr G 0)), (1, .int a1), (2, .int a2), (3, .int a3)] [.int (r1.1)] (r1.2) P
              have z := okS h
              exact vIret F dX6_traveller_68 z
            · replace h := okF h c2
              refine vBipush F (v := (-4)) dX6_traveller_55 kb_m4 ?_
              have z := okS h
              exact vIret F dX6_traveller_57 z
          · replace h := okF h c3
            refine vBipush F (v := (-2)) dX6_traveller_40 kb_m2 ?_
            have z := okS h
            exact vIret F dX6_traveller_42 z
    · replace h := okF h c6
      refine vIconst F (v := (-1)) dX6_traveller_22 k_m1 ?_
      have z := okS h
      exact vIret F dX6_traveller_23 z
def NB_feed (m : Mm) (a1 : Int32) : Option (Int32 × Mm) :=
  if a1 < 0 then
 (some ((-2), m))
 else (if a1 ≤ 127 then
 (if (m.1 67 1) < 100 then
 ((Re_addSign m ((a1.toUInt32 % 65536).toInt32)).bind fun r1 =>
  some (r1.1, r1.2))
 else (some ((-4), m)))
 else (some ((-2), m)))
set_option maxRecDepth 20000 in
set_option maxHeartbeats 4000000 in
theorem NB_feed_ok {G : Gw} (hG : gOk G) (hs : gsh G = shC) {a1 : Int32} {m : Mm} {P : Option Value → Mm → Prop} (h : mjO (NB_feed m a1) (fun r => P (some (.int r.1)) r.2)) : mjR G 1 yX6_feed cX6_feed 2 (some .int) [.ref (gr G 0), .int a1] m P := by
  refine mjR_of hG (by decide) (Nat.le_of_ble_eq_true rfl) ?_
  intro X F
  have F : mjF G X cX6_feed RX6 2 1 (some .int) := F
  show mjV G X 2 0 [(0, .ref (gr G 0)), (1, .int a1)] [] m P
  unfold NB_feed at h
  refine vIloadN F dX6_feed_0 (k := 1) rfl ?_
  refine vIfLt F (tgt := 10) dX6_feed_1 (by decide) (fun c4 => ?_) (fun c4 => ?_)
  · replace h := okT h c4
    refine vBipush F (v := (-2)) dX6_feed_10 kb_m2 ?_
    have z := okS h
    exact vIret F dX6_feed_12 z
  · replace h := okF h c4
    refine vIloadN F dX6_feed_4 (k := 1) rfl ?_
    refine vBipush F (v := 127) dX6_feed_5 kb_127 ?_
    refine vIcmpLe F (tgt := 13) dX6_feed_7 (by decide) (fun c3 => ?_) (fun c3 => ?_)
    · replace h := okT h c3
      refine vAloadN F dX6_feed_13 (k := 0) rfl ?_
      refine vGetR F (t := 67) dX6_feed_14 fa_X6_43 (cqC_0 hs) rfl ?_
      refine vGetI F dX6_feed_17 fa_X6_133 (cqC_67 hs) rfl ?_
      refine vBipush F (v := 100) dX6_feed_20 kb_100 ?_
      refine vIcmpLt F (tgt := 28) dX6_feed_22 (by decide) (fun c2 => ?_) (fun c2 => ?_)
      · replace h := okT h c2
        refine vAloadN F dX6_feed_28 (k := 0) rfl ?_
        refine vGetR F (t := 67) dX6_feed_29 fa_X6_43 (cqC_0 hs) rfl ?_
        refine vIloadN F dX6_feed_32 (k := 1) rfl ?_
        refine vI2c F dX6_feed_33 ?_
        refine vCallV F (d' := 0) (x := 67) (T := TX3) (N := 4) (As := [.int ((a1.toUInt32 % 65536).toInt32)]) (st := []) dX6_feed_34 lk_X6_136 my_X3_addSign mv_X3_addSign (cqC_67 hs) rfl (by decide) rfl rfl (Nat.le_of_ble_eq_true rfl) (Re_addSign_ok hG hs (okB h fun r1 h => ?_))
        show mjV G X 2 37 [(0, .ref (gr G 0)), (1, .int a1)] [.int (r1.1)] (r1.2) P
        have z := okS h
        exact vIret F dX6_feed_37 z
      · replace h := okF h c2
        refine vBipush F (v := (-4)) dX6_feed_25 kb_m4 ?_
        have z := okS h
        exact vIret F dX6_feed_27 z
    · replace h := okF h c3
      refine vBipush F (v := (-2)) dX6_feed_10 kb_m2 ?_
      have z := okS h
      exact vIret F dX6_feed_12 z
noncomputable def NB_land (m : Mm) : Option (Int32 × Mm) :=
  if (m.1 0 6) < 6 then
 (ga (m.1 0 6) 6 ((Re_faultOf m (37 + 5 * (m.1 0 6).toNatClampNeg)).bind fun r2 =>
  if (r2.1) < 0 then
 (some ((si (si (Re_empty (r2.2)) 11 12 ((Re_empty (r2.2)).1 0 6)) 0 6 (((si (Re_empty (r2.2)) 11 12 ((Re_empty (r2.2)).1 0 6)).1 0 6) + 1)).1 11 12, si (si (Re_empty (r2.2)) 11 12 ((Re_empty (r2.2)).1 0 6)) 0 6 (((si (Re_empty (r2.2)) 11 12 ((Re_empty (r2.2)).1 0 6)).1 0 6) + 1)))
 else (some ((-10) - (r2.1), (Re_empty (r2.2))))))
 else (some ((-4), m))
set_option maxRecDepth 20000 in
set_option maxHeartbeats 4000000 in
theorem NB_land_ok {G : Gw} (hG : gOk G) (hs : gsh G = shC) {m : Mm} {P : Option Value → Mm → Prop} (h : mjO (NB_land m) (fun r => P (some (.int r.1)) r.2)) : mjR G 22 yX6_land cX6_land 2 (some .int) [.ref (gr G 0)] m P := by
  refine mjR_of hG (by decide) (Nat.le_of_ble_eq_true rfl) ?_
  intro X F
  have F : mjF G X cX6_land RX6 2 22 (some .int) := F
  show mjV G X 2 0 [(0, .ref (gr G 0))] [] m P
  unfold NB_land at h
  refine vAloadN F dX6_land_0 (k := 0) rfl ?_
  refine vGetI F dX6_land_1 fa_X6_140 (cqC_0 hs) rfl ?_
  refine vBipush F (v := 6) dX6_land_4 kb_6 ?_
  refine vIcmpLt F (tgt := 12) dX6_land_6 (by decide) (fun c4 => ?_) (fun c4 => ?_)
  · replace h := okT h c4
    refine vAloadN F dX6_land_12 (k := 0) rfl ?_
    refine vGetR F (t := 67) dX6_land_13 fa_X6_43 (cqC_0 hs) rfl ?_
    refine vAloadN F dX6_land_16 (k := 0) rfl ?_
    refine vGetR F (t := 36) dX6_land_17 fa_X6_36 (cqC_0 hs) rfl ?_
    refine vAloadN F dX6_land_20 (k := 0) rfl ?_
    refine vGetI F dX6_land_21 fa_X6_140 (cqC_0 hs) rfl ?_
    obtain ⟨g1, h⟩ := okga h
    refine vAald4 F dX6_land_24 (cqC_36 hs) g1 ?_
    show mjV G X 2 25 [(0, .ref (gr G 0))] [.ref (gr G (37 + 5 * (m.1 0 6).toNatClampNeg)), .ref (gr G 67)] m P
    refine vCallV F (d' := 21) (x := 67) (T := TX3) (N := 4) (As := [.ref (gr G (37 + 5 * (m.1 0 6).toNatClampNeg))]) (st := []) dX6_land_25 lk_X6_143 my_X3_faultOf mv_X3_faultOf (cqC_67 hs) rfl (by decide) rfl rfl (Nat.le_of_ble_eq_true rfl) (Re_faultOf_ok hG hs (is_X2_at hs g1) (okB h fun r2 h => ?_))
    show mjV G X 2 28 [(0, .ref (gr G 0))] [.int (r2.1)] (r2.2) P
    refine vIstoreN F (L' := [(1, .int (r2.1)), (0, .ref (gr G 0))]) dX6_land_28 rfl (by decide) rfl ?_
    refine vAloadN F dX6_land_29 (k := 1) rfl ?_
    refine vGetR F (t := 67) dX6_land_30 fa_X6_43 (cqC_0 hs) rfl ?_
    refine vCallV F (d' := 0) (x := 67) (T := TX3) (N := 4) (As := []) (st := []) dX6_land_33 lk_X6_147 my_X3_empty mv_X3_empty (cqC_67 hs) rfl (by decide) rfl rfl (Nat.le_of_ble_eq_true rfl) (Re_empty_ok hG hs ?_)
    show mjV G X 2 36 [(1, .int (r2.1)), (0, .ref (gr G 0))] [] (Re_empty (r2.2)) P
    refine vIloadN F dX6_land_36 (k := 0) rfl ?_
    refine vIfLt F (tgt := 45) dX6_land_37 (by decide) (fun c3 => ?_) (fun c3 => ?_)
    · replace h := okT h c3
      refine vAloadN F dX6_land_45 (k := 1) rfl ?_
      refine vGetR F (t := 11) dX6_land_46 fa_X6_22 (cqC_0 hs) rfl ?_
      refine vAloadN F dX6_land_49 (k := 1) rfl ?_
      refine vGetI F dX6_land_50 fa_X6_140 (cqC_0 hs) rfl ?_
      refine vPutI F dX6_land_53 fw_X6_150 (is_X5_11 hs).1 rfl ⟨rfl, rfl⟩ ?_
      refine vAloadN F dX6_land_56 (k := 1) rfl ?_
      refine vDup F dX6_land_57 rfl ?_
      refine vGetI F dX6_land_58 fa_X6_140 (cqC_0 hs) rfl ?_
      refine vIconst F (v := 1) dX6_land_61 k_1 ?_
      refine vIadd F dX6_land_62 ?_
      refine vPutI F dX6_land_63 fw_X6_140 (cqC_0 hs) rfl ⟨rfl, rfl⟩ ?_
      refine vAloadN F dX6_land_66 (k := 1) rfl ?_
      refine vGetR F (t := 11) dX6_land_67 fa_X6_22 (cqC_0 hs) rfl ?_
      refine vGetI F dX6_land_70 fa_X6_150 (is_X5_11 hs).1 rfl ?_
      have z := okS h
      exact vIret F dX6_land_73 z
    · replace h := okF h c3
      refine vBipush F (v := (-10)) dX6_land_40 kb_m10 ?_
      refine vIloadN F dX6_land_42 (k := 0) rfl ?_
      refine vIsub F dX6_land_43 ?_
      have z := okS h
      exact vIret F dX6_land_44 z
  · replace h := okF h c4
    refine vBipush F (v := (-4)) dX6_land_9 kb_m4 ?_
    have z := okS h
    exact vIret F dX6_land_11 z
noncomputable def NB_told (m : Mm) (a1 : Int32) : Option (Int32) :=
  if a1 = 0 then
 ((NB_holding m).bind fun r2 =>
  gq (isL r2) (some (m.1 r2 6)))
 else (if a1 = 1 then
 ((Wo_countNames 11 m).bind fun r5 =>
  some r5)
 else (some (-1)))
set_option maxRecDepth 20000 in
set_option maxHeartbeats 4000000 in
theorem NB_told_ok {G : Gw} (hG : gOk G) (hs : gsh G = shC) {a1 : Int32} {m : Mm} {P : Option Value → Mm → Prop} (h : mjO (NB_told m a1) (fun r => P (some (.int r)) m)) : mjR G 2 yX6_told cX6_told 2 (some .int) [.ref (gr G 0), .int a1] m P := by
  refine mjR_of hG (by decide) (Nat.le_of_ble_eq_true rfl) ?_
  intro X F
  have F : mjF G X cX6_told RX6 2 2 (some .int) := F
  show mjV G X 2 0 [(0, .ref (gr G 0)), (1, .int a1)] [] m P
  unfold NB_told at h
  refine vIloadN F dX6_told_0 (k := 1) rfl ?_
  by_cases c1 : a1 = 0
  · replace h := okT h c1
    refine vLook F (tgt := 28) dX6_told_1 (by decide) (lk_in 0 c1 (by decide)) (by decide) ?_
    refine vAloadN F dX6_told_28 (k := 0) rfl ?_
    refine vCallV F (d' := 0) (x := 0) (T := TX6) (N := 10) (As := []) (st := []) dX6_told_29 lk_X6_153 my_X6_holding mv_X6_holding (cqC_0 hs) rfl (by decide) rfl rfl (Nat.le_of_ble_eq_true rfl) (NB_holding_ok hG hs (okB h fun r2 h => ?_))
    show mjV G X 2 32 [(0, .ref (gr G 0)), (1, .int a1)] [.ref (gr G r2)] m P
    obtain ⟨g3, h⟩ := okgq h
    refine vGetI F dX6_told_32 fa_X6_157 (isL_ok hs g3).1 rfl ?_
    have z := okS h
    exact vIret F dX6_told_35 z
  replace h := okF h c1
  by_cases c4 : a1 = 1
  · replace h := okT h c4
    refine vLook F (tgt := 36) dX6_told_1 (by decide) ((lv_osw c1 (by decide)).trans (lk_in 1 c4 (by decide))) (by decide) ?_
    refine vAloadN F dX6_told_36 (k := 0) rfl ?_
    refine vGetR F (t := 11) dX6_told_37 fa_X6_22 (cqC_0 hs) rfl ?_
    refine vCallV F (d' := 1) (x := 11) (T := TX5) (N := 13) (As := []) (st := []) dX6_told_40 lk_X6_160 my_X5_countNames mv_X5_countNames (is_X5_11 hs).1 rfl (by decide) rfl rfl (Nat.le_of_ble_eq_true rfl) (Wo_countNames_ok hG hs (is_X5_11 hs) (okB h fun r5 h => ?_))
    show mjV G X 2 43 [(0, .ref (gr G 0)), (1, .int a1)] [.int r5] m P
    have z := okS h
    exact vIret F dX6_told_43 z
  replace h := okF h c4
  refine vLook F (tgt := 44) dX6_told_1 (by decide) ((lv_osw c1 (by decide)).trans ((lv_osw c4 (by decide)).trans lk_nil)) (by decide) ?_
  refine vIconst F (v := (-1)) dX6_told_44 k_m1 ?_
  have z := okS h
  exact vIret F dX6_told_45 z
noncomputable def NB_way (m : Mm) (a1 : Int32) (a2 : Int32) : Option (Int32 × Mm) :=
  if (Wo_has 11 m a1) = true then
 (if (Wo_has 11 m a2) = true then
 ((NB_look m).bind fun r1 =>
  (Jo_leads r1 a1 a2).bind fun r2 =>
  if r2 = true then
 (ga (NB_index a1 a2) 49 (some (r1.1 6 (NB_index a1 a2).toNatClampNeg, r1)))
 else (some ((-5), r1)))
 else (some ((-1), m)))
 else (some ((-1), m))
set_option maxRecDepth 20000 in
set_option maxHeartbeats 4000000 in
theorem NB_way_ok {G : Gw} (hG : gOk G) (hs : gsh G = shC) {a1 : Int32} {a2 : Int32} {m : Mm} {P : Option Value → Mm → Prop} (h : mjO (NB_way m a1 a2) (fun r => P (some (.int r.1)) r.2)) : mjR G 5 yX6_way cX6_way 3 (some .int) [.ref (gr G 0), .int a1, .int a2] m P := by
  refine mjR_of hG (by decide) (Nat.le_of_ble_eq_true rfl) ?_
  intro X F
  have F : mjF G X cX6_way RX6 3 5 (some .int) := F
  show mjV G X 3 0 [(0, .ref (gr G 0)), (1, .int a1), (2, .int a2)] [] m P
  unfold NB_way at h
  refine vAloadN F dX6_way_0 (k := 0) rfl ?_
  refine vGetR F (t := 11) dX6_way_1 fa_X6_22 (cqC_0 hs) rfl ?_
  refine vIloadN F dX6_way_4 (k := 1) rfl ?_
  refine vCallV F (d' := 0) (x := 11) (T := TX5) (N := 13) (As := [.int a1]) (st := []) dX6_way_5 lk_X6_69 my_X5_has mv_X5_has (is_X5_11 hs).1 rfl (by decide) rfl rfl (Nat.le_of_ble_eq_true rfl) (Wo_has_ok hG hs (is_X5_11 hs) ?_)
  show mjV G X 3 8 [(0, .ref (gr G 0)), (1, .int a1), (2, .int a2)] [.int (bI (Wo_has 11 m a1))] m P
  refine vIfEqB F (tgt := 22) dX6_way_8 (by decide) (fun c6 => ?_) (fun c6 => ?_)
  · replace h := okF h c6
    refine vIconst F (v := (-1)) dX6_way_22 k_m1 ?_
    have z := okS h
    exact vIret F dX6_way_23 z
  · replace h := okT h c6
    refine vAloadN F dX6_way_11 (k := 0) rfl ?_
    refine vGetR F (t := 11) dX6_way_12 fa_X6_22 (cqC_0 hs) rfl ?_
    refine vIloadN F dX6_way_15 (k := 2) rfl ?_
    refine vCallV F (d' := 0) (x := 11) (T := TX5) (N := 13) (As := [.int a2]) (st := []) dX6_way_16 lk_X6_69 my_X5_has mv_X5_has (is_X5_11 hs).1 rfl (by decide) rfl rfl (Nat.le_of_ble_eq_true rfl) (Wo_has_ok hG hs (is_X5_11 hs) ?_)
    show mjV G X 3 19 [(0, .ref (gr G 0)), (1, .int a1), (2, .int a2)] [.int (bI (Wo_has 11 m a2))] m P
    refine vIfNeB F (tgt := 24) dX6_way_19 (by decide) (fun c5 => ?_) (fun c5 => ?_)
    · replace h := okT h c5
      refine vAloadN F dX6_way_24 (k := 0) rfl ?_
      refine vCallV F (d' := 4) (x := 0) (T := TX6) (N := 10) (As := []) (st := []) dX6_way_25 lk_X6_83 my_X6_look mv_X6_look (cqC_0 hs) rfl (by decide) rfl rfl (Nat.le_of_ble_eq_true rfl) (NB_look_ok hG hs (okB h fun r1 h => ?_))
      show mjV G X 3 28 [(0, .ref (gr G 0)), (1, .int a1), (2, .int a2)] [.ref (gr G 1)] r1 P
      refine vPop F dX6_way_28 rfl ?_
      refine vAloadN F dX6_way_29 (k := 0) rfl ?_
      refine vGetR F (t := 1) dX6_way_30 fa_X6_12 (cqC_0 hs) rfl ?_
      refine vIloadN F dX6_way_33 (k := 1) rfl ?_
      refine vIloadN F dX6_way_34 (k := 2) rfl ?_
      refine vCallV F (d' := 1) (x := 1) (T := TX1) (N := 15) (As := [.int a1, .int a2]) (st := []) dX6_way_35 lk_X6_164 my_X1_leads mv_X1_leads (cqC_1 hs) rfl (by decide) rfl rfl (Nat.le_of_ble_eq_true rfl) (Jo_leads_ok hG hs (okB h fun r2 h => ?_))
      show mjV G X 3 38 [(0, .ref (gr G 0)), (1, .int a1), (2, .int a2)] [.int (bI r2)] r1 P
      refine vIfEqB F (tgt := 57) dX6_way_38 (by decide) (fun c4 => ?_) (fun c4 => ?_)
      · replace h := okF h c4
        refine vBipush F (v := (-5)) dX6_way_57 kb_m5 ?_
        have z := okS h
        exact vIret F dX6_way_59 z
      · replace h := okT h c4
        refine vAloadN F dX6_way_41 (k := 0) rfl ?_
        refine vGetR F (t := 1) dX6_way_42 fa_X6_12 (cqC_0 hs) rfl ?_
        refine vGetR F (t := 6) dX6_way_45 fa_X6_167 (cqC_1 hs) rfl ?_
        refine vIloadN F dX6_way_48 (k := 1) rfl ?_
        refine vIloadN F dX6_way_49 (k := 2) rfl ?_
        refine vCallS F (d' := 0) (As := [.int a1, .int a2]) (st := [.ref (gr G 6)]) dX6_way_50 lk_X6_100 my_X6_index sy_X6_index (by decide) rfl rfl (Nat.le_of_ble_eq_true rfl) (NB_index_ok hG hs ?_)
        show mjV G X 3 53 [(0, .ref (gr G 0)), (1, .int a1), (2, .int a2)] [.int (NB_index a1 a2), .ref (gr G 6)] r1 P
        obtain ⟨g3, h⟩ := okga h
        refine vIald F dX6_way_53 (cqC_6 hs) g3 ?_
        refine vGoto F (tgt := 59) dX6_way_54 (by decide) ?_
        have z := okS h
        exact vIret F dX6_way_59 z
    · replace h := okF h c5
      refine vIconst F (v := (-1)) dX6_way_22 k_m1 ?_
      have z := okS h
      exact vIret F dX6_way_23 z
noncomputable def NB_toward (m : Mm) (a1 : Int32) (a2 : Int32) : Option (Int32 × Mm) :=
  if (Wo_has 11 m a1) = true then
 (if (Wo_has 11 m a2) = true then
 ((NB_look m).bind fun r1 =>
  ga (NB_index a1 a2) 49 (some (r1.1 7 (NB_index a1 a2).toNatClampNeg, r1)))
 else (some ((-1), m)))
 else (some ((-1), m))
set_option maxRecDepth 20000 in
set_option maxHeartbeats 4000000 in
theorem NB_toward_ok {G : Gw} (hG : gOk G) (hs : gsh G = shC) {a1 : Int32} {a2 : Int32} {m : Mm} {P : Option Value → Mm → Prop} (h : mjO (NB_toward m a1 a2) (fun r => P (some (.int r.1)) r.2)) : mjR G 5 yX6_toward cX6_toward 3 (some .int) [.ref (gr G 0), .int a1, .int a2] m P := by
  refine mjR_of hG (by decide) (Nat.le_of_ble_eq_true rfl) ?_
  intro X F
  have F : mjF G X cX6_toward RX6 3 5 (some .int) := F
  show mjV G X 3 0 [(0, .ref (gr G 0)), (1, .int a1), (2, .int a2)] [] m P
  unfold NB_toward at h
  refine vAloadN F dX6_toward_0 (k := 0) rfl ?_
  refine vGetR F (t := 11) dX6_toward_1 fa_X6_22 (cqC_0 hs) rfl ?_
  refine vIloadN F dX6_toward_4 (k := 1) rfl ?_
  refine vCallV F (d' := 0) (x := 11) (T := TX5) (N := 13) (As := [.int a1]) (st := []) dX6_toward_5 lk_X6_69 my_X5_has mv_X5_has (is_X5_11 hs).1 rfl (by decide) rfl rfl (Nat.le_of_ble_eq_true rfl) (Wo_has_ok hG hs (is_X5_11 hs) ?_)
  show mjV G X 3 8 [(0, .ref (gr G 0)), (1, .int a1), (2, .int a2)] [.int (bI (Wo_has 11 m a1))] m P
  refine vIfEqB F (tgt := 22) dX6_toward_8 (by decide) (fun c4 => ?_) (fun c4 => ?_)
  · replace h := okF h c4
    refine vIconst F (v := (-1)) dX6_toward_22 k_m1 ?_
    have z := okS h
    exact vIret F dX6_toward_23 z
  · replace h := okT h c4
    refine vAloadN F dX6_toward_11 (k := 0) rfl ?_
    refine vGetR F (t := 11) dX6_toward_12 fa_X6_22 (cqC_0 hs) rfl ?_
    refine vIloadN F dX6_toward_15 (k := 2) rfl ?_
    refine vCallV F (d' := 0) (x := 11) (T := TX5) (N := 13) (As := [.int a2]) (st := []) dX6_toward_16 lk_X6_69 my_X5_has mv_X5_has (is_X5_11 hs).1 rfl (by decide) rfl rfl (Nat.le_of_ble_eq_true rfl) (Wo_has_ok hG hs (is_X5_11 hs) ?_)
    show mjV G X 3 19 [(0, .ref (gr G 0)), (1, .int a1), (2, .int a2)] [.int (bI (Wo_has 11 m a2))] m P
    refine vIfNeB F (tgt := 24) dX6_toward_19 (by decide) (fun c3 => ?_) (fun c3 => ?_)
    · replace h := okT h c3
      refine vAloadN F dX6_toward_24 (k := 0) rfl ?_
      refine vCallV F (d' := 4) (x := 0) (T := TX6) (N := 10) (As := []) (st := []) dX6_toward_25 lk_X6_83 my_X6_look mv_X6_look (cqC_0 hs) rfl (by decide) rfl rfl (Nat.le_of_ble_eq_true rfl) (NB_look_ok hG hs (okB h fun r1 h => ?_))
      show mjV G X 3 28 [(0, .ref (gr G 0)), (1, .int a1), (2, .int a2)] [.ref (gr G 1)] r1 P
      refine vGetR F (t := 7) dX6_toward_28 fa_X6_170 (cqC_1 hs) rfl ?_
      refine vIloadN F dX6_toward_31 (k := 1) rfl ?_
      refine vIloadN F dX6_toward_32 (k := 2) rfl ?_
      refine vCallS F (d' := 0) (As := [.int a1, .int a2]) (st := [.ref (gr G 7)]) dX6_toward_33 lk_X6_100 my_X6_index sy_X6_index (by decide) rfl rfl (Nat.le_of_ble_eq_true rfl) (NB_index_ok hG hs ?_)
      show mjV G X 3 36 [(0, .ref (gr G 0)), (1, .int a1), (2, .int a2)] [.int (NB_index a1 a2), .ref (gr G 7)] r1 P
      obtain ⟨g2, h⟩ := okga h
      refine vIald F dX6_toward_36 (cqC_7 hs) g2 ?_
      have z := okS h
      exact vIret F dX6_toward_37 z
    · replace h := okF h c3
      refine vIconst F (v := (-1)) dX6_toward_22 k_m1 ?_
      have z := okS h
      exact vIret F dX6_toward_23 z
noncomputable def NB_next (m : Mm) (a1 : Int32) (a2 : Int32) : Option (Int32 × Mm) :=
  if (Wo_has 11 m a1) = true then
 (if (Wo_has 11 m a2) = true then
 (if a1 = a2 then
 (some ((-2), m))
 else ((NB_look m).bind fun r1 =>
  ga (NB_index a1 a2) 49 (some (r1.1 8 (NB_index a1 a2).toNatClampNeg, r1))))
 else (some ((-1), m)))
 else (some ((-1), m))
set_option maxRecDepth 20000 in
set_option maxHeartbeats 4000000 in
theorem NB_next_ok {G : Gw} (hG : gOk G) (hs : gsh G = shC) {a1 : Int32} {a2 : Int32} {m : Mm} {P : Option Value → Mm → Prop} (h : mjO (NB_next m a1 a2) (fun r => P (some (.int r.1)) r.2)) : mjR G 5 yX6_next cX6_next 3 (some .int) [.ref (gr G 0), .int a1, .int a2] m P := by
  refine mjR_of hG (by decide) (Nat.le_of_ble_eq_true rfl) ?_
  intro X F
  have F : mjF G X cX6_next RX6 3 5 (some .int) := F
  show mjV G X 3 0 [(0, .ref (gr G 0)), (1, .int a1), (2, .int a2)] [] m P
  unfold NB_next at h
  refine vAloadN F dX6_next_0 (k := 0) rfl ?_
  refine vGetR F (t := 11) dX6_next_1 fa_X6_22 (cqC_0 hs) rfl ?_
  refine vIloadN F dX6_next_4 (k := 1) rfl ?_
  refine vCallV F (d' := 0) (x := 11) (T := TX5) (N := 13) (As := [.int a1]) (st := []) dX6_next_5 lk_X6_69 my_X5_has mv_X5_has (is_X5_11 hs).1 rfl (by decide) rfl rfl (Nat.le_of_ble_eq_true rfl) (Wo_has_ok hG hs (is_X5_11 hs) ?_)
  show mjV G X 3 8 [(0, .ref (gr G 0)), (1, .int a1), (2, .int a2)] [.int (bI (Wo_has 11 m a1))] m P
  refine vIfEqB F (tgt := 22) dX6_next_8 (by decide) (fun c5 => ?_) (fun c5 => ?_)
  · replace h := okF h c5
    refine vIconst F (v := (-1)) dX6_next_22 k_m1 ?_
    have z := okS h
    exact vIret F dX6_next_23 z
  · replace h := okT h c5
    refine vAloadN F dX6_next_11 (k := 0) rfl ?_
    refine vGetR F (t := 11) dX6_next_12 fa_X6_22 (cqC_0 hs) rfl ?_
    refine vIloadN F dX6_next_15 (k := 2) rfl ?_
    refine vCallV F (d' := 0) (x := 11) (T := TX5) (N := 13) (As := [.int a2]) (st := []) dX6_next_16 lk_X6_69 my_X5_has mv_X5_has (is_X5_11 hs).1 rfl (by decide) rfl rfl (Nat.le_of_ble_eq_true rfl) (Wo_has_ok hG hs (is_X5_11 hs) ?_)
    show mjV G X 3 19 [(0, .ref (gr G 0)), (1, .int a1), (2, .int a2)] [.int (bI (Wo_has 11 m a2))] m P
    refine vIfNeB F (tgt := 24) dX6_next_19 (by decide) (fun c4 => ?_) (fun c4 => ?_)
    · replace h := okT h c4
      refine vIloadN F dX6_next_24 (k := 1) rfl ?_
      refine vIloadN F dX6_next_25 (k := 2) rfl ?_
      refine vIcmpNe F (tgt := 32) dX6_next_26 (by decide) (fun c3 => ?_) (fun c3 => ?_)
      · replace h := okF h c3
        refine vAloadN F dX6_next_32 (k := 0) rfl ?_
        refine vCallV F (d' := 4) (x := 0) (T := TX6) (N := 10) (As := []) (st := []) dX6_next_33 lk_X6_83 my_X6_look mv_X6_look (cqC_0 hs) rfl (by decide) rfl rfl (Nat.le_of_ble_eq_true rfl) (NB_look_ok hG hs (okB h fun r1 h => ?_))
        show mjV G X 3 36 [(0, .ref (gr G 0)), (1, .int a1), (2, .int a2)] [.ref (gr G 1)] r1 P
        refine vGetR F (t := 8) dX6_next_36 fa_X6_173 (cqC_1 hs) rfl ?_
        refine vIloadN F dX6_next_39 (k := 1) rfl ?_
        refine vIloadN F dX6_next_40 (k := 2) rfl ?_
        refine vCallS F (d' := 0) (As := [.int a1, .int a2]) (st := [.ref (gr G 8)]) dX6_next_41 lk_X6_100 my_X6_index sy_X6_index (by decide) rfl rfl (Nat.le_of_ble_eq_true rfl) (NB_index_ok hG hs ?_)
        show mjV G X 3 44 [(0, .ref (gr G 0)), (1, .int a1), (2, .int a2)] [.int (NB_index a1 a2), .ref (gr G 8)] r1 P
        obtain ⟨g2, h⟩ := okga h
        refine vIald F dX6_next_44 (cqC_8 hs) g2 ?_
        have z := okS h
        exact vIret F dX6_next_45 z
      · replace h := okT h c3
        refine vBipush F (v := (-2)) dX6_next_29 kb_m2 ?_
        have z := okS h
        exact vIret F dX6_next_31 z
    · replace h := okF h c4
      refine vIconst F (v := (-1)) dX6_next_22 k_m1 ?_
      have z := okS h
      exact vIret F dX6_next_23 z
def NB_isPart (a1 : Int32) : Bool :=
  if a1 = 0 then
 (true)
 else (if a1 = 1 then
 (true)
 else (false))
set_option maxRecDepth 20000 in
set_option maxHeartbeats 4000000 in
theorem NB_isPart_ok {G : Gw} (hG : gOk G) (hs : gsh G = shC) {a1 : Int32} {m : Mm} {P : Option Value → Mm → Prop} (h : P (some (.int (bI (NB_isPart a1)))) m) : mjR G 0 yX6_isPart cX6_isPart 1 (some .boolean) [.int a1] m P := by
  refine mjR_of hG (by decide) (Nat.le_of_ble_eq_true rfl) ?_
  intro X F
  have F : mjF G X cX6_isPart RX6 1 0 (some .boolean) := F
  show mjV G X 1 0 [(0, .int a1)] [] m P
  have h : mjO (some (NB_isPart a1)) (fun r => P (some (.int (bI r))) m) := ⟨_, rfl, h⟩
  unfold NB_isPart at h
  refine vIloadN F dX6_isPart_0 (k := 0) rfl ?_
  refine vIfEq F (tgt := 9) dX6_isPart_1 (by decide) (fun c2 => ?_) (fun c2 => ?_)
  · replace h := okTT h c2
    refine vIconst F (v := 1) dX6_isPart_9 k_1 ?_
    refine vGoto F (tgt := 14) dX6_isPart_10 (by decide) ?_
    have z := okS h
    exact vZret (x := bI true) F dX6_isPart_14 (nzI _) z
  · replace h := okFT h c2
    refine vIloadN F dX6_isPart_4 (k := 0) rfl ?_
    refine vIconst F (v := 1) dX6_isPart_5 k_1 ?_
    refine vIcmpNe F (tgt := 13) dX6_isPart_6 (by decide) (fun c1 => ?_) (fun c1 => ?_)
    · replace h := okFT h c1
      refine vIconst F (v := 0) dX6_isPart_13 k_0 ?_
      have z := okS h
      exact vZret (x := bI false) F dX6_isPart_14 (nzI _) z
    · replace h := okTT h c1
      refine vIconst F (v := 1) dX6_isPart_9 k_1 ?_
      refine vGoto F (tgt := 14) dX6_isPart_10 (by decide) ?_
      have z := okS h
      exact vZret (x := bI true) F dX6_isPart_14 (nzI _) z
noncomputable def NB_gone (m : Mm) (a1 : Int32) (a2 : Int32) (a3 : Int32) : Option (Int32 × Mm) :=
  if (Wo_has 11 m a1) = true then
 (if (Wo_has 11 m a2) = true then
 (if (NB_isPart a3) = true then
 (if a1 = a2 then
 (some ((-2), m))
 else ((NB_look m).bind fun r1 =>
  (Jo_walk r1 a1 a2).bind fun r2 =>
  if (r2.1) = a2 then
 (if a3 = 0 then
 (some ((r2.2).1 1 14, r2.2))
 else (some ((r2.2).1 1 13, r2.2)))
 else (some ((-5), r2.2))))
 else (some ((-1), m)))
 else (some ((-1), m)))
 else (some ((-1), m))
set_option maxRecDepth 20000 in
set_option maxHeartbeats 4000000 in
theorem NB_gone_ok {G : Gw} (hG : gOk G) (hs : gsh G = shC) {a1 : Int32} {a2 : Int32} {a3 : Int32} {m : Mm} {P : Option Value → Mm → Prop} (h : mjO (NB_gone m a1 a2 a3) (fun r => P (some (.int r.1)) r.2)) : mjR G 5 yX6_gone cX6_gone 4 (some .int) [.ref (gr G 0), .int a1, .int a2, .int a3] m P := by
  refine mjR_of hG (by decide) (Nat.le_of_ble_eq_true rfl) ?_
  intro X F
  have F : mjF G X cX6_gone RX6 4 5 (some .int) := F
  show mjV G X 4 0 [(0, .ref (gr G 0)), (1, .int a1), (2, .int a2), (3, .int a3)] [] m P
  unfold NB_gone at h
  refine vAloadN F dX6_gone_0 (k := 0) rfl ?_
  refine vGetR F (t := 11) dX6_gone_1 fa_X6_22 (cqC_0 hs) rfl ?_
  refine vIloadN F dX6_gone_4 (k := 1) rfl ?_
  refine vCallV F (d' := 0) (x := 11) (T := TX5) (N := 13) (As := [.int a1]) (st := []) dX6_gone_5 lk_X6_69 my_X5_has mv_X5_has (is_X5_11 hs).1 rfl (by decide) rfl rfl (Nat.le_of_ble_eq_true rfl) (Wo_has_ok hG hs (is_X5_11 hs) ?_)
  show mjV G X 4 8 [(0, .ref (gr G 0)), (1, .int a1), (2, .int a2), (3, .int a3)] [.int (bI (Wo_has 11 m a1))] m P
  refine vIfEqB F (tgt := 29) dX6_gone_8 (by decide) (fun c8 => ?_) (fun c8 => ?_)
  · replace h := okF h c8
    refine vIconst F (v := (-1)) dX6_gone_29 k_m1 ?_
    have z := okS h
    exact vIret F dX6_gone_30 z
  · replace h := okT h c8
    refine vAloadN F dX6_gone_11 (k := 0) rfl ?_
    refine vGetR F (t := 11) dX6_gone_12 fa_X6_22 (cqC_0 hs) rfl ?_
    refine vIloadN F dX6_gone_15 (k := 2) rfl ?_
    refine vCallV F (d' := 0) (x := 11) (T := TX5) (N := 13) (As := [.int a2]) (st := []) dX6_gone_16 lk_X6_69 my_X5_has mv_X5_has (is_X5_11 hs).1 rfl (by decide) rfl rfl (Nat.le_of_ble_eq_true rfl) (Wo_has_ok hG hs (is_X5_11 hs) ?_)
    show mjV G X 4 19 [(0, .ref (gr G 0)), (1, .int a1), (2, .int a2), (3, .int a3)] [.int (bI (Wo_has 11 m a2))] m P
    refine vIfEqB F (tgt := 29) dX6_gone_19 (by decide) (fun c7 => ?_) (fun c7 => ?_)
    · replace h := okF h c7
      refine vIconst F (v := (-1)) dX6_gone_29 k_m1 ?_
      have z := okS h
      exact vIret F dX6_gone_30 z
    · replace h := okT h c7
      refine vIloadN F dX6_gone_22 (k := 3) rfl ?_
      refine vCallS F (d' := 0) (As := [.int a3]) (st := []) dX6_gone_23 lk_X6_176 my_X6_isPart sy_X6_isPart (by decide) rfl rfl (Nat.le_of_ble_eq_true rfl) (NB_isPart_ok hG hs ?_)
      show mjV G X 4 26 [(0, .ref (gr G 0)), (1, .int a1), (2, .int a2), (3, .int a3)] [.int (bI (NB_isPart a3))] m P
      refine vIfNeB F (tgt := 31) dX6_gone_26 (by decide) (fun c6 => ?_) (fun c6 => ?_)
      · replace h := okT h c6
        refine vIloadN F dX6_gone_31 (k := 1) rfl ?_
        refine vIloadN F dX6_gone_32 (k := 2) rfl ?_
        refine vIcmpNe F (tgt := 39) dX6_gone_33 (by decide) (fun c5 => ?_) (fun c5 => ?_)
        · replace h := okF h c5
          refine vAloadN F dX6_gone_39 (k := 0) rfl ?_
          refine vCallV F (d' := 4) (x := 0) (T := TX6) (N := 10) (As := []) (st := []) dX6_gone_40 lk_X6_83 my_X6_look mv_X6_look (cqC_0 hs) rfl (by decide) rfl rfl (Nat.le_of_ble_eq_true rfl) (NB_look_ok hG hs (okB h fun r1 h => ?_))
          show mjV G X 4 43 [(0, .ref (gr G 0)), (1, .int a1), (2, .int a2), (3, .int a3)] [.ref (gr G 1)] r1 P
          refine vIloadN F dX6_gone_43 (k := 1) rfl ?_
          refine vIloadN F dX6_gone_44 (k := 2) rfl ?_
          refine vCallV F (d' := 1) (x := 1) (T := TX1) (N := 15) (As := [.int a1, .int a2]) (st := []) dX6_gone_45 lk_X6_179 my_X1_walk mv_X1_walk (cqC_1 hs) rfl (by decide) rfl rfl (Nat.le_of_ble_eq_true rfl) (Jo_walk_ok hG hs (okB h fun r2 h => ?_))
          show mjV G X 4 48 [(0, .ref (gr G 0)), (1, .int a1), (2, .int a2), (3, .int a3)] [.int (r2.1)] (r2.2) P
          refine vIloadN F dX6_gone_48 (k := 2) rfl ?_
          refine vIcmpEq F (tgt := 55) dX6_gone_49 (by decide) (fun c4 => ?_) (fun c4 => ?_)
          · replace h := okT h c4
            refine vIloadN F dX6_gone_55 (k := 3) rfl ?_
            refine vIfNe F (tgt := 69) dX6_gone_56 (by decide) (fun c3 => ?_) (fun c3 => ?_)
            · replace h := okF h c3
              refine vAloadN F dX6_gone_69 (k := 0) rfl ?_
              refine vGetR F (t := 1) dX6_gone_70 fa_X6_12 (cqC_0 hs) rfl ?_
              refine vGetI F dX6_gone_73 fa_X6_185 (cqC_1 hs) rfl ?_
              have z := okS h
              exact vIret F dX6_gone_76 z
            · replace h := okT h c3
              refine vAloadN F dX6_gone_59 (k := 0) rfl ?_
              refine vGetR F (t := 1) dX6_gone_60 fa_X6_12 (cqC_0 hs) rfl ?_
              refine vGetI F dX6_gone_63 fa_X6_182 (cqC_1 hs) rfl ?_
              refine vGoto F (tgt := 76) dX6_gone_66 (by decide) ?_
              have z := okS h
              exact vIret F dX6_gone_76 z
          · replace h := okF h c4
            refine vBipush F (v := (-5)) dX6_gone_52 kb_m5 ?_
            have z := okS h
            exact vIret F dX6_gone_54 z
        · replace h := okT h c5
          refine vBipush F (v := (-2)) dX6_gone_36 kb_m2 ?_
          have z := okS h
          exact vIret F dX6_gone_38 z
      · replace h := okF h c6
        refine vIconst F (v := (-1)) dX6_gone_29 k_m1 ?_
        have z := okS h
        exact vIret F dX6_gone_30 z
noncomputable def NB_lost (m : Mm) (a1 : Int32) : Option (Int32 × Mm) :=
  if a1 = 0 then
 ((NB_look m).bind fun r2 =>
  (Jo_lostTravellers r2).bind fun r3 =>
  some (r3.1, r3.2))
 else (if a1 = 1 then
 ((NB_look m).bind fun r5 =>
  (Jo_lostPairs r5).bind fun r6 =>
  some (r6.1, r6.2))
 else (some ((-1), m)))
set_option maxRecDepth 20000 in
set_option maxHeartbeats 4000000 in
theorem NB_lost_ok {G : Gw} (hG : gOk G) (hs : gsh G = shC) {a1 : Int32} {m : Mm} {P : Option Value → Mm → Prop} (h : mjO (NB_lost m a1) (fun r => P (some (.int r.1)) r.2)) : mjR G 5 yX6_lost cX6_lost 2 (some .int) [.ref (gr G 0), .int a1] m P := by
  refine mjR_of hG (by decide) (Nat.le_of_ble_eq_true rfl) ?_
  intro X F
  have F : mjF G X cX6_lost RX6 2 5 (some .int) := F
  show mjV G X 2 0 [(0, .ref (gr G 0)), (1, .int a1)] [] m P
  unfold NB_lost at h
  refine vIloadN F dX6_lost_0 (k := 1) rfl ?_
  by_cases c1 : a1 = 0
  · replace h := okT h c1
    refine vLook F (tgt := 28) dX6_lost_1 (by decide) (lk_in 0 c1 (by decide)) (by decide) ?_
    refine vAloadN F dX6_lost_28 (k := 0) rfl ?_
    refine vCallV F (d' := 4) (x := 0) (T := TX6) (N := 10) (As := []) (st := []) dX6_lost_29 lk_X6_83 my_X6_look mv_X6_look (cqC_0 hs) rfl (by decide) rfl rfl (Nat.le_of_ble_eq_true rfl) (NB_look_ok hG hs (okB h fun r2 h => ?_))
    show mjV G X 2 32 [(0, .ref (gr G 0)), (1, .int a1)] [.ref (gr G 1)] r2 P
    refine vCallV F (d' := 2) (x := 1) (T := TX1) (N := 15) (As := []) (st := []) dX6_lost_32 lk_X6_188 my_X1_lostTravellers mv_X1_lostTravellers (cqC_1 hs) rfl (by decide) rfl rfl (Nat.le_of_ble_eq_true rfl) (Jo_lostTravellers_ok hG hs (okB h fun r3 h => ?_))
    show mjV G X 2 35 [(0, .ref (gr G 0)), (1, .int a1)] [.int (r3.1)] (r3.2) P
    have z := okS h
    exact vIret F dX6_lost_35 z
  replace h := okF h c1
  by_cases c4 : a1 = 1
  · replace h := okT h c4
    refine vLook F (tgt := 36) dX6_lost_1 (by decide) ((lv_osw c1 (by decide)).trans (lk_in 1 c4 (by decide))) (by decide) ?_
    refine vAloadN F dX6_lost_36 (k := 0) rfl ?_
    refine vCallV F (d' := 4) (x := 0) (T := TX6) (N := 10) (As := []) (st := []) dX6_lost_37 lk_X6_83 my_X6_look mv_X6_look (cqC_0 hs) rfl (by decide) rfl rfl (Nat.le_of_ble_eq_true rfl) (NB_look_ok hG hs (okB h fun r5 h => ?_))
    show mjV G X 2 40 [(0, .ref (gr G 0)), (1, .int a1)] [.ref (gr G 1)] r5 P
    refine vCallV F (d' := 2) (x := 1) (T := TX1) (N := 15) (As := []) (st := []) dX6_lost_40 lk_X6_191 my_X1_lostPairs mv_X1_lostPairs (cqC_1 hs) rfl (by decide) rfl rfl (Nat.le_of_ble_eq_true rfl) (Jo_lostPairs_ok hG hs (okB h fun r6 h => ?_))
    show mjV G X 2 43 [(0, .ref (gr G 0)), (1, .int a1)] [.int (r6.1)] (r6.2) P
    have z := okS h
    exact vIret F dX6_lost_43 z
  replace h := okF h c4
  refine vLook F (tgt := 44) dX6_lost_1 (by decide) ((lv_osw c1 (by decide)).trans ((lv_osw c4 (by decide)).trans lk_nil)) (by decide) ?_
  refine vIconst F (v := (-1)) dX6_lost_44 k_m1 ?_
  have z := okS h
  exact vIret F dX6_lost_45 z
noncomputable def NB_longest (m : Mm) (a1 : Int32) : Option (Int32 × Mm) :=
  if (NB_isPart a1) = true then
 ((NB_look m).bind fun r1 =>
  (Jo_longestPair r1).bind fun r2 =>
  if a1 = 1 then
 (some (r2.1, r2.2))
 else (if 0 ≤ (r2.1) then
 ((Jo_walk (r2.2) ((r2.1) / 10) ((r2.1) - (r2.1) / 10 * 10)).bind fun r3 =>
  some ((r3.2).1 1 14, r3.2))
 else (some (0, r2.2))))
 else (some ((-1), m))
set_option maxRecDepth 20000 in
set_option maxHeartbeats 4000000 in
theorem NB_longest_ok {G : Gw} (hG : gOk G) (hs : gsh G = shC) {a1 : Int32} {m : Mm} {P : Option Value → Mm → Prop} (h : mjO (NB_longest m a1) (fun r => P (some (.int r.1)) r.2)) : mjR G 5 yX6_longest cX6_longest 3 (some .int) [.ref (gr G 0), .int a1] m P := by
  refine mjR_of hG (by decide) (Nat.le_of_ble_eq_true rfl) ?_
  intro X F
  have F : mjF G X cX6_longest RX6 3 5 (some .int) := F
  show mjV G X 3 0 [(0, .ref (gr G 0)), (1, .int a1)] [] m P
  unfold NB_longest at h
  refine vIloadN F dX6_longest_0 (k := 1) rfl ?_
  refine vCallS F (d' := 0) (As := [.int a1]) (st := []) dX6_longest_1 lk_X6_176 my_X6_isPart sy_X6_isPart (by decide) rfl rfl (Nat.le_of_ble_eq_true rfl) (NB_isPart_ok hG hs ?_)
  show mjV G X 3 4 [(0, .ref (gr G 0)), (1, .int a1)] [.int (bI (NB_isPart a1))] m P
  refine vIfNeB F (tgt := 9) dX6_longest_4 (by decide) (fun c6 => ?_) (fun c6 => ?_)
  · replace h := okT h c6
    refine vAloadN F dX6_longest_9 (k := 0) rfl ?_
    refine vCallV F (d' := 4) (x := 0) (T := TX6) (N := 10) (As := []) (st := []) dX6_longest_10 lk_X6_83 my_X6_look mv_X6_look (cqC_0 hs) rfl (by decide) rfl rfl (Nat.le_of_ble_eq_true rfl) (NB_look_ok hG hs (okB h fun r1 h => ?_))
    show mjV G X 3 13 [(0, .ref (gr G 0)), (1, .int a1)] [.ref (gr G 1)] r1 P
    refine vCallV F (d' := 2) (x := 1) (T := TX1) (N := 15) (As := []) (st := []) dX6_longest_13 lk_X6_194 my_X1_longestPair mv_X1_longestPair (cqC_1 hs) rfl (by decide) rfl rfl (Nat.le_of_ble_eq_true rfl) (Jo_longestPair_ok hG hs (okB h fun r2 h => ?_))
    show mjV G X 3 16 [(0, .ref (gr G 0)), (1, .int a1)] [.int (r2.1)] (r2.2) P
    refine vIstoreN F (L' := [(2, .int (r2.1)), (0, .ref (gr G 0)), (1, .int a1)]) dX6_longest_16 rfl (by decide) rfl ?_
    refine vIloadN F dX6_longest_17 (k := 2) rfl ?_
    refine vIconst F (v := 1) dX6_longest_18 k_1 ?_
    refine vIcmpNe F (tgt := 24) dX6_longest_19 (by decide) (fun c5 => ?_) (fun c5 => ?_)
    · replace h := okF h c5
      refine vIloadN F dX6_longest_24 (k := 0) rfl ?_
      refine vIfGe F (tgt := 30) dX6_longest_25 (by decide) (fun c4 => ?_) (fun c4 => ?_)
      · replace h := okT h c4
        refine vAloadN F dX6_longest_30 (k := 1) rfl ?_
        refine vGetR F (t := 1) dX6_longest_31 fa_X6_12 (cqC_0 hs) rfl ?_
        refine vIloadN F dX6_longest_34 (k := 0) rfl ?_
        refine vBipush F (v := 10) dX6_longest_35 kb_10 ?_
        refine vIdiv F dX6_longest_37 (by decide) ?_
        refine vIloadN F dX6_longest_38 (k := 0) rfl ?_
        refine vBipush F (v := 10) dX6_longest_39 kb_10 ?_
        refine vIrem F dX6_longest_41 (by decide) ?_
        refine vCallV F (d' := 1) (x := 1) (T := TX1) (N := 15) (As := [.int ((r2.1) / 10), .int ((r2.1) - (r2.1) / 10 * 10)]) (st := []) dX6_longest_42 lk_X6_179 my_X1_walk mv_X1_walk (cqC_1 hs) rfl (by decide) rfl rfl (Nat.le_of_ble_eq_true rfl) (Jo_walk_ok hG hs (okB h fun r3 h => ?_))
        show mjV G X 3 45 [(2, .int (r2.1)), (0, .ref (gr G 0)), (1, .int a1)] [.int (r3.1)] (r3.2) P
        refine vPop F dX6_longest_45 rfl ?_
        refine vAloadN F dX6_longest_46 (k := 1) rfl ?_
        refine vGetR F (t := 1) dX6_longest_47 fa_X6_12 (cqC_0 hs) rfl ?_
        refine vGetI F dX6_longest_50 fa_X6_182 (cqC_1 hs) rfl ?_
        have z := okS h
        exact vIret F dX6_longest_53 z
      · replace h := okF h c4
        refine vIconst F (v := 0) dX6_longest_28 k_0 ?_
        have z := okS h
        exact vIret F dX6_longest_29 z
    · replace h := okT h c5
      refine vIloadN F dX6_longest_22 (k := 0) rfl ?_
      have z := okS h
      exact vIret F dX6_longest_23 z
  · replace h := okF h c6
    refine vIconst F (v := (-1)) dX6_longest_7 k_m1 ?_
    have z := okS h
    exact vIret F dX6_longest_8 z
def NB_mayName (m : Mm) (a1 : Int32) (a2 : Int32) : Option (Bool) :=
  (Wo_names 11 m a1 a2).bind fun r1 =>
  if r1 = true then
 (some false)
 else ((NB_hasArmFree m a1).bind fun r2 =>
  if r2 = true then
 ((NB_hasArmFree m a2).bind fun r3 =>
  if r3 = true then
 (some true)
 else (some false))
 else (some false))
set_option maxRecDepth 20000 in
set_option maxHeartbeats 4000000 in
theorem NB_mayName_ok {G : Gw} (hG : gOk G) (hs : gsh G = shC) {a1 : Int32} {a2 : Int32} {m : Mm} {P : Option Value → Mm → Prop} (h : mjO (NB_mayName m a1 a2) (fun r => P (some (.int (bI r))) m)) : mjR G 2 yX6_mayName cX6_mayName 3 (some .boolean) [.ref (gr G 0), .int a1, .int a2] m P := by
  refine mjR_of hG (by decide) (Nat.le_of_ble_eq_true rfl) ?_
  intro X F
  have F : mjF G X cX6_mayName RX6 3 2 (some .boolean) := F
  show mjV G X 3 0 [(0, .ref (gr G 0)), (1, .int a1), (2, .int a2)] [] m P
  unfold NB_mayName at h
  refine vAloadN F dX6_mayName_0 (k := 0) rfl ?_
  refine vGetR F (t := 11) dX6_mayName_1 fa_X6_22 (cqC_0 hs) rfl ?_
  refine vIloadN F dX6_mayName_4 (k := 1) rfl ?_
  refine vIloadN F dX6_mayName_5 (k := 2) rfl ?_
  refine vCallV F (d' := 0) (x := 11) (T := TX5) (N := 13) (As := [.int a1, .int a2]) (st := []) dX6_mayName_6 lk_X6_111 my_X5_names mv_X5_names (is_X5_11 hs).1 rfl (by decide) rfl rfl (Nat.le_of_ble_eq_true rfl) (Wo_names_ok hG hs (is_X5_11 hs) (okB h fun r1 h => ?_))
  show mjV G X 3 9 [(0, .ref (gr G 0)), (1, .int a1), (2, .int a2)] [.int (bI r1)] m P
  refine vIfNeB F (tgt := 32) dX6_mayName_9 (by decide) (fun c6 => ?_) (fun c6 => ?_)
  · replace h := okT h c6
    refine vIconst F (v := 0) dX6_mayName_32 k_0 ?_
    have z := okS h
    exact vZret (x := bI false) F dX6_mayName_33 (nzI _) z
  · replace h := okF h c6
    refine vAloadN F dX6_mayName_12 (k := 0) rfl ?_
    refine vIloadN F dX6_mayName_13 (k := 1) rfl ?_
    refine vCallV F (d' := 1) (x := 0) (T := TX6) (N := 10) (As := [.int a1]) (st := []) dX6_mayName_14 lk_X6_115 my_X6_hasArmFree mv_X6_hasArmFree (cqC_0 hs) rfl (by decide) rfl rfl (Nat.le_of_ble_eq_true rfl) (NB_hasArmFree_ok hG hs (okB h fun r2 h => ?_))
    show mjV G X 3 17 [(0, .ref (gr G 0)), (1, .int a1), (2, .int a2)] [.int (bI r2)] m P
    refine vIfEqB F (tgt := 32) dX6_mayName_17 (by decide) (fun c5 => ?_) (fun c5 => ?_)
    · replace h := okF h c5
      refine vIconst F (v := 0) dX6_mayName_32 k_0 ?_
      have z := okS h
      exact vZret (x := bI false) F dX6_mayName_33 (nzI _) z
    · replace h := okT h c5
      refine vAloadN F dX6_mayName_20 (k := 0) rfl ?_
      refine vIloadN F dX6_mayName_21 (k := 2) rfl ?_
      refine vCallV F (d' := 1) (x := 0) (T := TX6) (N := 10) (As := [.int a2]) (st := []) dX6_mayName_22 lk_X6_115 my_X6_hasArmFree mv_X6_hasArmFree (cqC_0 hs) rfl (by decide) rfl rfl (Nat.le_of_ble_eq_true rfl) (NB_hasArmFree_ok hG hs (okB h fun r3 h => ?_))
      show mjV G X 3 25 [(0, .ref (gr G 0)), (1, .int a1), (2, .int a2)] [.int (bI r3)] m P
      refine vIfEqB F (tgt := 32) dX6_mayName_25 (by decide) (fun c4 => ?_) (fun c4 => ?_)
      · replace h := okF h c4
        refine vIconst F (v := 0) dX6_mayName_32 k_0 ?_
        have z := okS h
        exact vZret (x := bI false) F dX6_mayName_33 (nzI _) z
      · replace h := okT h c4
        refine vIconst F (v := 1) dX6_mayName_28 k_1 ?_
        refine vGoto F (tgt := 33) dX6_mayName_29 (by decide) ?_
        have z := okS h
        exact vZret (x := bI true) F dX6_mayName_33 (nzI _) z
noncomputable def NB_bestTurn_l28 (a1 : Int32) (s1 : Int32 × Int32 × Int32 × Mm) (s3 : Int32 × Int32 × Int32 × Mm) : Option ((Int32 × Int32 × Int32 × Mm) ⊕ (Int32 × Int32 × Mm)) :=
  if ((s3.2.2.2).1 11 0) ≤ (s3.2.2.1) then
 (some (.inr (s3.1, s3.2.1, s3.2.2.2)))
 else (jn (fun (e5 : Unit) => (Wo_turnName 11 (s3.2.2.2) (s1.2.2.1) (s3.2.2.1)).bind fun r7 =>
  (NB_look r7).bind fun r8 =>
  (Jo_lostPairs r8).bind fun r9 =>
  (Wo_turnName 11 (r9.2) (s1.2.2.1) (s3.2.2.1)).bind fun r10 =>
  jn (fun (e11 : Unit) => some (.inl ((10 * (s1.2.2.1)) + (s3.2.2.1), r9.1, (s3.2.2.1) + 1, r10))) fun j12 =>
  if (s3.1) = (-5) then
 (j12 ())
 else (if a1 = 0 then
 (if (r9.1) ≤ (s3.2.1) then
 (some (.inl (s3.1, s3.2.1, (s3.2.2.1) + 1, r10)))
 else (j12 ()))
 else (if (s3.2.1) ≤ (r9.1) then
 (some (.inl (s3.1, s3.2.1, (s3.2.2.1) + 1, r10)))
 else (j12 ())))) fun j6 =>
  if a1 = 0 then
 ((Wo_names 11 (s3.2.2.2) (s1.2.2.1) (s3.2.2.1)).bind fun r17 =>
  if r17 = true then
 (j6 ())
 else (some (.inl (s3.1, s3.2.1, (s3.2.2.1) + 1, s3.2.2.2))))
 else ((NB_mayName (s3.2.2.2) (s1.2.2.1) (s3.2.2.1)).bind fun r19 =>
  if r19 = true then
 (j6 ())
 else (some (.inl (s3.1, s3.2.1, (s3.2.2.1) + 1, s3.2.2.2)))))
noncomputable def NB_bestTurn_l10 (a1 : Int32) (s1 : Int32 × Int32 × Int32 × Mm) : Option ((Int32 × Int32 × Int32 × Mm) ⊕ (Int32 × Int32 × Mm)) :=
  if ((s1.2.2.2).1 11 0) ≤ (s1.2.2.1) then
 (some (.inr (s1.1, s1.2.1, s1.2.2.2)))
 else ((iter (NB_bestTurn_l28 a1 s1) (s1.1, s1.2.1, (s1.2.2.1) + 1, s1.2.2.2)).bind fun e4 =>
  some (.inl (e4.1, e4.2.1, (s1.2.2.1) + 1, e4.2.2)))
noncomputable def NB_bestTurn (m : Mm) (a1 : Int32) (a2 : Int32) : Option (Int32 × Mm) :=
  (iter (NB_bestTurn_l10 a1) ((-5), (-5), 0, m)).bind fun e2 =>
  if a2 = 0 then
 (some (e2.1, e2.2.2))
 else (some (e2.2.1, e2.2.2))
set_option maxRecDepth 20000 in
set_option maxHeartbeats 4000000 in
theorem NB_bestTurn_ok {G : Gw} (hG : gOk G) (hs : gsh G = shC) {a1 : Int32} {a2 : Int32} {m : Mm} {P : Option Value → Mm → Prop} (h : mjO (NB_bestTurn m a1 a2) (fun r => P (some (.int r.1)) r.2)) : mjR G 5 yX6_bestTurn cX6_bestTurn 8 (some .int) [.ref (gr G 0), .int a1, .int a2] m P := by
  refine mjR_of hG (by decide) (Nat.le_of_ble_eq_true rfl) ?_
  intro X F
  have F : mjF G X cX6_bestTurn RX6 8 5 (some .int) := F
  show mjV G X 8 0 [(0, .ref (gr G 0)), (1, .int a1), (2, .int a2)] [] m P
  unfold NB_bestTurn at h
  refine vBipush F (v := (-5)) dX6_bestTurn_0 kb_m5 ?_
  refine vIstoreN F (L' := [(3, .int (-5)), (0, .ref (gr G 0)), (1, .int a1), (2, .int a2)]) dX6_bestTurn_2 rfl (by decide) rfl ?_
  refine vBipush F (v := (-5)) dX6_bestTurn_3 kb_m5 ?_
  refine vIstore F (L' := [(4, .int (-5)), (3, .int (-5)), (0, .ref (gr G 0)), (1, .int a1), (2, .int a2)]) dX6_bestTurn_5 (by decide) rfl ?_
  refine vIconst F (v := 0) dX6_bestTurn_7 k_0 ?_
  refine vIstore F (L' := [(5, .int 0), (4, .int (-5)), (3, .int (-5)), (0, .ref (gr G 0)), (1, .int a1), (2, .int a2)]) dX6_bestTurn_8 (by decide) rfl ?_
  refine vSub [3, 4, 5, 2, 1, 0] rfl ?_
  refine okLoop (s0 := ((-5), (-5), 0, m)) (T := (fun (s1 : Int32 × Int32 × Int32 × Mm) => mjV G X 8 10 [(0, .ref (gr G 0)), (1, .int a1), (2, .int a2), (3, .int (s1.1)), (4, .int (s1.2.1)), (5, .int (s1.2.2.1))] [] (s1.2.2.2) P)) (Ve := (fun (e2 : Int32 × Int32 × Mm) => mjV G X 8 158 [(2, .int a2), (3, .int (e2.1)), (4, .int (e2.2.1))] [] (e2.2.2) P)) h ?_ (fun s1 h => ?_)
  · intro e2 h
    refine vIloadN F dX6_bestTurn_158 (k := 0) rfl ?_
    refine vIfNe F (tgt := 166) dX6_bestTurn_159 (by decide) (fun c25 => ?_) (fun c25 => ?_)
    · replace h := okF h c25
      refine vIload F dX6_bestTurn_166 (k := 2) rfl ?_
      have z := okS h
      exact vIret F dX6_bestTurn_168 z
    · replace h := okT h c25
      refine vIloadN F dX6_bestTurn_162 (k := 1) rfl ?_
      refine vGoto F (tgt := 168) dX6_bestTurn_163 (by decide) ?_
      have z := okS h
      exact vIret F dX6_bestTurn_168 z
  · unfold NB_bestTurn_l10 at h
    refine vIload F dX6_bestTurn_10 (k := 5) rfl ?_
    refine vAloadN F dX6_bestTurn_12 (k := 0) rfl ?_
    refine vGetR F (t := 11) dX6_bestTurn_13 fa_X6_22 (cqC_0 hs) rfl ?_
    refine vGetI F dX6_bestTurn_16 fa_X6_61 (is_X5_11 hs).1 rfl ?_
    refine vIcmpGe F (tgt := 158) dX6_bestTurn_19 (by decide) (fun c24 => ?_) (fun c24 => ?_)
    · replace h := okT h c24
      refine vSub [2, 3, 4] rfl ?_
      have z := okR h
      exact z
    · replace h := okF h c24
      refine vIload F dX6_bestTurn_22 (k := 5) rfl ?_
      refine vIconst F (v := 1) dX6_bestTurn_24 k_1 ?_
      refine vIadd F dX6_bestTurn_25 ?_
      refine vIstore F (L' := [(6, .int ((s1.2.2.1) + 1)), (0, .ref (gr G 0)), (1, .int a1), (2, .int a2), (3, .int (s1.1)), (4, .int (s1.2.1)), (5, .int (s1.2.2.1))]) dX6_bestTurn_26 (by decide) rfl ?_
      refine vSub [1, 2, 3, 4, 5, 6, 0] rfl ?_
      refine okLoop (s0 := (s1.1, s1.2.1, (s1.2.2.1) + 1, s1.2.2.2)) (T := (fun (s3 : Int32 × Int32 × Int32 × Mm) => mjV G X 8 28 [(0, .ref (gr G 0)), (1, .int a1), (2, .int a2), (3, .int (s3.1)), (4, .int (s3.2.1)), (5, .int (s1.2.2.1)), (6, .int (s3.2.2.1))] [] (s3.2.2.2) P)) (Ve := (fun (e4 : Int32 × Int32 × Mm) => mjV G X 8 152 [(0, .ref (gr G 0)), (1, .int a1), (2, .int a2), (3, .int (e4.1)), (4, .int (e4.2.1)), (5, .int (s1.2.2.1))] [] (e4.2.2) P)) h ?_ (fun s3 h => ?_)
      · intro e4 h
        refine vIinc F (v := 1) (k := 5) (L' := [(5, .int ((s1.2.2.1) + 1)), (0, .ref (gr G 0)), (1, .int a1), (2, .int a2), (3, .int (e4.1)), (4, .int (e4.2.1))]) dX6_bestTurn_152 rfl k_1 (by decide) rfl ?_
        refine vGoto F (tgt := 10) dX6_bestTurn_155 (by decide) ?_
        refine vSub [1, 2, 3, 4, 5, 0] rfl ?_
        have z := okL h
        exact z
      · unfold NB_bestTurn_l28 at h
        refine vIload F dX6_bestTurn_28 (k := 6) rfl ?_
        refine vAloadN F dX6_bestTurn_30 (k := 0) rfl ?_
        refine vGetR F (t := 11) dX6_bestTurn_31 fa_X6_22 (cqC_0 hs) rfl ?_
        refine vGetI F dX6_bestTurn_34 fa_X6_61 (is_X5_11 hs).1 rfl ?_
        refine vIcmpGe F (tgt := 152) dX6_bestTurn_37 (by decide) (fun c22 => ?_) (fun c22 => ?_)
        · replace h := okT h c22
          refine vSub [0, 1, 2, 3, 4, 5] rfl ?_
          have z := okR h
          exact z
        · replace h := okF h c22
          refine vIloadN F dX6_bestTurn_40 (k := 1) rfl ?_
          refine okJ (Vj := fun (e5 : Unit) => mjV G X 8 75 [(0, .ref (gr G 0)), (1, .int a1), (2, .int a2), (3, .int (s3.1)), (4, .int (s3.2.1)), (5, .int (s1.2.2.1)), (6, .int (s3.2.2.1))] [] (s3.2.2.2) P) h (fun e5 h => ?_) (fun j6 Jj6 h => ?_)
          · refine vAloadN F dX6_bestTurn_75 (k := 0) rfl ?_
            refine vGetR F (t := 11) dX6_bestTurn_76 fa_X6_22 (cqC_0 hs) rfl ?_
            refine vIload F dX6_bestTurn_79 (k := 5) rfl ?_
            refine vIload F dX6_bestTurn_81 (k := 6) rfl ?_
            refine vCallV F (d' := 0) (x := 11) (T := TX5) (N := 13) (As := [.int (s1.2.2.1), .int (s3.2.2.1)]) (st := []) dX6_bestTurn_83 lk_X6_118 my_X5_turnName mv_X5_turnName (is_X5_11 hs).1 rfl (by decide) rfl rfl (Nat.le_of_ble_eq_true rfl) (Wo_turnName_ok hG hs (is_X5_11 hs) (okB h fun r7 h => ?_))
            show mjV G X 8 86 [(0, .ref (gr G 0)), (1, .int a1), (2, .int a2), (3, .int (s3.1)), (4, .int (s3.2.1)), (5, .int (s1.2.2.1)), (6, .int (s3.2.2.1))] [] r7 P
            refine vAloadN F dX6_bestTurn_86 (k := 0) rfl ?_
            refine vCallV F (d' := 4) (x := 0) (T := TX6) (N := 10) (As := []) (st := []) dX6_bestTurn_87 lk_X6_83 my_X6_look mv_X6_look (cqC_0 hs) rfl (by decide) rfl rfl (Nat.le_of_ble_eq_true rfl) (NB_look_ok hG hs (okB h fun r8 h => ?_))
            show mjV G X 8 90 [(0, .ref (gr G 0)), (1, .int a1), (2, .int a2), (3, .int (s3.1)), (4, .int (s3.2.1)), (5, .int (s1.2.2.1)), (6, .int (s3.2.2.1))] [.ref (gr G 1)] r8 P
            refine vCallV F (d' := 2) (x := 1) (T := TX1) (N := 15) (As := []) (st := []) dX6_bestTurn_90 lk_X6_191 my_X1_lostPairs mv_X1_lostPairs (cqC_1 hs) rfl (by decide) rfl rfl (Nat.le_of_ble_eq_true rfl) (Jo_lostPairs_ok hG hs (okB h fun r9 h => ?_))
            show mjV G X 8 93 [(0, .ref (gr G 0)), (1, .int a1), (2, .int a2), (3, .int (s3.1)), (4, .int (s3.2.1)), (5, .int (s1.2.2.1)), (6, .int (s3.2.2.1))] [.int (r9.1)] (r9.2) P
            refine vIstore F (L' := [(7, .int (r9.1)), (0, .ref (gr G 0)), (1, .int a1), (2, .int a2), (3, .int (s3.1)), (4, .int (s3.2.1)), (5, .int (s1.2.2.1)), (6, .int (s3.2.2.1))]) dX6_bestTurn_93 (by decide) rfl ?_
            refine vAloadN F dX6_bestTurn_95 (k := 1) rfl ?_
            refine vGetR F (t := 11) dX6_bestTurn_96 fa_X6_22 (cqC_0 hs) rfl ?_
            refine vIload F dX6_bestTurn_99 (k := 6) rfl ?_
            refine vIload F dX6_bestTurn_101 (k := 7) rfl ?_
            refine vCallV F (d' := 0) (x := 11) (T := TX5) (N := 13) (As := [.int (s1.2.2.1), .int (s3.2.2.1)]) (st := []) dX6_bestTurn_103 lk_X6_118 my_X5_turnName mv_X5_turnName (is_X5_11 hs).1 rfl (by decide) rfl rfl (Nat.le_of_ble_eq_true rfl) (Wo_turnName_ok hG hs (is_X5_11 hs) (okB h fun r10 h => ?_))
            show mjV G X 8 106 [(7, .int (r9.1)), (0, .ref (gr G 0)), (1, .int a1), (2, .int a2), (3, .int (s3.1)), (4, .int (s3.2.1)), (5, .int (s1.2.2.1)), (6, .int (s3.2.2.1))] [] r10 P
            refine vIloadN F dX6_bestTurn_106 (k := 4) rfl ?_
            refine vBipush F (v := (-5)) dX6_bestTurn_107 kb_m5 ?_
            refine okJ (Vj := fun (e11 : Unit) => mjV G X 8 133 [(0, .ref (gr G 0)), (1, .int a1), (2, .int a2), (5, .int (s1.2.2.1)), (6, .int (s3.2.2.1)), (7, .int (r9.1))] [] r10 P) h (fun e11 h => ?_) (fun j12 Jj12 h => ?_)
            · refine vBipush F (v := 10) dX6_bestTurn_133 kb_10 ?_
              refine vIload F dX6_bestTurn_135 (k := 3) rfl ?_
              refine vImul F dX6_bestTurn_137 ?_
              refine vIload F dX6_bestTurn_138 (k := 4) rfl ?_
              refine vIadd F dX6_bestTurn_140 ?_
              refine vIstoreN F (L' := [(3, .int ((10 * (s1.2.2.1)) + (s3.2.2.1))), (0, .ref (gr G 0)), (1, .int a1), (2, .int a2), (5, .int (s1.2.2.1)), (6, .int (s3.2.2.1)), (7, .int (r9.1))]) dX6_bestTurn_141 rfl (by decide) rfl ?_
              refine vIload F dX6_bestTurn_142 (k := 6) rfl ?_
              refine vIstore F (L' := [(4, .int (r9.1)), (3, .int ((10 * (s1.2.2.1)) + (s3.2.2.1))), (0, .ref (gr G 0)), (1, .int a1), (2, .int a2), (5, .int (s1.2.2.1)), (6, .int (s3.2.2.1)), (7, .int (r9.1))]) dX6_bestTurn_144 (by decide) rfl ?_
              refine vIinc F (v := 1) (k := 6) (L' := [(6, .int ((s3.2.2.1) + 1)), (4, .int (r9.1)), (3, .int ((10 * (s1.2.2.1)) + (s3.2.2.1))), (0, .ref (gr G 0)), (1, .int a1), (2, .int a2), (5, .int (s1.2.2.1)), (7, .int (r9.1))]) dX6_bestTurn_146 rfl k_1 (by decide) rfl ?_
              refine vGoto F (tgt := 28) dX6_bestTurn_149 (by decide) ?_
              refine vSub [3, 4, 5, 2, 1, 6, 0] rfl ?_
              have z := okL h
              exact z
            · refine vIcmpEq F (tgt := 133) dX6_bestTurn_109 (by decide) (fun c16 => ?_) (fun c16 => ?_)
              · replace h := okT h c16
                refine vSub [1, 2, 3, 6, 7, 0] rfl ?_
                exact Jj12 () h
              · replace h := okF h c16
                refine vIloadN F dX6_bestTurn_112 (k := 2) rfl ?_
                refine vIfEq F (tgt := 126) dX6_bestTurn_113 (by decide) (fun c15 => ?_) (fun c15 => ?_)
                · replace h := okT h c15
                  refine vIload F dX6_bestTurn_126 (k := 0) rfl ?_
                  refine vIload F dX6_bestTurn_128 (k := 5) rfl ?_
                  refine vIcmpLe F (tgt := 146) dX6_bestTurn_130 (by decide) (fun c13 => ?_) (fun c13 => ?_)
                  · replace h := okT h c13
                    refine vIinc F (v := 1) (k := 7) (L' := [(6, .int ((s3.2.2.1) + 1)), (7, .int (r9.1)), (0, .ref (gr G 0)), (1, .int a1), (2, .int a2), (3, .int (s3.1)), (4, .int (s3.2.1)), (5, .int (s1.2.2.1))]) dX6_bestTurn_146 rfl k_1 (by decide) rfl ?_
                    refine vGoto F (tgt := 28) dX6_bestTurn_149 (by decide) ?_
                    refine vSub [2, 3, 4, 5, 6, 7, 0] rfl ?_
                    have z := okL h
                    exact z
                  · replace h := okF h c13
                    refine vSub [1, 2, 3, 6, 7, 0] rfl ?_
                    exact Jj12 () h
                · replace h := okF h c15
                  refine vIload F dX6_bestTurn_116 (k := 0) rfl ?_
                  refine vIload F dX6_bestTurn_118 (k := 5) rfl ?_
                  refine vIcmpGe F (tgt := 146) dX6_bestTurn_120 (by decide) (fun c14 => ?_) (fun c14 => ?_)
                  · replace h := okT h c14
                    refine vIinc F (v := 1) (k := 7) (L' := [(6, .int ((s3.2.2.1) + 1)), (7, .int (r9.1)), (0, .ref (gr G 0)), (1, .int a1), (2, .int a2), (3, .int (s3.1)), (4, .int (s3.2.1)), (5, .int (s1.2.2.1))]) dX6_bestTurn_146 rfl k_1 (by decide) rfl ?_
                    refine vGoto F (tgt := 28) dX6_bestTurn_149 (by decide) ?_
                    refine vSub [2, 3, 4, 5, 6, 7, 0] rfl ?_
                    have z := okL h
                    exact z
                  · replace h := okF h c14
                    refine vGoto F (tgt := 133) dX6_bestTurn_123 (by decide) ?_
                    refine vSub [1, 2, 3, 6, 7, 0] rfl ?_
                    exact Jj12 () h
          · refine vIfEq F (tgt := 58) dX6_bestTurn_41 (by decide) (fun c21 => ?_) (fun c21 => ?_)
            · replace h := okT h c21
              refine vAloadN F dX6_bestTurn_58 (k := 0) rfl ?_
              refine vGetR F (t := 11) dX6_bestTurn_59 fa_X6_22 (cqC_0 hs) rfl ?_
              refine vIload F dX6_bestTurn_62 (k := 5) rfl ?_
              refine vIload F dX6_bestTurn_64 (k := 6) rfl ?_
              refine vCallV F (d' := 0) (x := 11) (T := TX5) (N := 13) (As := [.int (s1.2.2.1), .int (s3.2.2.1)]) (st := []) dX6_bestTurn_66 lk_X6_111 my_X5_names mv_X5_names (is_X5_11 hs).1 rfl (by decide) rfl rfl (Nat.le_of_ble_eq_true rfl) (Wo_names_ok hG hs (is_X5_11 hs) (okB h fun r17 h => ?_))
              show mjV G X 8 69 [(0, .ref (gr G 0)), (1, .int a1), (2, .int a2), (3, .int (s3.1)), (4, .int (s3.2.1)), (5, .int (s1.2.2.1)), (6, .int (s3.2.2.1))] [.int (bI r17)] (s3.2.2.2) P
              refine vIfNeB F (tgt := 75) dX6_bestTurn_69 (by decide) (fun c18 => ?_) (fun c18 => ?_)
              · replace h := okT h c18
                exact Jj6 () h
              · replace h := okF h c18
                refine vGoto F (tgt := 146) dX6_bestTurn_72 (by decide) ?_
                refine vIinc F (v := 1) (k := 6) (L' := [(6, .int ((s3.2.2.1) + 1)), (0, .ref (gr G 0)), (1, .int a1), (2, .int a2), (3, .int (s3.1)), (4, .int (s3.2.1)), (5, .int (s1.2.2.1))]) dX6_bestTurn_146 rfl k_1 (by decide) rfl ?_
                refine vGoto F (tgt := 28) dX6_bestTurn_149 (by decide) ?_
                refine vSub [1, 2, 3, 4, 5, 6, 0] rfl ?_
                have z := okL h
                exact z
            · replace h := okF h c21
              refine vAloadN F dX6_bestTurn_44 (k := 0) rfl ?_
              refine vIload F dX6_bestTurn_45 (k := 5) rfl ?_
              refine vIload F dX6_bestTurn_47 (k := 6) rfl ?_
              refine vCallV F (d' := 2) (x := 0) (T := TX6) (N := 10) (As := [.int (s1.2.2.1), .int (s3.2.2.1)]) (st := []) dX6_bestTurn_49 lk_X6_320 my_X6_mayName mv_X6_mayName (cqC_0 hs) rfl (by decide) rfl rfl (Nat.le_of_ble_eq_true rfl) (NB_mayName_ok hG hs (okB h fun r19 h => ?_))
              show mjV G X 8 52 [(0, .ref (gr G 0)), (1, .int a1), (2, .int a2), (3, .int (s3.1)), (4, .int (s3.2.1)), (5, .int (s1.2.2.1)), (6, .int (s3.2.2.1))] [.int (bI r19)] (s3.2.2.2) P
              refine vIfEqB F (tgt := 146) dX6_bestTurn_52 (by decide) (fun c20 => ?_) (fun c20 => ?_)
              · replace h := okF h c20
                refine vIinc F (v := 1) (k := 6) (L' := [(6, .int ((s3.2.2.1) + 1)), (0, .ref (gr G 0)), (1, .int a1), (2, .int a2), (3, .int (s3.1)), (4, .int (s3.2.1)), (5, .int (s1.2.2.1))]) dX6_bestTurn_146 rfl k_1 (by decide) rfl ?_
                refine vGoto F (tgt := 28) dX6_bestTurn_149 (by decide) ?_
                refine vSub [1, 2, 3, 4, 5, 6, 0] rfl ?_
                have z := okL h
                exact z
              · replace h := okT h c20
                refine vGoto F (tgt := 75) dX6_bestTurn_55 (by decide) ?_
                exact Jj6 () h
noncomputable def NB_put (m : Mm) (a1 : Int32) : Option (Int32 × Mm) :=
  if (NB_isPart a1) = true then
 ((NB_bestTurn m 1 a1).bind fun r1 =>
  some (r1.1, r1.2))
 else (some ((-1), m))
set_option maxRecDepth 20000 in
set_option maxHeartbeats 4000000 in
theorem NB_put_ok {G : Gw} (hG : gOk G) (hs : gsh G = shC) {a1 : Int32} {m : Mm} {P : Option Value → Mm → Prop} (h : mjO (NB_put m a1) (fun r => P (some (.int r.1)) r.2)) : mjR G 6 yX6_put cX6_put 2 (some .int) [.ref (gr G 0), .int a1] m P := by
  refine mjR_of hG (by decide) (Nat.le_of_ble_eq_true rfl) ?_
  intro X F
  have F : mjF G X cX6_put RX6 2 6 (some .int) := F
  show mjV G X 2 0 [(0, .ref (gr G 0)), (1, .int a1)] [] m P
  unfold NB_put at h
  refine vIloadN F dX6_put_0 (k := 1) rfl ?_
  refine vCallS F (d' := 0) (As := [.int a1]) (st := []) dX6_put_1 lk_X6_176 my_X6_isPart sy_X6_isPart (by decide) rfl rfl (Nat.le_of_ble_eq_true rfl) (NB_isPart_ok hG hs ?_)
  show mjV G X 2 4 [(0, .ref (gr G 0)), (1, .int a1)] [.int (bI (NB_isPart a1))] m P
  refine vIfEqB F (tgt := 16) dX6_put_4 (by decide) (fun c2 => ?_) (fun c2 => ?_)
  · replace h := okF h c2
    refine vIconst F (v := (-1)) dX6_put_16 k_m1 ?_
    have z := okS h
    exact vIret F dX6_put_17 z
  · replace h := okT h c2
    refine vAloadN F dX6_put_7 (k := 0) rfl ?_
    refine vIconst F (v := 1) dX6_put_8 k_1 ?_
    refine vIloadN F dX6_put_9 (k := 1) rfl ?_
    refine vCallV F (d' := 5) (x := 0) (T := TX6) (N := 10) (As := [.int 1, .int a1]) (st := []) dX6_put_10 lk_X6_197 my_X6_bestTurn mv_X6_bestTurn (cqC_0 hs) rfl (by decide) rfl rfl (Nat.le_of_ble_eq_true rfl) (NB_bestTurn_ok hG hs (okB h fun r1 h => ?_))
    show mjV G X 2 13 [(0, .ref (gr G 0)), (1, .int a1)] [.int (r1.1)] (r1.2) P
    refine vGoto F (tgt := 17) dX6_put_13 (by decide) ?_
    have z := okS h
    exact vIret F dX6_put_17 z
noncomputable def NB_worst (m : Mm) (a1 : Int32) : Option (Int32 × Mm) :=
  if (NB_isPart a1) = true then
 ((NB_bestTurn m 0 a1).bind fun r1 =>
  some (r1.1, r1.2))
 else (some ((-1), m))
set_option maxRecDepth 20000 in
set_option maxHeartbeats 4000000 in
theorem NB_worst_ok {G : Gw} (hG : gOk G) (hs : gsh G = shC) {a1 : Int32} {m : Mm} {P : Option Value → Mm → Prop} (h : mjO (NB_worst m a1) (fun r => P (some (.int r.1)) r.2)) : mjR G 6 yX6_worst cX6_worst 2 (some .int) [.ref (gr G 0), .int a1] m P := by
  refine mjR_of hG (by decide) (Nat.le_of_ble_eq_true rfl) ?_
  intro X F
  have F : mjF G X cX6_worst RX6 2 6 (some .int) := F
  show mjV G X 2 0 [(0, .ref (gr G 0)), (1, .int a1)] [] m P
  unfold NB_worst at h
  refine vIloadN F dX6_worst_0 (k := 1) rfl ?_
  refine vCallS F (d' := 0) (As := [.int a1]) (st := []) dX6_worst_1 lk_X6_176 my_X6_isPart sy_X6_isPart (by decide) rfl rfl (Nat.le_of_ble_eq_true rfl) (NB_isPart_ok hG hs ?_)
  show mjV G X 2 4 [(0, .ref (gr G 0)), (1, .int a1)] [.int (bI (NB_isPart a1))] m P
  refine vIfEqB F (tgt := 16) dX6_worst_4 (by decide) (fun c2 => ?_) (fun c2 => ?_)
  · replace h := okF h c2
    refine vIconst F (v := (-1)) dX6_worst_16 k_m1 ?_
    have z := okS h
    exact vIret F dX6_worst_17 z
  · replace h := okT h c2
    refine vAloadN F dX6_worst_7 (k := 0) rfl ?_
    refine vIconst F (v := 0) dX6_worst_8 k_0 ?_
    refine vIloadN F dX6_worst_9 (k := 1) rfl ?_
    refine vCallV F (d' := 5) (x := 0) (T := TX6) (N := 10) (As := [.int 0, .int a1]) (st := []) dX6_worst_10 lk_X6_197 my_X6_bestTurn mv_X6_bestTurn (cqC_0 hs) rfl (by decide) rfl rfl (Nat.le_of_ble_eq_true rfl) (NB_bestTurn_ok hG hs (okB h fun r1 h => ?_))
    show mjV G X 2 13 [(0, .ref (gr G 0)), (1, .int a1)] [.int (r1.1)] (r1.2) P
    refine vGoto F (tgt := 17) dX6_worst_13 (by decide) ?_
    have z := okS h
    exact vIret F dX6_worst_17 z
noncomputable def NB_turned (m : Mm) (a1 : Int32) (a2 : Int32) : Option (Int32 × Mm) :=
  if (Wo_has 11 m a1) = true then
 (if (Wo_has 11 m a2) = true then
 ((Wo_names 11 m a1 a2).bind fun r1 =>
  if r1 = true then
 ((NB_look (Jo_setFalseArm m a1 a2)).bind fun r2 =>
  (Jo_lostPairs r2).bind fun r3 =>
  some (r3.1, (Jo_dropFalseArm (r3.2))))
 else (some ((-3), m)))
 else (some ((-1), m)))
 else (some ((-1), m))
set_option maxRecDepth 20000 in
set_option maxHeartbeats 4000000 in
theorem NB_turned_ok {G : Gw} (hG : gOk G) (hs : gsh G = shC) {a1 : Int32} {a2 : Int32} {m : Mm} {P : Option Value → Mm → Prop} (h : mjO (NB_turned m a1 a2) (fun r => P (some (.int r.1)) r.2)) : mjR G 5 yX6_turned cX6_turned 4 (some .int) [.ref (gr G 0), .int a1, .int a2] m P := by
  refine mjR_of hG (by decide) (Nat.le_of_ble_eq_true rfl) ?_
  intro X F
  have F : mjF G X cX6_turned RX6 4 5 (some .int) := F
  show mjV G X 4 0 [(0, .ref (gr G 0)), (1, .int a1), (2, .int a2)] [] m P
  unfold NB_turned at h
  refine vAloadN F dX6_turned_0 (k := 0) rfl ?_
  refine vGetR F (t := 11) dX6_turned_1 fa_X6_22 (cqC_0 hs) rfl ?_
  refine vIloadN F dX6_turned_4 (k := 1) rfl ?_
  refine vCallV F (d' := 0) (x := 11) (T := TX5) (N := 13) (As := [.int a1]) (st := []) dX6_turned_5 lk_X6_69 my_X5_has mv_X5_has (is_X5_11 hs).1 rfl (by decide) rfl rfl (Nat.le_of_ble_eq_true rfl) (Wo_has_ok hG hs (is_X5_11 hs) ?_)
  show mjV G X 4 8 [(0, .ref (gr G 0)), (1, .int a1), (2, .int a2)] [.int (bI (Wo_has 11 m a1))] m P
  refine vIfEqB F (tgt := 22) dX6_turned_8 (by decide) (fun c6 => ?_) (fun c6 => ?_)
  · replace h := okF h c6
    refine vIconst F (v := (-1)) dX6_turned_22 k_m1 ?_
    have z := okS h
    exact vIret F dX6_turned_23 z
  · replace h := okT h c6
    refine vAloadN F dX6_turned_11 (k := 0) rfl ?_
    refine vGetR F (t := 11) dX6_turned_12 fa_X6_22 (cqC_0 hs) rfl ?_
    refine vIloadN F dX6_turned_15 (k := 2) rfl ?_
    refine vCallV F (d' := 0) (x := 11) (T := TX5) (N := 13) (As := [.int a2]) (st := []) dX6_turned_16 lk_X6_69 my_X5_has mv_X5_has (is_X5_11 hs).1 rfl (by decide) rfl rfl (Nat.le_of_ble_eq_true rfl) (Wo_has_ok hG hs (is_X5_11 hs) ?_)
    show mjV G X 4 19 [(0, .ref (gr G 0)), (1, .int a1), (2, .int a2)] [.int (bI (Wo_has 11 m a2))] m P
    refine vIfNeB F (tgt := 24) dX6_turned_19 (by decide) (fun c5 => ?_) (fun c5 => ?_)
    · replace h := okT h c5
      refine vAloadN F dX6_turned_24 (k := 0) rfl ?_
      refine vGetR F (t := 11) dX6_turned_25 fa_X6_22 (cqC_0 hs) rfl ?_
      refine vIloadN F dX6_turned_28 (k := 1) rfl ?_
      refine vIloadN F dX6_turned_29 (k := 2) rfl ?_
      refine vCallV F (d' := 0) (x := 11) (T := TX5) (N := 13) (As := [.int a1, .int a2]) (st := []) dX6_turned_30 lk_X6_111 my_X5_names mv_X5_names (is_X5_11 hs).1 rfl (by decide) rfl rfl (Nat.le_of_ble_eq_true rfl) (Wo_names_ok hG hs (is_X5_11 hs) (okB h fun r1 h => ?_))
      show mjV G X 4 33 [(0, .ref (gr G 0)), (1, .int a1), (2, .int a2)] [.int (bI r1)] m P
      refine vIfNeB F (tgt := 39) dX6_turned_33 (by decide) (fun c4 => ?_) (fun c4 => ?_)
      · replace h := okT h c4
        refine vAloadN F dX6_turned_39 (k := 0) rfl ?_
        refine vGetR F (t := 1) dX6_turned_40 fa_X6_12 (cqC_0 hs) rfl ?_
        refine vIloadN F dX6_turned_43 (k := 1) rfl ?_
        refine vIloadN F dX6_turned_44 (k := 2) rfl ?_
        refine vCallV F (d' := 1) (x := 1) (T := TX1) (N := 15) (As := [.int a1, .int a2]) (st := []) dX6_turned_45 lk_X6_201 my_X1_setFalseArm mv_X1_setFalseArm (cqC_1 hs) rfl (by decide) rfl rfl (Nat.le_of_ble_eq_true rfl) (Jo_setFalseArm_ok hG hs ?_)
        show mjV G X 4 48 [(0, .ref (gr G 0)), (1, .int a1), (2, .int a2)] [] (Jo_setFalseArm m a1 a2) P
        refine vAloadN F dX6_turned_48 (k := 0) rfl ?_
        refine vCallV F (d' := 4) (x := 0) (T := TX6) (N := 10) (As := []) (st := []) dX6_turned_49 lk_X6_83 my_X6_look mv_X6_look (cqC_0 hs) rfl (by decide) rfl rfl (Nat.le_of_ble_eq_true rfl) (NB_look_ok hG hs (okB h fun r2 h => ?_))
        show mjV G X 4 52 [(0, .ref (gr G 0)), (1, .int a1), (2, .int a2)] [.ref (gr G 1)] r2 P
        refine vCallV F (d' := 2) (x := 1) (T := TX1) (N := 15) (As := []) (st := []) dX6_turned_52 lk_X6_191 my_X1_lostPairs mv_X1_lostPairs (cqC_1 hs) rfl (by decide) rfl rfl (Nat.le_of_ble_eq_true rfl) (Jo_lostPairs_ok hG hs (okB h fun r3 h => ?_))
        show mjV G X 4 55 [(0, .ref (gr G 0)), (1, .int a1), (2, .int a2)] [.int (r3.1)] (r3.2) P
        refine vIstoreN F (L' := [(3, .int (r3.1)), (0, .ref (gr G 0)), (1, .int a1), (2, .int a2)]) dX6_turned_55 rfl (by decide) rfl ?_
        refine vAloadN F dX6_turned_56 (k := 1) rfl ?_
        refine vGetR F (t := 1) dX6_turned_57 fa_X6_12 (cqC_0 hs) rfl ?_
        refine vCallV F (d' := 0) (x := 1) (T := TX1) (N := 15) (As := []) (st := []) dX6_turned_60 lk_X6_204 my_X1_dropFalseArm mv_X1_dropFalseArm (cqC_1 hs) rfl (by decide) rfl rfl (Nat.le_of_ble_eq_true rfl) (Jo_dropFalseArm_ok hG hs ?_)
        show mjV G X 4 63 [(3, .int (r3.1)), (0, .ref (gr G 0)), (1, .int a1), (2, .int a2)] [] (Jo_dropFalseArm (r3.2)) P
        refine vIloadN F dX6_turned_63 (k := 0) rfl ?_
        have z := okS h
        exact vIret F dX6_turned_64 z
      · replace h := okF h c4
        refine vBipush F (v := (-3)) dX6_turned_36 kb_m3 ?_
        have z := okS h
        exact vIret F dX6_turned_38 z
    · replace h := okF h c5
      refine vIconst F (v := (-1)) dX6_turned_22 k_m1 ?_
      have z := okS h
      exact vIret F dX6_turned_23 z
noncomputable def NB_chain_l34 (m : Mm) (a1 : Int32) (a2 : Int32) (s1 : Int32) : Option ((Int32) ⊕ (Unit ⊕ Int32)) :=
  if 7 ≤ s1 then
 (some (.inr (.inl ())))
 else ((Wo_comeToBy 11 m a1 s1).bind fun r3 =>
  if (r3 &&& (1 <<< (a2 &&& 31))) = 0 then
 (some (.inl (s1 + 1)))
 else (some (.inr (.inr s1))))
noncomputable def NB_chain (m : Mm) (a1 : Int32) (a2 : Int32) : Option (Int32) :=
  if (Wo_has 11 m a1) = true then
 (if (Wo_has 11 m a2) = true then
 (if a1 = a2 then
 (some (-2))
 else ((iter (NB_chain_l34 m a1 a2) (1)).bind (Sum.elim (fun e2 => some (-5)) (fun v6 => some v6))))
 else (some (-1)))
 else (some (-1))
set_option maxRecDepth 20000 in
set_option maxHeartbeats 4000000 in
theorem NB_chain_ok {G : Gw} (hG : gOk G) (hs : gsh G = shC) {a1 : Int32} {a2 : Int32} {m : Mm} {P : Option Value → Mm → Prop} (h : mjO (NB_chain m a1 a2) (fun r => P (some (.int r)) m)) : mjR G 1 yX6_chain cX6_chain 4 (some .int) [.ref (gr G 0), .int a1, .int a2] m P := by
  refine mjR_of hG (by decide) (Nat.le_of_ble_eq_true rfl) ?_
  intro X F
  have F : mjF G X cX6_chain RX6 4 1 (some .int) := F
  show mjV G X 4 0 [(0, .ref (gr G 0)), (1, .int a1), (2, .int a2)] [] m P
  unfold NB_chain at h
  refine vAloadN F dX6_chain_0 (k := 0) rfl ?_
  refine vGetR F (t := 11) dX6_chain_1 fa_X6_22 (cqC_0 hs) rfl ?_
  refine vIloadN F dX6_chain_4 (k := 1) rfl ?_
  refine vCallV F (d' := 0) (x := 11) (T := TX5) (N := 13) (As := [.int a1]) (st := []) dX6_chain_5 lk_X6_69 my_X5_has mv_X5_has (is_X5_11 hs).1 rfl (by decide) rfl rfl (Nat.le_of_ble_eq_true rfl) (Wo_has_ok hG hs (is_X5_11 hs) ?_)
  show mjV G X 4 8 [(0, .ref (gr G 0)), (1, .int a1), (2, .int a2)] [.int (bI (Wo_has 11 m a1))] m P
  refine vIfEqB F (tgt := 22) dX6_chain_8 (by decide) (fun c10 => ?_) (fun c10 => ?_)
  · replace h := okF h c10
    refine vIconst F (v := (-1)) dX6_chain_22 k_m1 ?_
    have z := okS h
    exact vIret F dX6_chain_23 z
  · replace h := okT h c10
    refine vAloadN F dX6_chain_11 (k := 0) rfl ?_
    refine vGetR F (t := 11) dX6_chain_12 fa_X6_22 (cqC_0 hs) rfl ?_
    refine vIloadN F dX6_chain_15 (k := 2) rfl ?_
    refine vCallV F (d' := 0) (x := 11) (T := TX5) (N := 13) (As := [.int a2]) (st := []) dX6_chain_16 lk_X6_69 my_X5_has mv_X5_has (is_X5_11 hs).1 rfl (by decide) rfl rfl (Nat.le_of_ble_eq_true rfl) (Wo_has_ok hG hs (is_X5_11 hs) ?_)
    show mjV G X 4 19 [(0, .ref (gr G 0)), (1, .int a1), (2, .int a2)] [.int (bI (Wo_has 11 m a2))] m P
    refine vIfNeB F (tgt := 24) dX6_chain_19 (by decide) (fun c9 => ?_) (fun c9 => ?_)
    · replace h := okT h c9
      refine vIloadN F dX6_chain_24 (k := 1) rfl ?_
      refine vIloadN F dX6_chain_25 (k := 2) rfl ?_
      refine vIcmpNe F (tgt := 32) dX6_chain_26 (by decide) (fun c8 => ?_) (fun c8 => ?_)
      · replace h := okF h c8
        refine vIconst F (v := 1) dX6_chain_32 k_1 ?_
        refine vIstoreN F (L' := [(3, .int 1), (0, .ref (gr G 0)), (1, .int a1), (2, .int a2)]) dX6_chain_33 rfl (by decide) rfl ?_
        refine vSub [1, 2, 3, 0] rfl ?_
        refine okLoop (s0 := (1)) (T := (fun (s1 : Int32) => mjV G X 4 34 [(0, .ref (gr G 0)), (1, .int a1), (2, .int a2), (3, .int s1)] [] m P)) (Ve := (Sum.elim (fun (e2 : Unit) => mjV G X 4 64 [] [] m P) (fun (v6 : Int32) => P (some (.int v6)) m))) h ?_ (fun s1 h => ?_)
        · intro q h
          rcases q with e2 | v6
          · refine vBipush F (v := (-5)) dX6_chain_64 kb_m5 ?_
            have z := okS h
            exact vIret F dX6_chain_66 z
          · have z := okS h
            exact z
        · unfold NB_chain_l34 at h
          refine vIloadN F dX6_chain_34 (k := 3) rfl ?_
          refine vBipush F (v := 7) dX6_chain_35 kb_7 ?_
          refine vIcmpGe F (tgt := 64) dX6_chain_37 (by decide) (fun c5 => ?_) (fun c5 => ?_)
          · replace h := okT h c5
            refine vSub [] rfl ?_
            have z := okR h
            exact z
          · replace h := okF h c5
            refine vAloadN F dX6_chain_40 (k := 0) rfl ?_
            refine vGetR F (t := 11) dX6_chain_41 fa_X6_22 (cqC_0 hs) rfl ?_
            refine vIloadN F dX6_chain_44 (k := 1) rfl ?_
            refine vIloadN F dX6_chain_45 (k := 3) rfl ?_
            refine vCallV F (d' := 0) (x := 11) (T := TX5) (N := 13) (As := [.int a1, .int s1]) (st := []) dX6_chain_46 lk_X6_207 my_X5_comeToBy mv_X5_comeToBy (is_X5_11 hs).1 rfl (by decide) rfl rfl (Nat.le_of_ble_eq_true rfl) (Wo_comeToBy_ok hG hs (is_X5_11 hs) (okB h fun r3 h => ?_))
            show mjV G X 4 49 [(0, .ref (gr G 0)), (1, .int a1), (2, .int a2), (3, .int s1)] [.int r3] m P
            refine vIconst F (v := 1) dX6_chain_49 k_1 ?_
            refine vIloadN F dX6_chain_50 (k := 2) rfl ?_
            refine vIshl F dX6_chain_51 ?_
            refine vIand F dX6_chain_52 ?_
            refine vIfEq F (tgt := 58) dX6_chain_53 (by decide) (fun c4 => ?_) (fun c4 => ?_)
            · replace h := okT h c4
              refine vIinc F (v := 1) (k := 3) (L' := [(3, .int (s1 + 1)), (0, .ref (gr G 0)), (1, .int a1), (2, .int a2)]) dX6_chain_58 rfl k_1 (by decide) rfl ?_
              refine vGoto F (tgt := 34) dX6_chain_61 (by decide) ?_
              refine vSub [1, 2, 3, 0] rfl ?_
              have z := okL h
              exact z
            · replace h := okF h c4
              refine vIloadN F dX6_chain_56 (k := 3) rfl ?_
              have z := okR h
              exact vIret F dX6_chain_57 z
      · replace h := okT h c8
        refine vBipush F (v := (-2)) dX6_chain_29 kb_m2 ?_
        have z := okS h
        exact vIret F dX6_chain_31 z
    · replace h := okF h c9
      refine vIconst F (v := (-1)) dX6_chain_22 k_m1 ?_
      have z := okS h
      exact vIret F dX6_chain_23 z
noncomputable def NB_allIn_l28 (m : Mm) (a1 : Int32) (s1 : Int32) : Option ((Int32) ⊕ (Unit ⊕ Int32)) :=
  if (m.1 11 0) ≤ s1 then
 (some (.inr (.inl ())))
 else ((Wo_comeToBy 11 m s1 a1).bind fun r3 =>
  if r3 = ((1 <<< ((m.1 11 0) &&& 31)) - 1) then
 (some (.inl (s1 + 1)))
 else (some (.inr (.inr 0))))
noncomputable def NB_allIn (m : Mm) (a1 : Int32) : Option (Int32) :=
  if a1 < 1 then
 (some (-2))
 else (if a1 ≤ 6 then
 ((iter (NB_allIn_l28 m a1) (0)).bind (Sum.elim (fun e2 => some 1) (fun v6 => some v6)))
 else (some (-2)))
set_option maxRecDepth 20000 in
set_option maxHeartbeats 4000000 in
theorem NB_allIn_ok {G : Gw} (hG : gOk G) (hs : gsh G = shC) {a1 : Int32} {m : Mm} {P : Option Value → Mm → Prop} (h : mjO (NB_allIn m a1) (fun r => P (some (.int r)) m)) : mjR G 1 yX6_allIn cX6_allIn 4 (some .int) [.ref (gr G 0), .int a1] m P := by
  refine mjR_of hG (by decide) (Nat.le_of_ble_eq_true rfl) ?_
  intro X F
  have F : mjF G X cX6_allIn RX6 4 1 (some .int) := F
  show mjV G X 4 0 [(0, .ref (gr G 0)), (1, .int a1)] [] m P
  unfold NB_allIn at h
  refine vIloadN F dX6_allIn_0 (k := 1) rfl ?_
  refine vIconst F (v := 1) dX6_allIn_1 k_1 ?_
  refine vIcmpLt F (tgt := 11) dX6_allIn_2 (by decide) (fun c9 => ?_) (fun c9 => ?_)
  · replace h := okT h c9
    refine vBipush F (v := (-2)) dX6_allIn_11 kb_m2 ?_
    have z := okS h
    exact vIret F dX6_allIn_13 z
  · replace h := okF h c9
    refine vIloadN F dX6_allIn_5 (k := 1) rfl ?_
    refine vBipush F (v := 6) dX6_allIn_6 kb_6 ?_
    refine vIcmpLe F (tgt := 14) dX6_allIn_8 (by decide) (fun c8 => ?_) (fun c8 => ?_)
    · replace h := okT h c8
      refine vIconst F (v := 1) dX6_allIn_14 k_1 ?_
      refine vAloadN F dX6_allIn_15 (k := 0) rfl ?_
      refine vGetR F (t := 11) dX6_allIn_16 fa_X6_22 (cqC_0 hs) rfl ?_
      refine vGetI F dX6_allIn_19 fa_X6_61 (is_X5_11 hs).1 rfl ?_
      refine vIshl F dX6_allIn_22 ?_
      refine vIconst F (v := 1) dX6_allIn_23 k_1 ?_
      refine vIsub F dX6_allIn_24 ?_
      refine vIstoreN F (L' := [(2, .int ((1 <<< ((m.1 11 0) &&& 31)) - 1)), (0, .ref (gr G 0)), (1, .int a1)]) dX6_allIn_25 rfl (by decide) rfl ?_
      refine vIconst F (v := 0) dX6_allIn_26 k_0 ?_
      refine vIstoreN F (L' := [(3, .int 0), (2, .int ((1 <<< ((m.1 11 0) &&& 31)) - 1)), (0, .ref (gr G 0)), (1, .int a1)]) dX6_allIn_27 rfl (by decide) rfl ?_
      refine vSub [2, 3, 1, 0] rfl ?_
      refine okLoop (s0 := (0)) (T := (fun (s1 : Int32) => mjV G X 4 28 [(0, .ref (gr G 0)), (1, .int a1), (2, .int ((1 <<< ((m.1 11 0) &&& 31)) - 1)), (3, .int s1)] [] m P)) (Ve := (Sum.elim (fun (e2 : Unit) => mjV G X 4 60 [] [] m P) (fun (v6 : Int32) => P (some (.int v6)) m))) h ?_ (fun s1 h => ?_)
      · intro q h
        rcases q with e2 | v6
        · refine vIconst F (v := 1) dX6_allIn_60 k_1 ?_
          have z := okS h
          exact vIret F dX6_allIn_61 z
        · have z := okS h
          exact z
      · unfold NB_allIn_l28 at h
        refine vIloadN F dX6_allIn_28 (k := 3) rfl ?_
        refine vAloadN F dX6_allIn_29 (k := 0) rfl ?_
        refine vGetR F (t := 11) dX6_allIn_30 fa_X6_22 (cqC_0 hs) rfl ?_
        refine vGetI F dX6_allIn_33 fa_X6_61 (is_X5_11 hs).1 rfl ?_
        refine vIcmpGe F (tgt := 60) dX6_allIn_36 (by decide) (fun c5 => ?_) (fun c5 => ?_)
        · replace h := okT h c5
          refine vSub [] rfl ?_
          have z := okR h
          exact z
        · replace h := okF h c5
          refine vAloadN F dX6_allIn_39 (k := 0) rfl ?_
          refine vGetR F (t := 11) dX6_allIn_40 fa_X6_22 (cqC_0 hs) rfl ?_
          refine vIloadN F dX6_allIn_43 (k := 3) rfl ?_
          refine vIloadN F dX6_allIn_44 (k := 1) rfl ?_
          refine vCallV F (d' := 0) (x := 11) (T := TX5) (N := 13) (As := [.int s1, .int a1]) (st := []) dX6_allIn_45 lk_X6_207 my_X5_comeToBy mv_X5_comeToBy (is_X5_11 hs).1 rfl (by decide) rfl rfl (Nat.le_of_ble_eq_true rfl) (Wo_comeToBy_ok hG hs (is_X5_11 hs) (okB h fun r3 h => ?_))
          show mjV G X 4 48 [(0, .ref (gr G 0)), (1, .int a1), (2, .int ((1 <<< ((m.1 11 0) &&& 31)) - 1)), (3, .int s1)] [.int r3] m P
          refine vIloadN F dX6_allIn_48 (k := 2) rfl ?_
          refine vIcmpEq F (tgt := 54) dX6_allIn_49 (by decide) (fun c4 => ?_) (fun c4 => ?_)
          · replace h := okT h c4
            refine vIinc F (v := 1) (k := 3) (L' := [(3, .int (s1 + 1)), (0, .ref (gr G 0)), (1, .int a1), (2, .int ((1 <<< ((m.1 11 0) &&& 31)) - 1))]) dX6_allIn_54 rfl k_1 (by decide) rfl ?_
            refine vGoto F (tgt := 28) dX6_allIn_57 (by decide) ?_
            refine vSub [1, 2, 3, 0] rfl ?_
            have z := okL h
            exact z
          · replace h := okF h c4
            refine vIconst F (v := 0) dX6_allIn_52 k_0 ?_
            have z := okR h
            exact vIret F dX6_allIn_53 z
    · replace h := okF h c8
      refine vBipush F (v := (-2)) dX6_allIn_11 kb_m2 ?_
      have z := okS h
      exact vIret F dX6_allIn_13 z
def NB_capitals_l6 (m : Mm) (s1 : Int32 × Int32 × Int32) : Option ((Int32 × Int32 × Int32) ⊕ Int32) :=
  if (m.1 11 0) ≤ (s1.2.2) then
 (some (.inr (s1.2.1)))
 else (ga (s1.2.2) 7 (jn (fun (e4 : Int32 × Int32) => if (JI_bitCount (m.1 (11 + 5) (s1.2.2).toNatClampNeg)) = (e4.1) then
 (some (.inl (e4.1, (e4.2) ||| (1 <<< ((s1.2.2) &&& 31)), (s1.2.2) + 1)))
 else (some (.inl (e4.1, e4.2, (s1.2.2) + 1)))) fun j5 =>
  if (JI_bitCount (m.1 (11 + 5) (s1.2.2).toNatClampNeg)) ≤ (s1.1) then
 (j5 (s1.1, s1.2.1))
 else (j5 ((JI_bitCount (m.1 (11 + 5) (s1.2.2).toNatClampNeg)), 0))))
noncomputable def NB_capitals (m : Mm) : Option (Int32) :=
  (iter (NB_capitals_l6 m) (0, 0, 0)).bind fun e2 =>
  some e2
set_option maxRecDepth 20000 in
set_option maxHeartbeats 4000000 in
theorem NB_capitals_ok {G : Gw} (hG : gOk G) (hs : gsh G = shC) {m : Mm} {P : Option Value → Mm → Prop} (h : mjO (NB_capitals m) (fun r => P (some (.int r)) m)) : mjR G 1 yX6_capitals cX6_capitals 5 (some .int) [.ref (gr G 0)] m P := by
  refine mjR_of hG (by decide) (Nat.le_of_ble_eq_true rfl) ?_
  intro X F
  have F : mjF G X cX6_capitals RX6 5 1 (some .int) := F
  show mjV G X 5 0 [(0, .ref (gr G 0))] [] m P
  unfold NB_capitals at h
  refine vIconst F (v := 0) dX6_capitals_0 k_0 ?_
  refine vIstoreN F (L' := [(1, .int 0), (0, .ref (gr G 0))]) dX6_capitals_1 rfl (by decide) rfl ?_
  refine vIconst F (v := 0) dX6_capitals_2 k_0 ?_
  refine vIstoreN F (L' := [(2, .int 0), (1, .int 0), (0, .ref (gr G 0))]) dX6_capitals_3 rfl (by decide) rfl ?_
  refine vIconst F (v := 0) dX6_capitals_4 k_0 ?_
  refine vIstoreN F (L' := [(3, .int 0), (2, .int 0), (1, .int 0), (0, .ref (gr G 0))]) dX6_capitals_5 rfl (by decide) rfl ?_
  refine vSub [3, 2, 1, 0] rfl ?_
  refine okLoop (s0 := (0, 0, 0)) (T := (fun (s1 : Int32 × Int32 × Int32) => mjV G X 5 6 [(0, .ref (gr G 0)), (1, .int (s1.1)), (2, .int (s1.2.1)), (3, .int (s1.2.2))] [] m P)) (Ve := (fun (e2 : Int32) => mjV G X 5 60 [(2, .int e2)] [] m P)) h ?_ (fun s1 h => ?_)
  · intro e2 h
    refine vIloadN F dX6_capitals_60 (k := 0) rfl ?_
    have z := okS h
    exact vIret F dX6_capitals_61 z
  · unfold NB_capitals_l6 at h
    refine vIloadN F dX6_capitals_6 (k := 3) rfl ?_
    refine vAloadN F dX6_capitals_7 (k := 0) rfl ?_
    refine vGetR F (t := 11) dX6_capitals_8 fa_X6_22 (cqC_0 hs) rfl ?_
    refine vGetI F dX6_capitals_11 fa_X6_61 (is_X5_11 hs).1 rfl ?_
    refine vIcmpGe F (tgt := 60) dX6_capitals_14 (by decide) (fun c8 => ?_) (fun c8 => ?_)
    · replace h := okT h c8
      refine vSub [2] rfl ?_
      have z := okR h
      exact z
    · replace h := okF h c8
      refine vAloadN F dX6_capitals_17 (k := 0) rfl ?_
      refine vGetR F (t := 11) dX6_capitals_18 fa_X6_22 (cqC_0 hs) rfl ?_
      refine vGetR F (t := 11 + 5) dX6_capitals_21 fa_X6_90 (is_X5_11 hs).1 rfl ?_
      refine vIloadN F dX6_capitals_24 (k := 3) rfl ?_
      obtain ⟨g3, h⟩ := okga h
      refine vIald F dX6_capitals_25 (is_X5_11 hs).2.2.2.2.2.1 g3 ?_
      refine vCallS F (d' := 0) (As := [.int (m.1 (11 + 5) (s1.2.2).toNatClampNeg)]) (st := []) dX6_capitals_26 lk_X6_122 my_J6_bitCount_0f7a4 sy_J6_bitCount_0f7a4 (by decide) rfl rfl (Nat.le_of_ble_eq_true rfl) (JI_bitCount_ok hG ?_)
      show mjV G X 5 29 [(0, .ref (gr G 0)), (1, .int (s1.1)), (2, .int (s1.2.1)), (3, .int (s1.2.2))] [.int (JI_bitCount (m.1 (11 + 5) (s1.2.2).toNatClampNeg))] m P
      refine vIstore F (L' := [(4, .int (JI_bitCount (m.1 (11 + 5) (s1.2.2).toNatClampNeg))), (0, .ref (gr G 0)), (1, .int (s1.1)), (2, .int (s1.2.1)), (3, .int (s1.2.2))]) dX6_capitals_29 (by decide) rfl ?_
      refine vIload F dX6_capitals_31 (k := 0) rfl ?_
      refine vIloadN F dX6_capitals_33 (k := 2) rfl ?_
      refine okJ (Vj := fun (e4 : Int32 × Int32) => mjV G X 5 42 [(0, .ref (gr G 0)), (1, .int (e4.1)), (2, .int (e4.2)), (3, .int (s1.2.2)), (4, .int (JI_bitCount (m.1 (11 + 5) (s1.2.2).toNatClampNeg)))] [] m P) h (fun e4 h => ?_) (fun j5 Jj5 h => ?_)
      · refine vIload F dX6_capitals_42 (k := 4) rfl ?_
        refine vIloadN F dX6_capitals_44 (k := 1) rfl ?_
        refine vIcmpNe F (tgt := 54) dX6_capitals_45 (by decide) (fun c6 => ?_) (fun c6 => ?_)
        · replace h := okF h c6
          refine vIinc F (v := 1) (k := 3) (L' := [(3, .int ((s1.2.2) + 1)), (0, .ref (gr G 0)), (1, .int (e4.1)), (2, .int (e4.2)), (4, .int (JI_bitCount (m.1 (11 + 5) (s1.2.2).toNatClampNeg)))]) dX6_capitals_54 rfl k_1 (by decide) rfl ?_
          refine vGoto F (tgt := 6) dX6_capitals_57 (by decide) ?_
          refine vSub [1, 2, 3, 0] rfl ?_
          have z := okL h
          exact z
        · replace h := okT h c6
          refine vIloadN F dX6_capitals_48 (k := 2) rfl ?_
          refine vIconst F (v := 1) dX6_capitals_49 k_1 ?_
          refine vIloadN F dX6_capitals_50 (k := 3) rfl ?_
          refine vIshl F dX6_capitals_51 ?_
          refine vIor F dX6_capitals_52 ?_
          refine vIstoreN F (L' := [(2, .int ((e4.2) ||| (1 <<< ((s1.2.2) &&& 31)))), (0, .ref (gr G 0)), (1, .int (e4.1)), (3, .int (s1.2.2)), (4, .int (JI_bitCount (m.1 (11 + 5) (s1.2.2).toNatClampNeg)))]) dX6_capitals_53 rfl (by decide) rfl ?_
          refine vIinc F (v := 1) (k := 3) (L' := [(3, .int ((s1.2.2) + 1)), (2, .int ((e4.2) ||| (1 <<< ((s1.2.2) &&& 31)))), (0, .ref (gr G 0)), (1, .int (e4.1)), (4, .int (JI_bitCount (m.1 (11 + 5) (s1.2.2).toNatClampNeg)))]) dX6_capitals_54 rfl k_1 (by decide) rfl ?_
          refine vGoto F (tgt := 6) dX6_capitals_57 (by decide) ?_
          refine vSub [2, 3, 1, 0] rfl ?_
          have z := okL h
          exact z
      · refine vIcmpLe F (tgt := 42) dX6_capitals_34 (by decide) (fun c7 => ?_) (fun c7 => ?_)
        · replace h := okT h c7
          refine vSub [1, 2, 3, 4, 0] rfl ?_
          exact Jj5 (s1.1, s1.2.1) h
        · replace h := okF h c7
          refine vIload F dX6_capitals_37 (k := 0) rfl ?_
          refine vIstoreN F (L' := [(1, .int (JI_bitCount (m.1 (11 + 5) (s1.2.2).toNatClampNeg))), (4, .int (JI_bitCount (m.1 (11 + 5) (s1.2.2).toNatClampNeg))), (0, .ref (gr G 0)), (2, .int (s1.2.1)), (3, .int (s1.2.2))]) dX6_capitals_39 rfl (by decide) rfl ?_
          refine vIconst F (v := 0) dX6_capitals_40 k_0 ?_
          refine vIstoreN F (L' := [(2, .int 0), (1, .int (JI_bitCount (m.1 (11 + 5) (s1.2.2).toNatClampNeg))), (4, .int (JI_bitCount (m.1 (11 + 5) (s1.2.2).toNatClampNeg))), (0, .ref (gr G 0)), (3, .int (s1.2.2))]) dX6_capitals_41 rfl (by decide) rfl ?_
          refine vSub [3, 1, 0, 4, 2] rfl ?_
          exact Jj5 ((JI_bitCount (m.1 (11 + 5) (s1.2.2).toNatClampNeg)), 0) h
noncomputable def NB_allWaysWith (m : Mm) (a1 : Int32) (a2 : Int32) (a3 : Int32) : Option (Int32 × Mm) :=
  (Wo_setMiles 11 m a1 a2 a3).bind fun r1 =>
  (NB_look r1).bind fun r2 =>
  (Jo_allWays r2).bind fun r3 =>
  (Wo_setMiles 11 r2 a1 a2 0).bind fun r4 =>
  some (r3, r4)
set_option maxRecDepth 20000 in
set_option maxHeartbeats 4000000 in
theorem NB_allWaysWith_ok {G : Gw} (hG : gOk G) (hs : gsh G = shC) {a1 : Int32} {a2 : Int32} {a3 : Int32} {m : Mm} {P : Option Value → Mm → Prop} (h : mjO (NB_allWaysWith m a1 a2 a3) (fun r => P (some (.int r.1)) r.2)) : mjR G 5 yX6_allWaysWith cX6_allWaysWith 5 (some .int) [.ref (gr G 0), .int a1, .int a2, .int a3] m P := by
  refine mjR_of hG (by decide) (Nat.le_of_ble_eq_true rfl) ?_
  intro X F
  have F : mjF G X cX6_allWaysWith RX6 5 5 (some .int) := F
  show mjV G X 5 0 [(0, .ref (gr G 0)), (1, .int a1), (2, .int a2), (3, .int a3)] [] m P
  unfold NB_allWaysWith at h
  refine vAloadN F dX6_allWaysWith_0 (k := 0) rfl ?_
  refine vGetR F (t := 11) dX6_allWaysWith_1 fa_X6_22 (cqC_0 hs) rfl ?_
  refine vIloadN F dX6_allWaysWith_4 (k := 1) rfl ?_
  refine vIloadN F dX6_allWaysWith_5 (k := 2) rfl ?_
  refine vIloadN F dX6_allWaysWith_6 (k := 3) rfl ?_
  refine vCallV F (d' := 1) (x := 11) (T := TX5) (N := 13) (As := [.int a1, .int a2, .int a3]) (st := []) dX6_allWaysWith_7 lk_X6_104 my_X5_setMiles mv_X5_setMiles (is_X5_11 hs).1 rfl (by decide) rfl rfl (Nat.le_of_ble_eq_true rfl) (Wo_setMiles_ok hG hs (is_X5_11 hs) (okB h fun r1 h => ?_))
  show mjV G X 5 10 [(0, .ref (gr G 0)), (1, .int a1), (2, .int a2), (3, .int a3)] [] r1 P
  refine vAloadN F dX6_allWaysWith_10 (k := 0) rfl ?_
  refine vCallV F (d' := 4) (x := 0) (T := TX6) (N := 10) (As := []) (st := []) dX6_allWaysWith_11 lk_X6_83 my_X6_look mv_X6_look (cqC_0 hs) rfl (by decide) rfl rfl (Nat.le_of_ble_eq_true rfl) (NB_look_ok hG hs (okB h fun r2 h => ?_))
  show mjV G X 5 14 [(0, .ref (gr G 0)), (1, .int a1), (2, .int a2), (3, .int a3)] [.ref (gr G 1)] r2 P
  refine vCallV F (d' := 2) (x := 1) (T := TX1) (N := 15) (As := []) (st := []) dX6_allWaysWith_14 lk_X6_210 my_X1_allWays mv_X1_allWays (cqC_1 hs) rfl (by decide) rfl rfl (Nat.le_of_ble_eq_true rfl) (Jo_allWays_ok hG hs (okB h fun r3 h => ?_))
  show mjV G X 5 17 [(0, .ref (gr G 0)), (1, .int a1), (2, .int a2), (3, .int a3)] [.int r3] r2 P
  refine vIstore F (L' := [(4, .int r3), (0, .ref (gr G 0)), (1, .int a1), (2, .int a2), (3, .int a3)]) dX6_allWaysWith_17 (by decide) rfl ?_
  refine vAloadN F dX6_allWaysWith_19 (k := 1) rfl ?_
  refine vGetR F (t := 11) dX6_allWaysWith_20 fa_X6_22 (cqC_0 hs) rfl ?_
  refine vIloadN F dX6_allWaysWith_23 (k := 2) rfl ?_
  refine vIloadN F dX6_allWaysWith_24 (k := 3) rfl ?_
  refine vIconst F (v := 0) dX6_allWaysWith_25 k_0 ?_
  refine vCallV F (d' := 1) (x := 11) (T := TX5) (N := 13) (As := [.int a1, .int a2, .int 0]) (st := []) dX6_allWaysWith_26 lk_X6_104 my_X5_setMiles mv_X5_setMiles (is_X5_11 hs).1 rfl (by decide) rfl rfl (Nat.le_of_ble_eq_true rfl) (Wo_setMiles_ok hG hs (is_X5_11 hs) (okB h fun r4 h => ?_))
  show mjV G X 5 29 [(4, .int r3), (0, .ref (gr G 0)), (1, .int a1), (2, .int a2), (3, .int a3)] [] r4 P
  refine vIload F dX6_allWaysWith_29 (k := 0) rfl ?_
  have z := okS h
  exact vIret F dX6_allWaysWith_31 z
