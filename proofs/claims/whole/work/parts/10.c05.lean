def NB_isTape (a1 : Int32) : Bool :=
  if a1 < 0 then
 (false)
 else (if 6 ≤ a1 then
 (false)
 else (true))
set_option maxRecDepth 20000 in
set_option maxHeartbeats 4000000 in
theorem NB_isTape_ok {G : Gw} (hG : gOk G) (hs : gsh G = shC) {a1 : Int32} {m : Mm} {P : Option Value → Mm → Prop} (h : P (some (.int (bI (NB_isTape a1)))) m) : mjR G 0 yX6_isTape cX6_isTape 1 (some .boolean) [.int a1] m P := by
  refine mjR_of hG (by decide) (Nat.le_of_ble_eq_true rfl) ?_
  intro X F
  have F : mjF G X cX6_isTape RX6 1 0 (some .boolean) := F
  show mjV G X 1 0 [(0, .int a1)] [] m P
  have h : mjO (some (NB_isTape a1)) (fun r => P (some (.int (bI r))) m) := ⟨_, rfl, h⟩
  unfold NB_isTape at h
  refine vIloadN F dX6_isTape_0 (k := 0) rfl ?_
  refine vIfLt F (tgt := 14) dX6_isTape_1 (by decide) (fun c2 => ?_) (fun c2 => ?_)
  · replace h := okTT h c2
    refine vIconst F (v := 0) dX6_isTape_14 k_0 ?_
    have z := okS h
    exact vZret (x := bI false) F dX6_isTape_15 (nzI _) z
  · replace h := okFT h c2
    refine vIloadN F dX6_isTape_4 (k := 0) rfl ?_
    refine vBipush F (v := 6) dX6_isTape_5 kb_6 ?_
    refine vIcmpGe F (tgt := 14) dX6_isTape_7 (by decide) (fun c1 => ?_) (fun c1 => ?_)
    · replace h := okTT h c1
      refine vIconst F (v := 0) dX6_isTape_14 k_0 ?_
      have z := okS h
      exact vZret (x := bI false) F dX6_isTape_15 (nzI _) z
    · replace h := okFT h c1
      refine vIconst F (v := 1) dX6_isTape_10 k_1 ?_
      refine vGoto F (tgt := 15) dX6_isTape_11 (by decide) ?_
      have z := okS h
      exact vZret (x := bI true) F dX6_isTape_15 (nzI _) z
def NB_judge_l43 (a1 : Int32) (a2 : Int32) (r4 : Mm) (s5 : Int32) : Option ((Int32) ⊕ (Unit ⊕ (Int32 × Mm))) :=
  if (r4.1 11 0) ≤ s5 then
 (some (.inr (.inl ())))
 else (if a2 < 0 then
 (some (.inr (.inr (100 + s5, r4))))
 else (if a2 < ((r4.1 (77 + 2 * a1.toNatClampNeg) 1) - s5) then
 (ga (a2 + s5) 60 (ga s5 7 (if (lg_cmp (r4.2.1 (77 + 2 * a1.toNatClampNeg + 1) (a2 + s5).toNatClampNeg) ((r4.1 3 s5.toNatClampNeg).toInt64)) = 0 then
 (some (.inl (s5 + 1)))
 else (some (.inr (.inr (s5, r4)))))))
 else (some (.inr (.inr (100 + s5, r4))))))
noncomputable def NB_judge (m : Mm) (a1 : Int32) (a2 : Int32) : Option (Int32 × Mm) :=
  if (NB_isTape a1) = true then
 (ga a1 6 (jn (fun (e2 : Unit) => (NB_look m).bind fun r4 =>
  (iter (NB_judge_l43 a1 a2 r4) (0)).bind (Sum.elim (fun e6 => some ((-5), r4)) (fun v13 => some v13))) fun j3 =>
  if (m.1 (77 + 2 * a1.toNatClampNeg) 0) = (-1) then
 (j3 ())
 else (if (m.1 (77 + 2 * a1.toNatClampNeg) 0) = 2 then
 (j3 ())
 else (some ((-12), m)))))
 else (some ((-1), m))
set_option maxRecDepth 20000 in
set_option maxHeartbeats 4000000 in
theorem NB_judge_ok {G : Gw} (hG : gOk G) (hs : gsh G = shC) {a1 : Int32} {a2 : Int32} {m : Mm} {P : Option Value → Mm → Prop} (h : mjO (NB_judge m a1 a2) (fun r => P (some (.int r.1)) r.2)) : mjR G 5 yX6_judge cX6_judge 5 (some .int) [.ref (gr G 0), .int a1, .int a2] m P := by
  refine mjR_of hG (by decide) (Nat.le_of_ble_eq_true rfl) ?_
  intro X F
  have F : mjF G X cX6_judge RX6 5 5 (some .int) := F
  show mjV G X 5 0 [(0, .ref (gr G 0)), (1, .int a1), (2, .int a2)] [] m P
  unfold NB_judge at h
  refine vIloadN F dX6_judge_0 (k := 1) rfl ?_
  refine vCallS F (d' := 0) (As := [.int a1]) (st := []) dX6_judge_1 lk_X6_243 my_X6_isTape sy_X6_isTape (by decide) rfl rfl (Nat.le_of_ble_eq_true rfl) (NB_isTape_ok hG hs ?_)
  show mjV G X 5 4 [(0, .ref (gr G 0)), (1, .int a1), (2, .int a2)] [.int (bI (NB_isTape a1))] m P
  refine vIfNeB F (tgt := 9) dX6_judge_4 (by decide) (fun c17 => ?_) (fun c17 => ?_)
  · replace h := okT h c17
    refine vAloadN F dX6_judge_9 (k := 0) rfl ?_
    refine vGetR F (t := 76) dX6_judge_10 fa_X6_56 (cqC_0 hs) rfl ?_
    refine vIloadN F dX6_judge_13 (k := 1) rfl ?_
    obtain ⟨g1, h⟩ := okga h
    refine vAald5 F dX6_judge_14 (cqC_76 hs) g1 ?_
    show mjV G X 5 15 [(0, .ref (gr G 0)), (1, .int a1), (2, .int a2)] [.ref (gr G (77 + 2 * a1.toNatClampNeg))] m P
    refine vAstoreN F (L' := [(3, .ref (gr G (77 + 2 * a1.toNatClampNeg))), (0, .ref (gr G 0)), (1, .int a1), (2, .int a2)]) dX6_judge_15 rfl (by decide) rfl ?_
    refine vAloadN F dX6_judge_16 (k := 0) rfl ?_
    refine vGetI F dX6_judge_17 fa_X6_246 (is_X4_at hs g1).1 rfl ?_
    refine vIconst F (v := (-1)) dX6_judge_20 k_m1 ?_
    refine okJ (Vj := fun (e2 : Unit) => mjV G X 5 35 [(0, .ref (gr G 0)), (2, .int a2), (3, .ref (gr G (77 + 2 * a1.toNatClampNeg)))] [] m P) h (fun e2 h => ?_) (fun j3 Jj3 h => ?_)
    · refine vAloadN F dX6_judge_35 (k := 0) rfl ?_
      refine vCallV F (d' := 4) (x := 0) (T := TX6) (N := 10) (As := []) (st := []) dX6_judge_36 lk_X6_83 my_X6_look mv_X6_look (cqC_0 hs) rfl (by decide) rfl rfl (Nat.le_of_ble_eq_true rfl) (NB_look_ok hG hs (okB h fun r4 h => ?_))
      show mjV G X 5 39 [(0, .ref (gr G 0)), (2, .int a2), (3, .ref (gr G (77 + 2 * a1.toNatClampNeg)))] [.ref (gr G 1)] r4 P
      refine vPop F dX6_judge_39 rfl ?_
      refine vIconst F (v := 0) dX6_judge_40 k_0 ?_
      refine vIstore F (L' := [(4, .int 0), (0, .ref (gr G 0)), (2, .int a2), (3, .ref (gr G (77 + 2 * a1.toNatClampNeg)))]) dX6_judge_41 (by decide) rfl ?_
      refine vSub [1, 2, 3, 0] rfl ?_
      refine okLoop (s0 := (0)) (T := (fun (s5 : Int32) => mjV G X 5 43 [(0, .ref (gr G 0)), (2, .int a2), (3, .ref (gr G (77 + 2 * a1.toNatClampNeg))), (4, .int s5)] [] r4 P)) (Ve := (Sum.elim (fun (e6 : Unit) => mjV G X 5 109 [] [] r4 P) (fun (v13 : Int32 × Mm) => P (some (.int v13.1)) v13.2))) h ?_ (fun s5 h => ?_)
      · intro q h
        rcases q with e6 | v13
        · refine vBipush F (v := (-5)) dX6_judge_109 kb_m5 ?_
          have z := okS h
          exact vIret F dX6_judge_111 z
        · have z := okS h
          exact z
      · unfold NB_judge_l43 at h
        refine vIload F dX6_judge_43 (k := 3) rfl ?_
        refine vAloadN F dX6_judge_45 (k := 0) rfl ?_
        refine vGetR F (t := 11) dX6_judge_46 fa_X6_22 (cqC_0 hs) rfl ?_
        refine vGetI F dX6_judge_49 fa_X6_61 (is_X5_11 hs).1 rfl ?_
        refine vIcmpGe F (tgt := 109) dX6_judge_52 (by decide) (fun c12 => ?_) (fun c12 => ?_)
        · replace h := okT h c12
          refine vSub [] rfl ?_
          have z := okR h
          exact z
        · replace h := okF h c12
          refine vIloadN F dX6_judge_55 (k := 1) rfl ?_
          refine vIfLt F (tgt := 70) dX6_judge_56 (by decide) (fun c11 => ?_) (fun c11 => ?_)
          · replace h := okT h c11
            refine vBipush F (v := 100) dX6_judge_70 kb_100 ?_
            refine vIload F dX6_judge_72 (k := 3) rfl ?_
            refine vIadd F dX6_judge_74 ?_
            have z := okR h
            exact vIret F dX6_judge_75 z
          · replace h := okF h c11
            refine vIloadN F dX6_judge_59 (k := 1) rfl ?_
            refine vAloadN F dX6_judge_60 (k := 2) rfl ?_
            refine vGetI F dX6_judge_61 fa_X6_249 (is_X4_at hs g1).1 rfl ?_
            refine vIload F dX6_judge_64 (k := 3) rfl ?_
            refine vIsub F dX6_judge_66 ?_
            refine vIcmpLt F (tgt := 76) dX6_judge_67 (by decide) (fun c10 => ?_) (fun c10 => ?_)
            · replace h := okT h c10
              refine vAloadN F dX6_judge_76 (k := 2) rfl ?_
              refine vGetR F (t := (77 + 2 * a1.toNatClampNeg) + 1) dX6_judge_77 fa_X6_250 (is_X4_at hs g1).1 rfl ?_
              refine vIloadN F dX6_judge_80 (k := 1) rfl ?_
              refine vIload F dX6_judge_81 (k := 3) rfl ?_
              refine vIadd F dX6_judge_83 ?_
              obtain ⟨g7, h⟩ := okga h
              refine vLald F dX6_judge_84 (is_X4_at hs g1).2 g7 ?_
              refine vAloadN F dX6_judge_85 (k := 0) rfl ?_
              refine vGetR F (t := 1) dX6_judge_86 fa_X6_12 (cqC_0 hs) rfl ?_
              refine vGetR F (t := 3) dX6_judge_89 fa_X6_87 (cqC_1 hs) rfl ?_
              refine vIload F dX6_judge_92 (k := 3) rfl ?_
              obtain ⟨g8, h⟩ := okga h
              refine vIald F dX6_judge_94 (cqC_3 hs) g8 ?_
              refine vI2l F dX6_judge_95 ?_
              refine vLcmp F dX6_judge_96 ?_
              refine vIfEq F (tgt := 103) dX6_judge_97 (by decide) (fun c9 => ?_) (fun c9 => ?_)
              · replace h := okT h c9
                refine vIinc F (v := 1) (k := 3) (L' := [(4, .int (s5 + 1)), (0, .ref (gr G 0)), (2, .int a2), (3, .ref (gr G (77 + 2 * a1.toNatClampNeg)))]) dX6_judge_103 rfl k_1 (by decide) rfl ?_
                refine vGoto F (tgt := 43) dX6_judge_106 (by decide) ?_
                refine vSub [1, 2, 3, 0] rfl ?_
                have z := okL h
                exact z
              · replace h := okF h c9
                refine vIload F dX6_judge_100 (k := 3) rfl ?_
                have z := okR h
                exact vIret F dX6_judge_102 z
            · replace h := okF h c10
              refine vBipush F (v := 100) dX6_judge_70 kb_100 ?_
              refine vIload F dX6_judge_72 (k := 3) rfl ?_
              refine vIadd F dX6_judge_74 ?_
              have z := okR h
              exact vIret F dX6_judge_75 z
    · refine vIcmpEq F (tgt := 35) dX6_judge_21 (by decide) (fun c16 => ?_) (fun c16 => ?_)
      · replace h := okT h c16
        refine vSub [1, 3, 0] rfl ?_
        exact Jj3 () h
      · replace h := okF h c16
        refine vAloadN F dX6_judge_24 (k := 0) rfl ?_
        refine vGetI F dX6_judge_25 fa_X6_246 (is_X4_at hs g1).1 rfl ?_
        refine vIconst F (v := 2) dX6_judge_28 k_2 ?_
        refine vIcmpEq F (tgt := 35) dX6_judge_29 (by decide) (fun c15 => ?_) (fun c15 => ?_)
        · replace h := okT h c15
          refine vSub [1, 3, 0] rfl ?_
          exact Jj3 () h
        · replace h := okF h c15
          refine vBipush F (v := (-12)) dX6_judge_32 kb_m12 ?_
          have z := okS h
          exact vIret F dX6_judge_34 z
  · replace h := okF h c17
    refine vIconst F (v := (-1)) dX6_judge_7 k_m1 ?_
    have z := okS h
    exact vIret F dX6_judge_8 z
def NB_image (m : Mm) : Option (Int32 × Mm) :=
  (Wo_becomeAs 21 m 11).bind fun r1 =>
  some ((si r1 0 3 1).1 11 0, si r1 0 3 1)
set_option maxRecDepth 20000 in
set_option maxHeartbeats 4000000 in
theorem NB_image_ok {G : Gw} (hG : gOk G) (hs : gsh G = shC) {m : Mm} {P : Option Value → Mm → Prop} (h : mjO (NB_image m) (fun r => P (some (.int r.1)) r.2)) : mjR G 1 yX6_image cX6_image 1 (some .int) [.ref (gr G 0)] m P := by
  refine mjR_of hG (by decide) (Nat.le_of_ble_eq_true rfl) ?_
  intro X F
  have F : mjF G X cX6_image RX6 1 1 (some .int) := F
  show mjV G X 1 0 [(0, .ref (gr G 0))] [] m P
  unfold NB_image at h
  refine vAloadN F dX6_image_0 (k := 0) rfl ?_
  refine vGetR F (t := 21) dX6_image_1 fa_X6_26 (cqC_0 hs) rfl ?_
  refine vAloadN F dX6_image_4 (k := 0) rfl ?_
  refine vGetR F (t := 11) dX6_image_5 fa_X6_22 (cqC_0 hs) rfl ?_
  refine vCallV F (d' := 0) (x := 21) (T := TX5) (N := 13) (As := [.ref (gr G 11)]) (st := []) dX6_image_8 lk_X6_254 my_X5_becomeAs mv_X5_becomeAs (is_X5_21 hs).1 rfl (by decide) rfl rfl (Nat.le_of_ble_eq_true rfl) (Wo_becomeAs_ok hG hs (is_X5_21 hs) (is_X5_11 hs) (okB h fun r1 h => ?_))
  show mjV G X 1 11 [(0, .ref (gr G 0))] [] r1 P
  refine vAloadN F dX6_image_11 (k := 0) rfl ?_
  refine vIconst F (v := 1) dX6_image_12 k_1 ?_
  refine vPutI F dX6_image_13 fw_X6_258 (cqC_0 hs) rfl ⟨rfl, rfl⟩ ?_
  refine vAloadN F dX6_image_16 (k := 0) rfl ?_
  refine vGetR F (t := 11) dX6_image_17 fa_X6_22 (cqC_0 hs) rfl ?_
  refine vGetI F dX6_image_20 fa_X6_61 (is_X5_11 hs).1 rfl ?_
  have z := okS h
  exact vIret F dX6_image_23 z
def NB_undo (m : Mm) : Option (Int32 × Mm) :=
  if (m.1 0 3) = 0 then
 (some ((-3), m))
 else ((Wo_becomeAs 11 m 21).bind fun r1 =>
  some (r1.1 11 0, r1))
set_option maxRecDepth 20000 in
set_option maxHeartbeats 4000000 in
theorem NB_undo_ok {G : Gw} (hG : gOk G) (hs : gsh G = shC) {m : Mm} {P : Option Value → Mm → Prop} (h : mjO (NB_undo m) (fun r => P (some (.int r.1)) r.2)) : mjR G 1 yX6_undo cX6_undo 1 (some .int) [.ref (gr G 0)] m P := by
  refine mjR_of hG (by decide) (Nat.le_of_ble_eq_true rfl) ?_
  intro X F
  have F : mjF G X cX6_undo RX6 1 1 (some .int) := F
  show mjV G X 1 0 [(0, .ref (gr G 0))] [] m P
  unfold NB_undo at h
  refine vAloadN F dX6_undo_0 (k := 0) rfl ?_
  refine vGetI F dX6_undo_1 fa_X6_258 (cqC_0 hs) rfl ?_
  refine vIfNe F (tgt := 10) dX6_undo_4 (by decide) (fun c2 => ?_) (fun c2 => ?_)
  · replace h := okF h c2
    refine vAloadN F dX6_undo_10 (k := 0) rfl ?_
    refine vGetR F (t := 11) dX6_undo_11 fa_X6_22 (cqC_0 hs) rfl ?_
    refine vAloadN F dX6_undo_14 (k := 0) rfl ?_
    refine vGetR F (t := 21) dX6_undo_15 fa_X6_26 (cqC_0 hs) rfl ?_
    refine vCallV F (d' := 0) (x := 11) (T := TX5) (N := 13) (As := [.ref (gr G 21)]) (st := []) dX6_undo_18 lk_X6_254 my_X5_becomeAs mv_X5_becomeAs (is_X5_11 hs).1 rfl (by decide) rfl rfl (Nat.le_of_ble_eq_true rfl) (Wo_becomeAs_ok hG hs (is_X5_11 hs) (is_X5_21 hs) (okB h fun r1 h => ?_))
    show mjV G X 1 21 [(0, .ref (gr G 0))] [] r1 P
    refine vAloadN F dX6_undo_21 (k := 0) rfl ?_
    refine vGetR F (t := 11) dX6_undo_22 fa_X6_22 (cqC_0 hs) rfl ?_
    refine vGetI F dX6_undo_25 fa_X6_61 (is_X5_11 hs).1 rfl ?_
    have z := okS h
    exact vIret F dX6_undo_28 z
  · replace h := okT h c2
    refine vBipush F (v := (-3)) dX6_undo_7 kb_m3 ?_
    have z := okS h
    exact vIret F dX6_undo_9 z
def NB_act (m : Mm) (a1 : Int32) (a2 : Int32) (a3 : Int32) : Option (Int32 × Mm) :=
  if (Wo_has 11 (Ac_forget m) a1) = true then
 (ga a1 7 (ga a1 7 (if a2 = 0 then
 (ga a1 7 ((Ac_points (Ac_standAt (Ac_forget m) a1 ((Ac_forget m).1 (11 + 1) a1.toNatClampNeg) ((Ac_forget m).1 (11 + 2) a1.toNatClampNeg)) ((Ac_standAt (Ac_forget m) a1 ((Ac_forget m).1 (11 + 1) a1.toNatClampNeg) ((Ac_forget m).1 (11 + 2) a1.toNatClampNeg)).1 (11 + 1) a1.toNatClampNeg) a3 0).bind fun r5 =>
  some (r5.1, r5.2)))
 else (if a2 = 1 then
 (ga a1 7 ((Ac_names (Ac_standAt (Ac_forget m) a1 ((Ac_forget m).1 (11 + 1) a1.toNatClampNeg) ((Ac_forget m).1 (11 + 2) a1.toNatClampNeg)) ((Ac_standAt (Ac_forget m) a1 ((Ac_forget m).1 (11 + 1) a1.toNatClampNeg) ((Ac_forget m).1 (11 + 2) a1.toNatClampNeg)).1 (11 + 1) a1.toNatClampNeg) a3 0).bind fun r8 =>
  some (r8.1, r8.2)))
 else (if a2 = 2 then
 (ga a1 7 ((Ac_tells (Ac_standAt (Ac_forget m) a1 ((Ac_forget m).1 (11 + 1) a1.toNatClampNeg) ((Ac_forget m).1 (11 + 2) a1.toNatClampNeg)) ((Ac_standAt (Ac_forget m) a1 ((Ac_forget m).1 (11 + 1) a1.toNatClampNeg) ((Ac_forget m).1 (11 + 2) a1.toNatClampNeg)).1 (11 + 1) a1.toNatClampNeg) a3 0).bind fun r11 =>
  some (r11.1, r11.2)))
 else (some (0, (Ac_standAt (Ac_forget m) a1 ((Ac_forget m).1 (11 + 1) a1.toNatClampNeg) ((Ac_forget m).1 (11 + 2) a1.toNatClampNeg)))))))))
 else (some (0, (Ac_forget m)))
set_option maxRecDepth 20000 in
set_option maxHeartbeats 4000000 in
theorem NB_act_ok {G : Gw} (hG : gOk G) (hs : gsh G = shC) {a1 : Int32} {a2 : Int32} {a3 : Int32} {m : Mm} {P : Option Value → Mm → Prop} (h : mjO (NB_act m a1 a2 a3) (fun r => P (some (.int r.1)) r.2)) : mjR G 28 yX6_act cX6_act 4 (some .int) [.ref (gr G 0), .int a1, .int a2, .int a3] m P := by
  refine mjR_of hG (by decide) (Nat.le_of_ble_eq_true rfl) ?_
  intro X F
  have F : mjF G X cX6_act RX6 4 28 (some .int) := F
  show mjV G X 4 0 [(0, .ref (gr G 0)), (1, .int a1), (2, .int a2), (3, .int a3)] [] m P
  unfold NB_act at h
  refine vAloadN F dX6_act_0 (k := 0) rfl ?_
  refine vGetR F (t := 74) dX6_act_1 fa_X6_50 (cqC_0 hs) rfl ?_
  refine vCallV F (d' := 0) (x := 74) (T := TX0) (N := 5) (As := []) (st := []) dX6_act_4 lk_X6_262 my_X0_forget mv_X0_forget (cqC_74 hs) rfl (by decide) rfl rfl (Nat.le_of_ble_eq_true rfl) (Ac_forget_ok hG hs ?_)
  show mjV G X 4 7 [(0, .ref (gr G 0)), (1, .int a1), (2, .int a2), (3, .int a3)] [] (Ac_forget m) P
  refine vAloadN F dX6_act_7 (k := 0) rfl ?_
  refine vGetR F (t := 11) dX6_act_8 fa_X6_22 (cqC_0 hs) rfl ?_
  refine vIloadN F dX6_act_11 (k := 1) rfl ?_
  refine vCallV F (d' := 0) (x := 11) (T := TX5) (N := 13) (As := [.int a1]) (st := []) dX6_act_12 lk_X6_69 my_X5_has mv_X5_has (is_X5_11 hs).1 rfl (by decide) rfl rfl (Nat.le_of_ble_eq_true rfl) (Wo_has_ok hG hs (is_X5_11 hs) ?_)
  show mjV G X 4 15 [(0, .ref (gr G 0)), (1, .int a1), (2, .int a2), (3, .int a3)] [.int (bI (Wo_has 11 (Ac_forget m) a1))] (Ac_forget m) P
  refine vIfNeB F (tgt := 20) dX6_act_15 (by decide) (fun c12 => ?_) (fun c12 => ?_)
  · replace h := okT h c12
    refine vAloadN F dX6_act_20 (k := 0) rfl ?_
    refine vGetR F (t := 74) dX6_act_21 fa_X6_50 (cqC_0 hs) rfl ?_
    refine vIloadN F dX6_act_24 (k := 1) rfl ?_
    refine vAloadN F dX6_act_25 (k := 0) rfl ?_
    refine vGetR F (t := 11) dX6_act_26 fa_X6_22 (cqC_0 hs) rfl ?_
    refine vGetR F (t := 11 + 1) dX6_act_29 fa_X6_73 (is_X5_11 hs).1 rfl ?_
    refine vIloadN F dX6_act_32 (k := 1) rfl ?_
    obtain ⟨g1, h⟩ := okga h
    refine vIald F dX6_act_33 (is_X5_11 hs).2.1 g1 ?_
    refine vAloadN F dX6_act_34 (k := 0) rfl ?_
    refine vGetR F (t := 11) dX6_act_35 fa_X6_22 (cqC_0 hs) rfl ?_
    refine vGetR F (t := 11 + 2) dX6_act_38 fa_X6_77 (is_X5_11 hs).1 rfl ?_
    refine vIloadN F dX6_act_41 (k := 1) rfl ?_
    obtain ⟨g2, h⟩ := okga h
    refine vIald F dX6_act_42 (is_X5_11 hs).2.2.1 g2 ?_
    refine vCallV F (d' := 0) (x := 74) (T := TX0) (N := 5) (As := [.int a1, .int ((Ac_forget m).1 (11 + 1) a1.toNatClampNeg), .int ((Ac_forget m).1 (11 + 2) a1.toNatClampNeg)]) (st := []) dX6_act_43 lk_X6_265 my_X0_standAt mv_X0_standAt (cqC_74 hs) rfl (by decide) rfl rfl (Nat.le_of_ble_eq_true rfl) (Ac_standAt_ok hG hs ?_)
    show mjV G X 4 46 [(0, .ref (gr G 0)), (1, .int a1), (2, .int a2), (3, .int a3)] [] (Ac_standAt (Ac_forget m) a1 ((Ac_forget m).1 (11 + 1) a1.toNatClampNeg) ((Ac_forget m).1 (11 + 2) a1.toNatClampNeg)) P
    refine vIloadN F dX6_act_46 (k := 2) rfl ?_
    by_cases c3 : a2 = 0
    · replace h := okT h c3
      refine vTabIn F (tgt := 72) dX6_act_47 c3 (by decide) (by decide) rfl (by decide) ?_
      refine vAloadN F dX6_act_72 (k := 0) rfl ?_
      refine vGetR F (t := 74) dX6_act_73 fa_X6_50 (cqC_0 hs) rfl ?_
      refine vAloadN F dX6_act_76 (k := 0) rfl ?_
      refine vGetR F (t := 11) dX6_act_77 fa_X6_22 (cqC_0 hs) rfl ?_
      refine vGetR F (t := 11 + 1) dX6_act_80 fa_X6_73 (is_X5_11 hs).1 rfl ?_
      refine vIloadN F dX6_act_83 (k := 1) rfl ?_
      obtain ⟨g4, h⟩ := okga h
      refine vIald F dX6_act_84 (is_X5_11 hs).2.1 g4 ?_
      refine vIloadN F dX6_act_85 (k := 3) rfl ?_
      refine vIconst F (v := 0) dX6_act_86 k_0 ?_
      refine vCallV F (d' := 9) (x := 74) (T := TX0) (N := 5) (As := [.int ((Ac_standAt (Ac_forget m) a1 ((Ac_forget m).1 (11 + 1) a1.toNatClampNeg) ((Ac_forget m).1 (11 + 2) a1.toNatClampNeg)).1 (11 + 1) a1.toNatClampNeg), .int a3, .int 0]) (st := []) dX6_act_87 lk_X6_268 my_X0_points mv_X0_points (cqC_74 hs) rfl (by decide) rfl rfl (Nat.le_of_ble_eq_true rfl) (Ac_points_ok hG hs (okB h fun r5 h => ?_))
      show mjV G X 4 90 [(0, .ref (gr G 0)), (1, .int a1), (2, .int a2), (3, .int a3)] [.int (r5.1)] (r5.2) P
      have z := okS h
      exact vIret F dX6_act_90 z
    replace h := okF h c3
    by_cases c6 : a2 = 1
    · replace h := okT h c6
      refine vTabIn F (tgt := 91) dX6_act_47 c6 (by decide) (by decide) rfl (by decide) ?_
      refine vAloadN F dX6_act_91 (k := 0) rfl ?_
      refine vGetR F (t := 74) dX6_act_92 fa_X6_50 (cqC_0 hs) rfl ?_
      refine vAloadN F dX6_act_95 (k := 0) rfl ?_
      refine vGetR F (t := 11) dX6_act_96 fa_X6_22 (cqC_0 hs) rfl ?_
      refine vGetR F (t := 11 + 1) dX6_act_99 fa_X6_73 (is_X5_11 hs).1 rfl ?_
      refine vIloadN F dX6_act_102 (k := 1) rfl ?_
      obtain ⟨g7, h⟩ := okga h
      refine vIald F dX6_act_103 (is_X5_11 hs).2.1 g7 ?_
      refine vIloadN F dX6_act_104 (k := 3) rfl ?_
      refine vIconst F (v := 0) dX6_act_105 k_0 ?_
      refine vCallV F (d' := 18) (x := 74) (T := TX0) (N := 5) (As := [.int ((Ac_standAt (Ac_forget m) a1 ((Ac_forget m).1 (11 + 1) a1.toNatClampNeg) ((Ac_forget m).1 (11 + 2) a1.toNatClampNeg)).1 (11 + 1) a1.toNatClampNeg), .int a3, .int 0]) (st := []) dX6_act_106 lk_X6_271 my_X0_names mv_X0_names (cqC_74 hs) rfl (by decide) rfl rfl (Nat.le_of_ble_eq_true rfl) (Ac_names_ok hG hs (okB h fun r8 h => ?_))
      show mjV G X 4 109 [(0, .ref (gr G 0)), (1, .int a1), (2, .int a2), (3, .int a3)] [.int (r8.1)] (r8.2) P
      have z := okS h
      exact vIret F dX6_act_109 z
    replace h := okF h c6
    by_cases c9 : a2 = 2
    · replace h := okT h c9
      refine vTabIn F (tgt := 110) dX6_act_47 c9 (by decide) (by decide) rfl (by decide) ?_
      refine vAloadN F dX6_act_110 (k := 0) rfl ?_
      refine vGetR F (t := 74) dX6_act_111 fa_X6_50 (cqC_0 hs) rfl ?_
      refine vAloadN F dX6_act_114 (k := 0) rfl ?_
      refine vGetR F (t := 11) dX6_act_115 fa_X6_22 (cqC_0 hs) rfl ?_
      refine vGetR F (t := 11 + 1) dX6_act_118 fa_X6_73 (is_X5_11 hs).1 rfl ?_
      refine vIloadN F dX6_act_121 (k := 1) rfl ?_
      obtain ⟨g10, h⟩ := okga h
      refine vIald F dX6_act_122 (is_X5_11 hs).2.1 g10 ?_
      refine vIloadN F dX6_act_123 (k := 3) rfl ?_
      refine vIconst F (v := 0) dX6_act_124 k_0 ?_
      refine vCallV F (d' := 27) (x := 74) (T := TX0) (N := 5) (As := [.int ((Ac_standAt (Ac_forget m) a1 ((Ac_forget m).1 (11 + 1) a1.toNatClampNeg) ((Ac_forget m).1 (11 + 2) a1.toNatClampNeg)).1 (11 + 1) a1.toNatClampNeg), .int a3, .int 0]) (st := []) dX6_act_125 lk_X6_273 my_X0_tells mv_X0_tells (cqC_74 hs) rfl (by decide) rfl rfl (Nat.le_of_ble_eq_true rfl) (Ac_tells_ok hG hs (okB h fun r11 h => ?_))
      show mjV G X 4 128 [(0, .ref (gr G 0)), (1, .int a1), (2, .int a2), (3, .int a3)] [.int (r11.1)] (r11.2) P
      have z := okS h
      exact vIret F dX6_act_128 z
    replace h := okF h c9
    replace c3 := lv_neT c3 (a := 0) (by decide)
    replace c6 := lv_neT c6 (a := 1) (by decide)
    replace c9 := lv_neT c9 (a := 2) (by decide)
    refine vTabOut F (tgt := 129) dX6_act_47 (by omega) (by decide) ?_
    refine vIconst F (v := 0) dX6_act_129 k_0 ?_
    have z := okS h
    exact vIret F dX6_act_130 z
  · replace h := okF h c12
    refine vIconst F (v := 0) dX6_act_18 k_0 ?_
    have z := okS h
    exact vIret F dX6_act_19 z
def NB_trace (m : Mm) (a1 : Int32) : Option (Int32) :=
  if a1 < 0 then
 (some (-1))
 else (if 20 ≤ a1 then
 (some (-1))
 else (if (m.1 74 1) ≤ a1 then
 (some (-1))
 else (ga a1 20 (some (m.1 75 a1.toNatClampNeg)))))
set_option maxRecDepth 20000 in
set_option maxHeartbeats 4000000 in
theorem NB_trace_ok {G : Gw} (hG : gOk G) (hs : gsh G = shC) {a1 : Int32} {m : Mm} {P : Option Value → Mm → Prop} (h : mjO (NB_trace m a1) (fun r => P (some (.int r)) m)) : mjR G 0 yX6_trace cX6_trace 2 (some .int) [.ref (gr G 0), .int a1] m P := by
  refine mjR_of hG (by decide) (Nat.le_of_ble_eq_true rfl) ?_
  intro X F
  have F : mjF G X cX6_trace RX6 2 0 (some .int) := F
  show mjV G X 2 0 [(0, .ref (gr G 0)), (1, .int a1)] [] m P
  unfold NB_trace at h
  refine vIloadN F dX6_trace_0 (k := 1) rfl ?_
  refine vIfLt F (tgt := 33) dX6_trace_1 (by decide) (fun c4 => ?_) (fun c4 => ?_)
  · replace h := okT h c4
    refine vIconst F (v := (-1)) dX6_trace_33 k_m1 ?_
    have z := okS h
    exact vIret F dX6_trace_34 z
  · replace h := okF h c4
    refine vIloadN F dX6_trace_4 (k := 1) rfl ?_
    refine vBipush F (v := 20) dX6_trace_5 kb_20 ?_
    refine vIcmpGe F (tgt := 33) dX6_trace_7 (by decide) (fun c3 => ?_) (fun c3 => ?_)
    · replace h := okT h c3
      refine vIconst F (v := (-1)) dX6_trace_33 k_m1 ?_
      have z := okS h
      exact vIret F dX6_trace_34 z
    · replace h := okF h c3
      refine vIloadN F dX6_trace_10 (k := 1) rfl ?_
      refine vAloadN F dX6_trace_11 (k := 0) rfl ?_
      refine vGetR F (t := 74) dX6_trace_12 fa_X6_50 (cqC_0 hs) rfl ?_
      refine vGetI F dX6_trace_15 fa_X6_276 (cqC_74 hs) rfl ?_
      refine vIcmpGe F (tgt := 33) dX6_trace_18 (by decide) (fun c2 => ?_) (fun c2 => ?_)
      · replace h := okT h c2
        refine vIconst F (v := (-1)) dX6_trace_33 k_m1 ?_
        have z := okS h
        exact vIret F dX6_trace_34 z
      · replace h := okF h c2
        refine vAloadN F dX6_trace_21 (k := 0) rfl ?_
        refine vGetR F (t := 74) dX6_trace_22 fa_X6_50 (cqC_0 hs) rfl ?_
        refine vGetR F (t := 75) dX6_trace_25 fa_X6_279 (cqC_74 hs) rfl ?_
        refine vIloadN F dX6_trace_28 (k := 1) rfl ?_
        obtain ⟨g1, h⟩ := okga h
        refine vIald F dX6_trace_29 (cqC_75 hs) g1 ?_
        refine vGoto F (tgt := 34) dX6_trace_30 (by decide) ?_
        have z := okS h
        exact vIret F dX6_trace_34 z
def NB_isUnder_l4 (a2 : Int32) (s1 : Int32 × Int32) : Option ((Int32 × Int32) ⊕ (Unit ⊕ Bool)) :=
  if 7 ≤ (s1.2) then
 (some (.inr (.inl ())))
 else (if (s1.1) < 0 then
 (some (.inr (.inl ())))
 else (if 7 ≤ (s1.1) then
 (some (.inr (.inl ())))
 else (if (s1.1) = a2 then
 (some (.inr (.inr true)))
 else (ga (s1.1) 7 (some (.inl (tabA (s1.1), (s1.2) + 1)))))))
noncomputable def NB_isUnder (m : Mm) (a1 : Int32) (a2 : Int32) : Option (Bool) :=
  (iter (NB_isUnder_l4 a2) (a1, 0)).bind (Sum.elim (fun e2 => some false) (fun v9 => some v9))
set_option maxRecDepth 20000 in
set_option maxHeartbeats 4000000 in
theorem NB_isUnder_ok {G : Gw} (hG : gOk G) (hs : gsh G = shC) {a1 : Int32} {a2 : Int32} {m : Mm} {P : Option Value → Mm → Prop} (h : mjO (NB_isUnder m a1 a2) (fun r => P (some (.int (bI r))) m)) : mjR G 0 yX6_isUnder cX6_isUnder 4 (some .boolean) [.int a1, .int a2] m P := by
  refine mjR_of hG (by decide) (Nat.le_of_ble_eq_true rfl) ?_
  intro X F
  have F : mjF G X cX6_isUnder RX6 4 0 (some .boolean) := F
  show mjV G X 4 0 [(0, .int a1), (1, .int a2)] [] m P
  unfold NB_isUnder at h
  refine vIloadN F dX6_isUnder_0 (k := 0) rfl ?_
  refine vIstoreN F (L' := [(2, .int a1), (0, .int a1), (1, .int a2)]) dX6_isUnder_1 rfl (by decide) rfl ?_
  refine vIconst F (v := 0) dX6_isUnder_2 k_0 ?_
  refine vIstoreN F (L' := [(3, .int 0), (2, .int a1), (0, .int a1), (1, .int a2)]) dX6_isUnder_3 rfl (by decide) rfl ?_
  refine vSub [3, 1, 0] rfl ?_
  refine okLoop (s0 := (a1, 0)) (T := (fun (s1 : Int32 × Int32) => mjV G X 4 4 [(1, .int a2), (2, .int (s1.1)), (3, .int (s1.2))] [] m P)) (Ve := (Sum.elim (fun (e2 : Unit) => mjV G X 4 39 [] [] m P) (fun (v9 : Bool) => P (some (.int (bI v9))) m))) h ?_ (fun s1 h => ?_)
  · intro q h
    rcases q with e2 | v9
    · refine vIconst F (v := 0) dX6_isUnder_39 k_0 ?_
      have z := okS h
      exact vZret (x := bI false) F dX6_isUnder_40 (nzI _) z
    · have z := okS h
      exact z
  · unfold NB_isUnder_l4 at h
    refine vIloadN F dX6_isUnder_4 (k := 2) rfl ?_
    refine vBipush F (v := 7) dX6_isUnder_5 kb_7 ?_
    refine vIcmpGe F (tgt := 39) dX6_isUnder_7 (by decide) (fun c8 => ?_) (fun c8 => ?_)
    · replace h := okT h c8
      refine vSub [] rfl ?_
      have z := okR h
      exact z
    · replace h := okF h c8
      refine vIloadN F dX6_isUnder_10 (k := 1) rfl ?_
      refine vIfLt F (tgt := 39) dX6_isUnder_11 (by decide) (fun c7 => ?_) (fun c7 => ?_)
      · replace h := okT h c7
        refine vSub [] rfl ?_
        have z := okR h
        exact z
      · replace h := okF h c7
        refine vIloadN F dX6_isUnder_14 (k := 1) rfl ?_
        refine vBipush F (v := 7) dX6_isUnder_15 kb_7 ?_
        refine vIcmpGe F (tgt := 39) dX6_isUnder_17 (by decide) (fun c6 => ?_) (fun c6 => ?_)
        · replace h := okT h c6
          refine vSub [] rfl ?_
          have z := okR h
          exact z
        · replace h := okF h c6
          refine vIloadN F dX6_isUnder_20 (k := 1) rfl ?_
          refine vIloadN F dX6_isUnder_21 (k := 0) rfl ?_
          refine vIcmpNe F (tgt := 27) dX6_isUnder_22 (by decide) (fun c5 => ?_) (fun c5 => ?_)
          · replace h := okF h c5
            refine vGetA F dX6_isUnder_27 (fun t3 ht3 => ?_)
            refine vIloadN F dX6_isUnder_30 (k := 1) rfl ?_
            obtain ⟨g4, h⟩ := okga h
            refine vTabA F dX6_isUnder_31 ht3 g4 ?_
            refine vIstoreN F (L' := [(2, .int (tabA (s1.1))), (1, .int a2), (3, .int (s1.2))]) dX6_isUnder_32 rfl (by decide) rfl ?_
            refine vIinc F (v := 1) (k := 2) (L' := [(3, .int ((s1.2) + 1)), (2, .int (tabA (s1.1))), (1, .int a2)]) dX6_isUnder_33 rfl k_1 (by decide) rfl ?_
            refine vGoto F (tgt := 4) dX6_isUnder_36 (by decide) ?_
            refine vSub [2, 1, 0] rfl ?_
            have z := okL h
            exact z
          · replace h := okT h c5
            refine vIconst F (v := 1) dX6_isUnder_25 k_1 ?_
            have z := okR h
            exact vZret (x := bI true) F dX6_isUnder_26 (nzI _) z
noncomputable def NB_taken (m : Mm) (a1 : Int32) (a2 : Int32) : Option (Int32) :=
  if a2 < 0 then
 (some (-2))
 else (if a2 ≤ 6 then
 (if (Wo_has 11 m a1) = true then
 (ga a1 7 ((NB_isUnder m (m.1 (11 + 1) a1.toNatClampNeg) a2).bind fun r2 =>
  if r2 = true then
 (ga a1 7 (some (m.1 (11 + 1) a1.toNatClampNeg)))
 else (some (-12))))
 else (some (-11)))
 else (some (-2)))
set_option maxRecDepth 20000 in
set_option maxHeartbeats 4000000 in
theorem NB_taken_ok {G : Gw} (hG : gOk G) (hs : gsh G = shC) {a1 : Int32} {a2 : Int32} {m : Mm} {P : Option Value → Mm → Prop} (h : mjO (NB_taken m a1 a2) (fun r => P (some (.int r)) m)) : mjR G 1 yX6_taken cX6_taken 3 (some .int) [.ref (gr G 0), .int a1, .int a2] m P := by
  refine mjR_of hG (by decide) (Nat.le_of_ble_eq_true rfl) ?_
  intro X F
  have F : mjF G X cX6_taken RX6 3 1 (some .int) := F
  show mjV G X 3 0 [(0, .ref (gr G 0)), (1, .int a1), (2, .int a2)] [] m P
  unfold NB_taken at h
  refine vIloadN F dX6_taken_0 (k := 2) rfl ?_
  refine vIfLt F (tgt := 10) dX6_taken_1 (by decide) (fun c7 => ?_) (fun c7 => ?_)
  · replace h := okT h c7
    refine vBipush F (v := (-2)) dX6_taken_10 kb_m2 ?_
    have z := okS h
    exact vIret F dX6_taken_12 z
  · replace h := okF h c7
    refine vIloadN F dX6_taken_4 (k := 2) rfl ?_
    refine vBipush F (v := 6) dX6_taken_5 kb_6 ?_
    refine vIcmpLe F (tgt := 13) dX6_taken_7 (by decide) (fun c6 => ?_) (fun c6 => ?_)
    · replace h := okT h c6
      refine vAloadN F dX6_taken_13 (k := 0) rfl ?_
      refine vGetR F (t := 11) dX6_taken_14 fa_X6_22 (cqC_0 hs) rfl ?_
      refine vIloadN F dX6_taken_17 (k := 1) rfl ?_
      refine vCallV F (d' := 0) (x := 11) (T := TX5) (N := 13) (As := [.int a1]) (st := []) dX6_taken_18 lk_X6_69 my_X5_has mv_X5_has (is_X5_11 hs).1 rfl (by decide) rfl rfl (Nat.le_of_ble_eq_true rfl) (Wo_has_ok hG hs (is_X5_11 hs) ?_)
      show mjV G X 3 21 [(0, .ref (gr G 0)), (1, .int a1), (2, .int a2)] [.int (bI (Wo_has 11 m a1))] m P
      refine vIfNeB F (tgt := 27) dX6_taken_21 (by decide) (fun c5 => ?_) (fun c5 => ?_)
      · replace h := okT h c5
        refine vAloadN F dX6_taken_27 (k := 0) rfl ?_
        refine vGetR F (t := 11) dX6_taken_28 fa_X6_22 (cqC_0 hs) rfl ?_
        refine vGetR F (t := 11 + 1) dX6_taken_31 fa_X6_73 (is_X5_11 hs).1 rfl ?_
        refine vIloadN F dX6_taken_34 (k := 1) rfl ?_
        obtain ⟨g1, h⟩ := okga h
        refine vIald F dX6_taken_35 (is_X5_11 hs).2.1 g1 ?_
        refine vIloadN F dX6_taken_36 (k := 2) rfl ?_
        refine vCallS F (d' := 0) (As := [.int (m.1 (11 + 1) a1.toNatClampNeg), .int a2]) (st := []) dX6_taken_37 lk_X6_282 my_X6_isUnder sy_X6_isUnder (by decide) rfl rfl (Nat.le_of_ble_eq_true rfl) (NB_isUnder_ok hG hs (okB h fun r2 h => ?_))
        show mjV G X 3 40 [(0, .ref (gr G 0)), (1, .int a1), (2, .int a2)] [.int (bI r2)] m P
        refine vIfEqB F (tgt := 55) dX6_taken_40 (by decide) (fun c4 => ?_) (fun c4 => ?_)
        · replace h := okF h c4
          refine vBipush F (v := (-12)) dX6_taken_55 kb_m12 ?_
          have z := okS h
          exact vIret F dX6_taken_57 z
        · replace h := okT h c4
          refine vAloadN F dX6_taken_43 (k := 0) rfl ?_
          refine vGetR F (t := 11) dX6_taken_44 fa_X6_22 (cqC_0 hs) rfl ?_
          refine vGetR F (t := 11 + 1) dX6_taken_47 fa_X6_73 (is_X5_11 hs).1 rfl ?_
          refine vIloadN F dX6_taken_50 (k := 1) rfl ?_
          obtain ⟨g3, h⟩ := okga h
          refine vIald F dX6_taken_51 (is_X5_11 hs).2.1 g3 ?_
          refine vGoto F (tgt := 57) dX6_taken_52 (by decide) ?_
          have z := okS h
          exact vIret F dX6_taken_57 z
      · replace h := okF h c5
        refine vBipush F (v := (-11)) dX6_taken_24 kb_m11 ?_
        have z := okS h
        exact vIret F dX6_taken_26 z
    · replace h := okF h c6
      refine vBipush F (v := (-2)) dX6_taken_10 kb_m2 ?_
      have z := okS h
      exact vIret F dX6_taken_12 z
def NB_count (m : Mm) (a1 : Int32) : Int32 :=
  if a1 = 0 then
 (m.1 11 0)
 else (if a1 = 1 then
 (m.1 0 6)
 else (if a1 = 2 then
 (m.1 11 6)
 else (if a1 = 3 then
 (m.1 11 10)
 else (if a1 = 4 then
 (m.1 67 1)
 else (if a1 = 5 then
 (m.1 74 1)
 else ((-2)))))))
set_option maxRecDepth 20000 in
set_option maxHeartbeats 4000000 in
theorem NB_count_ok {G : Gw} (hG : gOk G) (hs : gsh G = shC) {a1 : Int32} {m : Mm} {P : Option Value → Mm → Prop} (h : P (some (.int (NB_count m a1))) m) : mjR G 0 yX6_count cX6_count 2 (some .int) [.ref (gr G 0), .int a1] m P := by
  refine mjR_of hG (by decide) (Nat.le_of_ble_eq_true rfl) ?_
  intro X F
  have F : mjF G X cX6_count RX6 2 0 (some .int) := F
  show mjV G X 2 0 [(0, .ref (gr G 0)), (1, .int a1)] [] m P
  have h : mjO (some (NB_count m a1)) (fun r => P (some (.int r)) m) := ⟨_, rfl, h⟩
  unfold NB_count at h
  refine vIloadN F dX6_count_0 (k := 1) rfl ?_
  by_cases c1 : a1 = 0
  · replace h := okTT h c1
    refine vTabIn F (tgt := 40) dX6_count_1 c1 (by decide) (by decide) rfl (by decide) ?_
    refine vAloadN F dX6_count_40 (k := 0) rfl ?_
    refine vGetR F (t := 11) dX6_count_41 fa_X6_22 (cqC_0 hs) rfl ?_
    refine vGetI F dX6_count_44 fa_X6_61 (is_X5_11 hs).1 rfl ?_
    have z := okS h
    exact vIret F dX6_count_47 z
  replace h := okFT h c1
  by_cases c2 : a1 = 1
  · replace h := okTT h c2
    refine vTabIn F (tgt := 48) dX6_count_1 c2 (by decide) (by decide) rfl (by decide) ?_
    refine vAloadN F dX6_count_48 (k := 0) rfl ?_
    refine vGetI F dX6_count_49 fa_X6_140 (cqC_0 hs) rfl ?_
    have z := okS h
    exact vIret F dX6_count_52 z
  replace h := okFT h c2
  by_cases c3 : a1 = 2
  · replace h := okTT h c3
    refine vTabIn F (tgt := 53) dX6_count_1 c3 (by decide) (by decide) rfl (by decide) ?_
    refine vAloadN F dX6_count_53 (k := 0) rfl ?_
    refine vGetR F (t := 11) dX6_count_54 fa_X6_22 (cqC_0 hs) rfl ?_
    refine vGetI F dX6_count_57 fa_X6_127 (is_X5_11 hs).1 rfl ?_
    have z := okS h
    exact vIret F dX6_count_60 z
  replace h := okFT h c3
  by_cases c4 : a1 = 3
  · replace h := okTT h c4
    refine vTabIn F (tgt := 61) dX6_count_1 c4 (by decide) (by decide) rfl (by decide) ?_
    refine vAloadN F dX6_count_61 (k := 0) rfl ?_
    refine vGetR F (t := 11) dX6_count_62 fa_X6_22 (cqC_0 hs) rfl ?_
    refine vGetI F dX6_count_65 fa_X6_237 (is_X5_11 hs).1 rfl ?_
    have z := okS h
    exact vIret F dX6_count_68 z
  replace h := okFT h c4
  by_cases c5 : a1 = 4
  · replace h := okTT h c5
    refine vTabIn F (tgt := 69) dX6_count_1 c5 (by decide) (by decide) rfl (by decide) ?_
    refine vAloadN F dX6_count_69 (k := 0) rfl ?_
    refine vGetR F (t := 67) dX6_count_70 fa_X6_43 (cqC_0 hs) rfl ?_
    refine vGetI F dX6_count_73 fa_X6_133 (cqC_67 hs) rfl ?_
    have z := okS h
    exact vIret F dX6_count_76 z
  replace h := okFT h c5
  by_cases c6 : a1 = 5
  · replace h := okTT h c6
    refine vTabIn F (tgt := 77) dX6_count_1 c6 (by decide) (by decide) rfl (by decide) ?_
    refine vAloadN F dX6_count_77 (k := 0) rfl ?_
    refine vGetR F (t := 74) dX6_count_78 fa_X6_50 (cqC_0 hs) rfl ?_
    refine vGetI F dX6_count_81 fa_X6_276 (cqC_74 hs) rfl ?_
    have z := okS h
    exact vIret F dX6_count_84 z
  replace h := okFT h c6
  replace c1 := lv_neT c1 (a := 0) (by decide)
  replace c2 := lv_neT c2 (a := 1) (by decide)
  replace c3 := lv_neT c3 (a := 2) (by decide)
  replace c4 := lv_neT c4 (a := 3) (by decide)
  replace c5 := lv_neT c5 (a := 4) (by decide)
  replace c6 := lv_neT c6 (a := 5) (by decide)
  refine vTabOut F (tgt := 85) dX6_count_1 (by omega) (by decide) ?_
  refine vBipush F (v := (-2)) dX6_count_85 kb_m2 ?_
  have z := okS h
  exact vIret F dX6_count_87 z
noncomputable def NB_tape (m : Mm) (a1 : Int32) (a2 : Int32) (a3 : Int32) : Option (Int32 × Mm) :=
  if (NB_isTape a1) = true then
 (if a2 = (-1) then
 (ga a1 6 ((Ta_become (77 + 2 * a1.toNatClampNeg) m a2 0).bind fun r8 =>
  some (1, r8)))
 else (if a2 < 0 then
 (some ((-2), m))
 else (if 4 < a2 then
 (some ((-2), m))
 else (if a3 ≤ 60 then
 (if 0 ≤ a3 then
 (ga a1 6 ((Ta_become (77 + 2 * a1.toNatClampNeg) m a2 a3).bind fun r2 =>
  some (1, r2)))
 else (some ((-14), m)))
 else (some ((-2), m))))))
 else (some ((-1), m))
set_option maxRecDepth 20000 in
set_option maxHeartbeats 4000000 in
theorem NB_tape_ok {G : Gw} (hG : gOk G) (hs : gsh G = shC) {a1 : Int32} {a2 : Int32} {a3 : Int32} {m : Mm} {P : Option Value → Mm → Prop} (h : mjO (NB_tape m a1 a2 a3) (fun r => P (some (.int r.1)) r.2)) : mjR G 2 yX6_tape cX6_tape 4 (some .int) [.ref (gr G 0), .int a1, .int a2, .int a3] m P := by
  refine mjR_of hG (by decide) (Nat.le_of_ble_eq_true rfl) ?_
  intro X F
  have F : mjF G X cX6_tape RX6 4 2 (some .int) := F
  show mjV G X 4 0 [(0, .ref (gr G 0)), (1, .int a1), (2, .int a2), (3, .int a3)] [] m P
  unfold NB_tape at h
  refine vIloadN F dX6_tape_0 (k := 1) rfl ?_
  refine vCallS F (d' := 0) (As := [.int a1]) (st := []) dX6_tape_1 lk_X6_243 my_X6_isTape sy_X6_isTape (by decide) rfl rfl (Nat.le_of_ble_eq_true rfl) (NB_isTape_ok hG hs ?_)
  show mjV G X 4 4 [(0, .ref (gr G 0)), (1, .int a1), (2, .int a2), (3, .int a3)] [.int (bI (NB_isTape a1))] m P
  refine vIfNeB F (tgt := 9) dX6_tape_4 (by decide) (fun c10 => ?_) (fun c10 => ?_)
  · replace h := okT h c10
    refine vIloadN F dX6_tape_9 (k := 2) rfl ?_
    refine vIconst F (v := (-1)) dX6_tape_10 k_m1 ?_
    refine vIcmpNe F (tgt := 27) dX6_tape_11 (by decide) (fun c9 => ?_) (fun c9 => ?_)
    · replace h := okF h c9
      refine vIloadN F dX6_tape_27 (k := 2) rfl ?_
      refine vIfLt F (tgt := 42) dX6_tape_28 (by decide) (fun c6 => ?_) (fun c6 => ?_)
      · replace h := okT h c6
        refine vBipush F (v := (-2)) dX6_tape_42 kb_m2 ?_
        have z := okS h
        exact vIret F dX6_tape_44 z
      · replace h := okF h c6
        refine vIloadN F dX6_tape_31 (k := 2) rfl ?_
        refine vIconst F (v := 4) dX6_tape_32 k_4 ?_
        refine vIcmpGt F (tgt := 42) dX6_tape_33 (by decide) (fun c5 => ?_) (fun c5 => ?_)
        · replace h := okT h c5
          refine vBipush F (v := (-2)) dX6_tape_42 kb_m2 ?_
          have z := okS h
          exact vIret F dX6_tape_44 z
        · replace h := okF h c5
          refine vIloadN F dX6_tape_36 (k := 3) rfl ?_
          refine vBipush F (v := 60) dX6_tape_37 kb_60 ?_
          refine vIcmpLe F (tgt := 45) dX6_tape_39 (by decide) (fun c4 => ?_) (fun c4 => ?_)
          · replace h := okT h c4
            refine vIloadN F dX6_tape_45 (k := 3) rfl ?_
            refine vIfGe F (tgt := 52) dX6_tape_46 (by decide) (fun c3 => ?_) (fun c3 => ?_)
            · replace h := okT h c3
              refine vAloadN F dX6_tape_52 (k := 0) rfl ?_
              refine vGetR F (t := 76) dX6_tape_53 fa_X6_56 (cqC_0 hs) rfl ?_
              refine vIloadN F dX6_tape_56 (k := 1) rfl ?_
              obtain ⟨g1, h⟩ := okga h
              refine vAald5 F dX6_tape_57 (cqC_76 hs) g1 ?_
              show mjV G X 4 58 [(0, .ref (gr G 0)), (1, .int a1), (2, .int a2), (3, .int a3)] [.ref (gr G (77 + 2 * a1.toNatClampNeg))] m P
              refine vIloadN F dX6_tape_58 (k := 2) rfl ?_
              refine vIloadN F dX6_tape_59 (k := 3) rfl ?_
              refine vCallV F (d' := 1) (x := 77 + 2 * a1.toNatClampNeg) (T := TX4) (N := 3) (As := [.int a2, .int a3]) (st := []) dX6_tape_60 lk_X6_285 my_X4_become mv_X4_become (is_X4_at hs g1).1 rfl (by decide) rfl rfl (Nat.le_of_ble_eq_true rfl) (Ta_become_ok hG hs (is_X4_at hs g1) (okB h fun r2 h => ?_))
              show mjV G X 4 63 [(0, .ref (gr G 0)), (1, .int a1), (2, .int a2), (3, .int a3)] [] r2 P
              refine vIconst F (v := 1) dX6_tape_63 k_1 ?_
              have z := okS h
              exact vIret F dX6_tape_64 z
            · replace h := okF h c3
              refine vBipush F (v := (-14)) dX6_tape_49 kb_m14 ?_
              have z := okS h
              exact vIret F dX6_tape_51 z
          · replace h := okF h c4
            refine vBipush F (v := (-2)) dX6_tape_42 kb_m2 ?_
            have z := okS h
            exact vIret F dX6_tape_44 z
    · replace h := okT h c9
      refine vAloadN F dX6_tape_14 (k := 0) rfl ?_
      refine vGetR F (t := 76) dX6_tape_15 fa_X6_56 (cqC_0 hs) rfl ?_
      refine vIloadN F dX6_tape_18 (k := 1) rfl ?_
      obtain ⟨g7, h⟩ := okga h
      refine vAald5 F dX6_tape_19 (cqC_76 hs) g7 ?_
      show mjV G X 4 20 [(0, .ref (gr G 0)), (1, .int a1), (2, .int a2), (3, .int a3)] [.ref (gr G (77 + 2 * a1.toNatClampNeg))] m P
      refine vIloadN F dX6_tape_20 (k := 2) rfl ?_
      refine vIconst F (v := 0) dX6_tape_21 k_0 ?_
      refine vCallV F (d' := 1) (x := 77 + 2 * a1.toNatClampNeg) (T := TX4) (N := 3) (As := [.int a2, .int 0]) (st := []) dX6_tape_22 lk_X6_285 my_X4_become mv_X4_become (is_X4_at hs g7).1 rfl (by decide) rfl rfl (Nat.le_of_ble_eq_true rfl) (Ta_become_ok hG hs (is_X4_at hs g7) (okB h fun r8 h => ?_))
      show mjV G X 4 25 [(0, .ref (gr G 0)), (1, .int a1), (2, .int a2), (3, .int a3)] [] r8 P
      refine vIconst F (v := 1) dX6_tape_25 k_1 ?_
      have z := okS h
      exact vIret F dX6_tape_26 z
  · replace h := okF h c10
    refine vIconst F (v := (-1)) dX6_tape_7 k_m1 ?_
    have z := okS h
    exact vIret F dX6_tape_8 z
def NB_item (m : Mm) (a1 : Int32) (a2 : Int32) (a3 : Int64) : Option (Int32 × Mm) :=
  if (NB_isTape a1) = true then
 (ga a1 6 (if (m.1 (77 + 2 * a1.toNatClampNeg) 0) = (-1) then
 (some ((-11), m))
 else (if (Ta_spans (77 + 2 * a1.toNatClampNeg) m a2 1) = true then
 (ga a2 60 (some (1, sl m (77 + 2 * a1.toNatClampNeg + 1) a2.toNatClampNeg (Ta_asItem (77 + 2 * a1.toNatClampNeg) m a3))))
 else (some ((-13), m)))))
 else (some ((-1), m))
set_option maxRecDepth 20000 in
set_option maxHeartbeats 4000000 in
theorem NB_item_ok {G : Gw} (hG : gOk G) (hs : gsh G = shC) {a1 : Int32} {a2 : Int32} {a3 : Int64} {m : Mm} {P : Option Value → Mm → Prop} (h : mjO (NB_item m a1 a2 a3) (fun r => P (some (.int r.1)) r.2)) : mjR G 1 yX6_item cX6_item 6 (some .int) [.ref (gr G 0), .int a1, .int a2, .long a3] m P := by
  refine mjR_of hG (by decide) (Nat.le_of_ble_eq_true rfl) ?_
  intro X F
  have F : mjF G X cX6_item RX6 6 1 (some .int) := F
  show mjV G X 6 0 [(0, .ref (gr G 0)), (1, .int a1), (2, .int a2), (3, .long a3)] [] m P
  unfold NB_item at h
  refine vIloadN F dX6_item_0 (k := 1) rfl ?_
  refine vCallS F (d' := 0) (As := [.int a1]) (st := []) dX6_item_1 lk_X6_243 my_X6_isTape sy_X6_isTape (by decide) rfl rfl (Nat.le_of_ble_eq_true rfl) (NB_isTape_ok hG hs ?_)
  show mjV G X 6 4 [(0, .ref (gr G 0)), (1, .int a1), (2, .int a2), (3, .long a3)] [.int (bI (NB_isTape a1))] m P
  refine vIfNeB F (tgt := 9) dX6_item_4 (by decide) (fun c5 => ?_) (fun c5 => ?_)
  · replace h := okT h c5
    refine vAloadN F dX6_item_9 (k := 0) rfl ?_
    refine vGetR F (t := 76) dX6_item_10 fa_X6_56 (cqC_0 hs) rfl ?_
    refine vIloadN F dX6_item_13 (k := 1) rfl ?_
    obtain ⟨g1, h⟩ := okga h
    refine vAald5 F dX6_item_14 (cqC_76 hs) g1 ?_
    show mjV G X 6 15 [(0, .ref (gr G 0)), (1, .int a1), (2, .int a2), (3, .long a3)] [.ref (gr G (77 + 2 * a1.toNatClampNeg))] m P
    refine vAstore F (L' := [(5, .ref (gr G (77 + 2 * a1.toNatClampNeg))), (0, .ref (gr G 0)), (1, .int a1), (2, .int a2), (3, .long a3)]) dX6_item_15 (by decide) rfl ?_
    refine vAload F dX6_item_17 (k := 0) rfl ?_
    refine vGetI F dX6_item_19 fa_X6_246 (is_X4_at hs g1).1 rfl ?_
    refine vIconst F (v := (-1)) dX6_item_22 k_m1 ?_
    refine vIcmpNe F (tgt := 29) dX6_item_23 (by decide) (fun c4 => ?_) (fun c4 => ?_)
    · replace h := okF h c4
      refine vAload F dX6_item_29 (k := 0) rfl ?_
      refine vIloadN F dX6_item_31 (k := 3) rfl ?_
      refine vIconst F (v := 1) dX6_item_32 k_1 ?_
      refine vCallV F (d' := 0) (x := 77 + 2 * a1.toNatClampNeg) (T := TX4) (N := 3) (As := [.int a2, .int 1]) (st := []) dX6_item_33 lk_X6_288 my_X4_spans mv_X4_spans (is_X4_at hs g1).1 rfl (by decide) rfl rfl (Nat.le_of_ble_eq_true rfl) (Ta_spans_ok hG hs (is_X4_at hs g1) ?_)
      show mjV G X 6 36 [(5, .ref (gr G (77 + 2 * a1.toNatClampNeg))), (0, .ref (gr G 0)), (1, .int a1), (2, .int a2), (3, .long a3)] [.int (bI (Ta_spans (77 + 2 * a1.toNatClampNeg) m a2 1))] m P
      refine vIfNeB F (tgt := 42) dX6_item_36 (by decide) (fun c3 => ?_) (fun c3 => ?_)
      · replace h := okT h c3
        refine vAload F dX6_item_42 (k := 0) rfl ?_
        refine vGetR F (t := (77 + 2 * a1.toNatClampNeg) + 1) dX6_item_44 fa_X6_250 (is_X4_at hs g1).1 rfl ?_
        refine vIloadN F dX6_item_47 (k := 3) rfl ?_
        refine vAload F dX6_item_48 (k := 0) rfl ?_
        refine vLloadN F dX6_item_50 (k := 4) rfl ?_
        refine vCallV F (d' := 0) (x := 77 + 2 * a1.toNatClampNeg) (T := TX4) (N := 3) (As := [.long a3]) (st := [.int a2, .ref (gr G (77 + 2 * a1.toNatClampNeg + 1))]) dX6_item_51 lk_X6_291 my_X4_asItem mv_X4_asItem (is_X4_at hs g1).1 rfl (by decide) rfl rfl (Nat.le_of_ble_eq_true rfl) (Ta_asItem_ok hG hs (is_X4_at hs g1) ?_)
        show mjV G X 6 54 [(5, .ref (gr G (77 + 2 * a1.toNatClampNeg))), (0, .ref (gr G 0)), (1, .int a1), (2, .int a2), (3, .long a3)] [.long (Ta_asItem (77 + 2 * a1.toNatClampNeg) m a3), .int a2, .ref (gr G (77 + 2 * a1.toNatClampNeg + 1))] m P
        obtain ⟨g2, h⟩ := okga h
        refine vLast F dX6_item_54 (is_X4_at hs g1).2 g2 ?_
        refine vIconst F (v := 1) dX6_item_55 k_1 ?_
        have z := okS h
        exact vIret F dX6_item_56 z
      · replace h := okF h c3
        refine vBipush F (v := (-13)) dX6_item_39 kb_m13 ?_
        have z := okS h
        exact vIret F dX6_item_41 z
    · replace h := okT h c4
      refine vBipush F (v := (-11)) dX6_item_26 kb_m11 ?_
      have z := okS h
      exact vIret F dX6_item_28 z
  · replace h := okF h c5
    refine vIconst F (v := (-1)) dX6_item_7 k_m1 ?_
    have z := okS h
    exact vIret F dX6_item_8 z
def NB_read (m : Mm) (a1 : Int32) (a2 : Int32) : Option (Int64) :=
  if (NB_isTape a1) = true then
 (ga a1 6 (if (Ta_spans (77 + 2 * a1.toNatClampNeg) m a2 1) = true then
 (ga a1 6 (ga a2 60 (some (m.2.1 (77 + 2 * a1.toNatClampNeg + 1) a2.toNatClampNeg))))
 else (some (-9223372036854775808))))
 else (some (-9223372036854775808))
set_option maxRecDepth 20000 in
set_option maxHeartbeats 4000000 in
theorem NB_read_ok {G : Gw} (hG : gOk G) (hs : gsh G = shC) {a1 : Int32} {a2 : Int32} {m : Mm} {P : Option Value → Mm → Prop} (h : mjO (NB_read m a1 a2) (fun r => P (some (.long r)) m)) : mjR G 1 yX6_read cX6_read 3 (some .long) [.ref (gr G 0), .int a1, .int a2] m P := by
  refine mjR_of hG (by decide) (Nat.le_of_ble_eq_true rfl) ?_
  intro X F
  have F : mjF G X cX6_read RX6 3 1 (some .long) := F
  show mjV G X 3 0 [(0, .ref (gr G 0)), (1, .int a1), (2, .int a2)] [] m P
  unfold NB_read at h
  refine vIloadN F dX6_read_0 (k := 1) rfl ?_
  refine vCallS F (d' := 0) (As := [.int a1]) (st := []) dX6_read_1 lk_X6_243 my_X6_isTape sy_X6_isTape (by decide) rfl rfl (Nat.le_of_ble_eq_true rfl) (NB_isTape_ok hG hs ?_)
  show mjV G X 3 4 [(0, .ref (gr G 0)), (1, .int a1), (2, .int a2)] [.int (bI (NB_isTape a1))] m P
  refine vIfEqB F (tgt := 21) dX6_read_4 (by decide) (fun c5 => ?_) (fun c5 => ?_)
  · replace h := okF h c5
    refine vLdc2 F dX6_read_21 kc_X6_225 ?_
    have z := okS h
    exact vLret F dX6_read_24 z
  · replace h := okT h c5
    refine vAloadN F dX6_read_7 (k := 0) rfl ?_
    refine vGetR F (t := 76) dX6_read_8 fa_X6_56 (cqC_0 hs) rfl ?_
    refine vIloadN F dX6_read_11 (k := 1) rfl ?_
    obtain ⟨g1, h⟩ := okga h
    refine vAald5 F dX6_read_12 (cqC_76 hs) g1 ?_
    show mjV G X 3 13 [(0, .ref (gr G 0)), (1, .int a1), (2, .int a2)] [.ref (gr G (77 + 2 * a1.toNatClampNeg))] m P
    refine vIloadN F dX6_read_13 (k := 2) rfl ?_
    refine vIconst F (v := 1) dX6_read_14 k_1 ?_
    refine vCallV F (d' := 0) (x := 77 + 2 * a1.toNatClampNeg) (T := TX4) (N := 3) (As := [.int a2, .int 1]) (st := []) dX6_read_15 lk_X6_288 my_X4_spans mv_X4_spans (is_X4_at hs g1).1 rfl (by decide) rfl rfl (Nat.le_of_ble_eq_true rfl) (Ta_spans_ok hG hs (is_X4_at hs g1) ?_)
    show mjV G X 3 18 [(0, .ref (gr G 0)), (1, .int a1), (2, .int a2)] [.int (bI (Ta_spans (77 + 2 * a1.toNatClampNeg) m a2 1))] m P
    refine vIfNeB F (tgt := 25) dX6_read_18 (by decide) (fun c4 => ?_) (fun c4 => ?_)
    · replace h := okT h c4
      refine vAloadN F dX6_read_25 (k := 0) rfl ?_
      refine vGetR F (t := 76) dX6_read_26 fa_X6_56 (cqC_0 hs) rfl ?_
      refine vIloadN F dX6_read_29 (k := 1) rfl ?_
      obtain ⟨g2, h⟩ := okga h
      refine vAald5 F dX6_read_30 (cqC_76 hs) g2 ?_
      show mjV G X 3 31 [(0, .ref (gr G 0)), (1, .int a1), (2, .int a2)] [.ref (gr G (77 + 2 * a1.toNatClampNeg))] m P
      refine vGetR F (t := (77 + 2 * a1.toNatClampNeg) + 1) dX6_read_31 fa_X6_250 (is_X4_at hs g2).1 rfl ?_
      refine vIloadN F dX6_read_34 (k := 2) rfl ?_
      obtain ⟨g3, h⟩ := okga h
      refine vLald F dX6_read_35 (is_X4_at hs g2).2 g3 ?_
      have z := okS h
      exact vLret F dX6_read_36 z
    · replace h := okF h c4
      refine vLdc2 F dX6_read_21 kc_X6_225 ?_
      have z := okS h
      exact vLret F dX6_read_24 z
def NB_shift (m : Mm) (a1 : Int32) (a2 : Int32) (a3 : Int32) (a4 : Int32) (a5 : Int32) : Option (Int32 × Mm) :=
  if (NB_isTape a1) = true then
 (if (NB_isTape a3) = true then
 (ga a1 6 (ga a3 6 (if (m.1 (77 + 2 * a1.toNatClampNeg) 0) = (-1) then
 (some ((-11), m))
 else (if (m.1 (77 + 2 * a3.toNatClampNeg) 0) = (-1) then
 (some ((-11), m))
 else (if (m.1 (77 + 2 * a1.toNatClampNeg) 0) = (m.1 (77 + 2 * a3.toNatClampNeg) 0) then
 (if (Ta_spans (77 + 2 * a1.toNatClampNeg) m a2 a5) = true then
 (if (Ta_spans (77 + 2 * a3.toNatClampNeg) m a4 a5) = true then
 (gq (cpOk a2 a4 a5 60 60) (some (a5, cpl m (77 + 2 * a1.toNatClampNeg + 1) (77 + 2 * a3.toNatClampNeg + 1) a2 a4 a5)))
 else (some ((-13), m)))
 else (some ((-13), m)))
 else (some ((-12), m)))))))
 else (some ((-1), m)))
 else (some ((-1), m))
set_option maxRecDepth 20000 in
set_option maxHeartbeats 4000000 in
theorem NB_shift_ok {G : Gw} (hG : gOk G) (hs : gsh G = shC) {a1 : Int32} {a2 : Int32} {a3 : Int32} {a4 : Int32} {a5 : Int32} {m : Mm} {P : Option Value → Mm → Prop} (h : mjO (NB_shift m a1 a2 a3 a4 a5) (fun r => P (some (.int r.1)) r.2)) : mjR G 1 yX6_shift cX6_shift 8 (some .int) [.ref (gr G 0), .int a1, .int a2, .int a3, .int a4, .int a5] m P := by
  refine mjR_of hG (by decide) (Nat.le_of_ble_eq_true rfl) ?_
  intro X F
  have F : mjF G X cX6_shift RX6 8 1 (some .int) := F
  show mjV G X 8 0 [(0, .ref (gr G 0)), (1, .int a1), (2, .int a2), (3, .int a3), (4, .int a4), (5, .int a5)] [] m P
  unfold NB_shift at h
  refine vIloadN F dX6_shift_0 (k := 1) rfl ?_
  refine vCallS F (d' := 0) (As := [.int a1]) (st := []) dX6_shift_1 lk_X6_243 my_X6_isTape sy_X6_isTape (by decide) rfl rfl (Nat.le_of_ble_eq_true rfl) (NB_isTape_ok hG hs ?_)
  show mjV G X 8 4 [(0, .ref (gr G 0)), (1, .int a1), (2, .int a2), (3, .int a3), (4, .int a4), (5, .int a5)] [.int (bI (NB_isTape a1))] m P
  refine vIfEqB F (tgt := 14) dX6_shift_4 (by decide) (fun c10 => ?_) (fun c10 => ?_)
  · replace h := okF h c10
    refine vIconst F (v := (-1)) dX6_shift_14 k_m1 ?_
    have z := okS h
    exact vIret F dX6_shift_15 z
  · replace h := okT h c10
    refine vIloadN F dX6_shift_7 (k := 3) rfl ?_
    refine vCallS F (d' := 0) (As := [.int a3]) (st := []) dX6_shift_8 lk_X6_243 my_X6_isTape sy_X6_isTape (by decide) rfl rfl (Nat.le_of_ble_eq_true rfl) (NB_isTape_ok hG hs ?_)
    show mjV G X 8 11 [(0, .ref (gr G 0)), (1, .int a1), (2, .int a2), (3, .int a3), (4, .int a4), (5, .int a5)] [.int (bI (NB_isTape a3))] m P
    refine vIfNeB F (tgt := 16) dX6_shift_11 (by decide) (fun c9 => ?_) (fun c9 => ?_)
    · replace h := okT h c9
      refine vAloadN F dX6_shift_16 (k := 0) rfl ?_
      refine vGetR F (t := 76) dX6_shift_17 fa_X6_56 (cqC_0 hs) rfl ?_
      refine vIloadN F dX6_shift_20 (k := 1) rfl ?_
      obtain ⟨g1, h⟩ := okga h
      refine vAald5 F dX6_shift_21 (cqC_76 hs) g1 ?_
      show mjV G X 8 22 [(0, .ref (gr G 0)), (1, .int a1), (2, .int a2), (3, .int a3), (4, .int a4), (5, .int a5)] [.ref (gr G (77 + 2 * a1.toNatClampNeg))] m P
      refine vAstore F (L' := [(6, .ref (gr G (77 + 2 * a1.toNatClampNeg))), (0, .ref (gr G 0)), (1, .int a1), (2, .int a2), (3, .int a3), (4, .int a4), (5, .int a5)]) dX6_shift_22 (by decide) rfl ?_
      refine vAloadN F dX6_shift_24 (k := 1) rfl ?_
      refine vGetR F (t := 76) dX6_shift_25 fa_X6_56 (cqC_0 hs) rfl ?_
      refine vIloadN F dX6_shift_28 (k := 4) rfl ?_
      obtain ⟨g2, h⟩ := okga h
      refine vAald5 F dX6_shift_29 (cqC_76 hs) g2 ?_
      show mjV G X 8 30 [(6, .ref (gr G (77 + 2 * a1.toNatClampNeg))), (0, .ref (gr G 0)), (1, .int a1), (2, .int a2), (3, .int a3), (4, .int a4), (5, .int a5)] [.ref (gr G (77 + 2 * a3.toNatClampNeg))] m P
      refine vAstore F (L' := [(7, .ref (gr G (77 + 2 * a3.toNatClampNeg))), (6, .ref (gr G (77 + 2 * a1.toNatClampNeg))), (0, .ref (gr G 0)), (1, .int a1), (2, .int a2), (3, .int a3), (4, .int a4), (5, .int a5)]) dX6_shift_30 (by decide) rfl ?_
      refine vAload F dX6_shift_32 (k := 1) rfl ?_
      refine vGetI F dX6_shift_34 fa_X6_246 (is_X4_at hs g1).1 rfl ?_
      refine vIconst F (v := (-1)) dX6_shift_37 k_m1 ?_
      refine vIcmpEq F (tgt := 50) dX6_shift_38 (by decide) (fun c8 => ?_) (fun c8 => ?_)
      · replace h := okT h c8
        refine vBipush F (v := (-11)) dX6_shift_50 kb_m11 ?_
        have z := okS h
        exact vIret F dX6_shift_52 z
      · replace h := okF h c8
        refine vAload F dX6_shift_41 (k := 0) rfl ?_
        refine vGetI F dX6_shift_43 fa_X6_246 (is_X4_at hs g2).1 rfl ?_
        refine vIconst F (v := (-1)) dX6_shift_46 k_m1 ?_
        refine vIcmpNe F (tgt := 53) dX6_shift_47 (by decide) (fun c7 => ?_) (fun c7 => ?_)
        · replace h := okF h c7
          refine vAload F dX6_shift_53 (k := 1) rfl ?_
          refine vGetI F dX6_shift_55 fa_X6_246 (is_X4_at hs g1).1 rfl ?_
          refine vAload F dX6_shift_58 (k := 0) rfl ?_
          refine vGetI F dX6_shift_60 fa_X6_246 (is_X4_at hs g2).1 rfl ?_
          refine vIcmpEq F (tgt := 69) dX6_shift_63 (by decide) (fun c6 => ?_) (fun c6 => ?_)
          · replace h := okT h c6
            refine vAload F dX6_shift_69 (k := 1) rfl ?_
            refine vIloadN F dX6_shift_71 (k := 4) rfl ?_
            refine vIload F dX6_shift_72 (k := 7) rfl ?_
            refine vCallV F (d' := 0) (x := 77 + 2 * a1.toNatClampNeg) (T := TX4) (N := 3) (As := [.int a2, .int a5]) (st := []) dX6_shift_74 lk_X6_288 my_X4_spans mv_X4_spans (is_X4_at hs g1).1 rfl (by decide) rfl rfl (Nat.le_of_ble_eq_true rfl) (Ta_spans_ok hG hs (is_X4_at hs g1) ?_)
            show mjV G X 8 77 [(7, .ref (gr G (77 + 2 * a3.toNatClampNeg))), (6, .ref (gr G (77 + 2 * a1.toNatClampNeg))), (0, .ref (gr G 0)), (1, .int a1), (2, .int a2), (3, .int a3), (4, .int a4), (5, .int a5)] [.int (bI (Ta_spans (77 + 2 * a1.toNatClampNeg) m a2 a5))] m P
            refine vIfEqB F (tgt := 92) dX6_shift_77 (by decide) (fun c5 => ?_) (fun c5 => ?_)
            · replace h := okF h c5
              refine vBipush F (v := (-13)) dX6_shift_92 kb_m13 ?_
              have z := okS h
              exact vIret F dX6_shift_94 z
            · replace h := okT h c5
              refine vAload F dX6_shift_80 (k := 0) rfl ?_
              refine vIload F dX6_shift_82 (k := 6) rfl ?_
              refine vIload F dX6_shift_84 (k := 7) rfl ?_
              refine vCallV F (d' := 0) (x := 77 + 2 * a3.toNatClampNeg) (T := TX4) (N := 3) (As := [.int a4, .int a5]) (st := []) dX6_shift_86 lk_X6_288 my_X4_spans mv_X4_spans (is_X4_at hs g2).1 rfl (by decide) rfl rfl (Nat.le_of_ble_eq_true rfl) (Ta_spans_ok hG hs (is_X4_at hs g2) ?_)
              show mjV G X 8 89 [(7, .ref (gr G (77 + 2 * a3.toNatClampNeg))), (6, .ref (gr G (77 + 2 * a1.toNatClampNeg))), (0, .ref (gr G 0)), (1, .int a1), (2, .int a2), (3, .int a3), (4, .int a4), (5, .int a5)] [.int (bI (Ta_spans (77 + 2 * a3.toNatClampNeg) m a4 a5))] m P
              refine vIfNeB F (tgt := 95) dX6_shift_89 (by decide) (fun c4 => ?_) (fun c4 => ?_)
              · replace h := okT h c4
                refine vAload F dX6_shift_95 (k := 1) rfl ?_
                refine vGetR F (t := (77 + 2 * a1.toNatClampNeg) + 1) dX6_shift_97 fa_X6_250 (is_X4_at hs g1).1 rfl ?_
                refine vIloadN F dX6_shift_100 (k := 4) rfl ?_
                refine vAload F dX6_shift_101 (k := 0) rfl ?_
                refine vGetR F (t := (77 + 2 * a3.toNatClampNeg) + 1) dX6_shift_103 fa_X6_250 (is_X4_at hs g2).1 rfl ?_
                refine vIload F dX6_shift_106 (k := 6) rfl ?_
                refine vIload F dX6_shift_108 (k := 7) rfl ?_
                obtain ⟨g3, h⟩ := okgq h
                refine vCopyL F dX6_shift_110 kp_X6_295 (is_X4_at hs g1).2 (is_X4_at hs g2).2 g3 (Nat.le_of_ble_eq_true rfl) ?_
                refine vIload F dX6_shift_113 (k := 7) rfl ?_
                have z := okS h
                exact vIret F dX6_shift_115 z
              · replace h := okF h c4
                refine vBipush F (v := (-13)) dX6_shift_92 kb_m13 ?_
                have z := okS h
                exact vIret F dX6_shift_94 z
          · replace h := okF h c6
            refine vBipush F (v := (-12)) dX6_shift_66 kb_m12 ?_
            have z := okS h
            exact vIret F dX6_shift_68 z
        · replace h := okT h c7
          refine vBipush F (v := (-11)) dX6_shift_50 kb_m11 ?_
          have z := okS h
          exact vIret F dX6_shift_52 z
    · replace h := okF h c9
      refine vIconst F (v := (-1)) dX6_shift_14 k_m1 ?_
      have z := okS h
      exact vIret F dX6_shift_15 z
