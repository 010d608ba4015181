def Mo_isTape (a1 : Int32) : Bool :=
  (Mo_in a1 0 5)
set_option maxRecDepth 20000 in
set_option maxHeartbeats 4000000 in
theorem Mo_isTape_ok {G : Gw} (hG : gOk G) (hs : gsh G = shM) {a1 : Int32} {m : Mm} {P : Option Value → Mm → Prop} (h : P (some (.int (bI (Mo_isTape a1)))) m) : mjR G 1 yX7_isTape cX7_isTape 2 (some .boolean) [.ref (gr G 0), .int a1] m P := by
  refine mjR_of hG (by decide) (Nat.le_of_ble_eq_true rfl) ?_
  intro X F
  have F : mjF G X cX7_isTape RX7 2 1 (some .boolean) := F
  show mjV G X 2 0 [(0, .ref (gr G 0)), (1, .int a1)] [] m P
  have h : mjO (some (Mo_isTape a1)) (fun r => P (some (.int (bI r))) m) := ⟨_, rfl, h⟩
  unfold Mo_isTape at h
  refine vAloadN F dX7_isTape_0 (k := 0) rfl ?_
  refine vIloadN F dX7_isTape_1 (k := 1) rfl ?_
  refine vIconst F (v := 0) dX7_isTape_2 k_0 ?_
  refine vIconst F (v := 5) dX7_isTape_3 k_5 ?_
  refine vCallV F (d' := 0) (x := 0) (T := TX7) (N := 61) (As := [.int a1, .int 0, .int 5]) (st := []) dX7_isTape_4 lk_X7_197 my_X7_in mv_X7_in (cqM_0 hs) rfl (by decide) rfl rfl (Nat.le_of_ble_eq_true rfl) (Mo_in_ok hG hs ?_)
  show mjV G X 2 7 [(0, .ref (gr G 0)), (1, .int a1)] [.int (bI (Mo_in a1 0 5))] m P
  have z := okS h
  exact vZret (x := bI (Mo_in a1 0 5)) F dX7_isTape_7 (nzI _) z
def Mo_judge_l38 (a1 : Int32) (a2 : Int32) (r4 : Mm) (s5 : Int32) : Option ((Int32) ⊕ (Unit ⊕ (Int32 × Mm))) :=
  if (r4.1 0 0) ≤ s5 then
 (some (.inr (.inl ())))
 else (ga a1 6 (if (r4.1 36 a1.toNatClampNeg) < 0 then
 (some (.inr (.inr (100 + s5, r4))))
 else (if a2 < 0 then
 (some (.inr (.inr (100 + s5, r4))))
 else (ga a1 6 (if a2 ≤ (((r4.1 37 a1.toNatClampNeg) - s5) - 1) then
 (ga (((60 * a1) + a2) + s5) 360 (ga s5 7 (if (lg_cmp (r4.2.1 38 (((60 * a1) + a2) + s5).toNatClampNeg) ((r4.1 21 s5.toNatClampNeg).toInt64)) = 0 then
 (some (.inl (s5 + 1)))
 else (some (.inr (.inr (s5, r4)))))))
 else (some (.inr (.inr (100 + s5, r4)))))))))
noncomputable def Mo_judge (m : Mm) (a1 : Int32) (a2 : Int32) : Option (Int32 × Mm) :=
  if (Mo_isTape a1) = true then
 (ga a1 6 (jn (fun (e2 : Unit) => (Mo_layLand m).bind fun r4 =>
  (iter (Mo_judge_l38 a1 a2 r4) (0)).bind (Sum.elim (fun e6 => some ((-5), r4)) (fun v16 => some v16))) fun j3 =>
  if (m.1 36 a1.toNatClampNeg) < 0 then
 (j3 ())
 else (ga a1 6 (if (m.1 36 a1.toNatClampNeg) = 2 then
 (j3 ())
 else (some ((-12), m))))))
 else (some ((-1), m))
set_option maxRecDepth 20000 in
set_option maxHeartbeats 4000000 in
theorem Mo_judge_ok {G : Gw} (hG : gOk G) (hs : gsh G = shM) {a1 : Int32} {a2 : Int32} {m : Mm} {P : Option Value → Mm → Prop} (h : mjO (Mo_judge m a1 a2) (fun r => P (some (.int r.1)) r.2)) : mjR G 5 yX7_judge cX7_judge 4 (some .int) [.ref (gr G 0), .int a1, .int a2] m P := by
  refine mjR_of hG (by decide) (Nat.le_of_ble_eq_true rfl) ?_
  intro X F
  have F : mjF G X cX7_judge RX7 4 5 (some .int) := F
  show mjV G X 4 0 [(0, .ref (gr G 0)), (1, .int a1), (2, .int a2)] [] m P
  unfold Mo_judge at h
  refine vAloadN F dX7_judge_0 (k := 0) rfl ?_
  refine vIloadN F dX7_judge_1 (k := 1) rfl ?_
  refine vCallV F (d' := 1) (x := 0) (T := TX7) (N := 61) (As := [.int a1]) (st := []) dX7_judge_2 lk_X7_351 my_X7_isTape mv_X7_isTape (cqM_0 hs) rfl (by decide) rfl rfl (Nat.le_of_ble_eq_true rfl) (Mo_isTape_ok hG hs ?_)
  show mjV G X 4 5 [(0, .ref (gr G 0)), (1, .int a1), (2, .int a2)] [.int (bI (Mo_isTape a1))] m P
  refine vIfNeB F (tgt := 10) dX7_judge_5 (by decide) (fun c21 => ?_) (fun c21 => ?_)
  · replace h := okT h c21
    refine vAloadN F dX7_judge_10 (k := 0) rfl ?_
    refine vGetR F (t := 36) dX7_judge_11 fa_X7_185 (cqM_0 hs) rfl ?_
    refine vIloadN F dX7_judge_14 (k := 1) rfl ?_
    obtain ⟨g1, h⟩ := okga h
    refine vIald F dX7_judge_15 (cqM_36 hs) g1 ?_
    refine okJ (Vj := fun (e2 : Unit) => mjV G X 4 32 [(0, .ref (gr G 0)), (1, .int a1), (2, .int a2)] [] m P) h (fun e2 h => ?_) (fun j3 Jj3 h => ?_)
    · refine vAloadN F dX7_judge_32 (k := 0) rfl ?_
      refine vCallV F (d' := 4) (x := 0) (T := TX7) (N := 61) (As := []) (st := []) dX7_judge_33 lk_X7_294 my_X7_layLand mv_X7_layLand (cqM_0 hs) rfl (by decide) rfl rfl (Nat.le_of_ble_eq_true rfl) (Mo_layLand_ok hG hs (okB h fun r4 h => ?_))
      show mjV G X 4 36 [(0, .ref (gr G 0)), (1, .int a1), (2, .int a2)] [] r4 P
      refine vIconst F (v := 0) dX7_judge_36 k_0 ?_
      refine vIstoreN F (L' := [(3, .int 0), (0, .ref (gr G 0)), (1, .int a1), (2, .int a2)]) dX7_judge_37 rfl (by decide) rfl ?_
      refine vSub [1, 2, 3, 0] rfl ?_
      refine okLoop (s0 := (0)) (T := (fun (s5 : Int32) => mjV G X 4 38 [(0, .ref (gr G 0)), (1, .int a1), (2, .int a2), (3, .int s5)] [] r4 P)) (Ve := (Sum.elim (fun (e6 : Unit) => mjV G X 4 110 [] [] r4 P) (fun (v16 : Int32 × Mm) => P (some (.int v16.1)) v16.2))) h ?_ (fun s5 h => ?_)
      · intro q h
        rcases q with e6 | v16
        · refine vBipush F (v := (-5)) dX7_judge_110 kb_m5 ?_
          have z := okS h
          exact vIret F dX7_judge_112 z
        · have z := okS h
          exact z
      · unfold Mo_judge_l38 at h
        refine vIloadN F dX7_judge_38 (k := 3) rfl ?_
        refine vAloadN F dX7_judge_39 (k := 0) rfl ?_
        refine vGetI F dX7_judge_40 fa_X7_7 (cqM_0 hs) rfl ?_
        refine vIcmpGe F (tgt := 110) dX7_judge_43 (by decide) (fun c15 => ?_) (fun c15 => ?_)
        · replace h := okT h c15
          refine vSub [] rfl ?_
          have z := okR h
          exact z
        · replace h := okF h c15
          refine vAloadN F dX7_judge_46 (k := 0) rfl ?_
          refine vGetR F (t := 36) dX7_judge_47 fa_X7_185 (cqM_0 hs) rfl ?_
          refine vIloadN F dX7_judge_50 (k := 1) rfl ?_
          obtain ⟨g7, h⟩ := okga h
          refine vIald F dX7_judge_51 (cqM_36 hs) g7 ?_
          refine vIfLt F (tgt := 73) dX7_judge_52 (by decide) (fun c14 => ?_) (fun c14 => ?_)
          · replace h := okT h c14
            refine vBipush F (v := 100) dX7_judge_73 kb_100 ?_
            refine vIloadN F dX7_judge_75 (k := 3) rfl ?_
            refine vIadd F dX7_judge_76 ?_
            have z := okR h
            exact vIret F dX7_judge_77 z
          · replace h := okF h c14
            refine vIloadN F dX7_judge_55 (k := 2) rfl ?_
            refine vIfLt F (tgt := 73) dX7_judge_56 (by decide) (fun c13 => ?_) (fun c13 => ?_)
            · replace h := okT h c13
              refine vBipush F (v := 100) dX7_judge_73 kb_100 ?_
              refine vIloadN F dX7_judge_75 (k := 3) rfl ?_
              refine vIadd F dX7_judge_76 ?_
              have z := okR h
              exact vIret F dX7_judge_77 z
            · replace h := okF h c13
              refine vIloadN F dX7_judge_59 (k := 2) rfl ?_
              refine vAloadN F dX7_judge_60 (k := 0) rfl ?_
              refine vGetR F (t := 37) dX7_judge_61 fa_X7_188 (cqM_0 hs) rfl ?_
              refine vIloadN F dX7_judge_64 (k := 1) rfl ?_
              obtain ⟨g8, h⟩ := okga h
              refine vIald F dX7_judge_65 (cqM_37 hs) g8 ?_
              refine vIloadN F dX7_judge_66 (k := 3) rfl ?_
              refine vIsub F dX7_judge_67 ?_
              refine vIconst F (v := 1) dX7_judge_68 k_1 ?_
              refine vIsub F dX7_judge_69 ?_
              refine vIcmpLe F (tgt := 78) dX7_judge_70 (by decide) (fun c12 => ?_) (fun c12 => ?_)
              · replace h := okT h c12
                refine vAloadN F dX7_judge_78 (k := 0) rfl ?_
                refine vGetR F (t := 38) dX7_judge_79 fa_X7_191 (cqM_0 hs) rfl ?_
                refine vBipush F (v := 60) dX7_judge_82 kb_60 ?_
                refine vIloadN F dX7_judge_84 (k := 1) rfl ?_
                refine vImul F dX7_judge_85 ?_
                refine vIloadN F dX7_judge_86 (k := 2) rfl ?_
                refine vIadd F dX7_judge_87 ?_
                refine vIloadN F dX7_judge_88 (k := 3) rfl ?_
                refine vIadd F dX7_judge_89 ?_
                obtain ⟨g9, h⟩ := okga h
                refine vLald F dX7_judge_90 (cqM_38 hs) g9 ?_
                refine vAloadN F dX7_judge_91 (k := 0) rfl ?_
                refine vGetR F (t := 21) dX7_judge_92 fa_X7_102 (cqM_0 hs) rfl ?_
                refine vIloadN F dX7_judge_95 (k := 3) rfl ?_
                obtain ⟨g10, h⟩ := okga h
                refine vIald F dX7_judge_96 (cqM_21 hs) g10 ?_
                refine vI2l F dX7_judge_97 ?_
                refine vLcmp F dX7_judge_98 ?_
                refine vIfEq F (tgt := 104) dX7_judge_99 (by decide) (fun c11 => ?_) (fun c11 => ?_)
                · replace h := okT h c11
                  refine vIinc F (v := 1) (k := 3) (L' := [(3, .int (s5 + 1)), (0, .ref (gr G 0)), (1, .int a1), (2, .int a2)]) dX7_judge_104 rfl k_1 (by decide) rfl ?_
                  refine vGoto F (tgt := 38) dX7_judge_107 (by decide) ?_
                  refine vSub [1, 2, 3, 0] rfl ?_
                  have z := okL h
                  exact z
                · replace h := okF h c11
                  refine vIloadN F dX7_judge_102 (k := 3) rfl ?_
                  have z := okR h
                  exact vIret F dX7_judge_103 z
              · replace h := okF h c12
                refine vBipush F (v := 100) dX7_judge_73 kb_100 ?_
                refine vIloadN F dX7_judge_75 (k := 3) rfl ?_
                refine vIadd F dX7_judge_76 ?_
                have z := okR h
                exact vIret F dX7_judge_77 z
    · refine vIfLt F (tgt := 32) dX7_judge_16 (by decide) (fun c20 => ?_) (fun c20 => ?_)
      · replace h := okT h c20
        exact Jj3 () h
      · replace h := okF h c20
        refine vAloadN F dX7_judge_19 (k := 0) rfl ?_
        refine vGetR F (t := 36) dX7_judge_20 fa_X7_185 (cqM_0 hs) rfl ?_
        refine vIloadN F dX7_judge_23 (k := 1) rfl ?_
        obtain ⟨g18, h⟩ := okga h
        refine vIald F dX7_judge_24 (cqM_36 hs) g18 ?_
        refine vIconst F (v := 2) dX7_judge_25 k_2 ?_
        refine vIcmpEq F (tgt := 32) dX7_judge_26 (by decide) (fun c19 => ?_) (fun c19 => ?_)
        · replace h := okT h c19
          exact Jj3 () h
        · replace h := okF h c19
          refine vBipush F (v := (-12)) dX7_judge_29 kb_m12 ?_
          have z := okS h
          exact vIret F dX7_judge_31 z
  · replace h := okF h c21
    refine vIconst F (v := (-1)) dX7_judge_8 k_m1 ?_
    have z := okS h
    exact vIret F dX7_judge_9 z
def Mo_image_l39  (s1 : Int32 × Mm) : Option ((Int32 × Mm) ⊕ Mm) :=
  if 7 ≤ (s1.1) then
 (some (.inr (s1.2)))
 else (ga (s1.1) 7 (ga (s1.1) 7 (ga (s1.1) 7 (ga (s1.1) 7 (ga (s1.1) 7 (ga (s1.1) 7 (ga (s1.1) 7 (ga (s1.1) 7 (some (.inl ((s1.1) + 1, si (si (si (si (s1.2) 26 (s1.1).toNatClampNeg ((s1.2).1 1 (s1.1).toNatClampNeg)) 27 (s1.1).toNatClampNeg ((si (s1.2) 26 (s1.1).toNatClampNeg ((s1.2).1 1 (s1.1).toNatClampNeg)).1 2 (s1.1).toNatClampNeg)) 28 (s1.1).toNatClampNeg ((si (si (s1.2) 26 (s1.1).toNatClampNeg ((s1.2).1 1 (s1.1).toNatClampNeg)) 27 (s1.1).toNatClampNeg ((si (s1.2) 26 (s1.1).toNatClampNeg ((s1.2).1 1 (s1.1).toNatClampNeg)).1 2 (s1.1).toNatClampNeg)).1 3 (s1.1).toNatClampNeg)) 29 (s1.1).toNatClampNeg ((si (si (si (s1.2) 26 (s1.1).toNatClampNeg ((s1.2).1 1 (s1.1).toNatClampNeg)) 27 (s1.1).toNatClampNeg ((si (s1.2) 26 (s1.1).toNatClampNeg ((s1.2).1 1 (s1.1).toNatClampNeg)).1 2 (s1.1).toNatClampNeg)) 28 (s1.1).toNatClampNeg ((si (si (s1.2) 26 (s1.1).toNatClampNeg ((s1.2).1 1 (s1.1).toNatClampNeg)) 27 (s1.1).toNatClampNeg ((si (s1.2) 26 (s1.1).toNatClampNeg ((s1.2).1 1 (s1.1).toNatClampNeg)).1 2 (s1.1).toNatClampNeg)).1 3 (s1.1).toNatClampNeg)).1 4 (s1.1).toNatClampNeg))))))))))))
def Mo_image_l101  (s12 : Int32 × Mm) : Option ((Int32 × Mm) ⊕ Mm) :=
  if 49 ≤ (s12.1) then
 (some (.inr (s12.2)))
 else (ga (s12.1) 49 (ga (s12.1) 49 (some (.inl ((s12.1) + 1, si (s12.2) 30 (s12.1).toNatClampNeg ((s12.2).1 5 (s12.1).toNatClampNeg))))))
def Mo_image_l127  (s17 : Int32 × Mm) : Option ((Int32 × Mm) ⊕ Mm) :=
  if 8 ≤ (s17.1) then
 (some (.inr (s17.2)))
 else (ga (s17.1) 8 (ga (s17.1) 8 (ga (s17.1) 8 (ga (s17.1) 8 (ga (s17.1) 8 (ga (s17.1) 8 (some (.inl ((s17.1) + 1, si (si (si (s17.2) 31 (s17.1).toNatClampNeg ((s17.2).1 6 (s17.1).toNatClampNeg)) 32 (s17.1).toNatClampNeg ((si (s17.2) 31 (s17.1).toNatClampNeg ((s17.2).1 6 (s17.1).toNatClampNeg)).1 7 (s17.1).toNatClampNeg)) 33 (s17.1).toNatClampNeg ((si (si (s17.2) 31 (s17.1).toNatClampNeg ((s17.2).1 6 (s17.1).toNatClampNeg)) 32 (s17.1).toNatClampNeg ((si (s17.2) 31 (s17.1).toNatClampNeg ((s17.2).1 6 (s17.1).toNatClampNeg)).1 7 (s17.1).toNatClampNeg)).1 8 (s17.1).toNatClampNeg))))))))))
def Mo_image_l177  (s26 : Int32 × Mm) : Option ((Int32 × Mm) ⊕ Mm) :=
  if 12 ≤ (s26.1) then
 (some (.inr (s26.2)))
 else (ga (s26.1) 12 (ga (s26.1) 12 (some (.inl ((s26.1) + 1, si (s26.2) 34 (s26.1).toNatClampNeg ((s26.2).1 25 (s26.1).toNatClampNeg))))))
noncomputable def Mo_image (m : Mm) : Option (Int32 × Mm) :=
  (iter (Mo_image_l39) (0, si (si (si (si (si m 0 41 1) 0 42 ((si m 0 41 1).1 0 11)) 0 43 ((si (si m 0 41 1) 0 42 ((si m 0 41 1).1 0 11)).1 0 0)) 0 44 ((si (si (si m 0 41 1) 0 42 ((si m 0 41 1).1 0 11)) 0 43 ((si (si m 0 41 1) 0 42 ((si m 0 41 1).1 0 11)).1 0 0)).1 0 1)) 0 45 ((si (si (si (si m 0 41 1) 0 42 ((si m 0 41 1).1 0 11)) 0 43 ((si (si m 0 41 1) 0 42 ((si m 0 41 1).1 0 11)).1 0 0)) 0 44 ((si (si (si m 0 41 1) 0 42 ((si m 0 41 1).1 0 11)) 0 43 ((si (si m 0 41 1) 0 42 ((si m 0 41 1).1 0 11)).1 0 0)).1 0 1)).1 0 39))).bind fun e2 =>
  (iter (Mo_image_l101) (0, e2)).bind fun e13 =>
  (iter (Mo_image_l127) (0, e13)).bind fun e18 =>
  (iter (Mo_image_l177) (0, e18)).bind fun e27 =>
  some (e27.1 0 0, e27)
set_option maxRecDepth 20000 in
set_option maxHeartbeats 4000000 in
theorem Mo_image_ok {G : Gw} (hG : gOk G) (hs : gsh G = shM) {m : Mm} {P : Option Value → Mm → Prop} (h : mjO (Mo_image m) (fun r => P (some (.int r.1)) r.2)) : mjR G 0 yX7_image cX7_image 2 (some .int) [.ref (gr G 0)] m P := by
  refine mjR_of hG (by decide) (Nat.le_of_ble_eq_true rfl) ?_
  intro X F
  have F : mjF G X cX7_image RX7 2 0 (some .int) := F
  show mjV G X 2 0 [(0, .ref (gr G 0))] [] m P
  unfold Mo_image at h
  refine vAloadN F dX7_image_0 (k := 0) rfl ?_
  refine vIconst F (v := 1) dX7_image_1 k_1 ?_
  refine vPutI F dX7_image_2 fw_X7_136 (cqM_0 hs) rfl ⟨rfl, rfl⟩ ?_
  refine vAloadN F dX7_image_5 (k := 0) rfl ?_
  refine vAloadN F dX7_image_6 (k := 0) rfl ?_
  refine vGetI F dX7_image_7 fa_X7_44 (cqM_0 hs) rfl ?_
  refine vPutI F dX7_image_10 fw_X7_140 (cqM_0 hs) rfl ⟨rfl, rfl⟩ ?_
  refine vAloadN F dX7_image_13 (k := 0) rfl ?_
  refine vAloadN F dX7_image_14 (k := 0) rfl ?_
  refine vGetI F dX7_image_15 fa_X7_7 (cqM_0 hs) rfl ?_
  refine vPutI F dX7_image_18 fw_X7_143 (cqM_0 hs) rfl ⟨rfl, rfl⟩ ?_
  refine vAloadN F dX7_image_21 (k := 0) rfl ?_
  refine vAloadN F dX7_image_22 (k := 0) rfl ?_
  refine vGetI F dX7_image_23 fa_X7_13 (cqM_0 hs) rfl ?_
  refine vPutI F dX7_image_26 fw_X7_146 (cqM_0 hs) rfl ⟨rfl, rfl⟩ ?_
  refine vAloadN F dX7_image_29 (k := 0) rfl ?_
  refine vAloadN F dX7_image_30 (k := 0) rfl ?_
  refine vGetI F dX7_image_31 fa_X7_130 (cqM_0 hs) rfl ?_
  refine vPutI F dX7_image_34 fw_X7_149 (cqM_0 hs) rfl ⟨rfl, rfl⟩ ?_
  refine vIconst F (v := 0) dX7_image_37 k_0 ?_
  refine vIstoreN F (L' := [(1, .int 0), (0, .ref (gr G 0))]) dX7_image_38 rfl (by decide) rfl ?_
  refine vSub [1, 0] rfl ?_
  refine okLoop (s0 := (0, si (si (si (si (si m 0 41 1) 0 42 ((si m 0 41 1).1 0 11)) 0 43 ((si (si m 0 41 1) 0 42 ((si m 0 41 1).1 0 11)).1 0 0)) 0 44 ((si (si (si m 0 41 1) 0 42 ((si m 0 41 1).1 0 11)) 0 43 ((si (si m 0 41 1) 0 42 ((si m 0 41 1).1 0 11)).1 0 0)).1 0 1)) 0 45 ((si (si (si (si m 0 41 1) 0 42 ((si m 0 41 1).1 0 11)) 0 43 ((si (si m 0 41 1) 0 42 ((si m 0 41 1).1 0 11)).1 0 0)) 0 44 ((si (si (si m 0 41 1) 0 42 ((si m 0 41 1).1 0 11)) 0 43 ((si (si m 0 41 1) 0 42 ((si m 0 41 1).1 0 11)).1 0 0)).1 0 1)).1 0 39))) (T := (fun (s1 : Int32 × Mm) => mjV G X 2 39 [(0, .ref (gr G 0)), (1, .int (s1.1))] [] (s1.2) P)) (Ve := (fun (e2 : Mm) => mjV G X 2 99 [(0, .ref (gr G 0))] [] e2 P)) h ?_ (fun s1 h => ?_)
  · intro e2 h
    refine vIconst F (v := 0) dX7_image_99 k_0 ?_
    refine vIstoreN F (L' := [(1, .int 0), (0, .ref (gr G 0))]) dX7_image_100 rfl (by decide) rfl ?_
    refine vSub [1, 0] rfl ?_
    refine okLoop (s0 := (0, e2)) (T := (fun (s12 : Int32 × Mm) => mjV G X 2 101 [(0, .ref (gr G 0)), (1, .int (s12.1))] [] (s12.2) P)) (Ve := (fun (e13 : Mm) => mjV G X 2 125 [(0, .ref (gr G 0))] [] e13 P)) h ?_ (fun s12 h => ?_)
    · intro e13 h
      refine vIconst F (v := 0) dX7_image_125 k_0 ?_
      refine vIstoreN F (L' := [(1, .int 0), (0, .ref (gr G 0))]) dX7_image_126 rfl (by decide) rfl ?_
      refine vSub [1, 0] rfl ?_
      refine okLoop (s0 := (0, e13)) (T := (fun (s17 : Int32 × Mm) => mjV G X 2 127 [(0, .ref (gr G 0)), (1, .int (s17.1))] [] (s17.2) P)) (Ve := (fun (e18 : Mm) => mjV G X 2 175 [(0, .ref (gr G 0))] [] e18 P)) h ?_ (fun s17 h => ?_)
      · intro e18 h
        refine vIconst F (v := 0) dX7_image_175 k_0 ?_
        refine vIstoreN F (L' := [(1, .int 0), (0, .ref (gr G 0))]) dX7_image_176 rfl (by decide) rfl ?_
        refine vSub [1, 0] rfl ?_
        refine okLoop (s0 := (0, e18)) (T := (fun (s26 : Int32 × Mm) => mjV G X 2 177 [(0, .ref (gr G 0)), (1, .int (s26.1))] [] (s26.2) P)) (Ve := (fun (e27 : Mm) => mjV G X 2 201 [(0, .ref (gr G 0))] [] e27 P)) h ?_ (fun s26 h => ?_)
        · intro e27 h
          refine vAloadN F dX7_image_201 (k := 0) rfl ?_
          refine vGetI F dX7_image_202 fa_X7_7 (cqM_0 hs) rfl ?_
          have z := okS h
          exact vIret F dX7_image_205 z
        · unfold Mo_image_l177 at h
          refine vIloadN F dX7_image_177 (k := 1) rfl ?_
          refine vBipush F (v := 12) dX7_image_178 kb_12 ?_
          refine vIcmpGe F (tgt := 201) dX7_image_180 (by decide) (fun c30 => ?_) (fun c30 => ?_)
          · replace h := okT h c30
            refine vSub [0] rfl ?_
            have z := okR h
            exact z
          · replace h := okF h c30
            refine vAloadN F dX7_image_183 (k := 0) rfl ?_
            refine vGetR F (t := 34) dX7_image_184 fa_X7_176 (cqM_0 hs) rfl ?_
            refine vIloadN F dX7_image_187 (k := 1) rfl ?_
            refine vAloadN F dX7_image_188 (k := 0) rfl ?_
            refine vGetR F (t := 25) dX7_image_189 fa_X7_133 (cqM_0 hs) rfl ?_
            refine vIloadN F dX7_image_192 (k := 1) rfl ?_
            obtain ⟨g28, h⟩ := okga h
            refine vIald F dX7_image_193 (cqM_25 hs) g28 ?_
            obtain ⟨g29, h⟩ := okga h
            refine vIast F dX7_image_194 (cqM_34 hs) g29 ?_
            refine vIinc F (v := 1) (k := 1) (L' := [(1, .int ((s26.1) + 1)), (0, .ref (gr G 0))]) dX7_image_195 rfl k_1 (by decide) rfl ?_
            refine vGoto F (tgt := 177) dX7_image_198 (by decide) ?_
            refine vSub [1, 0] rfl ?_
            have z := okL h
            exact z
      · unfold Mo_image_l127 at h
        refine vIloadN F dX7_image_127 (k := 1) rfl ?_
        refine vBipush F (v := 8) dX7_image_128 kb_8 ?_
        refine vIcmpGe F (tgt := 175) dX7_image_130 (by decide) (fun c25 => ?_) (fun c25 => ?_)
        · replace h := okT h c25
          refine vSub [0] rfl ?_
          have z := okR h
          exact z
        · replace h := okF h c25
          refine vAloadN F dX7_image_133 (k := 0) rfl ?_
          refine vGetR F (t := 31) dX7_image_134 fa_X7_167 (cqM_0 hs) rfl ?_
          refine vIloadN F dX7_image_137 (k := 1) rfl ?_
          refine vAloadN F dX7_image_138 (k := 0) rfl ?_
          refine vGetR F (t := 6) dX7_image_139 fa_X7_32 (cqM_0 hs) rfl ?_
          refine vIloadN F dX7_image_142 (k := 1) rfl ?_
          obtain ⟨g19, h⟩ := okga h
          refine vIald F dX7_image_143 (cqM_6 hs) g19 ?_
          obtain ⟨g20, h⟩ := okga h
          refine vIast F dX7_image_144 (cqM_31 hs) g20 ?_
          refine vAloadN F dX7_image_145 (k := 0) rfl ?_
          refine vGetR F (t := 32) dX7_image_146 fa_X7_170 (cqM_0 hs) rfl ?_
          refine vIloadN F dX7_image_149 (k := 1) rfl ?_
          refine vAloadN F dX7_image_150 (k := 0) rfl ?_
          refine vGetR F (t := 7) dX7_image_151 fa_X7_35 (cqM_0 hs) rfl ?_
          refine vIloadN F dX7_image_154 (k := 1) rfl ?_
          obtain ⟨g21, h⟩ := okga h
          refine vIald F dX7_image_155 (cqM_7 hs) g21 ?_
          obtain ⟨g22, h⟩ := okga h
          refine vIast F dX7_image_156 (cqM_32 hs) g22 ?_
          refine vAloadN F dX7_image_157 (k := 0) rfl ?_
          refine vGetR F (t := 33) dX7_image_158 fa_X7_173 (cqM_0 hs) rfl ?_
          refine vIloadN F dX7_image_161 (k := 1) rfl ?_
          refine vAloadN F dX7_image_162 (k := 0) rfl ?_
          refine vGetR F (t := 8) dX7_image_163 fa_X7_38 (cqM_0 hs) rfl ?_
          refine vIloadN F dX7_image_166 (k := 1) rfl ?_
          obtain ⟨g23, h⟩ := okga h
          refine vIald F dX7_image_167 (cqM_8 hs) g23 ?_
          obtain ⟨g24, h⟩ := okga h
          refine vIast F dX7_image_168 (cqM_33 hs) g24 ?_
          refine vIinc F (v := 1) (k := 1) (L' := [(1, .int ((s17.1) + 1)), (0, .ref (gr G 0))]) dX7_image_169 rfl k_1 (by decide) rfl ?_
          refine vGoto F (tgt := 127) dX7_image_172 (by decide) ?_
          refine vSub [1, 0] rfl ?_
          have z := okL h
          exact z
    · unfold Mo_image_l101 at h
      refine vIloadN F dX7_image_101 (k := 1) rfl ?_
      refine vBipush F (v := 49) dX7_image_102 kb_49 ?_
      refine vIcmpGe F (tgt := 125) dX7_image_104 (by decide) (fun c16 => ?_) (fun c16 => ?_)
      · replace h := okT h c16
        refine vSub [0] rfl ?_
        have z := okR h
        exact z
      · replace h := okF h c16
        refine vAloadN F dX7_image_107 (k := 0) rfl ?_
        refine vGetR F (t := 30) dX7_image_108 fa_X7_164 (cqM_0 hs) rfl ?_
        refine vIloadN F dX7_image_111 (k := 1) rfl ?_
        refine vAloadN F dX7_image_112 (k := 0) rfl ?_
        refine vGetR F (t := 5) dX7_image_113 fa_X7_29 (cqM_0 hs) rfl ?_
        refine vIloadN F dX7_image_116 (k := 1) rfl ?_
        obtain ⟨g14, h⟩ := okga h
        refine vIald F dX7_image_117 (cqM_5 hs) g14 ?_
        obtain ⟨g15, h⟩ := okga h
        refine vIast F dX7_image_118 (cqM_30 hs) g15 ?_
        refine vIinc F (v := 1) (k := 1) (L' := [(1, .int ((s12.1) + 1)), (0, .ref (gr G 0))]) dX7_image_119 rfl k_1 (by decide) rfl ?_
        refine vGoto F (tgt := 101) dX7_image_122 (by decide) ?_
        refine vSub [1, 0] rfl ?_
        have z := okL h
        exact z
  · unfold Mo_image_l39 at h
    refine vIloadN F dX7_image_39 (k := 1) rfl ?_
    refine vBipush F (v := 7) dX7_image_40 kb_7 ?_
    refine vIcmpGe F (tgt := 99) dX7_image_42 (by decide) (fun c11 => ?_) (fun c11 => ?_)
    · replace h := okT h c11
      refine vSub [0] rfl ?_
      have z := okR h
      exact z
    · replace h := okF h c11
      refine vAloadN F dX7_image_45 (k := 0) rfl ?_
      refine vGetR F (t := 26) dX7_image_46 fa_X7_152 (cqM_0 hs) rfl ?_
      refine vIloadN F dX7_image_49 (k := 1) rfl ?_
      refine vAloadN F dX7_image_50 (k := 0) rfl ?_
      refine vGetR F (t := 1) dX7_image_51 fa_X7_16 (cqM_0 hs) rfl ?_
      refine vIloadN F dX7_image_54 (k := 1) rfl ?_
      obtain ⟨g3, h⟩ := okga h
      refine vIald F dX7_image_55 (cqM_1 hs) g3 ?_
      obtain ⟨g4, h⟩ := okga h
      refine vIast F dX7_image_56 (cqM_26 hs) g4 ?_
      refine vAloadN F dX7_image_57 (k := 0) rfl ?_
      refine vGetR F (t := 27) dX7_image_58 fa_X7_155 (cqM_0 hs) rfl ?_
      refine vIloadN F dX7_image_61 (k := 1) rfl ?_
      refine vAloadN F dX7_image_62 (k := 0) rfl ?_
      refine vGetR F (t := 2) dX7_image_63 fa_X7_20 (cqM_0 hs) rfl ?_
      refine vIloadN F dX7_image_66 (k := 1) rfl ?_
      obtain ⟨g5, h⟩ := okga h
      refine vIald F dX7_image_67 (cqM_2 hs) g5 ?_
      obtain ⟨g6, h⟩ := okga h
      refine vIast F dX7_image_68 (cqM_27 hs) g6 ?_
      refine vAloadN F dX7_image_69 (k := 0) rfl ?_
      refine vGetR F (t := 28) dX7_image_70 fa_X7_158 (cqM_0 hs) rfl ?_
      refine vIloadN F dX7_image_73 (k := 1) rfl ?_
      refine vAloadN F dX7_image_74 (k := 0) rfl ?_
      refine vGetR F (t := 3) dX7_image_75 fa_X7_23 (cqM_0 hs) rfl ?_
      refine vIloadN F dX7_image_78 (k := 1) rfl ?_
      obtain ⟨g7, h⟩ := okga h
      refine vIald F dX7_image_79 (cqM_3 hs) g7 ?_
      obtain ⟨g8, h⟩ := okga h
      refine vIast F dX7_image_80 (cqM_28 hs) g8 ?_
      refine vAloadN F dX7_image_81 (k := 0) rfl ?_
      refine vGetR F (t := 29) dX7_image_82 fa_X7_161 (cqM_0 hs) rfl ?_
      refine vIloadN F dX7_image_85 (k := 1) rfl ?_
      refine vAloadN F dX7_image_86 (k := 0) rfl ?_
      refine vGetR F (t := 4) dX7_image_87 fa_X7_26 (cqM_0 hs) rfl ?_
      refine vIloadN F dX7_image_90 (k := 1) rfl ?_
      obtain ⟨g9, h⟩ := okga h
      refine vIald F dX7_image_91 (cqM_4 hs) g9 ?_
      obtain ⟨g10, h⟩ := okga h
      refine vIast F dX7_image_92 (cqM_29 hs) g10 ?_
      refine vIinc F (v := 1) (k := 1) (L' := [(1, .int ((s1.1) + 1)), (0, .ref (gr G 0))]) dX7_image_93 rfl k_1 (by decide) rfl ?_
      refine vGoto F (tgt := 39) dX7_image_96 (by decide) ?_
      refine vSub [1, 0] rfl ?_
      have z := okL h
      exact z
def Mo_undo_l44  (s1 : Int32 × Mm) : Option ((Int32 × Mm) ⊕ Mm) :=
  if 7 ≤ (s1.1) then
 (some (.inr (s1.2)))
 else (ga (s1.1) 7 (ga (s1.1) 7 (ga (s1.1) 7 (ga (s1.1) 7 (ga (s1.1) 7 (ga (s1.1) 7 (ga (s1.1) 7 (ga (s1.1) 7 (some (.inl ((s1.1) + 1, si (si (si (si (s1.2) 1 (s1.1).toNatClampNeg ((s1.2).1 26 (s1.1).toNatClampNeg)) 2 (s1.1).toNatClampNeg ((si (s1.2) 1 (s1.1).toNatClampNeg ((s1.2).1 26 (s1.1).toNatClampNeg)).1 27 (s1.1).toNatClampNeg)) 3 (s1.1).toNatClampNeg ((si (si (s1.2) 1 (s1.1).toNatClampNeg ((s1.2).1 26 (s1.1).toNatClampNeg)) 2 (s1.1).toNatClampNeg ((si (s1.2) 1 (s1.1).toNatClampNeg ((s1.2).1 26 (s1.1).toNatClampNeg)).1 27 (s1.1).toNatClampNeg)).1 28 (s1.1).toNatClampNeg)) 4 (s1.1).toNatClampNeg ((si (si (si (s1.2) 1 (s1.1).toNatClampNeg ((s1.2).1 26 (s1.1).toNatClampNeg)) 2 (s1.1).toNatClampNeg ((si (s1.2) 1 (s1.1).toNatClampNeg ((s1.2).1 26 (s1.1).toNatClampNeg)).1 27 (s1.1).toNatClampNeg)) 3 (s1.1).toNatClampNeg ((si (si (s1.2) 1 (s1.1).toNatClampNeg ((s1.2).1 26 (s1.1).toNatClampNeg)) 2 (s1.1).toNatClampNeg ((si (s1.2) 1 (s1.1).toNatClampNeg ((s1.2).1 26 (s1.1).toNatClampNeg)).1 27 (s1.1).toNatClampNeg)).1 28 (s1.1).toNatClampNeg)).1 29 (s1.1).toNatClampNeg))))))))))))
def Mo_undo_l106  (s12 : Int32 × Mm) : Option ((Int32 × Mm) ⊕ Mm) :=
  if 49 ≤ (s12.1) then
 (some (.inr (s12.2)))
 else (ga (s12.1) 49 (ga (s12.1) 49 (some (.inl ((s12.1) + 1, si (s12.2) 5 (s12.1).toNatClampNeg ((s12.2).1 30 (s12.1).toNatClampNeg))))))
def Mo_undo_l132  (s17 : Int32 × Mm) : Option ((Int32 × Mm) ⊕ Mm) :=
  if 8 ≤ (s17.1) then
 (some (.inr (s17.2)))
 else (ga (s17.1) 8 (ga (s17.1) 8 (ga (s17.1) 8 (ga (s17.1) 8 (ga (s17.1) 8 (ga (s17.1) 8 (some (.inl ((s17.1) + 1, si (si (si (s17.2) 6 (s17.1).toNatClampNeg ((s17.2).1 31 (s17.1).toNatClampNeg)) 7 (s17.1).toNatClampNeg ((si (s17.2) 6 (s17.1).toNatClampNeg ((s17.2).1 31 (s17.1).toNatClampNeg)).1 32 (s17.1).toNatClampNeg)) 8 (s17.1).toNatClampNeg ((si (si (s17.2) 6 (s17.1).toNatClampNeg ((s17.2).1 31 (s17.1).toNatClampNeg)) 7 (s17.1).toNatClampNeg ((si (s17.2) 6 (s17.1).toNatClampNeg ((s17.2).1 31 (s17.1).toNatClampNeg)).1 32 (s17.1).toNatClampNeg)).1 33 (s17.1).toNatClampNeg))))))))))
def Mo_undo_l182  (s26 : Int32 × Mm) : Option ((Int32 × Mm) ⊕ Mm) :=
  if 12 ≤ (s26.1) then
 (some (.inr (s26.2)))
 else (ga (s26.1) 12 (ga (s26.1) 12 (some (.inl ((s26.1) + 1, si (s26.2) 25 (s26.1).toNatClampNeg ((s26.2).1 34 (s26.1).toNatClampNeg))))))
noncomputable def Mo_undo (m : Mm) : Option (Int32 × Mm) :=
  if (m.1 0 41) = 0 then
 (some ((-3), m))
 else ((iter (Mo_undo_l44) (0, si (si (si (si m 0 11 (m.1 0 42)) 0 0 ((si m 0 11 (m.1 0 42)).1 0 43)) 0 1 ((si (si m 0 11 (m.1 0 42)) 0 0 ((si m 0 11 (m.1 0 42)).1 0 43)).1 0 44)) 0 39 ((si (si (si m 0 11 (m.1 0 42)) 0 0 ((si m 0 11 (m.1 0 42)).1 0 43)) 0 1 ((si (si m 0 11 (m.1 0 42)) 0 0 ((si m 0 11 (m.1 0 42)).1 0 43)).1 0 44)).1 0 45))).bind fun e2 =>
  (iter (Mo_undo_l106) (0, e2)).bind fun e13 =>
  (iter (Mo_undo_l132) (0, e13)).bind fun e18 =>
  (iter (Mo_undo_l182) (0, e18)).bind fun e27 =>
  some (e27.1 0 0, e27))
set_option maxRecDepth 20000 in
set_option maxHeartbeats 4000000 in
theorem Mo_undo_ok {G : Gw} (hG : gOk G) (hs : gsh G = shM) {m : Mm} {P : Option Value → Mm → Prop} (h : mjO (Mo_undo m) (fun r => P (some (.int r.1)) r.2)) : mjR G 0 yX7_undo cX7_undo 2 (some .int) [.ref (gr G 0)] m P := by
  refine mjR_of hG (by decide) (Nat.le_of_ble_eq_true rfl) ?_
  intro X F
  have F : mjF G X cX7_undo RX7 2 0 (some .int) := F
  show mjV G X 2 0 [(0, .ref (gr G 0))] [] m P
  unfold Mo_undo at h
  refine vAloadN F dX7_undo_0 (k := 0) rfl ?_
  refine vGetI F dX7_undo_1 fa_X7_136 (cqM_0 hs) rfl ?_
  refine vIfNe F (tgt := 10) dX7_undo_4 (by decide) (fun c35 => ?_) (fun c35 => ?_)
  · replace h := okF h c35
    refine vAloadN F dX7_undo_10 (k := 0) rfl ?_
    refine vAloadN F dX7_undo_11 (k := 0) rfl ?_
    refine vGetI F dX7_undo_12 fa_X7_140 (cqM_0 hs) rfl ?_
    refine vPutI F dX7_undo_15 fw_X7_44 (cqM_0 hs) rfl ⟨rfl, rfl⟩ ?_
    refine vAloadN F dX7_undo_18 (k := 0) rfl ?_
    refine vAloadN F dX7_undo_19 (k := 0) rfl ?_
    refine vGetI F dX7_undo_20 fa_X7_143 (cqM_0 hs) rfl ?_
    refine vPutI F dX7_undo_23 fw_X7_7 (cqM_0 hs) rfl ⟨rfl, rfl⟩ ?_
    refine vAloadN F dX7_undo_26 (k := 0) rfl ?_
    refine vAloadN F dX7_undo_27 (k := 0) rfl ?_
    refine vGetI F dX7_undo_28 fa_X7_146 (cqM_0 hs) rfl ?_
    refine vPutI F dX7_undo_31 fw_X7_13 (cqM_0 hs) rfl ⟨rfl, rfl⟩ ?_
    refine vAloadN F dX7_undo_34 (k := 0) rfl ?_
    refine vAloadN F dX7_undo_35 (k := 0) rfl ?_
    refine vGetI F dX7_undo_36 fa_X7_149 (cqM_0 hs) rfl ?_
    refine vPutI F dX7_undo_39 fw_X7_130 (cqM_0 hs) rfl ⟨rfl, rfl⟩ ?_
    refine vIconst F (v := 0) dX7_undo_42 k_0 ?_
    refine vIstoreN F (L' := [(1, .int 0), (0, .ref (gr G 0))]) dX7_undo_43 rfl (by decide) rfl ?_
    refine vSub [1, 0] rfl ?_
    refine okLoop (s0 := (0, si (si (si (si m 0 11 (m.1 0 42)) 0 0 ((si m 0 11 (m.1 0 42)).1 0 43)) 0 1 ((si (si m 0 11 (m.1 0 42)) 0 0 ((si m 0 11 (m.1 0 42)).1 0 43)).1 0 44)) 0 39 ((si (si (si m 0 11 (m.1 0 42)) 0 0 ((si m 0 11 (m.1 0 42)).1 0 43)) 0 1 ((si (si m 0 11 (m.1 0 42)) 0 0 ((si m 0 11 (m.1 0 42)).1 0 43)).1 0 44)).1 0 45))) (T := (fun (s1 : Int32 × Mm) => mjV G X 2 44 [(0, .ref (gr G 0)), (1, .int (s1.1))] [] (s1.2) P)) (Ve := (fun (e2 : Mm) => mjV G X 2 104 [(0, .ref (gr G 0))] [] e2 P)) h ?_ (fun s1 h => ?_)
    · intro e2 h
      refine vIconst F (v := 0) dX7_undo_104 k_0 ?_
      refine vIstoreN F (L' := [(1, .int 0), (0, .ref (gr G 0))]) dX7_undo_105 rfl (by decide) rfl ?_
      refine vSub [1, 0] rfl ?_
      refine okLoop (s0 := (0, e2)) (T := (fun (s12 : Int32 × Mm) => mjV G X 2 106 [(0, .ref (gr G 0)), (1, .int (s12.1))] [] (s12.2) P)) (Ve := (fun (e13 : Mm) => mjV G X 2 130 [(0, .ref (gr G 0))] [] e13 P)) h ?_ (fun s12 h => ?_)
      · intro e13 h
        refine vIconst F (v := 0) dX7_undo_130 k_0 ?_
        refine vIstoreN F (L' := [(1, .int 0), (0, .ref (gr G 0))]) dX7_undo_131 rfl (by decide) rfl ?_
        refine vSub [1, 0] rfl ?_
        refine okLoop (s0 := (0, e13)) (T := (fun (s17 : Int32 × Mm) => mjV G X 2 132 [(0, .ref (gr G 0)), (1, .int (s17.1))] [] (s17.2) P)) (Ve := (fun (e18 : Mm) => mjV G X 2 180 [(0, .ref (gr G 0))] [] e18 P)) h ?_ (fun s17 h => ?_)
        · intro e18 h
          refine vIconst F (v := 0) dX7_undo_180 k_0 ?_
          refine vIstoreN F (L' := [(1, .int 0), (0, .ref (gr G 0))]) dX7_undo_181 rfl (by decide) rfl ?_
          refine vSub [1, 0] rfl ?_
          refine okLoop (s0 := (0, e18)) (T := (fun (s26 : Int32 × Mm) => mjV G X 2 182 [(0, .ref (gr G 0)), (1, .int (s26.1))] [] (s26.2) P)) (Ve := (fun (e27 : Mm) => mjV G X 2 206 [(0, .ref (gr G 0))] [] e27 P)) h ?_ (fun s26 h => ?_)
          · intro e27 h
            refine vAloadN F dX7_undo_206 (k := 0) rfl ?_
            refine vGetI F dX7_undo_207 fa_X7_7 (cqM_0 hs) rfl ?_
            have z := okS h
            exact vIret F dX7_undo_210 z
          · unfold Mo_undo_l182 at h
            refine vIloadN F dX7_undo_182 (k := 1) rfl ?_
            refine vBipush F (v := 12) dX7_undo_183 kb_12 ?_
            refine vIcmpGe F (tgt := 206) dX7_undo_185 (by decide) (fun c30 => ?_) (fun c30 => ?_)
            · replace h := okT h c30
              refine vSub [0] rfl ?_
              have z := okR h
              exact z
            · replace h := okF h c30
              refine vAloadN F dX7_undo_188 (k := 0) rfl ?_
              refine vGetR F (t := 25) dX7_undo_189 fa_X7_133 (cqM_0 hs) rfl ?_
              refine vIloadN F dX7_undo_192 (k := 1) rfl ?_
              refine vAloadN F dX7_undo_193 (k := 0) rfl ?_
              refine vGetR F (t := 34) dX7_undo_194 fa_X7_176 (cqM_0 hs) rfl ?_
              refine vIloadN F dX7_undo_197 (k := 1) rfl ?_
              obtain ⟨g28, h⟩ := okga h
              refine vIald F dX7_undo_198 (cqM_34 hs) g28 ?_
              obtain ⟨g29, h⟩ := okga h
              refine vIast F dX7_undo_199 (cqM_25 hs) g29 ?_
              refine vIinc F (v := 1) (k := 1) (L' := [(1, .int ((s26.1) + 1)), (0, .ref (gr G 0))]) dX7_undo_200 rfl k_1 (by decide) rfl ?_
              refine vGoto F (tgt := 182) dX7_undo_203 (by decide) ?_
              refine vSub [1, 0] rfl ?_
              have z := okL h
              exact z
        · unfold Mo_undo_l132 at h
          refine vIloadN F dX7_undo_132 (k := 1) rfl ?_
          refine vBipush F (v := 8) dX7_undo_133 kb_8 ?_
          refine vIcmpGe F (tgt := 180) dX7_undo_135 (by decide) (fun c25 => ?_) (fun c25 => ?_)
          · replace h := okT h c25
            refine vSub [0] rfl ?_
            have z := okR h
            exact z
          · replace h := okF h c25
            refine vAloadN F dX7_undo_138 (k := 0) rfl ?_
            refine vGetR F (t := 6) dX7_undo_139 fa_X7_32 (cqM_0 hs) rfl ?_
            refine vIloadN F dX7_undo_142 (k := 1) rfl ?_
            refine vAloadN F dX7_undo_143 (k := 0) rfl ?_
            refine vGetR F (t := 31) dX7_undo_144 fa_X7_167 (cqM_0 hs) rfl ?_
            refine vIloadN F dX7_undo_147 (k := 1) rfl ?_
            obtain ⟨g19, h⟩ := okga h
            refine vIald F dX7_undo_148 (cqM_31 hs) g19 ?_
            obtain ⟨g20, h⟩ := okga h
            refine vIast F dX7_undo_149 (cqM_6 hs) g20 ?_
            refine vAloadN F dX7_undo_150 (k := 0) rfl ?_
            refine vGetR F (t := 7) dX7_undo_151 fa_X7_35 (cqM_0 hs) rfl ?_
            refine vIloadN F dX7_undo_154 (k := 1) rfl ?_
            refine vAloadN F dX7_undo_155 (k := 0) rfl ?_
            refine vGetR F (t := 32) dX7_undo_156 fa_X7_170 (cqM_0 hs) rfl ?_
            refine vIloadN F dX7_undo_159 (k := 1) rfl ?_
            obtain ⟨g21, h⟩ := okga h
            refine vIald F dX7_undo_160 (cqM_32 hs) g21 ?_
            obtain ⟨g22, h⟩ := okga h
            refine vIast F dX7_undo_161 (cqM_7 hs) g22 ?_
            refine vAloadN F dX7_undo_162 (k := 0) rfl ?_
            refine vGetR F (t := 8) dX7_undo_163 fa_X7_38 (cqM_0 hs) rfl ?_
            refine vIloadN F dX7_undo_166 (k := 1) rfl ?_
            refine vAloadN F dX7_undo_167 (k := 0) rfl ?_
            refine vGetR F (t := 33) dX7_undo_168 fa_X7_173 (cqM_0 hs) rfl ?_
            refine vIloadN F dX7_undo_171 (k := 1) rfl ?_
            obtain ⟨g23, h⟩ := okga h
            refine vIald F dX7_undo_172 (cqM_33 hs) g23 ?_
            obtain ⟨g24, h⟩ := okga h
            refine vIast F dX7_undo_173 (cqM_8 hs) g24 ?_
            refine vIinc F (v := 1) (k := 1) (L' := [(1, .int ((s17.1) + 1)), (0, .ref (gr G 0))]) dX7_undo_174 rfl k_1 (by decide) rfl ?_
            refine vGoto F (tgt := 132) dX7_undo_177 (by decide) ?_
            refine vSub [1, 0] rfl ?_
            have z := okL h
            exact z
      · unfold Mo_undo_l106 at h
        refine vIloadN F dX7_undo_106 (k := 1) rfl ?_
        refine vBipush F (v := 49) dX7_undo_107 kb_49 ?_
        refine vIcmpGe F (tgt := 130) dX7_undo_109 (by decide) (fun c16 => ?_) (fun c16 => ?_)
        · replace h := okT h c16
          refine vSub [0] rfl ?_
          have z := okR h
          exact z
        · replace h := okF h c16
          refine vAloadN F dX7_undo_112 (k := 0) rfl ?_
          refine vGetR F (t := 5) dX7_undo_113 fa_X7_29 (cqM_0 hs) rfl ?_
          refine vIloadN F dX7_undo_116 (k := 1) rfl ?_
          refine vAloadN F dX7_undo_117 (k := 0) rfl ?_
          refine vGetR F (t := 30) dX7_undo_118 fa_X7_164 (cqM_0 hs) rfl ?_
          refine vIloadN F dX7_undo_121 (k := 1) rfl ?_
          obtain ⟨g14, h⟩ := okga h
          refine vIald F dX7_undo_122 (cqM_30 hs) g14 ?_
          obtain ⟨g15, h⟩ := okga h
          refine vIast F dX7_undo_123 (cqM_5 hs) g15 ?_
          refine vIinc F (v := 1) (k := 1) (L' := [(1, .int ((s12.1) + 1)), (0, .ref (gr G 0))]) dX7_undo_124 rfl k_1 (by decide) rfl ?_
          refine vGoto F (tgt := 106) dX7_undo_127 (by decide) ?_
          refine vSub [1, 0] rfl ?_
          have z := okL h
          exact z
    · unfold Mo_undo_l44 at h
      refine vIloadN F dX7_undo_44 (k := 1) rfl ?_
      refine vBipush F (v := 7) dX7_undo_45 kb_7 ?_
      refine vIcmpGe F (tgt := 104) dX7_undo_47 (by decide) (fun c11 => ?_) (fun c11 => ?_)
      · replace h := okT h c11
        refine vSub [0] rfl ?_
        have z := okR h
        exact z
      · replace h := okF h c11
        refine vAloadN F dX7_undo_50 (k := 0) rfl ?_
        refine vGetR F (t := 1) dX7_undo_51 fa_X7_16 (cqM_0 hs) rfl ?_
        refine vIloadN F dX7_undo_54 (k := 1) rfl ?_
        refine vAloadN F dX7_undo_55 (k := 0) rfl ?_
        refine vGetR F (t := 26) dX7_undo_56 fa_X7_152 (cqM_0 hs) rfl ?_
        refine vIloadN F dX7_undo_59 (k := 1) rfl ?_
        obtain ⟨g3, h⟩ := okga h
        refine vIald F dX7_undo_60 (cqM_26 hs) g3 ?_
        obtain ⟨g4, h⟩ := okga h
        refine vIast F dX7_undo_61 (cqM_1 hs) g4 ?_
        refine vAloadN F dX7_undo_62 (k := 0) rfl ?_
        refine vGetR F (t := 2) dX7_undo_63 fa_X7_20 (cqM_0 hs) rfl ?_
        refine vIloadN F dX7_undo_66 (k := 1) rfl ?_
        refine vAloadN F dX7_undo_67 (k := 0) rfl ?_
        refine vGetR F (t := 27) dX7_undo_68 fa_X7_155 (cqM_0 hs) rfl ?_
        refine vIloadN F dX7_undo_71 (k := 1) rfl ?_
        obtain ⟨g5, h⟩ := okga h
        refine vIald F dX7_undo_72 (cqM_27 hs) g5 ?_
        obtain ⟨g6, h⟩ := okga h
        refine vIast F dX7_undo_73 (cqM_2 hs) g6 ?_
        refine vAloadN F dX7_undo_74 (k := 0) rfl ?_
        refine vGetR F (t := 3) dX7_undo_75 fa_X7_23 (cqM_0 hs) rfl ?_
        refine vIloadN F dX7_undo_78 (k := 1) rfl ?_
        refine vAloadN F dX7_undo_79 (k := 0) rfl ?_
        refine vGetR F (t := 28) dX7_undo_80 fa_X7_158 (cqM_0 hs) rfl ?_
        refine vIloadN F dX7_undo_83 (k := 1) rfl ?_
        obtain ⟨g7, h⟩ := okga h
        refine vIald F dX7_undo_84 (cqM_28 hs) g7 ?_
        obtain ⟨g8, h⟩ := okga h
        refine vIast F dX7_undo_85 (cqM_3 hs) g8 ?_
        refine vAloadN F dX7_undo_86 (k := 0) rfl ?_
        refine vGetR F (t := 4) dX7_undo_87 fa_X7_26 (cqM_0 hs) rfl ?_
        refine vIloadN F dX7_undo_90 (k := 1) rfl ?_
        refine vAloadN F dX7_undo_91 (k := 0) rfl ?_
        refine vGetR F (t := 29) dX7_undo_92 fa_X7_161 (cqM_0 hs) rfl ?_
        refine vIloadN F dX7_undo_95 (k := 1) rfl ?_
        obtain ⟨g9, h⟩ := okga h
        refine vIald F dX7_undo_96 (cqM_29 hs) g9 ?_
        obtain ⟨g10, h⟩ := okga h
        refine vIast F dX7_undo_97 (cqM_4 hs) g10 ?_
        refine vIinc F (v := 1) (k := 1) (L' := [(1, .int ((s1.1) + 1)), (0, .ref (gr G 0))]) dX7_undo_98 rfl k_1 (by decide) rfl ?_
        refine vGoto F (tgt := 44) dX7_undo_101 (by decide) ?_
        refine vSub [1, 0] rfl ?_
        have z := okL h
        exact z
  · replace h := okT h c35
    refine vBipush F (v := (-3)) dX7_undo_7 kb_m3 ?_
    have z := okS h
    exact vIret F dX7_undo_9 z
def Mo_body (m : Mm) (a1 : Int32) : Option (Mm) :=
  jn (fun (e1 : Mm) => some (si e1 0 55 ((e1.1 0 55) + 1))) fun j2 =>
  if 20 ≤ (m.1 0 55) then
 (j2 (m))
 else (ga (m.1 0 55) 20 (j2 (si m 35 (m.1 0 55).toNatClampNeg a1)))
set_option maxRecDepth 20000 in
set_option maxHeartbeats 4000000 in
theorem Mo_body_ok {G : Gw} (hG : gOk G) (hs : gsh G = shM) {a1 : Int32} {m : Mm} {P : Option Value → Mm → Prop} (h : mjO (Mo_body m a1) (fun r => P none r)) : mjR G 0 yX7_body cX7_body 2 none [.ref (gr G 0), .int a1] m P := by
  refine mjR_of hG (by decide) (Nat.le_of_ble_eq_true rfl) ?_
  intro X F
  have F : mjF G X cX7_body RX7 2 0 none := F
  show mjV G X 2 0 [(0, .ref (gr G 0)), (1, .int a1)] [] m P
  unfold Mo_body at h
  refine vAloadN F dX7_body_0 (k := 0) rfl ?_
  refine vGetI F dX7_body_1 fa_X7_179 (cqM_0 hs) rfl ?_
  refine vBipush F (v := 20) dX7_body_4 kb_20 ?_
  refine okJ (Vj := fun (e1 : Mm) => mjV G X 2 19 [(0, .ref (gr G 0))] [] e1 P) h (fun e1 h => ?_) (fun j2 Jj2 h => ?_)
  · refine vAloadN F dX7_body_19 (k := 0) rfl ?_
    refine vDup F dX7_body_20 rfl ?_
    refine vGetI F dX7_body_21 fa_X7_179 (cqM_0 hs) rfl ?_
    refine vIconst F (v := 1) dX7_body_24 k_1 ?_
    refine vIadd F dX7_body_25 ?_
    refine vPutI F dX7_body_26 fw_X7_179 (cqM_0 hs) rfl ⟨rfl, rfl⟩ ?_
    have z := okS h
    exact vVret F dX7_body_29 z
  · refine vIcmpGe F (tgt := 19) dX7_body_6 (by decide) (fun c4 => ?_) (fun c4 => ?_)
    · replace h := okT h c4
      refine vSub [0] rfl ?_
      exact Jj2 (m) h
    · replace h := okF h c4
      refine vAloadN F dX7_body_9 (k := 0) rfl ?_
      refine vGetR F (t := 35) dX7_body_10 fa_X7_182 (cqM_0 hs) rfl ?_
      refine vAloadN F dX7_body_13 (k := 0) rfl ?_
      refine vGetI F dX7_body_14 fa_X7_179 (cqM_0 hs) rfl ?_
      refine vIloadN F dX7_body_17 (k := 1) rfl ?_
      obtain ⟨g3, h⟩ := okga h
      refine vIast F dX7_body_18 (cqM_35 hs) g3 ?_
      refine vSub [0] rfl ?_
      exact Jj2 (si m 35 (m.1 0 55).toNatClampNeg a1) h
def Mo_placePoints (m : Mm) (a1 : Int32) (a2 : Int32) : Option (Int32 × Mm) :=
  (Mo_body m 10).bind fun r1 =>
  some (a2 + a1, r1)
set_option maxRecDepth 20000 in
set_option maxHeartbeats 4000000 in
theorem Mo_placePoints_ok {G : Gw} (hG : gOk G) (hs : gsh G = shM) {a1 : Int32} {a2 : Int32} {m : Mm} {P : Option Value → Mm → Prop} (h : mjO (Mo_placePoints m a1 a2) (fun r => P (some (.int r.1)) r.2)) : mjR G 1 yX7_placePoints cX7_placePoints 3 (some .int) [.ref (gr G 0), .int a1, .int a2] m P := by
  refine mjR_of hG (by decide) (Nat.le_of_ble_eq_true rfl) ?_
  intro X F
  have F : mjF G X cX7_placePoints RX7 3 1 (some .int) := F
  show mjV G X 3 0 [(0, .ref (gr G 0)), (1, .int a1), (2, .int a2)] [] m P
  unfold Mo_placePoints at h
  refine vAloadN F dX7_placePoints_0 (k := 0) rfl ?_
  refine vBipush F (v := 10) dX7_placePoints_1 kb_10 ?_
  refine vCallV F (d' := 0) (x := 0) (T := TX7) (N := 61) (As := [.int 10]) (st := []) dX7_placePoints_3 lk_X7_354 my_X7_body mv_X7_body (cqM_0 hs) rfl (by decide) rfl rfl (Nat.le_of_ble_eq_true rfl) (Mo_body_ok hG hs (okB h fun r1 h => ?_))
  show mjV G X 3 6 [(0, .ref (gr G 0)), (1, .int a1), (2, .int a2)] [] r1 P
  refine vIloadN F dX7_placePoints_6 (k := 2) rfl ?_
  refine vIloadN F dX7_placePoints_7 (k := 1) rfl ?_
  refine vIadd F dX7_placePoints_8 ?_
  have z := okS h
  exact vIret F dX7_placePoints_9 z
def Mo_pointsAct (m : Mm) (a1 : Int32) (a2 : Int32) : Option (Int32 × Mm) :=
  ga a1 7 (if (m.1 1 a1.toNatClampNeg) = 2 then
 ((Mo_body m 30).bind fun r4 =>
  (Mo_placePoints r4 a1 (a2 * 3)).bind fun r5 =>
  some (r5.1, r5.2))
 else (if (m.1 1 a1.toNatClampNeg) = 3 then
 ((Mo_placePoints m a1 a2).bind fun r7 =>
  some (r7.1, r7.2))
 else (if (m.1 1 a1.toNatClampNeg) = 4 then
 ((Mo_body m 50).bind fun r9 =>
  (Mo_placePoints r9 a1 a2).bind fun r10 =>
  some (-(r10.1), r10.2))
 else (if (m.1 1 a1.toNatClampNeg) = 5 then
 ((Mo_body m 30).bind fun r12 =>
  (Mo_placePoints r12 a1 (a2 * 3)).bind fun r13 =>
  some (r13.1, r13.2))
 else (if (m.1 1 a1.toNatClampNeg) = 6 then
 ((Mo_body m 71).bind fun r15 =>
  (Mo_placePoints r15 a1 a2).bind fun r16 =>
  ga a1 7 (some ((r16.1) ^^^ ((r16.2).1 2 a1.toNatClampNeg), r16.2)))
 else ((Mo_placePoints m a1 a2).bind fun r2 =>
  some (r2.1, r2.2)))))))
set_option maxRecDepth 20000 in
set_option maxHeartbeats 4000000 in
theorem Mo_pointsAct_ok {G : Gw} (hG : gOk G) (hs : gsh G = shM) {a1 : Int32} {a2 : Int32} {m : Mm} {P : Option Value → Mm → Prop} (h : mjO (Mo_pointsAct m a1 a2) (fun r => P (some (.int r.1)) r.2)) : mjR G 2 yX7_pointsAct cX7_pointsAct 3 (some .int) [.ref (gr G 0), .int a1, .int a2] m P := by
  refine mjR_of hG (by decide) (Nat.le_of_ble_eq_true rfl) ?_
  intro X F
  have F : mjF G X cX7_pointsAct RX7 3 2 (some .int) := F
  show mjV G X 3 0 [(0, .ref (gr G 0)), (1, .int a1), (2, .int a2)] [] m P
  unfold Mo_pointsAct at h
  refine vAloadN F dX7_pointsAct_0 (k := 0) rfl ?_
  refine vGetR F (t := 1) dX7_pointsAct_1 fa_X7_16 (cqM_0 hs) rfl ?_
  refine vIloadN F dX7_pointsAct_4 (k := 1) rfl ?_
  obtain ⟨g1, h⟩ := okga h
  refine vIald F dX7_pointsAct_5 (cqM_1 hs) g1 ?_
  by_cases c3 : (m.1 1 a1.toNatClampNeg) = 2
  · replace h := okT h c3
    refine vTabIn F (tgt := 40) dX7_pointsAct_6 c3 (by decide) (by decide) rfl (by decide) ?_
    refine vAloadN F dX7_pointsAct_40 (k := 0) rfl ?_
    refine vBipush F (v := 30) dX7_pointsAct_41 kb_30 ?_
    refine vCallV F (d' := 0) (x := 0) (T := TX7) (N := 61) (As := [.int 30]) (st := []) dX7_pointsAct_43 lk_X7_354 my_X7_body mv_X7_body (cqM_0 hs) rfl (by decide) rfl rfl (Nat.le_of_ble_eq_true rfl) (Mo_body_ok hG hs (okB h fun r4 h => ?_))
    show mjV G X 3 46 [(0, .ref (gr G 0)), (1, .int a1), (2, .int a2)] [] r4 P
    refine vAloadN F dX7_pointsAct_46 (k := 0) rfl ?_
    refine vIloadN F dX7_pointsAct_47 (k := 1) rfl ?_
    refine vIloadN F dX7_pointsAct_48 (k := 2) rfl ?_
    refine vIconst F (v := 3) dX7_pointsAct_49 k_3 ?_
    refine vImul F dX7_pointsAct_50 ?_
    refine vCallV F (d' := 1) (x := 0) (T := TX7) (N := 61) (As := [.int a1, .int (a2 * 3)]) (st := []) dX7_pointsAct_51 lk_X7_357 my_X7_placePoints mv_X7_placePoints (cqM_0 hs) rfl (by decide) rfl rfl (Nat.le_of_ble_eq_true rfl) (Mo_placePoints_ok hG hs (okB h fun r5 h => ?_))
    show mjV G X 3 54 [(0, .ref (gr G 0)), (1, .int a1), (2, .int a2)] [.int (r5.1)] (r5.2) P
    have z := okS h
    exact vIret F dX7_pointsAct_54 z
  replace h := okF h c3
  by_cases c6 : (m.1 1 a1.toNatClampNeg) = 3
  · replace h := okT h c6
    refine vTabIn F (tgt := 89) dX7_pointsAct_6 c6 (by decide) (by decide) rfl (by decide) ?_
    refine vAloadN F dX7_pointsAct_89 (k := 0) rfl ?_
    refine vIloadN F dX7_pointsAct_90 (k := 1) rfl ?_
    refine vIloadN F dX7_pointsAct_91 (k := 2) rfl ?_
    refine vCallV F (d' := 1) (x := 0) (T := TX7) (N := 61) (As := [.int a1, .int a2]) (st := []) dX7_pointsAct_92 lk_X7_357 my_X7_placePoints mv_X7_placePoints (cqM_0 hs) rfl (by decide) rfl rfl (Nat.le_of_ble_eq_true rfl) (Mo_placePoints_ok hG hs (okB h fun r7 h => ?_))
    show mjV G X 3 95 [(0, .ref (gr G 0)), (1, .int a1), (2, .int a2)] [.int (r7.1)] (r7.2) P
    have z := okS h
    exact vIret F dX7_pointsAct_95 z
  replace h := okF h c6
  by_cases c8 : (m.1 1 a1.toNatClampNeg) = 4
  · replace h := okT h c8
    refine vTabIn F (tgt := 55) dX7_pointsAct_6 c8 (by decide) (by decide) rfl (by decide) ?_
    refine vAloadN F dX7_pointsAct_55 (k := 0) rfl ?_
    refine vBipush F (v := 50) dX7_pointsAct_56 kb_50 ?_
    refine vCallV F (d' := 0) (x := 0) (T := TX7) (N := 61) (As := [.int 50]) (st := []) dX7_pointsAct_58 lk_X7_354 my_X7_body mv_X7_body (cqM_0 hs) rfl (by decide) rfl rfl (Nat.le_of_ble_eq_true rfl) (Mo_body_ok hG hs (okB h fun r9 h => ?_))
    show mjV G X 3 61 [(0, .ref (gr G 0)), (1, .int a1), (2, .int a2)] [] r9 P
    refine vAloadN F dX7_pointsAct_61 (k := 0) rfl ?_
    refine vIloadN F dX7_pointsAct_62 (k := 1) rfl ?_
    refine vIloadN F dX7_pointsAct_63 (k := 2) rfl ?_
    refine vCallV F (d' := 1) (x := 0) (T := TX7) (N := 61) (As := [.int a1, .int a2]) (st := []) dX7_pointsAct_64 lk_X7_357 my_X7_placePoints mv_X7_placePoints (cqM_0 hs) rfl (by decide) rfl rfl (Nat.le_of_ble_eq_true rfl) (Mo_placePoints_ok hG hs (okB h fun r10 h => ?_))
    show mjV G X 3 67 [(0, .ref (gr G 0)), (1, .int a1), (2, .int a2)] [.int (r10.1)] (r10.2) P
    refine vIneg F dX7_pointsAct_67 ?_
    have z := okS h
    exact vIret F dX7_pointsAct_68 z
  replace h := okF h c8
  by_cases c11 : (m.1 1 a1.toNatClampNeg) = 5
  · replace h := okT h c11
    refine vTabIn F (tgt := 40) dX7_pointsAct_6 c11 (by decide) (by decide) rfl (by decide) ?_
    refine vAloadN F dX7_pointsAct_40 (k := 0) rfl ?_
    refine vBipush F (v := 30) dX7_pointsAct_41 kb_30 ?_
    refine vCallV F (d' := 0) (x := 0) (T := TX7) (N := 61) (As := [.int 30]) (st := []) dX7_pointsAct_43 lk_X7_354 my_X7_body mv_X7_body (cqM_0 hs) rfl (by decide) rfl rfl (Nat.le_of_ble_eq_true rfl) (Mo_body_ok hG hs (okB h fun r12 h => ?_))
    show mjV G X 3 46 [(0, .ref (gr G 0)), (1, .int a1), (2, .int a2)] [] r12 P
    refine vAloadN F dX7_pointsAct_46 (k := 0) rfl ?_
    refine vIloadN F dX7_pointsAct_47 (k := 1) rfl ?_
    refine vIloadN F dX7_pointsAct_48 (k := 2) rfl ?_
    refine vIconst F (v := 3) dX7_pointsAct_49 k_3 ?_
    refine vImul F dX7_pointsAct_50 ?_
    refine vCallV F (d' := 1) (x := 0) (T := TX7) (N := 61) (As := [.int a1, .int (a2 * 3)]) (st := []) dX7_pointsAct_51 lk_X7_357 my_X7_placePoints mv_X7_placePoints (cqM_0 hs) rfl (by decide) rfl rfl (Nat.le_of_ble_eq_true rfl) (Mo_placePoints_ok hG hs (okB h fun r13 h => ?_))
    show mjV G X 3 54 [(0, .ref (gr G 0)), (1, .int a1), (2, .int a2)] [.int (r13.1)] (r13.2) P
    have z := okS h
    exact vIret F dX7_pointsAct_54 z
  replace h := okF h c11
  by_cases c14 : (m.1 1 a1.toNatClampNeg) = 6
  · replace h := okT h c14
    refine vTabIn F (tgt := 69) dX7_pointsAct_6 c14 (by decide) (by decide) rfl (by decide) ?_
    refine vAloadN F dX7_pointsAct_69 (k := 0) rfl ?_
    refine vBipush F (v := 71) dX7_pointsAct_70 kb_71 ?_
    refine vCallV F (d' := 0) (x := 0) (T := TX7) (N := 61) (As := [.int 71]) (st := []) dX7_pointsAct_72 lk_X7_354 my_X7_body mv_X7_body (cqM_0 hs) rfl (by decide) rfl rfl (Nat.le_of_ble_eq_true rfl) (Mo_body_ok hG hs (okB h fun r15 h => ?_))
    show mjV G X 3 75 [(0, .ref (gr G 0)), (1, .int a1), (2, .int a2)] [] r15 P
    refine vAloadN F dX7_pointsAct_75 (k := 0) rfl ?_
    refine vIloadN F dX7_pointsAct_76 (k := 1) rfl ?_
    refine vIloadN F dX7_pointsAct_77 (k := 2) rfl ?_
    refine vCallV F (d' := 1) (x := 0) (T := TX7) (N := 61) (As := [.int a1, .int a2]) (st := []) dX7_pointsAct_78 lk_X7_357 my_X7_placePoints mv_X7_placePoints (cqM_0 hs) rfl (by decide) rfl rfl (Nat.le_of_ble_eq_true rfl) (Mo_placePoints_ok hG hs (okB h fun r16 h => ?_))
    show mjV G X 3 81 [(0, .ref (gr G 0)), (1, .int a1), (2, .int a2)] [.int (r16.1)] (r16.2) P
    refine vAloadN F dX7_pointsAct_81 (k := 0) rfl ?_
    refine vGetR F (t := 2) dX7_pointsAct_82 fa_X7_20 (cqM_0 hs) rfl ?_
    refine vIloadN F dX7_pointsAct_85 (k := 1) rfl ?_
    obtain ⟨g17, h⟩ := okga h
    refine vIald F dX7_pointsAct_86 (cqM_2 hs) g17 ?_
    refine vIxor F dX7_pointsAct_87 ?_
    have z := okS h
    exact vIret F dX7_pointsAct_88 z
  replace h := okF h c14
  replace c3 := lv_neT c3 (a := 2) (by decide)
  replace c6 := lv_neT c6 (a := 3) (by decide)
  replace c8 := lv_neT c8 (a := 4) (by decide)
  replace c11 := lv_neT c11 (a := 5) (by decide)
  replace c14 := lv_neT c14 (a := 6) (by decide)
  refine vTabOut F (tgt := 89) dX7_pointsAct_6 (by omega) (by decide) ?_
  refine vAloadN F dX7_pointsAct_89 (k := 0) rfl ?_
  refine vIloadN F dX7_pointsAct_90 (k := 1) rfl ?_
  refine vIloadN F dX7_pointsAct_91 (k := 2) rfl ?_
  refine vCallV F (d' := 1) (x := 0) (T := TX7) (N := 61) (As := [.int a1, .int a2]) (st := []) dX7_pointsAct_92 lk_X7_357 my_X7_placePoints mv_X7_placePoints (cqM_0 hs) rfl (by decide) rfl rfl (Nat.le_of_ble_eq_true rfl) (Mo_placePoints_ok hG hs (okB h fun r2 h => ?_))
  show mjV G X 3 95 [(0, .ref (gr G 0)), (1, .int a1), (2, .int a2)] [.int (r2.1)] (r2.2) P
  have z := okS h
  exact vIret F dX7_pointsAct_95 z
def Mo_placeNames (m : Mm) (a1 : Int32) (a2 : Int32) : Option (Int32 × Mm) :=
  (Mo_body m 11).bind fun r1 =>
  (Mo_pointsAct r1 a1 a2).bind fun r2 =>
  ga a1 7 (some ((r2.1) - ((r2.2).1 2 a1.toNatClampNeg), r2.2))
set_option maxRecDepth 20000 in
set_option maxHeartbeats 4000000 in
theorem Mo_placeNames_ok {G : Gw} (hG : gOk G) (hs : gsh G = shM) {a1 : Int32} {a2 : Int32} {m : Mm} {P : Option Value → Mm → Prop} (h : mjO (Mo_placeNames m a1 a2) (fun r => P (some (.int r.1)) r.2)) : mjR G 3 yX7_placeNames cX7_placeNames 3 (some .int) [.ref (gr G 0), .int a1, .int a2] m P := by
  refine mjR_of hG (by decide) (Nat.le_of_ble_eq_true rfl) ?_
  intro X F
  have F : mjF G X cX7_placeNames RX7 3 3 (some .int) := F
  show mjV G X 3 0 [(0, .ref (gr G 0)), (1, .int a1), (2, .int a2)] [] m P
  unfold Mo_placeNames at h
  refine vAloadN F dX7_placeNames_0 (k := 0) rfl ?_
  refine vBipush F (v := 11) dX7_placeNames_1 kb_11 ?_
  refine vCallV F (d' := 0) (x := 0) (T := TX7) (N := 61) (As := [.int 11]) (st := []) dX7_placeNames_3 lk_X7_354 my_X7_body mv_X7_body (cqM_0 hs) rfl (by decide) rfl rfl (Nat.le_of_ble_eq_true rfl) (Mo_body_ok hG hs (okB h fun r1 h => ?_))
  show mjV G X 3 6 [(0, .ref (gr G 0)), (1, .int a1), (2, .int a2)] [] r1 P
  refine vAloadN F dX7_placeNames_6 (k := 0) rfl ?_
  refine vIloadN F dX7_placeNames_7 (k := 1) rfl ?_
  refine vIloadN F dX7_placeNames_8 (k := 2) rfl ?_
  refine vCallV F (d' := 2) (x := 0) (T := TX7) (N := 61) (As := [.int a1, .int a2]) (st := []) dX7_placeNames_9 lk_X7_360 my_X7_pointsAct mv_X7_pointsAct (cqM_0 hs) rfl (by decide) rfl rfl (Nat.le_of_ble_eq_true rfl) (Mo_pointsAct_ok hG hs (okB h fun r2 h => ?_))
  show mjV G X 3 12 [(0, .ref (gr G 0)), (1, .int a1), (2, .int a2)] [.int (r2.1)] (r2.2) P
  refine vAloadN F dX7_placeNames_12 (k := 0) rfl ?_
  refine vGetR F (t := 2) dX7_placeNames_13 fa_X7_20 (cqM_0 hs) rfl ?_
  refine vIloadN F dX7_placeNames_16 (k := 1) rfl ?_
  obtain ⟨g3, h⟩ := okga h
  refine vIald F dX7_placeNames_17 (cqM_2 hs) g3 ?_
  refine vIsub F dX7_placeNames_18 ?_
  have z := okS h
  exact vIret F dX7_placeNames_19 z
def Mo_nearNames (m : Mm) (a1 : Int32) (a2 : Int32) : Option (Int32 × Mm) :=
  (Mo_body m 20).bind fun r1 =>
  (Mo_placeNames r1 a1 a2).bind fun r2 =>
  some ((r2.1) ^^^ 6, r2.2)
set_option maxRecDepth 20000 in
set_option maxHeartbeats 4000000 in
theorem Mo_nearNames_ok {G : Gw} (hG : gOk G) (hs : gsh G = shM) {a1 : Int32} {a2 : Int32} {m : Mm} {P : Option Value → Mm → Prop} (h : mjO (Mo_nearNames m a1 a2) (fun r => P (some (.int r.1)) r.2)) : mjR G 4 yX7_nearNames cX7_nearNames 3 (some .int) [.ref (gr G 0), .int a1, .int a2] m P := by
  refine mjR_of hG (by decide) (Nat.le_of_ble_eq_true rfl) ?_
  intro X F
  have F : mjF G X cX7_nearNames RX7 3 4 (some .int) := F
  show mjV G X 3 0 [(0, .ref (gr G 0)), (1, .int a1), (2, .int a2)] [] m P
  unfold Mo_nearNames at h
  refine vAloadN F dX7_nearNames_0 (k := 0) rfl ?_
  refine vBipush F (v := 20) dX7_nearNames_1 kb_20 ?_
  refine vCallV F (d' := 0) (x := 0) (T := TX7) (N := 61) (As := [.int 20]) (st := []) dX7_nearNames_3 lk_X7_354 my_X7_body mv_X7_body (cqM_0 hs) rfl (by decide) rfl rfl (Nat.le_of_ble_eq_true rfl) (Mo_body_ok hG hs (okB h fun r1 h => ?_))
  show mjV G X 3 6 [(0, .ref (gr G 0)), (1, .int a1), (2, .int a2)] [] r1 P
  refine vAloadN F dX7_nearNames_6 (k := 0) rfl ?_
  refine vIloadN F dX7_nearNames_7 (k := 1) rfl ?_
  refine vIloadN F dX7_nearNames_8 (k := 2) rfl ?_
  refine vCallV F (d' := 3) (x := 0) (T := TX7) (N := 61) (As := [.int a1, .int a2]) (st := []) dX7_nearNames_9 lk_X7_363 my_X7_placeNames mv_X7_placeNames (cqM_0 hs) rfl (by decide) rfl rfl (Nat.le_of_ble_eq_true rfl) (Mo_placeNames_ok hG hs (okB h fun r2 h => ?_))
  show mjV G X 3 12 [(0, .ref (gr G 0)), (1, .int a1), (2, .int a2)] [.int (r2.1)] (r2.2) P
  refine vBipush F (v := 6) dX7_nearNames_12 kb_6 ?_
  refine vIxor F dX7_nearNames_14 ?_
  have z := okS h
  exact vIret F dX7_nearNames_15 z
def Mo_namesAct (m : Mm) (a1 : Int32) (a2 : Int32) : Option (Int32 × Mm) :=
  ga a1 7 (if (m.1 1 a1.toNatClampNeg) = 1 then
 ((Mo_nearNames m a1 a2).bind fun r4 =>
  some (r4.1, r4.2))
 else (if (m.1 1 a1.toNatClampNeg) = 4 then
 ((Mo_body m 51).bind fun r6 =>
  (Mo_nearNames r6 a1 (a2 + 1)).bind fun r7 =>
  some (r7.1, r7.2))
 else (if (m.1 1 a1.toNatClampNeg) = 6 then
 ((Mo_body m 70).bind fun r9 =>
  (Mo_placeNames r9 a1 a2).bind fun r10 =>
  (Mo_placePoints (r10.2) a1 2).bind fun r11 =>
  some ((r10.1) + (r11.1), r11.2))
 else ((Mo_placeNames m a1 a2).bind fun r2 =>
  some (r2.1, r2.2)))))
set_option maxRecDepth 20000 in
set_option maxHeartbeats 4000000 in
theorem Mo_namesAct_ok {G : Gw} (hG : gOk G) (hs : gsh G = shM) {a1 : Int32} {a2 : Int32} {m : Mm} {P : Option Value → Mm → Prop} (h : mjO (Mo_namesAct m a1 a2) (fun r => P (some (.int r.1)) r.2)) : mjR G 5 yX7_namesAct cX7_namesAct 4 (some .int) [.ref (gr G 0), .int a1, .int a2] m P := by
  refine mjR_of hG (by decide) (Nat.le_of_ble_eq_true rfl) ?_
  intro X F
  have F : mjF G X cX7_namesAct RX7 4 5 (some .int) := F
  show mjV G X 4 0 [(0, .ref (gr G 0)), (1, .int a1), (2, .int a2)] [] m P
  unfold Mo_namesAct at h
  refine vAloadN F dX7_namesAct_0 (k := 0) rfl ?_
  refine vGetR F (t := 1) dX7_namesAct_1 fa_X7_16 (cqM_0 hs) rfl ?_
  refine vIloadN F dX7_namesAct_4 (k := 1) rfl ?_
  obtain ⟨g1, h⟩ := okga h
  refine vIald F dX7_namesAct_5 (cqM_1 hs) g1 ?_
  by_cases c3 : (m.1 1 a1.toNatClampNeg) = 1
  · replace h := okT h c3
    refine vLook F (tgt := 40) dX7_namesAct_6 (by decide) (lk_in 1 c3 (by decide)) (by decide) ?_
    refine vAloadN F dX7_namesAct_40 (k := 0) rfl ?_
    refine vIloadN F dX7_namesAct_41 (k := 1) rfl ?_
    refine vIloadN F dX7_namesAct_42 (k := 2) rfl ?_
    refine vCallV F (d' := 4) (x := 0) (T := TX7) (N := 61) (As := [.int a1, .int a2]) (st := []) dX7_namesAct_43 lk_X7_366 my_X7_nearNames mv_X7_nearNames (cqM_0 hs) rfl (by decide) rfl rfl (Nat.le_of_ble_eq_true rfl) (Mo_nearNames_ok hG hs (okB h fun r4 h => ?_))
    show mjV G X 4 46 [(0, .ref (gr G 0)), (1, .int a1), (2, .int a2)] [.int (r4.1)] (r4.2) P
    have z := okS h
    exact vIret F dX7_namesAct_46 z
  replace h := okF h c3
  by_cases c5 : (m.1 1 a1.toNatClampNeg) = 4
  · replace h := okT h c5
    refine vLook F (tgt := 47) dX7_namesAct_6 (by decide) ((lv_osw c3 (by decide)).trans (lk_in 4 c5 (by decide))) (by decide) ?_
    refine vAloadN F dX7_namesAct_47 (k := 0) rfl ?_
    refine vBipush F (v := 51) dX7_namesAct_48 kb_51 ?_
    refine vCallV F (d' := 0) (x := 0) (T := TX7) (N := 61) (As := [.int 51]) (st := []) dX7_namesAct_50 lk_X7_354 my_X7_body mv_X7_body (cqM_0 hs) rfl (by decide) rfl rfl (Nat.le_of_ble_eq_true rfl) (Mo_body_ok hG hs (okB h fun r6 h => ?_))
    show mjV G X 4 53 [(0, .ref (gr G 0)), (1, .int a1), (2, .int a2)] [] r6 P
    refine vAloadN F dX7_namesAct_53 (k := 0) rfl ?_
    refine vIloadN F dX7_namesAct_54 (k := 1) rfl ?_
    refine vIloadN F dX7_namesAct_55 (k := 2) rfl ?_
    refine vIconst F (v := 1) dX7_namesAct_56 k_1 ?_
    refine vIadd F dX7_namesAct_57 ?_
    refine vCallV F (d' := 4) (x := 0) (T := TX7) (N := 61) (As := [.int a1, .int (a2 + 1)]) (st := []) dX7_namesAct_58 lk_X7_366 my_X7_nearNames mv_X7_nearNames (cqM_0 hs) rfl (by decide) rfl rfl (Nat.le_of_ble_eq_true rfl) (Mo_nearNames_ok hG hs (okB h fun r7 h => ?_))
    show mjV G X 4 61 [(0, .ref (gr G 0)), (1, .int a1), (2, .int a2)] [.int (r7.1)] (r7.2) P
    have z := okS h
    exact vIret F dX7_namesAct_61 z
  replace h := okF h c5
  by_cases c8 : (m.1 1 a1.toNatClampNeg) = 6
  · replace h := okT h c8
    refine vLook F (tgt := 62) dX7_namesAct_6 (by decide) ((lv_osw c3 (by decide)).trans ((lv_osw c5 (by decide)).trans (lk_in 6 c8 (by decide)))) (by decide) ?_
    refine vAloadN F dX7_namesAct_62 (k := 0) rfl ?_
    refine vBipush F (v := 70) dX7_namesAct_63 kb_70 ?_
    refine vCallV F (d' := 0) (x := 0) (T := TX7) (N := 61) (As := [.int 70]) (st := []) dX7_namesAct_65 lk_X7_354 my_X7_body mv_X7_body (cqM_0 hs) rfl (by decide) rfl rfl (Nat.le_of_ble_eq_true rfl) (Mo_body_ok hG hs (okB h fun r9 h => ?_))
    show mjV G X 4 68 [(0, .ref (gr G 0)), (1, .int a1), (2, .int a2)] [] r9 P
    refine vAloadN F dX7_namesAct_68 (k := 0) rfl ?_
    refine vIloadN F dX7_namesAct_69 (k := 1) rfl ?_
    refine vIloadN F dX7_namesAct_70 (k := 2) rfl ?_
    refine vCallV F (d' := 3) (x := 0) (T := TX7) (N := 61) (As := [.int a1, .int a2]) (st := []) dX7_namesAct_71 lk_X7_363 my_X7_placeNames mv_X7_placeNames (cqM_0 hs) rfl (by decide) rfl rfl (Nat.le_of_ble_eq_true rfl) (Mo_placeNames_ok hG hs (okB h fun r10 h => ?_))
    show mjV G X 4 74 [(0, .ref (gr G 0)), (1, .int a1), (2, .int a2)] [.int (r10.1)] (r10.2) P
    refine vIstoreN F (L' := [(3, .int (r10.1)), (0, .ref (gr G 0)), (1, .int a1), (2, .int a2)]) dX7_namesAct_74 rfl (by decide) rfl ?_
    refine vIloadN F dX7_namesAct_75 (k := 0) rfl ?_
    refine vAloadN F dX7_namesAct_76 (k := 1) rfl ?_
    refine vIloadN F dX7_namesAct_77 (k := 2) rfl ?_
    refine vIconst F (v := 2) dX7_namesAct_78 k_2 ?_
    refine vCallV F (d' := 1) (x := 0) (T := TX7) (N := 61) (As := [.int a1, .int 2]) (st := [.int (r10.1)]) dX7_namesAct_79 lk_X7_357 my_X7_placePoints mv_X7_placePoints (cqM_0 hs) rfl (by decide) rfl rfl (Nat.le_of_ble_eq_true rfl) (Mo_placePoints_ok hG hs (okB h fun r11 h => ?_))
    show mjV G X 4 82 [(3, .int (r10.1)), (0, .ref (gr G 0)), (1, .int a1), (2, .int a2)] [.int (r11.1), .int (r10.1)] (r11.2) P
    refine vIadd F dX7_namesAct_82 ?_
    have z := okS h
    exact vIret F dX7_namesAct_83 z
  replace h := okF h c8
  refine vLook F (tgt := 84) dX7_namesAct_6 (by decide) ((lv_osw c3 (by decide)).trans ((lv_osw c5 (by decide)).trans ((lv_osw c8 (by decide)).trans lk_nil))) (by decide) ?_
  refine vAloadN F dX7_namesAct_84 (k := 0) rfl ?_
  refine vIloadN F dX7_namesAct_85 (k := 1) rfl ?_
  refine vIloadN F dX7_namesAct_86 (k := 2) rfl ?_
  refine vCallV F (d' := 3) (x := 0) (T := TX7) (N := 61) (As := [.int a1, .int a2]) (st := []) dX7_namesAct_87 lk_X7_363 my_X7_placeNames mv_X7_placeNames (cqM_0 hs) rfl (by decide) rfl rfl (Nat.le_of_ble_eq_true rfl) (Mo_placeNames_ok hG hs (okB h fun r2 h => ?_))
  show mjV G X 4 90 [(0, .ref (gr G 0)), (1, .int a1), (2, .int a2)] [.int (r2.1)] (r2.2) P
  have z := okS h
  exact vIret F dX7_namesAct_90 z
def Mo_placeTells (m : Mm) (a1 : Int32) (a2 : Int32) : Option (Int32 × Mm) :=
  (Mo_body m 12).bind fun r1 =>
  (Mo_namesAct r1 a1 a2).bind fun r2 =>
  some ((r2.1) * 2, r2.2)
set_option maxRecDepth 20000 in
set_option maxHeartbeats 4000000 in
theorem Mo_placeTells_ok {G : Gw} (hG : gOk G) (hs : gsh G = shM) {a1 : Int32} {a2 : Int32} {m : Mm} {P : Option Value → Mm → Prop} (h : mjO (Mo_placeTells m a1 a2) (fun r => P (some (.int r.1)) r.2)) : mjR G 6 yX7_placeTells cX7_placeTells 3 (some .int) [.ref (gr G 0), .int a1, .int a2] m P := by
  refine mjR_of hG (by decide) (Nat.le_of_ble_eq_true rfl) ?_
  intro X F
  have F : mjF G X cX7_placeTells RX7 3 6 (some .int) := F
  show mjV G X 3 0 [(0, .ref (gr G 0)), (1, .int a1), (2, .int a2)] [] m P
  unfold Mo_placeTells at h
  refine vAloadN F dX7_placeTells_0 (k := 0) rfl ?_
  refine vBipush F (v := 12) dX7_placeTells_1 kb_12 ?_
  refine vCallV F (d' := 0) (x := 0) (T := TX7) (N := 61) (As := [.int 12]) (st := []) dX7_placeTells_3 lk_X7_354 my_X7_body mv_X7_body (cqM_0 hs) rfl (by decide) rfl rfl (Nat.le_of_ble_eq_true rfl) (Mo_body_ok hG hs (okB h fun r1 h => ?_))
  show mjV G X 3 6 [(0, .ref (gr G 0)), (1, .int a1), (2, .int a2)] [] r1 P
  refine vAloadN F dX7_placeTells_6 (k := 0) rfl ?_
  refine vIloadN F dX7_placeTells_7 (k := 1) rfl ?_
  refine vIloadN F dX7_placeTells_8 (k := 2) rfl ?_
  refine vCallV F (d' := 5) (x := 0) (T := TX7) (N := 61) (As := [.int a1, .int a2]) (st := []) dX7_placeTells_9 lk_X7_369 my_X7_namesAct mv_X7_namesAct (cqM_0 hs) rfl (by decide) rfl rfl (Nat.le_of_ble_eq_true rfl) (Mo_namesAct_ok hG hs (okB h fun r2 h => ?_))
  show mjV G X 3 12 [(0, .ref (gr G 0)), (1, .int a1), (2, .int a2)] [.int (r2.1)] (r2.2) P
  refine vIconst F (v := 2) dX7_placeTells_12 k_2 ?_
  refine vImul F dX7_placeTells_13 ?_
  have z := okS h
  exact vIret F dX7_placeTells_14 z
def Mo_tellsAct (m : Mm) (a1 : Int32) (a2 : Int32) : Option (Int32 × Mm) :=
  ga a1 7 (if (m.1 1 a1.toNatClampNeg) = 3 then
 ((Mo_body m 40).bind fun r4 =>
  (Mo_placeTells r4 a1 a2).bind fun r5 =>
  (Mo_namesAct (r5.2) a1 1).bind fun r6 =>
  some ((r5.1) + (r6.1), r6.2))
 else (if (m.1 1 a1.toNatClampNeg) = 4 then
 ((Mo_placeTells m a1 a2).bind fun r8 =>
  some (r8.1, r8.2))
 else (if (m.1 1 a1.toNatClampNeg) = 5 then
 ((Mo_body m 60).bind fun r10 =>
  (Mo_placeTells r10 a1 (a2 - a1)).bind fun r11 =>
  some (r11.1, r11.2))
 else (if (m.1 1 a1.toNatClampNeg) = 6 then
 ((Mo_body m 40).bind fun r13 =>
  (Mo_placeTells r13 a1 a2).bind fun r14 =>
  (Mo_namesAct (r14.2) a1 1).bind fun r15 =>
  some ((r14.1) + (r15.1), r15.2))
 else ((Mo_placeTells m a1 a2).bind fun r2 =>
  some (r2.1, r2.2))))))
set_option maxRecDepth 20000 in
set_option maxHeartbeats 4000000 in
theorem Mo_tellsAct_ok {G : Gw} (hG : gOk G) (hs : gsh G = shM) {a1 : Int32} {a2 : Int32} {m : Mm} {P : Option Value → Mm → Prop} (h : mjO (Mo_tellsAct m a1 a2) (fun r => P (some (.int r.1)) r.2)) : mjR G 7 yX7_tellsAct cX7_tellsAct 4 (some .int) [.ref (gr G 0), .int a1, .int a2] m P := by
  refine mjR_of hG (by decide) (Nat.le_of_ble_eq_true rfl) ?_
  intro X F
  have F : mjF G X cX7_tellsAct RX7 4 7 (some .int) := F
  show mjV G X 4 0 [(0, .ref (gr G 0)), (1, .int a1), (2, .int a2)] [] m P
  unfold Mo_tellsAct at h
  refine vAloadN F dX7_tellsAct_0 (k := 0) rfl ?_
  refine vGetR F (t := 1) dX7_tellsAct_1 fa_X7_16 (cqM_0 hs) rfl ?_
  refine vIloadN F dX7_tellsAct_4 (k := 1) rfl ?_
  obtain ⟨g1, h⟩ := okga h
  refine vIald F dX7_tellsAct_5 (cqM_1 hs) g1 ?_
  by_cases c3 : (m.1 1 a1.toNatClampNeg) = 3
  · replace h := okT h c3
    refine vTabIn F (tgt := 36) dX7_tellsAct_6 c3 (by decide) (by decide) rfl (by decide) ?_
    refine vAloadN F dX7_tellsAct_36 (k := 0) rfl ?_
    refine vBipush F (v := 40) dX7_tellsAct_37 kb_40 ?_
    refine vCallV F (d' := 0) (x := 0) (T := TX7) (N := 61) (As := [.int 40]) (st := []) dX7_tellsAct_39 lk_X7_354 my_X7_body mv_X7_body (cqM_0 hs) rfl (by decide) rfl rfl (Nat.le_of_ble_eq_true rfl) (Mo_body_ok hG hs (okB h fun r4 h => ?_))
    show mjV G X 4 42 [(0, .ref (gr G 0)), (1, .int a1), (2, .int a2)] [] r4 P
    refine vAloadN F dX7_tellsAct_42 (k := 0) rfl ?_
    refine vIloadN F dX7_tellsAct_43 (k := 1) rfl ?_
    refine vIloadN F dX7_tellsAct_44 (k := 2) rfl ?_
    refine vCallV F (d' := 6) (x := 0) (T := TX7) (N := 61) (As := [.int a1, .int a2]) (st := []) dX7_tellsAct_45 lk_X7_372 my_X7_placeTells mv_X7_placeTells (cqM_0 hs) rfl (by decide) rfl rfl (Nat.le_of_ble_eq_true rfl) (Mo_placeTells_ok hG hs (okB h fun r5 h => ?_))
    show mjV G X 4 48 [(0, .ref (gr G 0)), (1, .int a1), (2, .int a2)] [.int (r5.1)] (r5.2) P
    refine vIstoreN F (L' := [(3, .int (r5.1)), (0, .ref (gr G 0)), (1, .int a1), (2, .int a2)]) dX7_tellsAct_48 rfl (by decide) rfl ?_
    refine vIloadN F dX7_tellsAct_49 (k := 0) rfl ?_
    refine vAloadN F dX7_tellsAct_50 (k := 1) rfl ?_
    refine vIloadN F dX7_tellsAct_51 (k := 2) rfl ?_
    refine vIconst F (v := 1) dX7_tellsAct_52 k_1 ?_
    refine vCallV F (d' := 5) (x := 0) (T := TX7) (N := 61) (As := [.int a1, .int 1]) (st := [.int (r5.1)]) dX7_tellsAct_53 lk_X7_369 my_X7_namesAct mv_X7_namesAct (cqM_0 hs) rfl (by decide) rfl rfl (Nat.le_of_ble_eq_true rfl) (Mo_namesAct_ok hG hs (okB h fun r6 h => ?_))
    show mjV G X 4 56 [(3, .int (r5.1)), (0, .ref (gr G 0)), (1, .int a1), (2, .int a2)] [.int (r6.1), .int (r5.1)] (r6.2) P
    refine vIadd F dX7_tellsAct_56 ?_
    have z := okS h
    exact vIret F dX7_tellsAct_57 z
  replace h := okF h c3
  by_cases c7 : (m.1 1 a1.toNatClampNeg) = 4
  · replace h := okT h c7
    refine vTabIn F (tgt := 73) dX7_tellsAct_6 c7 (by decide) (by decide) rfl (by decide) ?_
    refine vAloadN F dX7_tellsAct_73 (k := 0) rfl ?_
    refine vIloadN F dX7_tellsAct_74 (k := 1) rfl ?_
    refine vIloadN F dX7_tellsAct_75 (k := 2) rfl ?_
    refine vCallV F (d' := 6) (x := 0) (T := TX7) (N := 61) (As := [.int a1, .int a2]) (st := []) dX7_tellsAct_76 lk_X7_372 my_X7_placeTells mv_X7_placeTells (cqM_0 hs) rfl (by decide) rfl rfl (Nat.le_of_ble_eq_true rfl) (Mo_placeTells_ok hG hs (okB h fun r8 h => ?_))
    show mjV G X 4 79 [(0, .ref (gr G 0)), (1, .int a1), (2, .int a2)] [.int (r8.1)] (r8.2) P
    have z := okS h
    exact vIret F dX7_tellsAct_79 z
  replace h := okF h c7
  by_cases c9 : (m.1 1 a1.toNatClampNeg) = 5
  · replace h := okT h c9
    refine vTabIn F (tgt := 58) dX7_tellsAct_6 c9 (by decide) (by decide) rfl (by decide) ?_
    refine vAloadN F dX7_tellsAct_58 (k := 0) rfl ?_
    refine vBipush F (v := 60) dX7_tellsAct_59 kb_60 ?_
    refine vCallV F (d' := 0) (x := 0) (T := TX7) (N := 61) (As := [.int 60]) (st := []) dX7_tellsAct_61 lk_X7_354 my_X7_body mv_X7_body (cqM_0 hs) rfl (by decide) rfl rfl (Nat.le_of_ble_eq_true rfl) (Mo_body_ok hG hs (okB h fun r10 h => ?_))
    show mjV G X 4 64 [(0, .ref (gr G 0)), (1, .int a1), (2, .int a2)] [] r10 P
    refine vAloadN F dX7_tellsAct_64 (k := 0) rfl ?_
    refine vIloadN F dX7_tellsAct_65 (k := 1) rfl ?_
    refine vIloadN F dX7_tellsAct_66 (k := 2) rfl ?_
    refine vIloadN F dX7_tellsAct_67 (k := 1) rfl ?_
    refine vIsub F dX7_tellsAct_68 ?_
    refine vCallV F (d' := 6) (x := 0) (T := TX7) (N := 61) (As := [.int a1, .int (a2 - a1)]) (st := []) dX7_tellsAct_69 lk_X7_372 my_X7_placeTells mv_X7_placeTells (cqM_0 hs) rfl (by decide) rfl rfl (Nat.le_of_ble_eq_true rfl) (Mo_placeTells_ok hG hs (okB h fun r11 h => ?_))
    show mjV G X 4 72 [(0, .ref (gr G 0)), (1, .int a1), (2, .int a2)] [.int (r11.1)] (r11.2) P
    have z := okS h
    exact vIret F dX7_tellsAct_72 z
  replace h := okF h c9
  by_cases c12 : (m.1 1 a1.toNatClampNeg) = 6
  · replace h := okT h c12
    refine vTabIn F (tgt := 36) dX7_tellsAct_6 c12 (by decide) (by decide) rfl (by decide) ?_
    refine vAloadN F dX7_tellsAct_36 (k := 0) rfl ?_
    refine vBipush F (v := 40) dX7_tellsAct_37 kb_40 ?_
    refine vCallV F (d' := 0) (x := 0) (T := TX7) (N := 61) (As := [.int 40]) (st := []) dX7_tellsAct_39 lk_X7_354 my_X7_body mv_X7_body (cqM_0 hs) rfl (by decide) rfl rfl (Nat.le_of_ble_eq_true rfl) (Mo_body_ok hG hs (okB h fun r13 h => ?_))
    show mjV G X 4 42 [(0, .ref (gr G 0)), (1, .int a1), (2, .int a2)] [] r13 P
    refine vAloadN F dX7_tellsAct_42 (k := 0) rfl ?_
    refine vIloadN F dX7_tellsAct_43 (k := 1) rfl ?_
    refine vIloadN F dX7_tellsAct_44 (k := 2) rfl ?_
    refine vCallV F (d' := 6) (x := 0) (T := TX7) (N := 61) (As := [.int a1, .int a2]) (st := []) dX7_tellsAct_45 lk_X7_372 my_X7_placeTells mv_X7_placeTells (cqM_0 hs) rfl (by decide) rfl rfl (Nat.le_of_ble_eq_true rfl) (Mo_placeTells_ok hG hs (okB h fun r14 h => ?_))
    show mjV G X 4 48 [(0, .ref (gr G 0)), (1, .int a1), (2, .int a2)] [.int (r14.1)] (r14.2) P
    refine vIstoreN F (L' := [(3, .int (r14.1)), (0, .ref (gr G 0)), (1, .int a1), (2, .int a2)]) dX7_tellsAct_48 rfl (by decide) rfl ?_
    refine vIloadN F dX7_tellsAct_49 (k := 0) rfl ?_
    refine vAloadN F dX7_tellsAct_50 (k := 1) rfl ?_
    refine vIloadN F dX7_tellsAct_51 (k := 2) rfl ?_
    refine vIconst F (v := 1) dX7_tellsAct_52 k_1 ?_
    refine vCallV F (d' := 5) (x := 0) (T := TX7) (N := 61) (As := [.int a1, .int 1]) (st := [.int (r14.1)]) dX7_tellsAct_53 lk_X7_369 my_X7_namesAct mv_X7_namesAct (cqM_0 hs) rfl (by decide) rfl rfl (Nat.le_of_ble_eq_true rfl) (Mo_namesAct_ok hG hs (okB h fun r15 h => ?_))
    show mjV G X 4 56 [(3, .int (r14.1)), (0, .ref (gr G 0)), (1, .int a1), (2, .int a2)] [.int (r15.1), .int (r14.1)] (r15.2) P
    refine vIadd F dX7_tellsAct_56 ?_
    have z := okS h
    exact vIret F dX7_tellsAct_57 z
  replace h := okF h c12
  replace c3 := lv_neT c3 (a := 3) (by decide)
  replace c7 := lv_neT c7 (a := 4) (by decide)
  replace c9 := lv_neT c9 (a := 5) (by decide)
  replace c12 := lv_neT c12 (a := 6) (by decide)
  refine vTabOut F (tgt := 73) dX7_tellsAct_6 (by omega) (by decide) ?_
  refine vAloadN F dX7_tellsAct_73 (k := 0) rfl ?_
  refine vIloadN F dX7_tellsAct_74 (k := 1) rfl ?_
  refine vIloadN F dX7_tellsAct_75 (k := 2) rfl ?_
  refine vCallV F (d' := 6) (x := 0) (T := TX7) (N := 61) (As := [.int a1, .int a2]) (st := []) dX7_tellsAct_76 lk_X7_372 my_X7_placeTells mv_X7_placeTells (cqM_0 hs) rfl (by decide) rfl rfl (Nat.le_of_ble_eq_true rfl) (Mo_placeTells_ok hG hs (okB h fun r2 h => ?_))
  show mjV G X 4 79 [(0, .ref (gr G 0)), (1, .int a1), (2, .int a2)] [.int (r2.1)] (r2.2) P
  have z := okS h
  exact vIret F dX7_tellsAct_79 z
def Mo_act (m : Mm) (a1 : Int32) (a2 : Int32) (a3 : Int32) : Option (Int32 × Mm) :=
  if (Mo_isPlace (si m 0 55 0) a1) = true then
 (if (Mo_in a2 0 2) = true then
 (if a2 = 0 then
 ((Mo_pointsAct (si m 0 55 0) a1 a3).bind fun r4 =>
  some (r4.1, r4.2))
 else (if a2 = 1 then
 ((Mo_namesAct (si m 0 55 0) a1 a3).bind fun r2 =>
  some (r2.1, r2.2))
 else ((Mo_tellsAct (si m 0 55 0) a1 a3).bind fun r1 =>
  some (r1.1, r1.2))))
 else (some (0, si m 0 55 0)))
 else (some (0, si m 0 55 0))
set_option maxRecDepth 20000 in
set_option maxHeartbeats 4000000 in
theorem Mo_act_ok {G : Gw} (hG : gOk G) (hs : gsh G = shM) {a1 : Int32} {a2 : Int32} {a3 : Int32} {m : Mm} {P : Option Value → Mm → Prop} (h : mjO (Mo_act m a1 a2 a3) (fun r => P (some (.int r.1)) r.2)) : mjR G 8 yX7_act cX7_act 4 (some .int) [.ref (gr G 0), .int a1, .int a2, .int a3] m P := by
  refine mjR_of hG (by decide) (Nat.le_of_ble_eq_true rfl) ?_
  intro X F
  have F : mjF G X cX7_act RX7 4 8 (some .int) := F
  show mjV G X 4 0 [(0, .ref (gr G 0)), (1, .int a1), (2, .int a2), (3, .int a3)] [] m P
  unfold Mo_act at h
  refine vAloadN F dX7_act_0 (k := 0) rfl ?_
  refine vIconst F (v := 0) dX7_act_1 k_0 ?_
  refine vPutI F dX7_act_2 fw_X7_179 (cqM_0 hs) rfl ⟨rfl, rfl⟩ ?_
  refine vAloadN F dX7_act_5 (k := 0) rfl ?_
  refine vIloadN F dX7_act_6 (k := 1) rfl ?_
  refine vCallV F (d' := 1) (x := 0) (T := TX7) (N := 61) (As := [.int a1]) (st := []) dX7_act_7 lk_X7_201 my_X7_isPlace mv_X7_isPlace (cqM_0 hs) rfl (by decide) rfl rfl (Nat.le_of_ble_eq_true rfl) (Mo_isPlace_ok hG hs ?_)
  show mjV G X 4 10 [(0, .ref (gr G 0)), (1, .int a1), (2, .int a2), (3, .int a3)] [.int (bI (Mo_isPlace (si m 0 55 0) a1))] (si m 0 55 0) P
  refine vIfEqB F (tgt := 23) dX7_act_10 (by decide) (fun c7 => ?_) (fun c7 => ?_)
  · replace h := okF h c7
    refine vIconst F (v := 0) dX7_act_23 k_0 ?_
    have z := okS h
    exact vIret F dX7_act_24 z
  · replace h := okT h c7
    refine vAloadN F dX7_act_13 (k := 0) rfl ?_
    refine vIloadN F dX7_act_14 (k := 2) rfl ?_
    refine vIconst F (v := 0) dX7_act_15 k_0 ?_
    refine vIconst F (v := 2) dX7_act_16 k_2 ?_
    refine vCallV F (d' := 0) (x := 0) (T := TX7) (N := 61) (As := [.int a2, .int 0, .int 2]) (st := []) dX7_act_17 lk_X7_197 my_X7_in mv_X7_in (cqM_0 hs) rfl (by decide) rfl rfl (Nat.le_of_ble_eq_true rfl) (Mo_in_ok hG hs ?_)
    show mjV G X 4 20 [(0, .ref (gr G 0)), (1, .int a1), (2, .int a2), (3, .int a3)] [.int (bI (Mo_in a2 0 2))] (si m 0 55 0) P
    refine vIfNeB F (tgt := 25) dX7_act_20 (by decide) (fun c6 => ?_) (fun c6 => ?_)
    · replace h := okT h c6
      refine vIloadN F dX7_act_25 (k := 2) rfl ?_
      refine vIfNe F (tgt := 38) dX7_act_26 (by decide) (fun c5 => ?_) (fun c5 => ?_)
      · replace h := okF h c5
        refine vIloadN F dX7_act_38 (k := 2) rfl ?_
        refine vIconst F (v := 1) dX7_act_39 k_1 ?_
        refine vIcmpNe F (tgt := 52) dX7_act_40 (by decide) (fun c3 => ?_) (fun c3 => ?_)
        · replace h := okF h c3
          refine vAloadN F dX7_act_52 (k := 0) rfl ?_
          refine vIloadN F dX7_act_53 (k := 1) rfl ?_
          refine vIloadN F dX7_act_54 (k := 3) rfl ?_
          refine vCallV F (d' := 7) (x := 0) (T := TX7) (N := 61) (As := [.int a1, .int a3]) (st := []) dX7_act_55 lk_X7_375 my_X7_tellsAct mv_X7_tellsAct (cqM_0 hs) rfl (by decide) rfl rfl (Nat.le_of_ble_eq_true rfl) (Mo_tellsAct_ok hG hs (okB h fun r1 h => ?_))
          show mjV G X 4 58 [(0, .ref (gr G 0)), (1, .int a1), (2, .int a2), (3, .int a3)] [.int (r1.1)] (r1.2) P
          have z := okS h
          exact vIret F dX7_act_58 z
        · replace h := okT h c3
          refine vAloadN F dX7_act_43 (k := 0) rfl ?_
          refine vIloadN F dX7_act_44 (k := 1) rfl ?_
          refine vIloadN F dX7_act_45 (k := 3) rfl ?_
          refine vCallV F (d' := 5) (x := 0) (T := TX7) (N := 61) (As := [.int a1, .int a3]) (st := []) dX7_act_46 lk_X7_369 my_X7_namesAct mv_X7_namesAct (cqM_0 hs) rfl (by decide) rfl rfl (Nat.le_of_ble_eq_true rfl) (Mo_namesAct_ok hG hs (okB h fun r2 h => ?_))
          show mjV G X 4 49 [(0, .ref (gr G 0)), (1, .int a1), (2, .int a2), (3, .int a3)] [.int (r2.1)] (r2.2) P
          refine vGoto F (tgt := 58) dX7_act_49 (by decide) ?_
          have z := okS h
          exact vIret F dX7_act_58 z
      · replace h := okT h c5
        refine vAloadN F dX7_act_29 (k := 0) rfl ?_
        refine vIloadN F dX7_act_30 (k := 1) rfl ?_
        refine vIloadN F dX7_act_31 (k := 3) rfl ?_
        refine vCallV F (d' := 2) (x := 0) (T := TX7) (N := 61) (As := [.int a1, .int a3]) (st := []) dX7_act_32 lk_X7_360 my_X7_pointsAct mv_X7_pointsAct (cqM_0 hs) rfl (by decide) rfl rfl (Nat.le_of_ble_eq_true rfl) (Mo_pointsAct_ok hG hs (okB h fun r4 h => ?_))
        show mjV G X 4 35 [(0, .ref (gr G 0)), (1, .int a1), (2, .int a2), (3, .int a3)] [.int (r4.1)] (r4.2) P
        refine vGoto F (tgt := 58) dX7_act_35 (by decide) ?_
        have z := okS h
        exact vIret F dX7_act_58 z
    · replace h := okF h c6
      refine vIconst F (v := 0) dX7_act_23 k_0 ?_
      have z := okS h
      exact vIret F dX7_act_24 z
def Mo_trace (m : Mm) (a1 : Int32) : Option (Int32) :=
  if (Mo_in a1 0 19) = true then
 (if (m.1 0 55) ≤ a1 then
 (some (-1))
 else (ga a1 20 (some (m.1 35 a1.toNatClampNeg))))
 else (some (-1))
set_option maxRecDepth 20000 in
set_option maxHeartbeats 4000000 in
theorem Mo_trace_ok {G : Gw} (hG : gOk G) (hs : gsh G = shM) {a1 : Int32} {m : Mm} {P : Option Value → Mm → Prop} (h : mjO (Mo_trace m a1) (fun r => P (some (.int r)) m)) : mjR G 1 yX7_trace cX7_trace 2 (some .int) [.ref (gr G 0), .int a1] m P := by
  refine mjR_of hG (by decide) (Nat.le_of_ble_eq_true rfl) ?_
  intro X F
  have F : mjF G X cX7_trace RX7 2 1 (some .int) := F
  show mjV G X 2 0 [(0, .ref (gr G 0)), (1, .int a1)] [] m P
  unfold Mo_trace at h
  refine vAloadN F dX7_trace_0 (k := 0) rfl ?_
  refine vIloadN F dX7_trace_1 (k := 1) rfl ?_
  refine vIconst F (v := 0) dX7_trace_2 k_0 ?_
  refine vBipush F (v := 19) dX7_trace_3 kb_19 ?_
  refine vCallV F (d' := 0) (x := 0) (T := TX7) (N := 61) (As := [.int a1, .int 0, .int 19]) (st := []) dX7_trace_5 lk_X7_197 my_X7_in mv_X7_in (cqM_0 hs) rfl (by decide) rfl rfl (Nat.le_of_ble_eq_true rfl) (Mo_in_ok hG hs ?_)
  show mjV G X 2 8 [(0, .ref (gr G 0)), (1, .int a1)] [.int (bI (Mo_in a1 0 19))] m P
  refine vIfEqB F (tgt := 28) dX7_trace_8 (by decide) (fun c3 => ?_) (fun c3 => ?_)
  · replace h := okF h c3
    refine vIconst F (v := (-1)) dX7_trace_28 k_m1 ?_
    have z := okS h
    exact vIret F dX7_trace_29 z
  · replace h := okT h c3
    refine vIloadN F dX7_trace_11 (k := 1) rfl ?_
    refine vAloadN F dX7_trace_12 (k := 0) rfl ?_
    refine vGetI F dX7_trace_13 fa_X7_179 (cqM_0 hs) rfl ?_
    refine vIcmpGe F (tgt := 28) dX7_trace_16 (by decide) (fun c2 => ?_) (fun c2 => ?_)
    · replace h := okT h c2
      refine vIconst F (v := (-1)) dX7_trace_28 k_m1 ?_
      have z := okS h
      exact vIret F dX7_trace_29 z
    · replace h := okF h c2
      refine vAloadN F dX7_trace_19 (k := 0) rfl ?_
      refine vGetR F (t := 35) dX7_trace_20 fa_X7_182 (cqM_0 hs) rfl ?_
      refine vIloadN F dX7_trace_23 (k := 1) rfl ?_
      obtain ⟨g1, h⟩ := okga h
      refine vIald F dX7_trace_24 (cqM_35 hs) g1 ?_
      refine vGoto F (tgt := 29) dX7_trace_25 (by decide) ?_
      have z := okS h
      exact vIret F dX7_trace_29 z
def Mo_taken (m : Mm) (a1 : Int32) (a2 : Int32) : Option (Int32) :=
  if (Mo_in a2 0 6) = true then
 (if (Mo_isPlace m a1) = true then
 (ga a1 7 (if a2 = 0 then
 (some (m.1 1 a1.toNatClampNeg))
 else (if (m.1 1 a1.toNatClampNeg) = a2 then
 (some (m.1 1 a1.toNatClampNeg))
 else (jn (fun (e2 : Unit) => jn (fun (e4 : Unit) => if a2 = 3 then
 (if (m.1 1 a1.toNatClampNeg) = 6 then
 (some (m.1 1 a1.toNatClampNeg))
 else (some (-12)))
 else (some (-12))) fun j5 =>
  if a2 = 2 then
 (if (m.1 1 a1.toNatClampNeg) = 5 then
 (some (m.1 1 a1.toNatClampNeg))
 else (j5 ()))
 else (j5 ())) fun j3 =>
  if a2 = 1 then
 (if (m.1 1 a1.toNatClampNeg) = 4 then
 (some (m.1 1 a1.toNatClampNeg))
 else (j3 ()))
 else (j3 ())))))
 else (some (-11)))
 else (some (-2))
set_option maxRecDepth 20000 in
set_option maxHeartbeats 4000000 in
theorem Mo_taken_ok {G : Gw} (hG : gOk G) (hs : gsh G = shM) {a1 : Int32} {a2 : Int32} {m : Mm} {P : Option Value → Mm → Prop} (h : mjO (Mo_taken m a1 a2) (fun r => P (some (.int r)) m)) : mjR G 2 yX7_taken cX7_taken 4 (some .int) [.ref (gr G 0), .int a1, .int a2] m P := by
  refine mjR_of hG (by decide) (Nat.le_of_ble_eq_true rfl) ?_
  intro X F
  have F : mjF G X cX7_taken RX7 4 2 (some .int) := F
  show mjV G X 4 0 [(0, .ref (gr G 0)), (1, .int a1), (2, .int a2)] [] m P
  unfold Mo_taken at h
  refine vAloadN F dX7_taken_0 (k := 0) rfl ?_
  refine vIloadN F dX7_taken_1 (k := 2) rfl ?_
  refine vIconst F (v := 0) dX7_taken_2 k_0 ?_
  refine vBipush F (v := 6) dX7_taken_3 kb_6 ?_
  refine vCallV F (d' := 0) (x := 0) (T := TX7) (N := 61) (As := [.int a2, .int 0, .int 6]) (st := []) dX7_taken_5 lk_X7_197 my_X7_in mv_X7_in (cqM_0 hs) rfl (by decide) rfl rfl (Nat.le_of_ble_eq_true rfl) (Mo_in_ok hG hs ?_)
  show mjV G X 4 8 [(0, .ref (gr G 0)), (1, .int a1), (2, .int a2)] [.int (bI (Mo_in a2 0 6))] m P
  refine vIfNeB F (tgt := 14) dX7_taken_8 (by decide) (fun c15 => ?_) (fun c15 => ?_)
  · replace h := okT h c15
    refine vAloadN F dX7_taken_14 (k := 0) rfl ?_
    refine vIloadN F dX7_taken_15 (k := 1) rfl ?_
    refine vCallV F (d' := 1) (x := 0) (T := TX7) (N := 61) (As := [.int a1]) (st := []) dX7_taken_16 lk_X7_201 my_X7_isPlace mv_X7_isPlace (cqM_0 hs) rfl (by decide) rfl rfl (Nat.le_of_ble_eq_true rfl) (Mo_isPlace_ok hG hs ?_)
    show mjV G X 4 19 [(0, .ref (gr G 0)), (1, .int a1), (2, .int a2)] [.int (bI (Mo_isPlace m a1))] m P
    refine vIfNeB F (tgt := 25) dX7_taken_19 (by decide) (fun c14 => ?_) (fun c14 => ?_)
    · replace h := okT h c14
      refine vAloadN F dX7_taken_25 (k := 0) rfl ?_
      refine vGetR F (t := 1) dX7_taken_26 fa_X7_16 (cqM_0 hs) rfl ?_
      refine vIloadN F dX7_taken_29 (k := 1) rfl ?_
      obtain ⟨g1, h⟩ := okga h
      refine vIald F dX7_taken_30 (cqM_1 hs) g1 ?_
      refine vIstoreN F (L' := [(3, .int (m.1 1 a1.toNatClampNeg)), (0, .ref (gr G 0)), (1, .int a1), (2, .int a2)]) dX7_taken_31 rfl (by decide) rfl ?_
      refine vIloadN F dX7_taken_32 (k := 3) rfl ?_
      refine vIfEq F (tgt := 72) dX7_taken_33 (by decide) (fun c13 => ?_) (fun c13 => ?_)
      · replace h := okT h c13
        refine vIloadN F dX7_taken_72 (k := 0) rfl ?_
        refine vGoto F (tgt := 78) dX7_taken_73 (by decide) ?_
        have z := okS h
        exact vIret F dX7_taken_78 z
      · replace h := okF h c13
        refine vIloadN F dX7_taken_36 (k := 0) rfl ?_
        refine vIloadN F dX7_taken_37 (k := 3) rfl ?_
        refine vIcmpEq F (tgt := 72) dX7_taken_38 (by decide) (fun c12 => ?_) (fun c12 => ?_)
        · replace h := okT h c12
          refine vIloadN F dX7_taken_72 (k := 0) rfl ?_
          refine vGoto F (tgt := 78) dX7_taken_73 (by decide) ?_
          have z := okS h
          exact vIret F dX7_taken_78 z
        · replace h := okF h c12
          refine vIloadN F dX7_taken_41 (k := 3) rfl ?_
          refine vIconst F (v := 1) dX7_taken_42 k_1 ?_
          refine okJ (Vj := fun (e2 : Unit) => mjV G X 4 51 [(2, .int a2), (3, .int (m.1 1 a1.toNatClampNeg))] [] m P) h (fun e2 h => ?_) (fun j3 Jj3 h => ?_)
          · refine vIloadN F dX7_taken_51 (k := 0) rfl ?_
            refine vIconst F (v := 2) dX7_taken_52 k_2 ?_
            refine okJ (Vj := fun (e4 : Unit) => mjV G X 4 61 [(2, .int a2), (3, .int (m.1 1 a1.toNatClampNeg))] [] m P) h (fun e4 h => ?_) (fun j5 Jj5 h => ?_)
            · refine vIloadN F dX7_taken_61 (k := 0) rfl ?_
              refine vIconst F (v := 3) dX7_taken_62 k_3 ?_
              refine vIcmpNe F (tgt := 76) dX7_taken_63 (by decide) (fun c7 => ?_) (fun c7 => ?_)
              · replace h := okF h c7
                refine vBipush F (v := (-12)) dX7_taken_76 kb_m12 ?_
                have z := okS h
                exact vIret F dX7_taken_78 z
              · replace h := okT h c7
                refine vIloadN F dX7_taken_66 (k := 1) rfl ?_
                refine vBipush F (v := 6) dX7_taken_67 kb_6 ?_
                refine vIcmpNe F (tgt := 76) dX7_taken_69 (by decide) (fun c6 => ?_) (fun c6 => ?_)
                · replace h := okF h c6
                  refine vBipush F (v := (-12)) dX7_taken_76 kb_m12 ?_
                  have z := okS h
                  exact vIret F dX7_taken_78 z
                · replace h := okT h c6
                  refine vIloadN F dX7_taken_72 (k := 1) rfl ?_
                  refine vGoto F (tgt := 78) dX7_taken_73 (by decide) ?_
                  have z := okS h
                  exact vIret F dX7_taken_78 z
            · refine vIcmpNe F (tgt := 61) dX7_taken_53 (by decide) (fun c9 => ?_) (fun c9 => ?_)
              · replace h := okF h c9
                exact Jj5 () h
              · replace h := okT h c9
                refine vIloadN F dX7_taken_56 (k := 1) rfl ?_
                refine vIconst F (v := 5) dX7_taken_57 k_5 ?_
                refine vIcmpEq F (tgt := 72) dX7_taken_58 (by decide) (fun c8 => ?_) (fun c8 => ?_)
                · replace h := okT h c8
                  refine vIloadN F dX7_taken_72 (k := 1) rfl ?_
                  refine vGoto F (tgt := 78) dX7_taken_73 (by decide) ?_
                  have z := okS h
                  exact vIret F dX7_taken_78 z
                · replace h := okF h c8
                  exact Jj5 () h
          · refine vIcmpNe F (tgt := 51) dX7_taken_43 (by decide) (fun c11 => ?_) (fun c11 => ?_)
            · replace h := okF h c11
              refine vSub [3, 0] rfl ?_
              exact Jj3 () h
            · replace h := okT h c11
              refine vIloadN F dX7_taken_46 (k := 0) rfl ?_
              refine vIconst F (v := 4) dX7_taken_47 k_4 ?_
              refine vIcmpEq F (tgt := 72) dX7_taken_48 (by decide) (fun c10 => ?_) (fun c10 => ?_)
              · replace h := okT h c10
                refine vIloadN F dX7_taken_72 (k := 0) rfl ?_
                refine vGoto F (tgt := 78) dX7_taken_73 (by decide) ?_
                have z := okS h
                exact vIret F dX7_taken_78 z
              · replace h := okF h c10
                refine vSub [3, 0] rfl ?_
                exact Jj3 () h
    · replace h := okF h c14
      refine vBipush F (v := (-11)) dX7_taken_22 kb_m11 ?_
      have z := okS h
      exact vIret F dX7_taken_24 z
  · replace h := okF h c15
    refine vBipush F (v := (-2)) dX7_taken_11 kb_m2 ?_
    have z := okS h
    exact vIret F dX7_taken_13 z
def Mo_count (m : Mm) (a1 : Int32) : Int32 :=
  if a1 = 0 then
 (m.1 0 0)
 else (if a1 = 1 then
 (m.1 0 10)
 else (if a1 = 2 then
 (m.1 0 1)
 else (if a1 = 3 then
 (m.1 0 39)
 else (if a1 = 4 then
 (m.1 0 12)
 else (if a1 = 5 then
 (m.1 0 55)
 else ((-2)))))))
set_option maxRecDepth 20000 in
set_option maxHeartbeats 4000000 in
theorem Mo_count_ok {G : Gw} (hG : gOk G) (hs : gsh G = shM) {a1 : Int32} {m : Mm} {P : Option Value → Mm → Prop} (h : P (some (.int (Mo_count m a1))) m) : mjR G 0 yX7_count cX7_count 2 (some .int) [.ref (gr G 0), .int a1] m P := by
  refine mjR_of hG (by decide) (Nat.le_of_ble_eq_true rfl) ?_
  intro X F
  have F : mjF G X cX7_count RX7 2 0 (some .int) := F
  show mjV G X 2 0 [(0, .ref (gr G 0)), (1, .int a1)] [] m P
  have h : mjO (some (Mo_count m a1)) (fun r => P (some (.int r)) m) := ⟨_, rfl, h⟩
  unfold Mo_count at h
  refine vIloadN F dX7_count_0 (k := 1) rfl ?_
  by_cases c1 : a1 = 0
  · replace h := okTT h c1
    refine vTabIn F (tgt := 40) dX7_count_1 c1 (by decide) (by decide) rfl (by decide) ?_
    refine vAloadN F dX7_count_40 (k := 0) rfl ?_
    refine vGetI F dX7_count_41 fa_X7_7 (cqM_0 hs) rfl ?_
    have z := okS h
    exact vIret F dX7_count_44 z
  replace h := okFT h c1
  by_cases c2 : a1 = 1
  · replace h := okTT h c2
    refine vTabIn F (tgt := 45) dX7_count_1 c2 (by decide) (by decide) rfl (by decide) ?_
    refine vAloadN F dX7_count_45 (k := 0) rfl ?_
    refine vGetI F dX7_count_46 fa_X7_41 (cqM_0 hs) rfl ?_
    have z := okS h
    exact vIret F dX7_count_49 z
  replace h := okFT h c2
  by_cases c3 : a1 = 2
  · replace h := okTT h c3
    refine vTabIn F (tgt := 50) dX7_count_1 c3 (by decide) (by decide) rfl (by decide) ?_
    refine vAloadN F dX7_count_50 (k := 0) rfl ?_
    refine vGetI F dX7_count_51 fa_X7_13 (cqM_0 hs) rfl ?_
    have z := okS h
    exact vIret F dX7_count_54 z
  replace h := okFT h c3
  by_cases c4 : a1 = 3
  · replace h := okTT h c4
    refine vTabIn F (tgt := 55) dX7_count_1 c4 (by decide) (by decide) rfl (by decide) ?_
    refine vAloadN F dX7_count_55 (k := 0) rfl ?_
    refine vGetI F dX7_count_56 fa_X7_130 (cqM_0 hs) rfl ?_
    have z := okS h
    exact vIret F dX7_count_59 z
  replace h := okFT h c4
  by_cases c5 : a1 = 4
  · replace h := okTT h c5
    refine vTabIn F (tgt := 60) dX7_count_1 c5 (by decide) (by decide) rfl (by decide) ?_
    refine vAloadN F dX7_count_60 (k := 0) rfl ?_
    refine vGetI F dX7_count_61 fa_X7_47 (cqM_0 hs) rfl ?_
    have z := okS h
    exact vIret F dX7_count_64 z
  replace h := okFT h c5
  by_cases c6 : a1 = 5
  · replace h := okTT h c6
    refine vTabIn F (tgt := 65) dX7_count_1 c6 (by decide) (by decide) rfl (by decide) ?_
    refine vAloadN F dX7_count_65 (k := 0) rfl ?_
    refine vGetI F dX7_count_66 fa_X7_179 (cqM_0 hs) rfl ?_
    have z := okS h
    exact vIret F dX7_count_69 z
  replace h := okFT h c6
  replace c1 := lv_neT c1 (a := 0) (by decide)
  replace c2 := lv_neT c2 (a := 1) (by decide)
  replace c3 := lv_neT c3 (a := 2) (by decide)
  replace c4 := lv_neT c4 (a := 3) (by decide)
  replace c5 := lv_neT c5 (a := 4) (by decide)
  replace c6 := lv_neT c6 (a := 5) (by decide)
  refine vTabOut F (tgt := 70) dX7_count_1 (by omega) (by decide) ?_
  refine vBipush F (v := (-2)) dX7_count_70 kb_m2 ?_
  have z := okS h
  exact vIret F dX7_count_72 z
def Mo_tape_l69 (a1 : Int32) (s7 : Int32 × Mm) : Option ((Int32 × Mm) ⊕ Mm) :=
  if 60 ≤ (s7.1) then
 (some (.inr (s7.2)))
 else (ga ((60 * a1) + (s7.1)) 360 (some (.inl ((s7.1) + 1, sl (s7.2) 38 ((60 * a1) + (s7.1)).toNatClampNeg 0))))
def Mo_tape_l69_1 (a1 : Int32) (s13 : Int32 × Mm) : Option ((Int32 × Mm) ⊕ Mm) :=
  if 60 ≤ (s13.1) then
 (some (.inr (s13.2)))
 else (ga ((60 * a1) + (s13.1)) 360 (some (.inl ((s13.1) + 1, sl (s13.2) 38 ((60 * a1) + (s13.1)).toNatClampNeg 0))))
noncomputable def Mo_tape (m : Mm) (a1 : Int32) (a2 : Int32) (a3 : Int32) : Option (Int32 × Mm) :=
  if (Mo_isTape a1) = true then
 (if (Mo_in a2 (-1) 4) = true then
 (jn (fun (e1 : Unit) => jn (fun (e3 : Unit) => ga a1 6 (if 0 ≤ a2 then
 (ga a1 6 ((iter (Mo_tape_l69 a1) (0, si (si m 36 a1.toNatClampNeg a2) 37 a1.toNatClampNeg a3)).bind fun e8 =>
  some (1, e8)))
 else (ga a1 6 ((iter (Mo_tape_l69_1 a1) (0, si (si m 36 a1.toNatClampNeg a2) 37 a1.toNatClampNeg 0)).bind fun e14 =>
  some (1, e14))))) fun j4 =>
  if a2 < 0 then
 (j4 ())
 else (if 0 ≤ a3 then
 (j4 ())
 else (some ((-14), m)))) fun j2 =>
  if a2 < 0 then
 (j2 ())
 else (if a3 ≤ 60 then
 (j2 ())
 else (some ((-2), m))))
 else (some ((-2), m)))
 else (some ((-1), m))
set_option maxRecDepth 20000 in
set_option maxHeartbeats 4000000 in
theorem Mo_tape_ok {G : Gw} (hG : gOk G) (hs : gsh G = shM) {a1 : Int32} {a2 : Int32} {a3 : Int32} {m : Mm} {P : Option Value → Mm → Prop} (h : mjO (Mo_tape m a1 a2 a3) (fun r => P (some (.int r.1)) r.2)) : mjR G 2 yX7_tape cX7_tape 5 (some .int) [.ref (gr G 0), .int a1, .int a2, .int a3] m P := by
  refine mjR_of hG (by decide) (Nat.le_of_ble_eq_true rfl) ?_
  intro X F
  have F : mjF G X cX7_tape RX7 5 2 (some .int) := F
  show mjV G X 5 0 [(0, .ref (gr G 0)), (1, .int a1), (2, .int a2), (3, .int a3)] [] m P
  unfold Mo_tape at h
  refine vAloadN F dX7_tape_0 (k := 0) rfl ?_
  refine vIloadN F dX7_tape_1 (k := 1) rfl ?_
  refine vCallV F (d' := 1) (x := 0) (T := TX7) (N := 61) (As := [.int a1]) (st := []) dX7_tape_2 lk_X7_351 my_X7_isTape mv_X7_isTape (cqM_0 hs) rfl (by decide) rfl rfl (Nat.le_of_ble_eq_true rfl) (Mo_isTape_ok hG hs ?_)
  show mjV G X 5 5 [(0, .ref (gr G 0)), (1, .int a1), (2, .int a2), (3, .int a3)] [.int (bI (Mo_isTape a1))] m P
  refine vIfNeB F (tgt := 10) dX7_tape_5 (by decide) (fun c24 => ?_) (fun c24 => ?_)
  · replace h := okT h c24
    refine vAloadN F dX7_tape_10 (k := 0) rfl ?_
    refine vIloadN F dX7_tape_11 (k := 2) rfl ?_
    refine vIconst F (v := (-1)) dX7_tape_12 k_m1 ?_
    refine vIconst F (v := 4) dX7_tape_13 k_4 ?_
    refine vCallV F (d' := 0) (x := 0) (T := TX7) (N := 61) (As := [.int a2, .int (-1), .int 4]) (st := []) dX7_tape_14 lk_X7_197 my_X7_in mv_X7_in (cqM_0 hs) rfl (by decide) rfl rfl (Nat.le_of_ble_eq_true rfl) (Mo_in_ok hG hs ?_)
    show mjV G X 5 17 [(0, .ref (gr G 0)), (1, .int a1), (2, .int a2), (3, .int a3)] [.int (bI (Mo_in a2 (-1) 4))] m P
    refine vIfEqB F (tgt := 30) dX7_tape_17 (by decide) (fun c23 => ?_) (fun c23 => ?_)
    · replace h := okF h c23
      refine vBipush F (v := (-2)) dX7_tape_30 kb_m2 ?_
      have z := okS h
      exact vIret F dX7_tape_32 z
    · replace h := okT h c23
      refine vIloadN F dX7_tape_20 (k := 2) rfl ?_
      refine okJ (Vj := fun (e1 : Unit) => mjV G X 5 33 [(0, .ref (gr G 0)), (1, .int a1), (2, .int a2), (3, .int a3)] [] m P) h (fun e1 h => ?_) (fun j2 Jj2 h => ?_)
      · refine vIloadN F dX7_tape_33 (k := 2) rfl ?_
        refine okJ (Vj := fun (e3 : Unit) => mjV G X 5 44 [(0, .ref (gr G 0)), (1, .int a1), (2, .int a2), (3, .int a3)] [] m P) h (fun e3 h => ?_) (fun j4 Jj4 h => ?_)
        · refine vAloadN F dX7_tape_44 (k := 0) rfl ?_
          refine vGetR F (t := 36) dX7_tape_45 fa_X7_185 (cqM_0 hs) rfl ?_
          refine vIloadN F dX7_tape_48 (k := 1) rfl ?_
          refine vIloadN F dX7_tape_49 (k := 2) rfl ?_
          obtain ⟨g5, h⟩ := okga h
          refine vIast F dX7_tape_50 (cqM_36 hs) g5 ?_
          refine vAloadN F dX7_tape_51 (k := 0) rfl ?_
          refine vGetR F (t := 37) dX7_tape_52 fa_X7_188 (cqM_0 hs) rfl ?_
          refine vIloadN F dX7_tape_55 (k := 1) rfl ?_
          refine vIloadN F dX7_tape_56 (k := 2) rfl ?_
          refine vIfGe F (tgt := 64) dX7_tape_57 (by decide) (fun c18 => ?_) (fun c18 => ?_)
          · replace h := okT h c18
            refine vIloadN F dX7_tape_64 (k := 3) rfl ?_
            obtain ⟨g6, h⟩ := okga h
            refine vIast F dX7_tape_65 (cqM_37 hs) g6 ?_
            refine vIconst F (v := 0) dX7_tape_66 k_0 ?_
            refine vIstore F (L' := [(4, .int 0), (0, .ref (gr G 0)), (1, .int a1), (2, .int a2), (3, .int a3)]) dX7_tape_67 (by decide) rfl ?_
            refine vSub [1, 2, 0] rfl ?_
            refine okLoop (s0 := (0, si (si m 36 a1.toNatClampNeg a2) 37 a1.toNatClampNeg a3)) (T := (fun (s7 : Int32 × Mm) => mjV G X 5 69 [(0, .ref (gr G 0)), (1, .int a1), (4, .int (s7.1))] [] (s7.2) P)) (Ve := (fun (e8 : Mm) => mjV G X 5 95 [] [] e8 P)) h ?_ (fun s7 h => ?_)
            · intro e8 h
              refine vIconst F (v := 1) dX7_tape_95 k_1 ?_
              have z := okS h
              exact vIret F dX7_tape_96 z
            · unfold Mo_tape_l69 at h
              refine vIload F dX7_tape_69 (k := 2) rfl ?_
              refine vBipush F (v := 60) dX7_tape_71 kb_60 ?_
              refine vIcmpGe F (tgt := 95) dX7_tape_73 (by decide) (fun c10 => ?_) (fun c10 => ?_)
              · replace h := okT h c10
                refine vSub [] rfl ?_
                have z := okR h
                exact z
              · replace h := okF h c10
                refine vAloadN F dX7_tape_76 (k := 0) rfl ?_
                refine vGetR F (t := 38) dX7_tape_77 fa_X7_191 (cqM_0 hs) rfl ?_
                refine vBipush F (v := 60) dX7_tape_80 kb_60 ?_
                refine vIloadN F dX7_tape_82 (k := 1) rfl ?_
                refine vImul F dX7_tape_83 ?_
                refine vIload F dX7_tape_84 (k := 2) rfl ?_
                refine vIadd F dX7_tape_86 ?_
                refine vLconst F (v := 0) dX7_tape_87 rfl ?_
                obtain ⟨g9, h⟩ := okga h
                refine vLast F dX7_tape_88 (cqM_38 hs) g9 ?_
                refine vIinc F (v := 1) (k := 2) (L' := [(4, .int ((s7.1) + 1)), (0, .ref (gr G 0)), (1, .int a1)]) dX7_tape_89 rfl k_1 (by decide) rfl ?_
                refine vGoto F (tgt := 69) dX7_tape_92 (by decide) ?_
                refine vSub [1, 2, 0] rfl ?_
                have z := okL h
                exact z
          · replace h := okF h c18
            refine vIconst F (v := 0) dX7_tape_60 k_0 ?_
            refine vGoto F (tgt := 65) dX7_tape_61 (by decide) ?_
            obtain ⟨g12, h⟩ := okga h
            refine vIast F dX7_tape_65 (cqM_37 hs) g12 ?_
            refine vIconst F (v := 0) dX7_tape_66 k_0 ?_
            refine vIstore F (L' := [(4, .int 0), (0, .ref (gr G 0)), (1, .int a1), (2, .int a2), (3, .int a3)]) dX7_tape_67 (by decide) rfl ?_
            refine vSub [1, 2, 0] rfl ?_
            refine okLoop (s0 := (0, si (si m 36 a1.toNatClampNeg a2) 37 a1.toNatClampNeg 0)) (T := (fun (s13 : Int32 × Mm) => mjV G X 5 69 [(0, .ref (gr G 0)), (1, .int a1), (4, .int (s13.1))] [] (s13.2) P)) (Ve := (fun (e14 : Mm) => mjV G X 5 95 [] [] e14 P)) h ?_ (fun s13 h => ?_)
            · intro e14 h
              refine vIconst F (v := 1) dX7_tape_95 k_1 ?_
              have z := okS h
              exact vIret F dX7_tape_96 z
            · unfold Mo_tape_l69_1 at h
              refine vIload F dX7_tape_69 (k := 2) rfl ?_
              refine vBipush F (v := 60) dX7_tape_71 kb_60 ?_
              refine vIcmpGe F (tgt := 95) dX7_tape_73 (by decide) (fun c16 => ?_) (fun c16 => ?_)
              · replace h := okT h c16
                refine vSub [] rfl ?_
                have z := okR h
                exact z
              · replace h := okF h c16
                refine vAloadN F dX7_tape_76 (k := 0) rfl ?_
                refine vGetR F (t := 38) dX7_tape_77 fa_X7_191 (cqM_0 hs) rfl ?_
                refine vBipush F (v := 60) dX7_tape_80 kb_60 ?_
                refine vIloadN F dX7_tape_82 (k := 1) rfl ?_
                refine vImul F dX7_tape_83 ?_
                refine vIload F dX7_tape_84 (k := 2) rfl ?_
                refine vIadd F dX7_tape_86 ?_
                refine vLconst F (v := 0) dX7_tape_87 rfl ?_
                obtain ⟨g15, h⟩ := okga h
                refine vLast F dX7_tape_88 (cqM_38 hs) g15 ?_
                refine vIinc F (v := 1) (k := 2) (L' := [(4, .int ((s13.1) + 1)), (0, .ref (gr G 0)), (1, .int a1)]) dX7_tape_89 rfl k_1 (by decide) rfl ?_
                refine vGoto F (tgt := 69) dX7_tape_92 (by decide) ?_
                refine vSub [1, 2, 0] rfl ?_
                have z := okL h
                exact z
        · refine vIfLt F (tgt := 44) dX7_tape_34 (by decide) (fun c20 => ?_) (fun c20 => ?_)
          · replace h := okT h c20
            exact Jj4 () h
          · replace h := okF h c20
            refine vIloadN F dX7_tape_37 (k := 3) rfl ?_
            refine vIfGe F (tgt := 44) dX7_tape_38 (by decide) (fun c19 => ?_) (fun c19 => ?_)
            · replace h := okT h c19
              exact Jj4 () h
            · replace h := okF h c19
              refine vBipush F (v := (-14)) dX7_tape_41 kb_m14 ?_
              have z := okS h
              exact vIret F dX7_tape_43 z
      · refine vIfLt F (tgt := 33) dX7_tape_21 (by decide) (fun c22 => ?_) (fun c22 => ?_)
        · replace h := okT h c22
          exact Jj2 () h
        · replace h := okF h c22
          refine vIloadN F dX7_tape_24 (k := 3) rfl ?_
          refine vBipush F (v := 60) dX7_tape_25 kb_60 ?_
          refine vIcmpLe F (tgt := 33) dX7_tape_27 (by decide) (fun c21 => ?_) (fun c21 => ?_)
          · replace h := okT h c21
            exact Jj2 () h
          · replace h := okF h c21
            refine vBipush F (v := (-2)) dX7_tape_30 kb_m2 ?_
            have z := okS h
            exact vIret F dX7_tape_32 z
  · replace h := okF h c24
    refine vIconst F (v := (-1)) dX7_tape_8 k_m1 ?_
    have z := okS h
    exact vIret F dX7_tape_9 z
def Mo_narrow (a1 : Int32) (a2 : Int64) : Int64 :=
  if a1 = 0 then
 (((a2.toInt32).toInt8.toInt32).toInt64)
 else (if a1 = 1 then
 (((a2.toInt32).toInt16.toInt32).toInt64)
 else (if a1 = 2 then
 ((a2.toInt32).toInt64)
 else (if a1 = 4 then
 (if (lg_cmp a2 0) = 0 then
 (0)
 else (1))
 else (a2))))
set_option maxRecDepth 20000 in
set_option maxHeartbeats 4000000 in
theorem Mo_narrow_ok {G : Gw} (hG : gOk G) (hs : gsh G = shM) {a1 : Int32} {a2 : Int64} {m : Mm} {P : Option Value → Mm → Prop} (h : P (some (.long (Mo_narrow a1 a2))) m) : mjR G 0 yX7_narrow cX7_narrow 4 (some .long) [.ref (gr G 0), .int a1, .long a2] m P := by
  refine mjR_of hG (by decide) (Nat.le_of_ble_eq_true rfl) ?_
  intro X F
  have F : mjF G X cX7_narrow RX7 4 0 (some .long) := F
  show mjV G X 4 0 [(0, .ref (gr G 0)), (1, .int a1), (2, .long a2)] [] m P
  have h : mjO (some (Mo_narrow a1 a2)) (fun r => P (some (.long r)) m) := ⟨_, rfl, h⟩
  unfold Mo_narrow at h
  refine vIloadN F dX7_narrow_0 (k := 1) rfl ?_
  refine vIfNe F (tgt := 11) dX7_narrow_1 (by decide) (fun c5 => ?_) (fun c5 => ?_)
  · replace h := okFT h c5
    refine vIloadN F dX7_narrow_11 (k := 1) rfl ?_
    refine vIconst F (v := 1) dX7_narrow_12 k_1 ?_
    refine vIcmpNe F (tgt := 23) dX7_narrow_13 (by decide) (fun c4 => ?_) (fun c4 => ?_)
    · replace h := okFT h c4
      refine vIloadN F dX7_narrow_23 (k := 1) rfl ?_
      refine vIconst F (v := 2) dX7_narrow_24 k_2 ?_
      refine vIcmpNe F (tgt := 34) dX7_narrow_25 (by decide) (fun c3 => ?_) (fun c3 => ?_)
      · replace h := okFT h c3
        refine vIloadN F dX7_narrow_34 (k := 1) rfl ?_
        refine vIconst F (v := 4) dX7_narrow_35 k_4 ?_
        refine vIcmpNe F (tgt := 53) dX7_narrow_36 (by decide) (fun c2 => ?_) (fun c2 => ?_)
        · replace h := okFT h c2
          refine vLloadN F dX7_narrow_53 (k := 2) rfl ?_
          have z := okS h
          exact vLret F dX7_narrow_54 z
        · replace h := okTT h c2
          refine vLloadN F dX7_narrow_39 (k := 2) rfl ?_
          refine vLconst F (v := 0) dX7_narrow_40 rfl ?_
          refine vLcmp F dX7_narrow_41 ?_
          refine vIfEq F (tgt := 49) dX7_narrow_42 (by decide) (fun c1 => ?_) (fun c1 => ?_)
          · replace h := okTT h c1
            refine vLconst F (v := 0) dX7_narrow_49 rfl ?_
            refine vGoto F (tgt := 54) dX7_narrow_50 (by decide) ?_
            have z := okS h
            exact vLret F dX7_narrow_54 z
          · replace h := okFT h c1
            refine vLconst F (v := 1) dX7_narrow_45 rfl ?_
            refine vGoto F (tgt := 54) dX7_narrow_46 (by decide) ?_
            have z := okS h
            exact vLret F dX7_narrow_54 z
      · replace h := okTT h c3
        refine vLloadN F dX7_narrow_28 (k := 2) rfl ?_
        refine vL2i F dX7_narrow_29 ?_
        refine vI2l F dX7_narrow_30 ?_
        refine vGoto F (tgt := 54) dX7_narrow_31 (by decide) ?_
        have z := okS h
        exact vLret F dX7_narrow_54 z
    · replace h := okTT h c4
      refine vLloadN F dX7_narrow_16 (k := 2) rfl ?_
      refine vL2i F dX7_narrow_17 ?_
      refine vI2s F dX7_narrow_18 ?_
      refine vI2l F dX7_narrow_19 ?_
      refine vGoto F (tgt := 54) dX7_narrow_20 (by decide) ?_
      have z := okS h
      exact vLret F dX7_narrow_54 z
  · replace h := okTT h c5
    refine vLloadN F dX7_narrow_4 (k := 2) rfl ?_
    refine vL2i F dX7_narrow_5 ?_
    refine vI2b F dX7_narrow_6 ?_
    refine vI2l F dX7_narrow_7 ?_
    refine vGoto F (tgt := 54) dX7_narrow_8 (by decide) ?_
    have z := okS h
    exact vLret F dX7_narrow_54 z
def Mo_item (m : Mm) (a1 : Int32) (a2 : Int32) (a3 : Int64) : Option (Int32 × Mm) :=
  if (Mo_isTape a1) = true then
 (ga a1 6 (if 0 ≤ (m.1 36 a1.toNatClampNeg) then
 (ga a1 6 (if (Mo_in a2 0 ((m.1 37 a1.toNatClampNeg) - 1)) = true then
 (ga a1 6 (ga ((60 * a1) + a2) 360 (some (1, sl m 38 ((60 * a1) + a2).toNatClampNeg (Mo_narrow (m.1 36 a1.toNatClampNeg) a3)))))
 else (some ((-13), m))))
 else (some ((-11), m))))
 else (some ((-1), m))
set_option maxRecDepth 20000 in
set_option maxHeartbeats 4000000 in
theorem Mo_item_ok {G : Gw} (hG : gOk G) (hs : gsh G = shM) {a1 : Int32} {a2 : Int32} {a3 : Int64} {m : Mm} {P : Option Value → Mm → Prop} (h : mjO (Mo_item m a1 a2 a3) (fun r => P (some (.int r.1)) r.2)) : mjR G 2 yX7_item cX7_item 5 (some .int) [.ref (gr G 0), .int a1, .int a2, .long a3] m P := by
  refine mjR_of hG (by decide) (Nat.le_of_ble_eq_true rfl) ?_
  intro X F
  have F : mjF G X cX7_item RX7 5 2 (some .int) := F
  show mjV G X 5 0 [(0, .ref (gr G 0)), (1, .int a1), (2, .int a2), (3, .long a3)] [] m P
  unfold Mo_item at h
  refine vAloadN F dX7_item_0 (k := 0) rfl ?_
  refine vIloadN F dX7_item_1 (k := 1) rfl ?_
  refine vCallV F (d' := 1) (x := 0) (T := TX7) (N := 61) (As := [.int a1]) (st := []) dX7_item_2 lk_X7_351 my_X7_isTape mv_X7_isTape (cqM_0 hs) rfl (by decide) rfl rfl (Nat.le_of_ble_eq_true rfl) (Mo_isTape_ok hG hs ?_)
  show mjV G X 5 5 [(0, .ref (gr G 0)), (1, .int a1), (2, .int a2), (3, .long a3)] [.int (bI (Mo_isTape a1))] m P
  refine vIfNeB F (tgt := 10) dX7_item_5 (by decide) (fun c7 => ?_) (fun c7 => ?_)
  · replace h := okT h c7
    refine vAloadN F dX7_item_10 (k := 0) rfl ?_
    refine vGetR F (t := 36) dX7_item_11 fa_X7_185 (cqM_0 hs) rfl ?_
    refine vIloadN F dX7_item_14 (k := 1) rfl ?_
    obtain ⟨g1, h⟩ := okga h
    refine vIald F dX7_item_15 (cqM_36 hs) g1 ?_
    refine vIfGe F (tgt := 22) dX7_item_16 (by decide) (fun c6 => ?_) (fun c6 => ?_)
    · replace h := okT h c6
      refine vAloadN F dX7_item_22 (k := 0) rfl ?_
      refine vIloadN F dX7_item_23 (k := 2) rfl ?_
      refine vIconst F (v := 0) dX7_item_24 k_0 ?_
      refine vAloadN F dX7_item_25 (k := 0) rfl ?_
      refine vGetR F (t := 37) dX7_item_26 fa_X7_188 (cqM_0 hs) rfl ?_
      refine vIloadN F dX7_item_29 (k := 1) rfl ?_
      obtain ⟨g2, h⟩ := okga h
      refine vIald F dX7_item_30 (cqM_37 hs) g2 ?_
      refine vIconst F (v := 1) dX7_item_31 k_1 ?_
      refine vIsub F dX7_item_32 ?_
      refine vCallV F (d' := 0) (x := 0) (T := TX7) (N := 61) (As := [.int a2, .int 0, .int ((m.1 37 a1.toNatClampNeg) - 1)]) (st := []) dX7_item_33 lk_X7_197 my_X7_in mv_X7_in (cqM_0 hs) rfl (by decide) rfl rfl (Nat.le_of_ble_eq_true rfl) (Mo_in_ok hG hs ?_)
      show mjV G X 5 36 [(0, .ref (gr G 0)), (1, .int a1), (2, .int a2), (3, .long a3)] [.int (bI (Mo_in a2 0 ((m.1 37 a1.toNatClampNeg) - 1)))] m P
      refine vIfNeB F (tgt := 42) dX7_item_36 (by decide) (fun c5 => ?_) (fun c5 => ?_)
      · replace h := okT h c5
        refine vAloadN F dX7_item_42 (k := 0) rfl ?_
        refine vGetR F (t := 38) dX7_item_43 fa_X7_191 (cqM_0 hs) rfl ?_
        refine vBipush F (v := 60) dX7_item_46 kb_60 ?_
        refine vIloadN F dX7_item_48 (k := 1) rfl ?_
        refine vImul F dX7_item_49 ?_
        refine vIloadN F dX7_item_50 (k := 2) rfl ?_
        refine vIadd F dX7_item_51 ?_
        refine vAloadN F dX7_item_52 (k := 0) rfl ?_
        refine vAloadN F dX7_item_53 (k := 0) rfl ?_
        refine vGetR F (t := 36) dX7_item_54 fa_X7_185 (cqM_0 hs) rfl ?_
        refine vIloadN F dX7_item_57 (k := 1) rfl ?_
        obtain ⟨g3, h⟩ := okga h
        refine vIald F dX7_item_58 (cqM_36 hs) g3 ?_
        refine vLloadN F dX7_item_59 (k := 3) rfl ?_
        refine vCallV F (d' := 0) (x := 0) (T := TX7) (N := 61) (As := [.int (m.1 36 a1.toNatClampNeg), .long a3]) (st := [.int ((60 * a1) + a2), .ref (gr G 38)]) dX7_item_60 lk_X7_378 my_X7_narrow mv_X7_narrow (cqM_0 hs) rfl (by decide) rfl rfl (Nat.le_of_ble_eq_true rfl) (Mo_narrow_ok hG hs ?_)
        show mjV G X 5 63 [(0, .ref (gr G 0)), (1, .int a1), (2, .int a2), (3, .long a3)] [.long (Mo_narrow (m.1 36 a1.toNatClampNeg) a3), .int ((60 * a1) + a2), .ref (gr G 38)] m P
        obtain ⟨g4, h⟩ := okga h
        refine vLast F dX7_item_63 (cqM_38 hs) g4 ?_
        refine vIconst F (v := 1) dX7_item_64 k_1 ?_
        have z := okS h
        exact vIret F dX7_item_65 z
      · replace h := okF h c5
        refine vBipush F (v := (-13)) dX7_item_39 kb_m13 ?_
        have z := okS h
        exact vIret F dX7_item_41 z
    · replace h := okF h c6
      refine vBipush F (v := (-11)) dX7_item_19 kb_m11 ?_
      have z := okS h
      exact vIret F dX7_item_21 z
  · replace h := okF h c7
    refine vIconst F (v := (-1)) dX7_item_8 k_m1 ?_
    have z := okS h
    exact vIret F dX7_item_9 z
def Mo_read (m : Mm) (a1 : Int32) (a2 : Int32) : Option (Int64) :=
  if (Mo_isTape a1) = true then
 (ga a1 6 (if (m.1 36 a1.toNatClampNeg) < 0 then
 (some (-9223372036854775808))
 else (ga a1 6 (if (Mo_in a2 0 ((m.1 37 a1.toNatClampNeg) - 1)) = true then
 (ga ((60 * a1) + a2) 360 (some (m.2.1 38 ((60 * a1) + a2).toNatClampNeg)))
 else (some (-9223372036854775808))))))
 else (some (-9223372036854775808))
set_option maxRecDepth 20000 in
set_option maxHeartbeats 4000000 in
theorem Mo_read_ok {G : Gw} (hG : gOk G) (hs : gsh G = shM) {a1 : Int32} {a2 : Int32} {m : Mm} {P : Option Value → Mm → Prop} (h : mjO (Mo_read m a1 a2) (fun r => P (some (.long r)) m)) : mjR G 2 yX7_read cX7_read 3 (some .long) [.ref (gr G 0), .int a1, .int a2] m P := by
  refine mjR_of hG (by decide) (Nat.le_of_ble_eq_true rfl) ?_
  intro X F
  have F : mjF G X cX7_read RX7 3 2 (some .long) := F
  show mjV G X 3 0 [(0, .ref (gr G 0)), (1, .int a1), (2, .int a2)] [] m P
  unfold Mo_read at h
  refine vAloadN F dX7_read_0 (k := 0) rfl ?_
  refine vIloadN F dX7_read_1 (k := 1) rfl ?_
  refine vCallV F (d' := 1) (x := 0) (T := TX7) (N := 61) (As := [.int a1]) (st := []) dX7_read_2 lk_X7_351 my_X7_isTape mv_X7_isTape (cqM_0 hs) rfl (by decide) rfl rfl (Nat.le_of_ble_eq_true rfl) (Mo_isTape_ok hG hs ?_)
  show mjV G X 3 5 [(0, .ref (gr G 0)), (1, .int a1), (2, .int a2)] [.int (bI (Mo_isTape a1))] m P
  refine vIfEqB F (tgt := 34) dX7_read_5 (by decide) (fun c6 => ?_) (fun c6 => ?_)
  · replace h := okF h c6
    refine vLdc2 F dX7_read_34 kc_X7_342 ?_
    refine vGoto F (tgt := 51) dX7_read_37 (by decide) ?_
    have z := okS h
    exact vLret F dX7_read_51 z
  · replace h := okT h c6
    refine vAloadN F dX7_read_8 (k := 0) rfl ?_
    refine vGetR F (t := 36) dX7_read_9 fa_X7_185 (cqM_0 hs) rfl ?_
    refine vIloadN F dX7_read_12 (k := 1) rfl ?_
    obtain ⟨g1, h⟩ := okga h
    refine vIald F dX7_read_13 (cqM_36 hs) g1 ?_
    refine vIfLt F (tgt := 34) dX7_read_14 (by decide) (fun c5 => ?_) (fun c5 => ?_)
    · replace h := okT h c5
      refine vLdc2 F dX7_read_34 kc_X7_342 ?_
      refine vGoto F (tgt := 51) dX7_read_37 (by decide) ?_
      have z := okS h
      exact vLret F dX7_read_51 z
    · replace h := okF h c5
      refine vAloadN F dX7_read_17 (k := 0) rfl ?_
      refine vIloadN F dX7_read_18 (k := 2) rfl ?_
      refine vIconst F (v := 0) dX7_read_19 k_0 ?_
      refine vAloadN F dX7_read_20 (k := 0) rfl ?_
      refine vGetR F (t := 37) dX7_read_21 fa_X7_188 (cqM_0 hs) rfl ?_
      refine vIloadN F dX7_read_24 (k := 1) rfl ?_
      obtain ⟨g2, h⟩ := okga h
      refine vIald F dX7_read_25 (cqM_37 hs) g2 ?_
      refine vIconst F (v := 1) dX7_read_26 k_1 ?_
      refine vIsub F dX7_read_27 ?_
      refine vCallV F (d' := 0) (x := 0) (T := TX7) (N := 61) (As := [.int a2, .int 0, .int ((m.1 37 a1.toNatClampNeg) - 1)]) (st := []) dX7_read_28 lk_X7_197 my_X7_in mv_X7_in (cqM_0 hs) rfl (by decide) rfl rfl (Nat.le_of_ble_eq_true rfl) (Mo_in_ok hG hs ?_)
      show mjV G X 3 31 [(0, .ref (gr G 0)), (1, .int a1), (2, .int a2)] [.int (bI (Mo_in a2 0 ((m.1 37 a1.toNatClampNeg) - 1)))] m P
      refine vIfNeB F (tgt := 40) dX7_read_31 (by decide) (fun c4 => ?_) (fun c4 => ?_)
      · replace h := okT h c4
        refine vAloadN F dX7_read_40 (k := 0) rfl ?_
        refine vGetR F (t := 38) dX7_read_41 fa_X7_191 (cqM_0 hs) rfl ?_
        refine vBipush F (v := 60) dX7_read_44 kb_60 ?_
        refine vIloadN F dX7_read_46 (k := 1) rfl ?_
        refine vImul F dX7_read_47 ?_
        refine vIloadN F dX7_read_48 (k := 2) rfl ?_
        refine vIadd F dX7_read_49 ?_
        obtain ⟨g3, h⟩ := okga h
        refine vLald F dX7_read_50 (cqM_38 hs) g3 ?_
        have z := okS h
        exact vLret F dX7_read_51 z
      · replace h := okF h c4
        refine vLdc2 F dX7_read_34 kc_X7_342 ?_
        refine vGoto F (tgt := 51) dX7_read_37 (by decide) ?_
        have z := okS h
        exact vLret F dX7_read_51 z
