def Mo_shift_l104 (a1 : Int32) (a2 : Int32) (a5 : Int32) (s7 : Int32 × Mm) : Option ((Int32 × Mm) ⊕ Mm) :=
  if a5 ≤ (s7.1) then
 (some (.inr (s7.2)))
 else (ga (((60 * a1) + a2) + (s7.1)) 360 (ga (s7.1) 60 (some (.inl ((s7.1) + 1, sl (s7.2) 39 (s7.1).toNatClampNeg ((s7.2).2.1 38 (((60 * a1) + a2) + (s7.1)).toNatClampNeg))))))
def Mo_shift_l141 (a3 : Int32) (a4 : Int32) (a5 : Int32) (s12 : Int32 × Mm) : Option ((Int32 × Mm) ⊕ Mm) :=
  if a5 ≤ (s12.1) then
 (some (.inr (s12.2)))
 else (ga (s12.1) 60 (ga (((60 * a3) + a4) + (s12.1)) 360 (some (.inl ((s12.1) + 1, sl (s12.2) 38 (((60 * a3) + a4) + (s12.1)).toNatClampNeg ((s12.2).2.1 39 (s12.1).toNatClampNeg))))))
noncomputable def Mo_shift (m : Mm) (a1 : Int32) (a2 : Int32) (a3 : Int32) (a4 : Int32) (a5 : Int32) : Option (Int32 × Mm) :=
  if (Mo_isTape a1) = true then
 (if (Mo_isTape a3) = true then
 (ga a1 6 (if (m.1 36 a1.toNatClampNeg) < 0 then
 (some ((-11), m))
 else (ga a3 6 (if 0 ≤ (m.1 36 a3.toNatClampNeg) then
 (ga a1 6 (ga a3 6 (if (m.1 36 a1.toNatClampNeg) = (m.1 36 a3.toNatClampNeg) then
 (if a5 < 0 then
 (some ((-13), m))
 else (if a2 < 0 then
 (some ((-13), m))
 else (if a4 < 0 then
 (some ((-13), m))
 else (ga a1 6 (if ((m.1 37 a1.toNatClampNeg) - a5) < a2 then
 (some ((-13), m))
 else (ga a3 6 (if a4 ≤ ((m.1 37 a3.toNatClampNeg) - a5) then
 ((iter (Mo_shift_l104 a1 a2 a5) (0, m)).bind fun e8 =>
  (iter (Mo_shift_l141 a3 a4 a5) (0, e8)).bind fun e13 =>
  some (a5, e13))
 else (some ((-13), m)))))))))
 else (some ((-12), m)))))
 else (some ((-11), m))))))
 else (some ((-1), m)))
 else (some ((-1), m))
set_option maxRecDepth 20000 in
set_option maxHeartbeats 4000000 in
theorem Mo_shift_ok {G : Gw} (hG : gOk G) (hs : gsh G = shM) {a1 : Int32} {a2 : Int32} {a3 : Int32} {a4 : Int32} {a5 : Int32} {m : Mm} {P : Option Value → Mm → Prop} (h : mjO (Mo_shift m a1 a2 a3 a4 a5) (fun r => P (some (.int r.1)) r.2)) : mjR G 2 yX7_shift cX7_shift 7 (some .int) [.ref (gr G 0), .int a1, .int a2, .int a3, .int a4, .int a5] m P := by
  refine mjR_of hG (by decide) (Nat.le_of_ble_eq_true rfl) ?_
  intro X F
  have F : mjF G X cX7_shift RX7 7 2 (some .int) := F
  show mjV G X 7 0 [(0, .ref (gr G 0)), (1, .int a1), (2, .int a2), (3, .int a3), (4, .int a4), (5, .int a5)] [] m P
  unfold Mo_shift at h
  refine vAloadN F dX7_shift_0 (k := 0) rfl ?_
  refine vIloadN F dX7_shift_1 (k := 1) rfl ?_
  refine vCallV F (d' := 1) (x := 0) (T := TX7) (N := 61) (As := [.int a1]) (st := []) dX7_shift_2 lk_X7_351 my_X7_isTape mv_X7_isTape (cqM_0 hs) rfl (by decide) rfl rfl (Nat.le_of_ble_eq_true rfl) (Mo_isTape_ok hG hs ?_)
  show mjV G X 7 5 [(0, .ref (gr G 0)), (1, .int a1), (2, .int a2), (3, .int a3), (4, .int a4), (5, .int a5)] [.int (bI (Mo_isTape a1))] m P
  refine vIfEqB F (tgt := 16) dX7_shift_5 (by decide) (fun c28 => ?_) (fun c28 => ?_)
  · replace h := okF h c28
    refine vIconst F (v := (-1)) dX7_shift_16 k_m1 ?_
    have z := okS h
    exact vIret F dX7_shift_17 z
  · replace h := okT h c28
    refine vAloadN F dX7_shift_8 (k := 0) rfl ?_
    refine vIloadN F dX7_shift_9 (k := 3) rfl ?_
    refine vCallV F (d' := 1) (x := 0) (T := TX7) (N := 61) (As := [.int a3]) (st := []) dX7_shift_10 lk_X7_351 my_X7_isTape mv_X7_isTape (cqM_0 hs) rfl (by decide) rfl rfl (Nat.le_of_ble_eq_true rfl) (Mo_isTape_ok hG hs ?_)
    show mjV G X 7 13 [(0, .ref (gr G 0)), (1, .int a1), (2, .int a2), (3, .int a3), (4, .int a4), (5, .int a5)] [.int (bI (Mo_isTape a3))] m P
    refine vIfNeB F (tgt := 18) dX7_shift_13 (by decide) (fun c27 => ?_) (fun c27 => ?_)
    · replace h := okT h c27
      refine vAloadN F dX7_shift_18 (k := 0) rfl ?_
      refine vGetR F (t := 36) dX7_shift_19 fa_X7_185 (cqM_0 hs) rfl ?_
      refine vIloadN F dX7_shift_22 (k := 1) rfl ?_
      obtain ⟨g1, h⟩ := okga h
      refine vIald F dX7_shift_23 (cqM_36 hs) g1 ?_
      refine vIfLt F (tgt := 36) dX7_shift_24 (by decide) (fun c26 => ?_) (fun c26 => ?_)
      · replace h := okT h c26
        refine vBipush F (v := (-11)) dX7_shift_36 kb_m11 ?_
        have z := okS h
        exact vIret F dX7_shift_38 z
      · replace h := okF h c26
        refine vAloadN F dX7_shift_27 (k := 0) rfl ?_
        refine vGetR F (t := 36) dX7_shift_28 fa_X7_185 (cqM_0 hs) rfl ?_
        refine vIloadN F dX7_shift_31 (k := 3) rfl ?_
        obtain ⟨g2, h⟩ := okga h
        refine vIald F dX7_shift_32 (cqM_36 hs) g2 ?_
        refine vIfGe F (tgt := 39) dX7_shift_33 (by decide) (fun c25 => ?_) (fun c25 => ?_)
        · replace h := okT h c25
          refine vAloadN F dX7_shift_39 (k := 0) rfl ?_
          refine vGetR F (t := 36) dX7_shift_40 fa_X7_185 (cqM_0 hs) rfl ?_
          refine vIloadN F dX7_shift_43 (k := 1) rfl ?_
          obtain ⟨g3, h⟩ := okga h
          refine vIald F dX7_shift_44 (cqM_36 hs) g3 ?_
          refine vAloadN F dX7_shift_45 (k := 0) rfl ?_
          refine vGetR F (t := 36) dX7_shift_46 fa_X7_185 (cqM_0 hs) rfl ?_
          refine vIloadN F dX7_shift_49 (k := 3) rfl ?_
          obtain ⟨g4, h⟩ := okga h
          refine vIald F dX7_shift_50 (cqM_36 hs) g4 ?_
          refine vIcmpEq F (tgt := 57) dX7_shift_51 (by decide) (fun c24 => ?_) (fun c24 => ?_)
          · replace h := okT h c24
            refine vIload F dX7_shift_57 (k := 5) rfl ?_
            refine vIfLt F (tgt := 98) dX7_shift_59 (by decide) (fun c23 => ?_) (fun c23 => ?_)
            · replace h := okT h c23
              refine vBipush F (v := (-13)) dX7_shift_98 kb_m13 ?_
              have z := okS h
              exact vIret F dX7_shift_100 z
            · replace h := okF h c23
              refine vIloadN F dX7_shift_62 (k := 2) rfl ?_
              refine vIfLt F (tgt := 98) dX7_shift_63 (by decide) (fun c22 => ?_) (fun c22 => ?_)
              · replace h := okT h c22
                refine vBipush F (v := (-13)) dX7_shift_98 kb_m13 ?_
                have z := okS h
                exact vIret F dX7_shift_100 z
              · replace h := okF h c22
                refine vIload F dX7_shift_66 (k := 4) rfl ?_
                refine vIfLt F (tgt := 98) dX7_shift_68 (by decide) (fun c21 => ?_) (fun c21 => ?_)
                · replace h := okT h c21
                  refine vBipush F (v := (-13)) dX7_shift_98 kb_m13 ?_
                  have z := okS h
                  exact vIret F dX7_shift_100 z
                · replace h := okF h c21
                  refine vIloadN F dX7_shift_71 (k := 2) rfl ?_
                  refine vAloadN F dX7_shift_72 (k := 0) rfl ?_
                  refine vGetR F (t := 37) dX7_shift_73 fa_X7_188 (cqM_0 hs) rfl ?_
                  refine vIloadN F dX7_shift_76 (k := 1) rfl ?_
                  obtain ⟨g5, h⟩ := okga h
                  refine vIald F dX7_shift_77 (cqM_37 hs) g5 ?_
                  refine vIload F dX7_shift_78 (k := 5) rfl ?_
                  refine vIsub F dX7_shift_80 ?_
                  refine vIcmpGt F (tgt := 98) dX7_shift_81 (by decide) (fun c20 => ?_) (fun c20 => ?_)
                  · replace h := okT h c20
                    refine vBipush F (v := (-13)) dX7_shift_98 kb_m13 ?_
                    have z := okS h
                    exact vIret F dX7_shift_100 z
                  · replace h := okF h c20
                    refine vIload F dX7_shift_84 (k := 4) rfl ?_
                    refine vAloadN F dX7_shift_86 (k := 0) rfl ?_
                    refine vGetR F (t := 37) dX7_shift_87 fa_X7_188 (cqM_0 hs) rfl ?_
                    refine vIloadN F dX7_shift_90 (k := 3) rfl ?_
                    obtain ⟨g6, h⟩ := okga h
                    refine vIald F dX7_shift_91 (cqM_37 hs) g6 ?_
                    refine vIload F dX7_shift_92 (k := 5) rfl ?_
                    refine vIsub F dX7_shift_94 ?_
                    refine vIcmpLe F (tgt := 101) dX7_shift_95 (by decide) (fun c19 => ?_) (fun c19 => ?_)
                    · replace h := okT h c19
                      refine vIconst F (v := 0) dX7_shift_101 k_0 ?_
                      refine vIstore F (L' := [(6, .int 0), (0, .ref (gr G 0)), (1, .int a1), (2, .int a2), (3, .int a3), (4, .int a4), (5, .int a5)]) dX7_shift_102 (by decide) rfl ?_
                      refine vSub [1, 2, 3, 4, 5, 6, 0] rfl ?_
                      refine okLoop (s0 := (0, m)) (T := (fun (s7 : Int32 × Mm) => mjV G X 7 104 [(0, .ref (gr G 0)), (1, .int a1), (2, .int a2), (3, .int a3), (4, .int a4), (5, .int a5), (6, .int (s7.1))] [] (s7.2) P)) (Ve := (fun (e8 : Mm) => mjV G X 7 138 [(0, .ref (gr G 0)), (3, .int a3), (4, .int a4), (5, .int a5)] [] e8 P)) h ?_ (fun s7 h => ?_)
                      · intro e8 h
                        refine vIconst F (v := 0) dX7_shift_138 k_0 ?_
                        refine vIstore F (L' := [(6, .int 0), (0, .ref (gr G 0)), (3, .int a3), (4, .int a4), (5, .int a5)]) dX7_shift_139 (by decide) rfl ?_
                        refine vSub [1, 2, 3, 4, 0] rfl ?_
                        refine okLoop (s0 := (0, e8)) (T := (fun (s12 : Int32 × Mm) => mjV G X 7 141 [(0, .ref (gr G 0)), (3, .int a3), (4, .int a4), (5, .int a5), (6, .int (s12.1))] [] (s12.2) P)) (Ve := (fun (e13 : Mm) => mjV G X 7 176 [(5, .int a5)] [] e13 P)) h ?_ (fun s12 h => ?_)
                        · intro e13 h
                          refine vIload F dX7_shift_176 (k := 0) rfl ?_
                          have z := okS h
                          exact vIret F dX7_shift_178 z
                        · unfold Mo_shift_l141 at h
                          refine vIload F dX7_shift_141 (k := 4) rfl ?_
                          refine vIload F dX7_shift_143 (k := 3) rfl ?_
                          refine vIcmpGe F (tgt := 176) dX7_shift_145 (by decide) (fun c16 => ?_) (fun c16 => ?_)
                          · replace h := okT h c16
                            refine vSub [3] rfl ?_
                            have z := okR h
                            exact z
                          · replace h := okF h c16
                            refine vAloadN F dX7_shift_148 (k := 0) rfl ?_
                            refine vGetR F (t := 38) dX7_shift_149 fa_X7_191 (cqM_0 hs) rfl ?_
                            refine vBipush F (v := 60) dX7_shift_152 kb_60 ?_
                            refine vIloadN F dX7_shift_154 (k := 1) rfl ?_
                            refine vImul F dX7_shift_155 ?_
                            refine vIload F dX7_shift_156 (k := 2) rfl ?_
                            refine vIadd F dX7_shift_158 ?_
                            refine vIload F dX7_shift_159 (k := 4) rfl ?_
                            refine vIadd F dX7_shift_161 ?_
                            refine vAloadN F dX7_shift_162 (k := 0) rfl ?_
                            refine vGetR F (t := 39) dX7_shift_163 fa_X7_194 (cqM_0 hs) rfl ?_
                            refine vIload F dX7_shift_166 (k := 4) rfl ?_
                            obtain ⟨g14, h⟩ := okga h
                            refine vLald F dX7_shift_168 (cqM_39 hs) g14 ?_
                            obtain ⟨g15, h⟩ := okga h
                            refine vLast F dX7_shift_169 (cqM_38 hs) g15 ?_
                            refine vIinc F (v := 1) (k := 4) (L' := [(6, .int ((s12.1) + 1)), (0, .ref (gr G 0)), (3, .int a3), (4, .int a4), (5, .int a5)]) dX7_shift_170 rfl k_1 (by decide) rfl ?_
                            refine vGoto F (tgt := 141) dX7_shift_173 (by decide) ?_
                            refine vSub [1, 2, 3, 4, 0] rfl ?_
                            have z := okL h
                            exact z
                      · unfold Mo_shift_l104 at h
                        refine vIload F dX7_shift_104 (k := 6) rfl ?_
                        refine vIload F dX7_shift_106 (k := 5) rfl ?_
                        refine vIcmpGe F (tgt := 138) dX7_shift_108 (by decide) (fun c11 => ?_) (fun c11 => ?_)
                        · replace h := okT h c11
                          refine vSub [0, 3, 4, 5] rfl ?_
                          have z := okR h
                          exact z
                        · replace h := okF h c11
                          refine vAloadN F dX7_shift_111 (k := 0) rfl ?_
                          refine vGetR F (t := 39) dX7_shift_112 fa_X7_194 (cqM_0 hs) rfl ?_
                          refine vIload F dX7_shift_115 (k := 6) rfl ?_
                          refine vAloadN F dX7_shift_117 (k := 0) rfl ?_
                          refine vGetR F (t := 38) dX7_shift_118 fa_X7_191 (cqM_0 hs) rfl ?_
                          refine vBipush F (v := 60) dX7_shift_121 kb_60 ?_
                          refine vIloadN F dX7_shift_123 (k := 1) rfl ?_
                          refine vImul F dX7_shift_124 ?_
                          refine vIloadN F dX7_shift_125 (k := 2) rfl ?_
                          refine vIadd F dX7_shift_126 ?_
                          refine vIload F dX7_shift_127 (k := 6) rfl ?_
                          refine vIadd F dX7_shift_129 ?_
                          obtain ⟨g9, h⟩ := okga h
                          refine vLald F dX7_shift_130 (cqM_38 hs) g9 ?_
                          obtain ⟨g10, h⟩ := okga h
                          refine vLast F dX7_shift_131 (cqM_39 hs) g10 ?_
                          refine vIinc F (v := 1) (k := 6) (L' := [(6, .int ((s7.1) + 1)), (0, .ref (gr G 0)), (1, .int a1), (2, .int a2), (3, .int a3), (4, .int a4), (5, .int a5)]) dX7_shift_132 rfl k_1 (by decide) rfl ?_
                          refine vGoto F (tgt := 104) dX7_shift_135 (by decide) ?_
                          refine vSub [1, 2, 3, 4, 5, 6, 0] rfl ?_
                          have z := okL h
                          exact z
                    · replace h := okF h c19
                      refine vBipush F (v := (-13)) dX7_shift_98 kb_m13 ?_
                      have z := okS h
                      exact vIret F dX7_shift_100 z
          · replace h := okF h c24
            refine vBipush F (v := (-12)) dX7_shift_54 kb_m12 ?_
            have z := okS h
            exact vIret F dX7_shift_56 z
        · replace h := okF h c25
          refine vBipush F (v := (-11)) dX7_shift_36 kb_m11 ?_
          have z := okS h
          exact vIret F dX7_shift_38 z
    · replace h := okF h c27
      refine vIconst F (v := (-1)) dX7_shift_16 k_m1 ?_
      have z := okS h
      exact vIret F dX7_shift_17 z
