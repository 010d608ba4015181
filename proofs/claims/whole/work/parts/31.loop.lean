theorem lw_ix {j k LN : Nat} (h : 6 * j + 6 ≤ LN) (hL : LN ≤ 3072) (hk : k < 6) : vp_in (nI (6 * j) + nI k) LN := by
  rw [nI_add]
  exact vp_in_nI (by omega) (by omega)
set_option maxRecDepth 20000 in
set_option maxHeartbeats 4000000 in
theorem lw_loop {Gc Gr : Gw} {X : Cx} {bA LN nc ns : Nat} {xs : Nat → Int32} {Inv : Mm → Mm → Prop} (hH0 : lwH0 Inv) (hH1 : lwH1 Inv) (hH2 : lwH2 Inv) (hH3 : lwH3 Inv) (hH4 : lwH4 Inv) (hH5 : lwH5 Inv) (hH6 : lwH6 Inv) (hH7 : lwH7 Inv) (hH8 : lwH8 Inv) (hH9 : lwH9 Inv) (hH10 : lwH10 Inv) (hH11 : lwH11 Inv) (hH12 : lwH12 Inv) (hH13 : lwH13 Inv) (hH14 : lwH14 Inv) (hH15 : lwH15 Inv) (hH16 : lwH16 Inv) (hH17 : lwH17 Inv) (hH18 : lwH18 Inv) (hH19 : lwH19 Inv) (hH20 : lwH20 Inv) (hH21 : lwH21 Inv) (hH22 : lwH22 Inv) (hH23 : lwH23 Inv) (hH24 : lwH24 Inv) (hH25 : lwH25 Inv) (hH26 : lwH26 Inv) (hH27 : lwH27 Inv) (hH28 : lwH28 Inv) (hH29 : lwH29 Inv) (hH30 : lwH30 Inv) (hH31 : lwH31 Inv) (hH32 : lwH32 Inv) (hH33 : lwH33 Inv) (hH34 : lwH34 Inv) (hH35 : lwH35 Inv) (hH36 : lwH36 Inv) (hH37 : lwH37 Inv) (hH38 : lwH38 Inv) (F : lwF Gc Gr X bA LN nc ns xs) (hsc : gsh Gc = shC) (hsr : gsh Gr = shM) (hL : LN ≤ 3072) : ∀ (n j : Nat), LN < 6 * j + 6 * n + 6 → ∀ (m1 m2 : Mm), Inv m1 m2 → 6 * j ≤ LN → lwV Gc Gr X bA nc ns 18 [(1, .ref (gr Gc 0)), (2, .ref (gr Gr 0)), (0, .ref bA), (3, .int (nI (6 * j)))] [] m1 m2 := by
  intro n
  induction n with
  | zero =>
    intro j hj m1 m2 hI0 hle
    refine lIloadN F dL_law_18 (k := 3) rfl ?_
    refine lAloadN F dL_law_19 (k := 2) rfl ?_
    refine lLen F dL_law_20 ?_
    refine lBipush F (v := 6) dL_law_21 kb_6 ?_
    refine lIsub F dL_law_23 ?_
    refine lIcmpGt F (tgt := 1440) dL_law_24 (by decide) (fun c => ?_) (fun c => ?_)
    · refine lIconst F (v := 1) dL_law_1440 k_1 ?_
      exact lRet F dL_law_1441
    · exfalso
      apply c
      have h6 : (Int32.ofNat LN - 6 : Int32).toInt = (LN : Int) - 6 := by
        have := pk_sub_toInt (a := LN) (b := 6) (by omega) (by omega)
        exact this
      rw [Int32.lt_iff_toInt_lt, h6, nI_toInt (by omega)]
      omega
  | succ n ih =>
    intro j hj m1 m2 hI0 hle
    refine lIloadN F dL_law_18 (k := 3) rfl ?_
    refine lAloadN F dL_law_19 (k := 2) rfl ?_
    refine lLen F dL_law_20 ?_
    refine lBipush F (v := 6) dL_law_21 kb_6 ?_
    refine lIsub F dL_law_23 ?_
    refine lIcmpGt F (tgt := 1440) dL_law_24 (by decide) (fun c => ?_) (fun c => ?_)
    · refine lIconst F (v := 1) dL_law_1440 k_1 ?_
      exact lRet F dL_law_1441
    · have h6 : (Int32.ofNat LN - 6 : Int32).toInt = (LN : Int) - 6 := by
        have := pk_sub_toInt (a := LN) (b := 6) (by omega) (by omega)
        exact this
      rw [Int32.lt_iff_toInt_lt, h6, nI_toInt (by omega)] at c
      have hj6 : 6 * j + 6 ≤ LN := by omega
      have hi0 : vp_in (nI (6 * j)) LN := vp_in_nI (by omega) (by omega)
      have hi1 : vp_in (nI (6 * j) + 1) LN := lw_ix (k := 1) hj6 hL (by decide)
      have hi2 : vp_in (nI (6 * j) + 2) LN := lw_ix (k := 2) hj6 hL (by decide)
      have hi3 : vp_in (nI (6 * j) + 3) LN := lw_ix (k := 3) hj6 hL (by decide)
      have hi4 : vp_in (nI (6 * j) + 4) LN := lw_ix (k := 4) hj6 hL (by decide)
      have hi5 : vp_in (nI (6 * j) + 5) LN := lw_ix (k := 5) hj6 hL (by decide)
      have kk : ∀ m1 m2, Inv m1 m2 → lwV Gc Gr X bA nc ns 1434 [(1, .ref (gr Gc 0)), (2, .ref (gr Gr 0)), (0, .ref bA), (3, .int (nI (6 * j)))] [] m1 m2 := by
        intro m1 m2 hI
        have hn : nI (6 * j) + Int32.ofInt 6 = nI (6 * (j + 1)) := by
          show nI (6 * j) + nI 6 = _
          rw [nI_add]
          congr 1
        refine lIinc F (v := nI (6 * (j + 1))) (k := 3) (L' := [(3, .int (nI (6 * (j + 1)))), (1, .ref (gr Gc 0)), (2, .ref (gr Gr 0)), (0, .ref bA)]) dL_law_1434 rfl hn (by decide) rfl ?_
        refine lGoto F (tgt := 18) dL_law_1437 (by decide) ?_
        refine lSub [1, 2, 3, 0] rfl ?_
        exact ih (j + 1) (by omega) m1 m2 hI (by omega)
      refine lAloadN F dL_law_27 (k := 2) rfl ?_
      refine lIloadN F dL_law_28 (k := 3) rfl ?_
      refine lScr F dL_law_29 hi0 ?_
      refine lBipush F (v := 63) dL_law_30 kb_63 ?_
      refine lIand F dL_law_32 ?_
      generalize (xs (nI (6 * j)).toNatClampNeg) &&& 63 = z
      by_cases c0 : z = 0
      · exact lTabIn F (tgt := 204) dL_law_33 c0 (by decide) (by decide) rfl (by decide) (lw_case0 hH0 F hsc hsr hi1 hi2 hi3 hi4 hi5 hI0 kk)
      by_cases c1 : z = 1
      · exact lTabIn F (tgt := 247) dL_law_33 c1 (by decide) (by decide) rfl (by decide) (lw_case1 hH1 F hsc hsr hi1 hi2 hi3 hi4 hi5 hI0 kk)
      by_cases c2 : z = 2
      · exact lTabIn F (tgt := 280) dL_law_33 c2 (by decide) (by decide) rfl (by decide) (lw_case2 hH2 F hsc hsr hi1 hi2 hi3 hi4 hi5 hI0 kk)
      by_cases c3 : z = 3
      · exact lTabIn F (tgt := 323) dL_law_33 c3 (by decide) (by decide) rfl (by decide) (lw_case3 hH3 F hsc hsr hi1 hi2 hi3 hi4 hi5 hI0 kk)
      by_cases c4 : z = 4
      · exact lTabIn F (tgt := 356) dL_law_33 c4 (by decide) (by decide) rfl (by decide) (lw_case4 hH4 F hsc hsr hi1 hi2 hi3 hi4 hi5 hI0 kk)
      by_cases c5 : z = 5
      · exact lTabIn F (tgt := 389) dL_law_33 c5 (by decide) (by decide) rfl (by decide) (lw_case5 hH5 F hsc hsr hi1 hi2 hi3 hi4 hi5 hI0 kk)
      by_cases c6 : z = 6
      · exact lTabIn F (tgt := 422) dL_law_33 c6 (by decide) (by decide) rfl (by decide) (lw_case6 hH6 F hsc hsr hi1 hi2 hi3 hi4 hi5 hI0 kk)
      by_cases c7 : z = 7
      · exact lTabIn F (tgt := 465) dL_law_33 c7 (by decide) (by decide) rfl (by decide) (lw_case7 hH7 F hsc hsr hi1 hi2 hi3 hi4 hi5 hI0 kk)
      by_cases c8 : z = 8
      · exact lTabIn F (tgt := 488) dL_law_33 c8 (by decide) (by decide) rfl (by decide) (lw_case8 hH8 F hsc hsr hi1 hi2 hi3 hi4 hi5 hI0 kk)
      by_cases c9 : z = 9
      · exact lTabIn F (tgt := 501) dL_law_33 c9 (by decide) (by decide) rfl (by decide) (lw_case9 hH9 F hsc hsr hi1 hi2 hi3 hi4 hi5 hI0 kk)
      by_cases c10 : z = 10
      · exact lTabIn F (tgt := 524) dL_law_33 c10 (by decide) (by decide) rfl (by decide) (lw_case10 hH10 F hsc hsr hi1 hi2 hi3 hi4 hi5 hI0 kk)
      by_cases c11 : z = 11
      · exact lTabIn F (tgt := 557) dL_law_33 c11 (by decide) (by decide) rfl (by decide) (lw_case11 hH11 F hsc hsr hi1 hi2 hi3 hi4 hi5 hI0 kk)
      by_cases c12 : z = 12
      · exact lTabIn F (tgt := 590) dL_law_33 c12 (by decide) (by decide) rfl (by decide) (lw_case12 hH12 F hsc hsr hi1 hi2 hi3 hi4 hi5 hI0 kk)
      by_cases c13 : z = 13
      · exact lTabIn F (tgt := 623) dL_law_33 c13 (by decide) (by decide) rfl (by decide) (lw_case13 hH13 F hsc hsr hi1 hi2 hi3 hi4 hi5 hI0 kk)
      by_cases c14 : z = 14
      · exact lTabIn F (tgt := 666) dL_law_33 c14 (by decide) (by decide) rfl (by decide) (lw_case14 hH14 F hsc hsr hi1 hi2 hi3 hi4 hi5 hI0 kk)
      by_cases c15 : z = 15
      · exact lTabIn F (tgt := 689) dL_law_33 c15 (by decide) (by decide) rfl (by decide) (lw_case15 hH15 F hsc hsr hi1 hi2 hi3 hi4 hi5 hI0 kk)
      by_cases c16 : z = 16
      · exact lTabIn F (tgt := 712) dL_law_33 c16 (by decide) (by decide) rfl (by decide) (lw_case16 hH16 F hsc hsr hi1 hi2 hi3 hi4 hi5 hI0 kk)
      by_cases c17 : z = 17
      · exact lTabIn F (tgt := 735) dL_law_33 c17 (by decide) (by decide) rfl (by decide) (lw_case17 hH17 F hsc hsr hi1 hi2 hi3 hi4 hi5 hI0 kk)
      by_cases c18 : z = 18
      · exact lTabIn F (tgt := 758) dL_law_33 c18 (by decide) (by decide) rfl (by decide) (lw_case18 hH18 F hsc hsr hi1 hi2 hi3 hi4 hi5 hI0 kk)
      by_cases c19 : z = 19
      · exact lTabIn F (tgt := 791) dL_law_33 c19 (by decide) (by decide) rfl (by decide) (lw_case19 hH19 F hsc hsr hi1 hi2 hi3 hi4 hi5 hI0 kk)
      by_cases c20 : z = 20
      · exact lTabIn F (tgt := 824) dL_law_33 c20 (by decide) (by decide) rfl (by decide) (lw_case20 hH20 F hsc hsr hi1 hi2 hi3 hi4 hi5 hI0 kk)
      by_cases c21 : z = 21
      · exact lTabIn F (tgt := 847) dL_law_33 c21 (by decide) (by decide) rfl (by decide) (lw_case21 hH21 F hsc hsr hi1 hi2 hi3 hi4 hi5 hI0 kk)
      by_cases c22 : z = 22
      · exact lTabIn F (tgt := 860) dL_law_33 c22 (by decide) (by decide) rfl (by decide) (lw_case22 hH22 F hsc hsr hi1 hi2 hi3 hi4 hi5 hI0 kk)
      by_cases c23 : z = 23
      · exact lTabIn F (tgt := 893) dL_law_33 c23 (by decide) (by decide) rfl (by decide) (lw_case23 hH23 F hsc hsr hi1 hi2 hi3 hi4 hi5 hI0 kk)
      by_cases c24 : z = 24
      · exact lTabIn F (tgt := 916) dL_law_33 c24 (by decide) (by decide) rfl (by decide) (lw_case24 hH24 F hsc hsr hi1 hi2 hi3 hi4 hi5 hI0 kk)
      by_cases c25 : z = 25
      · exact lTabIn F (tgt := 970) dL_law_33 c25 (by decide) (by decide) rfl (by decide) (lw_case25 hH25 F hsc hsr hi1 hi2 hi3 hi4 hi5 hI0 kk)
      by_cases c26 : z = 26
      · exact lTabIn F (tgt := 994) dL_law_33 c26 (by decide) (by decide) rfl (by decide) (lw_case26 hH26 F hsc hsr hi1 hi2 hi3 hi4 hi5 hI0 kk)
      by_cases c27 : z = 27
      · exact lTabIn F (tgt := 1017) dL_law_33 c27 (by decide) (by decide) rfl (by decide) (lw_case27 hH27 F hsc hsr hi1 hi2 hi3 hi4 hi5 hI0 kk)
      by_cases c28 : z = 28
      · exact lTabIn F (tgt := 1040) dL_law_33 c28 (by decide) (by decide) rfl (by decide) (lw_case28 hH28 F hsc hsr hi1 hi2 hi3 hi4 hi5 hI0 kk)
      by_cases c29 : z = 29
      · exact lTabIn F (tgt := 1073) dL_law_33 c29 (by decide) (by decide) rfl (by decide) (lw_case29 hH29 F hsc hsr hi1 hi2 hi3 hi4 hi5 hI0 kk)
      by_cases c30 : z = 30
      · exact lTabIn F (tgt := 1086) dL_law_33 c30 (by decide) (by decide) rfl (by decide) (lw_case30 hH30 F hsc hsr hi1 hi2 hi3 hi4 hi5 hI0 kk)
      by_cases c31 : z = 31
      · exact lTabIn F (tgt := 1099) dL_law_33 c31 (by decide) (by decide) rfl (by decide) (lw_case31 hH31 F hsc hsr hi1 hi2 hi3 hi4 hi5 hI0 kk)
      by_cases c32 : z = 32
      · exact lTabIn F (tgt := 1142) dL_law_33 c32 (by decide) (by decide) rfl (by decide) (lw_case32 hH32 F hsc hsr hi1 hi2 hi3 hi4 hi5 hI0 kk)
      by_cases c33 : z = 33
      · exact lTabIn F (tgt := 1165) dL_law_33 c33 (by decide) (by decide) rfl (by decide) (lw_case33 hH33 F hsc hsr hi1 hi2 hi3 hi4 hi5 hI0 kk)
      by_cases c34 : z = 34
      · exact lTabIn F (tgt := 1198) dL_law_33 c34 (by decide) (by decide) rfl (by decide) (lw_case34 hH34 F hsc hsr hi1 hi2 hi3 hi4 hi5 hI0 kk)
      by_cases c35 : z = 35
      · exact lTabIn F (tgt := 1221) dL_law_33 c35 (by decide) (by decide) rfl (by decide) (lw_case35 hH35 F hsc hsr hi1 hi2 hi3 hi4 hi5 hI0 kk)
      by_cases c36 : z = 36
      · exact lTabIn F (tgt := 1264) dL_law_33 c36 (by decide) (by decide) rfl (by decide) (lw_case36 hH36 F hsc hsr hi1 hi2 hi3 hi4 hi5 hI0 kk)
      by_cases c37 : z = 37
      · exact lTabIn F (tgt := 1337) dL_law_33 c37 (by decide) (by decide) rfl (by decide) (lw_case37 hH37 F hsc hsr hi1 hi2 hi3 hi4 hi5 hI0 kk)
      by_cases c38 : z = 38
      · exact lTabIn F (tgt := 1371) dL_law_33 c38 (by decide) (by decide) rfl (by decide) (lw_case38 hH38 F hsc hsr hi1 hi2 hi3 hi4 hi5 hI0 kk)
      replace c0 := lv_neT c0 (a := 0) (by decide)
      replace c1 := lv_neT c1 (a := 1) (by decide)
      replace c2 := lv_neT c2 (a := 2) (by decide)
      replace c3 := lv_neT c3 (a := 3) (by decide)
      replace c4 := lv_neT c4 (a := 4) (by decide)
      replace c5 := lv_neT c5 (a := 5) (by decide)
      replace c6 := lv_neT c6 (a := 6) (by decide)
      replace c7 := lv_neT c7 (a := 7) (by decide)
      replace c8 := lv_neT c8 (a := 8) (by decide)
      replace c9 := lv_neT c9 (a := 9) (by decide)
      replace c10 := lv_neT c10 (a := 10) (by decide)
      replace c11 := lv_neT c11 (a := 11) (by decide)
      replace c12 := lv_neT c12 (a := 12) (by decide)
      replace c13 := lv_neT c13 (a := 13) (by decide)
      replace c14 := lv_neT c14 (a := 14) (by decide)
      replace c15 := lv_neT c15 (a := 15) (by decide)
      replace c16 := lv_neT c16 (a := 16) (by decide)
      replace c17 := lv_neT c17 (a := 17) (by decide)
      replace c18 := lv_neT c18 (a := 18) (by decide)
      replace c19 := lv_neT c19 (a := 19) (by decide)
      replace c20 := lv_neT c20 (a := 20) (by decide)
      replace c21 := lv_neT c21 (a := 21) (by decide)
      replace c22 := lv_neT c22 (a := 22) (by decide)
      replace c23 := lv_neT c23 (a := 23) (by decide)
      replace c24 := lv_neT c24 (a := 24) (by decide)
      replace c25 := lv_neT c25 (a := 25) (by decide)
      replace c26 := lv_neT c26 (a := 26) (by decide)
      replace c27 := lv_neT c27 (a := 27) (by decide)
      replace c28 := lv_neT c28 (a := 28) (by decide)
      replace c29 := lv_neT c29 (a := 29) (by decide)
      replace c30 := lv_neT c30 (a := 30) (by decide)
      replace c31 := lv_neT c31 (a := 31) (by decide)
      replace c32 := lv_neT c32 (a := 32) (by decide)
      replace c33 := lv_neT c33 (a := 33) (by decide)
      replace c34 := lv_neT c34 (a := 34) (by decide)
      replace c35 := lv_neT c35 (a := 35) (by decide)
      replace c36 := lv_neT c36 (a := 36) (by decide)
      replace c37 := lv_neT c37 (a := 37) (by decide)
      replace c38 := lv_neT c38 (a := 38) (by decide)
      exact lTabOut F (tgt := 1434) dL_law_33 (by omega) (by decide) (kk m1 m2 hI0)
