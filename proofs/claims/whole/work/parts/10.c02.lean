noncomputable def Jo_sharesAt_l35  (s6 : Int32 × Mm) : Option ((Int32 × Mm) ⊕ Mm) :=
  if ((s6.2).1 11 0) ≤ (s6.1) then
 (some (.inr (s6.2)))
 else ((Jo_spread (s6.2) (s6.1)).bind fun r8 =>
  some (.inl ((s6.1) + 1, r8)))
noncomputable def Jo_sharesAt_l18 (a3 : Int32) (s3 : Int32 × Mm) : Option ((Int32 × Mm) ⊕ Mm) :=
  if a3 ≤ (s3.1) then
 (some (.inr (s3.2)))
 else ((JA_fill (s3.2) 7 10 0).bind fun r5 =>
  (iter (Jo_sharesAt_l35) (0, r5)).bind fun e7 =>
  gq (cpOk 0 0 7 7 7) (some (.inl ((s3.1) + 1, cpl e7 10 9 0 0 7))))
noncomputable def Jo_sharesAt (m : Mm) (a1 : Int32) (a2 : Int32) (a3 : Int32) : Option (Int64 × Mm) :=
  (JA_fill m 7 9 0).bind fun r1 =>
  ga a1 7 ((iter (Jo_sharesAt_l18 a3) (0, sl r1 9 a1.toNatClampNeg 1)).bind fun e4 =>
  ga a2 7 (some (e4.2.1 9 a2.toNatClampNeg, e4)))
set_option maxRecDepth 20000 in
set_option maxHeartbeats 4000000 in
theorem Jo_sharesAt_ok {G : Gw} (hG : gOk G) (hs : gsh G = shC) {a1 : Int32} {a2 : Int32} {a3 : Int32} {m : Mm} {P : Option Value → Mm → Prop} (h : mjO (Jo_sharesAt m a1 a2 a3) (fun r => P (some (.long r.1)) r.2)) : mjR G 2 yX1_sharesAt cX1_sharesAt 6 (some .long) [.ref (gr G 1), .int a1, .int a2, .int a3] m P := by
  refine mjR_of hG (by decide) (Nat.le_of_ble_eq_true rfl) ?_
  intro X F
  have F : mjF G X cX1_sharesAt RX1 6 2 (some .long) := F
  show mjV G X 6 0 [(0, .ref (gr G 1)), (1, .int a1), (2, .int a2), (3, .int a3)] [] m P
  unfold Jo_sharesAt at h
  refine vAloadN F dX1_sharesAt_0 (k := 0) rfl ?_
  refine vGetR F (t := 9) dX1_sharesAt_1 fa_X1_40 (cqC_1 hs) rfl ?_
  refine vLconst F (v := 0) dX1_sharesAt_4 rfl ?_
  refine vCallS F (d' := 0) (As := [.ref (gr G 9), .long 0]) (st := []) dX1_sharesAt_5 lk_X1_145 my_J7_fill_d0a16 sy_J7_fill_d0a16 (by decide) rfl rfl (Nat.le_of_ble_eq_true rfl) (JA_fill_ok hG (cqC_9 hs) (okB h fun r1 h => ?_))
  show mjV G X 6 8 [(0, .ref (gr G 1)), (1, .int a1), (2, .int a2), (3, .int a3)] [] r1 P
  refine vAloadN F dX1_sharesAt_8 (k := 0) rfl ?_
  refine vGetR F (t := 9) dX1_sharesAt_9 fa_X1_40 (cqC_1 hs) rfl ?_
  refine vIloadN F dX1_sharesAt_12 (k := 1) rfl ?_
  refine vLconst F (v := 1) dX1_sharesAt_13 rfl ?_
  obtain ⟨g2, h⟩ := okga h
  refine vLast F dX1_sharesAt_14 (cqC_9 hs) g2 ?_
  refine vIconst F (v := 0) dX1_sharesAt_15 k_0 ?_
  refine vIstore F (L' := [(4, .int 0), (0, .ref (gr G 1)), (1, .int a1), (2, .int a2), (3, .int a3)]) dX1_sharesAt_16 (by decide) rfl ?_
  refine vSub [1, 3, 4, 0] rfl ?_
  refine okLoop (s0 := (0, sl r1 9 a1.toNatClampNeg 1)) (T := (fun (s3 : Int32 × Mm) => mjV G X 6 18 [(0, .ref (gr G 1)), (2, .int a2), (3, .int a3), (4, .int (s3.1))] [] (s3.2) P)) (Ve := (fun (e4 : Mm) => mjV G X 6 80 [(0, .ref (gr G 1)), (2, .int a2)] [] e4 P)) h ?_ (fun s3 h => ?_)
  · intro e4 h
    refine vAloadN F dX1_sharesAt_80 (k := 0) rfl ?_
    refine vGetR F (t := 9) dX1_sharesAt_81 fa_X1_40 (cqC_1 hs) rfl ?_
    refine vIloadN F dX1_sharesAt_84 (k := 1) rfl ?_
    obtain ⟨g13, h⟩ := okga h
    refine vLald F dX1_sharesAt_85 (cqC_9 hs) g13 ?_
    have z := okS h
    exact vLret F dX1_sharesAt_86 z
  · unfold Jo_sharesAt_l18 at h
    refine vIload F dX1_sharesAt_18 (k := 3) rfl ?_
    refine vIloadN F dX1_sharesAt_20 (k := 2) rfl ?_
    refine vIcmpGe F (tgt := 80) dX1_sharesAt_21 (by decide) (fun c12 => ?_) (fun c12 => ?_)
    · replace h := okT h c12
      refine vSub [0, 1] rfl ?_
      have z := okR h
      exact z
    · replace h := okF h c12
      refine vAloadN F dX1_sharesAt_24 (k := 0) rfl ?_
      refine vGetR F (t := 10) dX1_sharesAt_25 fa_X1_44 (cqC_1 hs) rfl ?_
      refine vLconst F (v := 0) dX1_sharesAt_28 rfl ?_
      refine vCallS F (d' := 0) (As := [.ref (gr G 10), .long 0]) (st := []) dX1_sharesAt_29 lk_X1_145 my_J7_fill_d0a16 sy_J7_fill_d0a16 (by decide) rfl rfl (Nat.le_of_ble_eq_true rfl) (JA_fill_ok hG (cqC_10 hs) (okB h fun r5 h => ?_))
      show mjV G X 6 32 [(0, .ref (gr G 1)), (2, .int a2), (3, .int a3), (4, .int (s3.1))] [] r5 P
      refine vIconst F (v := 0) dX1_sharesAt_32 k_0 ?_
      refine vIstore F (L' := [(5, .int 0), (0, .ref (gr G 1)), (2, .int a2), (3, .int a3), (4, .int (s3.1))]) dX1_sharesAt_33 (by decide) rfl ?_
      refine vSub [1, 2, 3, 4, 0] rfl ?_
      refine okLoop (s0 := (0, r5)) (T := (fun (s6 : Int32 × Mm) => mjV G X 6 35 [(0, .ref (gr G 1)), (2, .int a2), (3, .int a3), (4, .int (s3.1)), (5, .int (s6.1))] [] (s6.2) P)) (Ve := (fun (e7 : Mm) => mjV G X 6 59 [(0, .ref (gr G 1)), (2, .int a2), (3, .int a3), (4, .int (s3.1))] [] e7 P)) h ?_ (fun s6 h => ?_)
      · intro e7 h
        refine vAloadN F dX1_sharesAt_59 (k := 0) rfl ?_
        refine vGetR F (t := 10) dX1_sharesAt_60 fa_X1_44 (cqC_1 hs) rfl ?_
        refine vIconst F (v := 0) dX1_sharesAt_63 k_0 ?_
        refine vAloadN F dX1_sharesAt_64 (k := 0) rfl ?_
        refine vGetR F (t := 9) dX1_sharesAt_65 fa_X1_40 (cqC_1 hs) rfl ?_
        refine vIconst F (v := 0) dX1_sharesAt_68 k_0 ?_
        refine vBipush F (v := 7) dX1_sharesAt_69 kb_7 ?_
        obtain ⟨g10, h⟩ := okgq h
        refine vCopyL F dX1_sharesAt_71 kp_X1_155 (cqC_10 hs) (cqC_9 hs) g10 (Nat.le_of_ble_eq_true rfl) ?_
        refine vIinc F (v := 1) (k := 3) (L' := [(4, .int ((s3.1) + 1)), (0, .ref (gr G 1)), (2, .int a2), (3, .int a3)]) dX1_sharesAt_74 rfl k_1 (by decide) rfl ?_
        refine vGoto F (tgt := 18) dX1_sharesAt_77 (by decide) ?_
        refine vSub [1, 2, 3, 0] rfl ?_
        have z := okL h
        exact z
      · unfold Jo_sharesAt_l35 at h
        refine vIload F dX1_sharesAt_35 (k := 4) rfl ?_
        refine vAloadN F dX1_sharesAt_37 (k := 0) rfl ?_
        refine vGetR F (t := 11) dX1_sharesAt_38 fa_X1_12 (cqC_1 hs) rfl ?_
        refine vGetI F dX1_sharesAt_41 fa_X1_51 (is_X5_11 hs).1 rfl ?_
        refine vIcmpGe F (tgt := 59) dX1_sharesAt_44 (by decide) (fun c9 => ?_) (fun c9 => ?_)
        · replace h := okT h c9
          refine vSub [0, 1, 2, 3] rfl ?_
          have z := okR h
          exact z
        · replace h := okF h c9
          refine vAloadN F dX1_sharesAt_47 (k := 0) rfl ?_
          refine vIload F dX1_sharesAt_48 (k := 4) rfl ?_
          refine vCallV F (d' := 1) (x := 1) (T := TX1) (N := 15) (As := [.int (s6.1)]) (st := []) dX1_sharesAt_50 lk_X1_151 my_X1_spread mv_X1_spread (cqC_1 hs) rfl (by decide) rfl rfl (Nat.le_of_ble_eq_true rfl) (Jo_spread_ok hG hs (okB h fun r8 h => ?_))
          show mjV G X 6 53 [(0, .ref (gr G 1)), (2, .int a2), (3, .int a3), (4, .int (s3.1)), (5, .int (s6.1))] [] r8 P
          refine vIinc F (v := 1) (k := 4) (L' := [(5, .int ((s6.1) + 1)), (0, .ref (gr G 1)), (2, .int a2), (3, .int a3), (4, .int (s3.1))]) dX1_sharesAt_53 rfl k_1 (by decide) rfl ?_
          refine vGoto F (tgt := 35) dX1_sharesAt_56 (by decide) ?_
          refine vSub [1, 2, 3, 4, 0] rfl ?_
          have z := okL h
          exact z
def La_clear (x : Nat) (m : Mm) : Mm :=
  si (si (si m x 1 0) x 5 0) x 6 4
set_option maxRecDepth 20000 in
set_option maxHeartbeats 4000000 in
theorem La_clear_ok {G : Gw} (hG : gOk G) (hs : gsh G = shC) {x : Nat} (hx : is_X2 (gsh G) x) {m : Mm} {P : Option Value → Mm → Prop} (h : P none (La_clear x m)) : mjR G 0 yX2_clear cX2_clear 1 none [.ref (gr G x)] m P := by
  refine mjR_of hG (by decide) (Nat.le_of_ble_eq_true rfl) ?_
  intro X F
  have F : mjF G X cX2_clear RX2 1 0 none := F
  show mjV G X 1 0 [(0, .ref (gr G x))] [] m P
  have h : mjO (some (La_clear x m)) (fun r => P none r) := ⟨_, rfl, h⟩
  unfold La_clear at h
  refine vAloadN F dX2_clear_0 (k := 0) rfl ?_
  refine vIconst F (v := 0) dX2_clear_1 k_0 ?_
  refine vPutI F dX2_clear_2 fw_X2_28 hx.1 rfl ⟨rfl, rfl⟩ ?_
  refine vAloadN F dX2_clear_5 (k := 0) rfl ?_
  refine vIconst F (v := 0) dX2_clear_6 k_0 ?_
  refine vPutI F dX2_clear_7 fw_X2_31 hx.1 rfl ⟨rfl, rfl⟩ ?_
  refine vAloadN F dX2_clear_10 (k := 0) rfl ?_
  refine vIconst F (v := 4) dX2_clear_11 k_4 ?_
  refine vPutI F dX2_clear_12 fw_X2_24 hx.1 rfl ⟨rfl, rfl⟩ ?_
  have z := okS h
  exact vVret F dX2_clear_15 z
def La_addCode (x : Nat) (m : Mm) (a1 : Int32) : Option (Mm) :=
  if 100 ≤ (m.1 x 1) then
 (some m)
 else (ga (m.1 x 1) 100 (some (si (si m (x + 1) (m.1 x 1).toNatClampNeg a1) x 1 (((si m (x + 1) (m.1 x 1).toNatClampNeg a1).1 x 1) + 1))))
set_option maxRecDepth 20000 in
set_option maxHeartbeats 4000000 in
theorem La_addCode_ok {G : Gw} (hG : gOk G) (hs : gsh G = shC) {x : Nat} (hx : is_X2 (gsh G) x) {a1 : Int32} {m : Mm} {P : Option Value → Mm → Prop} (h : mjO (La_addCode x m a1) (fun r => P none r)) : mjR G 0 yX2_addCode cX2_addCode 2 none [.ref (gr G x), .int a1] m P := by
  refine mjR_of hG (by decide) (Nat.le_of_ble_eq_true rfl) ?_
  intro X F
  have F : mjF G X cX2_addCode RX2 2 0 none := F
  show mjV G X 2 0 [(0, .ref (gr G x)), (1, .int a1)] [] m P
  unfold La_addCode at h
  refine vAloadN F dX2_addCode_0 (k := 0) rfl ?_
  refine vGetI F dX2_addCode_1 fa_X2_28 hx.1 rfl ?_
  refine vBipush F (v := 100) dX2_addCode_4 kb_100 ?_
  refine vIcmpGe F (tgt := 29) dX2_addCode_6 (by decide) (fun c2 => ?_) (fun c2 => ?_)
  · replace h := okT h c2
    have z := okS h
    exact vVret F dX2_addCode_29 z
  · replace h := okF h c2
    refine vAloadN F dX2_addCode_9 (k := 0) rfl ?_
    refine vGetR F (t := x + 1) dX2_addCode_10 fa_X2_9 hx.1 rfl ?_
    refine vAloadN F dX2_addCode_13 (k := 0) rfl ?_
    refine vGetI F dX2_addCode_14 fa_X2_28 hx.1 rfl ?_
    refine vIloadN F dX2_addCode_17 (k := 1) rfl ?_
    obtain ⟨g1, h⟩ := okga h
    refine vIast F dX2_addCode_18 hx.2.1 g1 ?_
    refine vAloadN F dX2_addCode_19 (k := 0) rfl ?_
    refine vDup F dX2_addCode_20 rfl ?_
    refine vGetI F dX2_addCode_21 fa_X2_28 hx.1 rfl ?_
    refine vIconst F (v := 1) dX2_addCode_24 k_1 ?_
    refine vIadd F dX2_addCode_25 ?_
    refine vPutI F dX2_addCode_26 fw_X2_28 hx.1 rfl ⟨rfl, rfl⟩ ?_
    have z := okS h
    exact vVret F dX2_addCode_29 z
def La_addTest (x : Nat) (m : Mm) (a1 : Int32) (a2 : Int32) (a3 : Int32) : Option (Mm) :=
  (La_addCode x m (((a1 * 300) + (a2 * 100)) + a3)).bind fun r1 =>
  some r1
set_option maxRecDepth 20000 in
set_option maxHeartbeats 4000000 in
theorem La_addTest_ok {G : Gw} (hG : gOk G) (hs : gsh G = shC) {x : Nat} (hx : is_X2 (gsh G) x) {a1 : Int32} {a2 : Int32} {a3 : Int32} {m : Mm} {P : Option Value → Mm → Prop} (h : mjO (La_addTest x m a1 a2 a3) (fun r => P none r)) : mjR G 1 yX2_addTest cX2_addTest 4 none [.ref (gr G x), .int a1, .int a2, .int a3] m P := by
  refine mjR_of hG (by decide) (Nat.le_of_ble_eq_true rfl) ?_
  intro X F
  have F : mjF G X cX2_addTest RX2 4 1 none := F
  show mjV G X 4 0 [(0, .ref (gr G x)), (1, .int a1), (2, .int a2), (3, .int a3)] [] m P
  unfold La_addTest at h
  refine vAloadN F dX2_addTest_0 (k := 0) rfl ?_
  refine vIloadN F dX2_addTest_1 (k := 1) rfl ?_
  refine vSipush F (v := 300) dX2_addTest_2 ks_300 ?_
  refine vImul F dX2_addTest_5 ?_
  refine vIloadN F dX2_addTest_6 (k := 2) rfl ?_
  refine vBipush F (v := 100) dX2_addTest_7 kb_100 ?_
  refine vImul F dX2_addTest_9 ?_
  refine vIadd F dX2_addTest_10 ?_
  refine vIloadN F dX2_addTest_11 (k := 3) rfl ?_
  refine vIadd F dX2_addTest_12 ?_
  refine vCallV F (d' := 0) (x := x) (T := TX2) (N := 7) (As := [.int (((a1 * 300) + (a2 * 100)) + a3)]) (st := []) dX2_addTest_13 lk_X2_34 my_X2_addCode mv_X2_addCode hx.1 rfl (by decide) rfl rfl (Nat.le_of_ble_eq_true rfl) (La_addCode_ok hG hs hx (okB h fun r1 h => ?_))
  show mjV G X 4 16 [(0, .ref (gr G x)), (1, .int a1), (2, .int a2), (3, .int a3)] [] r1 P
  have z := okS h
  exact vVret F dX2_addTest_16 z
def La_addClause (x : Nat) (m : Mm) (a1 : Int32) (a2 : Int32) : Option (Mm) :=
  jn (fun (e1 : Mm) => if 10 ≤ (e1.1 x 5) then
 (some e1)
 else (ga (e1.1 x 5) 10 (ga ((si e1 (x + 2) (e1.1 x 5).toNatClampNeg a1).1 x 5) 10 (ga ((si (si e1 (x + 2) (e1.1 x 5).toNatClampNeg a1) (x + 3) ((si e1 (x + 2) (e1.1 x 5).toNatClampNeg a1).1 x 5).toNatClampNeg a2).1 x 5) 10 (some (si (si (si (si e1 (x + 2) (e1.1 x 5).toNatClampNeg a1) (x + 3) ((si e1 (x + 2) (e1.1 x 5).toNatClampNeg a1).1 x 5).toNatClampNeg a2) (x + 4) ((si (si e1 (x + 2) (e1.1 x 5).toNatClampNeg a1) (x + 3) ((si e1 (x + 2) (e1.1 x 5).toNatClampNeg a1).1 x 5).toNatClampNeg a2).1 x 5).toNatClampNeg ((si (si e1 (x + 2) (e1.1 x 5).toNatClampNeg a1) (x + 3) ((si e1 (x + 2) (e1.1 x 5).toNatClampNeg a1).1 x 5).toNatClampNeg a2).1 x 1)) x 5 (((si (si (si e1 (x + 2) (e1.1 x 5).toNatClampNeg a1) (x + 3) ((si e1 (x + 2) (e1.1 x 5).toNatClampNeg a1).1 x 5).toNatClampNeg a2) (x + 4) ((si (si e1 (x + 2) (e1.1 x 5).toNatClampNeg a1) (x + 3) ((si e1 (x + 2) (e1.1 x 5).toNatClampNeg a1).1 x 5).toNatClampNeg a2).1 x 5).toNatClampNeg ((si (si e1 (x + 2) (e1.1 x 5).toNatClampNeg a1) (x + 3) ((si e1 (x + 2) (e1.1 x 5).toNatClampNeg a1).1 x 5).toNatClampNeg a2).1 x 1)).1 x 5) + 1))))))) fun j2 =>
  if a1 = 2 then
 (j2 (si m x 6 a2))
 else (j2 (m))
set_option maxRecDepth 20000 in
set_option maxHeartbeats 4000000 in
theorem La_addClause_ok {G : Gw} (hG : gOk G) (hs : gsh G = shC) {x : Nat} (hx : is_X2 (gsh G) x) {a1 : Int32} {a2 : Int32} {m : Mm} {P : Option Value → Mm → Prop} (h : mjO (La_addClause x m a1 a2) (fun r => P none r)) : mjR G 0 yX2_addClause cX2_addClause 3 none [.ref (gr G x), .int a1, .int a2] m P := by
  refine mjR_of hG (by decide) (Nat.le_of_ble_eq_true rfl) ?_
  intro X F
  have F : mjF G X cX2_addClause RX2 3 0 none := F
  show mjV G X 3 0 [(0, .ref (gr G x)), (1, .int a1), (2, .int a2)] [] m P
  unfold La_addClause at h
  refine vIloadN F dX2_addClause_0 (k := 1) rfl ?_
  refine vIconst F (v := 2) dX2_addClause_1 k_2 ?_
  refine okJ (Vj := fun (e1 : Mm) => mjV G X 3 10 [(0, .ref (gr G x)), (1, .int a1), (2, .int a2)] [] e1 P) h (fun e1 h => ?_) (fun j2 Jj2 h => ?_)
  · refine vAloadN F dX2_addClause_10 (k := 0) rfl ?_
    refine vGetI F dX2_addClause_11 fa_X2_31 hx.1 rfl ?_
    refine vBipush F (v := 10) dX2_addClause_14 kb_10 ?_
    refine vIcmpGe F (tgt := 62) dX2_addClause_16 (by decide) (fun c6 => ?_) (fun c6 => ?_)
    · replace h := okT h c6
      have z := okS h
      exact vVret F dX2_addClause_62 z
    · replace h := okF h c6
      refine vAloadN F dX2_addClause_19 (k := 0) rfl ?_
      refine vGetR F (t := x + 2) dX2_addClause_20 fa_X2_15 hx.1 rfl ?_
      refine vAloadN F dX2_addClause_23 (k := 0) rfl ?_
      refine vGetI F dX2_addClause_24 fa_X2_31 hx.1 rfl ?_
      refine vIloadN F dX2_addClause_27 (k := 1) rfl ?_
      obtain ⟨g3, h⟩ := okga h
      refine vIast F dX2_addClause_28 hx.2.2.1 g3 ?_
      refine vAloadN F dX2_addClause_29 (k := 0) rfl ?_
      refine vGetR F (t := x + 3) dX2_addClause_30 fa_X2_18 hx.1 rfl ?_
      refine vAloadN F dX2_addClause_33 (k := 0) rfl ?_
      refine vGetI F dX2_addClause_34 fa_X2_31 hx.1 rfl ?_
      refine vIloadN F dX2_addClause_37 (k := 2) rfl ?_
      obtain ⟨g4, h⟩ := okga h
      refine vIast F dX2_addClause_38 hx.2.2.2.1 g4 ?_
      refine vAloadN F dX2_addClause_39 (k := 0) rfl ?_
      refine vGetR F (t := x + 4) dX2_addClause_40 fa_X2_21 hx.1 rfl ?_
      refine vAloadN F dX2_addClause_43 (k := 0) rfl ?_
      refine vGetI F dX2_addClause_44 fa_X2_31 hx.1 rfl ?_
      refine vAloadN F dX2_addClause_47 (k := 0) rfl ?_
      refine vGetI F dX2_addClause_48 fa_X2_28 hx.1 rfl ?_
      obtain ⟨g5, h⟩ := okga h
      refine vIast F dX2_addClause_51 hx.2.2.2.2 g5 ?_
      refine vAloadN F dX2_addClause_52 (k := 0) rfl ?_
      refine vDup F dX2_addClause_53 rfl ?_
      refine vGetI F dX2_addClause_54 fa_X2_31 hx.1 rfl ?_
      refine vIconst F (v := 1) dX2_addClause_57 k_1 ?_
      refine vIadd F dX2_addClause_58 ?_
      refine vPutI F dX2_addClause_59 fw_X2_31 hx.1 rfl ⟨rfl, rfl⟩ ?_
      have z := okS h
      exact vVret F dX2_addClause_62 z
  · refine vIcmpNe F (tgt := 10) dX2_addClause_2 (by decide) (fun c7 => ?_) (fun c7 => ?_)
    · replace h := okF h c7
      exact Jj2 (m) h
    · replace h := okT h c7
      refine vAloadN F dX2_addClause_5 (k := 0) rfl ?_
      refine vIloadN F dX2_addClause_6 (k := 2) rfl ?_
      refine vPutI F dX2_addClause_7 fw_X2_24 hx.1 rfl ⟨rfl, rfl⟩ ?_
      exact Jj2 (si m x 6 a2) h
def Re_addSign (m : Mm) (a1 : Int32) : Option (Int32 × Mm) :=
  if 100 ≤ (m.1 67 1) then
 (some (m.1 67 1, m))
 else (ga (m.1 67 1) 100 (some ((si (si m 68 (m.1 67 1).toNatClampNeg (vp_nar .char a1)) 67 1 (((si m 68 (m.1 67 1).toNatClampNeg (vp_nar .char a1)).1 67 1) + 1)).1 67 1, si (si m 68 (m.1 67 1).toNatClampNeg (vp_nar .char a1)) 67 1 (((si m 68 (m.1 67 1).toNatClampNeg (vp_nar .char a1)).1 67 1) + 1))))
set_option maxRecDepth 20000 in
set_option maxHeartbeats 4000000 in
theorem Re_addSign_ok {G : Gw} (hG : gOk G) (hs : gsh G = shC) {a1 : Int32} {m : Mm} {P : Option Value → Mm → Prop} (h : mjO (Re_addSign m a1) (fun r => P (some (.int r.1)) r.2)) : mjR G 0 yX3_addSign cX3_addSign 2 (some .int) [.ref (gr G 67), .int a1] m P := by
  refine mjR_of hG (by decide) (Nat.le_of_ble_eq_true rfl) ?_
  intro X F
  have F : mjF G X cX3_addSign RX3 2 0 (some .int) := F
  show mjV G X 2 0 [(0, .ref (gr G 67)), (1, .int a1)] [] m P
  unfold Re_addSign at h
  refine vAloadN F dX3_addSign_0 (k := 0) rfl ?_
  refine vGetI F dX3_addSign_1 fa_X3_22 (cqC_67 hs) rfl ?_
  refine vBipush F (v := 100) dX3_addSign_4 kb_100 ?_
  refine vIcmpGe F (tgt := 29) dX3_addSign_6 (by decide) (fun c2 => ?_) (fun c2 => ?_)
  · replace h := okT h c2
    refine vAloadN F dX3_addSign_29 (k := 0) rfl ?_
    refine vGetI F dX3_addSign_30 fa_X3_22 (cqC_67 hs) rfl ?_
    have z := okS h
    exact vIret F dX3_addSign_33 z
  · replace h := okF h c2
    refine vAloadN F dX3_addSign_9 (k := 0) rfl ?_
    refine vGetR F (t := 68) dX3_addSign_10 fa_X3_9 (cqC_67 hs) rfl ?_
    refine vAloadN F dX3_addSign_13 (k := 0) rfl ?_
    refine vGetI F dX3_addSign_14 fa_X3_22 (cqC_67 hs) rfl ?_
    refine vIloadN F dX3_addSign_17 (k := 1) rfl ?_
    obtain ⟨g1, h⟩ := okga h
    refine vCast F dX3_addSign_18 (cqC_68 hs) g1 ?_
    refine vAloadN F dX3_addSign_19 (k := 0) rfl ?_
    refine vDup F dX3_addSign_20 rfl ?_
    refine vGetI F dX3_addSign_21 fa_X3_22 (cqC_67 hs) rfl ?_
    refine vIconst F (v := 1) dX3_addSign_24 k_1 ?_
    refine vIadd F dX3_addSign_25 ?_
    refine vPutI F dX3_addSign_26 fw_X3_22 (cqC_67 hs) rfl ⟨rfl, rfl⟩ ?_
    refine vAloadN F dX3_addSign_29 (k := 0) rfl ?_
    refine vGetI F dX3_addSign_30 fa_X3_22 (cqC_67 hs) rfl ?_
    have z := okS h
    exact vIret F dX3_addSign_33 z
def Re_empty (m : Mm) : Mm :=
  si m 67 1 0
set_option maxRecDepth 20000 in
set_option maxHeartbeats 4000000 in
theorem Re_empty_ok {G : Gw} (hG : gOk G) (hs : gsh G = shC) {m : Mm} {P : Option Value → Mm → Prop} (h : P none (Re_empty m)) : mjR G 0 yX3_empty cX3_empty 1 none [.ref (gr G 67)] m P := by
  refine mjR_of hG (by decide) (Nat.le_of_ble_eq_true rfl) ?_
  intro X F
  have F : mjF G X cX3_empty RX3 1 0 none := F
  show mjV G X 1 0 [(0, .ref (gr G 67))] [] m P
  have h : mjO (some (Re_empty m)) (fun r => P none r) := ⟨_, rfl, h⟩
  unfold Re_empty at h
  refine vAloadN F dX3_empty_0 (k := 0) rfl ?_
  refine vIconst F (v := 0) dX3_empty_1 k_0 ?_
  refine vPutI F dX3_empty_2 fw_X3_22 (cqC_67 hs) rfl ⟨rfl, rfl⟩ ?_
  have z := okS h
  exact vVret F dX3_empty_5 z
def Re_ahead (m : Mm) : Option (Int32) :=
  if (m.1 67 1) ≤ (m.1 67 2) then
 (some 255)
 else (ga (m.1 67 2) 100 (gq (decide (((m.1 68 (m.1 67 2).toNatClampNeg).toUInt32 % 65536).toInt32 = (m.1 68 (m.1 67 2).toNatClampNeg))) (some (m.1 68 (m.1 67 2).toNatClampNeg))))
set_option maxRecDepth 20000 in
set_option maxHeartbeats 4000000 in
theorem Re_ahead_ok {G : Gw} (hG : gOk G) (hs : gsh G = shC) {m : Mm} {P : Option Value → Mm → Prop} (h : mjO (Re_ahead m) (fun r => P (some (.int r)) m)) : mjR G 0 yX3_ahead cX3_ahead 1 (some .char) [.ref (gr G 67)] m P := by
  refine mjR_of hG (by decide) (Nat.le_of_ble_eq_true rfl) ?_
  intro X F
  have F : mjF G X cX3_ahead RX3 1 0 (some .char) := F
  show mjV G X 1 0 [(0, .ref (gr G 67))] [] m P
  unfold Re_ahead at h
  refine vAloadN F dX3_ahead_0 (k := 0) rfl ?_
  refine vGetI F dX3_ahead_1 fa_X3_26 (cqC_67 hs) rfl ?_
  refine vAloadN F dX3_ahead_4 (k := 0) rfl ?_
  refine vGetI F dX3_ahead_5 fa_X3_22 (cqC_67 hs) rfl ?_
  refine vIcmpGe F (tgt := 23) dX3_ahead_8 (by decide) (fun c3 => ?_) (fun c3 => ?_)
  · replace h := okT h c3
    refine vSipush F (v := 255) dX3_ahead_23 ks_255 ?_
    have z := okS h
    exact vZret F dX3_ahead_26 rfl z
  · replace h := okF h c3
    refine vAloadN F dX3_ahead_11 (k := 0) rfl ?_
    refine vGetR F (t := 68) dX3_ahead_12 fa_X3_9 (cqC_67 hs) rfl ?_
    refine vAloadN F dX3_ahead_15 (k := 0) rfl ?_
    refine vGetI F dX3_ahead_16 fa_X3_26 (cqC_67 hs) rfl ?_
    obtain ⟨g1, h⟩ := okga h
    refine vCald F dX3_ahead_19 (cqC_68 hs) g1 ?_
    refine vGoto F (tgt := 26) dX3_ahead_20 (by decide) ?_
    obtain ⟨g2, h⟩ := okgq h
    have z := okS h
    exact vZret F dX3_ahead_26 (nchr (of_decide_eq_true g2)) z
def Re_takes (m : Mm) (a1 : Int32) : Option (Bool × Mm) :=
  (Re_ahead m).bind fun r1 =>
  if r1 = a1 then
 (some (true, si m 67 2 ((m.1 67 2) + 1)))
 else (some (false, m))
set_option maxRecDepth 20000 in
set_option maxHeartbeats 4000000 in
theorem Re_takes_ok {G : Gw} (hG : gOk G) (hs : gsh G = shC) {a1 : Int32} {m : Mm} {P : Option Value → Mm → Prop} (h : mjO (Re_takes m a1) (fun r => P (some (.int (bI r.1))) r.2)) : mjR G 1 yX3_takes cX3_takes 2 (some .boolean) [.ref (gr G 67), .int a1] m P := by
  refine mjR_of hG (by decide) (Nat.le_of_ble_eq_true rfl) ?_
  intro X F
  have F : mjF G X cX3_takes RX3 2 1 (some .boolean) := F
  show mjV G X 2 0 [(0, .ref (gr G 67)), (1, .int a1)] [] m P
  unfold Re_takes at h
  refine vAloadN F dX3_takes_0 (k := 0) rfl ?_
  refine vCallV F (d' := 0) (x := 67) (T := TX3) (N := 4) (As := []) (st := []) dX3_takes_1 lk_X3_40 my_X3_ahead mv_X3_ahead (cqC_67 hs) rfl (by decide) rfl rfl (Nat.le_of_ble_eq_true rfl) (Re_ahead_ok hG hs (okB h fun r1 h => ?_))
  show mjV G X 2 4 [(0, .ref (gr G 67)), (1, .int a1)] [.int r1] m P
  refine vIloadN F dX3_takes_4 (k := 1) rfl ?_
  refine vIcmpEq F (tgt := 10) dX3_takes_5 (by decide) (fun c2 => ?_) (fun c2 => ?_)
  · replace h := okT h c2
    refine vAloadN F dX3_takes_10 (k := 0) rfl ?_
    refine vDup F dX3_takes_11 rfl ?_
    refine vGetI F dX3_takes_12 fa_X3_26 (cqC_67 hs) rfl ?_
    refine vIconst F (v := 1) dX3_takes_15 k_1 ?_
    refine vIadd F dX3_takes_16 ?_
    refine vPutI F dX3_takes_17 fw_X3_26 (cqC_67 hs) rfl ⟨rfl, rfl⟩ ?_
    refine vIconst F (v := 1) dX3_takes_20 k_1 ?_
    have z := okS h
    exact vZret (x := bI true) F dX3_takes_21 (nzI _) z
  · replace h := okF h c2
    refine vIconst F (v := 0) dX3_takes_8 k_0 ?_
    have z := okS h
    exact vZret (x := bI false) F dX3_takes_9 (nzI _) z
def Re_takesWord_l2 (a1 : List Int32) (s1 : Int32 × Mm) : Option ((Int32 × Mm) ⊕ (Mm ⊕ (Bool × Mm))) :=
  if (strLen a1) ≤ (s1.1) then
 (some (.inr (.inl (s1.2))))
 else (ga (s1.1) a1.length ((Re_takes (s1.2) (strAt a1 (s1.1))).bind fun r4 =>
  if (r4.1) = true then
 (some (.inl ((s1.1) + 1, r4.2)))
 else (some (.inr (.inr (false, r4.2))))))
noncomputable def Re_takesWord (m : Mm) (a1 : List Int32) : Option (Bool × Mm) :=
  (iter (Re_takesWord_l2 a1) (0, m)).bind (Sum.elim (fun e2 => some (true, e2)) (fun v7 => some v7))
set_option maxRecDepth 20000 in
set_option maxHeartbeats 4000000 in
theorem Re_takesWord_ok {G : Gw} (hG : gOk G) (hs : gsh G = shC) {adr_a1 : Nat} {a1 : List Int32} (ha1 : mjStr G adr_a1 a1) {m : Mm} {P : Option Value → Mm → Prop} (h : mjO (Re_takesWord m a1) (fun r => P (some (.int (bI r.1))) r.2)) : mjR G 2 yX3_takesWord cX3_takesWord 3 (some .boolean) [.ref (gr G 67), .ref adr_a1] m P := by
  sorry
def Re_takeNumber_l4  (s1 : Int32 × Int32 × Mm) : Option ((Int32 × Int32 × Mm) ⊕ (Int32 × Mm)) :=
  if 2 ≤ (s1.2.1) then
 (some (.inr (s1.1, s1.2.2)))
 else ((Re_ahead (s1.2.2)).bind fun r3 =>
  if r3 < 48 then
 (some (.inr (s1.1, s1.2.2)))
 else ((Re_ahead (s1.2.2)).bind fun r4 =>
  if 57 < r4 then
 (some (.inr (s1.1, s1.2.2)))
 else ((Re_ahead (s1.2.2)).bind fun r5 =>
  some (.inl ((((imax (s1.1) 0) * 10) + r5) - 48, (s1.2.1) + 1, si (s1.2.2) 67 2 (((s1.2.2).1 67 2) + 1))))))
noncomputable def Re_takeNumber (m : Mm) : Option (Int32 × Mm) :=
  (iter (Re_takeNumber_l4) ((-1), 0, m)).bind fun e2 =>
  some (e2.1, e2.2)
set_option maxRecDepth 20000 in
set_option maxHeartbeats 4000000 in
theorem Re_takeNumber_ok {G : Gw} (hG : gOk G) (hs : gsh G = shC) {m : Mm} {P : Option Value → Mm → Prop} (h : mjO (Re_takeNumber m) (fun r => P (some (.int r.1)) r.2)) : mjR G 1 yX3_takeNumber cX3_takeNumber 3 (some .int) [.ref (gr G 67)] m P := by
  refine mjR_of hG (by decide) (Nat.le_of_ble_eq_true rfl) ?_
  intro X F
  have F : mjF G X cX3_takeNumber RX3 3 1 (some .int) := F
  show mjV G X 3 0 [(0, .ref (gr G 67))] [] m P
  unfold Re_takeNumber at h
  refine vIconst F (v := (-1)) dX3_takeNumber_0 k_m1 ?_
  refine vIstoreN F (L' := [(1, .int (-1)), (0, .ref (gr G 67))]) dX3_takeNumber_1 rfl (by decide) rfl ?_
  refine vIconst F (v := 0) dX3_takeNumber_2 k_0 ?_
  refine vIstoreN F (L' := [(2, .int 0), (1, .int (-1)), (0, .ref (gr G 67))]) dX3_takeNumber_3 rfl (by decide) rfl ?_
  refine vSub [2, 1, 0] rfl ?_
  refine okLoop (s0 := ((-1), 0, m)) (T := (fun (s1 : Int32 × Int32 × Mm) => mjV G X 3 4 [(0, .ref (gr G 67)), (1, .int (s1.1)), (2, .int (s1.2.1))] [] (s1.2.2) P)) (Ve := (fun (e2 : Int32 × Mm) => mjV G X 3 60 [(1, .int (e2.1))] [] (e2.2) P)) h ?_ (fun s1 h => ?_)
  · intro e2 h
    refine vIloadN F dX3_takeNumber_60 (k := 0) rfl ?_
    have z := okS h
    exact vIret F dX3_takeNumber_61 z
  · unfold Re_takeNumber_l4 at h
    refine vIloadN F dX3_takeNumber_4 (k := 2) rfl ?_
    refine vIconst F (v := 2) dX3_takeNumber_5 k_2 ?_
    refine vIcmpGe F (tgt := 60) dX3_takeNumber_6 (by decide) (fun c8 => ?_) (fun c8 => ?_)
    · replace h := okT h c8
      refine vSub [1] rfl ?_
      have z := okR h
      exact z
    · replace h := okF h c8
      refine vAloadN F dX3_takeNumber_9 (k := 0) rfl ?_
      refine vCallV F (d' := 0) (x := 67) (T := TX3) (N := 4) (As := []) (st := []) dX3_takeNumber_10 lk_X3_40 my_X3_ahead mv_X3_ahead (cqC_67 hs) rfl (by decide) rfl rfl (Nat.le_of_ble_eq_true rfl) (Re_ahead_ok hG hs (okB h fun r3 h => ?_))
      show mjV G X 3 13 [(0, .ref (gr G 67)), (1, .int (s1.1)), (2, .int (s1.2.1))] [.int r3] (s1.2.2) P
      refine vBipush F (v := 48) dX3_takeNumber_13 kb_48 ?_
      refine vIcmpLt F (tgt := 60) dX3_takeNumber_15 (by decide) (fun c7 => ?_) (fun c7 => ?_)
      · replace h := okT h c7
        refine vSub [1] rfl ?_
        have z := okR h
        exact z
      · replace h := okF h c7
        refine vAloadN F dX3_takeNumber_18 (k := 0) rfl ?_
        refine vCallV F (d' := 0) (x := 67) (T := TX3) (N := 4) (As := []) (st := []) dX3_takeNumber_19 lk_X3_40 my_X3_ahead mv_X3_ahead (cqC_67 hs) rfl (by decide) rfl rfl (Nat.le_of_ble_eq_true rfl) (Re_ahead_ok hG hs (okB h fun r4 h => ?_))
        show mjV G X 3 22 [(0, .ref (gr G 67)), (1, .int (s1.1)), (2, .int (s1.2.1))] [.int r4] (s1.2.2) P
        refine vBipush F (v := 57) dX3_takeNumber_22 kb_57 ?_
        refine vIcmpGt F (tgt := 60) dX3_takeNumber_24 (by decide) (fun c6 => ?_) (fun c6 => ?_)
        · replace h := okT h c6
          refine vSub [1] rfl ?_
          have z := okR h
          exact z
        · replace h := okF h c6
          refine vIloadN F dX3_takeNumber_27 (k := 1) rfl ?_
          refine vIconst F (v := 0) dX3_takeNumber_28 k_0 ?_
          refine vMax F dX3_takeNumber_29 km_X3_80 (Nat.le_of_ble_eq_true rfl) ?_
          refine vBipush F (v := 10) dX3_takeNumber_32 kb_10 ?_
          refine vImul F dX3_takeNumber_34 ?_
          refine vAloadN F dX3_takeNumber_35 (k := 0) rfl ?_
          refine vCallV F (d' := 0) (x := 67) (T := TX3) (N := 4) (As := []) (st := [.int ((imax (s1.1) 0) * 10)]) dX3_takeNumber_36 lk_X3_40 my_X3_ahead mv_X3_ahead (cqC_67 hs) rfl (by decide) rfl rfl (Nat.le_of_ble_eq_true rfl) (Re_ahead_ok hG hs (okB h fun r5 h => ?_))
          show mjV G X 3 39 [(0, .ref (gr G 67)), (1, .int (s1.1)), (2, .int (s1.2.1))] [.int r5, .int ((imax (s1.1) 0) * 10)] (s1.2.2) P
          refine vIadd F dX3_takeNumber_39 ?_
          refine vBipush F (v := 48) dX3_takeNumber_40 kb_48 ?_
          refine vIsub F dX3_takeNumber_42 ?_
          refine vIstoreN F (L' := [(1, .int ((((imax (s1.1) 0) * 10) + r5) - 48)), (0, .ref (gr G 67)), (2, .int (s1.2.1))]) dX3_takeNumber_43 rfl (by decide) rfl ?_
          refine vAloadN F dX3_takeNumber_44 (k := 1) rfl ?_
          refine vDup F dX3_takeNumber_45 rfl ?_
          refine vGetI F dX3_takeNumber_46 fa_X3_26 (cqC_67 hs) rfl ?_
          refine vIconst F (v := 1) dX3_takeNumber_49 k_1 ?_
          refine vIadd F dX3_takeNumber_50 ?_
          refine vPutI F dX3_takeNumber_51 fw_X3_26 (cqC_67 hs) rfl ⟨rfl, rfl⟩ ?_
          refine vIinc F (v := 1) (k := 2) (L' := [(2, .int ((s1.2.1) + 1)), (1, .int ((((imax (s1.1) 0) * 10) + r5) - 48)), (0, .ref (gr G 67))]) dX3_takeNumber_54 rfl k_1 (by decide) rfl ?_
          refine vGoto F (tgt := 4) dX3_takeNumber_57 (by decide) ?_
          refine vSub [2, 1, 0] rfl ?_
          have z := okL h
          exact z
noncomputable def Re_readsTest (m : Mm) : Option (Bool × Mm) :=
  (Re_ahead m).bind fun r2 =>
  if 0 ≤ (strIdx str_96 r2) then
 ((Re_ahead (si m 67 2 ((m.1 67 2) + 1))).bind fun r4 =>
  if 0 ≤ (strIdx str_98 r4) then
 ((Re_takeNumber (si (si m 67 2 ((m.1 67 2) + 1)) 67 2 (((si m 67 2 ((m.1 67 2) + 1)).1 67 2) + 1))).bind fun r5 =>
  if 0 ≤ (r5.1) then
 (gq (isL ((r5.2).2.2 67 3)) ((La_addTest ((r5.2).2.2 67 3) (r5.2) (strIdx str_96 r2) (strIdx str_98 r4) (r5.1)).bind fun r7 =>
  some (true, r7)))
 else (some (false, r5.2)))
 else (some (false, si m 67 2 ((m.1 67 2) + 1))))
 else (some (false, m))
set_option maxRecDepth 20000 in
set_option maxHeartbeats 4000000 in
theorem Re_readsTest_ok {G : Gw} (hG : gOk G) (hs : gsh G = shC) {m : Mm} {P : Option Value → Mm → Prop} (h : mjO (Re_readsTest m) (fun r => P (some (.int (bI r.1))) r.2)) : mjR G 2 yX3_readsTest cX3_readsTest 4 (some .boolean) [.ref (gr G 67)] m P := by
  sorry
noncomputable def Re_readsPart_b (rc_readsEither : Mm → Int32 → Option (Bool × Mm)) (rc_readsPart : Mm → Int32 → Option (Bool × Mm)) (m : Mm) (a1 : Int32) : Option (Bool × Mm) :=
  (Re_ahead m).bind fun r1 =>
  jn (fun (e2 : Unit) => if a1 < 4 then
 (if r1 = 40 then
 ((rc_readsEither (si m 67 2 ((m.1 67 2) + 1)) (a1 + 1)).bind fun r8 =>
  if (r8.1) = true then
 ((Re_takes (r8.2) 41).bind fun r9 =>
  if (r9.1) = true then
 (some (true, r9.2))
 else (some (false, r9.2)))
 else (some (false, r8.2)))
 else ((rc_readsPart (si m 67 2 ((m.1 67 2) + 1)) (a1 + 1)).bind fun r4 =>
  if (r4.1) = true then
 (gq (isL ((r4.2).2.2 67 3)) ((La_addCode ((r4.2).2.2 67 3) (r4.2) (-1)).bind fun r6 =>
  some (true, r6)))
 else (some (false, r4.2))))
 else (some (false, m))) fun j3 =>
  if r1 = 33 then
 (j3 ())
 else (if r1 = 40 then
 (j3 ())
 else ((Re_readsTest m).bind fun r14 =>
  some (r14.1, r14.2)))
set_option maxRecDepth 20000 in
set_option maxHeartbeats 4000000 in
theorem Re_readsPart_b_ok {G : Gw} (hG : gOk G) (hs : gsh G = shC) {D d : Nat} (hD : D + 1 ≤ d) (hB : 3 ≤ d) {rc_readsEither : Mm → Int32 → Option (Bool × Mm)} {rc_readsPart : Mm → Int32 → Option (Bool × Mm)} (hrc_readsEither : ∀ {a1 : Int32} {m : Mm} {P : Option Value → Mm → Prop} (h : mjO (rc_readsEither m a1) (fun r => P (some (.int (bI r.1))) r.2)), mjR G D yX3_readsEither cX3_readsEither 5 (some .boolean) [.ref (gr G 67), .int a1] m P) (hrc_readsPart : ∀ {a1 : Int32} {m : Mm} {P : Option Value → Mm → Prop} (h : mjO (rc_readsPart m a1) (fun r => P (some (.int (bI r.1))) r.2)), mjR G D yX3_readsPart cX3_readsPart 3 (some .boolean) [.ref (gr G 67), .int a1] m P) {a1 : Int32} {m : Mm} {P : Option Value → Mm → Prop} (h : mjO (Re_readsPart_b rc_readsEither rc_readsPart m a1) (fun r => P (some (.int (bI r.1))) r.2)) : mjR G d yX3_readsPart cX3_readsPart 3 (some .boolean) [.ref (gr G 67), .int a1] m P := by
  refine mjR_of hG (by decide) (Nat.le_of_ble_eq_true rfl) ?_
  intro X F
  have F : mjF G X cX3_readsPart RX3 3 d (some .boolean) := F
  show mjV G X 3 0 [(0, .ref (gr G 67)), (1, .int a1)] [] m P
  unfold Re_readsPart_b at h
  refine vAloadN F dX3_readsPart_0 (k := 0) rfl ?_
  refine vCallV F (d' := 0) (x := 67) (T := TX3) (N := 4) (As := []) (st := []) dX3_readsPart_1 lk_X3_40 my_X3_ahead mv_X3_ahead (cqC_67 hs) rfl (by omega) rfl rfl (Nat.le_of_ble_eq_true rfl) (Re_ahead_ok hG hs (okB h fun r1 h => ?_))
  show mjV G X 3 4 [(0, .ref (gr G 67)), (1, .int a1)] [.int r1] m P
  refine vIstoreN F (L' := [(2, .int r1), (0, .ref (gr G 67)), (1, .int a1)]) dX3_readsPart_4 rfl (by decide) rfl ?_
  refine vIloadN F dX3_readsPart_5 (k := 0) rfl ?_
  refine vBipush F (v := 33) dX3_readsPart_6 kb_33 ?_
  refine okJ (Vj := fun (e2 : Unit) => mjV G X 3 22 [(0, .ref (gr G 67)), (1, .int a1), (2, .int r1)] [] m P) h (fun e2 h => ?_) (fun j3 Jj3 h => ?_)
  · refine vIloadN F dX3_readsPart_22 (k := 1) rfl ?_
    refine vIconst F (v := 4) dX3_readsPart_23 k_4 ?_
    refine vIcmpLt F (tgt := 29) dX3_readsPart_24 (by decide) (fun c13 => ?_) (fun c13 => ?_)
    · replace h := okT h c13
      refine vAloadN F dX3_readsPart_29 (k := 0) rfl ?_
      refine vDup F dX3_readsPart_30 rfl ?_
      refine vGetI F dX3_readsPart_31 fa_X3_26 (cqC_67 hs) rfl ?_
      refine vIconst F (v := 1) dX3_readsPart_34 k_1 ?_
      refine vIadd F dX3_readsPart_35 ?_
      refine vPutI F dX3_readsPart_36 fw_X3_26 (cqC_67 hs) rfl ⟨rfl, rfl⟩ ?_
      refine vIloadN F dX3_readsPart_39 (k := 2) rfl ?_
      refine vBipush F (v := 40) dX3_readsPart_40 kb_40 ?_
      refine vIcmpNe F (tgt := 70) dX3_readsPart_42 (by decide) (fun c12 => ?_) (fun c12 => ?_)
      · replace h := okF h c12
        refine vAloadN F dX3_readsPart_70 (k := 0) rfl ?_
        refine vIloadN F dX3_readsPart_71 (k := 1) rfl ?_
        refine vIconst F (v := 1) dX3_readsPart_72 k_1 ?_
        refine vIadd F dX3_readsPart_73 ?_
        refine vCallV F (d' := D) (x := 67) (T := TX3) (N := 4) (As := [.int (a1 + 1)]) (st := []) dX3_readsPart_74 lk_X3_86 my_X3_readsPart mv_X3_readsPart (cqC_67 hs) rfl hD rfl rfl (Nat.le_of_ble_eq_true rfl) (hrc_readsPart (okB h fun r4 h => ?_))
        show mjV G X 3 77 [(0, .ref (gr G 67)), (1, .int a1), (2, .int r1)] [.int (bI (r4.1))] (r4.2) P
        refine vIfNeB F (tgt := 82) dX3_readsPart_77 (by decide) (fun c7 => ?_) (fun c7 => ?_)
        · replace h := okT h c7
          refine vAloadN F dX3_readsPart_82 (k := 0) rfl ?_
          obtain ⟨g5, h⟩ := okgq h
          refine vGetM F dX3_readsPart_83 fa_X3_18 (cqC_67 hs) rfl ?_
          refine vIconst F (v := (-1)) dX3_readsPart_86 k_m1 ?_
          refine vCallV F (d' := 0) (x := (r4.2).2.2 67 3) (T := TX2) (N := 7) (As := [.int (-1)]) (st := []) dX3_readsPart_87 lk_X3_89 my_X2_addCode mv_X2_addCode (isL_ok hs g5).1 rfl (by omega) rfl rfl (Nat.le_of_ble_eq_true rfl) (La_addCode_ok hG hs (isL_ok hs g5) (okB h fun r6 h => ?_))
          show mjV G X 3 90 [(0, .ref (gr G 67)), (1, .int a1), (2, .int r1)] [] r6 P
          refine vIconst F (v := 1) dX3_readsPart_90 k_1 ?_
          have z := okS h
          exact vZret (x := bI true) F dX3_readsPart_91 (nzI _) z
        · replace h := okF h c7
          refine vIconst F (v := 0) dX3_readsPart_80 k_0 ?_
          have z := okS h
          exact vZret (x := bI false) F dX3_readsPart_81 (nzI _) z
      · replace h := okT h c12
        refine vAloadN F dX3_readsPart_45 (k := 0) rfl ?_
        refine vIloadN F dX3_readsPart_46 (k := 1) rfl ?_
        refine vIconst F (v := 1) dX3_readsPart_47 k_1 ?_
        refine vIadd F dX3_readsPart_48 ?_
        refine vCallV F (d' := D) (x := 67) (T := TX3) (N := 4) (As := [.int (a1 + 1)]) (st := []) dX3_readsPart_49 lk_X3_72 my_X3_readsEither mv_X3_readsEither (cqC_67 hs) rfl hD rfl rfl (Nat.le_of_ble_eq_true rfl) (hrc_readsEither (okB h fun r8 h => ?_))
        show mjV G X 3 52 [(0, .ref (gr G 67)), (1, .int a1), (2, .int r1)] [.int (bI (r8.1))] (r8.2) P
        refine vIfEqB F (tgt := 68) dX3_readsPart_52 (by decide) (fun c11 => ?_) (fun c11 => ?_)
        · replace h := okF h c11
          refine vIconst F (v := 0) dX3_readsPart_68 k_0 ?_
          have z := okS h
          exact vZret (x := bI false) F dX3_readsPart_69 (nzI _) z
        · replace h := okT h c11
          refine vAloadN F dX3_readsPart_55 (k := 0) rfl ?_
          refine vBipush F (v := 41) dX3_readsPart_56 kb_41 ?_
          refine vCallV F (d' := 1) (x := 67) (T := TX3) (N := 4) (As := [.int 41]) (st := []) dX3_readsPart_58 lk_X3_32 my_X3_takes mv_X3_takes (cqC_67 hs) rfl (by omega) rfl rfl (Nat.le_of_ble_eq_true rfl) (Re_takes_ok hG hs (okB h fun r9 h => ?_))
          show mjV G X 3 61 [(0, .ref (gr G 67)), (1, .int a1), (2, .int r1)] [.int (bI (r9.1))] (r9.2) P
          refine vIfEqB F (tgt := 68) dX3_readsPart_61 (by decide) (fun c10 => ?_) (fun c10 => ?_)
          · replace h := okF h c10
            refine vIconst F (v := 0) dX3_readsPart_68 k_0 ?_
            have z := okS h
            exact vZret (x := bI false) F dX3_readsPart_69 (nzI _) z
          · replace h := okT h c10
            refine vIconst F (v := 1) dX3_readsPart_64 k_1 ?_
            refine vGoto F (tgt := 69) dX3_readsPart_65 (by decide) ?_
            have z := okS h
            exact vZret (x := bI true) F dX3_readsPart_69 (nzI _) z
    · replace h := okF h c13
      refine vIconst F (v := 0) dX3_readsPart_27 k_0 ?_
      have z := okS h
      exact vZret (x := bI false) F dX3_readsPart_28 (nzI _) z
  · refine vIcmpEq F (tgt := 22) dX3_readsPart_8 (by decide) (fun c16 => ?_) (fun c16 => ?_)
    · replace h := okT h c16
      refine vSub [1, 2, 0] rfl ?_
      exact Jj3 () h
    · replace h := okF h c16
      refine vIloadN F dX3_readsPart_11 (k := 0) rfl ?_
      refine vBipush F (v := 40) dX3_readsPart_12 kb_40 ?_
      refine vIcmpEq F (tgt := 22) dX3_readsPart_14 (by decide) (fun c15 => ?_) (fun c15 => ?_)
      · replace h := okT h c15
        refine vSub [1, 2, 0] rfl ?_
        exact Jj3 () h
      · replace h := okF h c15
        refine vAloadN F dX3_readsPart_17 (k := 1) rfl ?_
        refine vCallV F (d' := 2) (x := 67) (T := TX3) (N := 4) (As := []) (st := []) dX3_readsPart_18 lk_X3_93 my_X3_readsTest mv_X3_readsTest (cqC_67 hs) rfl (by omega) rfl rfl (Nat.le_of_ble_eq_true rfl) (Re_readsTest_ok hG hs (okB h fun r14 h => ?_))
        show mjV G X 3 21 [(2, .int r1), (0, .ref (gr G 67)), (1, .int a1)] [.int (bI (r14.1))] (r14.2) P
        have z := okS h
        exact vZret (x := bI (r14.1)) F dX3_readsPart_21 (nzI _) z
def Re_readsEither_l7 (rc : Mm → Int32 → Option (Bool × Mm)) (a1 : Int32) (s1 : Int32 × Int32 × Int32 × Mm) : Option ((Int32 × Int32 × Int32 × Mm) ⊕ (Mm ⊕ (Bool × Mm))) :=
  if 100 ≤ (s1.2.2.1) then
 (some (.inr (.inl (s1.2.2.2))))
 else ((rc (s1.2.2.2) a1).bind fun r3 =>
  if (r3.1) = true then
 (jn (fun (e4 : Mm) => (Re_takes e4 38).bind fun r6 =>
  if (r6.1) = true then
 (some (.inl (bI (r6.1), s1.2.1, (s1.2.2.1) + 1, r6.2)))
 else (jn (fun (e7 : Mm) => (Re_takes e7 124).bind fun r9 =>
  if (r9.1) = true then
 (some (.inl (bI (r6.1), bI (r9.1), (s1.2.2.1) + 1, r9.2)))
 else (some (.inr (.inr (true, r9.2))))) fun j8 =>
  if (s1.2.1) = 0 then
 (j8 (r6.2))
 else (gq (isL ((r6.2).2.2 67 3)) ((La_addCode ((r6.2).2.2 67 3) (r6.2) (-3)).bind fun r12 =>
  j8 (r12))))) fun j5 =>
  if (s1.1) = 0 then
 (j5 (r3.2))
 else (gq (isL ((r3.2).2.2 67 3)) ((La_addCode ((r3.2).2.2 67 3) (r3.2) (-2)).bind fun r16 =>
  j5 (r16))))
 else (some (.inr (.inr (false, r3.2)))))
noncomputable def Re_readsEither_b (rc : Mm → Int32 → Option (Bool × Mm)) (m : Mm) (a1 : Int32) : Option (Bool × Mm) :=
  (iter (Re_readsEither_l7 rc a1) (0, 0, 0, m)).bind (Sum.elim (fun e2 => some (false, e2)) (fun v20 => some v20))
set_option maxRecDepth 20000 in
set_option maxHeartbeats 4000000 in
theorem Re_readsEither_b_ok {G : Gw} (hG : gOk G) (hs : gsh G = shC) {D d : Nat} (hD : D + 1 ≤ d) (hB : 3 ≤ d) {rc : Mm → Int32 → Option (Bool × Mm)} (hrc : ∀ {a1 : Int32} {m : Mm} {P : Option Value → Mm → Prop} (h : mjO (rc m a1) (fun r => P (some (.int (bI r.1))) r.2)), mjR G D yX3_readsPart cX3_readsPart 3 (some .boolean) [.ref (gr G 67), .int a1] m P) {a1 : Int32} {m : Mm} {P : Option Value → Mm → Prop} (h : mjO (Re_readsEither_b rc m a1) (fun r => P (some (.int (bI r.1))) r.2)) : mjR G d yX3_readsEither cX3_readsEither 5 (some .boolean) [.ref (gr G 67), .int a1] m P := by
  refine mjR_of hG (by decide) (Nat.le_of_ble_eq_true rfl) ?_
  intro X F
  have F : mjF G X cX3_readsEither RX3 5 d (some .boolean) := F
  show mjV G X 5 0 [(0, .ref (gr G 67)), (1, .int a1)] [] m P
  unfold Re_readsEither_b at h
  refine vIconst F (v := 0) dX3_readsEither_0 k_0 ?_
  refine vIstoreN F (L' := [(2, .int 0), (0, .ref (gr G 67)), (1, .int a1)]) dX3_readsEither_1 rfl (by decide) rfl ?_
  refine vIconst F (v := 0) dX3_readsEither_2 k_0 ?_
  refine vIstoreN F (L' := [(3, .int 0), (2, .int 0), (0, .ref (gr G 67)), (1, .int a1)]) dX3_readsEither_3 rfl (by decide) rfl ?_
  refine vIconst F (v := 0) dX3_readsEither_4 k_0 ?_
  refine vIstore F (L' := [(4, .int 0), (3, .int 0), (2, .int 0), (0, .ref (gr G 67)), (1, .int a1)]) dX3_readsEither_5 (by decide) rfl ?_
  refine vSub [3, 4, 2, 1, 0] rfl ?_
  refine okLoop (s0 := (0, 0, 0, m)) (T := (fun (s1 : Int32 × Int32 × Int32 × Mm) => mjV G X 5 7 [(0, .ref (gr G 67)), (1, .int a1), (2, .int (s1.1)), (3, .int (s1.2.1)), (4, .int (s1.2.2.1))] [] (s1.2.2.2) P)) (Ve := (Sum.elim (fun (e2 : Mm) => mjV G X 5 80 [] [] e2 P) (fun (v20 : Bool × Mm) => P (some (.int (bI v20.1))) v20.2))) h ?_ (fun s1 h => ?_)
  · intro q h
    rcases q with e2 | v20
    · refine vIconst F (v := 0) dX3_readsEither_80 k_0 ?_
      have z := okS h
      exact vZret (x := bI false) F dX3_readsEither_81 (nzI _) z
    · have z := okS h
      exact z
  · unfold Re_readsEither_l7 at h
    refine vIload F dX3_readsEither_7 (k := 4) rfl ?_
    refine vBipush F (v := 100) dX3_readsEither_9 kb_100 ?_
    refine vIcmpGe F (tgt := 80) dX3_readsEither_11 (by decide) (fun c19 => ?_) (fun c19 => ?_)
    · replace h := okT h c19
      refine vSub [] rfl ?_
      have z := okR h
      exact z
    · replace h := okF h c19
      refine vAloadN F dX3_readsEither_14 (k := 0) rfl ?_
      refine vIloadN F dX3_readsEither_15 (k := 1) rfl ?_
      refine vCallV F (d' := D) (x := 67) (T := TX3) (N := 4) (As := [.int a1]) (st := []) dX3_readsEither_16 lk_X3_86 my_X3_readsPart mv_X3_readsPart (cqC_67 hs) rfl hD rfl rfl (Nat.le_of_ble_eq_true rfl) (hrc (okB h fun r3 h => ?_))
      show mjV G X 5 19 [(0, .ref (gr G 67)), (1, .int a1), (2, .int (s1.1)), (3, .int (s1.2.1)), (4, .int (s1.2.2.1))] [.int (bI (r3.1))] (r3.2) P
      refine vIfNeB F (tgt := 24) dX3_readsEither_19 (by decide) (fun c18 => ?_) (fun c18 => ?_)
      · replace h := okT h c18
        refine vIloadN F dX3_readsEither_24 (k := 2) rfl ?_
        refine okJ (Vj := fun (e4 : Mm) => mjV G X 5 37 [(0, .ref (gr G 67)), (1, .int a1), (3, .int (s1.2.1)), (4, .int (s1.2.2.1))] [] e4 P) h (fun e4 h => ?_) (fun j5 Jj5 h => ?_)
        · refine vAloadN F dX3_readsEither_37 (k := 0) rfl ?_
          refine vBipush F (v := 38) dX3_readsEither_38 kb_38 ?_
          refine vCallV F (d' := 1) (x := 67) (T := TX3) (N := 4) (As := [.int 38]) (st := []) dX3_readsEither_40 lk_X3_32 my_X3_takes mv_X3_takes (cqC_67 hs) rfl (by omega) rfl rfl (Nat.le_of_ble_eq_true rfl) (Re_takes_ok hG hs (okB h fun r6 h => ?_))
          show mjV G X 5 43 [(0, .ref (gr G 67)), (1, .int a1), (3, .int (s1.2.1)), (4, .int (s1.2.2.1))] [.int (bI (r6.1))] (r6.2) P
          refine vIstoreN F (L' := [(2, .int (bI (r6.1))), (0, .ref (gr G 67)), (1, .int a1), (3, .int (s1.2.1)), (4, .int (s1.2.2.1))]) dX3_readsEither_43 rfl (by decide) rfl ?_
          refine vIloadN F dX3_readsEither_44 (k := 0) rfl ?_
          refine vIfNeB F (tgt := 74) dX3_readsEither_45 (by decide) (fun c14 => ?_) (fun c14 => ?_)
          · replace h := okT h c14
            refine vIinc F (v := 1) (k := 4) (L' := [(4, .int ((s1.2.2.1) + 1)), (2, .int (bI (r6.1))), (0, .ref (gr G 67)), (1, .int a1), (3, .int (s1.2.1))]) dX3_readsEither_74 rfl k_1 (by decide) rfl ?_
            refine vGoto F (tgt := 7) dX3_readsEither_77 (by decide) ?_
            refine vSub [2, 3, 1, 4, 0] rfl ?_
            have z := okL h
            exact z
          · replace h := okF h c14
            refine vIloadN F dX3_readsEither_48 (k := 3) rfl ?_
            refine okJ (Vj := fun (e7 : Mm) => mjV G X 5 61 [(0, .ref (gr G 67)), (1, .int a1), (2, .int (bI (r6.1))), (4, .int (s1.2.2.1))] [] e7 P) h (fun e7 h => ?_) (fun j8 Jj8 h => ?_)
            · refine vAloadN F dX3_readsEither_61 (k := 0) rfl ?_
              refine vBipush F (v := 124) dX3_readsEither_62 kb_124 ?_
              refine vCallV F (d' := 1) (x := 67) (T := TX3) (N := 4) (As := [.int 124]) (st := []) dX3_readsEither_64 lk_X3_32 my_X3_takes mv_X3_takes (cqC_67 hs) rfl (by omega) rfl rfl (Nat.le_of_ble_eq_true rfl) (Re_takes_ok hG hs (okB h fun r9 h => ?_))
              show mjV G X 5 67 [(0, .ref (gr G 67)), (1, .int a1), (2, .int (bI (r6.1))), (4, .int (s1.2.2.1))] [.int (bI (r9.1))] (r9.2) P
              refine vIstoreN F (L' := [(3, .int (bI (r9.1))), (0, .ref (gr G 67)), (1, .int a1), (2, .int (bI (r6.1))), (4, .int (s1.2.2.1))]) dX3_readsEither_67 rfl (by decide) rfl ?_
              refine vIloadN F dX3_readsEither_68 (k := 0) rfl ?_
              refine vIfNeB F (tgt := 74) dX3_readsEither_69 (by decide) (fun c10 => ?_) (fun c10 => ?_)
              · replace h := okT h c10
                refine vIinc F (v := 1) (k := 4) (L' := [(4, .int ((s1.2.2.1) + 1)), (3, .int (bI (r9.1))), (0, .ref (gr G 67)), (1, .int a1), (2, .int (bI (r6.1)))]) dX3_readsEither_74 rfl k_1 (by decide) rfl ?_
                refine vGoto F (tgt := 7) dX3_readsEither_77 (by decide) ?_
                refine vSub [2, 3, 4, 1, 0] rfl ?_
                have z := okL h
                exact z
              · replace h := okF h c10
                refine vIconst F (v := 1) dX3_readsEither_72 k_1 ?_
                have z := okR h
                exact vZret (x := bI true) F dX3_readsEither_73 (nzI _) z
            · refine vIfEq F (tgt := 61) dX3_readsEither_49 (by decide) (fun c13 => ?_) (fun c13 => ?_)
              · replace h := okT h c13
                refine vSub [1, 2, 0, 4] rfl ?_
                exact Jj8 (r6.2) h
              · replace h := okF h c13
                refine vAloadN F dX3_readsEither_52 (k := 1) rfl ?_
                obtain ⟨g11, h⟩ := okgq h
                refine vGetM F dX3_readsEither_53 fa_X3_18 (cqC_67 hs) rfl ?_
                refine vBipush F (v := (-3)) dX3_readsEither_56 kb_m3 ?_
                refine vCallV F (d' := 0) (x := (r6.2).2.2 67 3) (T := TX2) (N := 7) (As := [.int (-3)]) (st := []) dX3_readsEither_58 lk_X3_89 my_X2_addCode mv_X2_addCode (isL_ok hs g11).1 rfl (by omega) rfl rfl (Nat.le_of_ble_eq_true rfl) (La_addCode_ok hG hs (isL_ok hs g11) (okB h fun r12 h => ?_))
                show mjV G X 5 61 [(2, .int (bI (r6.1))), (0, .ref (gr G 67)), (1, .int a1), (3, .int (s1.2.1)), (4, .int (s1.2.2.1))] [] r12 P
                refine vSub [1, 2, 0, 4] rfl ?_
                exact Jj8 (r12) h
        · refine vIfEq F (tgt := 37) dX3_readsEither_25 (by decide) (fun c17 => ?_) (fun c17 => ?_)
          · replace h := okT h c17
            refine vSub [0, 1, 3, 4] rfl ?_
            exact Jj5 (r3.2) h
          · replace h := okF h c17
            refine vAloadN F dX3_readsEither_28 (k := 0) rfl ?_
            obtain ⟨g15, h⟩ := okgq h
            refine vGetM F dX3_readsEither_29 fa_X3_18 (cqC_67 hs) rfl ?_
            refine vBipush F (v := (-2)) dX3_readsEither_32 kb_m2 ?_
            refine vCallV F (d' := 0) (x := (r3.2).2.2 67 3) (T := TX2) (N := 7) (As := [.int (-2)]) (st := []) dX3_readsEither_34 lk_X3_89 my_X2_addCode mv_X2_addCode (isL_ok hs g15).1 rfl (by omega) rfl rfl (Nat.le_of_ble_eq_true rfl) (La_addCode_ok hG hs (isL_ok hs g15) (okB h fun r16 h => ?_))
            show mjV G X 5 37 [(0, .ref (gr G 67)), (1, .int a1), (2, .int (s1.1)), (3, .int (s1.2.1)), (4, .int (s1.2.2.1))] [] r16 P
            refine vSub [0, 1, 3, 4] rfl ?_
            exact Jj5 (r16) h
      · replace h := okF h c18
        refine vIconst F (v := 0) dX3_readsEither_22 k_0 ?_
        have z := okR h
        exact vZret (x := bI false) F dX3_readsEither_23 (nzI _) z
noncomputable def Re_pair : Nat → (Mm → Int32 → Option (Bool × Mm)) × (Mm → Int32 → Option (Bool × Mm))
  | 0 => (fun _ _ => none, fun _ _ => none)
  | n + 1 => (Re_readsEither_b (Re_pair n).2, Re_readsPart_b (Re_pair n).1 (Re_pair n).2)
theorem Re_pair_ok {G : Gw} (hG : gOk G) (hs : gsh G = shC) : ∀ (n : Nat), (∀ {a1 : Int32} {m : Mm} {P : Option Value → Mm → Prop} (h : mjO ((Re_pair n).1 m a1) (fun r => P (some (.int (bI r.1))) r.2)), mjR G (3 + n) yX3_readsEither cX3_readsEither 5 (some .boolean) [.ref (gr G 67), .int a1] m P) ∧ (∀ {a1 : Int32} {m : Mm} {P : Option Value → Mm → Prop} (h : mjO ((Re_pair n).2 m a1) (fun r => P (some (.int (bI r.1))) r.2)), mjR G (3 + n) yX3_readsPart cX3_readsPart 3 (some .boolean) [.ref (gr G 67), .int a1] m P) := by
  intro n
  induction n with
  | zero => exact ⟨fun h => (by obtain ⟨_, e, _⟩ := h; cases e), fun h => (by obtain ⟨_, e, _⟩ := h; cases e)⟩
  | succ n ih => exact ⟨fun h => Re_readsEither_b_ok hG hs (D := 3 + n) (by omega) (by omega) ih.2 h, fun h => Re_readsPart_b_ok hG hs (D := 3 + n) (by omega) (by omega) ih.1 ih.2 h⟩
noncomputable def Re_readsEither (m : Mm) (a1 : Int32) : Option (Bool × Mm) := (Re_pair 16).1 m a1
theorem Re_readsEither_ok {G : Gw} (hG : gOk G) (hs : gsh G = shC) {a1 : Int32} {m : Mm} {P : Option Value → Mm → Prop} (h : mjO (Re_readsEither m a1) (fun r => P (some (.int (bI r.1))) r.2)) : mjR G 19 yX3_readsEither cX3_readsEither 5 (some .boolean) [.ref (gr G 67), .int a1] m P := (Re_pair_ok hG hs 16).1 h
noncomputable def Re_readsPart (m : Mm) (a1 : Int32) : Option (Bool × Mm) := (Re_pair 16).2 m a1
theorem Re_readsPart_ok {G : Gw} (hG : gOk G) (hs : gsh G = shC) {a1 : Int32} {m : Mm} {P : Option Value → Mm → Prop} (h : mjO (Re_readsPart m a1) (fun r => P (some (.int (bI r.1))) r.2)) : mjR G 19 yX3_readsPart cX3_readsPart 3 (some .boolean) [.ref (gr G 67), .int a1] m P := (Re_pair_ok hG hs 16).2 h
noncomputable def Re_readsClause (m : Mm) : Option (Bool × Mm) :=
  (Re_ahead m).bind fun r2 =>
  if (strIdx str_53 r2) < 0 then
 (some (false, m))
 else (if (strIdx str_53 r2) = 0 then
 ((Re_takesWord m str_59).bind fun r33 =>
  if (r33.1) = true then
 ((Re_takeNumber (r33.2)).bind fun r34 =>
  if 0 ≤ (r34.1) then
 (jn (fun (e35 : Mm) => gq (isL (e35.2.2 67 3)) ((La_addClause (e35.2.2 67 3) e35 (strIdx str_53 r2) (r34.1)).bind fun r38 =>
  some (true, r38))) fun j36 =>
  if (strIdx str_53 r2) = 2 then
 (j36 (r34.2))
 else ((Re_takes (r34.2) 32).bind fun r39 =>
  if (r39.1) = true then
 ((Re_readsEither (r39.2) 0).bind fun r40 =>
  if (r40.1) = true then
 (j36 (r40.2))
 else (some (false, r40.2)))
 else (some (false, r39.2))))
 else (some (false, r34.2)))
 else (some (false, r33.2)))
 else (if (strIdx str_53 r2) = 1 then
 ((Re_takesWord m str_61).bind fun r18 =>
  if (r18.1) = true then
 ((Re_takeNumber (r18.2)).bind fun r19 =>
  if 0 ≤ (r19.1) then
 (jn (fun (e20 : Mm) => gq (isL (e20.2.2 67 3)) ((La_addClause (e20.2.2 67 3) e20 (strIdx str_53 r2) (r19.1)).bind fun r23 =>
  some (true, r23))) fun j21 =>
  if (strIdx str_53 r2) = 2 then
 (j21 (r19.2))
 else ((Re_takes (r19.2) 32).bind fun r24 =>
  if (r24.1) = true then
 ((Re_readsEither (r24.2) 0).bind fun r25 =>
  if (r25.1) = true then
 (j21 (r25.2))
 else (some (false, r25.2)))
 else (some (false, r24.2))))
 else (some (false, r19.2)))
 else (some (false, r18.2)))
 else ((Re_takesWord m str_63).bind fun r4 =>
  if (r4.1) = true then
 ((Re_takeNumber (r4.2)).bind fun r5 =>
  if 0 ≤ (r5.1) then
 (jn (fun (e6 : Mm) => gq (isL (e6.2.2 67 3)) ((La_addClause (e6.2.2 67 3) e6 (strIdx str_53 r2) (r5.1)).bind fun r9 =>
  some (true, r9))) fun j7 =>
  if (strIdx str_53 r2) = 2 then
 (j7 (r5.2))
 else ((Re_takes (r5.2) 32).bind fun r10 =>
  if (r10.1) = true then
 ((Re_readsEither (r10.2) 0).bind fun r11 =>
  if (r11.1) = true then
 (j7 (r11.2))
 else (some (false, r11.2)))
 else (some (false, r10.2))))
 else (some (false, r5.2)))
 else (some (false, r4.2)))))
set_option maxRecDepth 20000 in
set_option maxHeartbeats 4000000 in
theorem Re_readsClause_ok {G : Gw} (hG : gOk G) (hs : gsh G = shC) {m : Mm} {P : Option Value → Mm → Prop} (h : mjO (Re_readsClause m) (fun r => P (some (.int (bI r.1))) r.2)) : mjR G 20 yX3_readsClause cX3_readsClause 3 (some .boolean) [.ref (gr G 67)] m P := by
  sorry
noncomputable def Re_faultOf_l19  (s2 : Int32 × Mm) : Option ((Int32 × Mm) ⊕ (Mm ⊕ (Int32 × Mm))) :=
  if 10 ≤ (s2.1) then
 (some (.inr (.inl (s2.2))))
 else (jn (fun (e4 : Mm) => (Re_readsClause e4).bind fun r6 =>
  if (r6.1) = true then
 (if ((r6.2).1 67 2) = ((r6.2).1 67 1) then
 (some (.inr (.inr ((-1), r6.2))))
 else (some (.inl ((s2.1) + 1, r6.2))))
 else (some (.inr (.inr ((r6.2).1 67 2, r6.2))))) fun j5 =>
  if (s2.1) ≤ 0 then
 (j5 (s2.2))
 else ((Re_takes (s2.2) 59).bind fun r9 =>
  if (r9.1) = true then
 (j5 (r9.2))
 else (some (.inr (.inr ((r9.2).1 67 2, r9.2))))))
noncomputable def Re_faultOf (m : Mm) (a1 : Nat) : Option (Int32 × Mm) :=
  gq (isL ((sr (si m 67 2 0) 67 3 a1).2.2 67 3)) ((iter (Re_faultOf_l19) (0, (La_clear ((sr (si m 67 2 0) 67 3 a1).2.2 67 3) (sr (si m 67 2 0) 67 3 a1)))).bind (Sum.elim (fun e3 => some (e3.1 67 2, e3)) (fun v13 => some v13)))
set_option maxRecDepth 20000 in
set_option maxHeartbeats 4000000 in
theorem Re_faultOf_ok {G : Gw} (hG : gOk G) (hs : gsh G = shC) {a1 : Nat} (ha1 : is_X2 (gsh G) a1) {m : Mm} {P : Option Value → Mm → Prop} (h : mjO (Re_faultOf m a1) (fun r => P (some (.int r.1)) r.2)) : mjR G 21 yX3_faultOf cX3_faultOf 3 (some .int) [.ref (gr G 67), .ref (gr G a1)] m P := by
  refine mjR_of hG (by decide) (Nat.le_of_ble_eq_true rfl) ?_
  intro X F
  have F : mjF G X cX3_faultOf RX3 3 21 (some .int) := F
  show mjV G X 3 0 [(0, .ref (gr G 67)), (1, .ref (gr G a1))] [] m P
  unfold Re_faultOf at h
  refine vAloadN F dX3_faultOf_0 (k := 0) rfl ?_
  refine vIconst F (v := 0) dX3_faultOf_1 k_0 ?_
  refine vPutI F dX3_faultOf_2 fw_X3_26 (cqC_67 hs) rfl ⟨rfl, rfl⟩ ?_
  refine vAloadN F dX3_faultOf_5 (k := 0) rfl ?_
  refine vAloadN F dX3_faultOf_6 (k := 1) rfl ?_
  refine vPutM F dX3_faultOf_7 fw_X3_18 (cqC_67 hs) rfl ⟨rfl, rfl⟩ ?_
  refine vAloadN F dX3_faultOf_10 (k := 0) rfl ?_
  obtain ⟨g1, h⟩ := okgq h
  refine vGetM F dX3_faultOf_11 fa_X3_18 (cqC_67 hs) rfl ?_
  refine vCallV F (d' := 0) (x := (sr (si m 67 2 0) 67 3 a1).2.2 67 3) (T := TX2) (N := 7) (As := []) (st := []) dX3_faultOf_14 lk_X3_29 my_X2_clear mv_X2_clear (isL_ok hs g1).1 rfl (by decide) rfl rfl (Nat.le_of_ble_eq_true rfl) (La_clear_ok hG hs (isL_ok hs g1) ?_)
  show mjV G X 3 17 [(0, .ref (gr G 67)), (1, .ref (gr G a1))] [] (La_clear ((sr (si m 67 2 0) 67 3 a1).2.2 67 3) (sr (si m 67 2 0) 67 3 a1)) P
  refine vIconst F (v := 0) dX3_faultOf_17 k_0 ?_
  refine vIstoreN F (L' := [(2, .int 0), (0, .ref (gr G 67)), (1, .ref (gr G a1))]) dX3_faultOf_18 rfl (by decide) rfl ?_
  refine vSub [1, 0] rfl ?_
  refine okLoop (s0 := (0, (La_clear ((sr (si m 67 2 0) 67 3 a1).2.2 67 3) (sr (si m 67 2 0) 67 3 a1)))) (T := (fun (s2 : Int32 × Mm) => mjV G X 3 19 [(0, .ref (gr G 67)), (2, .int (s2.1))] [] (s2.2) P)) (Ve := (Sum.elim (fun (e3 : Mm) => mjV G X 3 69 [(0, .ref (gr G 67))] [] e3 P) (fun (v13 : Int32 × Mm) => P (some (.int v13.1)) v13.2))) h ?_ (fun s2 h => ?_)
  · intro q h
    rcases q with e3 | v13
    · refine vAloadN F dX3_faultOf_69 (k := 0) rfl ?_
      refine vGetI F dX3_faultOf_70 fa_X3_26 (cqC_67 hs) rfl ?_
      have z := okS h
      exact vIret F dX3_faultOf_73 z
    · have z := okS h
      exact z
  · unfold Re_faultOf_l19 at h
    refine vIloadN F dX3_faultOf_19 (k := 1) rfl ?_
    refine vBipush F (v := 10) dX3_faultOf_20 kb_10 ?_
    refine vIcmpGe F (tgt := 69) dX3_faultOf_22 (by decide) (fun c12 => ?_) (fun c12 => ?_)
    · replace h := okT h c12
      refine vSub [0] rfl ?_
      have z := okR h
      exact z
    · replace h := okF h c12
      refine vIloadN F dX3_faultOf_25 (k := 1) rfl ?_
      refine okJ (Vj := fun (e4 : Mm) => mjV G X 3 38 [(0, .ref (gr G 67)), (2, .int (s2.1))] [] e4 P) h (fun e4 h => ?_) (fun j5 Jj5 h => ?_)
      · refine vAloadN F dX3_faultOf_38 (k := 0) rfl ?_
        refine vCallV F (d' := 20) (x := 67) (T := TX3) (N := 4) (As := []) (st := []) dX3_faultOf_39 lk_X3_36 my_X3_readsClause mv_X3_readsClause (cqC_67 hs) rfl (by decide) rfl rfl (Nat.le_of_ble_eq_true rfl) (Re_readsClause_ok hG hs (okB h fun r6 h => ?_))
        show mjV G X 3 42 [(0, .ref (gr G 67)), (2, .int (s2.1))] [.int (bI (r6.1))] (r6.2) P
        refine vIfNeB F (tgt := 50) dX3_faultOf_42 (by decide) (fun c8 => ?_) (fun c8 => ?_)
        · replace h := okT h c8
          refine vAloadN F dX3_faultOf_50 (k := 0) rfl ?_
          refine vGetI F dX3_faultOf_51 fa_X3_26 (cqC_67 hs) rfl ?_
          refine vAloadN F dX3_faultOf_54 (k := 0) rfl ?_
          refine vGetI F dX3_faultOf_55 fa_X3_22 (cqC_67 hs) rfl ?_
          refine vIcmpNe F (tgt := 63) dX3_faultOf_58 (by decide) (fun c7 => ?_) (fun c7 => ?_)
          · replace h := okF h c7
            refine vIinc F (v := 1) (k := 1) (L' := [(2, .int ((s2.1) + 1)), (0, .ref (gr G 67))]) dX3_faultOf_63 rfl k_1 (by decide) rfl ?_
            refine vGoto F (tgt := 19) dX3_faultOf_66 (by decide) ?_
            refine vSub [1, 0] rfl ?_
            have z := okL h
            exact z
          · replace h := okT h c7
            refine vIconst F (v := (-1)) dX3_faultOf_61 k_m1 ?_
            have z := okR h
            exact vIret F dX3_faultOf_62 z
        · replace h := okF h c8
          refine vAloadN F dX3_faultOf_45 (k := 0) rfl ?_
          refine vGetI F dX3_faultOf_46 fa_X3_26 (cqC_67 hs) rfl ?_
          have z := okR h
          exact vIret F dX3_faultOf_49 z
      · refine vIfLe F (tgt := 38) dX3_faultOf_26 (by decide) (fun c11 => ?_) (fun c11 => ?_)
        · replace h := okT h c11
          exact Jj5 (s2.2) h
        · replace h := okF h c11
          refine vAloadN F dX3_faultOf_29 (k := 0) rfl ?_
          refine vBipush F (v := 59) dX3_faultOf_30 kb_59 ?_
          refine vCallV F (d' := 1) (x := 67) (T := TX3) (N := 4) (As := [.int 59]) (st := []) dX3_faultOf_32 lk_X3_32 my_X3_takes mv_X3_takes (cqC_67 hs) rfl (by decide) rfl rfl (Nat.le_of_ble_eq_true rfl) (Re_takes_ok hG hs (okB h fun r9 h => ?_))
          show mjV G X 3 35 [(0, .ref (gr G 67)), (2, .int (s2.1))] [.int (bI (r9.1))] (r9.2) P
          refine vIfEqB F (tgt := 45) dX3_faultOf_35 (by decide) (fun c10 => ?_) (fun c10 => ?_)
          · replace h := okF h c10
            refine vAloadN F dX3_faultOf_45 (k := 0) rfl ?_
            refine vGetI F dX3_faultOf_46 fa_X3_26 (cqC_67 hs) rfl ?_
            have z := okR h
            exact vIret F dX3_faultOf_49 z
          · replace h := okT h c10
            exact Jj5 (r9.2) h
noncomputable def Ta_become (x : Nat) (m : Mm) (a1 : Int32) (a2 : Int32) : Option (Mm) :=
  (JA_fill (si (si m x 0 a1) x 1 a2) 60 (x + 1) 0).bind fun r1 =>
  some r1
set_option maxRecDepth 20000 in
set_option maxHeartbeats 4000000 in
theorem Ta_become_ok {G : Gw} (hG : gOk G) (hs : gsh G = shC) {x : Nat} (hx : is_X4 (gsh G) x) {a1 : Int32} {a2 : Int32} {m : Mm} {P : Option Value → Mm → Prop} (h : mjO (Ta_become x m a1 a2) (fun r => P none r)) : mjR G 1 yX4_become cX4_become 3 none [.ref (gr G x), .int a1, .int a2] m P := by
  refine mjR_of hG (by decide) (Nat.le_of_ble_eq_true rfl) ?_
  intro X F
  have F : mjF G X cX4_become RX4 3 1 none := F
  show mjV G X 3 0 [(0, .ref (gr G x)), (1, .int a1), (2, .int a2)] [] m P
  unfold Ta_become at h
  refine vAloadN F dX4_become_0 (k := 0) rfl ?_
  refine vIloadN F dX4_become_1 (k := 1) rfl ?_
  refine vPutI F dX4_become_2 fw_X4_9 hx.1 rfl ⟨rfl, rfl⟩ ?_
  refine vAloadN F dX4_become_5 (k := 0) rfl ?_
  refine vIloadN F dX4_become_6 (k := 2) rfl ?_
  refine vPutI F dX4_become_7 fw_X4_17 hx.1 rfl ⟨rfl, rfl⟩ ?_
  refine vAloadN F dX4_become_10 (k := 0) rfl ?_
  refine vGetR F (t := x + 1) dX4_become_11 fa_X4_13 hx.1 rfl ?_
  refine vLconst F (v := 0) dX4_become_14 rfl ?_
  refine vCallS F (d' := 0) (As := [.ref (gr G (x + 1)), .long 0]) (st := []) dX4_become_15 lk_X4_20 my_J7_fill_d0a16 sy_J7_fill_d0a16 (by decide) rfl rfl (Nat.le_of_ble_eq_true rfl) (JA_fill_ok hG hx.2 (okB h fun r1 h => ?_))
  show mjV G X 3 18 [(0, .ref (gr G x)), (1, .int a1), (2, .int a2)] [] r1 P
  have z := okS h
  exact vVret F dX4_become_18 z
def Ta_spans (x : Nat) (m : Mm) (a1 : Int32) (a2 : Int32) : Bool :=
  if a1 < 0 then
 (false)
 else (if a2 < 0 then
 (false)
 else (if ((m.1 x 1) - a2) < a1 then
 (false)
 else (true)))
set_option maxRecDepth 20000 in
set_option maxHeartbeats 4000000 in
theorem Ta_spans_ok {G : Gw} (hG : gOk G) (hs : gsh G = shC) {x : Nat} (hx : is_X4 (gsh G) x) {a1 : Int32} {a2 : Int32} {m : Mm} {P : Option Value → Mm → Prop} (h : P (some (.int (bI (Ta_spans x m a1 a2)))) m) : mjR G 0 yX4_spans cX4_spans 3 (some .boolean) [.ref (gr G x), .int a1, .int a2] m P := by
  refine mjR_of hG (by decide) (Nat.le_of_ble_eq_true rfl) ?_
  intro X F
  have F : mjF G X cX4_spans RX4 3 0 (some .boolean) := F
  show mjV G X 3 0 [(0, .ref (gr G x)), (1, .int a1), (2, .int a2)] [] m P
  have h : mjO (some (Ta_spans x m a1 a2)) (fun r => P (some (.int (bI r))) m) := ⟨_, rfl, h⟩
  unfold Ta_spans at h
  refine vIloadN F dX4_spans_0 (k := 1) rfl ?_
  refine vIfLt F (tgt := 22) dX4_spans_1 (by decide) (fun c3 => ?_) (fun c3 => ?_)
  · replace h := okTT h c3
    refine vIconst F (v := 0) dX4_spans_22 k_0 ?_
    have z := okS h
    exact vZret (x := bI false) F dX4_spans_23 (nzI _) z
  · replace h := okFT h c3
    refine vIloadN F dX4_spans_4 (k := 2) rfl ?_
    refine vIfLt F (tgt := 22) dX4_spans_5 (by decide) (fun c2 => ?_) (fun c2 => ?_)
    · replace h := okTT h c2
      refine vIconst F (v := 0) dX4_spans_22 k_0 ?_
      have z := okS h
      exact vZret (x := bI false) F dX4_spans_23 (nzI _) z
    · replace h := okFT h c2
      refine vIloadN F dX4_spans_8 (k := 1) rfl ?_
      refine vAloadN F dX4_spans_9 (k := 0) rfl ?_
      refine vGetI F dX4_spans_10 fa_X4_17 hx.1 rfl ?_
      refine vIloadN F dX4_spans_13 (k := 2) rfl ?_
      refine vIsub F dX4_spans_14 ?_
      refine vIcmpGt F (tgt := 22) dX4_spans_15 (by decide) (fun c1 => ?_) (fun c1 => ?_)
      · replace h := okTT h c1
        refine vIconst F (v := 0) dX4_spans_22 k_0 ?_
        have z := okS h
        exact vZret (x := bI false) F dX4_spans_23 (nzI _) z
      · replace h := okFT h c1
        refine vIconst F (v := 1) dX4_spans_18 k_1 ?_
        refine vGoto F (tgt := 23) dX4_spans_19 (by decide) ?_
        have z := okS h
        exact vZret (x := bI true) F dX4_spans_23 (nzI _) z
def Ta_asItem (x : Nat) (m : Mm) (a1 : Int64) : Int64 :=
  if (m.1 x 0) = 0 then
 (((a1.toInt32).toInt8.toInt32).toInt64)
 else (if (m.1 x 0) = 1 then
 (((a1.toInt32).toInt16.toInt32).toInt64)
 else (if (m.1 x 0) = 2 then
 ((a1.toInt32).toInt64)
 else (if (m.1 x 0) = 3 then
 (a1)
 else (if (m.1 x 0) = 4 then
 (if (lg_cmp a1 0) = 0 then
 (0)
 else (1))
 else (a1)))))
set_option maxRecDepth 20000 in
set_option maxHeartbeats 4000000 in
theorem Ta_asItem_ok {G : Gw} (hG : gOk G) (hs : gsh G = shC) {x : Nat} (hx : is_X4 (gsh G) x) {a1 : Int64} {m : Mm} {P : Option Value → Mm → Prop} (h : P (some (.long (Ta_asItem x m a1))) m) : mjR G 0 yX4_asItem cX4_asItem 3 (some .long) [.ref (gr G x), .long a1] m P := by
  refine mjR_of hG (by decide) (Nat.le_of_ble_eq_true rfl) ?_
  intro X F
  have F : mjF G X cX4_asItem RX4 3 0 (some .long) := F
  show mjV G X 3 0 [(0, .ref (gr G x)), (1, .long a1)] [] m P
  have h : mjO (some (Ta_asItem x m a1)) (fun r => P (some (.long r)) m) := ⟨_, rfl, h⟩
  unfold Ta_asItem at h
  refine vAloadN F dX4_asItem_0 (k := 0) rfl ?_
  refine vGetI F dX4_asItem_1 fa_X4_9 hx.1 rfl ?_
  by_cases c1 : (m.1 x 0) = 0
  · replace h := okTT h c1
    refine vTabIn F (tgt := 40) dX4_asItem_4 c1 (by decide) (by decide) rfl (by decide) ?_
    refine vLloadN F dX4_asItem_40 (k := 1) rfl ?_
    refine vL2i F dX4_asItem_41 ?_
    refine vI2b F dX4_asItem_42 ?_
    refine vI2l F dX4_asItem_43 ?_
    have z := okS h
    exact vLret F dX4_asItem_44 z
  replace h := okFT h c1
  by_cases c2 : (m.1 x 0) = 1
  · replace h := okTT h c2
    refine vTabIn F (tgt := 45) dX4_asItem_4 c2 (by decide) (by decide) rfl (by decide) ?_
    refine vLloadN F dX4_asItem_45 (k := 1) rfl ?_
    refine vL2i F dX4_asItem_46 ?_
    refine vI2s F dX4_asItem_47 ?_
    refine vI2l F dX4_asItem_48 ?_
    have z := okS h
    exact vLret F dX4_asItem_49 z
  replace h := okFT h c2
  by_cases c3 : (m.1 x 0) = 2
  · replace h := okTT h c3
    refine vTabIn F (tgt := 50) dX4_asItem_4 c3 (by decide) (by decide) rfl (by decide) ?_
    refine vLloadN F dX4_asItem_50 (k := 1) rfl ?_
    refine vL2i F dX4_asItem_51 ?_
    refine vI2l F dX4_asItem_52 ?_
    have z := okS h
    exact vLret F dX4_asItem_53 z
  replace h := okFT h c3
  by_cases c4 : (m.1 x 0) = 3
  · replace h := okTT h c4
    refine vTabIn F (tgt := 66) dX4_asItem_4 c4 (by decide) (by decide) rfl (by decide) ?_
    refine vLloadN F dX4_asItem_66 (k := 1) rfl ?_
    have z := okS h
    exact vLret F dX4_asItem_67 z
  replace h := okFT h c4
  by_cases c5 : (m.1 x 0) = 4
  · replace h := okTT h c5
    refine vTabIn F (tgt := 54) dX4_asItem_4 c5 (by decide) (by decide) rfl (by decide) ?_
    refine vLloadN F dX4_asItem_54 (k := 1) rfl ?_
    refine vLconst F (v := 0) dX4_asItem_55 rfl ?_
    refine vLcmp F dX4_asItem_56 ?_
    refine vIfEq F (tgt := 64) dX4_asItem_57 (by decide) (fun c6 => ?_) (fun c6 => ?_)
    · replace h := okTT h c6
      refine vLconst F (v := 0) dX4_asItem_64 rfl ?_
      have z := okS h
      exact vLret F dX4_asItem_65 z
    · replace h := okFT h c6
      refine vLconst F (v := 1) dX4_asItem_60 rfl ?_
      refine vGoto F (tgt := 65) dX4_asItem_61 (by decide) ?_
      have z := okS h
      exact vLret F dX4_asItem_65 z
  replace h := okFT h c5
  replace c1 := lv_neT c1 (a := 0) (by decide)
  replace c2 := lv_neT c2 (a := 1) (by decide)
  replace c3 := lv_neT c3 (a := 2) (by decide)
  replace c4 := lv_neT c4 (a := 3) (by decide)
  replace c5 := lv_neT c5 (a := 4) (by decide)
  refine vTabOut F (tgt := 66) dX4_asItem_4 (by omega) (by decide) ?_
  refine vLloadN F dX4_asItem_66 (k := 1) rfl ?_
  have z := okS h
  exact vLret F dX4_asItem_67 z
def Wo_has (x : Nat) (m : Mm) (a1 : Int32) : Bool :=
  if a1 < 0 then
 (false)
 else (if (m.1 x 0) ≤ a1 then
 (false)
 else (true))
set_option maxRecDepth 20000 in
set_option maxHeartbeats 4000000 in
theorem Wo_has_ok {G : Gw} (hG : gOk G) (hs : gsh G = shC) {x : Nat} (hx : is_X5 (gsh G) x) {a1 : Int32} {m : Mm} {P : Option Value → Mm → Prop} (h : P (some (.int (bI (Wo_has x m a1)))) m) : mjR G 0 yX5_has cX5_has 2 (some .boolean) [.ref (gr G x), .int a1] m P := by
  refine mjR_of hG (by decide) (Nat.le_of_ble_eq_true rfl) ?_
  intro X F
  have F : mjF G X cX5_has RX5 2 0 (some .boolean) := F
  show mjV G X 2 0 [(0, .ref (gr G x)), (1, .int a1)] [] m P
  have h : mjO (some (Wo_has x m a1)) (fun r => P (some (.int (bI r))) m) := ⟨_, rfl, h⟩
  unfold Wo_has at h
  refine vIloadN F dX5_has_0 (k := 1) rfl ?_
  refine vIfLt F (tgt := 16) dX5_has_1 (by decide) (fun c2 => ?_) (fun c2 => ?_)
  · replace h := okTT h c2
    refine vIconst F (v := 0) dX5_has_16 k_0 ?_
    have z := okS h
    exact vZret (x := bI false) F dX5_has_17 (nzI _) z
  · replace h := okFT h c2
    refine vIloadN F dX5_has_4 (k := 1) rfl ?_
    refine vAloadN F dX5_has_5 (k := 0) rfl ?_
    refine vGetI F dX5_has_6 fa_X5_43 hx.1 rfl ?_
    refine vIcmpGe F (tgt := 16) dX5_has_9 (by decide) (fun c1 => ?_) (fun c1 => ?_)
    · replace h := okTT h c1
      refine vIconst F (v := 0) dX5_has_16 k_0 ?_
      have z := okS h
      exact vZret (x := bI false) F dX5_has_17 (nzI _) z
    · replace h := okFT h c1
      refine vIconst F (v := 1) dX5_has_12 k_1 ?_
      refine vGoto F (tgt := 17) dX5_has_13 (by decide) ?_
      have z := okS h
      exact vZret (x := bI true) F dX5_has_17 (nzI _) z
def Wo_addPlace (x : Nat) (m : Mm) (a1 : Int32) (a2 : Int32) (a3 : Int32) : Option (Int32 × Mm) :=
  ga (m.1 x 0) 7 (ga (m.1 x 0) 7 (ga (m.1 x 0) 7 (some (m.1 x 0, si (si (si (si m (x + 1) (m.1 x 0).toNatClampNeg a1) (x + 2) (m.1 x 0).toNatClampNeg a2) (x + 3) (m.1 x 0).toNatClampNeg a3) x 0 (((si (si (si m (x + 1) (m.1 x 0).toNatClampNeg a1) (x + 2) (m.1 x 0).toNatClampNeg a2) (x + 3) (m.1 x 0).toNatClampNeg a3).1 x 0) + 1)))))
set_option maxRecDepth 20000 in
set_option maxHeartbeats 4000000 in
theorem Wo_addPlace_ok {G : Gw} (hG : gOk G) (hs : gsh G = shC) {x : Nat} (hx : is_X5 (gsh G) x) {a1 : Int32} {a2 : Int32} {a3 : Int32} {m : Mm} {P : Option Value → Mm → Prop} (h : mjO (Wo_addPlace x m a1 a2 a3) (fun r => P (some (.int r.1)) r.2)) : mjR G 0 yX5_addPlace cX5_addPlace 5 (some .int) [.ref (gr G x), .int a1, .int a2, .int a3] m P := by
  refine mjR_of hG (by decide) (Nat.le_of_ble_eq_true rfl) ?_
  intro X F
  have F : mjF G X cX5_addPlace RX5 5 0 (some .int) := F
  show mjV G X 5 0 [(0, .ref (gr G x)), (1, .int a1), (2, .int a2), (3, .int a3)] [] m P
  unfold Wo_addPlace at h
  refine vAloadN F dX5_addPlace_0 (k := 0) rfl ?_
  refine vGetI F dX5_addPlace_1 fa_X5_43 hx.1 rfl ?_
  refine vIstore F (L' := [(4, .int (m.1 x 0)), (0, .ref (gr G x)), (1, .int a1), (2, .int a2), (3, .int a3)]) dX5_addPlace_4 (by decide) rfl ?_
  refine vAloadN F dX5_addPlace_6 (k := 1) rfl ?_
  refine vGetR F (t := x + 1) dX5_addPlace_7 fa_X5_9 hx.1 rfl ?_
  refine vIload F dX5_addPlace_10 (k := 0) rfl ?_
  refine vIloadN F dX5_addPlace_12 (k := 2) rfl ?_
  obtain ⟨g1, h⟩ := okga h
  refine vIast F dX5_addPlace_13 hx.2.1 g1 ?_
  refine vAloadN F dX5_addPlace_14 (k := 1) rfl ?_
  refine vGetR F (t := x + 2) dX5_addPlace_15 fa_X5_15 hx.1 rfl ?_
  refine vIload F dX5_addPlace_18 (k := 0) rfl ?_
  refine vIloadN F dX5_addPlace_20 (k := 3) rfl ?_
  obtain ⟨g2, h⟩ := okga h
  refine vIast F dX5_addPlace_21 hx.2.2.1 g2 ?_
  refine vAloadN F dX5_addPlace_22 (k := 1) rfl ?_
  refine vGetR F (t := x + 3) dX5_addPlace_23 fa_X5_18 hx.1 rfl ?_
  refine vIload F dX5_addPlace_26 (k := 0) rfl ?_
  refine vIloadN F dX5_addPlace_28 (k := 4) rfl ?_
  obtain ⟨g3, h⟩ := okga h
  refine vIast F dX5_addPlace_29 hx.2.2.2.1 g3 ?_
  refine vAloadN F dX5_addPlace_30 (k := 1) rfl ?_
  refine vDup F dX5_addPlace_31 rfl ?_
  refine vGetI F dX5_addPlace_32 fa_X5_43 hx.1 rfl ?_
  refine vIconst F (v := 1) dX5_addPlace_35 k_1 ?_
  refine vIadd F dX5_addPlace_36 ?_
  refine vPutI F dX5_addPlace_37 fw_X5_43 hx.1 rfl ⟨rfl, rfl⟩ ?_
  refine vIload F dX5_addPlace_40 (k := 0) rfl ?_
  have z := okS h
  exact vIret F dX5_addPlace_42 z
def Wo_addTraveller (x : Nat) (m : Mm) (a1 : Int32) (a2 : Int32) (a3 : Int32) : Option (Int32 × Mm) :=
  ga (m.1 x 6) 8 (ga (m.1 x 6) 8 (ga (m.1 x 6) 8 (some (m.1 x 6, si (si (si (si m (x + 6) (m.1 x 6).toNatClampNeg a1) (x + 7) (m.1 x 6).toNatClampNeg a2) (x + 8) (m.1 x 6).toNatClampNeg a3) x 6 (((si (si (si m (x + 6) (m.1 x 6).toNatClampNeg a1) (x + 7) (m.1 x 6).toNatClampNeg a2) (x + 8) (m.1 x 6).toNatClampNeg a3).1 x 6) + 1)))))
set_option maxRecDepth 20000 in
set_option maxHeartbeats 4000000 in
theorem Wo_addTraveller_ok {G : Gw} (hG : gOk G) (hs : gsh G = shC) {x : Nat} (hx : is_X5 (gsh G) x) {a1 : Int32} {a2 : Int32} {a3 : Int32} {m : Mm} {P : Option Value → Mm → Prop} (h : mjO (Wo_addTraveller x m a1 a2 a3) (fun r => P (some (.int r.1)) r.2)) : mjR G 0 yX5_addTraveller cX5_addTraveller 5 (some .int) [.ref (gr G x), .int a1, .int a2, .int a3] m P := by
  refine mjR_of hG (by decide) (Nat.le_of_ble_eq_true rfl) ?_
  intro X F
  have F : mjF G X cX5_addTraveller RX5 5 0 (some .int) := F
  show mjV G X 5 0 [(0, .ref (gr G x)), (1, .int a1), (2, .int a2), (3, .int a3)] [] m P
  unfold Wo_addTraveller at h
  refine vAloadN F dX5_addTraveller_0 (k := 0) rfl ?_
  refine vGetI F dX5_addTraveller_1 fa_X5_46 hx.1 rfl ?_
  refine vIstore F (L' := [(4, .int (m.1 x 6)), (0, .ref (gr G x)), (1, .int a1), (2, .int a2), (3, .int a3)]) dX5_addTraveller_4 (by decide) rfl ?_
  refine vAloadN F dX5_addTraveller_6 (k := 1) rfl ?_
  refine vGetR F (t := x + 6) dX5_addTraveller_7 fa_X5_27 hx.1 rfl ?_
  refine vIload F dX5_addTraveller_10 (k := 0) rfl ?_
  refine vIloadN F dX5_addTraveller_12 (k := 2) rfl ?_
  obtain ⟨g1, h⟩ := okga h
  refine vIast F dX5_addTraveller_13 hx.2.2.2.2.2.2.1 g1 ?_
  refine vAloadN F dX5_addTraveller_14 (k := 1) rfl ?_
  refine vGetR F (t := x + 7) dX5_addTraveller_15 fa_X5_30 hx.1 rfl ?_
  refine vIload F dX5_addTraveller_18 (k := 0) rfl ?_
  refine vIloadN F dX5_addTraveller_20 (k := 3) rfl ?_
  obtain ⟨g2, h⟩ := okga h
  refine vIast F dX5_addTraveller_21 hx.2.2.2.2.2.2.2.1 g2 ?_
  refine vAloadN F dX5_addTraveller_22 (k := 1) rfl ?_
  refine vGetR F (t := x + 8) dX5_addTraveller_23 fa_X5_33 hx.1 rfl ?_
  refine vIload F dX5_addTraveller_26 (k := 0) rfl ?_
  refine vIloadN F dX5_addTraveller_28 (k := 4) rfl ?_
  obtain ⟨g3, h⟩ := okga h
  refine vIast F dX5_addTraveller_29 hx.2.2.2.2.2.2.2.2.1 g3 ?_
  refine vAloadN F dX5_addTraveller_30 (k := 1) rfl ?_
  refine vDup F dX5_addTraveller_31 rfl ?_
  refine vGetI F dX5_addTraveller_32 fa_X5_46 hx.1 rfl ?_
  refine vIconst F (v := 1) dX5_addTraveller_35 k_1 ?_
  refine vIadd F dX5_addTraveller_36 ?_
  refine vPutI F dX5_addTraveller_37 fw_X5_46 hx.1 rfl ⟨rfl, rfl⟩ ?_
  refine vIload F dX5_addTraveller_40 (k := 0) rfl ?_
  have z := okS h
  exact vIret F dX5_addTraveller_42 z
def Wo_setMiles (x : Nat) (m : Mm) (a1 : Int32) (a2 : Int32) (a3 : Int32) : Option (Mm) :=
  ga (NB_index a1 a2) 49 (ga (NB_index a2 a1) 49 (some (si (si m (x + 4) (NB_index a1 a2).toNatClampNeg a3) (x + 4) (NB_index a2 a1).toNatClampNeg a3)))
set_option maxRecDepth 20000 in
set_option maxHeartbeats 4000000 in
theorem Wo_setMiles_ok {G : Gw} (hG : gOk G) (hs : gsh G = shC) {x : Nat} (hx : is_X5 (gsh G) x) {a1 : Int32} {a2 : Int32} {a3 : Int32} {m : Mm} {P : Option Value → Mm → Prop} (h : mjO (Wo_setMiles x m a1 a2 a3) (fun r => P none r)) : mjR G 1 yX5_setMiles cX5_setMiles 4 none [.ref (gr G x), .int a1, .int a2, .int a3] m P := by
  refine mjR_of hG (by decide) (Nat.le_of_ble_eq_true rfl) ?_
  intro X F
  have F : mjF G X cX5_setMiles RX5 4 1 none := F
  show mjV G X 4 0 [(0, .ref (gr G x)), (1, .int a1), (2, .int a2), (3, .int a3)] [] m P
  unfold Wo_setMiles at h
  refine vAloadN F dX5_setMiles_0 (k := 0) rfl ?_
  refine vGetR F (t := x + 4) dX5_setMiles_1 fa_X5_21 hx.1 rfl ?_
  refine vIloadN F dX5_setMiles_4 (k := 1) rfl ?_
  refine vIloadN F dX5_setMiles_5 (k := 2) rfl ?_
  refine vCallS F (d' := 0) (As := [.int a1, .int a2]) (st := [.ref (gr G (x + 4))]) dX5_setMiles_6 lk_X5_49 my_X6_index sy_X6_index (by decide) rfl rfl (Nat.le_of_ble_eq_true rfl) (NB_index_ok hG hs ?_)
  show mjV G X 4 9 [(0, .ref (gr G x)), (1, .int a1), (2, .int a2), (3, .int a3)] [.int (NB_index a1 a2), .ref (gr G (x + 4))] m P
  refine vIloadN F dX5_setMiles_9 (k := 3) rfl ?_
  obtain ⟨g1, h⟩ := okga h
  refine vIast F dX5_setMiles_10 hx.2.2.2.2.1 g1 ?_
  refine vAloadN F dX5_setMiles_11 (k := 0) rfl ?_
  refine vGetR F (t := x + 4) dX5_setMiles_12 fa_X5_21 hx.1 rfl ?_
  refine vIloadN F dX5_setMiles_15 (k := 2) rfl ?_
  refine vIloadN F dX5_setMiles_16 (k := 1) rfl ?_
  refine vCallS F (d' := 0) (As := [.int a2, .int a1]) (st := [.ref (gr G (x + 4))]) dX5_setMiles_17 lk_X5_49 my_X6_index sy_X6_index (by decide) rfl rfl (Nat.le_of_ble_eq_true rfl) (NB_index_ok hG hs ?_)
  show mjV G X 4 20 [(0, .ref (gr G x)), (1, .int a1), (2, .int a2), (3, .int a3)] [.int (NB_index a2 a1), .ref (gr G (x + 4))] (si m (x + 4) (NB_index a1 a2).toNatClampNeg a3) P
  refine vIloadN F dX5_setMiles_20 (k := 3) rfl ?_
  obtain ⟨g2, h⟩ := okga h
  refine vIast F dX5_setMiles_21 hx.2.2.2.2.1 g2 ?_
  have z := okS h
  exact vVret F dX5_setMiles_22 z
def Wo_turnName (x : Nat) (m : Mm) (a1 : Int32) (a2 : Int32) : Option (Mm) :=
  ga a1 7 (ga a1 7 (ga a2 7 (ga a2 7 (some (si (si m (x + 5) a1.toNatClampNeg ((m.1 (x + 5) a1.toNatClampNeg) ^^^ (1 <<< (a2 &&& 31)))) (x + 5) a2.toNatClampNeg (((si m (x + 5) a1.toNatClampNeg ((m.1 (x + 5) a1.toNatClampNeg) ^^^ (1 <<< (a2 &&& 31)))).1 (x + 5) a2.toNatClampNeg) ^^^ (1 <<< (a1 &&& 31))))))))
set_option maxRecDepth 20000 in
set_option maxHeartbeats 4000000 in
theorem Wo_turnName_ok {G : Gw} (hG : gOk G) (hs : gsh G = shC) {x : Nat} (hx : is_X5 (gsh G) x) {a1 : Int32} {a2 : Int32} {m : Mm} {P : Option Value → Mm → Prop} (h : mjO (Wo_turnName x m a1 a2) (fun r => P none r)) : mjR G 0 yX5_turnName cX5_turnName 3 none [.ref (gr G x), .int a1, .int a2] m P := by
  refine mjR_of hG (by decide) (Nat.le_of_ble_eq_true rfl) ?_
  intro X F
  have F : mjF G X cX5_turnName RX5 3 0 none := F
  show mjV G X 3 0 [(0, .ref (gr G x)), (1, .int a1), (2, .int a2)] [] m P
  unfold Wo_turnName at h
  refine vAloadN F dX5_turnName_0 (k := 0) rfl ?_
  refine vGetR F (t := x + 5) dX5_turnName_1 fa_X5_24 hx.1 rfl ?_
  refine vIloadN F dX5_turnName_4 (k := 1) rfl ?_
  refine vDup2 F dX5_turnName_5 rfl rfl ?_
  obtain ⟨g1, h⟩ := okga h
  refine vIald F dX5_turnName_6 hx.2.2.2.2.2.1 g1 ?_
  refine vIconst F (v := 1) dX5_turnName_7 k_1 ?_
  refine vIloadN F dX5_turnName_8 (k := 2) rfl ?_
  refine vIshl F dX5_turnName_9 ?_
  refine vIxor F dX5_turnName_10 ?_
  obtain ⟨g2, h⟩ := okga h
  refine vIast F dX5_turnName_11 hx.2.2.2.2.2.1 g2 ?_
  refine vAloadN F dX5_turnName_12 (k := 0) rfl ?_
  refine vGetR F (t := x + 5) dX5_turnName_13 fa_X5_24 hx.1 rfl ?_
  refine vIloadN F dX5_turnName_16 (k := 2) rfl ?_
  refine vDup2 F dX5_turnName_17 rfl rfl ?_
  obtain ⟨g3, h⟩ := okga h
  refine vIald F dX5_turnName_18 hx.2.2.2.2.2.1 g3 ?_
  refine vIconst F (v := 1) dX5_turnName_19 k_1 ?_
  refine vIloadN F dX5_turnName_20 (k := 1) rfl ?_
  refine vIshl F dX5_turnName_21 ?_
  refine vIxor F dX5_turnName_22 ?_
  obtain ⟨g4, h⟩ := okga h
  refine vIast F dX5_turnName_23 hx.2.2.2.2.2.1 g4 ?_
  have z := okS h
  exact vVret F dX5_turnName_24 z
def Wo_countNames_l4 (x : Nat) (m : Mm) (s1 : Int32 × Int32) : Option ((Int32 × Int32) ⊕ Int32) :=
  if (m.1 x 0) ≤ (s1.2) then
 (some (.inr (s1.1)))
 else (ga (s1.2) 7 (some (.inl ((s1.1) + (JI_bitCount (m.1 (x + 5) (s1.2).toNatClampNeg)), (s1.2) + 1))))
noncomputable def Wo_countNames (x : Nat) (m : Mm) : Option (Int32) :=
  (iter (Wo_countNames_l4 x m) (0, 0)).bind fun e2 =>
  some (e2 / 2)
set_option maxRecDepth 20000 in
set_option maxHeartbeats 4000000 in
theorem Wo_countNames_ok {G : Gw} (hG : gOk G) (hs : gsh G = shC) {x : Nat} (hx : is_X5 (gsh G) x) {m : Mm} {P : Option Value → Mm → Prop} (h : mjO (Wo_countNames x m) (fun r => P (some (.int r)) m)) : mjR G 1 yX5_countNames cX5_countNames 3 (some .int) [.ref (gr G x)] m P := by
  refine mjR_of hG (by decide) (Nat.le_of_ble_eq_true rfl) ?_
  intro X F
  have F : mjF G X cX5_countNames RX5 3 1 (some .int) := F
  show mjV G X 3 0 [(0, .ref (gr G x))] [] m P
  unfold Wo_countNames at h
  refine vIconst F (v := 0) dX5_countNames_0 k_0 ?_
  refine vIstoreN F (L' := [(1, .int 0), (0, .ref (gr G x))]) dX5_countNames_1 rfl (by decide) rfl ?_
  refine vIconst F (v := 0) dX5_countNames_2 k_0 ?_
  refine vIstoreN F (L' := [(2, .int 0), (1, .int 0), (0, .ref (gr G x))]) dX5_countNames_3 rfl (by decide) rfl ?_
  refine vSub [2, 1, 0] rfl ?_
  refine okLoop (s0 := (0, 0)) (T := (fun (s1 : Int32 × Int32) => mjV G X 3 4 [(0, .ref (gr G x)), (1, .int (s1.1)), (2, .int (s1.2))] [] m P)) (Ve := (fun (e2 : Int32) => mjV G X 3 30 [(1, .int e2)] [] m P)) h ?_ (fun s1 h => ?_)
  · intro e2 h
    refine vIloadN F dX5_countNames_30 (k := 0) rfl ?_
    refine vIconst F (v := 2) dX5_countNames_31 k_2 ?_
    refine vIdiv F dX5_countNames_32 (by decide) ?_
    have z := okS h
    exact vIret F dX5_countNames_33 z
  · unfold Wo_countNames_l4 at h
    refine vIloadN F dX5_countNames_4 (k := 2) rfl ?_
    refine vAloadN F dX5_countNames_5 (k := 0) rfl ?_
    refine vGetI F dX5_countNames_6 fa_X5_43 hx.1 rfl ?_
    refine vIcmpGe F (tgt := 30) dX5_countNames_9 (by decide) (fun c4 => ?_) (fun c4 => ?_)
    · replace h := okT h c4
      refine vSub [1] rfl ?_
      have z := okR h
      exact z
    · replace h := okF h c4
      refine vIloadN F dX5_countNames_12 (k := 1) rfl ?_
      refine vAloadN F dX5_countNames_13 (k := 0) rfl ?_
      refine vGetR F (t := x + 5) dX5_countNames_14 fa_X5_24 hx.1 rfl ?_
      refine vIloadN F dX5_countNames_17 (k := 2) rfl ?_
      obtain ⟨g3, h⟩ := okga h
      refine vIald F dX5_countNames_18 hx.2.2.2.2.2.1 g3 ?_
      refine vCallS F (d' := 0) (As := [.int (m.1 (x + 5) (s1.2).toNatClampNeg)]) (st := [.int (s1.1)]) dX5_countNames_19 lk_X5_53 my_J6_bitCount_0f7a4 sy_J6_bitCount_0f7a4 (by decide) rfl rfl (Nat.le_of_ble_eq_true rfl) (JI_bitCount_ok hG ?_)
      show mjV G X 3 22 [(0, .ref (gr G x)), (1, .int (s1.1)), (2, .int (s1.2))] [.int (JI_bitCount (m.1 (x + 5) (s1.2).toNatClampNeg)), .int (s1.1)] m P
      refine vIadd F dX5_countNames_22 ?_
      refine vIstoreN F (L' := [(1, .int ((s1.1) + (JI_bitCount (m.1 (x + 5) (s1.2).toNatClampNeg)))), (0, .ref (gr G x)), (2, .int (s1.2))]) dX5_countNames_23 rfl (by decide) rfl ?_
      refine vIinc F (v := 1) (k := 2) (L' := [(2, .int ((s1.2) + 1)), (1, .int ((s1.1) + (JI_bitCount (m.1 (x + 5) (s1.2).toNatClampNeg)))), (0, .ref (gr G x))]) dX5_countNames_24 rfl k_1 (by decide) rfl ?_
      refine vGoto F (tgt := 4) dX5_countNames_27 (by decide) ?_
      refine vSub [2, 1, 0] rfl ?_
      have z := okL h
      exact z
def Wo_comeToBy_l19 (x : Nat) (m : Mm) (s1 : Int32 × Int32) (s3 : Int32 × Int32) : Option ((Int32 × Int32) ⊕ Int32) :=
  if (m.1 x 0) ≤ (s3.2) then
 (some (.inr (s3.1)))
 else (if ((s1.1) &&& (1 <<< ((s3.2) &&& 31))) = 0 then
 (some (.inl (s3.1, (s3.2) + 1)))
 else (ga (s3.2) 7 (some (.inl ((s3.1) ||| (m.1 (x + 5) (s3.2).toNatClampNeg), (s3.2) + 1)))))
noncomputable def Wo_comeToBy_l7 (x : Nat) (m : Mm) (a2 : Int32) (s1 : Int32 × Int32) : Option ((Int32 × Int32) ⊕ Int32) :=
  if a2 ≤ (s1.2) then
 (some (.inr (s1.1)))
 else ((iter (Wo_comeToBy_l19 x m s1) (s1.1, 0)).bind fun e4 =>
  some (.inl (e4, (s1.2) + 1)))
noncomputable def Wo_comeToBy (x : Nat) (m : Mm) (a1 : Int32) (a2 : Int32) : Option (Int32) :=
  (iter (Wo_comeToBy_l7 x m a2) (1 <<< (a1 &&& 31), 0)).bind fun e2 =>
  some e2
set_option maxRecDepth 20000 in
set_option maxHeartbeats 4000000 in
theorem Wo_comeToBy_ok {G : Gw} (hG : gOk G) (hs : gsh G = shC) {x : Nat} (hx : is_X5 (gsh G) x) {a1 : Int32} {a2 : Int32} {m : Mm} {P : Option Value → Mm → Prop} (h : mjO (Wo_comeToBy x m a1 a2) (fun r => P (some (.int r)) m)) : mjR G 0 yX5_comeToBy cX5_comeToBy 7 (some .int) [.ref (gr G x), .int a1, .int a2] m P := by
  refine mjR_of hG (by decide) (Nat.le_of_ble_eq_true rfl) ?_
  intro X F
  have F : mjF G X cX5_comeToBy RX5 7 0 (some .int) := F
  show mjV G X 7 0 [(0, .ref (gr G x)), (1, .int a1), (2, .int a2)] [] m P
  unfold Wo_comeToBy at h
  refine vIconst F (v := 1) dX5_comeToBy_0 k_1 ?_
  refine vIloadN F dX5_comeToBy_1 (k := 1) rfl ?_
  refine vIshl F dX5_comeToBy_2 ?_
  refine vIstoreN F (L' := [(3, .int (1 <<< (a1 &&& 31))), (0, .ref (gr G x)), (1, .int a1), (2, .int a2)]) dX5_comeToBy_3 rfl (by decide) rfl ?_
  refine vIconst F (v := 0) dX5_comeToBy_4 k_0 ?_
  refine vIstore F (L' := [(4, .int 0), (3, .int (1 <<< (a1 &&& 31))), (0, .ref (gr G x)), (1, .int a1), (2, .int a2)]) dX5_comeToBy_5 (by decide) rfl ?_
  refine vSub [2, 4, 1, 0] rfl ?_
  refine okLoop (s0 := (1 <<< (a1 &&& 31), 0)) (T := (fun (s1 : Int32 × Int32) => mjV G X 7 7 [(0, .ref (gr G x)), (2, .int a2), (3, .int (s1.1)), (4, .int (s1.2))] [] m P)) (Ve := (fun (e2 : Int32) => mjV G X 7 60 [(3, .int e2)] [] m P)) h ?_ (fun s1 h => ?_)
  · intro e2 h
    refine vIloadN F dX5_comeToBy_60 (k := 0) rfl ?_
    have z := okS h
    exact vIret F dX5_comeToBy_61 z
  · unfold Wo_comeToBy_l7 at h
    refine vIload F dX5_comeToBy_7 (k := 3) rfl ?_
    refine vIloadN F dX5_comeToBy_9 (k := 1) rfl ?_
    refine vIcmpGe F (tgt := 60) dX5_comeToBy_10 (by decide) (fun c9 => ?_) (fun c9 => ?_)
    · replace h := okT h c9
      refine vSub [2] rfl ?_
      have z := okR h
      exact z
    · replace h := okF h c9
      refine vIloadN F dX5_comeToBy_13 (k := 2) rfl ?_
      refine vIstore F (L' := [(5, .int (s1.1)), (0, .ref (gr G x)), (2, .int a2), (3, .int (s1.1)), (4, .int (s1.2))]) dX5_comeToBy_14 (by decide) rfl ?_
      refine vIconst F (v := 0) dX5_comeToBy_16 k_0 ?_
      refine vIstore F (L' := [(6, .int 0), (5, .int (s1.1)), (0, .ref (gr G x)), (2, .int a2), (3, .int (s1.1)), (4, .int (s1.2))]) dX5_comeToBy_17 (by decide) rfl ?_
      refine vSub [2, 3, 4, 5, 1, 0] rfl ?_
      refine okLoop (s0 := (s1.1, 0)) (T := (fun (s3 : Int32 × Int32) => mjV G X 7 19 [(0, .ref (gr G x)), (2, .int a2), (3, .int (s3.1)), (4, .int (s1.2)), (5, .int (s1.1)), (6, .int (s3.2))] [] m P)) (Ve := (fun (e4 : Int32) => mjV G X 7 54 [(0, .ref (gr G x)), (2, .int a2), (3, .int e4), (4, .int (s1.2))] [] m P)) h ?_ (fun s3 h => ?_)
      · intro e4 h
        refine vIinc F (v := 1) (k := 3) (L' := [(4, .int ((s1.2) + 1)), (0, .ref (gr G x)), (2, .int a2), (3, .int e4)]) dX5_comeToBy_54 rfl k_1 (by decide) rfl ?_
        refine vGoto F (tgt := 7) dX5_comeToBy_57 (by decide) ?_
        refine vSub [1, 2, 3, 0] rfl ?_
        have z := okL h
        exact z
      · unfold Wo_comeToBy_l19 at h
        refine vIload F dX5_comeToBy_19 (k := 5) rfl ?_
        refine vAloadN F dX5_comeToBy_21 (k := 0) rfl ?_
        refine vGetI F dX5_comeToBy_22 fa_X5_43 hx.1 rfl ?_
        refine vIcmpGe F (tgt := 54) dX5_comeToBy_25 (by decide) (fun c7 => ?_) (fun c7 => ?_)
        · replace h := okT h c7
          refine vSub [0, 1, 2, 3] rfl ?_
          have z := okR h
          exact z
        · replace h := okF h c7
          refine vIload F dX5_comeToBy_28 (k := 4) rfl ?_
          refine vIconst F (v := 1) dX5_comeToBy_30 k_1 ?_
          refine vIload F dX5_comeToBy_31 (k := 5) rfl ?_
          refine vIshl F dX5_comeToBy_33 ?_
          refine vIand F dX5_comeToBy_34 ?_
          refine vIfEq F (tgt := 48) dX5_comeToBy_35 (by decide) (fun c6 => ?_) (fun c6 => ?_)
          · replace h := okT h c6
            refine vIinc F (v := 1) (k := 5) (L' := [(6, .int ((s3.2) + 1)), (0, .ref (gr G x)), (2, .int a2), (3, .int (s3.1)), (4, .int (s1.2)), (5, .int (s1.1))]) dX5_comeToBy_48 rfl k_1 (by decide) rfl ?_
            refine vGoto F (tgt := 19) dX5_comeToBy_51 (by decide) ?_
            refine vSub [1, 2, 3, 4, 5, 0] rfl ?_
            have z := okL h
            exact z
          · replace h := okF h c6
            refine vIloadN F dX5_comeToBy_38 (k := 2) rfl ?_
            refine vAloadN F dX5_comeToBy_39 (k := 0) rfl ?_
            refine vGetR F (t := x + 5) dX5_comeToBy_40 fa_X5_24 hx.1 rfl ?_
            refine vIload F dX5_comeToBy_43 (k := 5) rfl ?_
            obtain ⟨g5, h⟩ := okga h
            refine vIald F dX5_comeToBy_45 hx.2.2.2.2.2.1 g5 ?_
            refine vIor F dX5_comeToBy_46 ?_
            refine vIstoreN F (L' := [(3, .int ((s3.1) ||| (m.1 (x + 5) (s3.2).toNatClampNeg))), (0, .ref (gr G x)), (2, .int a2), (4, .int (s1.2)), (5, .int (s1.1)), (6, .int (s3.2))]) dX5_comeToBy_47 rfl (by decide) rfl ?_
            refine vIinc F (v := 1) (k := 5) (L' := [(6, .int ((s3.2) + 1)), (3, .int ((s3.1) ||| (m.1 (x + 5) (s3.2).toNatClampNeg))), (0, .ref (gr G x)), (2, .int a2), (4, .int (s1.2)), (5, .int (s1.1))]) dX5_comeToBy_48 rfl k_1 (by decide) rfl ?_
            refine vGoto F (tgt := 19) dX5_comeToBy_51 (by decide) ?_
            refine vSub [2, 3, 1, 4, 5, 0] rfl ?_
            have z := okL h
            exact z
def Wo_becomeAs (x : Nat) (m : Mm) (a1 : Nat) : Option (Mm) :=
  gq (cpOk 0 0 7 7 7) (gq (cpOk 0 0 7 7 7) (gq (cpOk 0 0 7 7 7) (gq (cpOk 0 0 49 49 49) (gq (cpOk 0 0 7 7 7) (gq (cpOk 0 0 8 8 8) (gq (cpOk 0 0 8 8 8) (gq (cpOk 0 0 8 8 8) (gq (cpOk 0 0 12 12 12) (some (si (cpi (si (cpi (cpi (cpi (si (cpi (cpi (cpi (cpi (cpi (si m x 0 (m.1 a1 0)) (a1 + 1) (x + 1) 0 0 7) (a1 + 2) (x + 2) 0 0 7) (a1 + 3) (x + 3) 0 0 7) (a1 + 4) (x + 4) 0 0 49) (a1 + 5) (x + 5) 0 0 7) x 6 ((cpi (cpi (cpi (cpi (cpi (si m x 0 (m.1 a1 0)) (a1 + 1) (x + 1) 0 0 7) (a1 + 2) (x + 2) 0 0 7) (a1 + 3) (x + 3) 0 0 7) (a1 + 4) (x + 4) 0 0 49) (a1 + 5) (x + 5) 0 0 7).1 a1 6)) (a1 + 6) (x + 6) 0 0 8) (a1 + 7) (x + 7) 0 0 8) (a1 + 8) (x + 8) 0 0 8) x 10 ((cpi (cpi (cpi (si (cpi (cpi (cpi (cpi (cpi (si m x 0 (m.1 a1 0)) (a1 + 1) (x + 1) 0 0 7) (a1 + 2) (x + 2) 0 0 7) (a1 + 3) (x + 3) 0 0 7) (a1 + 4) (x + 4) 0 0 49) (a1 + 5) (x + 5) 0 0 7) x 6 ((cpi (cpi (cpi (cpi (cpi (si m x 0 (m.1 a1 0)) (a1 + 1) (x + 1) 0 0 7) (a1 + 2) (x + 2) 0 0 7) (a1 + 3) (x + 3) 0 0 7) (a1 + 4) (x + 4) 0 0 49) (a1 + 5) (x + 5) 0 0 7).1 a1 6)) (a1 + 6) (x + 6) 0 0 8) (a1 + 7) (x + 7) 0 0 8) (a1 + 8) (x + 8) 0 0 8).1 a1 10)) (a1 + 9) (x + 9) 0 0 12) x 12 ((cpi (si (cpi (cpi (cpi (si (cpi (cpi (cpi (cpi (cpi (si m x 0 (m.1 a1 0)) (a1 + 1) (x + 1) 0 0 7) (a1 + 2) (x + 2) 0 0 7) (a1 + 3) (x + 3) 0 0 7) (a1 + 4) (x + 4) 0 0 49) (a1 + 5) (x + 5) 0 0 7) x 6 ((cpi (cpi (cpi (cpi (cpi (si m x 0 (m.1 a1 0)) (a1 + 1) (x + 1) 0 0 7) (a1 + 2) (x + 2) 0 0 7) (a1 + 3) (x + 3) 0 0 7) (a1 + 4) (x + 4) 0 0 49) (a1 + 5) (x + 5) 0 0 7).1 a1 6)) (a1 + 6) (x + 6) 0 0 8) (a1 + 7) (x + 7) 0 0 8) (a1 + 8) (x + 8) 0 0 8) x 10 ((cpi (cpi (cpi (si (cpi (cpi (cpi (cpi (cpi (si m x 0 (m.1 a1 0)) (a1 + 1) (x + 1) 0 0 7) (a1 + 2) (x + 2) 0 0 7) (a1 + 3) (x + 3) 0 0 7) (a1 + 4) (x + 4) 0 0 49) (a1 + 5) (x + 5) 0 0 7) x 6 ((cpi (cpi (cpi (cpi (cpi (si m x 0 (m.1 a1 0)) (a1 + 1) (x + 1) 0 0 7) (a1 + 2) (x + 2) 0 0 7) (a1 + 3) (x + 3) 0 0 7) (a1 + 4) (x + 4) 0 0 49) (a1 + 5) (x + 5) 0 0 7).1 a1 6)) (a1 + 6) (x + 6) 0 0 8) (a1 + 7) (x + 7) 0 0 8) (a1 + 8) (x + 8) 0 0 8).1 a1 10)) (a1 + 9) (x + 9) 0 0 12).1 a1 12)))))))))))
set_option maxRecDepth 20000 in
set_option maxHeartbeats 4000000 in
theorem Wo_becomeAs_ok {G : Gw} (hG : gOk G) (hs : gsh G = shC) {x : Nat} (hx : is_X5 (gsh G) x) {a1 : Nat} (ha1 : is_X5 (gsh G) a1) {m : Mm} {P : Option Value → Mm → Prop} (h : mjO (Wo_becomeAs x m a1) (fun r => P none r)) : mjR G 0 yX5_becomeAs cX5_becomeAs 2 none [.ref (gr G x), .ref (gr G a1)] m P := by
  refine mjR_of hG (by decide) (Nat.le_of_ble_eq_true rfl) ?_
  intro X F
  have F : mjF G X cX5_becomeAs RX5 2 0 none := F
  show mjV G X 2 0 [(0, .ref (gr G x)), (1, .ref (gr G a1))] [] m P
  unfold Wo_becomeAs at h
  refine vAloadN F dX5_becomeAs_0 (k := 0) rfl ?_
  refine vAloadN F dX5_becomeAs_1 (k := 1) rfl ?_
  refine vGetI F dX5_becomeAs_2 fa_X5_43 ha1.1 rfl ?_
  refine vPutI F dX5_becomeAs_5 fw_X5_43 hx.1 rfl ⟨rfl, rfl⟩ ?_
  refine vAloadN F dX5_becomeAs_8 (k := 1) rfl ?_
  refine vGetR F (t := a1 + 1) dX5_becomeAs_9 fa_X5_9 ha1.1 rfl ?_
  refine vIconst F (v := 0) dX5_becomeAs_12 k_0 ?_
  refine vAloadN F dX5_becomeAs_13 (k := 0) rfl ?_
  refine vGetR F (t := x + 1) dX5_becomeAs_14 fa_X5_9 hx.1 rfl ?_
  refine vIconst F (v := 0) dX5_becomeAs_17 k_0 ?_
  refine vBipush F (v := 7) dX5_becomeAs_18 kb_7 ?_
  obtain ⟨g1, h⟩ := okgq h
  refine vCopyI F dX5_becomeAs_20 kp_X5_62 ha1.2.1 hx.2.1 g1 (Nat.le_of_ble_eq_true rfl) ?_
  refine vAloadN F dX5_becomeAs_23 (k := 1) rfl ?_
  refine vGetR F (t := a1 + 2) dX5_becomeAs_24 fa_X5_15 ha1.1 rfl ?_
  refine vIconst F (v := 0) dX5_becomeAs_27 k_0 ?_
  refine vAloadN F dX5_becomeAs_28 (k := 0) rfl ?_
  refine vGetR F (t := x + 2) dX5_becomeAs_29 fa_X5_15 hx.1 rfl ?_
  refine vIconst F (v := 0) dX5_becomeAs_32 k_0 ?_
  refine vBipush F (v := 7) dX5_becomeAs_33 kb_7 ?_
  obtain ⟨g2, h⟩ := okgq h
  refine vCopyI F dX5_becomeAs_35 kp_X5_62 ha1.2.2.1 hx.2.2.1 g2 (Nat.le_of_ble_eq_true rfl) ?_
  refine vAloadN F dX5_becomeAs_38 (k := 1) rfl ?_
  refine vGetR F (t := a1 + 3) dX5_becomeAs_39 fa_X5_18 ha1.1 rfl ?_
  refine vIconst F (v := 0) dX5_becomeAs_42 k_0 ?_
  refine vAloadN F dX5_becomeAs_43 (k := 0) rfl ?_
  refine vGetR F (t := x + 3) dX5_becomeAs_44 fa_X5_18 hx.1 rfl ?_
  refine vIconst F (v := 0) dX5_becomeAs_47 k_0 ?_
  refine vBipush F (v := 7) dX5_becomeAs_48 kb_7 ?_
  obtain ⟨g3, h⟩ := okgq h
  refine vCopyI F dX5_becomeAs_50 kp_X5_62 ha1.2.2.2.1 hx.2.2.2.1 g3 (Nat.le_of_ble_eq_true rfl) ?_
  refine vAloadN F dX5_becomeAs_53 (k := 1) rfl ?_
  refine vGetR F (t := a1 + 4) dX5_becomeAs_54 fa_X5_21 ha1.1 rfl ?_
  refine vIconst F (v := 0) dX5_becomeAs_57 k_0 ?_
  refine vAloadN F dX5_becomeAs_58 (k := 0) rfl ?_
  refine vGetR F (t := x + 4) dX5_becomeAs_59 fa_X5_21 hx.1 rfl ?_
  refine vIconst F (v := 0) dX5_becomeAs_62 k_0 ?_
  refine vBipush F (v := 49) dX5_becomeAs_63 kb_49 ?_
  obtain ⟨g4, h⟩ := okgq h
  refine vCopyI F dX5_becomeAs_65 kp_X5_62 ha1.2.2.2.2.1 hx.2.2.2.2.1 g4 (Nat.le_of_ble_eq_true rfl) ?_
  refine vAloadN F dX5_becomeAs_68 (k := 1) rfl ?_
  refine vGetR F (t := a1 + 5) dX5_becomeAs_69 fa_X5_24 ha1.1 rfl ?_
  refine vIconst F (v := 0) dX5_becomeAs_72 k_0 ?_
  refine vAloadN F dX5_becomeAs_73 (k := 0) rfl ?_
  refine vGetR F (t := x + 5) dX5_becomeAs_74 fa_X5_24 hx.1 rfl ?_
  refine vIconst F (v := 0) dX5_becomeAs_77 k_0 ?_
  refine vBipush F (v := 7) dX5_becomeAs_78 kb_7 ?_
  obtain ⟨g5, h⟩ := okgq h
  refine vCopyI F dX5_becomeAs_80 kp_X5_62 ha1.2.2.2.2.2.1 hx.2.2.2.2.2.1 g5 (Nat.le_of_ble_eq_true rfl) ?_
  refine vAloadN F dX5_becomeAs_83 (k := 0) rfl ?_
  refine vAloadN F dX5_becomeAs_84 (k := 1) rfl ?_
  refine vGetI F dX5_becomeAs_85 fa_X5_46 ha1.1 rfl ?_
  refine vPutI F dX5_becomeAs_88 fw_X5_46 hx.1 rfl ⟨rfl, rfl⟩ ?_
  refine vAloadN F dX5_becomeAs_91 (k := 1) rfl ?_
  refine vGetR F (t := a1 + 6) dX5_becomeAs_92 fa_X5_27 ha1.1 rfl ?_
  refine vIconst F (v := 0) dX5_becomeAs_95 k_0 ?_
  refine vAloadN F dX5_becomeAs_96 (k := 0) rfl ?_
  refine vGetR F (t := x + 6) dX5_becomeAs_97 fa_X5_27 hx.1 rfl ?_
  refine vIconst F (v := 0) dX5_becomeAs_100 k_0 ?_
  refine vBipush F (v := 8) dX5_becomeAs_101 kb_8 ?_
  obtain ⟨g6, h⟩ := okgq h
  refine vCopyI F dX5_becomeAs_103 kp_X5_62 ha1.2.2.2.2.2.2.1 hx.2.2.2.2.2.2.1 g6 (Nat.le_of_ble_eq_true rfl) ?_
  refine vAloadN F dX5_becomeAs_106 (k := 1) rfl ?_
  refine vGetR F (t := a1 + 7) dX5_becomeAs_107 fa_X5_30 ha1.1 rfl ?_
  refine vIconst F (v := 0) dX5_becomeAs_110 k_0 ?_
  refine vAloadN F dX5_becomeAs_111 (k := 0) rfl ?_
  refine vGetR F (t := x + 7) dX5_becomeAs_112 fa_X5_30 hx.1 rfl ?_
  refine vIconst F (v := 0) dX5_becomeAs_115 k_0 ?_
  refine vBipush F (v := 8) dX5_becomeAs_116 kb_8 ?_
  obtain ⟨g7, h⟩ := okgq h
  refine vCopyI F dX5_becomeAs_118 kp_X5_62 ha1.2.2.2.2.2.2.2.1 hx.2.2.2.2.2.2.2.1 g7 (Nat.le_of_ble_eq_true rfl) ?_
  refine vAloadN F dX5_becomeAs_121 (k := 1) rfl ?_
  refine vGetR F (t := a1 + 8) dX5_becomeAs_122 fa_X5_33 ha1.1 rfl ?_
  refine vIconst F (v := 0) dX5_becomeAs_125 k_0 ?_
  refine vAloadN F dX5_becomeAs_126 (k := 0) rfl ?_
  refine vGetR F (t := x + 8) dX5_becomeAs_127 fa_X5_33 hx.1 rfl ?_
  refine vIconst F (v := 0) dX5_becomeAs_130 k_0 ?_
  refine vBipush F (v := 8) dX5_becomeAs_131 kb_8 ?_
  obtain ⟨g8, h⟩ := okgq h
  refine vCopyI F dX5_becomeAs_133 kp_X5_62 ha1.2.2.2.2.2.2.2.2.1 hx.2.2.2.2.2.2.2.2.1 g8 (Nat.le_of_ble_eq_true rfl) ?_
  refine vAloadN F dX5_becomeAs_136 (k := 0) rfl ?_
  refine vAloadN F dX5_becomeAs_137 (k := 1) rfl ?_
  refine vGetI F dX5_becomeAs_138 fa_X5_68 ha1.1 rfl ?_
  refine vPutI F dX5_becomeAs_141 fw_X5_68 hx.1 rfl ⟨rfl, rfl⟩ ?_
  refine vAloadN F dX5_becomeAs_144 (k := 1) rfl ?_
  refine vGetR F (t := a1 + 9) dX5_becomeAs_145 fa_X5_36 ha1.1 rfl ?_
  refine vIconst F (v := 0) dX5_becomeAs_148 k_0 ?_
  refine vAloadN F dX5_becomeAs_149 (k := 0) rfl ?_
  refine vGetR F (t := x + 9) dX5_becomeAs_150 fa_X5_36 hx.1 rfl ?_
  refine vIconst F (v := 0) dX5_becomeAs_153 k_0 ?_
  refine vBipush F (v := 12) dX5_becomeAs_154 kb_12 ?_
  obtain ⟨g9, h⟩ := okgq h
  refine vCopyI F dX5_becomeAs_156 kp_X5_62 ha1.2.2.2.2.2.2.2.2.2 hx.2.2.2.2.2.2.2.2.2 g9 (Nat.le_of_ble_eq_true rfl) ?_
  refine vAloadN F dX5_becomeAs_159 (k := 0) rfl ?_
  refine vAloadN F dX5_becomeAs_160 (k := 1) rfl ?_
  refine vGetI F dX5_becomeAs_161 fa_X5_39 ha1.1 rfl ?_
  refine vPutI F dX5_becomeAs_164 fw_X5_39 hx.1 rfl ⟨rfl, rfl⟩ ?_
  have z := okS h
  exact vVret F dX5_becomeAs_167 z
def NB_place (m : Mm) (a1 : Int32) (a2 : Int32) (a3 : Int32) : Option (Int32 × Mm) :=
  if a1 < 0 then
 (some ((-1), m))
 else (if a1 ≤ 6 then
 (if a2 < 0 then
 (some ((-2), m))
 else (if 9 < a2 then
 (some ((-2), m))
 else (if a3 < 0 then
 (some ((-2), m))
 else (if a3 ≤ 99 then
 (if (m.1 11 0) < 7 then
 ((Wo_addPlace 11 m a1 a2 a3).bind fun r1 =>
  some (r1.1, r1.2))
 else (some ((-4), m)))
 else (some ((-2), m))))))
 else (some ((-1), m)))
set_option maxRecDepth 20000 in
set_option maxHeartbeats 4000000 in
theorem NB_place_ok {G : Gw} (hG : gOk G) (hs : gsh G = shC) {a1 : Int32} {a2 : Int32} {a3 : Int32} {m : Mm} {P : Option Value → Mm → Prop} (h : mjO (NB_place m a1 a2 a3) (fun r => P (some (.int r.1)) r.2)) : mjR G 1 yX6_place cX6_place 4 (some .int) [.ref (gr G 0), .int a1, .int a2, .int a3] m P := by
  refine mjR_of hG (by decide) (Nat.le_of_ble_eq_true rfl) ?_
  intro X F
  have F : mjF G X cX6_place RX6 4 1 (some .int) := F
  show mjV G X 4 0 [(0, .ref (gr G 0)), (1, .int a1), (2, .int a2), (3, .int a3)] [] m P
  unfold NB_place at h
  refine vIloadN F dX6_place_0 (k := 1) rfl ?_
  refine vIfLt F (tgt := 10) dX6_place_1 (by decide) (fun c8 => ?_) (fun c8 => ?_)
  · replace h := okT h c8
    refine vIconst F (v := (-1)) dX6_place_10 k_m1 ?_
    have z := okS h
    exact vIret F dX6_place_11 z
  · replace h := okF h c8
    refine vIloadN F dX6_place_4 (k := 1) rfl ?_
    refine vBipush F (v := 6) dX6_place_5 kb_6 ?_
    refine vIcmpLe F (tgt := 12) dX6_place_7 (by decide) (fun c7 => ?_) (fun c7 => ?_)
    · replace h := okT h c7
      refine vIloadN F dX6_place_12 (k := 2) rfl ?_
      refine vIfLt F (tgt := 32) dX6_place_13 (by decide) (fun c6 => ?_) (fun c6 => ?_)
      · replace h := okT h c6
        refine vBipush F (v := (-2)) dX6_place_32 kb_m2 ?_
        have z := okS h
        exact vIret F dX6_place_34 z
      · replace h := okF h c6
        refine vIloadN F dX6_place_16 (k := 2) rfl ?_
        refine vBipush F (v := 9) dX6_place_17 kb_9 ?_
        refine vIcmpGt F (tgt := 32) dX6_place_19 (by decide) (fun c5 => ?_) (fun c5 => ?_)
        · replace h := okT h c5
          refine vBipush F (v := (-2)) dX6_place_32 kb_m2 ?_
          have z := okS h
          exact vIret F dX6_place_34 z
        · replace h := okF h c5
          refine vIloadN F dX6_place_22 (k := 3) rfl ?_
          refine vIfLt F (tgt := 32) dX6_place_23 (by decide) (fun c4 => ?_) (fun c4 => ?_)
          · replace h := okT h c4
            refine vBipush F (v := (-2)) dX6_place_32 kb_m2 ?_
            have z := okS h
            exact vIret F dX6_place_34 z
          · replace h := okF h c4
            refine vIloadN F dX6_place_26 (k := 3) rfl ?_
            refine vBipush F (v := 99) dX6_place_27 kb_99 ?_
            refine vIcmpLe F (tgt := 35) dX6_place_29 (by decide) (fun c3 => ?_) (fun c3 => ?_)
            · replace h := okT h c3
              refine vAloadN F dX6_place_35 (k := 0) rfl ?_
              refine vGetR F (t := 11) dX6_place_36 fa_X6_22 (cqC_0 hs) rfl ?_
              refine vGetI F dX6_place_39 fa_X6_61 (is_X5_11 hs).1 rfl ?_
              refine vBipush F (v := 7) dX6_place_42 kb_7 ?_
              refine vIcmpLt F (tgt := 50) dX6_place_44 (by decide) (fun c2 => ?_) (fun c2 => ?_)
              · replace h := okT h c2
                refine vAloadN F dX6_place_50 (k := 0) rfl ?_
                refine vGetR F (t := 11) dX6_place_51 fa_X6_22 (cqC_0 hs) rfl ?_
                refine vIloadN F dX6_place_54 (k := 1) rfl ?_
                refine vIloadN F dX6_place_55 (k := 2) rfl ?_
                refine vIloadN F dX6_place_56 (k := 3) rfl ?_
                refine vCallV F (d' := 0) (x := 11) (T := TX5) (N := 13) (As := [.int a1, .int a2, .int a3]) (st := []) dX6_place_57 lk_X6_65 my_X5_addPlace mv_X5_addPlace (is_X5_11 hs).1 rfl (by decide) rfl rfl (Nat.le_of_ble_eq_true rfl) (Wo_addPlace_ok hG hs (is_X5_11 hs) (okB h fun r1 h => ?_))
                show mjV G X 4 60 [(0, .ref (gr G 0)), (1, .int a1), (2, .int a2), (3, .int a3)] [.int (r1.1)] (r1.2) P
                have z := okS h
                exact vIret F dX6_place_60 z
              · replace h := okF h c2
                refine vBipush F (v := (-4)) dX6_place_47 kb_m4 ?_
                have z := okS h
                exact vIret F dX6_place_49 z
            · replace h := okF h c3
              refine vBipush F (v := (-2)) dX6_place_32 kb_m2 ?_
              have z := okS h
              exact vIret F dX6_place_34 z
    · replace h := okF h c7
      refine vIconst F (v := (-1)) dX6_place_10 k_m1 ?_
      have z := okS h
      exact vIret F dX6_place_11 z
def NB_holding (m : Mm) : Option (Nat) :=
  if (m.1 11 12) < 0 then
 (some 31)
 else (if 6 ≤ (m.1 11 12) then
 (some 31)
 else (ga (m.1 11 12) 6 (some (37 + 5 * (m.1 11 12).toNatClampNeg))))
set_option maxRecDepth 20000 in
set_option maxHeartbeats 4000000 in
theorem NB_holding_ok {G : Gw} (hG : gOk G) (hs : gsh G = shC) {m : Mm} {P : Option Value → Mm → Prop} (h : mjO (NB_holding m) (fun r => P (some (.ref (gr G r))) m)) : mjR G 0 yX6_holding cX6_holding 1 (some (.object "NamesBack$Land")) [.ref (gr G 0)] m P := by
  refine mjR_of hG (by decide) (Nat.le_of_ble_eq_true rfl) ?_
  intro X F
  have F : mjF G X cX6_holding RX6 1 0 (some (.object "NamesBack$Land")) := F
  show mjV G X 1 0 [(0, .ref (gr G 0))] [] m P
  unfold NB_holding at h
  refine vAloadN F dX6_holding_0 (k := 0) rfl ?_
  refine vGetR F (t := 11) dX6_holding_1 fa_X6_22 (cqC_0 hs) rfl ?_
  refine vGetI F dX6_holding_4 fa_X6_150 (is_X5_11 hs).1 rfl ?_
  refine vIfLt F (tgt := 37) dX6_holding_7 (by decide) (fun c3 => ?_) (fun c3 => ?_)
  · replace h := okT h c3
    refine vAloadN F dX6_holding_37 (k := 0) rfl ?_
    refine vGetR F (t := 31) dX6_holding_38 fa_X6_32 (cqC_0 hs) rfl ?_
    have z := okS h
    exact vAret F dX6_holding_41 (Or.inl ⟨_, rfl⟩) z
  · replace h := okF h c3
    refine vAloadN F dX6_holding_10 (k := 0) rfl ?_
    refine vGetR F (t := 11) dX6_holding_11 fa_X6_22 (cqC_0 hs) rfl ?_
    refine vGetI F dX6_holding_14 fa_X6_150 (is_X5_11 hs).1 rfl ?_
    refine vBipush F (v := 6) dX6_holding_17 kb_6 ?_
    refine vIcmpGe F (tgt := 37) dX6_holding_19 (by decide) (fun c2 => ?_) (fun c2 => ?_)
    · replace h := okT h c2
      refine vAloadN F dX6_holding_37 (k := 0) rfl ?_
      refine vGetR F (t := 31) dX6_holding_38 fa_X6_32 (cqC_0 hs) rfl ?_
      have z := okS h
      exact vAret F dX6_holding_41 (Or.inl ⟨_, rfl⟩) z
    · replace h := okF h c2
      refine vAloadN F dX6_holding_22 (k := 0) rfl ?_
      refine vGetR F (t := 36) dX6_holding_23 fa_X6_36 (cqC_0 hs) rfl ?_
      refine vAloadN F dX6_holding_26 (k := 0) rfl ?_
      refine vGetR F (t := 11) dX6_holding_27 fa_X6_22 (cqC_0 hs) rfl ?_
      refine vGetI F dX6_holding_30 fa_X6_150 (is_X5_11 hs).1 rfl ?_
      obtain ⟨g1, h⟩ := okga h
      refine vAald4 F dX6_holding_33 (cqC_36 hs) g1 ?_
      show mjV G X 1 34 [(0, .ref (gr G 0))] [.ref (gr G (37 + 5 * (m.1 11 12).toNatClampNeg))] m P
      refine vGoto F (tgt := 41) dX6_holding_34 (by decide) ?_
      have z := okS h
      exact vAret F dX6_holding_41 (Or.inl ⟨_, rfl⟩) z
noncomputable def NB_look (m : Mm) : Option (Mm) :=
  (NB_holding m).bind fun r1 =>
  gq (isL r1) ((Jo_findSizes m r1).bind fun r3 =>
  (Jo_findLongs r3).bind fun r4 =>
  (Jo_findWays r4).bind fun r5 =>
  (Jo_findTowards r5).bind fun r6 =>
  (Jo_findSteps r6).bind fun r7 =>
  some r7)
set_option maxRecDepth 20000 in
set_option maxHeartbeats 4000000 in
theorem NB_look_ok {G : Gw} (hG : gOk G) (hs : gsh G = shC) {m : Mm} {P : Option Value → Mm → Prop} (h : mjO (NB_look m) (fun r => P (some (.ref (gr G 1))) r)) : mjR G 4 yX6_look cX6_look 1 (some (.object "NamesBack$Journeys")) [.ref (gr G 0)] m P := by
  refine mjR_of hG (by decide) (Nat.le_of_ble_eq_true rfl) ?_
  intro X F
  have F : mjF G X cX6_look RX6 1 4 (some (.object "NamesBack$Journeys")) := F
  show mjV G X 1 0 [(0, .ref (gr G 0))] [] m P
  unfold NB_look at h
  refine vAloadN F dX6_look_0 (k := 0) rfl ?_
  refine vGetR F (t := 1) dX6_look_1 fa_X6_12 (cqC_0 hs) rfl ?_
  refine vAloadN F dX6_look_4 (k := 0) rfl ?_
  refine vCallV F (d' := 0) (x := 0) (T := TX6) (N := 10) (As := []) (st := [.ref (gr G 1)]) dX6_look_5 lk_X6_153 my_X6_holding mv_X6_holding (cqC_0 hs) rfl (by decide) rfl rfl (Nat.le_of_ble_eq_true rfl) (NB_holding_ok hG hs (okB h fun r1 h => ?_))
  show mjV G X 1 8 [(0, .ref (gr G 0))] [.ref (gr G r1), .ref (gr G 1)] m P
  obtain ⟨g2, h⟩ := okgq h
  refine vCallV F (d' := 3) (x := 1) (T := TX1) (N := 15) (As := [.ref (gr G r1)]) (st := []) dX6_look_8 lk_X6_304 my_X1_findSizes mv_X1_findSizes (cqC_1 hs) rfl (by decide) rfl rfl (Nat.le_of_ble_eq_true rfl) (Jo_findSizes_ok hG hs (isL_ok hs g2) (okB h fun r3 h => ?_))
  show mjV G X 1 11 [(0, .ref (gr G 0))] [] r3 P
  refine vAloadN F dX6_look_11 (k := 0) rfl ?_
  refine vGetR F (t := 1) dX6_look_12 fa_X6_12 (cqC_0 hs) rfl ?_
  refine vCallV F (d' := 1) (x := 1) (T := TX1) (N := 15) (As := []) (st := []) dX6_look_15 lk_X6_308 my_X1_findLongs mv_X1_findLongs (cqC_1 hs) rfl (by decide) rfl rfl (Nat.le_of_ble_eq_true rfl) (Jo_findLongs_ok hG hs (okB h fun r4 h => ?_))
  show mjV G X 1 18 [(0, .ref (gr G 0))] [] r4 P
  refine vAloadN F dX6_look_18 (k := 0) rfl ?_
  refine vGetR F (t := 1) dX6_look_19 fa_X6_12 (cqC_0 hs) rfl ?_
  refine vCallV F (d' := 1) (x := 1) (T := TX1) (N := 15) (As := []) (st := []) dX6_look_22 lk_X6_311 my_X1_findWays mv_X1_findWays (cqC_1 hs) rfl (by decide) rfl rfl (Nat.le_of_ble_eq_true rfl) (Jo_findWays_ok hG hs (okB h fun r5 h => ?_))
  show mjV G X 1 25 [(0, .ref (gr G 0))] [] r5 P
  refine vAloadN F dX6_look_25 (k := 0) rfl ?_
  refine vGetR F (t := 1) dX6_look_26 fa_X6_12 (cqC_0 hs) rfl ?_
  refine vCallV F (d' := 3) (x := 1) (T := TX1) (N := 15) (As := []) (st := []) dX6_look_29 lk_X6_314 my_X1_findTowards mv_X1_findTowards (cqC_1 hs) rfl (by decide) rfl rfl (Nat.le_of_ble_eq_true rfl) (Jo_findTowards_ok hG hs (okB h fun r6 h => ?_))
  show mjV G X 1 32 [(0, .ref (gr G 0))] [] r6 P
  refine vAloadN F dX6_look_32 (k := 0) rfl ?_
  refine vGetR F (t := 1) dX6_look_33 fa_X6_12 (cqC_0 hs) rfl ?_
  refine vCallV F (d' := 3) (x := 1) (T := TX1) (N := 15) (As := []) (st := []) dX6_look_36 lk_X6_317 my_X1_findSteps mv_X1_findSteps (cqC_1 hs) rfl (by decide) rfl rfl (Nat.le_of_ble_eq_true rfl) (Jo_findSteps_ok hG hs (okB h fun r7 h => ?_))
  show mjV G X 1 39 [(0, .ref (gr G 0))] [] r7 P
  refine vAloadN F dX6_look_39 (k := 0) rfl ?_
  refine vGetR F (t := 1) dX6_look_40 fa_X6_12 (cqC_0 hs) rfl ?_
  have z := okS h
  exact vAret F dX6_look_43 (Or.inl ⟨_, rfl⟩) z
noncomputable def NB_of (m : Mm) (a1 : Int32) (a2 : Int32) : Option (Int32 × Mm) :=
  if (Wo_has 11 m a1) = true then
 (if a2 = 0 then
 (ga a1 7 (some (m.1 (11 + 1) a1.toNatClampNeg, m)))
 else (if a2 = 1 then
 (ga a1 7 (some (m.1 (11 + 2) a1.toNatClampNeg, m)))
 else (if a2 = 2 then
 (ga a1 7 (some (m.1 (11 + 3) a1.toNatClampNeg, m)))
 else (if a2 = 3 then
 ((NB_look m).bind fun r8 =>
  ga a1 7 (some (r8.1 3 a1.toNatClampNeg, r8)))
 else (if a2 = 4 then
 (ga a1 7 (some (m.1 (11 + 5) a1.toNatClampNeg, m)))
 else (if a2 = 5 then
 ((Wo_roadsOf 11 m a1).bind fun r13 =>
  some (r13, m))
 else (some ((-1), m))))))))
 else (some ((-1), m))
set_option maxRecDepth 20000 in
set_option maxHeartbeats 4000000 in
theorem NB_of_ok {G : Gw} (hG : gOk G) (hs : gsh G = shC) {a1 : Int32} {a2 : Int32} {m : Mm} {P : Option Value → Mm → Prop} (h : mjO (NB_of m a1 a2) (fun r => P (some (.int r.1)) r.2)) : mjR G 5 yX6_of cX6_of 3 (some .int) [.ref (gr G 0), .int a1, .int a2] m P := by
  refine mjR_of hG (by decide) (Nat.le_of_ble_eq_true rfl) ?_
  intro X F
  have F : mjF G X cX6_of RX6 3 5 (some .int) := F
  show mjV G X 3 0 [(0, .ref (gr G 0)), (1, .int a1), (2, .int a2)] [] m P
  unfold NB_of at h
  refine vAloadN F dX6_of_0 (k := 0) rfl ?_
  refine vGetR F (t := 11) dX6_of_1 fa_X6_22 (cqC_0 hs) rfl ?_
  refine vIloadN F dX6_of_4 (k := 1) rfl ?_
  refine vCallV F (d' := 0) (x := 11) (T := TX5) (N := 13) (As := [.int a1]) (st := []) dX6_of_5 lk_X6_69 my_X5_has mv_X5_has (is_X5_11 hs).1 rfl (by decide) rfl rfl (Nat.le_of_ble_eq_true rfl) (Wo_has_ok hG hs (is_X5_11 hs) ?_)
  show mjV G X 3 8 [(0, .ref (gr G 0)), (1, .int a1), (2, .int a2)] [.int (bI (Wo_has 11 m a1))] m P
  refine vIfNeB F (tgt := 13) dX6_of_8 (by decide) (fun c14 => ?_) (fun c14 => ?_)
  · replace h := okT h c14
    refine vIloadN F dX6_of_13 (k := 2) rfl ?_
    by_cases c1 : a2 = 0
    · replace h := okT h c1
      refine vTabIn F (tgt := 52) dX6_of_14 c1 (by decide) (by decide) rfl (by decide) ?_
      refine vAloadN F dX6_of_52 (k := 0) rfl ?_
      refine vGetR F (t := 11) dX6_of_53 fa_X6_22 (cqC_0 hs) rfl ?_
      refine vGetR F (t := 11 + 1) dX6_of_56 fa_X6_73 (is_X5_11 hs).1 rfl ?_
      refine vIloadN F dX6_of_59 (k := 1) rfl ?_
      obtain ⟨g2, h⟩ := okga h
      refine vIald F dX6_of_60 (is_X5_11 hs).2.1 g2 ?_
      have z := okS h
      exact vIret F dX6_of_61 z
    replace h := okF h c1
    by_cases c3 : a2 = 1
    · replace h := okT h c3
      refine vTabIn F (tgt := 62) dX6_of_14 c3 (by decide) (by decide) rfl (by decide) ?_
      refine vAloadN F dX6_of_62 (k := 0) rfl ?_
      refine vGetR F (t := 11) dX6_of_63 fa_X6_22 (cqC_0 hs) rfl ?_
      refine vGetR F (t := 11 + 2) dX6_of_66 fa_X6_77 (is_X5_11 hs).1 rfl ?_
      refine vIloadN F dX6_of_69 (k := 1) rfl ?_
      obtain ⟨g4, h⟩ := okga h
      refine vIald F dX6_of_70 (is_X5_11 hs).2.2.1 g4 ?_
      have z := okS h
      exact vIret F dX6_of_71 z
    replace h := okF h c3
    by_cases c5 : a2 = 2
    · replace h := okT h c5
      refine vTabIn F (tgt := 72) dX6_of_14 c5 (by decide) (by decide) rfl (by decide) ?_
      refine vAloadN F dX6_of_72 (k := 0) rfl ?_
      refine vGetR F (t := 11) dX6_of_73 fa_X6_22 (cqC_0 hs) rfl ?_
      refine vGetR F (t := 11 + 3) dX6_of_76 fa_X6_80 (is_X5_11 hs).1 rfl ?_
      refine vIloadN F dX6_of_79 (k := 1) rfl ?_
      obtain ⟨g6, h⟩ := okga h
      refine vIald F dX6_of_80 (is_X5_11 hs).2.2.2.1 g6 ?_
      have z := okS h
      exact vIret F dX6_of_81 z
    replace h := okF h c5
    by_cases c7 : a2 = 3
    · replace h := okT h c7
      refine vTabIn F (tgt := 82) dX6_of_14 c7 (by decide) (by decide) rfl (by decide) ?_
      refine vAloadN F dX6_of_82 (k := 0) rfl ?_
      refine vCallV F (d' := 4) (x := 0) (T := TX6) (N := 10) (As := []) (st := []) dX6_of_83 lk_X6_83 my_X6_look mv_X6_look (cqC_0 hs) rfl (by decide) rfl rfl (Nat.le_of_ble_eq_true rfl) (NB_look_ok hG hs (okB h fun r8 h => ?_))
      show mjV G X 3 86 [(0, .ref (gr G 0)), (1, .int a1), (2, .int a2)] [.ref (gr G 1)] r8 P
      refine vGetR F (t := 3) dX6_of_86 fa_X6_87 (cqC_1 hs) rfl ?_
      refine vIloadN F dX6_of_89 (k := 1) rfl ?_
      obtain ⟨g9, h⟩ := okga h
      refine vIald F dX6_of_90 (cqC_3 hs) g9 ?_
      have z := okS h
      exact vIret F dX6_of_91 z
    replace h := okF h c7
    by_cases c10 : a2 = 4
    · replace h := okT h c10
      refine vTabIn F (tgt := 92) dX6_of_14 c10 (by decide) (by decide) rfl (by decide) ?_
      refine vAloadN F dX6_of_92 (k := 0) rfl ?_
      refine vGetR F (t := 11) dX6_of_93 fa_X6_22 (cqC_0 hs) rfl ?_
      refine vGetR F (t := 11 + 5) dX6_of_96 fa_X6_90 (is_X5_11 hs).1 rfl ?_
      refine vIloadN F dX6_of_99 (k := 1) rfl ?_
      obtain ⟨g11, h⟩ := okga h
      refine vIald F dX6_of_100 (is_X5_11 hs).2.2.2.2.2.1 g11 ?_
      have z := okS h
      exact vIret F dX6_of_101 z
    replace h := okF h c10
    by_cases c12 : a2 = 5
    · replace h := okT h c12
      refine vTabIn F (tgt := 102) dX6_of_14 c12 (by decide) (by decide) rfl (by decide) ?_
      refine vAloadN F dX6_of_102 (k := 0) rfl ?_
      refine vGetR F (t := 11) dX6_of_103 fa_X6_22 (cqC_0 hs) rfl ?_
      refine vIloadN F dX6_of_106 (k := 1) rfl ?_
      refine vCallV F (d' := 1) (x := 11) (T := TX5) (N := 13) (As := [.int a1]) (st := []) dX6_of_107 lk_X6_93 my_X5_roadsOf mv_X5_roadsOf (is_X5_11 hs).1 rfl (by decide) rfl rfl (Nat.le_of_ble_eq_true rfl) (Wo_roadsOf_ok hG hs (is_X5_11 hs) (okB h fun r13 h => ?_))
      show mjV G X 3 110 [(0, .ref (gr G 0)), (1, .int a1), (2, .int a2)] [.int r13] m P
      have z := okS h
      exact vIret F dX6_of_110 z
    replace h := okF h c12
    replace c1 := lv_neT c1 (a := 0) (by decide)
    replace c3 := lv_neT c3 (a := 1) (by decide)
    replace c5 := lv_neT c5 (a := 2) (by decide)
    replace c7 := lv_neT c7 (a := 3) (by decide)
    replace c10 := lv_neT c10 (a := 4) (by decide)
    replace c12 := lv_neT c12 (a := 5) (by decide)
    refine vTabOut F (tgt := 111) dX6_of_14 (by omega) (by decide) ?_
    refine vIconst F (v := (-1)) dX6_of_111 k_m1 ?_
    have z := okS h
    exact vIret F dX6_of_112 z
  · replace h := okF h c14
    refine vIconst F (v := (-1)) dX6_of_11 k_m1 ?_
    have z := okS h
    exact vIret F dX6_of_12 z
