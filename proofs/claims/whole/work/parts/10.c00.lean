def JS_coder (x : List Int32) : Int32 :=
  0
set_option maxRecDepth 20000 in
set_option maxHeartbeats 4000000 in
theorem JS_coder_ok {G : Gw} (hG : gOk G) {adr_x : Nat} {x : List Int32} (hx : mjStr G adr_x x) {m : Mm} {P : Option Value → Mm → Prop} (h : P (some (.int (JS_coder x))) m) : mjR G 0 yJ0_coder_7d493 cJ0_coder_7d493 1 (some .byte) [.ref adr_x] m P := by
  refine mjR_of hG (by decide) (Nat.le_of_ble_eq_true rfl) ?_
  intro X F
  have F : mjF G X cJ0_coder_7d493 RJ0 1 0 (some .byte) := F
  show mjV G X 1 0 [(0, .ref adr_x)] [] m P
  have h : mjO (some (JS_coder x)) (fun r => P (some (.int r)) m) := ⟨_, rfl, h⟩
  unfold JS_coder at h
  refine vGetCS F dJ0_coder_7d493_0 ?_
  refine vIfEq F (tgt := 13) dJ0_coder_7d493_3 (by decide) (fun c1 => absurd c1 (by decide)) (fun c1 => ?_)
  refine vAloadN F dJ0_coder_7d493_6 (k := 0) rfl ?_
  refine vStrCod F dJ0_coder_7d493_7 hx ?_
  refine vGoto F (tgt := 14) dJ0_coder_7d493_10 (by decide) ?_
  have z := okS h
  exact vZret F dJ0_coder_7d493_14 rfl z
def JS_length (x : List Int32) : Int32 :=
  (Int32.ofNat x.length) >>> (0 &&& 31)
set_option maxRecDepth 20000 in
set_option maxHeartbeats 4000000 in
theorem JS_length_ok {G : Gw} (hG : gOk G) {adr_x : Nat} {x : List Int32} (hx : mjStr G adr_x x) {m : Mm} {P : Option Value → Mm → Prop} (h : P (some (.int (JS_length x))) m) : mjR G 1 yJ0_length_8abf5 cJ0_length_8abf5 1 (some .int) [.ref adr_x] m P := by
  refine mjR_of hG (by decide) (Nat.le_of_ble_eq_true rfl) ?_
  intro X F
  have F : mjF G X cJ0_length_8abf5 RJ0 1 1 (some .int) := F
  show mjV G X 1 0 [(0, .ref adr_x)] [] m P
  have h : mjO (some (JS_length x)) (fun r => P (some (.int r)) m) := ⟨_, rfl, h⟩
  unfold JS_length at h
  refine vAloadN F dJ0_length_8abf5_0 (k := 0) rfl ?_
  refine vStrVal F dJ0_length_8abf5_1 hx (fun y1 hy1 => ?_)
  refine vBytLen F dJ0_length_8abf5_4 hy1 ?_
  refine vAloadN F dJ0_length_8abf5_5 (k := 0) rfl ?_
  refine vCallVS F (d' := 0) (As := []) (st := [.int (Int32.ofNat x.length)]) dJ0_length_8abf5_6 lk_J0_335 my_J0_coder_7d493 mv_J0_coder_7d493 hx rfl (by decide) rfl rfl (Nat.le_of_ble_eq_true rfl) (JS_coder_ok hG hx ?_)
  show mjV G X 1 9 [(0, .ref adr_x)] [.int 0, .int (Int32.ofNat x.length)] m P
  refine vIshr F dJ0_length_8abf5_9 ?_
  have z := okS h
  exact vIret F dJ0_length_8abf5_10 z
def JS_isLatin1 (x : List Int32) : Bool :=
  true
set_option maxRecDepth 20000 in
set_option maxHeartbeats 4000000 in
theorem JS_isLatin1_ok {G : Gw} (hG : gOk G) {adr_x : Nat} {x : List Int32} (hx : mjStr G adr_x x) {m : Mm} {P : Option Value → Mm → Prop} (h : P (some (.int (bI (JS_isLatin1 x)))) m) : mjR G 0 yJ0_isLatin1_aae02 cJ0_isLatin1_aae02 1 (some .boolean) [.ref adr_x] m P := by
  refine mjR_of hG (by decide) (Nat.le_of_ble_eq_true rfl) ?_
  intro X F
  have F : mjF G X cJ0_isLatin1_aae02 RJ0 1 0 (some .boolean) := F
  show mjV G X 1 0 [(0, .ref adr_x)] [] m P
  have h : mjO (some (JS_isLatin1 x)) (fun r => P (some (.int (bI r))) m) := ⟨_, rfl, h⟩
  unfold JS_isLatin1 at h
  refine vGetCS F dJ0_isLatin1_aae02_0 ?_
  refine vIfEq F (tgt := 17) dJ0_isLatin1_aae02_3 (by decide) (fun c2 => absurd c2 (by decide)) (fun c2 => ?_)
  refine vAloadN F dJ0_isLatin1_aae02_6 (k := 0) rfl ?_
  refine vStrCod F dJ0_isLatin1_aae02_7 hx ?_
  refine vIfNe F (tgt := 17) dJ0_isLatin1_aae02_10 (by decide) (fun c1 => absurd c1 (by decide)) (fun c1 => ?_)
  refine vIconst F (v := 1) dJ0_isLatin1_aae02_13 k_1 ?_
  refine vGoto F (tgt := 18) dJ0_isLatin1_aae02_14 (by decide) ?_
  have z := okS h
  exact vZret (x := bI true) F dJ0_isLatin1_aae02_18 (nzI _) z
def JP_checkIndex (a1 : Int32) (a2 : Int32) : Option (Int32) :=
  if a1 < 0 then
 (none)
 else (if a1 < a2 then
 (some a1)
 else (none))
set_option maxRecDepth 20000 in
set_option maxHeartbeats 4000000 in
theorem JP_checkIndex_ok {G : Gw} (hG : gOk G) {a1 : Int32} {a2 : Int32} {a3 : Value} (ha3 : a3.category = 1) {m : Mm} {P : Option Value → Mm → Prop} (h : mjO (JP_checkIndex a1 a2) (fun r => P (some (.int r)) m)) : mjR G 0 yJ3_checkIndex_8e157 cJ3_checkIndex_8e157 3 (some .int) [.int a1, .int a2, a3] m P := by
  refine mjR_of hG (by decide) (by have ci : ∀ x : Int32, (Value.int x).category = 1 := fun _ => rfl; simp [lg_sl, ha3, ci]) ?_
  intro X F
  have F : mjF G X cJ3_checkIndex_8e157 RJ3 3 0 (some .int) := F
  show mjV G X 3 0 [(0, .int a1), (1, .int a2), (2, a3)] [] m P
  unfold JP_checkIndex at h
  refine vIloadN F dJ3_checkIndex_8e157_0 (k := 0) rfl ?_
  refine vIfLt F (tgt := 9) dJ3_checkIndex_8e157_1 (by decide) (fun c2 => ?_) (fun c2 => ?_)
  · replace h := okT h c2
    obtain ⟨_, e, _⟩ := h
    cases e
  · replace h := okF h c2
    refine vIloadN F dJ3_checkIndex_8e157_4 (k := 0) rfl ?_
    refine vIloadN F dJ3_checkIndex_8e157_5 (k := 1) rfl ?_
    refine vIcmpLt F (tgt := 16) dJ3_checkIndex_8e157_6 (by decide) (fun c1 => ?_) (fun c1 => ?_)
    · replace h := okT h c1
      refine vIloadN F dJ3_checkIndex_8e157_16 (k := 0) rfl ?_
      have z := okS h
      exact vIret F dJ3_checkIndex_8e157_17 z
    · replace h := okF h c1
      obtain ⟨_, e, _⟩ := h
      cases e
def JS_checkIndex (a1 : Int32) (a2 : Int32) : Option (Unit) :=
  (JP_checkIndex a1 a2).bind fun r2 =>
  some ()
set_option maxRecDepth 20000 in
set_option maxHeartbeats 4000000 in
theorem JS_checkIndex_ok {G : Gw} (hG : gOk G) {a1 : Int32} {a2 : Int32} {m : Mm} {P : Option Value → Mm → Prop} (h : mjO (JS_checkIndex a1 a2) (fun r => P none m)) : mjR G 1 yJ0_checkIndex_df160 cJ0_checkIndex_df160 2 none [.int a1, .int a2] m P := by
  refine mjR_of hG (by decide) (Nat.le_of_ble_eq_true rfl) ?_
  intro X F
  have F : mjF G X cJ0_checkIndex_df160 RJ0 2 1 none := F
  show mjV G X 2 0 [(0, .int a1), (1, .int a2)] [] m P
  unfold JS_checkIndex at h
  refine vIloadN F dJ0_checkIndex_df160_0 (k := 0) rfl ?_
  refine vIloadN F dJ0_checkIndex_df160_1 (k := 1) rfl ?_
  refine vGetU F dJ0_checkIndex_df160_2 (fun u1 hu1 => ?_)
  refine vCallS F (d' := 0) (As := [.int a1, .int a2, u1]) (st := []) dJ0_checkIndex_df160_5 lk_J0_1059 my_J3_checkIndex_8e157 sy_J3_checkIndex_8e157 (by decide) rfl rfl (Nat.le_of_ble_eq_true rfl) (JP_checkIndex_ok hG hu1 (okB h fun r2 h => ?_))
  show mjV G X 2 8 [(0, .int a1), (1, .int a2)] [.int r2] m P
  refine vPop F dJ0_checkIndex_df160_8 rfl ?_
  have z := okS h
  exact vVret F dJ0_checkIndex_df160_9 z
def JL_charAt (a1 : List Int32) (a2 : Int32) : Option (Int32) :=
  (JS_checkIndex a2 (Int32.ofNat a1.length)).bind fun r1 =>
  ga a2 a1.length (gq (decide ((((((a1.getD a2.toNatClampNeg 0) &&& 255).toUInt32 % 65536).toInt32).toUInt32 % 65536).toInt32 = ((((a1.getD a2.toNatClampNeg 0) &&& 255).toUInt32 % 65536).toInt32))) (some ((((a1.getD a2.toNatClampNeg 0) &&& 255).toUInt32 % 65536).toInt32)))
set_option maxRecDepth 20000 in
set_option maxHeartbeats 4000000 in
theorem JL_charAt_ok {G : Gw} (hG : gOk G) {adr_a1 : Nat} {a1 : List Int32} (ha1 : mjByt G adr_a1 a1) {a2 : Int32} {m : Mm} {P : Option Value → Mm → Prop} (h : mjO (JL_charAt a1 a2) (fun r => P (some (.int r)) m)) : mjR G 2 yJ1_charAt_3b067 cJ1_charAt_3b067 2 (some .char) [.ref adr_a1, .int a2] m P := by
  refine mjR_of hG (by decide) (Nat.le_of_ble_eq_true rfl) ?_
  intro X F
  have F : mjF G X cJ1_charAt_3b067 RJ1 2 2 (some .char) := F
  show mjV G X 2 0 [(0, .ref adr_a1), (1, .int a2)] [] m P
  unfold JL_charAt at h
  refine vIloadN F dJ1_charAt_3b067_0 (k := 1) rfl ?_
  refine vAloadN F dJ1_charAt_3b067_1 (k := 0) rfl ?_
  refine vBytLen F dJ1_charAt_3b067_2 ha1 ?_
  refine vCallS F (d' := 1) (As := [.int a2, .int (Int32.ofNat a1.length)]) (st := []) dJ1_charAt_3b067_3 lk_J1_9 my_J0_checkIndex_df160 sy_J0_checkIndex_df160 (by decide) rfl rfl (Nat.le_of_ble_eq_true rfl) (JS_checkIndex_ok hG (okB h fun r1 h => ?_))
  show mjV G X 2 6 [(0, .ref adr_a1), (1, .int a2)] [] m P
  refine vAloadN F dJ1_charAt_3b067_6 (k := 0) rfl ?_
  refine vIloadN F dJ1_charAt_3b067_7 (k := 1) rfl ?_
  obtain ⟨g2, h⟩ := okga h
  refine vBytLd F dJ1_charAt_3b067_8 ha1 g2 ?_
  refine vSipush F (v := 255) dJ1_charAt_3b067_9 ks_255 ?_
  refine vIand F dJ1_charAt_3b067_12 ?_
  refine vI2c F dJ1_charAt_3b067_13 ?_
  obtain ⟨g3, h⟩ := okgq h
  have z := okS h
  exact vZret F dJ1_charAt_3b067_14 (nchr (of_decide_eq_true g3)) z
def JS_charAt (x : List Int32) (a1 : Int32) : Option (Int32) :=
  (JL_charAt x a1).bind fun r2 =>
  gq (decide ((r2.toUInt32 % 65536).toInt32 = r2)) (some r2)
set_option maxRecDepth 20000 in
set_option maxHeartbeats 4000000 in
theorem JS_charAt_ok {G : Gw} (hG : gOk G) {adr_x : Nat} {x : List Int32} (hx : mjStr G adr_x x) {a1 : Int32} {m : Mm} {P : Option Value → Mm → Prop} (h : mjO (JS_charAt x a1) (fun r => P (some (.int r)) m)) : mjR G 3 yJ0_charAt_5068e cJ0_charAt_5068e 2 (some .char) [.ref adr_x, .int a1] m P := by
  refine mjR_of hG (by decide) (Nat.le_of_ble_eq_true rfl) ?_
  intro X F
  have F : mjF G X cJ0_charAt_5068e RJ0 2 3 (some .char) := F
  show mjV G X 2 0 [(0, .ref adr_x), (1, .int a1)] [] m P
  unfold JS_charAt at h
  refine vAloadN F dJ0_charAt_5068e_0 (k := 0) rfl ?_
  refine vCallVS F (d' := 0) (As := []) (st := []) dJ0_charAt_5068e_1 lk_J0_492 my_J0_isLatin1_aae02 mv_J0_isLatin1_aae02 hx rfl (by decide) rfl rfl (Nat.le_of_ble_eq_true rfl) (JS_isLatin1_ok hG hx ?_)
  show mjV G X 2 4 [(0, .ref adr_x), (1, .int a1)] [.int (bI true)] m P
  refine vIfEqB F (tgt := 16) dJ0_charAt_5068e_4 (by decide) (fun c4 => absurd c4 (by decide)) (fun c4 => ?_)
  refine vAloadN F dJ0_charAt_5068e_7 (k := 0) rfl ?_
  refine vStrVal F dJ0_charAt_5068e_8 hx (fun y1 hy1 => ?_)
  refine vIloadN F dJ0_charAt_5068e_11 (k := 1) rfl ?_
  refine vCallS F (d' := 2) (As := [.ref y1, .int a1]) (st := []) dJ0_charAt_5068e_12 lk_J0_495 my_J1_charAt_3b067 sy_J1_charAt_3b067 (by decide) rfl rfl (Nat.le_of_ble_eq_true rfl) (JL_charAt_ok hG hy1 (okB h fun r2 h => ?_))
  show mjV G X 2 15 [(0, .ref adr_x), (1, .int a1)] [.int r2] m P
  obtain ⟨g3, h⟩ := okgq h
  have z := okS h
  exact vZret F dJ0_charAt_5068e_15 (nchr (of_decide_eq_true g3)) z
def JL_canEncode (a1 : Int32) : Bool :=
  if a1 < 0 then
 (false)
 else (if 255 < a1 then
 (false)
 else (true))
set_option maxRecDepth 20000 in
set_option maxHeartbeats 4000000 in
theorem JL_canEncode_ok {G : Gw} (hG : gOk G) {a1 : Int32} {m : Mm} {P : Option Value → Mm → Prop} (h : P (some (.int (bI (JL_canEncode a1)))) m) : mjR G 0 yJ1_canEncode_9a6ad cJ1_canEncode_9a6ad 1 (some .boolean) [.int a1] m P := by
  refine mjR_of hG (by decide) (Nat.le_of_ble_eq_true rfl) ?_
  intro X F
  have F : mjF G X cJ1_canEncode_9a6ad RJ1 1 0 (some .boolean) := F
  show mjV G X 1 0 [(0, .int a1)] [] m P
  have h : mjO (some (JL_canEncode a1)) (fun r => P (some (.int (bI r))) m) := ⟨_, rfl, h⟩
  unfold JL_canEncode at h
  refine vIloadN F dJ1_canEncode_9a6ad_0 (k := 0) rfl ?_
  refine vIfLt F (tgt := 15) dJ1_canEncode_9a6ad_1 (by decide) (fun c2 => ?_) (fun c2 => ?_)
  · replace h := okTT h c2
    refine vIconst F (v := 0) dJ1_canEncode_9a6ad_15 k_0 ?_
    have z := okS h
    exact vZret (x := bI false) F dJ1_canEncode_9a6ad_16 (nzI _) z
  · replace h := okFT h c2
    refine vIloadN F dJ1_canEncode_9a6ad_4 (k := 0) rfl ?_
    refine vSipush F (v := 255) dJ1_canEncode_9a6ad_5 ks_255 ?_
    refine vIcmpGt F (tgt := 15) dJ1_canEncode_9a6ad_8 (by decide) (fun c1 => ?_) (fun c1 => ?_)
    · replace h := okTT h c1
      refine vIconst F (v := 0) dJ1_canEncode_9a6ad_15 k_0 ?_
      have z := okS h
      exact vZret (x := bI false) F dJ1_canEncode_9a6ad_16 (nzI _) z
    · replace h := okFT h c1
      refine vIconst F (v := 1) dJ1_canEncode_9a6ad_11 k_1 ?_
      refine vGoto F (tgt := 16) dJ1_canEncode_9a6ad_12 (by decide) ?_
      have z := okS h
      exact vZret (x := bI true) F dJ1_canEncode_9a6ad_16 (nzI _) z
def JL_indexOfChar_l7 (a1 : List Int32) (a2 : Int32) (a4 : Int32) (s1 : Int32) : Option ((Int32) ⊕ (Unit ⊕ Int32)) :=
  if a4 ≤ s1 then
 (some (.inr (.inl ())))
 else (ga s1 a1.length (if (a1.getD s1.toNatClampNeg 0) = (a2.toInt8.toInt32) then
 (some (.inr (.inr s1)))
 else (some (.inl (s1 + 1)))))
noncomputable def JL_indexOfChar (a1 : List Int32) (a2 : Int32) (a3 : Int32) (a4 : Int32) : Option (Int32) :=
  (iter (JL_indexOfChar_l7 a1 a2 a4) (a3)).bind (Sum.elim (fun e2 => some (-1)) (fun v6 => some v6))
set_option maxRecDepth 20000 in
set_option maxHeartbeats 4000000 in
theorem JL_indexOfChar_ok {G : Gw} (hG : gOk G) {adr_a1 : Nat} {a1 : List Int32} (ha1 : mjByt G adr_a1 a1) {a2 : Int32} {a3 : Int32} {a4 : Int32} {m : Mm} {P : Option Value → Mm → Prop} (h : mjO (JL_indexOfChar a1 a2 a3 a4) (fun r => P (some (.int r)) m)) : mjR G 0 yJ1_indexOfChar_4cfef cJ1_indexOfChar_4cfef 6 (some .int) [.ref adr_a1, .int a2, .int a3, .int a4] m P := by
  refine mjR_of hG (by decide) (Nat.le_of_ble_eq_true rfl) ?_
  intro X F
  have F : mjF G X cJ1_indexOfChar_4cfef RJ1 6 0 (some .int) := F
  show mjV G X 6 0 [(0, .ref adr_a1), (1, .int a2), (2, .int a3), (3, .int a4)] [] m P
  unfold JL_indexOfChar at h
  refine vIloadN F dJ1_indexOfChar_4cfef_0 (k := 1) rfl ?_
  refine vI2b F dJ1_indexOfChar_4cfef_1 ?_
  refine vIstore F (L' := [(4, .int (a2.toInt8.toInt32)), (0, .ref adr_a1), (1, .int a2), (2, .int a3), (3, .int a4)]) dJ1_indexOfChar_4cfef_2 (by decide) rfl ?_
  refine vIloadN F dJ1_indexOfChar_4cfef_4 (k := 3) rfl ?_
  refine vIstore F (L' := [(5, .int a3), (4, .int (a2.toInt8.toInt32)), (0, .ref adr_a1), (1, .int a2), (2, .int a3), (3, .int a4)]) dJ1_indexOfChar_4cfef_5 (by decide) rfl ?_
  refine vSub [2, 5, 1, 0] rfl ?_
  refine okLoop (s0 := (a3)) (T := (fun (s1 : Int32) => mjV G X 6 7 [(0, .ref adr_a1), (3, .int a4), (4, .int (a2.toInt8.toInt32)), (5, .int s1)] [] m P)) (Ve := (Sum.elim (fun (e2 : Unit) => mjV G X 6 31 [] [] m P) (fun (v6 : Int32) => P (some (.int v6)) m))) h ?_ (fun s1 h => ?_)
  · intro q h
    rcases q with e2 | v6
    · refine vIconst F (v := (-1)) dJ1_indexOfChar_4cfef_31 k_m1 ?_
      have z := okS h
      exact vIret F dJ1_indexOfChar_4cfef_32 z
    · have z := okS h
      exact z
  · unfold JL_indexOfChar_l7 at h
    refine vIload F dJ1_indexOfChar_4cfef_7 (k := 3) rfl ?_
    refine vIloadN F dJ1_indexOfChar_4cfef_9 (k := 1) rfl ?_
    refine vIcmpGe F (tgt := 31) dJ1_indexOfChar_4cfef_10 (by decide) (fun c5 => ?_) (fun c5 => ?_)
    · replace h := okT h c5
      refine vSub [] rfl ?_
      have z := okR h
      exact z
    · replace h := okF h c5
      refine vAloadN F dJ1_indexOfChar_4cfef_13 (k := 0) rfl ?_
      refine vIload F dJ1_indexOfChar_4cfef_14 (k := 3) rfl ?_
      obtain ⟨g3, h⟩ := okga h
      refine vBytLd F dJ1_indexOfChar_4cfef_16 ha1 g3 ?_
      refine vIload F dJ1_indexOfChar_4cfef_17 (k := 2) rfl ?_
      refine vIcmpNe F (tgt := 25) dJ1_indexOfChar_4cfef_19 (by decide) (fun c4 => ?_) (fun c4 => ?_)
      · replace h := okF h c4
        refine vIinc F (v := 1) (k := 3) (L' := [(5, .int (s1 + 1)), (0, .ref adr_a1), (3, .int a4), (4, .int (a2.toInt8.toInt32))]) dJ1_indexOfChar_4cfef_25 rfl k_1 (by decide) rfl ?_
        refine vGoto F (tgt := 7) dJ1_indexOfChar_4cfef_28 (by decide) ?_
        refine vSub [1, 2, 3, 0] rfl ?_
        have z := okL h
        exact z
      · replace h := okT h c4
        refine vIload F dJ1_indexOfChar_4cfef_22 (k := 3) rfl ?_
        have z := okR h
        exact vIret F dJ1_indexOfChar_4cfef_24 z
noncomputable def JL_indexOf (a1 : List Int32) (a2 : Int32) (a3 : Int32) (a4 : Int32) : Option (Int32) :=
  if (JL_canEncode a2) = true then
 (if (imax a3 0) < (imin a4 (Int32.ofNat a1.length)) then
 ((JL_indexOfChar a1 a2 (imax a3 0) (imin a4 (Int32.ofNat a1.length))).bind fun r1 =>
  some r1)
 else (some (-1)))
 else (some (-1))
set_option maxRecDepth 20000 in
set_option maxHeartbeats 4000000 in
theorem JL_indexOf_ok {G : Gw} (hG : gOk G) {adr_a1 : Nat} {a1 : List Int32} (ha1 : mjByt G adr_a1 a1) {a2 : Int32} {a3 : Int32} {a4 : Int32} {m : Mm} {P : Option Value → Mm → Prop} (h : mjO (JL_indexOf a1 a2 a3 a4) (fun r => P (some (.int r)) m)) : mjR G 1 yJ1_indexOf_4cfef cJ1_indexOf_4cfef 4 (some .int) [.ref adr_a1, .int a2, .int a3, .int a4] m P := by
  refine mjR_of hG (by decide) (Nat.le_of_ble_eq_true rfl) ?_
  intro X F
  have F : mjF G X cJ1_indexOf_4cfef RJ1 4 1 (some .int) := F
  show mjV G X 4 0 [(0, .ref adr_a1), (1, .int a2), (2, .int a3), (3, .int a4)] [] m P
  unfold JL_indexOf at h
  refine vIloadN F dJ1_indexOf_4cfef_0 (k := 1) rfl ?_
  refine vCallS F (d' := 0) (As := [.int a2]) (st := []) dJ1_indexOf_4cfef_1 lk_J1_88 my_J1_canEncode_9a6ad sy_J1_canEncode_9a6ad (by decide) rfl rfl (Nat.le_of_ble_eq_true rfl) (JL_canEncode_ok hG ?_)
  show mjV G X 4 4 [(0, .ref adr_a1), (1, .int a2), (2, .int a3), (3, .int a4)] [.int (bI (JL_canEncode a2))] m P
  refine vIfNeB F (tgt := 9) dJ1_indexOf_4cfef_4 (by decide) (fun c3 => ?_) (fun c3 => ?_)
  · replace h := okT h c3
    refine vIloadN F dJ1_indexOf_4cfef_9 (k := 2) rfl ?_
    refine vIconst F (v := 0) dJ1_indexOf_4cfef_10 k_0 ?_
    refine vMax F dJ1_indexOf_4cfef_11 km_J1_92 (Nat.le_of_ble_eq_true rfl) ?_
    refine vIstoreN F (L' := [(2, .int (imax a3 0)), (0, .ref adr_a1), (1, .int a2), (3, .int a4)]) dJ1_indexOf_4cfef_14 rfl (by decide) rfl ?_
    refine vIloadN F dJ1_indexOf_4cfef_15 (k := 3) rfl ?_
    refine vAloadN F dJ1_indexOf_4cfef_16 (k := 1) rfl ?_
    refine vBytLen F dJ1_indexOf_4cfef_17 ha1 ?_
    refine vMin F dJ1_indexOf_4cfef_18 km_J1_38 (Nat.le_of_ble_eq_true rfl) ?_
    refine vIstoreN F (L' := [(3, .int (imin a4 (Int32.ofNat a1.length))), (2, .int (imax a3 0)), (0, .ref adr_a1), (1, .int a2)]) dJ1_indexOf_4cfef_21 rfl (by decide) rfl ?_
    refine vIloadN F dJ1_indexOf_4cfef_22 (k := 1) rfl ?_
    refine vIloadN F dJ1_indexOf_4cfef_23 (k := 0) rfl ?_
    refine vIcmpLt F (tgt := 29) dJ1_indexOf_4cfef_24 (by decide) (fun c2 => ?_) (fun c2 => ?_)
    · replace h := okT h c2
      refine vAloadN F dJ1_indexOf_4cfef_29 (k := 2) rfl ?_
      refine vIloadN F dJ1_indexOf_4cfef_30 (k := 3) rfl ?_
      refine vIloadN F dJ1_indexOf_4cfef_31 (k := 1) rfl ?_
      refine vIloadN F dJ1_indexOf_4cfef_32 (k := 0) rfl ?_
      refine vCallS F (d' := 0) (As := [.ref adr_a1, .int a2, .int (imax a3 0), .int (imin a4 (Int32.ofNat a1.length))]) (st := []) dJ1_indexOf_4cfef_33 lk_J1_95 my_J1_indexOfChar_4cfef sy_J1_indexOfChar_4cfef (by decide) rfl rfl (Nat.le_of_ble_eq_true rfl) (JL_indexOfChar_ok hG ha1 (okB h fun r1 h => ?_))
      show mjV G X 4 36 [(3, .int (imin a4 (Int32.ofNat a1.length))), (2, .int (imax a3 0)), (0, .ref adr_a1), (1, .int a2)] [.int r1] m P
      have z := okS h
      exact vIret F dJ1_indexOf_4cfef_36 z
    · replace h := okF h c2
      refine vIconst F (v := (-1)) dJ1_indexOf_4cfef_27 k_m1 ?_
      have z := okS h
      exact vIret F dJ1_indexOf_4cfef_28 z
  · replace h := okF h c3
    refine vIconst F (v := (-1)) dJ1_indexOf_4cfef_7 k_m1 ?_
    have z := okS h
    exact vIret F dJ1_indexOf_4cfef_8 z
noncomputable def JS_indexOf2 (x : List Int32) (a1 : Int32) (a2 : Int32) : Option (Int32) :=
  (JL_indexOf x a1 a2 (JS_length x)).bind fun r2 =>
  some r2
set_option maxRecDepth 20000 in
set_option maxHeartbeats 4000000 in
theorem JS_indexOf2_ok {G : Gw} (hG : gOk G) {adr_x : Nat} {x : List Int32} (hx : mjStr G adr_x x) {a1 : Int32} {a2 : Int32} {m : Mm} {P : Option Value → Mm → Prop} (h : mjO (JS_indexOf2 x a1 a2) (fun r => P (some (.int r)) m)) : mjR G 2 yJ0_indexOf_7cf53 cJ0_indexOf_7cf53 3 (some .int) [.ref adr_x, .int a1, .int a2] m P := by
  refine mjR_of hG (by decide) (Nat.le_of_ble_eq_true rfl) ?_
  intro X F
  have F : mjF G X cJ0_indexOf_7cf53 RJ0 3 2 (some .int) := F
  show mjV G X 3 0 [(0, .ref adr_x), (1, .int a1), (2, .int a2)] [] m P
  unfold JS_indexOf2 at h
  refine vAloadN F dJ0_indexOf_7cf53_0 (k := 0) rfl ?_
  refine vCallVS F (d' := 0) (As := []) (st := []) dJ0_indexOf_7cf53_1 lk_J0_492 my_J0_isLatin1_aae02 mv_J0_isLatin1_aae02 hx rfl (by decide) rfl rfl (Nat.le_of_ble_eq_true rfl) (JS_isLatin1_ok hG hx ?_)
  show mjV G X 3 4 [(0, .ref adr_x), (1, .int a1), (2, .int a2)] [.int (bI true)] m P
  refine vIfEqB F (tgt := 23) dJ0_indexOf_7cf53_4 (by decide) (fun c3 => absurd c3 (by decide)) (fun c3 => ?_)
  refine vAloadN F dJ0_indexOf_7cf53_7 (k := 0) rfl ?_
  refine vStrVal F dJ0_indexOf_7cf53_8 hx (fun y1 hy1 => ?_)
  refine vIloadN F dJ0_indexOf_7cf53_11 (k := 1) rfl ?_
  refine vIloadN F dJ0_indexOf_7cf53_12 (k := 2) rfl ?_
  refine vAloadN F dJ0_indexOf_7cf53_13 (k := 0) rfl ?_
  refine vCallVS F (d' := 1) (As := []) (st := [.int a2, .int a1, .ref y1]) dJ0_indexOf_7cf53_14 lk_J0_505 my_J0_length_8abf5 mv_J0_length_8abf5 hx rfl (by decide) rfl rfl (Nat.le_of_ble_eq_true rfl) (JS_length_ok hG hx ?_)
  show mjV G X 3 17 [(0, .ref adr_x), (1, .int a1), (2, .int a2)] [.int (JS_length x), .int a2, .int a1, .ref y1] m P
  refine vCallS F (d' := 1) (As := [.ref y1, .int a1, .int a2, .int (JS_length x)]) (st := []) dJ0_indexOf_7cf53_17 lk_J0_637 my_J1_indexOf_4cfef sy_J1_indexOf_4cfef (by decide) rfl rfl (Nat.le_of_ble_eq_true rfl) (JL_indexOf_ok hG hy1 (okB h fun r2 h => ?_))
  show mjV G X 3 20 [(0, .ref adr_x), (1, .int a1), (2, .int a2)] [.int r2] m P
  refine vGoto F (tgt := 36) dJ0_indexOf_7cf53_20 (by decide) ?_
  have z := okS h
  exact vIret F dJ0_indexOf_7cf53_36 z
noncomputable def JS_indexOf (x : List Int32) (a1 : Int32) : Option (Int32) :=
  (JS_indexOf2 x a1 0).bind fun r1 =>
  some r1
set_option maxRecDepth 20000 in
set_option maxHeartbeats 4000000 in
theorem JS_indexOf_ok {G : Gw} (hG : gOk G) {adr_x : Nat} {x : List Int32} (hx : mjStr G adr_x x) {a1 : Int32} {m : Mm} {P : Option Value → Mm → Prop} (h : mjO (JS_indexOf x a1) (fun r => P (some (.int r)) m)) : mjR G 3 yJ0_indexOf_0f7a4 cJ0_indexOf_0f7a4 2 (some .int) [.ref adr_x, .int a1] m P := by
  refine mjR_of hG (by decide) (Nat.le_of_ble_eq_true rfl) ?_
  intro X F
  have F : mjF G X cJ0_indexOf_0f7a4 RJ0 2 3 (some .int) := F
  show mjV G X 2 0 [(0, .ref adr_x), (1, .int a1)] [] m P
  unfold JS_indexOf at h
  refine vAloadN F dJ0_indexOf_0f7a4_0 (k := 0) rfl ?_
  refine vIloadN F dJ0_indexOf_0f7a4_1 (k := 1) rfl ?_
  refine vIconst F (v := 0) dJ0_indexOf_0f7a4_2 k_0 ?_
  refine vCallVS F (d' := 2) (As := [.int a1, .int 0]) (st := []) dJ0_indexOf_0f7a4_3 lk_J0_633 my_J0_indexOf_7cf53 mv_J0_indexOf_7cf53 hx rfl (by decide) rfl rfl (Nat.le_of_ble_eq_true rfl) (JS_indexOf2_ok hG hx (okB h fun r1 h => ?_))
  show mjV G X 2 6 [(0, .ref adr_x), (1, .int a1)] [.int r1] m P
  have z := okS h
  exact vIret F dJ0_indexOf_0f7a4_6 z
def JI_bitCount (a1 : Int32) : Int32 :=
  (((((((a1 - ((iushr a1 1) &&& 1431655765)) &&& 858993459) + ((iushr (a1 - ((iushr a1 1) &&& 1431655765)) 2) &&& 858993459)) + (iushr (((a1 - ((iushr a1 1) &&& 1431655765)) &&& 858993459) + ((iushr (a1 - ((iushr a1 1) &&& 1431655765)) 2) &&& 858993459)) 4)) &&& 252645135) + (iushr (((((a1 - ((iushr a1 1) &&& 1431655765)) &&& 858993459) + ((iushr (a1 - ((iushr a1 1) &&& 1431655765)) 2) &&& 858993459)) + (iushr (((a1 - ((iushr a1 1) &&& 1431655765)) &&& 858993459) + ((iushr (a1 - ((iushr a1 1) &&& 1431655765)) 2) &&& 858993459)) 4)) &&& 252645135) 8)) + (iushr ((((((a1 - ((iushr a1 1) &&& 1431655765)) &&& 858993459) + ((iushr (a1 - ((iushr a1 1) &&& 1431655765)) 2) &&& 858993459)) + (iushr (((a1 - ((iushr a1 1) &&& 1431655765)) &&& 858993459) + ((iushr (a1 - ((iushr a1 1) &&& 1431655765)) 2) &&& 858993459)) 4)) &&& 252645135) + (iushr (((((a1 - ((iushr a1 1) &&& 1431655765)) &&& 858993459) + ((iushr (a1 - ((iushr a1 1) &&& 1431655765)) 2) &&& 858993459)) + (iushr (((a1 - ((iushr a1 1) &&& 1431655765)) &&& 858993459) + ((iushr (a1 - ((iushr a1 1) &&& 1431655765)) 2) &&& 858993459)) 4)) &&& 252645135) 8)) 16)) &&& 63
set_option maxRecDepth 20000 in
set_option maxHeartbeats 4000000 in
theorem JI_bitCount_ok {G : Gw} (hG : gOk G) {a1 : Int32} {m : Mm} {P : Option Value → Mm → Prop} (h : P (some (.int (JI_bitCount a1))) m) : mjR G 0 yJ6_bitCount_0f7a4 cJ6_bitCount_0f7a4 1 (some .int) [.int a1] m P := by
  refine mjR_of hG (by decide) (Nat.le_of_ble_eq_true rfl) ?_
  intro X F
  have F : mjF G X cJ6_bitCount_0f7a4 RJ6 1 0 (some .int) := F
  show mjV G X 1 0 [(0, .int a1)] [] m P
  have h : mjO (some (JI_bitCount a1)) (fun r => P (some (.int r)) m) := ⟨_, rfl, h⟩
  unfold JI_bitCount at h
  refine vIloadN F dJ6_bitCount_0f7a4_0 (k := 0) rfl ?_
  refine vIloadN F dJ6_bitCount_0f7a4_1 (k := 0) rfl ?_
  refine vIconst F (v := 1) dJ6_bitCount_0f7a4_2 k_1 ?_
  refine vIushr F (v := iushr a1 1) dJ6_bitCount_0f7a4_3 rfl ?_
  refine vLdcW F dJ6_bitCount_0f7a4_4 kc_J6_265 ?_
  refine vIand F dJ6_bitCount_0f7a4_7 ?_
  refine vIsub F dJ6_bitCount_0f7a4_8 ?_
  refine vIstoreN F (L' := [(0, .int (a1 - ((iushr a1 1) &&& 1431655765)))]) dJ6_bitCount_0f7a4_9 rfl (by decide) rfl ?_
  refine vIloadN F dJ6_bitCount_0f7a4_10 (k := 0) rfl ?_
  refine vLdcW F dJ6_bitCount_0f7a4_11 kc_J6_266 ?_
  refine vIand F dJ6_bitCount_0f7a4_14 ?_
  refine vIloadN F dJ6_bitCount_0f7a4_15 (k := 0) rfl ?_
  refine vIconst F (v := 2) dJ6_bitCount_0f7a4_16 k_2 ?_
  refine vIushr F (v := iushr (a1 - ((iushr a1 1) &&& 1431655765)) 2) dJ6_bitCount_0f7a4_17 rfl ?_
  refine vLdcW F dJ6_bitCount_0f7a4_18 kc_J6_266 ?_
  refine vIand F dJ6_bitCount_0f7a4_21 ?_
  refine vIadd F dJ6_bitCount_0f7a4_22 ?_
  refine vIstoreN F (L' := [(0, .int (((a1 - ((iushr a1 1) &&& 1431655765)) &&& 858993459) + ((iushr (a1 - ((iushr a1 1) &&& 1431655765)) 2) &&& 858993459)))]) dJ6_bitCount_0f7a4_23 rfl (by decide) rfl ?_
  refine vIloadN F dJ6_bitCount_0f7a4_24 (k := 0) rfl ?_
  refine vIloadN F dJ6_bitCount_0f7a4_25 (k := 0) rfl ?_
  refine vIconst F (v := 4) dJ6_bitCount_0f7a4_26 k_4 ?_
  refine vIushr F (v := iushr (((a1 - ((iushr a1 1) &&& 1431655765)) &&& 858993459) + ((iushr (a1 - ((iushr a1 1) &&& 1431655765)) 2) &&& 858993459)) 4) dJ6_bitCount_0f7a4_27 rfl ?_
  refine vIadd F dJ6_bitCount_0f7a4_28 ?_
  refine vLdcW F dJ6_bitCount_0f7a4_29 kc_J6_267 ?_
  refine vIand F dJ6_bitCount_0f7a4_32 ?_
  refine vIstoreN F (L' := [(0, .int (((((a1 - ((iushr a1 1) &&& 1431655765)) &&& 858993459) + ((iushr (a1 - ((iushr a1 1) &&& 1431655765)) 2) &&& 858993459)) + (iushr (((a1 - ((iushr a1 1) &&& 1431655765)) &&& 858993459) + ((iushr (a1 - ((iushr a1 1) &&& 1431655765)) 2) &&& 858993459)) 4)) &&& 252645135))]) dJ6_bitCount_0f7a4_33 rfl (by decide) rfl ?_
  refine vIloadN F dJ6_bitCount_0f7a4_34 (k := 0) rfl ?_
  refine vIloadN F dJ6_bitCount_0f7a4_35 (k := 0) rfl ?_
  refine vBipush F (v := 8) dJ6_bitCount_0f7a4_36 kb_8 ?_
  refine vIushr F (v := iushr (((((a1 - ((iushr a1 1) &&& 1431655765)) &&& 858993459) + ((iushr (a1 - ((iushr a1 1) &&& 1431655765)) 2) &&& 858993459)) + (iushr (((a1 - ((iushr a1 1) &&& 1431655765)) &&& 858993459) + ((iushr (a1 - ((iushr a1 1) &&& 1431655765)) 2) &&& 858993459)) 4)) &&& 252645135) 8) dJ6_bitCount_0f7a4_38 rfl ?_
  refine vIadd F dJ6_bitCount_0f7a4_39 ?_
  refine vIstoreN F (L' := [(0, .int ((((((a1 - ((iushr a1 1) &&& 1431655765)) &&& 858993459) + ((iushr (a1 - ((iushr a1 1) &&& 1431655765)) 2) &&& 858993459)) + (iushr (((a1 - ((iushr a1 1) &&& 1431655765)) &&& 858993459) + ((iushr (a1 - ((iushr a1 1) &&& 1431655765)) 2) &&& 858993459)) 4)) &&& 252645135) + (iushr (((((a1 - ((iushr a1 1) &&& 1431655765)) &&& 858993459) + ((iushr (a1 - ((iushr a1 1) &&& 1431655765)) 2) &&& 858993459)) + (iushr (((a1 - ((iushr a1 1) &&& 1431655765)) &&& 858993459) + ((iushr (a1 - ((iushr a1 1) &&& 1431655765)) 2) &&& 858993459)) 4)) &&& 252645135) 8)))]) dJ6_bitCount_0f7a4_40 rfl (by decide) rfl ?_
  refine vIloadN F dJ6_bitCount_0f7a4_41 (k := 0) rfl ?_
  refine vIloadN F dJ6_bitCount_0f7a4_42 (k := 0) rfl ?_
  refine vBipush F (v := 16) dJ6_bitCount_0f7a4_43 kb_16 ?_
  refine vIushr F (v := iushr ((((((a1 - ((iushr a1 1) &&& 1431655765)) &&& 858993459) + ((iushr (a1 - ((iushr a1 1) &&& 1431655765)) 2) &&& 858993459)) + (iushr (((a1 - ((iushr a1 1) &&& 1431655765)) &&& 858993459) + ((iushr (a1 - ((iushr a1 1) &&& 1431655765)) 2) &&& 858993459)) 4)) &&& 252645135) + (iushr (((((a1 - ((iushr a1 1) &&& 1431655765)) &&& 858993459) + ((iushr (a1 - ((iushr a1 1) &&& 1431655765)) 2) &&& 858993459)) + (iushr (((a1 - ((iushr a1 1) &&& 1431655765)) &&& 858993459) + ((iushr (a1 - ((iushr a1 1) &&& 1431655765)) 2) &&& 858993459)) 4)) &&& 252645135) 8)) 16) dJ6_bitCount_0f7a4_45 rfl ?_
  refine vIadd F dJ6_bitCount_0f7a4_46 ?_
  refine vIstoreN F (L' := [(0, .int (((((((a1 - ((iushr a1 1) &&& 1431655765)) &&& 858993459) + ((iushr (a1 - ((iushr a1 1) &&& 1431655765)) 2) &&& 858993459)) + (iushr (((a1 - ((iushr a1 1) &&& 1431655765)) &&& 858993459) + ((iushr (a1 - ((iushr a1 1) &&& 1431655765)) 2) &&& 858993459)) 4)) &&& 252645135) + (iushr (((((a1 - ((iushr a1 1) &&& 1431655765)) &&& 858993459) + ((iushr (a1 - ((iushr a1 1) &&& 1431655765)) 2) &&& 858993459)) + (iushr (((a1 - ((iushr a1 1) &&& 1431655765)) &&& 858993459) + ((iushr (a1 - ((iushr a1 1) &&& 1431655765)) 2) &&& 858993459)) 4)) &&& 252645135) 8)) + (iushr ((((((a1 - ((iushr a1 1) &&& 1431655765)) &&& 858993459) + ((iushr (a1 - ((iushr a1 1) &&& 1431655765)) 2) &&& 858993459)) + (iushr (((a1 - ((iushr a1 1) &&& 1431655765)) &&& 858993459) + ((iushr (a1 - ((iushr a1 1) &&& 1431655765)) 2) &&& 858993459)) 4)) &&& 252645135) + (iushr (((((a1 - ((iushr a1 1) &&& 1431655765)) &&& 858993459) + ((iushr (a1 - ((iushr a1 1) &&& 1431655765)) 2) &&& 858993459)) + (iushr (((a1 - ((iushr a1 1) &&& 1431655765)) &&& 858993459) + ((iushr (a1 - ((iushr a1 1) &&& 1431655765)) 2) &&& 858993459)) 4)) &&& 252645135) 8)) 16)))]) dJ6_bitCount_0f7a4_47 rfl (by decide) rfl ?_
  refine vIloadN F dJ6_bitCount_0f7a4_48 (k := 0) rfl ?_
  refine vBipush F (v := 63) dJ6_bitCount_0f7a4_49 kb_63 ?_
  refine vIand F dJ6_bitCount_0f7a4_51 ?_
  have z := okS h
  exact vIret F dJ6_bitCount_0f7a4_52 z
def JA_fill_l6 (n_a1 : Nat) (a1 : Nat) (a2 : Int64) (s1 : Int32 × Mm) : Option ((Int32 × Mm) ⊕ Mm) :=
  if (Int32.ofNat n_a1) ≤ (s1.1) then
 (some (.inr (s1.2)))
 else (ga (s1.1) n_a1 (some (.inl ((s1.1) + 1, sl (s1.2) a1 (s1.1).toNatClampNeg a2))))
noncomputable def JA_fill (m : Mm) (n_a1 : Nat) (a1 : Nat) (a2 : Int64) : Option (Mm) :=
  (iter (JA_fill_l6 n_a1 a1 a2) (0, m)).bind fun e2 =>
  some e2
set_option maxRecDepth 20000 in
set_option maxHeartbeats 4000000 in
theorem JA_fill_ok {G : Gw} (hG : gOk G) {n_a1 : Nat} {a1 : Nat} (ha1 : (gsh G)[a1]? = some (1, n_a1, [])) {a2 : Int64} {m : Mm} {P : Option Value → Mm → Prop} (h : mjO (JA_fill m n_a1 a1 a2) (fun r => P none r)) : mjR G 0 yJ7_fill_d0a16 cJ7_fill_d0a16 5 none [.ref (gr G a1), .long a2] m P := by
  refine mjR_of hG (by decide) (Nat.le_of_ble_eq_true rfl) ?_
  intro X F
  have F : mjF G X cJ7_fill_d0a16 RJ7 5 0 none := F
  show mjV G X 5 0 [(0, .ref (gr G a1)), (1, .long a2)] [] m P
  unfold JA_fill at h
  refine vIconst F (v := 0) dJ7_fill_d0a16_0 k_0 ?_
  refine vIstoreN F (L' := [(3, .int 0), (0, .ref (gr G a1)), (1, .long a2)]) dJ7_fill_d0a16_1 rfl (by decide) rfl ?_
  refine vAloadN F dJ7_fill_d0a16_2 (k := 1) rfl ?_
  refine vAlen1 F (v := Int32.ofNat n_a1) dJ7_fill_d0a16_3 ha1 rfl ?_
  refine vIstore F (L' := [(4, .int (Int32.ofNat n_a1)), (3, .int 0), (0, .ref (gr G a1)), (1, .long a2)]) dJ7_fill_d0a16_4 (by decide) rfl ?_
  refine vSub [2, 3, 1, 0] rfl ?_
  refine okLoop (s0 := (0, m)) (T := (fun (s1 : Int32 × Mm) => mjV G X 5 6 [(0, .ref (gr G a1)), (1, .long a2), (3, .int (s1.1)), (4, .int (Int32.ofNat n_a1))] [] (s1.2) P)) (Ve := (fun (e2 : Mm) => mjV G X 5 22 [] [] e2 P)) h ?_ (fun s1 h => ?_)
  · intro e2 h
    have z := okS h
    exact vVret F dJ7_fill_d0a16_22 z
  · unfold JA_fill_l6 at h
    refine vIloadN F dJ7_fill_d0a16_6 (k := 2) rfl ?_
    refine vIload F dJ7_fill_d0a16_7 (k := 3) rfl ?_
    refine vIcmpGe F (tgt := 22) dJ7_fill_d0a16_9 (by decide) (fun c4 => ?_) (fun c4 => ?_)
    · replace h := okT h c4
      refine vSub [] rfl ?_
      have z := okR h
      exact z
    · replace h := okF h c4
      refine vAloadN F dJ7_fill_d0a16_12 (k := 0) rfl ?_
      refine vIloadN F dJ7_fill_d0a16_13 (k := 2) rfl ?_
      refine vLloadN F dJ7_fill_d0a16_14 (k := 1) rfl ?_
      obtain ⟨g3, h⟩ := okga h
      refine vLast F dJ7_fill_d0a16_15 ha1 g3 ?_
      refine vIinc F (v := 1) (k := 2) (L' := [(3, .int ((s1.1) + 1)), (0, .ref (gr G a1)), (1, .long a2), (4, .int (Int32.ofNat n_a1))]) dJ7_fill_d0a16_16 rfl k_1 (by decide) rfl ?_
      refine vGoto F (tgt := 6) dJ7_fill_d0a16_19 (by decide) ?_
      refine vSub [1, 2, 0, 3] rfl ?_
      have z := okL h
      exact z
def Ac_forget (m : Mm) : Mm :=
  si m 74 1 0
set_option maxRecDepth 20000 in
set_option maxHeartbeats 4000000 in
theorem Ac_forget_ok {G : Gw} (hG : gOk G) (hs : gsh G = shC) {m : Mm} {P : Option Value → Mm → Prop} (h : P none (Ac_forget m)) : mjR G 0 yX0_forget cX0_forget 1 none [.ref (gr G 74)] m P := by
  refine mjR_of hG (by decide) (Nat.le_of_ble_eq_true rfl) ?_
  intro X F
  have F : mjF G X cX0_forget RX0 1 0 none := F
  show mjV G X 1 0 [(0, .ref (gr G 74))] [] m P
  have h : mjO (some (Ac_forget m)) (fun r => P none r) := ⟨_, rfl, h⟩
  unfold Ac_forget at h
  refine vAloadN F dX0_forget_0 (k := 0) rfl ?_
  refine vIconst F (v := 0) dX0_forget_1 k_0 ?_
  refine vPutI F dX0_forget_2 fw_X0_15 (cqC_74 hs) rfl ⟨rfl, rfl⟩ ?_
  have z := okS h
  exact vVret F dX0_forget_5 z
def Ac_standAt (m : Mm) (a1 : Int32) (a2 : Int32) (a3 : Int32) : Mm :=
  si (si (si m 74 2 a1) 74 3 a2) 74 4 a3
set_option maxRecDepth 20000 in
set_option maxHeartbeats 4000000 in
theorem Ac_standAt_ok {G : Gw} (hG : gOk G) (hs : gsh G = shC) {a1 : Int32} {a2 : Int32} {a3 : Int32} {m : Mm} {P : Option Value → Mm → Prop} (h : P none (Ac_standAt m a1 a2 a3)) : mjR G 0 yX0_standAt cX0_standAt 4 none [.ref (gr G 74), .int a1, .int a2, .int a3] m P := by
  refine mjR_of hG (by decide) (Nat.le_of_ble_eq_true rfl) ?_
  intro X F
  have F : mjF G X cX0_standAt RX0 4 0 none := F
  show mjV G X 4 0 [(0, .ref (gr G 74)), (1, .int a1), (2, .int a2), (3, .int a3)] [] m P
  have h : mjO (some (Ac_standAt m a1 a2 a3)) (fun r => P none r) := ⟨_, rfl, h⟩
  unfold Ac_standAt at h
  refine vAloadN F dX0_standAt_0 (k := 0) rfl ?_
  refine vIloadN F dX0_standAt_1 (k := 1) rfl ?_
  refine vPutI F dX0_standAt_2 fw_X0_19 (cqC_74 hs) rfl ⟨rfl, rfl⟩ ?_
  refine vAloadN F dX0_standAt_5 (k := 0) rfl ?_
  refine vIloadN F dX0_standAt_6 (k := 2) rfl ?_
  refine vPutI F dX0_standAt_7 fw_X0_22 (cqC_74 hs) rfl ⟨rfl, rfl⟩ ?_
  refine vAloadN F dX0_standAt_10 (k := 0) rfl ?_
  refine vIloadN F dX0_standAt_11 (k := 3) rfl ?_
  refine vPutI F dX0_standAt_12 fw_X0_25 (cqC_74 hs) rfl ⟨rfl, rfl⟩ ?_
  have z := okS h
  exact vVret F dX0_standAt_15 z
def Ac_begin (m : Mm) (a1 : Int32) : Option (Mm) :=
  jn (fun (e1 : Mm) => some (si e1 74 1 ((e1.1 74 1) + 1))) fun j2 =>
  if 20 ≤ (m.1 74 1) then
 (j2 (m))
 else (ga (m.1 74 1) 20 (j2 (si m 75 (m.1 74 1).toNatClampNeg a1)))
set_option maxRecDepth 20000 in
set_option maxHeartbeats 4000000 in
theorem Ac_begin_ok {G : Gw} (hG : gOk G) (hs : gsh G = shC) {a1 : Int32} {m : Mm} {P : Option Value → Mm → Prop} (h : mjO (Ac_begin m a1) (fun r => P none r)) : mjR G 0 yX0_begin cX0_begin 2 none [.ref (gr G 74), .int a1] m P := by
  refine mjR_of hG (by decide) (Nat.le_of_ble_eq_true rfl) ?_
  intro X F
  have F : mjF G X cX0_begin RX0 2 0 none := F
  show mjV G X 2 0 [(0, .ref (gr G 74)), (1, .int a1)] [] m P
  unfold Ac_begin at h
  refine vAloadN F dX0_begin_0 (k := 0) rfl ?_
  refine vGetI F dX0_begin_1 fa_X0_15 (cqC_74 hs) rfl ?_
  refine vBipush F (v := 20) dX0_begin_4 kb_20 ?_
  refine okJ (Vj := fun (e1 : Mm) => mjV G X 2 19 [(0, .ref (gr G 74))] [] e1 P) h (fun e1 h => ?_) (fun j2 Jj2 h => ?_)
  · refine vAloadN F dX0_begin_19 (k := 0) rfl ?_
    refine vDup F dX0_begin_20 rfl ?_
    refine vGetI F dX0_begin_21 fa_X0_15 (cqC_74 hs) rfl ?_
    refine vIconst F (v := 1) dX0_begin_24 k_1 ?_
    refine vIadd F dX0_begin_25 ?_
    refine vPutI F dX0_begin_26 fw_X0_15 (cqC_74 hs) rfl ⟨rfl, rfl⟩ ?_
    have z := okS h
    exact vVret F dX0_begin_29 z
  · refine vIcmpGe F (tgt := 19) dX0_begin_6 (by decide) (fun c4 => ?_) (fun c4 => ?_)
    · replace h := okT h c4
      refine vSub [0] rfl ?_
      exact Jj2 (m) h
    · replace h := okF h c4
      refine vAloadN F dX0_begin_9 (k := 0) rfl ?_
      refine vGetR F (t := 75) dX0_begin_10 fa_X0_11 (cqC_74 hs) rfl ?_
      refine vAloadN F dX0_begin_13 (k := 0) rfl ?_
      refine vGetI F dX0_begin_14 fa_X0_15 (cqC_74 hs) rfl ?_
      refine vIloadN F dX0_begin_17 (k := 1) rfl ?_
      obtain ⟨g3, h⟩ := okga h
      refine vIast F dX0_begin_18 (cqC_75 hs) g3 ?_
      refine vSub [0] rfl ?_
      exact Jj2 (si m 75 (m.1 74 1).toNatClampNeg a1) h
def Ac_points_b (rc : Mm → Int32 → Int32 → Int32 → Option (Int32 × Mm)) (m : Mm) (a1 : Int32) (a2 : Int32) (a3 : Int32) : Option (Int32 × Mm) :=
  if a3 ≤ 40 then
 (if a1 = 2 then
 ((Ac_begin m 30).bind fun r3 =>
  (rc r3 0 (a2 * 3) (a3 + 1)).bind fun r4 =>
  some (r4.1, r4.2))
 else (if a1 = 3 then
 ((Ac_begin m 10).bind fun r6 =>
  some (a2 + (r6.1 74 2), r6))
 else (if a1 = 4 then
 ((Ac_begin m 50).bind fun r8 =>
  (rc r8 1 a2 (a3 + 1)).bind fun r9 =>
  some (-(r9.1), r9.2))
 else (if a1 = 5 then
 ((Ac_begin m 30).bind fun r11 =>
  (rc r11 0 (a2 * 3) (a3 + 1)).bind fun r12 =>
  some (r12.1, r12.2))
 else (if a1 = 6 then
 ((Ac_begin m 71).bind fun r14 =>
  (rc r14 3 a2 (a3 + 1)).bind fun r15 =>
  some ((r15.1) ^^^ ((r15.2).1 74 4), r15.2))
 else ((Ac_begin m 10).bind fun r1 =>
  some (a2 + (r1.1 74 2), r1)))))))
 else (some (0, m))
set_option maxRecDepth 20000 in
set_option maxHeartbeats 4000000 in
theorem Ac_points_b_ok {G : Gw} (hG : gOk G) (hs : gsh G = shC) {D d : Nat} (hD : D + 1 ≤ d) (hB : 1 ≤ d) {rc : Mm → Int32 → Int32 → Int32 → Option (Int32 × Mm)} (hrc : ∀ {a1 : Int32} {a2 : Int32} {a3 : Int32} {m : Mm} {P : Option Value → Mm → Prop} (h : mjO (rc m a1 a2 a3) (fun r => P (some (.int r.1)) r.2)), mjR G D yX0_points cX0_points 4 (some .int) [.ref (gr G 74), .int a1, .int a2, .int a3] m P) {a1 : Int32} {a2 : Int32} {a3 : Int32} {m : Mm} {P : Option Value → Mm → Prop} (h : mjO (Ac_points_b rc m a1 a2 a3) (fun r => P (some (.int r.1)) r.2)) : mjR G d yX0_points cX0_points 4 (some .int) [.ref (gr G 74), .int a1, .int a2, .int a3] m P := by
  refine mjR_of hG (by decide) (Nat.le_of_ble_eq_true rfl) ?_
  intro X F
  have F : mjF G X cX0_points RX0 4 d (some .int) := F
  show mjV G X 4 0 [(0, .ref (gr G 74)), (1, .int a1), (2, .int a2), (3, .int a3)] [] m P
  unfold Ac_points_b at h
  refine vIloadN F dX0_points_0 (k := 3) rfl ?_
  refine vBipush F (v := 40) dX0_points_1 kb_40 ?_
  refine vIcmpLe F (tgt := 8) dX0_points_3 (by decide) (fun c16 => ?_) (fun c16 => ?_)
  · replace h := okT h c16
    refine vIloadN F dX0_points_8 (k := 1) rfl ?_
    by_cases c2 : a1 = 2
    · replace h := okT h c2
      refine vTabIn F (tgt := 44) dX0_points_9 c2 (by decide) (by decide) rfl (by decide) ?_
      refine vAloadN F dX0_points_44 (k := 0) rfl ?_
      refine vBipush F (v := 30) dX0_points_45 kb_30 ?_
      refine vCallV F (d' := 0) (x := 74) (T := TX0) (N := 5) (As := [.int 30]) (st := []) dX0_points_47 lk_X0_28 my_X0_begin mv_X0_begin (cqC_74 hs) rfl (by omega) rfl rfl (Nat.le_of_ble_eq_true rfl) (Ac_begin_ok hG hs (okB h fun r3 h => ?_))
      show mjV G X 4 50 [(0, .ref (gr G 74)), (1, .int a1), (2, .int a2), (3, .int a3)] [] r3 P
      refine vAloadN F dX0_points_50 (k := 0) rfl ?_
      refine vIconst F (v := 0) dX0_points_51 k_0 ?_
      refine vIloadN F dX0_points_52 (k := 2) rfl ?_
      refine vIconst F (v := 3) dX0_points_53 k_3 ?_
      refine vImul F dX0_points_54 ?_
      refine vIloadN F dX0_points_55 (k := 3) rfl ?_
      refine vIconst F (v := 1) dX0_points_56 k_1 ?_
      refine vIadd F dX0_points_57 ?_
      refine vCallV F (d' := D) (x := 74) (T := TX0) (N := 5) (As := [.int 0, .int (a2 * 3), .int (a3 + 1)]) (st := []) dX0_points_58 lk_X0_32 my_X0_points mv_X0_points (cqC_74 hs) rfl hD rfl rfl (Nat.le_of_ble_eq_true rfl) (hrc (okB h fun r4 h => ?_))
      show mjV G X 4 61 [(0, .ref (gr G 74)), (1, .int a1), (2, .int a2), (3, .int a3)] [.int (r4.1)] (r4.2) P
      have z := okS h
      exact vIret F dX0_points_61 z
    replace h := okF h c2
    by_cases c5 : a1 = 3
    · replace h := okT h c5
      refine vTabIn F (tgt := 100) dX0_points_9 c5 (by decide) (by decide) rfl (by decide) ?_
      refine vAloadN F dX0_points_100 (k := 0) rfl ?_
      refine vBipush F (v := 10) dX0_points_101 kb_10 ?_
      refine vCallV F (d' := 0) (x := 74) (T := TX0) (N := 5) (As := [.int 10]) (st := []) dX0_points_103 lk_X0_28 my_X0_begin mv_X0_begin (cqC_74 hs) rfl (by omega) rfl rfl (Nat.le_of_ble_eq_true rfl) (Ac_begin_ok hG hs (okB h fun r6 h => ?_))
      show mjV G X 4 106 [(0, .ref (gr G 74)), (1, .int a1), (2, .int a2), (3, .int a3)] [] r6 P
      refine vIloadN F dX0_points_106 (k := 2) rfl ?_
      refine vAloadN F dX0_points_107 (k := 0) rfl ?_
      refine vGetI F dX0_points_108 fa_X0_19 (cqC_74 hs) rfl ?_
      refine vIadd F dX0_points_111 ?_
      have z := okS h
      exact vIret F dX0_points_112 z
    replace h := okF h c5
    by_cases c7 : a1 = 4
    · replace h := okT h c7
      refine vTabIn F (tgt := 62) dX0_points_9 c7 (by decide) (by decide) rfl (by decide) ?_
      refine vAloadN F dX0_points_62 (k := 0) rfl ?_
      refine vBipush F (v := 50) dX0_points_63 kb_50 ?_
      refine vCallV F (d' := 0) (x := 74) (T := TX0) (N := 5) (As := [.int 50]) (st := []) dX0_points_65 lk_X0_28 my_X0_begin mv_X0_begin (cqC_74 hs) rfl (by omega) rfl rfl (Nat.le_of_ble_eq_true rfl) (Ac_begin_ok hG hs (okB h fun r8 h => ?_))
      show mjV G X 4 68 [(0, .ref (gr G 74)), (1, .int a1), (2, .int a2), (3, .int a3)] [] r8 P
      refine vAloadN F dX0_points_68 (k := 0) rfl ?_
      refine vIconst F (v := 1) dX0_points_69 k_1 ?_
      refine vIloadN F dX0_points_70 (k := 2) rfl ?_
      refine vIloadN F dX0_points_71 (k := 3) rfl ?_
      refine vIconst F (v := 1) dX0_points_72 k_1 ?_
      refine vIadd F dX0_points_73 ?_
      refine vCallV F (d' := D) (x := 74) (T := TX0) (N := 5) (As := [.int 1, .int a2, .int (a3 + 1)]) (st := []) dX0_points_74 lk_X0_32 my_X0_points mv_X0_points (cqC_74 hs) rfl hD rfl rfl (Nat.le_of_ble_eq_true rfl) (hrc (okB h fun r9 h => ?_))
      show mjV G X 4 77 [(0, .ref (gr G 74)), (1, .int a1), (2, .int a2), (3, .int a3)] [.int (r9.1)] (r9.2) P
      refine vIneg F dX0_points_77 ?_
      have z := okS h
      exact vIret F dX0_points_78 z
    replace h := okF h c7
    by_cases c10 : a1 = 5
    · replace h := okT h c10
      refine vTabIn F (tgt := 44) dX0_points_9 c10 (by decide) (by decide) rfl (by decide) ?_
      refine vAloadN F dX0_points_44 (k := 0) rfl ?_
      refine vBipush F (v := 30) dX0_points_45 kb_30 ?_
      refine vCallV F (d' := 0) (x := 74) (T := TX0) (N := 5) (As := [.int 30]) (st := []) dX0_points_47 lk_X0_28 my_X0_begin mv_X0_begin (cqC_74 hs) rfl (by omega) rfl rfl (Nat.le_of_ble_eq_true rfl) (Ac_begin_ok hG hs (okB h fun r11 h => ?_))
      show mjV G X 4 50 [(0, .ref (gr G 74)), (1, .int a1), (2, .int a2), (3, .int a3)] [] r11 P
      refine vAloadN F dX0_points_50 (k := 0) rfl ?_
      refine vIconst F (v := 0) dX0_points_51 k_0 ?_
      refine vIloadN F dX0_points_52 (k := 2) rfl ?_
      refine vIconst F (v := 3) dX0_points_53 k_3 ?_
      refine vImul F dX0_points_54 ?_
      refine vIloadN F dX0_points_55 (k := 3) rfl ?_
      refine vIconst F (v := 1) dX0_points_56 k_1 ?_
      refine vIadd F dX0_points_57 ?_
      refine vCallV F (d' := D) (x := 74) (T := TX0) (N := 5) (As := [.int 0, .int (a2 * 3), .int (a3 + 1)]) (st := []) dX0_points_58 lk_X0_32 my_X0_points mv_X0_points (cqC_74 hs) rfl hD rfl rfl (Nat.le_of_ble_eq_true rfl) (hrc (okB h fun r12 h => ?_))
      show mjV G X 4 61 [(0, .ref (gr G 74)), (1, .int a1), (2, .int a2), (3, .int a3)] [.int (r12.1)] (r12.2) P
      have z := okS h
      exact vIret F dX0_points_61 z
    replace h := okF h c10
    by_cases c13 : a1 = 6
    · replace h := okT h c13
      refine vTabIn F (tgt := 79) dX0_points_9 c13 (by decide) (by decide) rfl (by decide) ?_
      refine vAloadN F dX0_points_79 (k := 0) rfl ?_
      refine vBipush F (v := 71) dX0_points_80 kb_71 ?_
      refine vCallV F (d' := 0) (x := 74) (T := TX0) (N := 5) (As := [.int 71]) (st := []) dX0_points_82 lk_X0_28 my_X0_begin mv_X0_begin (cqC_74 hs) rfl (by omega) rfl rfl (Nat.le_of_ble_eq_true rfl) (Ac_begin_ok hG hs (okB h fun r14 h => ?_))
      show mjV G X 4 85 [(0, .ref (gr G 74)), (1, .int a1), (2, .int a2), (3, .int a3)] [] r14 P
      refine vAloadN F dX0_points_85 (k := 0) rfl ?_
      refine vIconst F (v := 3) dX0_points_86 k_3 ?_
      refine vIloadN F dX0_points_87 (k := 2) rfl ?_
      refine vIloadN F dX0_points_88 (k := 3) rfl ?_
      refine vIconst F (v := 1) dX0_points_89 k_1 ?_
      refine vIadd F dX0_points_90 ?_
      refine vCallV F (d' := D) (x := 74) (T := TX0) (N := 5) (As := [.int 3, .int a2, .int (a3 + 1)]) (st := []) dX0_points_91 lk_X0_32 my_X0_points mv_X0_points (cqC_74 hs) rfl hD rfl rfl (Nat.le_of_ble_eq_true rfl) (hrc (okB h fun r15 h => ?_))
      show mjV G X 4 94 [(0, .ref (gr G 74)), (1, .int a1), (2, .int a2), (3, .int a3)] [.int (r15.1)] (r15.2) P
      refine vAloadN F dX0_points_94 (k := 0) rfl ?_
      refine vGetI F dX0_points_95 fa_X0_25 (cqC_74 hs) rfl ?_
      refine vIxor F dX0_points_98 ?_
      have z := okS h
      exact vIret F dX0_points_99 z
    replace h := okF h c13
    replace c2 := lv_neT c2 (a := 2) (by decide)
    replace c5 := lv_neT c5 (a := 3) (by decide)
    replace c7 := lv_neT c7 (a := 4) (by decide)
    replace c10 := lv_neT c10 (a := 5) (by decide)
    replace c13 := lv_neT c13 (a := 6) (by decide)
    refine vTabOut F (tgt := 100) dX0_points_9 (by omega) (by decide) ?_
    refine vAloadN F dX0_points_100 (k := 0) rfl ?_
    refine vBipush F (v := 10) dX0_points_101 kb_10 ?_
    refine vCallV F (d' := 0) (x := 74) (T := TX0) (N := 5) (As := [.int 10]) (st := []) dX0_points_103 lk_X0_28 my_X0_begin mv_X0_begin (cqC_74 hs) rfl (by omega) rfl rfl (Nat.le_of_ble_eq_true rfl) (Ac_begin_ok hG hs (okB h fun r1 h => ?_))
    show mjV G X 4 106 [(0, .ref (gr G 74)), (1, .int a1), (2, .int a2), (3, .int a3)] [] r1 P
    refine vIloadN F dX0_points_106 (k := 2) rfl ?_
    refine vAloadN F dX0_points_107 (k := 0) rfl ?_
    refine vGetI F dX0_points_108 fa_X0_19 (cqC_74 hs) rfl ?_
    refine vIadd F dX0_points_111 ?_
    have z := okS h
    exact vIret F dX0_points_112 z
  · replace h := okF h c16
    refine vIconst F (v := 0) dX0_points_6 k_0 ?_
    have z := okS h
    exact vIret F dX0_points_7 z
def Ac_points_n : Nat → Mm → Int32 → Int32 → Int32 → Option (Int32 × Mm)
  | 0 => fun _ _ _ _ => none
  | n + 1 => Ac_points_b (Ac_points_n n)
theorem Ac_points_n_ok {G : Gw} (hG : gOk G) (hs : gsh G = shC) : ∀ (n : Nat) {a1 : Int32} {a2 : Int32} {a3 : Int32} {m : Mm} {P : Option Value → Mm → Prop} (h : mjO (Ac_points_n n m a1 a2 a3) (fun r => P (some (.int r.1)) r.2)), mjR G (1 + n) yX0_points cX0_points 4 (some .int) [.ref (gr G 74), .int a1, .int a2, .int a3] m P
  | 0, _, _, _, _, _, ⟨_, h, _⟩ => by cases h
  | n + 1, _, _, _, _, _, h => Ac_points_b_ok hG hs (D := 1 + n) (by omega) (by omega) (Ac_points_n_ok hG hs n) h
def Ac_points (m : Mm) (a1 : Int32) (a2 : Int32) (a3 : Int32) : Option (Int32 × Mm) := Ac_points_n 8 m a1 a2 a3
theorem Ac_points_ok {G : Gw} (hG : gOk G) (hs : gsh G = shC) {a1 : Int32} {a2 : Int32} {a3 : Int32} {m : Mm} {P : Option Value → Mm → Prop} (h : mjO (Ac_points m a1 a2 a3) (fun r => P (some (.int r.1)) r.2)) : mjR G 9 yX0_points cX0_points 4 (some .int) [.ref (gr G 74), .int a1, .int a2, .int a3] m P := Ac_points_n_ok hG hs 8 h
def Ac_names_b (rc : Mm → Int32 → Int32 → Int32 → Option (Int32 × Mm)) (m : Mm) (a1 : Int32) (a2 : Int32) (a3 : Int32) : Option (Int32 × Mm) :=
  if a3 ≤ 40 then
 (if a1 = 1 then
 ((Ac_begin m 20).bind fun r4 =>
  (rc r4 0 a2 (a3 + 1)).bind fun r5 =>
  some ((r5.1) ^^^ 6, r5.2))
 else (if a1 = 4 then
 ((Ac_begin m 51).bind fun r7 =>
  (rc r7 1 (a2 + 1) (a3 + 1)).bind fun r8 =>
  some (r8.1, r8.2))
 else (if a1 = 6 then
 ((Ac_begin m 70).bind fun r10 =>
  (rc r10 3 a2 (a3 + 1)).bind fun r11 =>
  (Ac_points (r11.2) 3 2 (a3 + 1)).bind fun r12 =>
  some ((r11.1) + (r12.1), r12.2))
 else ((Ac_begin m 11).bind fun r1 =>
  (Ac_points r1 (r1.1 74 3) a2 (a3 + 1)).bind fun r2 =>
  some ((r2.1) - ((r2.2).1 74 4), r2.2)))))
 else (some (0, m))
set_option maxRecDepth 20000 in
set_option maxHeartbeats 4000000 in
theorem Ac_names_b_ok {G : Gw} (hG : gOk G) (hs : gsh G = shC) {D d : Nat} (hD : D + 1 ≤ d) (hB : 10 ≤ d) {rc : Mm → Int32 → Int32 → Int32 → Option (Int32 × Mm)} (hrc : ∀ {a1 : Int32} {a2 : Int32} {a3 : Int32} {m : Mm} {P : Option Value → Mm → Prop} (h : mjO (rc m a1 a2 a3) (fun r => P (some (.int r.1)) r.2)), mjR G D yX0_names cX0_names 4 (some .int) [.ref (gr G 74), .int a1, .int a2, .int a3] m P) {a1 : Int32} {a2 : Int32} {a3 : Int32} {m : Mm} {P : Option Value → Mm → Prop} (h : mjO (Ac_names_b rc m a1 a2 a3) (fun r => P (some (.int r.1)) r.2)) : mjR G d yX0_names cX0_names 4 (some .int) [.ref (gr G 74), .int a1, .int a2, .int a3] m P := by
  refine mjR_of hG (by decide) (Nat.le_of_ble_eq_true rfl) ?_
  intro X F
  have F : mjF G X cX0_names RX0 4 d (some .int) := F
  show mjV G X 4 0 [(0, .ref (gr G 74)), (1, .int a1), (2, .int a2), (3, .int a3)] [] m P
  unfold Ac_names_b at h
  refine vIloadN F dX0_names_0 (k := 3) rfl ?_
  refine vBipush F (v := 40) dX0_names_1 kb_40 ?_
  refine vIcmpLe F (tgt := 8) dX0_names_3 (by decide) (fun c13 => ?_) (fun c13 => ?_)
  · replace h := okT h c13
    refine vIloadN F dX0_names_8 (k := 1) rfl ?_
    by_cases c3 : a1 = 1
    · replace h := okT h c3
      refine vLook F (tgt := 44) dX0_names_9 (by decide) (lk_in 1 c3 (by decide)) (by decide) ?_
      refine vAloadN F dX0_names_44 (k := 0) rfl ?_
      refine vBipush F (v := 20) dX0_names_45 kb_20 ?_
      refine vCallV F (d' := 0) (x := 74) (T := TX0) (N := 5) (As := [.int 20]) (st := []) dX0_names_47 lk_X0_28 my_X0_begin mv_X0_begin (cqC_74 hs) rfl (by omega) rfl rfl (Nat.le_of_ble_eq_true rfl) (Ac_begin_ok hG hs (okB h fun r4 h => ?_))
      show mjV G X 4 50 [(0, .ref (gr G 74)), (1, .int a1), (2, .int a2), (3, .int a3)] [] r4 P
      refine vAloadN F dX0_names_50 (k := 0) rfl ?_
      refine vIconst F (v := 0) dX0_names_51 k_0 ?_
      refine vIloadN F dX0_names_52 (k := 2) rfl ?_
      refine vIloadN F dX0_names_53 (k := 3) rfl ?_
      refine vIconst F (v := 1) dX0_names_54 k_1 ?_
      refine vIadd F dX0_names_55 ?_
      refine vCallV F (d' := D) (x := 74) (T := TX0) (N := 5) (As := [.int 0, .int a2, .int (a3 + 1)]) (st := []) dX0_names_56 lk_X0_36 my_X0_names mv_X0_names (cqC_74 hs) rfl hD rfl rfl (Nat.le_of_ble_eq_true rfl) (hrc (okB h fun r5 h => ?_))
      show mjV G X 4 59 [(0, .ref (gr G 74)), (1, .int a1), (2, .int a2), (3, .int a3)] [.int (r5.1)] (r5.2) P
      refine vBipush F (v := 6) dX0_names_59 kb_6 ?_
      refine vIxor F dX0_names_61 ?_
      have z := okS h
      exact vIret F dX0_names_62 z
    replace h := okF h c3
    by_cases c6 : a1 = 4
    · replace h := okT h c6
      refine vLook F (tgt := 63) dX0_names_9 (by decide) ((lv_osw c3 (by decide)).trans (lk_in 4 c6 (by decide))) (by decide) ?_
      refine vAloadN F dX0_names_63 (k := 0) rfl ?_
      refine vBipush F (v := 51) dX0_names_64 kb_51 ?_
      refine vCallV F (d' := 0) (x := 74) (T := TX0) (N := 5) (As := [.int 51]) (st := []) dX0_names_66 lk_X0_28 my_X0_begin mv_X0_begin (cqC_74 hs) rfl (by omega) rfl rfl (Nat.le_of_ble_eq_true rfl) (Ac_begin_ok hG hs (okB h fun r7 h => ?_))
      show mjV G X 4 69 [(0, .ref (gr G 74)), (1, .int a1), (2, .int a2), (3, .int a3)] [] r7 P
      refine vAloadN F dX0_names_69 (k := 0) rfl ?_
      refine vIconst F (v := 1) dX0_names_70 k_1 ?_
      refine vIloadN F dX0_names_71 (k := 2) rfl ?_
      refine vIconst F (v := 1) dX0_names_72 k_1 ?_
      refine vIadd F dX0_names_73 ?_
      refine vIloadN F dX0_names_74 (k := 3) rfl ?_
      refine vIconst F (v := 1) dX0_names_75 k_1 ?_
      refine vIadd F dX0_names_76 ?_
      refine vCallV F (d' := D) (x := 74) (T := TX0) (N := 5) (As := [.int 1, .int (a2 + 1), .int (a3 + 1)]) (st := []) dX0_names_77 lk_X0_36 my_X0_names mv_X0_names (cqC_74 hs) rfl hD rfl rfl (Nat.le_of_ble_eq_true rfl) (hrc (okB h fun r8 h => ?_))
      show mjV G X 4 80 [(0, .ref (gr G 74)), (1, .int a1), (2, .int a2), (3, .int a3)] [.int (r8.1)] (r8.2) P
      have z := okS h
      exact vIret F dX0_names_80 z
    replace h := okF h c6
    by_cases c9 : a1 = 6
    · replace h := okT h c9
      refine vLook F (tgt := 81) dX0_names_9 (by decide) ((lv_osw c3 (by decide)).trans ((lv_osw c6 (by decide)).trans (lk_in 6 c9 (by decide)))) (by decide) ?_
      refine vAloadN F dX0_names_81 (k := 0) rfl ?_
      refine vBipush F (v := 70) dX0_names_82 kb_70 ?_
      refine vCallV F (d' := 0) (x := 74) (T := TX0) (N := 5) (As := [.int 70]) (st := []) dX0_names_84 lk_X0_28 my_X0_begin mv_X0_begin (cqC_74 hs) rfl (by omega) rfl rfl (Nat.le_of_ble_eq_true rfl) (Ac_begin_ok hG hs (okB h fun r10 h => ?_))
      show mjV G X 4 87 [(0, .ref (gr G 74)), (1, .int a1), (2, .int a2), (3, .int a3)] [] r10 P
      refine vAloadN F dX0_names_87 (k := 0) rfl ?_
      refine vIconst F (v := 3) dX0_names_88 k_3 ?_
      refine vIloadN F dX0_names_89 (k := 2) rfl ?_
      refine vIloadN F dX0_names_90 (k := 3) rfl ?_
      refine vIconst F (v := 1) dX0_names_91 k_1 ?_
      refine vIadd F dX0_names_92 ?_
      refine vCallV F (d' := D) (x := 74) (T := TX0) (N := 5) (As := [.int 3, .int a2, .int (a3 + 1)]) (st := []) dX0_names_93 lk_X0_36 my_X0_names mv_X0_names (cqC_74 hs) rfl hD rfl rfl (Nat.le_of_ble_eq_true rfl) (hrc (okB h fun r11 h => ?_))
      show mjV G X 4 96 [(0, .ref (gr G 74)), (1, .int a1), (2, .int a2), (3, .int a3)] [.int (r11.1)] (r11.2) P
      refine vAloadN F dX0_names_96 (k := 0) rfl ?_
      refine vIconst F (v := 3) dX0_names_97 k_3 ?_
      refine vIconst F (v := 2) dX0_names_98 k_2 ?_
      refine vIloadN F dX0_names_99 (k := 3) rfl ?_
      refine vIconst F (v := 1) dX0_names_100 k_1 ?_
      refine vIadd F dX0_names_101 ?_
      refine vCallV F (d' := 9) (x := 74) (T := TX0) (N := 5) (As := [.int 3, .int 2, .int (a3 + 1)]) (st := [.int (r11.1)]) dX0_names_102 lk_X0_32 my_X0_points mv_X0_points (cqC_74 hs) rfl (by omega) rfl rfl (Nat.le_of_ble_eq_true rfl) (Ac_points_ok hG hs (okB h fun r12 h => ?_))
      show mjV G X 4 105 [(0, .ref (gr G 74)), (1, .int a1), (2, .int a2), (3, .int a3)] [.int (r12.1), .int (r11.1)] (r12.2) P
      refine vIadd F dX0_names_105 ?_
      have z := okS h
      exact vIret F dX0_names_106 z
    replace h := okF h c9
    refine vLook F (tgt := 107) dX0_names_9 (by decide) ((lv_osw c3 (by decide)).trans ((lv_osw c6 (by decide)).trans ((lv_osw c9 (by decide)).trans lk_nil))) (by decide) ?_
    refine vAloadN F dX0_names_107 (k := 0) rfl ?_
    refine vBipush F (v := 11) dX0_names_108 kb_11 ?_
    refine vCallV F (d' := 0) (x := 74) (T := TX0) (N := 5) (As := [.int 11]) (st := []) dX0_names_110 lk_X0_28 my_X0_begin mv_X0_begin (cqC_74 hs) rfl (by omega) rfl rfl (Nat.le_of_ble_eq_true rfl) (Ac_begin_ok hG hs (okB h fun r1 h => ?_))
    show mjV G X 4 113 [(0, .ref (gr G 74)), (1, .int a1), (2, .int a2), (3, .int a3)] [] r1 P
    refine vAloadN F dX0_names_113 (k := 0) rfl ?_
    refine vAloadN F dX0_names_114 (k := 0) rfl ?_
    refine vGetI F dX0_names_115 fa_X0_22 (cqC_74 hs) rfl ?_
    refine vIloadN F dX0_names_118 (k := 2) rfl ?_
    refine vIloadN F dX0_names_119 (k := 3) rfl ?_
    refine vIconst F (v := 1) dX0_names_120 k_1 ?_
    refine vIadd F dX0_names_121 ?_
    refine vCallV F (d' := 9) (x := 74) (T := TX0) (N := 5) (As := [.int (r1.1 74 3), .int a2, .int (a3 + 1)]) (st := []) dX0_names_122 lk_X0_32 my_X0_points mv_X0_points (cqC_74 hs) rfl (by omega) rfl rfl (Nat.le_of_ble_eq_true rfl) (Ac_points_ok hG hs (okB h fun r2 h => ?_))
    show mjV G X 4 125 [(0, .ref (gr G 74)), (1, .int a1), (2, .int a2), (3, .int a3)] [.int (r2.1)] (r2.2) P
    refine vAloadN F dX0_names_125 (k := 0) rfl ?_
    refine vGetI F dX0_names_126 fa_X0_25 (cqC_74 hs) rfl ?_
    refine vIsub F dX0_names_129 ?_
    have z := okS h
    exact vIret F dX0_names_130 z
  · replace h := okF h c13
    refine vIconst F (v := 0) dX0_names_6 k_0 ?_
    have z := okS h
    exact vIret F dX0_names_7 z
def Ac_names_n : Nat → Mm → Int32 → Int32 → Int32 → Option (Int32 × Mm)
  | 0 => fun _ _ _ _ => none
  | n + 1 => Ac_names_b (Ac_names_n n)
theorem Ac_names_n_ok {G : Gw} (hG : gOk G) (hs : gsh G = shC) : ∀ (n : Nat) {a1 : Int32} {a2 : Int32} {a3 : Int32} {m : Mm} {P : Option Value → Mm → Prop} (h : mjO (Ac_names_n n m a1 a2 a3) (fun r => P (some (.int r.1)) r.2)), mjR G (10 + n) yX0_names cX0_names 4 (some .int) [.ref (gr G 74), .int a1, .int a2, .int a3] m P
  | 0, _, _, _, _, _, ⟨_, h, _⟩ => by cases h
  | n + 1, _, _, _, _, _, h => Ac_names_b_ok hG hs (D := 10 + n) (by omega) (by omega) (Ac_names_n_ok hG hs n) h
def Ac_names (m : Mm) (a1 : Int32) (a2 : Int32) (a3 : Int32) : Option (Int32 × Mm) := Ac_names_n 8 m a1 a2 a3
theorem Ac_names_ok {G : Gw} (hG : gOk G) (hs : gsh G = shC) {a1 : Int32} {a2 : Int32} {a3 : Int32} {m : Mm} {P : Option Value → Mm → Prop} (h : mjO (Ac_names m a1 a2 a3) (fun r => P (some (.int r.1)) r.2)) : mjR G 18 yX0_names cX0_names 4 (some .int) [.ref (gr G 74), .int a1, .int a2, .int a3] m P := Ac_names_n_ok hG hs 8 h
def Ac_tells_b (rc : Mm → Int32 → Int32 → Int32 → Option (Int32 × Mm)) (m : Mm) (a1 : Int32) (a2 : Int32) (a3 : Int32) : Option (Int32 × Mm) :=
  if a3 ≤ 40 then
 (if a1 = 3 then
 ((Ac_begin m 40).bind fun r4 =>
  (rc r4 0 a2 (a3 + 1)).bind fun r5 =>
  (Ac_names (r5.2) ((r5.2).1 74 3) 1 (a3 + 1)).bind fun r6 =>
  some ((r5.1) + (r6.1), r6.2))
 else (if a1 = 4 then
 ((Ac_begin m 12).bind fun r8 =>
  (Ac_names r8 (r8.1 74 3) a2 (a3 + 1)).bind fun r9 =>
  some ((r9.1) * 2, r9.2))
 else (if a1 = 5 then
 ((Ac_begin m 60).bind fun r11 =>
  (rc r11 2 (a2 - (r11.1 74 2)) (a3 + 1)).bind fun r12 =>
  some (r12.1, r12.2))
 else (if a1 = 6 then
 ((Ac_begin m 40).bind fun r14 =>
  (rc r14 0 a2 (a3 + 1)).bind fun r15 =>
  (Ac_names (r15.2) ((r15.2).1 74 3) 1 (a3 + 1)).bind fun r16 =>
  some ((r15.1) + (r16.1), r16.2))
 else ((Ac_begin m 12).bind fun r1 =>
  (Ac_names r1 (r1.1 74 3) a2 (a3 + 1)).bind fun r2 =>
  some ((r2.1) * 2, r2.2))))))
 else (some (0, m))
set_option maxRecDepth 20000 in
set_option maxHeartbeats 4000000 in
theorem Ac_tells_b_ok {G : Gw} (hG : gOk G) (hs : gsh G = shC) {D d : Nat} (hD : D + 1 ≤ d) (hB : 19 ≤ d) {rc : Mm → Int32 → Int32 → Int32 → Option (Int32 × Mm)} (hrc : ∀ {a1 : Int32} {a2 : Int32} {a3 : Int32} {m : Mm} {P : Option Value → Mm → Prop} (h : mjO (rc m a1 a2 a3) (fun r => P (some (.int r.1)) r.2)), mjR G D yX0_tells cX0_tells 4 (some .int) [.ref (gr G 74), .int a1, .int a2, .int a3] m P) {a1 : Int32} {a2 : Int32} {a3 : Int32} {m : Mm} {P : Option Value → Mm → Prop} (h : mjO (Ac_tells_b rc m a1 a2 a3) (fun r => P (some (.int r.1)) r.2)) : mjR G d yX0_tells cX0_tells 4 (some .int) [.ref (gr G 74), .int a1, .int a2, .int a3] m P := by
  refine mjR_of hG (by decide) (Nat.le_of_ble_eq_true rfl) ?_
  intro X F
  have F : mjF G X cX0_tells RX0 4 d (some .int) := F
  show mjV G X 4 0 [(0, .ref (gr G 74)), (1, .int a1), (2, .int a2), (3, .int a3)] [] m P
  unfold Ac_tells_b at h
  refine vIloadN F dX0_tells_0 (k := 3) rfl ?_
  refine vBipush F (v := 40) dX0_tells_1 kb_40 ?_
  refine vIcmpLe F (tgt := 8) dX0_tells_3 (by decide) (fun c17 => ?_) (fun c17 => ?_)
  · replace h := okT h c17
    refine vIloadN F dX0_tells_8 (k := 1) rfl ?_
    by_cases c3 : a1 = 3
    · replace h := okT h c3
      refine vTabIn F (tgt := 40) dX0_tells_9 c3 (by decide) (by decide) rfl (by decide) ?_
      refine vAloadN F dX0_tells_40 (k := 0) rfl ?_
      refine vBipush F (v := 40) dX0_tells_41 kb_40 ?_
      refine vCallV F (d' := 0) (x := 74) (T := TX0) (N := 5) (As := [.int 40]) (st := []) dX0_tells_43 lk_X0_28 my_X0_begin mv_X0_begin (cqC_74 hs) rfl (by omega) rfl rfl (Nat.le_of_ble_eq_true rfl) (Ac_begin_ok hG hs (okB h fun r4 h => ?_))
      show mjV G X 4 46 [(0, .ref (gr G 74)), (1, .int a1), (2, .int a2), (3, .int a3)] [] r4 P
      refine vAloadN F dX0_tells_46 (k := 0) rfl ?_
      refine vIconst F (v := 0) dX0_tells_47 k_0 ?_
      refine vIloadN F dX0_tells_48 (k := 2) rfl ?_
      refine vIloadN F dX0_tells_49 (k := 3) rfl ?_
      refine vIconst F (v := 1) dX0_tells_50 k_1 ?_
      refine vIadd F dX0_tells_51 ?_
      refine vCallV F (d' := D) (x := 74) (T := TX0) (N := 5) (As := [.int 0, .int a2, .int (a3 + 1)]) (st := []) dX0_tells_52 lk_X0_39 my_X0_tells mv_X0_tells (cqC_74 hs) rfl hD rfl rfl (Nat.le_of_ble_eq_true rfl) (hrc (okB h fun r5 h => ?_))
      show mjV G X 4 55 [(0, .ref (gr G 74)), (1, .int a1), (2, .int a2), (3, .int a3)] [.int (r5.1)] (r5.2) P
      refine vAloadN F dX0_tells_55 (k := 0) rfl ?_
      refine vAloadN F dX0_tells_56 (k := 0) rfl ?_
      refine vGetI F dX0_tells_57 fa_X0_22 (cqC_74 hs) rfl ?_
      refine vIconst F (v := 1) dX0_tells_60 k_1 ?_
      refine vIloadN F dX0_tells_61 (k := 3) rfl ?_
      refine vIconst F (v := 1) dX0_tells_62 k_1 ?_
      refine vIadd F dX0_tells_63 ?_
      refine vCallV F (d' := 18) (x := 74) (T := TX0) (N := 5) (As := [.int ((r5.2).1 74 3), .int 1, .int (a3 + 1)]) (st := [.int (r5.1)]) dX0_tells_64 lk_X0_36 my_X0_names mv_X0_names (cqC_74 hs) rfl (by omega) rfl rfl (Nat.le_of_ble_eq_true rfl) (Ac_names_ok hG hs (okB h fun r6 h => ?_))
      show mjV G X 4 67 [(0, .ref (gr G 74)), (1, .int a1), (2, .int a2), (3, .int a3)] [.int (r6.1), .int (r5.1)] (r6.2) P
      refine vIadd F dX0_tells_67 ?_
      have z := okS h
      exact vIret F dX0_tells_68 z
    replace h := okF h c3
    by_cases c7 : a1 = 4
    · replace h := okT h c7
      refine vTabIn F (tgt := 90) dX0_tells_9 c7 (by decide) (by decide) rfl (by decide) ?_
      refine vAloadN F dX0_tells_90 (k := 0) rfl ?_
      refine vBipush F (v := 12) dX0_tells_91 kb_12 ?_
      refine vCallV F (d' := 0) (x := 74) (T := TX0) (N := 5) (As := [.int 12]) (st := []) dX0_tells_93 lk_X0_28 my_X0_begin mv_X0_begin (cqC_74 hs) rfl (by omega) rfl rfl (Nat.le_of_ble_eq_true rfl) (Ac_begin_ok hG hs (okB h fun r8 h => ?_))
      show mjV G X 4 96 [(0, .ref (gr G 74)), (1, .int a1), (2, .int a2), (3, .int a3)] [] r8 P
      refine vAloadN F dX0_tells_96 (k := 0) rfl ?_
      refine vAloadN F dX0_tells_97 (k := 0) rfl ?_
      refine vGetI F dX0_tells_98 fa_X0_22 (cqC_74 hs) rfl ?_
      refine vIloadN F dX0_tells_101 (k := 2) rfl ?_
      refine vIloadN F dX0_tells_102 (k := 3) rfl ?_
      refine vIconst F (v := 1) dX0_tells_103 k_1 ?_
      refine vIadd F dX0_tells_104 ?_
      refine vCallV F (d' := 18) (x := 74) (T := TX0) (N := 5) (As := [.int (r8.1 74 3), .int a2, .int (a3 + 1)]) (st := []) dX0_tells_105 lk_X0_36 my_X0_names mv_X0_names (cqC_74 hs) rfl (by omega) rfl rfl (Nat.le_of_ble_eq_true rfl) (Ac_names_ok hG hs (okB h fun r9 h => ?_))
      show mjV G X 4 108 [(0, .ref (gr G 74)), (1, .int a1), (2, .int a2), (3, .int a3)] [.int (r9.1)] (r9.2) P
      refine vIconst F (v := 2) dX0_tells_108 k_2 ?_
      refine vImul F dX0_tells_109 ?_
      have z := okS h
      exact vIret F dX0_tells_110 z
    replace h := okF h c7
    by_cases c10 : a1 = 5
    · replace h := okT h c10
      refine vTabIn F (tgt := 69) dX0_tells_9 c10 (by decide) (by decide) rfl (by decide) ?_
      refine vAloadN F dX0_tells_69 (k := 0) rfl ?_
      refine vBipush F (v := 60) dX0_tells_70 kb_60 ?_
      refine vCallV F (d' := 0) (x := 74) (T := TX0) (N := 5) (As := [.int 60]) (st := []) dX0_tells_72 lk_X0_28 my_X0_begin mv_X0_begin (cqC_74 hs) rfl (by omega) rfl rfl (Nat.le_of_ble_eq_true rfl) (Ac_begin_ok hG hs (okB h fun r11 h => ?_))
      show mjV G X 4 75 [(0, .ref (gr G 74)), (1, .int a1), (2, .int a2), (3, .int a3)] [] r11 P
      refine vAloadN F dX0_tells_75 (k := 0) rfl ?_
      refine vIconst F (v := 2) dX0_tells_76 k_2 ?_
      refine vIloadN F dX0_tells_77 (k := 2) rfl ?_
      refine vAloadN F dX0_tells_78 (k := 0) rfl ?_
      refine vGetI F dX0_tells_79 fa_X0_19 (cqC_74 hs) rfl ?_
      refine vIsub F dX0_tells_82 ?_
      refine vIloadN F dX0_tells_83 (k := 3) rfl ?_
      refine vIconst F (v := 1) dX0_tells_84 k_1 ?_
      refine vIadd F dX0_tells_85 ?_
      refine vCallV F (d' := D) (x := 74) (T := TX0) (N := 5) (As := [.int 2, .int (a2 - (r11.1 74 2)), .int (a3 + 1)]) (st := []) dX0_tells_86 lk_X0_39 my_X0_tells mv_X0_tells (cqC_74 hs) rfl hD rfl rfl (Nat.le_of_ble_eq_true rfl) (hrc (okB h fun r12 h => ?_))
      show mjV G X 4 89 [(0, .ref (gr G 74)), (1, .int a1), (2, .int a2), (3, .int a3)] [.int (r12.1)] (r12.2) P
      have z := okS h
      exact vIret F dX0_tells_89 z
    replace h := okF h c10
    by_cases c13 : a1 = 6
    · replace h := okT h c13
      refine vTabIn F (tgt := 40) dX0_tells_9 c13 (by decide) (by decide) rfl (by decide) ?_
      refine vAloadN F dX0_tells_40 (k := 0) rfl ?_
      refine vBipush F (v := 40) dX0_tells_41 kb_40 ?_
      refine vCallV F (d' := 0) (x := 74) (T := TX0) (N := 5) (As := [.int 40]) (st := []) dX0_tells_43 lk_X0_28 my_X0_begin mv_X0_begin (cqC_74 hs) rfl (by omega) rfl rfl (Nat.le_of_ble_eq_true rfl) (Ac_begin_ok hG hs (okB h fun r14 h => ?_))
      show mjV G X 4 46 [(0, .ref (gr G 74)), (1, .int a1), (2, .int a2), (3, .int a3)] [] r14 P
      refine vAloadN F dX0_tells_46 (k := 0) rfl ?_
      refine vIconst F (v := 0) dX0_tells_47 k_0 ?_
      refine vIloadN F dX0_tells_48 (k := 2) rfl ?_
      refine vIloadN F dX0_tells_49 (k := 3) rfl ?_
      refine vIconst F (v := 1) dX0_tells_50 k_1 ?_
      refine vIadd F dX0_tells_51 ?_
      refine vCallV F (d' := D) (x := 74) (T := TX0) (N := 5) (As := [.int 0, .int a2, .int (a3 + 1)]) (st := []) dX0_tells_52 lk_X0_39 my_X0_tells mv_X0_tells (cqC_74 hs) rfl hD rfl rfl (Nat.le_of_ble_eq_true rfl) (hrc (okB h fun r15 h => ?_))
      show mjV G X 4 55 [(0, .ref (gr G 74)), (1, .int a1), (2, .int a2), (3, .int a3)] [.int (r15.1)] (r15.2) P
      refine vAloadN F dX0_tells_55 (k := 0) rfl ?_
      refine vAloadN F dX0_tells_56 (k := 0) rfl ?_
      refine vGetI F dX0_tells_57 fa_X0_22 (cqC_74 hs) rfl ?_
      refine vIconst F (v := 1) dX0_tells_60 k_1 ?_
      refine vIloadN F dX0_tells_61 (k := 3) rfl ?_
      refine vIconst F (v := 1) dX0_tells_62 k_1 ?_
      refine vIadd F dX0_tells_63 ?_
      refine vCallV F (d' := 18) (x := 74) (T := TX0) (N := 5) (As := [.int ((r15.2).1 74 3), .int 1, .int (a3 + 1)]) (st := [.int (r15.1)]) dX0_tells_64 lk_X0_36 my_X0_names mv_X0_names (cqC_74 hs) rfl (by omega) rfl rfl (Nat.le_of_ble_eq_true rfl) (Ac_names_ok hG hs (okB h fun r16 h => ?_))
      show mjV G X 4 67 [(0, .ref (gr G 74)), (1, .int a1), (2, .int a2), (3, .int a3)] [.int (r16.1), .int (r15.1)] (r16.2) P
      refine vIadd F dX0_tells_67 ?_
      have z := okS h
      exact vIret F dX0_tells_68 z
    replace h := okF h c13
    replace c3 := lv_neT c3 (a := 3) (by decide)
    replace c7 := lv_neT c7 (a := 4) (by decide)
    replace c10 := lv_neT c10 (a := 5) (by decide)
    replace c13 := lv_neT c13 (a := 6) (by decide)
    refine vTabOut F (tgt := 90) dX0_tells_9 (by omega) (by decide) ?_
    refine vAloadN F dX0_tells_90 (k := 0) rfl ?_
    refine vBipush F (v := 12) dX0_tells_91 kb_12 ?_
    refine vCallV F (d' := 0) (x := 74) (T := TX0) (N := 5) (As := [.int 12]) (st := []) dX0_tells_93 lk_X0_28 my_X0_begin mv_X0_begin (cqC_74 hs) rfl (by omega) rfl rfl (Nat.le_of_ble_eq_true rfl) (Ac_begin_ok hG hs (okB h fun r1 h => ?_))
    show mjV G X 4 96 [(0, .ref (gr G 74)), (1, .int a1), (2, .int a2), (3, .int a3)] [] r1 P
    refine vAloadN F dX0_tells_96 (k := 0) rfl ?_
    refine vAloadN F dX0_tells_97 (k := 0) rfl ?_
    refine vGetI F dX0_tells_98 fa_X0_22 (cqC_74 hs) rfl ?_
    refine vIloadN F dX0_tells_101 (k := 2) rfl ?_
    refine vIloadN F dX0_tells_102 (k := 3) rfl ?_
    refine vIconst F (v := 1) dX0_tells_103 k_1 ?_
    refine vIadd F dX0_tells_104 ?_
    refine vCallV F (d' := 18) (x := 74) (T := TX0) (N := 5) (As := [.int (r1.1 74 3), .int a2, .int (a3 + 1)]) (st := []) dX0_tells_105 lk_X0_36 my_X0_names mv_X0_names (cqC_74 hs) rfl (by omega) rfl rfl (Nat.le_of_ble_eq_true rfl) (Ac_names_ok hG hs (okB h fun r2 h => ?_))
    show mjV G X 4 108 [(0, .ref (gr G 74)), (1, .int a1), (2, .int a2), (3, .int a3)] [.int (r2.1)] (r2.2) P
    refine vIconst F (v := 2) dX0_tells_108 k_2 ?_
    refine vImul F dX0_tells_109 ?_
    have z := okS h
    exact vIret F dX0_tells_110 z
  · replace h := okF h c17
    refine vIconst F (v := 0) dX0_tells_6 k_0 ?_
    have z := okS h
    exact vIret F dX0_tells_7 z
def Ac_tells_n : Nat → Mm → Int32 → Int32 → Int32 → Option (Int32 × Mm)
  | 0 => fun _ _ _ _ => none
  | n + 1 => Ac_tells_b (Ac_tells_n n)
theorem Ac_tells_n_ok {G : Gw} (hG : gOk G) (hs : gsh G = shC) : ∀ (n : Nat) {a1 : Int32} {a2 : Int32} {a3 : Int32} {m : Mm} {P : Option Value → Mm → Prop} (h : mjO (Ac_tells_n n m a1 a2 a3) (fun r => P (some (.int r.1)) r.2)), mjR G (19 + n) yX0_tells cX0_tells 4 (some .int) [.ref (gr G 74), .int a1, .int a2, .int a3] m P
  | 0, _, _, _, _, _, ⟨_, h, _⟩ => by cases h
  | n + 1, _, _, _, _, _, h => Ac_tells_b_ok hG hs (D := 19 + n) (by omega) (by omega) (Ac_tells_n_ok hG hs n) h
def Ac_tells (m : Mm) (a1 : Int32) (a2 : Int32) (a3 : Int32) : Option (Int32 × Mm) := Ac_tells_n 8 m a1 a2 a3
theorem Ac_tells_ok {G : Gw} (hG : gOk G) (hs : gsh G = shC) {a1 : Int32} {a2 : Int32} {a3 : Int32} {m : Mm} {P : Option Value → Mm → Prop} (h : mjO (Ac_tells m a1 a2 a3) (fun r => P (some (.int r.1)) r.2)) : mjR G 27 yX0_tells cX0_tells 4 (some .int) [.ref (gr G 74), .int a1, .int a2, .int a3] m P := Ac_tells_n_ok hG hs 8 h
def NB_index (a1 : Int32) (a2 : Int32) : Int32 :=
  (a1 * 7) + a2
set_option maxRecDepth 20000 in
set_option maxHeartbeats 4000000 in
theorem NB_index_ok {G : Gw} (hG : gOk G) (hs : gsh G = shC) {a1 : Int32} {a2 : Int32} {m : Mm} {P : Option Value → Mm → Prop} (h : P (some (.int (NB_index a1 a2))) m) : mjR G 0 yX6_index cX6_index 2 (some .int) [.int a1, .int a2] m P := by
  refine mjR_of hG (by decide) (Nat.le_of_ble_eq_true rfl) ?_
  intro X F
  have F : mjF G X cX6_index RX6 2 0 (some .int) := F
  show mjV G X 2 0 [(0, .int a1), (1, .int a2)] [] m P
  have h : mjO (some (NB_index a1 a2)) (fun r => P (some (.int r)) m) := ⟨_, rfl, h⟩
  unfold NB_index at h
  refine vIloadN F dX6_index_0 (k := 0) rfl ?_
  refine vBipush F (v := 7) dX6_index_1 kb_7 ?_
  refine vImul F dX6_index_3 ?_
  refine vIloadN F dX6_index_4 (k := 1) rfl ?_
  refine vIadd F dX6_index_5 ?_
  have z := okS h
  exact vIret F dX6_index_6 z
def Wo_roadsOf_l4 (x : Nat) (m : Mm) (a1 : Int32) (s1 : Int32 × Int32) : Option ((Int32 × Int32) ⊕ Int32) :=
  if (m.1 x 0) ≤ (s1.2) then
 (some (.inr (s1.1)))
 else (ga (NB_index a1 (s1.2)) 49 (if (m.1 (x + 4) (NB_index a1 (s1.2)).toNatClampNeg) ≤ 0 then
 (some (.inl (s1.1, (s1.2) + 1)))
 else (some (.inl ((s1.1) ||| (1 <<< ((s1.2) &&& 31)), (s1.2) + 1)))))
noncomputable def Wo_roadsOf (x : Nat) (m : Mm) (a1 : Int32) : Option (Int32) :=
  (iter (Wo_roadsOf_l4 x m a1) (0, 0)).bind fun e2 =>
  some e2
set_option maxRecDepth 20000 in
set_option maxHeartbeats 4000000 in
theorem Wo_roadsOf_ok {G : Gw} (hG : gOk G) (hs : gsh G = shC) {x : Nat} (hx : is_X5 (gsh G) x) {a1 : Int32} {m : Mm} {P : Option Value → Mm → Prop} (h : mjO (Wo_roadsOf x m a1) (fun r => P (some (.int r)) m)) : mjR G 1 yX5_roadsOf cX5_roadsOf 4 (some .int) [.ref (gr G x), .int a1] m P := by
  refine mjR_of hG (by decide) (Nat.le_of_ble_eq_true rfl) ?_
  intro X F
  have F : mjF G X cX5_roadsOf RX5 4 1 (some .int) := F
  show mjV G X 4 0 [(0, .ref (gr G x)), (1, .int a1)] [] m P
  unfold Wo_roadsOf at h
  refine vIconst F (v := 0) dX5_roadsOf_0 k_0 ?_
  refine vIstoreN F (L' := [(2, .int 0), (0, .ref (gr G x)), (1, .int a1)]) dX5_roadsOf_1 rfl (by decide) rfl ?_
  refine vIconst F (v := 0) dX5_roadsOf_2 k_0 ?_
  refine vIstoreN F (L' := [(3, .int 0), (2, .int 0), (0, .ref (gr G x)), (1, .int a1)]) dX5_roadsOf_3 rfl (by decide) rfl ?_
  refine vSub [2, 3, 1, 0] rfl ?_
  refine okLoop (s0 := (0, 0)) (T := (fun (s1 : Int32 × Int32) => mjV G X 4 4 [(0, .ref (gr G x)), (1, .int a1), (2, .int (s1.1)), (3, .int (s1.2))] [] m P)) (Ve := (fun (e2 : Int32) => mjV G X 4 37 [(2, .int e2)] [] m P)) h ?_ (fun s1 h => ?_)
  · intro e2 h
    refine vIloadN F dX5_roadsOf_37 (k := 0) rfl ?_
    have z := okS h
    exact vIret F dX5_roadsOf_38 z
  · unfold Wo_roadsOf_l4 at h
    refine vIloadN F dX5_roadsOf_4 (k := 3) rfl ?_
    refine vAloadN F dX5_roadsOf_5 (k := 0) rfl ?_
    refine vGetI F dX5_roadsOf_6 fa_X5_43 hx.1 rfl ?_
    refine vIcmpGe F (tgt := 37) dX5_roadsOf_9 (by decide) (fun c5 => ?_) (fun c5 => ?_)
    · replace h := okT h c5
      refine vSub [2] rfl ?_
      have z := okR h
      exact z
    · replace h := okF h c5
      refine vAloadN F dX5_roadsOf_12 (k := 0) rfl ?_
      refine vGetR F (t := x + 4) dX5_roadsOf_13 fa_X5_21 hx.1 rfl ?_
      refine vIloadN F dX5_roadsOf_16 (k := 1) rfl ?_
      refine vIloadN F dX5_roadsOf_17 (k := 3) rfl ?_
      refine vCallS F (d' := 0) (As := [.int a1, .int (s1.2)]) (st := [.ref (gr G (x + 4))]) dX5_roadsOf_18 lk_X5_49 my_X6_index sy_X6_index (by decide) rfl rfl (Nat.le_of_ble_eq_true rfl) (NB_index_ok hG hs ?_)
      show mjV G X 4 21 [(0, .ref (gr G x)), (1, .int a1), (2, .int (s1.1)), (3, .int (s1.2))] [.int (NB_index a1 (s1.2)), .ref (gr G (x + 4))] m P
      obtain ⟨g3, h⟩ := okga h
      refine vIald F dX5_roadsOf_21 hx.2.2.2.2.1 g3 ?_
      refine vIfLe F (tgt := 31) dX5_roadsOf_22 (by decide) (fun c4 => ?_) (fun c4 => ?_)
      · replace h := okT h c4
        refine vIinc F (v := 1) (k := 3) (L' := [(3, .int ((s1.2) + 1)), (0, .ref (gr G x)), (1, .int a1), (2, .int (s1.1))]) dX5_roadsOf_31 rfl k_1 (by decide) rfl ?_
        refine vGoto F (tgt := 4) dX5_roadsOf_34 (by decide) ?_
        refine vSub [1, 2, 3, 0] rfl ?_
        have z := okL h
        exact z
      · replace h := okF h c4
        refine vIloadN F dX5_roadsOf_25 (k := 2) rfl ?_
        refine vIconst F (v := 1) dX5_roadsOf_26 k_1 ?_
        refine vIloadN F dX5_roadsOf_27 (k := 3) rfl ?_
        refine vIshl F dX5_roadsOf_28 ?_
        refine vIor F dX5_roadsOf_29 ?_
        refine vIstoreN F (L' := [(2, .int ((s1.1) ||| (1 <<< ((s1.2) &&& 31)))), (0, .ref (gr G x)), (1, .int a1), (3, .int (s1.2))]) dX5_roadsOf_30 rfl (by decide) rfl ?_
        refine vIinc F (v := 1) (k := 3) (L' := [(3, .int ((s1.2) + 1)), (2, .int ((s1.1) ||| (1 <<< ((s1.2) &&& 31)))), (0, .ref (gr G x)), (1, .int a1)]) dX5_roadsOf_31 rfl k_1 (by decide) rfl ?_
        refine vGoto F (tgt := 4) dX5_roadsOf_34 (by decide) ?_
        refine vSub [2, 3, 1, 0] rfl ?_
        have z := okL h
        exact z
noncomputable def Wo_tellFacts (x : Nat) (m : Mm) (a1 : Int32) (a2 : Nat) : Option (Mm) :=
  ga 0 6 (ga a1 7 (ga 1 6 (ga a1 7 (ga 2 6 (ga a1 7 (ga 3 6 (ga a1 7 (ga 4 6 ((Wo_roadsOf x (si (si (si (si (si m a2 (0 : Int32).toNatClampNeg a1) a2 (1 : Int32).toNatClampNeg ((si m a2 (0 : Int32).toNatClampNeg a1).1 (x + 1) a1.toNatClampNeg)) a2 (2 : Int32).toNatClampNeg ((si (si m a2 (0 : Int32).toNatClampNeg a1) a2 (1 : Int32).toNatClampNeg ((si m a2 (0 : Int32).toNatClampNeg a1).1 (x + 1) a1.toNatClampNeg)).1 (x + 2) a1.toNatClampNeg)) a2 (3 : Int32).toNatClampNeg (((si (si (si m a2 (0 : Int32).toNatClampNeg a1) a2 (1 : Int32).toNatClampNeg ((si m a2 (0 : Int32).toNatClampNeg a1).1 (x + 1) a1.toNatClampNeg)) a2 (2 : Int32).toNatClampNeg ((si (si m a2 (0 : Int32).toNatClampNeg a1) a2 (1 : Int32).toNatClampNeg ((si m a2 (0 : Int32).toNatClampNeg a1).1 (x + 1) a1.toNatClampNeg)).1 (x + 2) a1.toNatClampNeg)).1 (x + 3) a1.toNatClampNeg) / 10)) a2 (4 : Int32).toNatClampNeg (JI_bitCount ((si (si (si (si m a2 (0 : Int32).toNatClampNeg a1) a2 (1 : Int32).toNatClampNeg ((si m a2 (0 : Int32).toNatClampNeg a1).1 (x + 1) a1.toNatClampNeg)) a2 (2 : Int32).toNatClampNeg ((si (si m a2 (0 : Int32).toNatClampNeg a1) a2 (1 : Int32).toNatClampNeg ((si m a2 (0 : Int32).toNatClampNeg a1).1 (x + 1) a1.toNatClampNeg)).1 (x + 2) a1.toNatClampNeg)) a2 (3 : Int32).toNatClampNeg (((si (si (si m a2 (0 : Int32).toNatClampNeg a1) a2 (1 : Int32).toNatClampNeg ((si m a2 (0 : Int32).toNatClampNeg a1).1 (x + 1) a1.toNatClampNeg)) a2 (2 : Int32).toNatClampNeg ((si (si m a2 (0 : Int32).toNatClampNeg a1) a2 (1 : Int32).toNatClampNeg ((si m a2 (0 : Int32).toNatClampNeg a1).1 (x + 1) a1.toNatClampNeg)).1 (x + 2) a1.toNatClampNeg)).1 (x + 3) a1.toNatClampNeg) / 10)).1 (x + 5) a1.toNatClampNeg))) a1).bind fun r10 =>
  ga 5 6 (some (si (si (si (si (si (si m a2 (0 : Int32).toNatClampNeg a1) a2 (1 : Int32).toNatClampNeg ((si m a2 (0 : Int32).toNatClampNeg a1).1 (x + 1) a1.toNatClampNeg)) a2 (2 : Int32).toNatClampNeg ((si (si m a2 (0 : Int32).toNatClampNeg a1) a2 (1 : Int32).toNatClampNeg ((si m a2 (0 : Int32).toNatClampNeg a1).1 (x + 1) a1.toNatClampNeg)).1 (x + 2) a1.toNatClampNeg)) a2 (3 : Int32).toNatClampNeg (((si (si (si m a2 (0 : Int32).toNatClampNeg a1) a2 (1 : Int32).toNatClampNeg ((si m a2 (0 : Int32).toNatClampNeg a1).1 (x + 1) a1.toNatClampNeg)) a2 (2 : Int32).toNatClampNeg ((si (si m a2 (0 : Int32).toNatClampNeg a1) a2 (1 : Int32).toNatClampNeg ((si m a2 (0 : Int32).toNatClampNeg a1).1 (x + 1) a1.toNatClampNeg)).1 (x + 2) a1.toNatClampNeg)).1 (x + 3) a1.toNatClampNeg) / 10)) a2 (4 : Int32).toNatClampNeg (JI_bitCount ((si (si (si (si m a2 (0 : Int32).toNatClampNeg a1) a2 (1 : Int32).toNatClampNeg ((si m a2 (0 : Int32).toNatClampNeg a1).1 (x + 1) a1.toNatClampNeg)) a2 (2 : Int32).toNatClampNeg ((si (si m a2 (0 : Int32).toNatClampNeg a1) a2 (1 : Int32).toNatClampNeg ((si m a2 (0 : Int32).toNatClampNeg a1).1 (x + 1) a1.toNatClampNeg)).1 (x + 2) a1.toNatClampNeg)) a2 (3 : Int32).toNatClampNeg (((si (si (si m a2 (0 : Int32).toNatClampNeg a1) a2 (1 : Int32).toNatClampNeg ((si m a2 (0 : Int32).toNatClampNeg a1).1 (x + 1) a1.toNatClampNeg)) a2 (2 : Int32).toNatClampNeg ((si (si m a2 (0 : Int32).toNatClampNeg a1) a2 (1 : Int32).toNatClampNeg ((si m a2 (0 : Int32).toNatClampNeg a1).1 (x + 1) a1.toNatClampNeg)).1 (x + 2) a1.toNatClampNeg)).1 (x + 3) a1.toNatClampNeg) / 10)).1 (x + 5) a1.toNatClampNeg))) a2 (5 : Int32).toNatClampNeg (JI_bitCount r10))))))))))))
set_option maxRecDepth 20000 in
set_option maxHeartbeats 4000000 in
theorem Wo_tellFacts_ok {G : Gw} (hG : gOk G) (hs : gsh G = shC) {x : Nat} (hx : is_X5 (gsh G) x) {a1 : Int32} {a2 : Nat} (ha2 : (gsh G)[a2]? = some (0, 6, [])) {m : Mm} {P : Option Value → Mm → Prop} (h : mjO (Wo_tellFacts x m a1 a2) (fun r => P none r)) : mjR G 2 yX5_tellFacts cX5_tellFacts 3 none [.ref (gr G x), .int a1, .ref (gr G a2)] m P := by
  refine mjR_of hG (by decide) (Nat.le_of_ble_eq_true rfl) ?_
  intro X F
  have F : mjF G X cX5_tellFacts RX5 3 2 none := F
  show mjV G X 3 0 [(0, .ref (gr G x)), (1, .int a1), (2, .ref (gr G a2))] [] m P
  unfold Wo_tellFacts at h
  refine vAloadN F dX5_tellFacts_0 (k := 2) rfl ?_
  refine vIconst F (v := 0) dX5_tellFacts_1 k_0 ?_
  refine vIloadN F dX5_tellFacts_2 (k := 1) rfl ?_
  obtain ⟨g1, h⟩ := okga h
  refine vIast F dX5_tellFacts_3 ha2 g1 ?_
  refine vAloadN F dX5_tellFacts_4 (k := 2) rfl ?_
  refine vIconst F (v := 1) dX5_tellFacts_5 k_1 ?_
  refine vAloadN F dX5_tellFacts_6 (k := 0) rfl ?_
  refine vGetR F (t := x + 1) dX5_tellFacts_7 fa_X5_9 hx.1 rfl ?_
  refine vIloadN F dX5_tellFacts_10 (k := 1) rfl ?_
  obtain ⟨g2, h⟩ := okga h
  refine vIald F dX5_tellFacts_11 hx.2.1 g2 ?_
  obtain ⟨g3, h⟩ := okga h
  refine vIast F dX5_tellFacts_12 ha2 g3 ?_
  refine vAloadN F dX5_tellFacts_13 (k := 2) rfl ?_
  refine vIconst F (v := 2) dX5_tellFacts_14 k_2 ?_
  refine vAloadN F dX5_tellFacts_15 (k := 0) rfl ?_
  refine vGetR F (t := x + 2) dX5_tellFacts_16 fa_X5_15 hx.1 rfl ?_
  refine vIloadN F dX5_tellFacts_19 (k := 1) rfl ?_
  obtain ⟨g4, h⟩ := okga h
  refine vIald F dX5_tellFacts_20 hx.2.2.1 g4 ?_
  obtain ⟨g5, h⟩ := okga h
  refine vIast F dX5_tellFacts_21 ha2 g5 ?_
  refine vAloadN F dX5_tellFacts_22 (k := 2) rfl ?_
  refine vIconst F (v := 3) dX5_tellFacts_23 k_3 ?_
  refine vAloadN F dX5_tellFacts_24 (k := 0) rfl ?_
  refine vGetR F (t := x + 3) dX5_tellFacts_25 fa_X5_18 hx.1 rfl ?_
  refine vIloadN F dX5_tellFacts_28 (k := 1) rfl ?_
  obtain ⟨g6, h⟩ := okga h
  refine vIald F dX5_tellFacts_29 hx.2.2.2.1 g6 ?_
  refine vBipush F (v := 10) dX5_tellFacts_30 kb_10 ?_
  refine vIdiv F dX5_tellFacts_32 (by decide) ?_
  obtain ⟨g7, h⟩ := okga h
  refine vIast F dX5_tellFacts_33 ha2 g7 ?_
  refine vAloadN F dX5_tellFacts_34 (k := 2) rfl ?_
  refine vIconst F (v := 4) dX5_tellFacts_35 k_4 ?_
  refine vAloadN F dX5_tellFacts_36 (k := 0) rfl ?_
  refine vGetR F (t := x + 5) dX5_tellFacts_37 fa_X5_24 hx.1 rfl ?_
  refine vIloadN F dX5_tellFacts_40 (k := 1) rfl ?_
  obtain ⟨g8, h⟩ := okga h
  refine vIald F dX5_tellFacts_41 hx.2.2.2.2.2.1 g8 ?_
  refine vCallS F (d' := 0) (As := [.int ((si (si (si (si m a2 (0 : Int32).toNatClampNeg a1) a2 (1 : Int32).toNatClampNeg ((si m a2 (0 : Int32).toNatClampNeg a1).1 (x + 1) a1.toNatClampNeg)) a2 (2 : Int32).toNatClampNeg ((si (si m a2 (0 : Int32).toNatClampNeg a1) a2 (1 : Int32).toNatClampNeg ((si m a2 (0 : Int32).toNatClampNeg a1).1 (x + 1) a1.toNatClampNeg)).1 (x + 2) a1.toNatClampNeg)) a2 (3 : Int32).toNatClampNeg (((si (si (si m a2 (0 : Int32).toNatClampNeg a1) a2 (1 : Int32).toNatClampNeg ((si m a2 (0 : Int32).toNatClampNeg a1).1 (x + 1) a1.toNatClampNeg)) a2 (2 : Int32).toNatClampNeg ((si (si m a2 (0 : Int32).toNatClampNeg a1) a2 (1 : Int32).toNatClampNeg ((si m a2 (0 : Int32).toNatClampNeg a1).1 (x + 1) a1.toNatClampNeg)).1 (x + 2) a1.toNatClampNeg)).1 (x + 3) a1.toNatClampNeg) / 10)).1 (x + 5) a1.toNatClampNeg)]) (st := [.int 4, .ref (gr G a2)]) dX5_tellFacts_42 lk_X5_53 my_J6_bitCount_0f7a4 sy_J6_bitCount_0f7a4 (by decide) rfl rfl (Nat.le_of_ble_eq_true rfl) (JI_bitCount_ok hG ?_)
  show mjV G X 3 45 [(0, .ref (gr G x)), (1, .int a1), (2, .ref (gr G a2))] [.int (JI_bitCount ((si (si (si (si m a2 (0 : Int32).toNatClampNeg a1) a2 (1 : Int32).toNatClampNeg ((si m a2 (0 : Int32).toNatClampNeg a1).1 (x + 1) a1.toNatClampNeg)) a2 (2 : Int32).toNatClampNeg ((si (si m a2 (0 : Int32).toNatClampNeg a1) a2 (1 : Int32).toNatClampNeg ((si m a2 (0 : Int32).toNatClampNeg a1).1 (x + 1) a1.toNatClampNeg)).1 (x + 2) a1.toNatClampNeg)) a2 (3 : Int32).toNatClampNeg (((si (si (si m a2 (0 : Int32).toNatClampNeg a1) a2 (1 : Int32).toNatClampNeg ((si m a2 (0 : Int32).toNatClampNeg a1).1 (x + 1) a1.toNatClampNeg)) a2 (2 : Int32).toNatClampNeg ((si (si m a2 (0 : Int32).toNatClampNeg a1) a2 (1 : Int32).toNatClampNeg ((si m a2 (0 : Int32).toNatClampNeg a1).1 (x + 1) a1.toNatClampNeg)).1 (x + 2) a1.toNatClampNeg)).1 (x + 3) a1.toNatClampNeg) / 10)).1 (x + 5) a1.toNatClampNeg)), .int 4, .ref (gr G a2)] (si (si (si (si m a2 (0 : Int32).toNatClampNeg a1) a2 (1 : Int32).toNatClampNeg ((si m a2 (0 : Int32).toNatClampNeg a1).1 (x + 1) a1.toNatClampNeg)) a2 (2 : Int32).toNatClampNeg ((si (si m a2 (0 : Int32).toNatClampNeg a1) a2 (1 : Int32).toNatClampNeg ((si m a2 (0 : Int32).toNatClampNeg a1).1 (x + 1) a1.toNatClampNeg)).1 (x + 2) a1.toNatClampNeg)) a2 (3 : Int32).toNatClampNeg (((si (si (si m a2 (0 : Int32).toNatClampNeg a1) a2 (1 : Int32).toNatClampNeg ((si m a2 (0 : Int32).toNatClampNeg a1).1 (x + 1) a1.toNatClampNeg)) a2 (2 : Int32).toNatClampNeg ((si (si m a2 (0 : Int32).toNatClampNeg a1) a2 (1 : Int32).toNatClampNeg ((si m a2 (0 : Int32).toNatClampNeg a1).1 (x + 1) a1.toNatClampNeg)).1 (x + 2) a1.toNatClampNeg)).1 (x + 3) a1.toNatClampNeg) / 10)) P
  obtain ⟨g9, h⟩ := okga h
  refine vIast F dX5_tellFacts_45 ha2 g9 ?_
  refine vAloadN F dX5_tellFacts_46 (k := 2) rfl ?_
  refine vIconst F (v := 5) dX5_tellFacts_47 k_5 ?_
  refine vAloadN F dX5_tellFacts_48 (k := 0) rfl ?_
  refine vIloadN F dX5_tellFacts_49 (k := 1) rfl ?_
  refine vCallV F (d' := 1) (x := x) (T := TX5) (N := 13) (As := [.int a1]) (st := [.int 5, .ref (gr G a2)]) dX5_tellFacts_50 lk_X5_59 my_X5_roadsOf mv_X5_roadsOf hx.1 rfl (by decide) rfl rfl (Nat.le_of_ble_eq_true rfl) (Wo_roadsOf_ok hG hs hx (okB h fun r10 h => ?_))
  show mjV G X 3 53 [(0, .ref (gr G x)), (1, .int a1), (2, .ref (gr G a2))] [.int r10, .int 5, .ref (gr G a2)] (si (si (si (si (si m a2 (0 : Int32).toNatClampNeg a1) a2 (1 : Int32).toNatClampNeg ((si m a2 (0 : Int32).toNatClampNeg a1).1 (x + 1) a1.toNatClampNeg)) a2 (2 : Int32).toNatClampNeg ((si (si m a2 (0 : Int32).toNatClampNeg a1) a2 (1 : Int32).toNatClampNeg ((si m a2 (0 : Int32).toNatClampNeg a1).1 (x + 1) a1.toNatClampNeg)).1 (x + 2) a1.toNatClampNeg)) a2 (3 : Int32).toNatClampNeg (((si (si (si m a2 (0 : Int32).toNatClampNeg a1) a2 (1 : Int32).toNatClampNeg ((si m a2 (0 : Int32).toNatClampNeg a1).1 (x + 1) a1.toNatClampNeg)) a2 (2 : Int32).toNatClampNeg ((si (si m a2 (0 : Int32).toNatClampNeg a1) a2 (1 : Int32).toNatClampNeg ((si m a2 (0 : Int32).toNatClampNeg a1).1 (x + 1) a1.toNatClampNeg)).1 (x + 2) a1.toNatClampNeg)).1 (x + 3) a1.toNatClampNeg) / 10)) a2 (4 : Int32).toNatClampNeg (JI_bitCount ((si (si (si (si m a2 (0 : Int32).toNatClampNeg a1) a2 (1 : Int32).toNatClampNeg ((si m a2 (0 : Int32).toNatClampNeg a1).1 (x + 1) a1.toNatClampNeg)) a2 (2 : Int32).toNatClampNeg ((si (si m a2 (0 : Int32).toNatClampNeg a1) a2 (1 : Int32).toNatClampNeg ((si m a2 (0 : Int32).toNatClampNeg a1).1 (x + 1) a1.toNatClampNeg)).1 (x + 2) a1.toNatClampNeg)) a2 (3 : Int32).toNatClampNeg (((si (si (si m a2 (0 : Int32).toNatClampNeg a1) a2 (1 : Int32).toNatClampNeg ((si m a2 (0 : Int32).toNatClampNeg a1).1 (x + 1) a1.toNatClampNeg)) a2 (2 : Int32).toNatClampNeg ((si (si m a2 (0 : Int32).toNatClampNeg a1) a2 (1 : Int32).toNatClampNeg ((si m a2 (0 : Int32).toNatClampNeg a1).1 (x + 1) a1.toNatClampNeg)).1 (x + 2) a1.toNatClampNeg)).1 (x + 3) a1.toNatClampNeg) / 10)).1 (x + 5) a1.toNatClampNeg))) P
  refine vCallS F (d' := 0) (As := [.int r10]) (st := [.int 5, .ref (gr G a2)]) dX5_tellFacts_53 lk_X5_53 my_J6_bitCount_0f7a4 sy_J6_bitCount_0f7a4 (by decide) rfl rfl (Nat.le_of_ble_eq_true rfl) (JI_bitCount_ok hG ?_)
  show mjV G X 3 56 [(0, .ref (gr G x)), (1, .int a1), (2, .ref (gr G a2))] [.int (JI_bitCount r10), .int 5, .ref (gr G a2)] (si (si (si (si (si m a2 (0 : Int32).toNatClampNeg a1) a2 (1 : Int32).toNatClampNeg ((si m a2 (0 : Int32).toNatClampNeg a1).1 (x + 1) a1.toNatClampNeg)) a2 (2 : Int32).toNatClampNeg ((si (si m a2 (0 : Int32).toNatClampNeg a1) a2 (1 : Int32).toNatClampNeg ((si m a2 (0 : Int32).toNatClampNeg a1).1 (x + 1) a1.toNatClampNeg)).1 (x + 2) a1.toNatClampNeg)) a2 (3 : Int32).toNatClampNeg (((si (si (si m a2 (0 : Int32).toNatClampNeg a1) a2 (1 : Int32).toNatClampNeg ((si m a2 (0 : Int32).toNatClampNeg a1).1 (x + 1) a1.toNatClampNeg)) a2 (2 : Int32).toNatClampNeg ((si (si m a2 (0 : Int32).toNatClampNeg a1) a2 (1 : Int32).toNatClampNeg ((si m a2 (0 : Int32).toNatClampNeg a1).1 (x + 1) a1.toNatClampNeg)).1 (x + 2) a1.toNatClampNeg)).1 (x + 3) a1.toNatClampNeg) / 10)) a2 (4 : Int32).toNatClampNeg (JI_bitCount ((si (si (si (si m a2 (0 : Int32).toNatClampNeg a1) a2 (1 : Int32).toNatClampNeg ((si m a2 (0 : Int32).toNatClampNeg a1).1 (x + 1) a1.toNatClampNeg)) a2 (2 : Int32).toNatClampNeg ((si (si m a2 (0 : Int32).toNatClampNeg a1) a2 (1 : Int32).toNatClampNeg ((si m a2 (0 : Int32).toNatClampNeg a1).1 (x + 1) a1.toNatClampNeg)).1 (x + 2) a1.toNatClampNeg)) a2 (3 : Int32).toNatClampNeg (((si (si (si m a2 (0 : Int32).toNatClampNeg a1) a2 (1 : Int32).toNatClampNeg ((si m a2 (0 : Int32).toNatClampNeg a1).1 (x + 1) a1.toNatClampNeg)) a2 (2 : Int32).toNatClampNeg ((si (si m a2 (0 : Int32).toNatClampNeg a1) a2 (1 : Int32).toNatClampNeg ((si m a2 (0 : Int32).toNatClampNeg a1).1 (x + 1) a1.toNatClampNeg)).1 (x + 2) a1.toNatClampNeg)).1 (x + 3) a1.toNatClampNeg) / 10)).1 (x + 5) a1.toNatClampNeg))) P
  obtain ⟨g11, h⟩ := okga h
  refine vIast F dX5_tellFacts_56 ha2 g11 ?_
  have z := okS h
  exact vVret F dX5_tellFacts_57 z
def La_passes (m : Mm) (a1 : Int32) (a2 : Nat) : Option (Bool) :=
  ga (a1 / 300) 6 (if ((a1 / 100) - (a1 / 100) / 3 * 3) = 0 then
 (if (a1 - a1 / 100 * 100) ≤ (m.1 a2 (a1 / 300).toNatClampNeg) then
 (some false)
 else (some true))
 else (if ((a1 / 100) - (a1 / 100) / 3 * 3) = 1 then
 (if (m.1 a2 (a1 / 300).toNatClampNeg) = (a1 - a1 / 100 * 100) then
 (some true)
 else (some false))
 else (if (m.1 a2 (a1 / 300).toNatClampNeg) ≤ (a1 - a1 / 100 * 100) then
 (some false)
 else (some true))))
set_option maxRecDepth 20000 in
set_option maxHeartbeats 4000000 in
theorem La_passes_ok {G : Gw} (hG : gOk G) (hs : gsh G = shC) {a1 : Int32} {a2 : Nat} (ha2 : (gsh G)[a2]? = some (0, 6, [])) {m : Mm} {P : Option Value → Mm → Prop} (h : mjO (La_passes m a1 a2) (fun r => P (some (.int (bI r))) m)) : mjR G 0 yX2_passes cX2_passes 4 (some .boolean) [.int a1, .ref (gr G a2)] m P := by
  refine mjR_of hG (by decide) (Nat.le_of_ble_eq_true rfl) ?_
  intro X F
  have F : mjF G X cX2_passes RX2 4 0 (some .boolean) := F
  show mjV G X 4 0 [(0, .int a1), (1, .ref (gr G a2))] [] m P
  unfold La_passes at h
  refine vAloadN F dX2_passes_0 (k := 1) rfl ?_
  refine vIloadN F dX2_passes_1 (k := 0) rfl ?_
  refine vSipush F (v := 300) dX2_passes_2 ks_300 ?_
  refine vIdiv F dX2_passes_5 (by decide) ?_
  obtain ⟨g1, h⟩ := okga h
  refine vIald F dX2_passes_6 ha2 g1 ?_
  refine vIstoreN F (L' := [(2, .int (m.1 a2 (a1 / 300).toNatClampNeg)), (0, .int a1), (1, .ref (gr G a2))]) dX2_passes_7 rfl (by decide) rfl ?_
  refine vIloadN F dX2_passes_8 (k := 1) rfl ?_
  refine vBipush F (v := 100) dX2_passes_9 kb_100 ?_
  refine vIrem F dX2_passes_11 (by decide) ?_
  refine vIstoreN F (L' := [(3, .int (a1 - a1 / 100 * 100)), (2, .int (m.1 a2 (a1 / 300).toNatClampNeg)), (0, .int a1), (1, .ref (gr G a2))]) dX2_passes_12 rfl (by decide) rfl ?_
  refine vIloadN F dX2_passes_13 (k := 2) rfl ?_
  refine vBipush F (v := 100) dX2_passes_14 kb_100 ?_
  refine vIdiv F dX2_passes_16 (by decide) ?_
  refine vIconst F (v := 3) dX2_passes_17 k_3 ?_
  refine vIrem F dX2_passes_18 (by decide) ?_
  by_cases c3 : ((a1 / 100) - (a1 / 100) / 3 * 3) = 0
  · replace h := okT h c3
    refine vLook F (tgt := 44) dX2_passes_19 (by decide) (lk_in 0 c3 (by decide)) (by decide) ?_
    refine vIloadN F dX2_passes_44 (k := 1) rfl ?_
    refine vIloadN F dX2_passes_45 (k := 0) rfl ?_
    refine vIcmpGe F (tgt := 53) dX2_passes_46 (by decide) (fun c4 => ?_) (fun c4 => ?_)
    · replace h := okT h c4
      refine vIconst F (v := 0) dX2_passes_53 k_0 ?_
      have z := okS h
      exact vZret (x := bI false) F dX2_passes_54 (nzI _) z
    · replace h := okF h c4
      refine vIconst F (v := 1) dX2_passes_49 k_1 ?_
      refine vGoto F (tgt := 54) dX2_passes_50 (by decide) ?_
      have z := okS h
      exact vZret (x := bI true) F dX2_passes_54 (nzI _) z
  replace h := okF h c3
  by_cases c5 : ((a1 / 100) - (a1 / 100) / 3 * 3) = 1
  · replace h := okT h c5
    refine vLook F (tgt := 55) dX2_passes_19 (by decide) ((lv_osw c3 (by decide)).trans (lk_in 1 c5 (by decide))) (by decide) ?_
    refine vIloadN F dX2_passes_55 (k := 1) rfl ?_
    refine vIloadN F dX2_passes_56 (k := 0) rfl ?_
    refine vIcmpNe F (tgt := 64) dX2_passes_57 (by decide) (fun c6 => ?_) (fun c6 => ?_)
    · replace h := okF h c6
      refine vIconst F (v := 0) dX2_passes_64 k_0 ?_
      have z := okS h
      exact vZret (x := bI false) F dX2_passes_65 (nzI _) z
    · replace h := okT h c6
      refine vIconst F (v := 1) dX2_passes_60 k_1 ?_
      refine vGoto F (tgt := 65) dX2_passes_61 (by decide) ?_
      have z := okS h
      exact vZret (x := bI true) F dX2_passes_65 (nzI _) z
  replace h := okF h c5
  refine vLook F (tgt := 66) dX2_passes_19 (by decide) ((lv_osw c3 (by decide)).trans ((lv_osw c5 (by decide)).trans lk_nil)) (by decide) ?_
  refine vIloadN F dX2_passes_66 (k := 1) rfl ?_
  refine vIloadN F dX2_passes_67 (k := 0) rfl ?_
  refine vIcmpLe F (tgt := 75) dX2_passes_68 (by decide) (fun c2 => ?_) (fun c2 => ?_)
  · replace h := okT h c2
    refine vIconst F (v := 0) dX2_passes_75 k_0 ?_
    have z := okS h
    exact vZret (x := bI false) F dX2_passes_76 (nzI _) z
  · replace h := okF h c2
    refine vIconst F (v := 1) dX2_passes_71 k_1 ?_
    refine vGoto F (tgt := 76) dX2_passes_72 (by decide) ?_
    have z := okS h
    exact vZret (x := bI true) F dX2_passes_76 (nzI _) z
def La_holds_l6 (x : Nat) (m : Mm) (a2 : Int32) (a3 : Nat) (s1 : Int32 × Int32) : Option ((Int32 × Int32) ⊕ Int32) :=
  if a2 ≤ (s1.2) then
 (some (.inr (s1.1)))
 else (ga (s1.2) 100 (if (m.1 (x + 1) (s1.2).toNatClampNeg) = (-1) then
 (some (.inl ((s1.1) ^^^ 1, (s1.2) + 1)))
 else (if (m.1 (x + 1) (s1.2).toNatClampNeg) = (-2) then
 (some (.inl (((s1.1) >>> (1 &&& 31)) &&& ((s1.1) ||| (-2)), (s1.2) + 1)))
 else (if (m.1 (x + 1) (s1.2).toNatClampNeg) = (-3) then
 (some (.inl (((s1.1) >>> (1 &&& 31)) ||| ((s1.1) &&& 1), (s1.2) + 1)))
 else ((La_passes m (m.1 (x + 1) (s1.2).toNatClampNeg) a3).bind fun r4 =>
  if r4 = true then
 (some (.inl (((s1.1) <<< (1 &&& 31)) ||| 1, (s1.2) + 1)))
 else (some (.inl (((s1.1) <<< (1 &&& 31)) ||| 0, (s1.2) + 1))))))))
noncomputable def La_holds (x : Nat) (m : Mm) (a1 : Int32) (a2 : Int32) (a3 : Nat) : Option (Bool) :=
  (iter (La_holds_l6 x m a2 a3) (0, a1)).bind fun e2 =>
  if (e2 &&& 1) = 1 then
 (some true)
 else (some false)
set_option maxRecDepth 20000 in
set_option maxHeartbeats 4000000 in
theorem La_holds_ok {G : Gw} (hG : gOk G) (hs : gsh G = shC) {x : Nat} (hx : is_X2 (gsh G) x) {a1 : Int32} {a2 : Int32} {a3 : Nat} (ha3 : (gsh G)[a3]? = some (0, 6, [])) {m : Mm} {P : Option Value → Mm → Prop} (h : mjO (La_holds x m a1 a2 a3) (fun r => P (some (.int (bI r))) m)) : mjR G 1 yX2_holds cX2_holds 7 (some .boolean) [.ref (gr G x), .int a1, .int a2, .ref (gr G a3)] m P := by
  refine mjR_of hG (by decide) (Nat.le_of_ble_eq_true rfl) ?_
  intro X F
  have F : mjF G X cX2_holds RX2 7 1 (some .boolean) := F
  show mjV G X 7 0 [(0, .ref (gr G x)), (1, .int a1), (2, .int a2), (3, .ref (gr G a3))] [] m P
  unfold La_holds at h
  refine vIconst F (v := 0) dX2_holds_0 k_0 ?_
  refine vIstore F (L' := [(4, .int 0), (0, .ref (gr G x)), (1, .int a1), (2, .int a2), (3, .ref (gr G a3))]) dX2_holds_1 (by decide) rfl ?_
  refine vIloadN F dX2_holds_3 (k := 2) rfl ?_
  refine vIstore F (L' := [(5, .int a1), (4, .int 0), (0, .ref (gr G x)), (1, .int a1), (2, .int a2), (3, .ref (gr G a3))]) dX2_holds_4 (by decide) rfl ?_
  refine vSub [2, 4, 5, 1, 0] rfl ?_
  refine okLoop (s0 := (0, a1)) (T := (fun (s1 : Int32 × Int32) => mjV G X 7 6 [(0, .ref (gr G x)), (2, .int a2), (3, .ref (gr G a3)), (4, .int (s1.1)), (5, .int (s1.2))] [] m P)) (Ve := (fun (e2 : Int32) => mjV G X 7 106 [(4, .int e2)] [] m P)) h ?_ (fun s1 h => ?_)
  · intro e2 h
    refine vIload F dX2_holds_106 (k := 0) rfl ?_
    refine vIconst F (v := 1) dX2_holds_108 k_1 ?_
    refine vIand F dX2_holds_109 ?_
    refine vIconst F (v := 1) dX2_holds_110 k_1 ?_
    refine vIcmpNe F (tgt := 118) dX2_holds_111 (by decide) (fun c10 => ?_) (fun c10 => ?_)
    · replace h := okF h c10
      refine vIconst F (v := 0) dX2_holds_118 k_0 ?_
      have z := okS h
      exact vZret (x := bI false) F dX2_holds_119 (nzI _) z
    · replace h := okT h c10
      refine vIconst F (v := 1) dX2_holds_114 k_1 ?_
      refine vGoto F (tgt := 119) dX2_holds_115 (by decide) ?_
      have z := okS h
      exact vZret (x := bI true) F dX2_holds_119 (nzI _) z
  · unfold La_holds_l6 at h
    refine vIload F dX2_holds_6 (k := 4) rfl ?_
    refine vIloadN F dX2_holds_8 (k := 1) rfl ?_
    refine vIcmpGe F (tgt := 106) dX2_holds_9 (by decide) (fun c9 => ?_) (fun c9 => ?_)
    · replace h := okT h c9
      refine vSub [3] rfl ?_
      have z := okR h
      exact z
    · replace h := okF h c9
      refine vAloadN F dX2_holds_12 (k := 0) rfl ?_
      refine vGetR F (t := x + 1) dX2_holds_13 fa_X2_9 hx.1 rfl ?_
      refine vIload F dX2_holds_16 (k := 4) rfl ?_
      obtain ⟨g3, h⟩ := okga h
      refine vIald F dX2_holds_18 hx.2.1 g3 ?_
      refine vIstore F (L' := [(6, .int (m.1 (x + 1) (s1.2).toNatClampNeg)), (0, .ref (gr G x)), (2, .int a2), (3, .ref (gr G a3)), (4, .int (s1.1)), (5, .int (s1.2))]) dX2_holds_19 (by decide) rfl ?_
      refine vIload F dX2_holds_21 (k := 0) rfl ?_
      refine vIconst F (v := (-1)) dX2_holds_23 k_m1 ?_
      refine vIcmpNe F (tgt := 36) dX2_holds_24 (by decide) (fun c8 => ?_) (fun c8 => ?_)
      · replace h := okF h c8
        refine vIload F dX2_holds_36 (k := 0) rfl ?_
        refine vBipush F (v := (-2)) dX2_holds_38 kb_m2 ?_
        refine vIcmpNe F (tgt := 58) dX2_holds_40 (by decide) (fun c7 => ?_) (fun c7 => ?_)
        · replace h := okF h c7
          refine vIload F dX2_holds_58 (k := 0) rfl ?_
          refine vBipush F (v := (-3)) dX2_holds_60 kb_m3 ?_
          refine vIcmpNe F (tgt := 79) dX2_holds_62 (by decide) (fun c6 => ?_) (fun c6 => ?_)
          · replace h := okF h c6
            refine vIload F dX2_holds_79 (k := 4) rfl ?_
            refine vIconst F (v := 1) dX2_holds_81 k_1 ?_
            refine vIshl F dX2_holds_82 ?_
            refine vIload F dX2_holds_83 (k := 0) rfl ?_
            refine vAloadN F dX2_holds_85 (k := 3) rfl ?_
            refine vCallS F (d' := 0) (As := [.int (m.1 (x + 1) (s1.2).toNatClampNeg), .ref (gr G a3)]) (st := [.int ((s1.1) <<< (1 &&& 31))]) dX2_holds_86 lk_X2_42 my_X2_passes sy_X2_passes (by decide) rfl rfl (Nat.le_of_ble_eq_true rfl) (La_passes_ok hG hs ha3 (okB h fun r4 h => ?_))
            show mjV G X 7 89 [(6, .int (m.1 (x + 1) (s1.2).toNatClampNeg)), (0, .ref (gr G x)), (2, .int a2), (3, .ref (gr G a3)), (4, .int (s1.1)), (5, .int (s1.2))] [.int (bI r4), .int ((s1.1) <<< (1 &&& 31))] m P
            refine vIfEqB F (tgt := 96) dX2_holds_89 (by decide) (fun c5 => ?_) (fun c5 => ?_)
            · replace h := okF h c5
              refine vIconst F (v := 0) dX2_holds_96 k_0 ?_
              refine vIor F dX2_holds_97 ?_
              refine vIstore F (L' := [(4, .int (((s1.1) <<< (1 &&& 31)) ||| 0)), (6, .int (m.1 (x + 1) (s1.2).toNatClampNeg)), (0, .ref (gr G x)), (2, .int a2), (3, .ref (gr G a3)), (5, .int (s1.2))]) dX2_holds_98 (by decide) rfl ?_
              refine vIinc F (v := 1) (k := 5) (L' := [(5, .int ((s1.2) + 1)), (4, .int (((s1.1) <<< (1 &&& 31)) ||| 0)), (6, .int (m.1 (x + 1) (s1.2).toNatClampNeg)), (0, .ref (gr G x)), (2, .int a2), (3, .ref (gr G a3))]) dX2_holds_100 rfl k_1 (by decide) rfl ?_
              refine vGoto F (tgt := 6) dX2_holds_103 (by decide) ?_
              refine vSub [3, 4, 5, 1, 0] rfl ?_
              have z := okL h
              exact z
            · replace h := okT h c5
              refine vIconst F (v := 1) dX2_holds_92 k_1 ?_
              refine vGoto F (tgt := 97) dX2_holds_93 (by decide) ?_
              refine vIor F dX2_holds_97 ?_
              refine vIstore F (L' := [(4, .int (((s1.1) <<< (1 &&& 31)) ||| 1)), (6, .int (m.1 (x + 1) (s1.2).toNatClampNeg)), (0, .ref (gr G x)), (2, .int a2), (3, .ref (gr G a3)), (5, .int (s1.2))]) dX2_holds_98 (by decide) rfl ?_
              refine vIinc F (v := 1) (k := 5) (L' := [(5, .int ((s1.2) + 1)), (4, .int (((s1.1) <<< (1 &&& 31)) ||| 1)), (6, .int (m.1 (x + 1) (s1.2).toNatClampNeg)), (0, .ref (gr G x)), (2, .int a2), (3, .ref (gr G a3))]) dX2_holds_100 rfl k_1 (by decide) rfl ?_
              refine vGoto F (tgt := 6) dX2_holds_103 (by decide) ?_
              refine vSub [3, 4, 5, 1, 0] rfl ?_
              have z := okL h
              exact z
          · replace h := okT h c6
            refine vIload F dX2_holds_65 (k := 4) rfl ?_
            refine vIconst F (v := 1) dX2_holds_67 k_1 ?_
            refine vIshr F dX2_holds_68 ?_
            refine vIload F dX2_holds_69 (k := 4) rfl ?_
            refine vIconst F (v := 1) dX2_holds_71 k_1 ?_
            refine vIand F dX2_holds_72 ?_
            refine vIor F dX2_holds_73 ?_
            refine vIstore F (L' := [(4, .int (((s1.1) >>> (1 &&& 31)) ||| ((s1.1) &&& 1))), (6, .int (m.1 (x + 1) (s1.2).toNatClampNeg)), (0, .ref (gr G x)), (2, .int a2), (3, .ref (gr G a3)), (5, .int (s1.2))]) dX2_holds_74 (by decide) rfl ?_
            refine vGoto F (tgt := 100) dX2_holds_76 (by decide) ?_
            refine vIinc F (v := 1) (k := 5) (L' := [(5, .int ((s1.2) + 1)), (4, .int (((s1.1) >>> (1 &&& 31)) ||| ((s1.1) &&& 1))), (6, .int (m.1 (x + 1) (s1.2).toNatClampNeg)), (0, .ref (gr G x)), (2, .int a2), (3, .ref (gr G a3))]) dX2_holds_100 rfl k_1 (by decide) rfl ?_
            refine vGoto F (tgt := 6) dX2_holds_103 (by decide) ?_
            refine vSub [3, 4, 5, 1, 0] rfl ?_
            have z := okL h
            exact z
        · replace h := okT h c7
          refine vIload F dX2_holds_43 (k := 4) rfl ?_
          refine vIconst F (v := 1) dX2_holds_45 k_1 ?_
          refine vIshr F dX2_holds_46 ?_
          refine vIload F dX2_holds_47 (k := 4) rfl ?_
          refine vBipush F (v := (-2)) dX2_holds_49 kb_m2 ?_
          refine vIor F dX2_holds_51 ?_
          refine vIand F dX2_holds_52 ?_
          refine vIstore F (L' := [(4, .int (((s1.1) >>> (1 &&& 31)) &&& ((s1.1) ||| (-2)))), (6, .int (m.1 (x + 1) (s1.2).toNatClampNeg)), (0, .ref (gr G x)), (2, .int a2), (3, .ref (gr G a3)), (5, .int (s1.2))]) dX2_holds_53 (by decide) rfl ?_
          refine vGoto F (tgt := 100) dX2_holds_55 (by decide) ?_
          refine vIinc F (v := 1) (k := 5) (L' := [(5, .int ((s1.2) + 1)), (4, .int (((s1.1) >>> (1 &&& 31)) &&& ((s1.1) ||| (-2)))), (6, .int (m.1 (x + 1) (s1.2).toNatClampNeg)), (0, .ref (gr G x)), (2, .int a2), (3, .ref (gr G a3))]) dX2_holds_100 rfl k_1 (by decide) rfl ?_
          refine vGoto F (tgt := 6) dX2_holds_103 (by decide) ?_
          refine vSub [3, 4, 5, 1, 0] rfl ?_
          have z := okL h
          exact z
      · replace h := okT h c8
        refine vIload F dX2_holds_27 (k := 4) rfl ?_
        refine vIconst F (v := 1) dX2_holds_29 k_1 ?_
        refine vIxor F dX2_holds_30 ?_
        refine vIstore F (L' := [(4, .int ((s1.1) ^^^ 1)), (6, .int (m.1 (x + 1) (s1.2).toNatClampNeg)), (0, .ref (gr G x)), (2, .int a2), (3, .ref (gr G a3)), (5, .int (s1.2))]) dX2_holds_31 (by decide) rfl ?_
        refine vGoto F (tgt := 100) dX2_holds_33 (by decide) ?_
        refine vIinc F (v := 1) (k := 5) (L' := [(5, .int ((s1.2) + 1)), (4, .int ((s1.1) ^^^ 1)), (6, .int (m.1 (x + 1) (s1.2).toNatClampNeg)), (0, .ref (gr G x)), (2, .int a2), (3, .ref (gr G a3))]) dX2_holds_100 rfl k_1 (by decide) rfl ?_
        refine vGoto F (tgt := 6) dX2_holds_103 (by decide) ?_
        refine vSub [3, 4, 5, 1, 0] rfl ?_
        have z := okL h
        exact z
noncomputable def La_together_l8 (x : Nat) (m : Mm) (a1 : Int32) (a2 : Nat) (s1 : Int32 × Int32 × Int32) : Option ((Int32 × Int32 × Int32) ⊕ Int32) :=
  if (m.1 x 5) ≤ (s1.2.2) then
 (some (.inr (s1.1)))
 else (ga (s1.2.2) 10 (jn (fun (e4 : Int32) => ga (s1.2.2) 10 (some (.inl (e4, m.1 (x + 4) (s1.2.2).toNatClampNeg, (s1.2.2) + 1)))) fun j5 =>
  if (m.1 (x + 2) (s1.2.2).toNatClampNeg) = a1 then
 (ga (s1.2.2) 10 ((La_holds x m (s1.2.1) (m.1 (x + 4) (s1.2.2).toNatClampNeg) a2).bind fun r8 =>
  if r8 = true then
 (ga (s1.2.2) 10 (j5 ((s1.1) + (m.1 (x + 3) (s1.2.2).toNatClampNeg))))
 else (j5 (s1.1))))
 else (j5 (s1.1))))
noncomputable def La_together (x : Nat) (m : Mm) (a1 : Int32) (a2 : Nat) : Option (Int32) :=
  (iter (La_together_l8 x m a1 a2) (0, 0, 0)).bind fun e2 =>
  some e2
set_option maxRecDepth 20000 in
set_option maxHeartbeats 4000000 in
theorem La_together_ok {G : Gw} (hG : gOk G) (hs : gsh G = shC) {x : Nat} (hx : is_X2 (gsh G) x) {a1 : Int32} {a2 : Nat} (ha2 : (gsh G)[a2]? = some (0, 6, [])) {m : Mm} {P : Option Value → Mm → Prop} (h : mjO (La_together x m a1 a2) (fun r => P (some (.int r)) m)) : mjR G 2 yX2_together cX2_together 6 (some .int) [.ref (gr G x), .int a1, .ref (gr G a2)] m P := by
  refine mjR_of hG (by decide) (Nat.le_of_ble_eq_true rfl) ?_
  intro X F
  have F : mjF G X cX2_together RX2 6 2 (some .int) := F
  show mjV G X 6 0 [(0, .ref (gr G x)), (1, .int a1), (2, .ref (gr G a2))] [] m P
  unfold La_together at h
  refine vIconst F (v := 0) dX2_together_0 k_0 ?_
  refine vIstoreN F (L' := [(3, .int 0), (0, .ref (gr G x)), (1, .int a1), (2, .ref (gr G a2))]) dX2_together_1 rfl (by decide) rfl ?_
  refine vIconst F (v := 0) dX2_together_2 k_0 ?_
  refine vIstore F (L' := [(4, .int 0), (3, .int 0), (0, .ref (gr G x)), (1, .int a1), (2, .ref (gr G a2))]) dX2_together_3 (by decide) rfl ?_
  refine vIconst F (v := 0) dX2_together_5 k_0 ?_
  refine vIstore F (L' := [(5, .int 0), (4, .int 0), (3, .int 0), (0, .ref (gr G x)), (1, .int a1), (2, .ref (gr G a2))]) dX2_together_6 (by decide) rfl ?_
  refine vSub [3, 4, 5, 2, 1, 0] rfl ?_
  refine okLoop (s0 := (0, 0, 0)) (T := (fun (s1 : Int32 × Int32 × Int32) => mjV G X 6 8 [(0, .ref (gr G x)), (1, .int a1), (2, .ref (gr G a2)), (3, .int (s1.1)), (4, .int (s1.2.1)), (5, .int (s1.2.2))] [] m P)) (Ve := (fun (e2 : Int32) => mjV G X 6 70 [(3, .int e2)] [] m P)) h ?_ (fun s1 h => ?_)
  · intro e2 h
    refine vIloadN F dX2_together_70 (k := 0) rfl ?_
    have z := okS h
    exact vIret F dX2_together_71 z
  · unfold La_together_l8 at h
    refine vIload F dX2_together_8 (k := 5) rfl ?_
    refine vAloadN F dX2_together_10 (k := 0) rfl ?_
    refine vGetI F dX2_together_11 fa_X2_31 hx.1 rfl ?_
    refine vIcmpGe F (tgt := 70) dX2_together_14 (by decide) (fun c12 => ?_) (fun c12 => ?_)
    · replace h := okT h c12
      refine vSub [3] rfl ?_
      have z := okR h
      exact z
    · replace h := okF h c12
      refine vAloadN F dX2_together_17 (k := 0) rfl ?_
      refine vGetR F (t := x + 2) dX2_together_18 fa_X2_15 hx.1 rfl ?_
      refine vIload F dX2_together_21 (k := 5) rfl ?_
      obtain ⟨g3, h⟩ := okga h
      refine vIald F dX2_together_23 hx.2.2.1 g3 ?_
      refine vIloadN F dX2_together_24 (k := 1) rfl ?_
      refine okJ (Vj := fun (e4 : Int32) => mjV G X 6 55 [(0, .ref (gr G x)), (1, .int a1), (2, .ref (gr G a2)), (3, .int e4), (5, .int (s1.2.2))] [] m P) h (fun e4 h => ?_) (fun j5 Jj5 h => ?_)
      · refine vAloadN F dX2_together_55 (k := 0) rfl ?_
        refine vGetR F (t := x + 4) dX2_together_56 fa_X2_21 hx.1 rfl ?_
        refine vIload F dX2_together_59 (k := 4) rfl ?_
        obtain ⟨g6, h⟩ := okga h
        refine vIald F dX2_together_61 hx.2.2.2.2 g6 ?_
        refine vIstore F (L' := [(4, .int (m.1 (x + 4) (s1.2.2).toNatClampNeg)), (0, .ref (gr G x)), (1, .int a1), (2, .ref (gr G a2)), (3, .int e4), (5, .int (s1.2.2))]) dX2_together_62 (by decide) rfl ?_
        refine vIinc F (v := 1) (k := 5) (L' := [(5, .int ((s1.2.2) + 1)), (4, .int (m.1 (x + 4) (s1.2.2).toNatClampNeg)), (0, .ref (gr G x)), (1, .int a1), (2, .ref (gr G a2)), (3, .int e4)]) dX2_together_64 rfl k_1 (by decide) rfl ?_
        refine vGoto F (tgt := 8) dX2_together_67 (by decide) ?_
        refine vSub [2, 3, 4, 5, 1, 0] rfl ?_
        have z := okL h
        exact z
      · refine vIcmpNe F (tgt := 55) dX2_together_25 (by decide) (fun c11 => ?_) (fun c11 => ?_)
        · replace h := okF h c11
          refine vSub [0, 1, 2, 3, 5] rfl ?_
          exact Jj5 (s1.1) h
        · replace h := okT h c11
          refine vAloadN F dX2_together_28 (k := 0) rfl ?_
          refine vIload F dX2_together_29 (k := 4) rfl ?_
          refine vAloadN F dX2_together_31 (k := 0) rfl ?_
          refine vGetR F (t := x + 4) dX2_together_32 fa_X2_21 hx.1 rfl ?_
          refine vIload F dX2_together_35 (k := 5) rfl ?_
          obtain ⟨g7, h⟩ := okga h
          refine vIald F dX2_together_37 hx.2.2.2.2 g7 ?_
          refine vAloadN F dX2_together_38 (k := 2) rfl ?_
          refine vCallV F (d' := 1) (x := x) (T := TX2) (N := 7) (As := [.int (s1.2.1), .int (m.1 (x + 4) (s1.2.2).toNatClampNeg), .ref (gr G a2)]) (st := []) dX2_together_39 lk_X2_38 my_X2_holds mv_X2_holds hx.1 rfl (by decide) rfl rfl (Nat.le_of_ble_eq_true rfl) (La_holds_ok hG hs hx ha2 (okB h fun r8 h => ?_))
          show mjV G X 6 42 [(0, .ref (gr G x)), (1, .int a1), (2, .ref (gr G a2)), (3, .int (s1.1)), (4, .int (s1.2.1)), (5, .int (s1.2.2))] [.int (bI r8)] m P
          refine vIfEqB F (tgt := 55) dX2_together_42 (by decide) (fun c10 => ?_) (fun c10 => ?_)
          · replace h := okF h c10
            refine vSub [0, 1, 2, 3, 5] rfl ?_
            exact Jj5 (s1.1) h
          · replace h := okT h c10
            refine vIloadN F dX2_together_45 (k := 3) rfl ?_
            refine vAloadN F dX2_together_46 (k := 0) rfl ?_
            refine vGetR F (t := x + 3) dX2_together_47 fa_X2_18 hx.1 rfl ?_
            refine vIload F dX2_together_50 (k := 5) rfl ?_
            obtain ⟨g9, h⟩ := okga h
            refine vIald F dX2_together_52 hx.2.2.2.1 g9 ?_
            refine vIadd F dX2_together_53 ?_
            refine vIstoreN F (L' := [(3, .int ((s1.1) + (m.1 (x + 3) (s1.2.2).toNatClampNeg))), (0, .ref (gr G x)), (1, .int a1), (2, .ref (gr G a2)), (4, .int (s1.2.1)), (5, .int (s1.2.2))]) dX2_together_54 rfl (by decide) rfl ?_
            refine vSub [1, 2, 3, 0, 5] rfl ?_
            exact Jj5 ((s1.1) + (m.1 (x + 3) (s1.2.2).toNatClampNeg)) h
noncomputable def Jo_findSizes_l2 (a1 : Nat) (s1 : Int32 × Mm) : Option ((Int32 × Mm) ⊕ Mm) :=
  if ((s1.2).1 11 0) ≤ (s1.1) then
 (some (.inr (s1.2)))
 else ((Wo_tellFacts 11 (s1.2) (s1.1) 2).bind fun r3 =>
  ga (s1.1) 7 ((La_together a1 r3 0 2).bind fun r5 =>
  ga (s1.1) 7 ((La_together a1 (si r3 3 (s1.1).toNatClampNeg ((r3.1 (11 + 3) (s1.1).toNatClampNeg) + r5)) 1 2).bind fun r7 =>
  ga (s1.1) 7 (some (.inl ((s1.1) + 1, si (si r3 3 (s1.1).toNatClampNeg ((r3.1 (11 + 3) (s1.1).toNatClampNeg) + r5)) 4 (s1.1).toNatClampNeg r7))))))
noncomputable def Jo_findSizes (m : Mm) (a1 : Nat) : Option (Mm) :=
  (iter (Jo_findSizes_l2 a1) (0, m)).bind fun e2 =>
  some e2
set_option maxRecDepth 20000 in
set_option maxHeartbeats 4000000 in
theorem Jo_findSizes_ok {G : Gw} (hG : gOk G) (hs : gsh G = shC) {a1 : Nat} (ha1 : is_X2 (gsh G) a1) {m : Mm} {P : Option Value → Mm → Prop} (h : mjO (Jo_findSizes m a1) (fun r => P none r)) : mjR G 3 yX1_findSizes cX1_findSizes 3 none [.ref (gr G 1), .ref (gr G a1)] m P := by
  refine mjR_of hG (by decide) (Nat.le_of_ble_eq_true rfl) ?_
  intro X F
  have F : mjF G X cX1_findSizes RX1 3 3 none := F
  show mjV G X 3 0 [(0, .ref (gr G 1)), (1, .ref (gr G a1))] [] m P
  unfold Jo_findSizes at h
  refine vIconst F (v := 0) dX1_findSizes_0 k_0 ?_
  refine vIstoreN F (L' := [(2, .int 0), (0, .ref (gr G 1)), (1, .ref (gr G a1))]) dX1_findSizes_1 rfl (by decide) rfl ?_
  refine vSub [1, 2, 0] rfl ?_
  refine okLoop (s0 := (0, m)) (T := (fun (s1 : Int32 × Mm) => mjV G X 3 2 [(0, .ref (gr G 1)), (1, .ref (gr G a1)), (2, .int (s1.1))] [] (s1.2) P)) (Ve := (fun (e2 : Mm) => mjV G X 3 71 [] [] e2 P)) h ?_ (fun s1 h => ?_)
  · intro e2 h
    have z := okS h
    exact vVret F dX1_findSizes_71 z
  · unfold Jo_findSizes_l2 at h
    refine vIloadN F dX1_findSizes_2 (k := 2) rfl ?_
    refine vAloadN F dX1_findSizes_3 (k := 0) rfl ?_
    refine vGetR F (t := 11) dX1_findSizes_4 fa_X1_12 (cqC_1 hs) rfl ?_
    refine vGetI F dX1_findSizes_7 fa_X1_51 (is_X5_11 hs).1 rfl ?_
    refine vIcmpGe F (tgt := 71) dX1_findSizes_10 (by decide) (fun c9 => ?_) (fun c9 => ?_)
    · replace h := okT h c9
      refine vSub [] rfl ?_
      have z := okR h
      exact z
    · replace h := okF h c9
      refine vAloadN F dX1_findSizes_13 (k := 0) rfl ?_
      refine vGetR F (t := 11) dX1_findSizes_14 fa_X1_12 (cqC_1 hs) rfl ?_
      refine vIloadN F dX1_findSizes_17 (k := 2) rfl ?_
      refine vAloadN F dX1_findSizes_18 (k := 0) rfl ?_
      refine vGetR F (t := 2) dX1_findSizes_19 fa_X1_18 (cqC_1 hs) rfl ?_
      refine vCallV F (d' := 2) (x := 11) (T := TX5) (N := 13) (As := [.int (s1.1), .ref (gr G 2)]) (st := []) dX1_findSizes_22 lk_X1_54 my_X5_tellFacts mv_X5_tellFacts (is_X5_11 hs).1 rfl (by decide) rfl rfl (Nat.le_of_ble_eq_true rfl) (Wo_tellFacts_ok hG hs (is_X5_11 hs) (cqC_2 hs) (okB h fun r3 h => ?_))
      show mjV G X 3 25 [(0, .ref (gr G 1)), (1, .ref (gr G a1)), (2, .int (s1.1))] [] r3 P
      refine vAloadN F dX1_findSizes_25 (k := 0) rfl ?_
      refine vGetR F (t := 3) dX1_findSizes_26 fa_X1_22 (cqC_1 hs) rfl ?_
      refine vIloadN F dX1_findSizes_29 (k := 2) rfl ?_
      refine vAloadN F dX1_findSizes_30 (k := 0) rfl ?_
      refine vGetR F (t := 11) dX1_findSizes_31 fa_X1_12 (cqC_1 hs) rfl ?_
      refine vGetR F (t := 11 + 3) dX1_findSizes_34 fa_X1_58 (is_X5_11 hs).1 rfl ?_
      refine vIloadN F dX1_findSizes_37 (k := 2) rfl ?_
      obtain ⟨g4, h⟩ := okga h
      refine vIald F dX1_findSizes_38 (is_X5_11 hs).2.2.2.1 g4 ?_
      refine vAloadN F dX1_findSizes_39 (k := 1) rfl ?_
      refine vIconst F (v := 0) dX1_findSizes_40 k_0 ?_
      refine vAloadN F dX1_findSizes_41 (k := 0) rfl ?_
      refine vGetR F (t := 2) dX1_findSizes_42 fa_X1_18 (cqC_1 hs) rfl ?_
      refine vCallV F (d' := 2) (x := a1) (T := TX2) (N := 7) (As := [.int 0, .ref (gr G 2)]) (st := [.int (r3.1 (11 + 3) (s1.1).toNatClampNeg), .int (s1.1), .ref (gr G 3)]) dX1_findSizes_45 lk_X1_61 my_X2_together mv_X2_together ha1.1 rfl (by decide) rfl rfl (Nat.le_of_ble_eq_true rfl) (La_together_ok hG hs ha1 (cqC_2 hs) (okB h fun r5 h => ?_))
      show mjV G X 3 48 [(0, .ref (gr G 1)), (1, .ref (gr G a1)), (2, .int (s1.1))] [.int r5, .int (r3.1 (11 + 3) (s1.1).toNatClampNeg), .int (s1.1), .ref (gr G 3)] r3 P
      refine vIadd F dX1_findSizes_48 ?_
      obtain ⟨g6, h⟩ := okga h
      refine vIast F dX1_findSizes_49 (cqC_3 hs) g6 ?_
      refine vAloadN F dX1_findSizes_50 (k := 0) rfl ?_
      refine vGetR F (t := 4) dX1_findSizes_51 fa_X1_25 (cqC_1 hs) rfl ?_
      refine vIloadN F dX1_findSizes_54 (k := 2) rfl ?_
      refine vAloadN F dX1_findSizes_55 (k := 1) rfl ?_
      refine vIconst F (v := 1) dX1_findSizes_56 k_1 ?_
      refine vAloadN F dX1_findSizes_57 (k := 0) rfl ?_
      refine vGetR F (t := 2) dX1_findSizes_58 fa_X1_18 (cqC_1 hs) rfl ?_
      refine vCallV F (d' := 2) (x := a1) (T := TX2) (N := 7) (As := [.int 1, .ref (gr G 2)]) (st := [.int (s1.1), .ref (gr G 4)]) dX1_findSizes_61 lk_X1_61 my_X2_together mv_X2_together ha1.1 rfl (by decide) rfl rfl (Nat.le_of_ble_eq_true rfl) (La_together_ok hG hs ha1 (cqC_2 hs) (okB h fun r7 h => ?_))
      show mjV G X 3 64 [(0, .ref (gr G 1)), (1, .ref (gr G a1)), (2, .int (s1.1))] [.int r7, .int (s1.1), .ref (gr G 4)] (si r3 3 (s1.1).toNatClampNeg ((r3.1 (11 + 3) (s1.1).toNatClampNeg) + r5)) P
      obtain ⟨g8, h⟩ := okga h
      refine vIast F dX1_findSizes_64 (cqC_4 hs) g8 ?_
      refine vIinc F (v := 1) (k := 2) (L' := [(2, .int ((s1.1) + 1)), (0, .ref (gr G 1)), (1, .ref (gr G a1))]) dX1_findSizes_65 rfl k_1 (by decide) rfl ?_
      refine vGoto F (tgt := 2) dX1_findSizes_68 (by decide) ?_
      refine vSub [1, 2, 0] rfl ?_
      have z := okL h
      exact z
