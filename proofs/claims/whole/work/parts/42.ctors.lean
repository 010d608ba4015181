def shr_X5 : List Shp := [(6, 5, [0, 3, 4, 5, 6, 7, 0, 8, 9, 10, 0, 11, 0]), (0, 7, []), (0, 7, []), (0, 7, []), (0, 49, []), (0, 7, []), (0, 8, []), (0, 8, []), (0, 8, []), (0, 12, [])]
def m0_X5 : Mm := (fun k i => if k = 0 ∧ i = 12 then (-1) else 0, fun _ _ => 0, fun k i => 0)
set_option maxRecDepth 20000 in
set_option maxHeartbeats 4000000 in
theorem mw_X5 (D : va_G) (c : Nat → ClassId) (ρ : Nat → Nat) (s0 : State) (l : Launch) : mw (D, c, ρ, shr_X5, s0, l) m0_X5 = [(ρ 0, .inr (5, [.int 0, .ref (ρ 1), .ref (ρ 2), .ref (ρ 3), .ref (ρ 4), .ref (ρ 5), .int 0, .ref (ρ 6), .ref (ρ 7), .ref (ρ 8), .int 0, .ref (ρ 9), .int (-1)])), aI c 7 (ρ 1), aI c 7 (ρ 2), aI c 7 (ρ 3), aI c 49 (ρ 4), aI c 7 (ρ 5), aI c 8 (ρ 6), aI c 8 (ρ 7), aI c 8 (ρ 8), aI c 12 (ρ 9)] := by
  rw [mw_go]
  rfl
set_option maxRecDepth 20000 in
set_option maxHeartbeats 40000000 in
theorem ct_X5 {D : va_G} {c : Nat → ClassId} {s0 : State} {l : Launch} (hs0 : cS s0) : cR D c s0 l 1 9 113 30 yX5_init cX5_init 1 5 [.int 0, .null, .null, .null, .null, .null, .int 0, .null, .null, .null, .int 0, .null, .int 0] shr_X5 m0_X5 := by
  refine cR_of hs0 (by decide) rfl (Nat.le_of_ble_eq_true rfl) ?_
  intro q0 A X F hl hR hini hend
  have F : cF D A c s0 X cX5_init RX5 1 := F
  refine cAload F dX5_init_0 (k := 0) rfl ?_
  refine cObj F dX5_init_1 ob_X5 (by rw [hR]; exact Nat.le_of_ble_eq_true rfl) (by rw [hR]; exact Nat.le_of_ble_eq_true rfl) ?_
  refine cAload F dX5_init_4 (k := 0) rfl ?_
  refine cBipush F (v := 7) dX5_init_5 kb_7 ?_
  refine cNewa F (atype := .int) (ty := .int) (k0 := 0) (N' := 7) (a0 := (7, .inl (fun _ => 0))) dX5_init_7 ac_int rfl rfl (fun C h => by cases h) (fun _ => rfl) (by decide) (by decide) (by decide) (by rw [hR]; exact Nat.le_of_ble_eq_true rfl) (by rw [hR]; exact Nat.le_of_ble_eq_true rfl) (fun q1 => ?_)
  refine cEq (ws' := [(q0, .inr (5, [.int 0, .null, .null, .null, .null, .null, .int 0, .null, .null, .null, .int 0, .null, .int 0])), aI c 7 q1]) rfl ?_
  refine cPutF F tyX5 dX5_init_9 (T := TX5) (N := 13) (ci := 5) (ty := .array .int) rfl in_X5 (by decide) pw_X5_9 tyX5_ok nmX5 rfl hini rfl (by decide +kernel) ⟨rfl, rfl⟩ 0 rfl (Nat.le_of_ble_eq_true rfl) ?_
  refine cEq (ws' := [(q0, .inr (5, [.int 0, .ref q1, .null, .null, .null, .null, .int 0, .null, .null, .null, .int 0, .null, .int 0])), aI c 7 q1]) rfl ?_
  refine cAload F dX5_init_12 (k := 0) rfl ?_
  refine cBipush F (v := 7) dX5_init_13 kb_7 ?_
  refine cNewa F (atype := .int) (ty := .int) (k0 := 0) (N' := 7) (a0 := (7, .inl (fun _ => 0))) dX5_init_15 ac_int rfl rfl (fun C h => by cases h) (fun _ => rfl) (by decide) (by decide) (by decide) (by rw [hR]; exact Nat.le_of_ble_eq_true rfl) (by rw [hR]; exact Nat.le_of_ble_eq_true rfl) (fun q2 => ?_)
  refine cEq (ws' := [(q0, .inr (5, [.int 0, .ref q1, .null, .null, .null, .null, .int 0, .null, .null, .null, .int 0, .null, .int 0])), aI c 7 q1, aI c 7 q2]) rfl ?_
  refine cPutF F tyX5 dX5_init_17 (T := TX5) (N := 13) (ci := 5) (ty := .array .int) rfl in_X5 (by decide) pw_X5_15 tyX5_ok nmX5 rfl hini rfl (by decide +kernel) ⟨rfl, rfl⟩ 0 rfl (Nat.le_of_ble_eq_true rfl) ?_
  refine cEq (ws' := [(q0, .inr (5, [.int 0, .ref q1, .ref q2, .null, .null, .null, .int 0, .null, .null, .null, .int 0, .null, .int 0])), aI c 7 q1, aI c 7 q2]) rfl ?_
  refine cAload F dX5_init_20 (k := 0) rfl ?_
  refine cBipush F (v := 7) dX5_init_21 kb_7 ?_
  refine cNewa F (atype := .int) (ty := .int) (k0 := 0) (N' := 7) (a0 := (7, .inl (fun _ => 0))) dX5_init_23 ac_int rfl rfl (fun C h => by cases h) (fun _ => rfl) (by decide) (by decide) (by decide) (by rw [hR]; exact Nat.le_of_ble_eq_true rfl) (by rw [hR]; exact Nat.le_of_ble_eq_true rfl) (fun q3 => ?_)
  refine cEq (ws' := [(q0, .inr (5, [.int 0, .ref q1, .ref q2, .null, .null, .null, .int 0, .null, .null, .null, .int 0, .null, .int 0])), aI c 7 q1, aI c 7 q2, aI c 7 q3]) rfl ?_
  refine cPutF F tyX5 dX5_init_25 (T := TX5) (N := 13) (ci := 5) (ty := .array .int) rfl in_X5 (by decide) pw_X5_18 tyX5_ok nmX5 rfl hini rfl (by decide +kernel) ⟨rfl, rfl⟩ 0 rfl (Nat.le_of_ble_eq_true rfl) ?_
  refine cEq (ws' := [(q0, .inr (5, [.int 0, .ref q1, .ref q2, .ref q3, .null, .null, .int 0, .null, .null, .null, .int 0, .null, .int 0])), aI c 7 q1, aI c 7 q2, aI c 7 q3]) rfl ?_
  refine cAload F dX5_init_28 (k := 0) rfl ?_
  refine cBipush F (v := 49) dX5_init_29 kb_49 ?_
  refine cNewa F (atype := .int) (ty := .int) (k0 := 0) (N' := 49) (a0 := (49, .inl (fun _ => 0))) dX5_init_31 ac_int rfl rfl (fun C h => by cases h) (fun _ => rfl) (by decide) (by decide) (by decide) (by rw [hR]; exact Nat.le_of_ble_eq_true rfl) (by rw [hR]; exact Nat.le_of_ble_eq_true rfl) (fun q4 => ?_)
  refine cEq (ws' := [(q0, .inr (5, [.int 0, .ref q1, .ref q2, .ref q3, .null, .null, .int 0, .null, .null, .null, .int 0, .null, .int 0])), aI c 7 q1, aI c 7 q2, aI c 7 q3, aI c 49 q4]) rfl ?_
  refine cPutF F tyX5 dX5_init_33 (T := TX5) (N := 13) (ci := 5) (ty := .array .int) rfl in_X5 (by decide) pw_X5_21 tyX5_ok nmX5 rfl hini rfl (by decide +kernel) ⟨rfl, rfl⟩ 0 rfl (Nat.le_of_ble_eq_true rfl) ?_
  refine cEq (ws' := [(q0, .inr (5, [.int 0, .ref q1, .ref q2, .ref q3, .ref q4, .null, .int 0, .null, .null, .null, .int 0, .null, .int 0])), aI c 7 q1, aI c 7 q2, aI c 7 q3, aI c 49 q4]) rfl ?_
  refine cAload F dX5_init_36 (k := 0) rfl ?_
  refine cBipush F (v := 7) dX5_init_37 kb_7 ?_
  refine cNewa F (atype := .int) (ty := .int) (k0 := 0) (N' := 7) (a0 := (7, .inl (fun _ => 0))) dX5_init_39 ac_int rfl rfl (fun C h => by cases h) (fun _ => rfl) (by decide) (by decide) (by decide) (by rw [hR]; exact Nat.le_of_ble_eq_true rfl) (by rw [hR]; exact Nat.le_of_ble_eq_true rfl) (fun q5 => ?_)
  refine cEq (ws' := [(q0, .inr (5, [.int 0, .ref q1, .ref q2, .ref q3, .ref q4, .null, .int 0, .null, .null, .null, .int 0, .null, .int 0])), aI c 7 q1, aI c 7 q2, aI c 7 q3, aI c 49 q4, aI c 7 q5]) rfl ?_
  refine cPutF F tyX5 dX5_init_41 (T := TX5) (N := 13) (ci := 5) (ty := .array .int) rfl in_X5 (by decide) pw_X5_24 tyX5_ok nmX5 rfl hini rfl (by decide +kernel) ⟨rfl, rfl⟩ 0 rfl (Nat.le_of_ble_eq_true rfl) ?_
  refine cEq (ws' := [(q0, .inr (5, [.int 0, .ref q1, .ref q2, .ref q3, .ref q4, .ref q5, .int 0, .null, .null, .null, .int 0, .null, .int 0])), aI c 7 q1, aI c 7 q2, aI c 7 q3, aI c 49 q4, aI c 7 q5]) rfl ?_
  refine cAload F dX5_init_44 (k := 0) rfl ?_
  refine cBipush F (v := 8) dX5_init_45 kb_8 ?_
  refine cNewa F (atype := .int) (ty := .int) (k0 := 0) (N' := 8) (a0 := (8, .inl (fun _ => 0))) dX5_init_47 ac_int rfl rfl (fun C h => by cases h) (fun _ => rfl) (by decide) (by decide) (by decide) (by rw [hR]; exact Nat.le_of_ble_eq_true rfl) (by rw [hR]; exact Nat.le_of_ble_eq_true rfl) (fun q6 => ?_)
  refine cEq (ws' := [(q0, .inr (5, [.int 0, .ref q1, .ref q2, .ref q3, .ref q4, .ref q5, .int 0, .null, .null, .null, .int 0, .null, .int 0])), aI c 7 q1, aI c 7 q2, aI c 7 q3, aI c 49 q4, aI c 7 q5, aI c 8 q6]) rfl ?_
  refine cPutF F tyX5 dX5_init_49 (T := TX5) (N := 13) (ci := 5) (ty := .array .int) rfl in_X5 (by decide) pw_X5_27 tyX5_ok nmX5 rfl hini rfl (by decide +kernel) ⟨rfl, rfl⟩ 0 rfl (Nat.le_of_ble_eq_true rfl) ?_
  refine cEq (ws' := [(q0, .inr (5, [.int 0, .ref q1, .ref q2, .ref q3, .ref q4, .ref q5, .int 0, .ref q6, .null, .null, .int 0, .null, .int 0])), aI c 7 q1, aI c 7 q2, aI c 7 q3, aI c 49 q4, aI c 7 q5, aI c 8 q6]) rfl ?_
  refine cAload F dX5_init_52 (k := 0) rfl ?_
  refine cBipush F (v := 8) dX5_init_53 kb_8 ?_
  refine cNewa F (atype := .int) (ty := .int) (k0 := 0) (N' := 8) (a0 := (8, .inl (fun _ => 0))) dX5_init_55 ac_int rfl rfl (fun C h => by cases h) (fun _ => rfl) (by decide) (by decide) (by decide) (by rw [hR]; exact Nat.le_of_ble_eq_true rfl) (by rw [hR]; exact Nat.le_of_ble_eq_true rfl) (fun q7 => ?_)
  refine cEq (ws' := [(q0, .inr (5, [.int 0, .ref q1, .ref q2, .ref q3, .ref q4, .ref q5, .int 0, .ref q6, .null, .null, .int 0, .null, .int 0])), aI c 7 q1, aI c 7 q2, aI c 7 q3, aI c 49 q4, aI c 7 q5, aI c 8 q6, aI c 8 q7]) rfl ?_
  refine cPutF F tyX5 dX5_init_57 (T := TX5) (N := 13) (ci := 5) (ty := .array .int) rfl in_X5 (by decide) pw_X5_30 tyX5_ok nmX5 rfl hini rfl (by decide +kernel) ⟨rfl, rfl⟩ 0 rfl (Nat.le_of_ble_eq_true rfl) ?_
  refine cEq (ws' := [(q0, .inr (5, [.int 0, .ref q1, .ref q2, .ref q3, .ref q4, .ref q5, .int 0, .ref q6, .ref q7, .null, .int 0, .null, .int 0])), aI c 7 q1, aI c 7 q2, aI c 7 q3, aI c 49 q4, aI c 7 q5, aI c 8 q6, aI c 8 q7]) rfl ?_
  refine cAload F dX5_init_60 (k := 0) rfl ?_
  refine cBipush F (v := 8) dX5_init_61 kb_8 ?_
  refine cNewa F (atype := .int) (ty := .int) (k0 := 0) (N' := 8) (a0 := (8, .inl (fun _ => 0))) dX5_init_63 ac_int rfl rfl (fun C h => by cases h) (fun _ => rfl) (by decide) (by decide) (by decide) (by rw [hR]; exact Nat.le_of_ble_eq_true rfl) (by rw [hR]; exact Nat.le_of_ble_eq_true rfl) (fun q8 => ?_)
  refine cEq (ws' := [(q0, .inr (5, [.int 0, .ref q1, .ref q2, .ref q3, .ref q4, .ref q5, .int 0, .ref q6, .ref q7, .null, .int 0, .null, .int 0])), aI c 7 q1, aI c 7 q2, aI c 7 q3, aI c 49 q4, aI c 7 q5, aI c 8 q6, aI c 8 q7, aI c 8 q8]) rfl ?_
  refine cPutF F tyX5 dX5_init_65 (T := TX5) (N := 13) (ci := 5) (ty := .array .int) rfl in_X5 (by decide) pw_X5_33 tyX5_ok nmX5 rfl hini rfl (by decide +kernel) ⟨rfl, rfl⟩ 0 rfl (Nat.le_of_ble_eq_true rfl) ?_
  refine cEq (ws' := [(q0, .inr (5, [.int 0, .ref q1, .ref q2, .ref q3, .ref q4, .ref q5, .int 0, .ref q6, .ref q7, .ref q8, .int 0, .null, .int 0])), aI c 7 q1, aI c 7 q2, aI c 7 q3, aI c 49 q4, aI c 7 q5, aI c 8 q6, aI c 8 q7, aI c 8 q8]) rfl ?_
  refine cAload F dX5_init_68 (k := 0) rfl ?_
  refine cBipush F (v := 12) dX5_init_69 kb_12 ?_
  refine cNewa F (atype := .int) (ty := .int) (k0 := 0) (N' := 12) (a0 := (12, .inl (fun _ => 0))) dX5_init_71 ac_int rfl rfl (fun C h => by cases h) (fun _ => rfl) (by decide) (by decide) (by decide) (by rw [hR]; exact Nat.le_of_ble_eq_true rfl) (by rw [hR]; exact Nat.le_of_ble_eq_true rfl) (fun q9 => ?_)
  refine cEq (ws' := [(q0, .inr (5, [.int 0, .ref q1, .ref q2, .ref q3, .ref q4, .ref q5, .int 0, .ref q6, .ref q7, .ref q8, .int 0, .null, .int 0])), aI c 7 q1, aI c 7 q2, aI c 7 q3, aI c 49 q4, aI c 7 q5, aI c 8 q6, aI c 8 q7, aI c 8 q8, aI c 12 q9]) rfl ?_
  refine cPutF F tyX5 dX5_init_73 (T := TX5) (N := 13) (ci := 5) (ty := .array .int) rfl in_X5 (by decide) pw_X5_36 tyX5_ok nmX5 rfl hini rfl (by decide +kernel) ⟨rfl, rfl⟩ 0 rfl (Nat.le_of_ble_eq_true rfl) ?_
  refine cEq (ws' := [(q0, .inr (5, [.int 0, .ref q1, .ref q2, .ref q3, .ref q4, .ref q5, .int 0, .ref q6, .ref q7, .ref q8, .int 0, .ref q9, .int 0])), aI c 7 q1, aI c 7 q2, aI c 7 q3, aI c 49 q4, aI c 7 q5, aI c 8 q6, aI c 8 q7, aI c 8 q8, aI c 12 q9]) rfl ?_
  refine cAload F dX5_init_76 (k := 0) rfl ?_
  refine cIconst F (v := (-1)) dX5_init_77 k_m1 ?_
  refine cPut F tyX5 dX5_init_78 (T := TX5) (N := 13) (ci := 5) (ty := .int) rfl in_X5 (by decide) pw_X5_39 tyX5_ok nmX5 rfl (by decide +kernel) ⟨rfl, rfl⟩ 0 rfl (Nat.le_of_ble_eq_true rfl) ?_
  refine cEq (ws' := [(q0, .inr (5, [.int 0, .ref q1, .ref q2, .ref q3, .ref q4, .ref q5, .int 0, .ref q6, .ref q7, .ref q8, .int 0, .ref q9, .int (-1)])), aI c 7 q1, aI c 7 q2, aI c 7 q3, aI c 49 q4, aI c 7 q5, aI c 8 q6, aI c 8 q7, aI c 8 q8, aI c 12 q9]) rfl ?_
  refine hend (fun k => [q0, q1, q2, q3, q4, q5, q6, q7, q8, q9].getD k 0) dX5_init_81 (Nat.le_of_ble_eq_true rfl) (Nat.le_of_ble_eq_true rfl) rfl (fun H hP => ?_) (fun hD => ?_)
  · rw [mw_X5 D c _ s0 l]
    exact hP
  · rw [mw_X5 D c _ s0 l]
    exact hD
def shr_X2 : List Shp := [(6, 2, [3, 0, 4, 5, 6, 0, 0]), (0, 100, []), (0, 10, []), (0, 10, []), (0, 10, [])]
def m0_X2 : Mm := (fun k i => if k = 0 ∧ i = 6 then 4 else 0, fun _ _ => 0, fun k i => 0)
set_option maxRecDepth 20000 in
set_option maxHeartbeats 4000000 in
theorem mw_X2 (D : va_G) (c : Nat → ClassId) (ρ : Nat → Nat) (s0 : State) (l : Launch) : mw (D, c, ρ, shr_X2, s0, l) m0_X2 = [(ρ 0, .inr (2, [.ref (ρ 1), .int 0, .ref (ρ 2), .ref (ρ 3), .ref (ρ 4), .int 0, .int 4])), aI c 100 (ρ 1), aI c 10 (ρ 2), aI c 10 (ρ 3), aI c 10 (ρ 4)] := by
  rw [mw_go]
  rfl
set_option maxRecDepth 20000 in
set_option maxHeartbeats 40000000 in
theorem ct_X2 {D : va_G} {c : Nat → ClassId} {s0 : State} {l : Launch} (hs0 : cS s0) : cR D c s0 l 1 4 130 30 yX2_init cX2_init 1 2 [.null, .int 0, .null, .null, .null, .int 0, .int 0] shr_X2 m0_X2 := by
  refine cR_of hs0 (by decide) rfl (Nat.le_of_ble_eq_true rfl) ?_
  intro q0 A X F hl hR hini hend
  have F : cF D A c s0 X cX2_init RX2 1 := F
  refine cAload F dX2_init_0 (k := 0) rfl ?_
  refine cObj F dX2_init_1 ob_X2 (by rw [hR]; exact Nat.le_of_ble_eq_true rfl) (by rw [hR]; exact Nat.le_of_ble_eq_true rfl) ?_
  refine cAload F dX2_init_4 (k := 0) rfl ?_
  refine cBipush F (v := 100) dX2_init_5 kb_100 ?_
  refine cNewa F (atype := .int) (ty := .int) (k0 := 0) (N' := 100) (a0 := (100, .inl (fun _ => 0))) dX2_init_7 ac_int rfl rfl (fun C h => by cases h) (fun _ => rfl) (by decide) (by decide) (by decide) (by rw [hR]; exact Nat.le_of_ble_eq_true rfl) (by rw [hR]; exact Nat.le_of_ble_eq_true rfl) (fun q1 => ?_)
  refine cEq (ws' := [(q0, .inr (2, [.null, .int 0, .null, .null, .null, .int 0, .int 0])), aI c 100 q1]) rfl ?_
  refine cPutF F tyX2 dX2_init_9 (T := TX2) (N := 7) (ci := 2) (ty := .array .int) rfl in_X2 (by decide) pw_X2_9 tyX2_ok nmX2 rfl hini rfl (by decide +kernel) ⟨rfl, rfl⟩ 0 rfl (Nat.le_of_ble_eq_true rfl) ?_
  refine cEq (ws' := [(q0, .inr (2, [.ref q1, .int 0, .null, .null, .null, .int 0, .int 0])), aI c 100 q1]) rfl ?_
  refine cAload F dX2_init_12 (k := 0) rfl ?_
  refine cBipush F (v := 10) dX2_init_13 kb_10 ?_
  refine cNewa F (atype := .int) (ty := .int) (k0 := 0) (N' := 10) (a0 := (10, .inl (fun _ => 0))) dX2_init_15 ac_int rfl rfl (fun C h => by cases h) (fun _ => rfl) (by decide) (by decide) (by decide) (by rw [hR]; exact Nat.le_of_ble_eq_true rfl) (by rw [hR]; exact Nat.le_of_ble_eq_true rfl) (fun q2 => ?_)
  refine cEq (ws' := [(q0, .inr (2, [.ref q1, .int 0, .null, .null, .null, .int 0, .int 0])), aI c 100 q1, aI c 10 q2]) rfl ?_
  refine cPutF F tyX2 dX2_init_17 (T := TX2) (N := 7) (ci := 2) (ty := .array .int) rfl in_X2 (by decide) pw_X2_15 tyX2_ok nmX2 rfl hini rfl (by decide +kernel) ⟨rfl, rfl⟩ 0 rfl (Nat.le_of_ble_eq_true rfl) ?_
  refine cEq (ws' := [(q0, .inr (2, [.ref q1, .int 0, .ref q2, .null, .null, .int 0, .int 0])), aI c 100 q1, aI c 10 q2]) rfl ?_
  refine cAload F dX2_init_20 (k := 0) rfl ?_
  refine cBipush F (v := 10) dX2_init_21 kb_10 ?_
  refine cNewa F (atype := .int) (ty := .int) (k0 := 0) (N' := 10) (a0 := (10, .inl (fun _ => 0))) dX2_init_23 ac_int rfl rfl (fun C h => by cases h) (fun _ => rfl) (by decide) (by decide) (by decide) (by rw [hR]; exact Nat.le_of_ble_eq_true rfl) (by rw [hR]; exact Nat.le_of_ble_eq_true rfl) (fun q3 => ?_)
  refine cEq (ws' := [(q0, .inr (2, [.ref q1, .int 0, .ref q2, .null, .null, .int 0, .int 0])), aI c 100 q1, aI c 10 q2, aI c 10 q3]) rfl ?_
  refine cPutF F tyX2 dX2_init_25 (T := TX2) (N := 7) (ci := 2) (ty := .array .int) rfl in_X2 (by decide) pw_X2_18 tyX2_ok nmX2 rfl hini rfl (by decide +kernel) ⟨rfl, rfl⟩ 0 rfl (Nat.le_of_ble_eq_true rfl) ?_
  refine cEq (ws' := [(q0, .inr (2, [.ref q1, .int 0, .ref q2, .ref q3, .null, .int 0, .int 0])), aI c 100 q1, aI c 10 q2, aI c 10 q3]) rfl ?_
  refine cAload F dX2_init_28 (k := 0) rfl ?_
  refine cBipush F (v := 10) dX2_init_29 kb_10 ?_
  refine cNewa F (atype := .int) (ty := .int) (k0 := 0) (N' := 10) (a0 := (10, .inl (fun _ => 0))) dX2_init_31 ac_int rfl rfl (fun C h => by cases h) (fun _ => rfl) (by decide) (by decide) (by decide) (by rw [hR]; exact Nat.le_of_ble_eq_true rfl) (by rw [hR]; exact Nat.le_of_ble_eq_true rfl) (fun q4 => ?_)
  refine cEq (ws' := [(q0, .inr (2, [.ref q1, .int 0, .ref q2, .ref q3, .null, .int 0, .int 0])), aI c 100 q1, aI c 10 q2, aI c 10 q3, aI c 10 q4]) rfl ?_
  refine cPutF F tyX2 dX2_init_33 (T := TX2) (N := 7) (ci := 2) (ty := .array .int) rfl in_X2 (by decide) pw_X2_21 tyX2_ok nmX2 rfl hini rfl (by decide +kernel) ⟨rfl, rfl⟩ 0 rfl (Nat.le_of_ble_eq_true rfl) ?_
  refine cEq (ws' := [(q0, .inr (2, [.ref q1, .int 0, .ref q2, .ref q3, .ref q4, .int 0, .int 0])), aI c 100 q1, aI c 10 q2, aI c 10 q3, aI c 10 q4]) rfl ?_
  refine cAload F dX2_init_36 (k := 0) rfl ?_
  refine cIconst F (v := 4) dX2_init_37 k_4 ?_
  refine cPut F tyX2 dX2_init_38 (T := TX2) (N := 7) (ci := 2) (ty := .int) rfl in_X2 (by decide) pw_X2_24 tyX2_ok nmX2 rfl (by decide +kernel) ⟨rfl, rfl⟩ 0 rfl (Nat.le_of_ble_eq_true rfl) ?_
  refine cEq (ws' := [(q0, .inr (2, [.ref q1, .int 0, .ref q2, .ref q3, .ref q4, .int 0, .int 4])), aI c 100 q1, aI c 10 q2, aI c 10 q3, aI c 10 q4]) rfl ?_
  refine hend (fun k => [q0, q1, q2, q3, q4].getD k 0) dX2_init_41 (Nat.le_of_ble_eq_true rfl) (Nat.le_of_ble_eq_true rfl) rfl (fun H hP => ?_) (fun hD => ?_)
  · rw [mw_X2 D c _ s0 l]
    exact hP
  · rw [mw_X2 D c _ s0 l]
    exact hD
def shr_X4 : List Shp := [(6, 4, [0, 0, 3]), (1, 60, [])]
def m0_X4 : Mm := (fun k i => if k = 0 ∧ i = 0 then (-1) else 0, fun _ _ => 0, fun k i => 0)
set_option maxRecDepth 20000 in
set_option maxHeartbeats 4000000 in
theorem mw_X4 (D : va_G) (c : Nat → ClassId) (ρ : Nat → Nat) (s0 : State) (l : Launch) : mw (D, c, ρ, shr_X4, s0, l) m0_X4 = [(ρ 0, .inr (4, [.int (-1), .int 0, .ref (ρ 1)])), aJ c 60 (ρ 1)] := by
  rw [mw_go]
  rfl
set_option maxRecDepth 20000 in
set_option maxHeartbeats 40000000 in
theorem ct_X4 {D : va_G} {c : Nat → ClassId} {s0 : State} {l : Launch} (hs0 : cS s0) : cR D c s0 l 1 1 60 30 yX4_init cX4_init 1 4 [.int 0, .int 0, .null] shr_X4 m0_X4 := by
  refine cR_of hs0 (by decide) rfl (Nat.le_of_ble_eq_true rfl) ?_
  intro q0 A X F hl hR hini hend
  have F : cF D A c s0 X cX4_init RX4 1 := F
  refine cAload F dX4_init_0 (k := 0) rfl ?_
  refine cObj F dX4_init_1 ob_X4 (by rw [hR]; exact Nat.le_of_ble_eq_true rfl) (by rw [hR]; exact Nat.le_of_ble_eq_true rfl) ?_
  refine cAload F dX4_init_4 (k := 0) rfl ?_
  refine cIconst F (v := (-1)) dX4_init_5 k_m1 ?_
  refine cPut F tyX4 dX4_init_6 (T := TX4) (N := 3) (ci := 4) (ty := .int) rfl in_X4 (by decide) pw_X4_9 tyX4_ok nmX4 rfl (by decide +kernel) ⟨rfl, rfl⟩ 0 rfl (Nat.le_of_ble_eq_true rfl) ?_
  refine cEq (ws' := [(q0, .inr (4, [.int (-1), .int 0, .null]))]) rfl ?_
  refine cAload F dX4_init_9 (k := 0) rfl ?_
  refine cBipush F (v := 60) dX4_init_10 kb_60 ?_
  refine cNewa F (atype := .long) (ty := .long) (k0 := 1) (N' := 60) (a0 := (60, .inr (.inl (fun _ => 0)))) dX4_init_12 ac_long rfl rfl (fun C h => by cases h) (fun _ => rfl) (by decide) (by decide) (by decide) (by rw [hR]; exact Nat.le_of_ble_eq_true rfl) (by rw [hR]; exact Nat.le_of_ble_eq_true rfl) (fun q1 => ?_)
  refine cEq (ws' := [(q0, .inr (4, [.int (-1), .int 0, .null])), aJ c 60 q1]) rfl ?_
  refine cPutF F tyX4 dX4_init_14 (T := TX4) (N := 3) (ci := 4) (ty := .array .long) rfl in_X4 (by decide) pw_X4_13 tyX4_ok nmX4 rfl hini rfl (by decide +kernel) ⟨rfl, rfl⟩ 0 rfl (Nat.le_of_ble_eq_true rfl) ?_
  refine cEq (ws' := [(q0, .inr (4, [.int (-1), .int 0, .ref q1])), aJ c 60 q1]) rfl ?_
  refine hend (fun k => [q0, q1].getD k 0) dX4_init_17 (Nat.le_of_ble_eq_true rfl) (Nat.le_of_ble_eq_true rfl) rfl (fun H hP => ?_) (fun hD => ?_)
  · rw [mw_X4 D c _ s0 l]
    exact hP
  · rw [mw_X4 D c _ s0 l]
    exact hD
def shr_X0 : List Shp := [(6, 0, [3, 0, 0, 0, 0]), (0, 20, [])]
def m0_X0 : Mm := (fun k i => 0, fun _ _ => 0, fun k i => 0)
set_option maxRecDepth 20000 in
set_option maxHeartbeats 4000000 in
theorem mw_X0 (D : va_G) (c : Nat → ClassId) (ρ : Nat → Nat) (s0 : State) (l : Launch) : mw (D, c, ρ, shr_X0, s0, l) m0_X0 = [(ρ 0, .inr (0, [.ref (ρ 1), .int 0, .int 0, .int 0, .int 0])), aI c 20 (ρ 1)] := by
  rw [mw_go]
  rfl
set_option maxRecDepth 20000 in
set_option maxHeartbeats 40000000 in
theorem ct_X0 {D : va_G} {c : Nat → ClassId} {s0 : State} {l : Launch} (hs0 : cS s0) : cR D c s0 l 1 1 20 30 yX0_init cX0_init 1 0 [.null, .int 0, .int 0, .int 0, .int 0] shr_X0 m0_X0 := by
  refine cR_of hs0 (by decide) rfl (Nat.le_of_ble_eq_true rfl) ?_
  intro q0 A X F hl hR hini hend
  have F : cF D A c s0 X cX0_init RX0 1 := F
  refine cAload F dX0_init_0 (k := 0) rfl ?_
  refine cObj F dX0_init_1 ob_X0 (by rw [hR]; exact Nat.le_of_ble_eq_true rfl) (by rw [hR]; exact Nat.le_of_ble_eq_true rfl) ?_
  refine cAload F dX0_init_4 (k := 0) rfl ?_
  refine cBipush F (v := 20) dX0_init_5 kb_20 ?_
  refine cNewa F (atype := .int) (ty := .int) (k0 := 0) (N' := 20) (a0 := (20, .inl (fun _ => 0))) dX0_init_7 ac_int rfl rfl (fun C h => by cases h) (fun _ => rfl) (by decide) (by decide) (by decide) (by rw [hR]; exact Nat.le_of_ble_eq_true rfl) (by rw [hR]; exact Nat.le_of_ble_eq_true rfl) (fun q1 => ?_)
  refine cEq (ws' := [(q0, .inr (0, [.null, .int 0, .int 0, .int 0, .int 0])), aI c 20 q1]) rfl ?_
  refine cPutF F tyX0 dX0_init_9 (T := TX0) (N := 5) (ci := 0) (ty := .array .int) rfl in_X0 (by decide) pw_X0_11 tyX0_ok nmX0 rfl hini rfl (by decide +kernel) ⟨rfl, rfl⟩ 0 rfl (Nat.le_of_ble_eq_true rfl) ?_
  refine cEq (ws' := [(q0, .inr (0, [.ref q1, .int 0, .int 0, .int 0, .int 0])), aI c 20 q1]) rfl ?_
  refine hend (fun k => [q0, q1].getD k 0) dX0_init_12 (Nat.le_of_ble_eq_true rfl) (Nat.le_of_ble_eq_true rfl) rfl (fun H hP => ?_) (fun hD => ?_)
  · rw [mw_X0 D c _ s0 l]
    exact hP
  · rw [mw_X0 D c _ s0 l]
    exact hD
def shr_X3 : List Shp := [(6, 3, [3, 0, 0, 1]), (2, 100, []), (6, 2, [5, 0, 6, 7, 8, 0, 0]), (0, 100, []), (0, 10, []), (0, 10, []), (0, 10, [])]
def m0_X3 : Mm := (fun k i => if k = 2 ∧ i = 6 then 4 else 0, fun _ _ => 0, fun k i => if k = 0 ∧ i = 3 then 2 else 0)
set_option maxRecDepth 20000 in
set_option maxHeartbeats 4000000 in
theorem mw_X3 (D : va_G) (c : Nat → ClassId) (ρ : Nat → Nat) (s0 : State) (l : Launch) : mw (D, c, ρ, shr_X3, s0, l) m0_X3 = [(ρ 0, .inr (3, [.ref (ρ 1), .int 0, .int 0, .ref (ρ 2)])), aC c 100 (ρ 1), (ρ 2, .inr (2, [.ref (ρ 3), .int 0, .ref (ρ 4), .ref (ρ 5), .ref (ρ 6), .int 0, .int 4])), aI c 100 (ρ 3), aI c 10 (ρ 4), aI c 10 (ρ 5), aI c 10 (ρ 6)] := by
  rw [mw_go]
  rfl
set_option maxRecDepth 20000 in
set_option maxHeartbeats 40000000 in
theorem ct_X3 {D : va_G} {c : Nat → ClassId} {s0 : State} {l : Launch} (hs0 : cS s0) : cR D c s0 l 2 6 237 50 yX3_init cX3_init 1 3 [.null, .int 0, .int 0, .null] shr_X3 m0_X3 := by
  refine cR_of hs0 (by decide) rfl (Nat.le_of_ble_eq_true rfl) ?_
  intro q0 A X F hl hR hini hend
  have F : cF D A c s0 X cX3_init RX3 1 := F
  refine cAload F dX3_init_0 (k := 0) rfl ?_
  refine cObj F dX3_init_1 ob_X3 (by rw [hR]; exact Nat.le_of_ble_eq_true rfl) (by rw [hR]; exact Nat.le_of_ble_eq_true rfl) ?_
  refine cAload F dX3_init_4 (k := 0) rfl ?_
  refine cBipush F (v := 100) dX3_init_5 kb_100 ?_
  refine cNewa F (atype := .char) (ty := .char) (k0 := 2) (N' := 100) (a0 := (100, .inl (fun _ => 0))) dX3_init_7 ac_char rfl rfl (fun C h => by cases h) (fun _ => rfl) (by decide) (by decide) (by decide) (by rw [hR]; exact Nat.le_of_ble_eq_true rfl) (by rw [hR]; exact Nat.le_of_ble_eq_true rfl) (fun q1 => ?_)
  refine cEq (ws' := [(q0, .inr (3, [.null, .int 0, .int 0, .null])), aC c 100 q1]) rfl ?_
  refine cPutF F tyX3 dX3_init_9 (T := TX3) (N := 4) (ci := 3) (ty := .array .char) rfl in_X3 (by decide) pw_X3_9 tyX3_ok nmX3 rfl hini rfl (by decide +kernel) ⟨rfl, rfl⟩ 0 rfl (Nat.le_of_ble_eq_true rfl) ?_
  refine cEq (ws' := [(q0, .inr (3, [.ref q1, .int 0, .int 0, .null])), aC c 100 q1]) rfl ?_
  refine cAload F dX3_init_12 (k := 0) rfl ?_
  refine cNew F (ci := 2) (fs := [.null, .int 0, .null, .null, .null, .int 0, .int 0]) tyX2 dX3_init_13 rfl in_X2 tyX2_ok cl_X3_15 ist_X2.1 ist_X2.2 df_X2 (by rw [hR]; exact Nat.le_of_ble_eq_true rfl) (by rw [hR]; exact Nat.le_of_ble_eq_true rfl) (fun q2 => ?_)
  refine cDup F dX3_init_16 rfl ?_
  refine cInit (ws := [(q0, .inr (3, [.ref q1, .int 0, .int 0, .null])), aC c 100 q1]) F dX3_init_17 (by rw [hl]; exact ct_X2 hs0) lk_X3_17 ci_X2.1 ci_X2.2.1 ci_X2.2.2.1 rfl ⟨by decide, by decide⟩ ci_X2.2.2.2 (by rw [hR]; exact Nat.le_of_ble_eq_true rfl) (by rw [hR]; exact Nat.le_of_ble_eq_true rfl) (by rw [hR]; exact Nat.le_of_ble_eq_true rfl) (by rw [hR]; exact Nat.le_of_ble_eq_true rfl) (Nat.le_of_ble_eq_true rfl) (fun r1 hr1 => ?_)
  subst hr1
  rw [mw_X2 D c r1 s0 X.2.1]
  refine cEq (ws' := [(q0, .inr (3, [.ref q1, .int 0, .int 0, .null])), aC c 100 q1, (r1 0, .inr (2, [.ref (r1 1), .int 0, .ref (r1 2), .ref (r1 3), .ref (r1 4), .int 0, .int 4])), aI c 100 (r1 1), aI c 10 (r1 2), aI c 10 (r1 3), aI c 10 (r1 4)]) rfl ?_
  refine cPut F tyX3 dX3_init_20 (T := TX3) (N := 4) (ci := 3) (ty := .object "NamesBack$Land") rfl in_X3 (by decide) pw_X3_18 tyX3_ok nmX3 rfl (by decide +kernel) ⟨rfl, rfl⟩ 0 rfl (Nat.le_of_ble_eq_true rfl) ?_
  refine cEq (ws' := [(q0, .inr (3, [.ref q1, .int 0, .int 0, .ref (r1 0)])), aC c 100 q1, (r1 0, .inr (2, [.ref (r1 1), .int 0, .ref (r1 2), .ref (r1 3), .ref (r1 4), .int 0, .int 4])), aI c 100 (r1 1), aI c 10 (r1 2), aI c 10 (r1 3), aI c 10 (r1 4)]) rfl ?_
  refine hend (fun k => [q0, q1, r1 0, (r1 1), (r1 2), (r1 3), (r1 4)].getD k 0) dX3_init_23 (Nat.le_of_ble_eq_true rfl) (Nat.le_of_ble_eq_true rfl) rfl (fun H hP => ?_) (fun hD => ?_)
  · rw [mw_X3 D c _ s0 l]
    exact hP
  · rw [mw_X3 D c _ s0 l]
    exact hD
