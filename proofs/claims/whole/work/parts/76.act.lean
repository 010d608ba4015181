-- ===== act =====
section
variable {m : Mm} {S : Sn} {ld : Nat → List Cl} {it : Nat → Nat → Int64} {p kd v : Nat}
theorem telL_run (S : Sn) (kd k : Nat) (h : k = 3 ∨ k = 6) : bodiesS S (telL kd k) = bodiesS (bodiesS (bodiesS S [40]) (telL0 kd)) (namL kd kd) := by
  unfold telL
  rw [if_pos h]
  exact bodiesS_app (telL0 kd) (namL kd kd) _
theorem tel_m (h : AM m S ld it p kd v) (hkd : kd < 7) (x : Int32) (hs : S 44 0 < 700) : ∃ m', Mo_tellsAct m (nI p) x = some (telV p v kd kd x, m') ∧ AM m' (bodiesS S (telL kd kd)) ld it p kd v := by
  have hp := h.2.1
  have hk := AM_k h
  have hl := namL_len kd kd
  unfold Mo_tellsAct
  have hk' : (kd = 0 ∨ kd = 1 ∨ kd = 2 ∨ kd = 4) ∨ kd = 3 ∨ kd = 5 ∨ kd = 6 := by omega
  rcases hk' with hk' | rfl | rfl | rfl
  · obtain ⟨m1, e1, g1⟩ := tel0_m h hkd x (by omega)
    rcases hk' with rfl | rfl | rfl | rfl
    · simp (disch := omega) only [si_e, si_ne, si_nj, sl_r, si_l, ga_n, n_cl, n_lt, n_le, n_eq, n_add, n_mul, n_sub, n_eqm, n_meq, n_mm, n_mlt, n_mle, n_ltm, Option.bind_some, if_pos, if_neg, hk, i_3, i_4, i_5, i_6, e1]
      exact ⟨_, rfl, g1⟩
    · simp (disch := omega) only [si_e, si_ne, si_nj, sl_r, si_l, ga_n, n_cl, n_lt, n_le, n_eq, n_add, n_mul, n_sub, n_eqm, n_meq, n_mm, n_mlt, n_mle, n_ltm, Option.bind_some, if_pos, if_neg, hk, i_3, i_4, i_5, i_6, e1]
      exact ⟨_, rfl, g1⟩
    · simp (disch := omega) only [si_e, si_ne, si_nj, sl_r, si_l, ga_n, n_cl, n_lt, n_le, n_eq, n_add, n_mul, n_sub, n_eqm, n_meq, n_mm, n_mlt, n_mle, n_ltm, Option.bind_some, if_pos, if_neg, hk, i_3, i_4, i_5, i_6, e1]
      exact ⟨_, rfl, g1⟩
    · simp (disch := omega) only [si_e, si_ne, si_nj, sl_r, si_l, ga_n, n_cl, n_lt, n_le, n_eq, n_add, n_mul, n_sub, n_eqm, n_meq, n_mm, n_mlt, n_mle, n_ltm, Option.bind_some, if_pos, if_neg, hk, i_3, i_4, i_5, i_6, e1]
      exact ⟨_, rfl, g1⟩
  · obtain ⟨m1, e1, g1⟩ := body_m h 40 (by omega)
    obtain ⟨m2, e2, g2⟩ := tel0_m g1 hkd x (by rw [bodiesS_44]; show S 44 0 + 1 < 800; omega)
    obtain ⟨m3, e3, g3⟩ := nam_m g2 hkd 1 (by rw [bodiesS_44, bodiesS_44]; show S 44 0 + 1 + ((namL 3 3).length + 1) < 880; omega)
    simp (disch := omega) only [si_e, si_ne, si_nj, sl_r, si_l, ga_n, n_cl, n_lt, n_le, n_eq, n_add, n_mul, n_sub, n_eqm, n_meq, n_mm, n_mlt, n_mle, n_ltm, Option.bind_some, if_pos, if_neg, hk, i_3, i_40, e1, e2, e3]
    refine ⟨_, rfl, ?_⟩
    rw [telL_run S 3 3 (by omega)]
    exact g3
  · obtain ⟨m1, e1, g1⟩ := body_m h 60 (by omega)
    obtain ⟨m2, e2, g2⟩ := tel0_m g1 hkd (x - nI p) (by rw [bodiesS_44]; show S 44 0 + 1 < 800; omega)
    simp (disch := omega) only [si_e, si_ne, si_nj, sl_r, si_l, ga_n, n_cl, n_lt, n_le, n_eq, n_add, n_mul, n_sub, n_eqm, n_meq, n_mm, n_mlt, n_mle, n_ltm, Option.bind_some, if_pos, if_neg, hk, i_3, i_4, i_5, i_60, e1, e2]
    exact ⟨_, rfl, g2⟩
  · obtain ⟨m1, e1, g1⟩ := body_m h 40 (by omega)
    obtain ⟨m2, e2, g2⟩ := tel0_m g1 hkd x (by rw [bodiesS_44]; show S 44 0 + 1 < 800; omega)
    obtain ⟨m3, e3, g3⟩ := nam_m g2 hkd 1 (by rw [bodiesS_44, bodiesS_44]; show S 44 0 + 1 + ((namL 6 6).length + 1) < 880; omega)
    simp (disch := omega) only [si_e, si_ne, si_nj, sl_r, si_l, ga_n, n_cl, n_lt, n_le, n_eq, n_add, n_mul, n_sub, n_eqm, n_meq, n_mm, n_mlt, n_mle, n_ltm, Option.bind_some, if_pos, if_neg, hk, i_3, i_4, i_5, i_6, i_40, e1, e2, e3]
    refine ⟨_, rfl, ?_⟩
    rw [telL_run S 6 6 (by omega)]
    exact g3
end
theorem run_Wf {S : Sn} (hW : Wf S) (S' : Sn) (h : ∀ f i, f ≠ 44 → f ≠ 45 → S' f i = S f i) (hn : S' 44 0 ≤ 1000) : Wf S' := by
  obtain ⟨a0, a1, a2, a3, a4, a5, a6, a7, a8⟩ := hW
  unfold WfW at a0 a1
  unfold Wf WfW
  simp (disch := omega) only [h]
  exact ⟨a0, a1, a2, a3, a4, a5, hn, a7, a8⟩
theorem telL_len (kd k : Nat) : (telL kd k).length ≤ 12 := by
  have h := namL_len kd kd
  have h2 : (telL0 kd).length = (namL kd kd).length + 1 := rfl
  unfold telL
  split
  · rw [List.length_cons, List.length_append]
    omega
  · split
    · rw [List.length_cons]
      omega
    · omega
theorem H31 : lwH31 Inv := by
  intro m1 m2 a1 a2 a3 hI
  obtain ⟨S, ld, it, hC, hM, hW, hL⟩ := id hI
  have b0 := Wf_0 hW
  have c0 := StC_set (f := 44) (i := 0) (v := 0) hC (Wf_41 hW) (by decide) (by decide) rfl
  have r0 := StM_set (f := 44) (i := 0) (v := 0) hM (by decide) (by decide) rfl
  have z : su S 44 0 0 0 0 = S 0 0 := su_ne (by omega)
  have i0 : Inv (si m1 74 1 0) (si m2 0 55 0) := ⟨su S 44 0 0, ld, it, c0, r0, run_Wf hW _ (fun f i h _ => su_ne h) (by rw [su_e rfl rfl]; omega), by rw [su_ne (by omega)]; exact hL⟩
  have q0 : (si m1 74 1 0).1 11 0 = nI (S 0 0) := by rw [← z]; exact cF0 c0.1
  have q1 : (si m2 0 55 0).1 0 0 = nI (S 0 0) := by rw [← z]; exact rF0 r0.1
  unfold NB_act Mo_act Ac_forget
  rw [Wo_has_eq q0 (by omega), Mo_isPlace_eq q1 (by omega), in2]
  cases e1 : inR a1 (S 0 0) with
  | false => exact ⟨0, _, _, rfl, rfl, i0⟩
  | true =>
  obtain ⟨p, hp, rfl⟩ := inR_ex e1 (by omega)
  have hp7 : p < 7 := by omega
  have hk := Wf_1 hW hp7
  have k1 : (si m1 74 1 0).1 (11 + 1) p = nI (S 1 p) := (cF1 c0.1 hp7).trans (by rw [su_ne (by omega)])
  have k2 : (si m1 74 1 0).1 (11 + 2) p = nI (S 2 p) := (cF2 c0.1 hp7).trans (by rw [su_ne (by omega)])
  rw [if_pos rfl, if_pos rfl, n_cl (by omega), k1, k2]
  have hA : AC (Ac_standAt (si m1 74 1 0) (nI p) (nI (S 1 p)) (nI (S 2 p))) (su S 44 0 0) ld it p (S 1 p) (S 2 p) := by
    unfold Ac_standAt
    refine ⟨StC_same c0 ⟨fun k i hn => ?_, fun k i _ => rfl⟩ (by rw [su_ne (by omega)]; exact Wf_41 hW), ?_, ?_, ?_, by rw [su_ne (by omega)]; exact Wf_41 hW⟩
    · have hn' : ¬ (k = 74 ∧ 2 ≤ i) := fun q => hn (by unfold scrC; omega)
      rw [si_r, if_neg (by omega), si_r, if_neg (by omega), si_r, if_neg (by omega)]
      rfl
    · simp (disch := omega) only [si_e, si_ne, si_nj, sl_r, si_l, ga_n, n_cl, n_lt, n_le, n_eq, n_add, n_mul, n_sub, n_eqm, n_meq, n_mm, n_mlt, n_mle, n_ltm, Option.bind_some, if_pos, if_neg]
    · simp (disch := omega) only [si_e, si_ne, si_nj, sl_r, si_l, ga_n, n_cl, n_lt, n_le, n_eq, n_add, n_mul, n_sub, n_eqm, n_meq, n_mm, n_mlt, n_mle, n_ltm, Option.bind_some, if_pos, if_neg]
    · simp (disch := omega) only [si_e, si_ne, si_nj, sl_r, si_l, ga_n, n_cl, n_lt, n_le, n_eq, n_add, n_mul, n_sub, n_eqm, n_meq, n_mm, n_mlt, n_mle, n_ltm, Option.bind_some, if_pos, if_neg]
  have hB : AM (si m2 0 55 0) (su S 44 0 0) ld it p (S 1 p) (S 2 p) := ⟨r0, hp7, su_ne (by omega), su_ne (by omega)⟩
  have k3 : (Ac_standAt (si m1 74 1 0) (nI p) (nI (S 1 p)) (nI (S 2 p))).1 (11 + 1) p = nI (S 1 p) := (cF1 hA.1.1 hp7).trans (by rw [su_ne (by omega)])
  have s0 : su S 44 0 0 44 0 = 0 := su_e rfl rfl
  have fin : ∀ (l : List Nat) (x y : Mm) (r : Int32), l.length ≤ 12 → AC x (bodiesS (su S 44 0 0) l) ld it p (S 1 p) (S 2 p) → AM y (bodiesS (su S 44 0 0) l) ld it p (S 1 p) (S 2 p) → Inv x y := by
    intro l x y r hl hx hy
    refine ⟨_, ld, it, hx.1, hy.1, run_Wf hW _ (fun f i h h' => (bodiesS_ne h h' _ _).trans (su_ne h)) (by rw [bodiesS_44, s0]; omega), ?_⟩
    rw [bodiesS_ne (by omega) (by omega), su_ne (by omega)]
    exact hL
  simp (disch := omega) only [si_e, si_ne, si_nj, sl_r, si_l, ga_n, n_cl, n_lt, n_le, n_eq, n_add, n_mul, n_sub, n_eqm, n_meq, n_mm, n_mlt, n_mle, n_ltm, Option.bind_some, if_pos, if_neg, k3]
  by_cases f0 : a2 = 0
  · subst f0
    obtain ⟨x, x1, x2⟩ := pts_c hA (S 1 p) (by omega) a3 0 6 (by omega) (by rw [s0]; omega)
    obtain ⟨y, y1, y2⟩ := pts_m hB (by omega) a3 (by rw [s0]; omega)
    have x1' : Ac_points (Ac_standAt (si m1 74 1 0) (nI p) (nI (S 1 p)) (nI (S 2 p))) (nI (S 1 p)) a3 0 = some (ptsV p (S 2 p) (S 1 p) a3, x) := x1
    have e0 : inR 0 3 = true := rfl
    rw [if_pos rfl, e0, if_pos rfl, if_pos rfl, x1', y1]
    have hlen := ptsL_len (S 1 p)
    exact ⟨_, _, _, rfl, rfl, fin _ _ _ 0 (by omega) x2 y2⟩
  rw [if_neg f0, if_neg f0]
  by_cases f1 : a2 = 1
  · subst f1
    obtain ⟨x, x1, x2⟩ := nam_c hA (by omega) (S 1 p) (by omega) a3 0 5 (by omega) (by rw [s0]; omega)
    obtain ⟨y, y1, y2⟩ := nam_m hB (by omega) a3 (by rw [s0]; omega)
    have x1' : Ac_names (Ac_standAt (si m1 74 1 0) (nI p) (nI (S 1 p)) (nI (S 2 p))) (nI (S 1 p)) a3 0 = some (namV p (S 2 p) (S 1 p) (S 1 p) a3, x) := x1
    have e0 : inR 1 3 = true := rfl
    rw [if_pos rfl, e0, if_pos rfl, if_pos rfl, x1', y1]
    have hlen := namL_len (S 1 p) (S 1 p)
    exact ⟨_, _, _, rfl, rfl, fin _ _ _ 0 (by omega) x2 y2⟩
  rw [if_neg f1, if_neg f1]
  by_cases f2 : a2 = 2
  · subst f2
    obtain ⟨x, x1, x2⟩ := tel_c hA (by omega) (S 1 p) (by omega) a3 0 6 (by omega) (by rw [s0]; omega)
    obtain ⟨y, y1, y2⟩ := tel_m hB (by omega) a3 (by rw [s0]; omega)
    have x1' : Ac_tells (Ac_standAt (si m1 74 1 0) (nI p) (nI (S 1 p)) (nI (S 2 p))) (nI (S 1 p)) a3 0 = some (telV p (S 2 p) (S 1 p) (S 1 p) a3, x) := x1
    have e0 : inR 2 3 = true := rfl
    rw [if_pos rfl, e0, if_pos rfl, x1', y1]
    have hlen := telL_len (S 1 p) (S 1 p)
    exact ⟨_, _, _, rfl, rfl, fin _ _ _ 0 (by omega) x2 y2⟩
  rw [if_neg f2]
  have e0 : inR a2 3 = false := by
    cases e : inR a2 3 with
    | false => rfl
    | true =>
      obtain ⟨k, hk3, rfl⟩ := inR_ex e (by omega)
      have : k = 0 ∨ k = 1 ∨ k = 2 := by omega
      rcases this with rfl | rfl | rfl
      · exact absurd rfl f0
      · exact absurd rfl f1
      · exact absurd rfl f2
  rw [e0]
  exact ⟨0, _, _, rfl, rfl, fin [] _ _ 0 (by decide) hA hB⟩
