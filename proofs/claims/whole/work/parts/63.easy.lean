-- ===== the easy calls =====
theorem H0 : lwH0 Inv := by
  intro m1 m2 a1 a2 a3 hI
  obtain ⟨S, ld, it, hC, hM, hW, hL⟩ := id hI
  have b0 := Wf_0 hW
  have c0 := cF0 hC.1
  have d0 := rF0 hM.1
  unfold NB_place Mo_place
  rw [in6, in9, in99]
  rcases arg3 a1 7 (by omega) with ⟨h1, h2⟩ | ⟨h1, h2, h3⟩ | ⟨k, h1, rfl, h3⟩
  · exact ⟨-1, m1, m2, by rw [if_pos h1], by rw [h2]; rfl, hI⟩
  · exact ⟨-1, m1, m2, by rw [if_neg h2, i_6, if_neg (n_nle h1 (by omega))], by rw [h3]; rfl, hI⟩
  rw [if_neg (nI_pos (by omega)), i_6, if_pos (by rw [n_le (by omega) (by omega)]; omega), h3, if_pos rfl]
  rcases arg3 a2 10 (by omega) with ⟨h1', h2⟩ | ⟨h1', h2, h3'⟩ | ⟨v, h1', rfl, h3'⟩
  · exact ⟨-2, m1, m2, by rw [if_pos h1'], by rw [h2]; rfl, hI⟩
  · exact ⟨-2, m1, m2, by rw [if_neg h2, i_9, if_pos (n_gt h1' (by omega))], by rw [h3']; rfl, hI⟩
  rw [if_neg (nI_pos (by omega)), i_9, if_neg (by rw [n_lt (by omega) (by omega)]; omega), h3', if_pos rfl]
  rcases arg3 a3 100 (by omega) with ⟨g1, h2⟩ | ⟨g1, h2, h3''⟩ | ⟨q, g1, rfl, h3''⟩
  · exact ⟨-2, m1, m2, by rw [if_pos g1], by rw [h2]; rfl, hI⟩
  · exact ⟨-2, m1, m2, by rw [if_neg h2, i_99, if_neg (n_nle g1 (by omega))], by rw [h3'']; rfl, hI⟩
  rw [if_neg (nI_pos (by omega)), i_99, if_pos (by rw [n_le (by omega) (by omega)]; omega), h3'', if_pos rfl]
  unfold Wo_addPlace
  rw [c0, d0, i_7]
  by_cases hf : S 0 0 = 7
  · exact ⟨-4, m1, m2, by rw [if_neg (by rw [n_lt (by omega) (by omega)]; omega)], by rw [if_pos (by rw [n_eq (by omega) (by omega)]; exact hf)], hI⟩
  rw [if_pos (by rw [n_lt (by omega) (by omega)]; omega), if_neg (by rw [n_eq (by omega) (by omega)]; exact hf)]
  have hn : S 0 0 < 7 := by omega
  simp (disch := omega) only [si_e, si_ne, si_nj, sl_r, si_l, ga_n, n_cl, n_lt, n_le, n_eq, n_add, n_mul, n_sub, n_eqm, n_meq, n_mm, n_mlt, n_mle, n_ltm, Option.bind_some, if_pos, if_neg, c0, d0, i_0, i_1]
  have z0 := StM_set (f := 5) (i := S 0 0) (v := 0) (StM_set (f := 3) (i := S 0 0) (v := q) (StM_set (f := 2) (i := S 0 0) (v := v) (StM_set (f := 1) (i := S 0 0) (v := k) hM (by exact hn) (by decide) rfl) (by exact hn) (by decide) rfl) (by exact hn) (by decide) rfl) (by exact hn) (by decide) rfl
  rw [su_same (S := su (su (su S 1 (S 0 0) k) 2 (S 0 0) v) 3 (S 0 0) q) (by simp (disch := omega) only [si_e, si_ne, si_nj, sl_r, si_l, ga_n, n_cl, n_lt, n_le, n_eq, n_add, n_mul, n_sub, n_eqm, n_meq, n_mm, n_mlt, n_mle, n_ltm, Option.bind_some, if_pos, if_neg, su_ne]; exact Wf_5z hW hn (by omega))] at z0
  obtain ⟨e6, z1, z2⟩ := iter_for (step := Mo_place_l93) (fun i s => s.1 = nI i ∧ StM s.2 (su (su (su S 1 (S 0 0) k) 2 (S 0 0) v) 3 (S 0 0) q) ld it) 7 (fun e => StM e (su (su (su S 1 (S 0 0) k) 2 (S 0 0) v) 3 (S 0 0) q) ld it)
    (by
      rintro i ⟨s1, s2⟩ hi ⟨hs, hm⟩
      replace hs : s1 = nI i := hs
      subst hs
      have d1 : s2.1 0 0 = nI (S 0 0) := (rF0 hm.1).trans (by simp (disch := omega) only [si_e, si_ne, si_nj, sl_r, si_l, ga_n, n_cl, n_lt, n_le, n_eq, n_add, n_mul, n_sub, n_eqm, n_meq, n_mm, n_mlt, n_mle, n_ltm, Option.bind_some, if_pos, if_neg, su_ne])
      unfold Mo_place_l93
      simp (disch := omega) only [si_e, si_ne, si_nj, sl_r, si_l, ga_n, n_cl, n_lt, n_le, n_eq, n_add, n_mul, n_sub, n_eqm, n_meq, n_mm, n_mlt, n_mle, n_ltm, Option.bind_some, if_pos, if_neg, d1, i_0, i_1, i_7]
      refine ⟨_, rfl, rfl, ?_⟩
      exact StM_id (f := 4) (i := 7 * i + S 0 0) (StM_id (f := 4) (i := 7 * S 0 0 + i) hm (by show _ < 49; omega) (by decide) (by simp (disch := omega) only [si_e, si_ne, si_nj, sl_r, si_l, ga_n, n_cl, n_lt, n_le, n_eq, n_add, n_mul, n_sub, n_eqm, n_meq, n_mm, n_mlt, n_mle, n_ltm, Option.bind_some, if_pos, if_neg, su_ne]; rw [Wf_4z hW hn hi (by omega)]; rfl)) (by show _ < 49; omega) (by decide) (by simp (disch := omega) only [si_e, si_ne, si_nj, sl_r, si_l, ga_n, n_cl, n_lt, n_le, n_eq, n_add, n_mul, n_sub, n_eqm, n_meq, n_mm, n_mlt, n_mle, n_ltm, Option.bind_some, if_pos, if_neg, su_ne]; rw [Wf_4s hW hi hn, Wf_4z hW hn hi (by omega)]; rfl))
    (by
      rintro ⟨s1, s2⟩ ⟨hs, hm⟩
      replace hs : s1 = nI 7 := hs
      subst hs
      unfold Mo_place_l93
      simp (disch := omega) only [si_e, si_ne, si_nj, sl_r, si_l, ga_n, n_cl, n_lt, n_le, n_eq, n_add, n_mul, n_sub, n_eqm, n_meq, n_mm, n_mlt, n_mle, n_ltm, Option.bind_some, if_pos, if_neg, i_7]
      exact ⟨_, rfl, hm⟩) 0 (nI 0, si (si (si (si m2 1 (S 0 0) (nI k)) 2 (S 0 0) (nI v)) 3 (S 0 0) (nI q)) 4 (S 0 0) (nI 0)) (by omega) ⟨rfl, z0⟩
  have d1 : e6.1 0 0 = nI (S 0 0) := (rF0 z2.1).trans (by simp (disch := omega) only [si_e, si_ne, si_nj, sl_r, si_l, ga_n, n_cl, n_lt, n_le, n_eq, n_add, n_mul, n_sub, n_eqm, n_meq, n_mm, n_mlt, n_mle, n_ltm, Option.bind_some, if_pos, if_neg, su_ne])
  have z1' : iter Mo_place_l93 (nI 0, si (si (si (si m2 1 (S 0 0) (nI k)) 2 (S 0 0) (nI v)) 3 (S 0 0) (nI q)) 4 (S 0 0) (nI 0)) = some e6 := z1
  simp (disch := omega) only [si_e, si_ne, si_nj, sl_r, si_l, ga_n, n_cl, n_lt, n_le, n_eq, n_add, n_mul, n_sub, n_eqm, n_meq, n_mm, n_mlt, n_mle, n_ltm, Option.bind_some, if_pos, if_neg, z1', d1]
  refine ⟨_, _, _, rfl, rfl, su (su (su (su S 1 (S 0 0) k) 2 (S 0 0) v) 3 (S 0 0) q) 0 0 (S 0 0 + 1), ld, it, ?_, ?_, ?_, ?_⟩
  · exact StC_set (f := 0) (i := 0) (StC_set (f := 3) (i := S 0 0) (StC_set (f := 2) (i := S 0 0) (v := v) (StC_set (f := 1) (i := S 0 0) (v := k) hC (Wf_41 hW) hn (by decide) rfl) (by simp (disch := omega) only [si_e, si_ne, si_nj, sl_r, si_l, ga_n, n_cl, n_lt, n_le, n_eq, n_add, n_mul, n_sub, n_eqm, n_meq, n_mm, n_mlt, n_mle, n_ltm, Option.bind_some, if_pos, if_neg, su_ne]; exact Wf_41 hW) hn (by decide) rfl) (by simp (disch := omega) only [si_e, si_ne, si_nj, sl_r, si_l, ga_n, n_cl, n_lt, n_le, n_eq, n_add, n_mul, n_sub, n_eqm, n_meq, n_mm, n_mlt, n_mle, n_ltm, Option.bind_some, if_pos, if_neg, su_ne]; exact Wf_41 hW) hn (by decide) rfl) (by simp (disch := omega) only [si_e, si_ne, si_nj, sl_r, si_l, ga_n, n_cl, n_lt, n_le, n_eq, n_add, n_mul, n_sub, n_eqm, n_meq, n_mm, n_mlt, n_mle, n_ltm, Option.bind_some, if_pos, if_neg, su_ne]; exact Wf_41 hW) (by decide) (by decide) rfl
  · exact StM_set (f := 0) (i := 0) z2 (by decide) (by decide) rfl
  · refine Wf_up hW ?_ (fun f hf => by funext i; simp (disch := omega) only [si_e, si_ne, si_nj, sl_r, si_l, ga_n, n_cl, n_lt, n_le, n_eq, n_add, n_mul, n_sub, n_eqm, n_meq, n_mm, n_mlt, n_mle, n_ltm, Option.bind_some, if_pos, if_neg, su_ne])
    have hW0 := hW.1
    unfold WfW at hW0 ⊢
    simp (disch := omega) only [su_ne, su_e]
    obtain ⟨a1, a2, a3, a4, a5, a6, a7, a8, a9⟩ := hW0
    refine ⟨by omega, fun i hi => ⟨?_, ?_, ?_, (a2 i hi).2.2.2⟩, fun p o hp ho => ⟨(a3 p o hp ho).1, (a3 p o hp ho).2.1, (a3 p o hp ho).2.2.1, fun h => (a3 p o hp ho).2.2.2 (by show S 0 0 ≤ p; omega)⟩, fun p o hp ho => ⟨(a4 p o hp ho).1, (a4 p o hp ho).2.1, fun h => (a4 p o hp ho).2.2 (by show S 0 0 ≤ p; omega)⟩, a5, fun t ht => ⟨Nat.lt_succ_of_lt (a6 t ht).1, Nat.lt_succ_of_lt (a6 t ht).2.1, (a6 t ht).2.2⟩, a7, fun t ht => Nat.lt_succ_of_lt (a8 t ht), a9⟩
    · rw [su_r]
      split
      · omega
      · exact (a2 i hi).1
    · rw [su_r]
      split
      · omega
      · simp (disch := omega) only [si_e, si_ne, si_nj, sl_r, si_l, ga_n, n_cl, n_lt, n_le, n_eq, n_add, n_mul, n_sub, n_eqm, n_meq, n_mm, n_mlt, n_mle, n_ltm, Option.bind_some, if_pos, if_neg, su_ne]
        exact (a2 i hi).2.1
    · rw [su_r]
      split
      · omega
      · simp (disch := omega) only [si_e, si_ne, si_nj, sl_r, si_l, ga_n, n_cl, n_lt, n_le, n_eq, n_add, n_mul, n_sub, n_eqm, n_meq, n_mm, n_mlt, n_mle, n_ltm, Option.bind_some, if_pos, if_neg, su_ne]
        exact (a2 i hi).2.2.1
  · simp (disch := omega) only [si_e, si_ne, si_nj, sl_r, si_l, ga_n, n_cl, n_lt, n_le, n_eq, n_add, n_mul, n_sub, n_eqm, n_meq, n_mm, n_mlt, n_mle, n_ltm, Option.bind_some, if_pos, if_neg, su_ne]
    exact hL
theorem H34 : lwH34 Inv := by
  intro m1 m2 a1 hI
  obtain ⟨S, ld, it, hC, hM, hW, hL⟩ := id hI
  refine ⟨_, rfl, ?_, hI⟩
  unfold NB_count Mo_count
  rw [cF0 hC.1, cF41 hC.1, cF6 hC.1, cF10 hC.1, cF43 hC.1, cF44 hC.1, rF0 hM.1, rF41 hM.1, rF6 hM.1, rF10 hM.1, rF43 hM.1, rF44 hM.1]
theorem H32 : lwH32 Inv := by
  intro m1 m2 a1 hI
  obtain ⟨S, ld, it, hC, hM, hW, hL⟩ := id hI
  unfold NB_trace Mo_trace
  rw [in19, cF44 hC.1, rF44 hM.1]
  rcases arg3 a1 20 (by omega) with ⟨h1, h2⟩ | ⟨h1, h2, h3⟩ | ⟨k, h1, rfl, h3⟩
  · exact ⟨-1, by rw [if_pos h1], by rw [h2]; rfl, hI⟩
  · exact ⟨-1, by rw [if_neg h2, i_20, if_pos h1], by rw [h3]; rfl, hI⟩
  rw [if_neg (nI_pos (by omega)), i_20, if_neg (by rw [n_le (by omega) (by omega)]; omega), h3, if_pos rfl]
  have h5 := cF45 hC.1 h1
  have h6 := rF45 hM.1 h1
  have hb := Wf_44 hW
  by_cases hr : S 44 0 ≤ k
  · simp (disch := omega) only [si_e, si_ne, si_nj, sl_r, si_l, ga_n, n_cl, n_lt, n_le, n_eq, n_add, n_mul, n_sub, n_eqm, n_meq, n_mm, n_mlt, n_mle, n_ltm, Option.bind_some, if_pos, if_neg]
    exact ⟨_, rfl, rfl, hI⟩
  · simp (disch := omega) only [si_e, si_ne, si_nj, sl_r, si_l, ga_n, n_cl, n_lt, n_le, n_eq, n_add, n_mul, n_sub, n_eqm, n_meq, n_mm, n_mlt, n_mle, n_ltm, Option.bind_some, if_pos, if_neg, h5, h6]
    exact ⟨_, rfl, rfl, hI⟩
theorem H26 : lwH26 Inv := by
  intro m1 m2 a1 hI
  obtain ⟨S, ld, it, hC, hM, hW, hL⟩ := id hI
  unfold NB_book Mo_book
  have b0 := Wf_0 hW
  have b10 := Wf_10 hW
  rw [Wo_has_eq (cF0 hC.1) (by omega), Mo_isPlace_eq (rF0 hM.1) (by omega)]
  by_cases h1 : a1 = -1
  · rw [if_pos h1, if_pos h1]
    refine ⟨_, _, _, rfl, rfl, su S 10 0 0, ld, it, StC_set (f := 10) (i := 0) hC (Wf_41 hW) (by decide) (by decide) rfl, StM_set (f := 10) (i := 0) hM (by decide) (by decide) rfl, ?_, ?_⟩
    · refine Wf_up hW ?_ (fun f hf => by funext i; simp (disch := omega) only [si_e, si_ne, si_nj, sl_r, si_l, ga_n, n_cl, n_lt, n_le, n_eq, n_add, n_mul, n_sub, n_eqm, n_meq, n_mm, n_mlt, n_mle, n_ltm, Option.bind_some, if_pos, if_neg, su_ne])
      have hW0 := hW.1
      unfold WfW at hW0 ⊢
      simp (disch := omega) only [su_ne, su_e]
      obtain ⟨a1, a2, a3, a4, a5, a6, a7, a8, a9⟩ := hW0
      exact ⟨a1, a2, a3, a4, a5, a6, by omega, fun t ht => absurd ht (Nat.not_lt_zero t), a9⟩
    · simp (disch := omega) only [si_e, si_ne, si_nj, sl_r, si_l, ga_n, n_cl, n_lt, n_le, n_eq, n_add, n_mul, n_sub, n_eqm, n_meq, n_mm, n_mlt, n_mle, n_ltm, Option.bind_some, if_pos, if_neg, su_ne]
      exact hL
  rw [if_neg h1, if_neg h1]
  by_cases h2 : inR a1 (S 0 0) = true
  · rw [if_pos h2, if_pos h2, cF10 hC.1, rF10 hM.1]
    obtain ⟨p, hp, rfl⟩ := inR_ex h2 (by omega)
    by_cases h3 : S 10 0 = 12
    · rw [if_neg (by rw [i_12, n_lt (by omega) (by omega)]; omega), if_pos (by rw [h3]; rfl)]
      exact ⟨_, _, _, rfl, rfl, hI⟩
    · have h4 : S 10 0 < 12 := by omega
      simp (disch := omega) only [si_e, si_ne, si_nj, sl_r, si_l, ga_n, n_cl, n_lt, n_le, n_eq, n_add, n_mul, n_sub, n_eqm, n_meq, n_mm, n_mlt, n_mle, n_ltm, Option.bind_some, if_pos, if_neg, i_12, i_1, cF10 hC.1, rF10 hM.1]
      refine ⟨_, _, _, rfl, rfl, su (su S 11 (S 10 0) p) 10 0 (S 10 0 + 1), ld, it, StC_set (f := 10) (i := 0) (StC_set (f := 11) (i := S 10 0) hC (Wf_41 hW) h4 (by decide) rfl) (by simp (disch := omega) only [si_e, si_ne, si_nj, sl_r, si_l, ga_n, n_cl, n_lt, n_le, n_eq, n_add, n_mul, n_sub, n_eqm, n_meq, n_mm, n_mlt, n_mle, n_ltm, Option.bind_some, if_pos, if_neg, su_ne]; exact Wf_41 hW) (by decide) (by decide) rfl, StM_set (f := 10) (i := 0) (StM_set (f := 11) (i := S 10 0) hM h4 (by decide) rfl) (by decide) (by decide) rfl, ?_, ?_⟩
      · refine Wf_up hW ?_ (fun f hf => by funext i; simp (disch := omega) only [si_e, si_ne, si_nj, sl_r, si_l, ga_n, n_cl, n_lt, n_le, n_eq, n_add, n_mul, n_sub, n_eqm, n_meq, n_mm, n_mlt, n_mle, n_ltm, Option.bind_some, if_pos, if_neg, su_ne])
        have hW0 := hW.1
        unfold WfW at hW0 ⊢
        simp (disch := omega) only [su_ne, su_e]
        obtain ⟨a1, a2, a3, a4, a5, a6, a7, a8, a9⟩ := hW0
        refine ⟨a1, a2, a3, a4, a5, a6, by omega, fun t ht => ?_, a9⟩
        rw [su_r]
        split
        · exact hp
        · exact a8 t (by show t < S 10 0; omega)
      · simp (disch := omega) only [si_e, si_ne, si_nj, sl_r, si_l, ga_n, n_cl, n_lt, n_le, n_eq, n_add, n_mul, n_sub, n_eqm, n_meq, n_mm, n_mlt, n_mle, n_ltm, Option.bind_some, if_pos, if_neg, su_ne]
        exact hL
  · rw [if_neg h2, if_neg h2]
    exact ⟨_, _, _, rfl, rfl, hI⟩
