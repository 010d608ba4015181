-- ===== road, traveller, feed, taken =====
theorem NB_index_n {a b : Nat} (i : Nat) (h : i = a * 7 + b) : NB_index (nI a) (nI b) = nI i := by
  unfold NB_index
  rw [i_7, n_mul, n_add, h]
theorem ix7 {x y p o : Nat} (hy : y < 7) (ho : o < 7) : (7 * x + y = 7 * p + o) = (x = p ∧ y = o) := by
  apply propext
  omega
theorem H2 : lwH2 Inv := by
  intro m1 m2 a1 a2 a3 hI
  obtain ⟨S, ld, it, hC, hM, hW, hL⟩ := id hI
  have b0 := Wf_0 hW
  unfold NB_road Mo_road Wo_setMiles
  rw [Wo_has_eq (cF0 hC.1) (by omega), Wo_has_eq (cF0 hC.1) (by omega), Mo_arePlaces_eq (rF0 hM.1) (by omega), in99]
  cases e1 : inR a1 (S 0 0) with
  | false => exact ⟨-1, m1, m2, rfl, rfl, hI⟩
  | true =>
  cases e2 : inR a2 (S 0 0) with
  | false => exact ⟨-1, m1, m2, rfl, rfl, hI⟩
  | true =>
  obtain ⟨p, hp, rfl⟩ := inR_ex e1 (by omega)
  obtain ⟨o, ho, rfl⟩ := inR_ex e2 (by omega)
  by_cases e3 : p = o
  · subst e3
    exact ⟨-2, m1, m2, by rw [if_pos rfl, if_pos rfl, if_pos rfl], by rw [Bool.and_self, if_pos rfl, if_pos rfl], hI⟩
  have e4 : ¬ nI p = nI o := by rw [n_eq (by omega) (by omega)]; exact e3
  simp only [Bool.and_self, e4, ↓reduceIte]
  rcases arg3 a3 100 (by omega) with ⟨g1, h2⟩ | ⟨g1, h2, h3⟩ | ⟨q, g1, rfl, h3⟩
  · exact ⟨-2, m1, m2, by rw [if_pos g1], by rw [h2]; rfl, hI⟩
  · exact ⟨-2, m1, m2, by rw [if_neg h2, i_99, if_neg (n_nle g1 (by omega))], by rw [h3]; rfl, hI⟩
  rw [if_neg (nI_pos (by omega)), i_99, if_pos (by rw [n_le (by omega) (by omega)]; omega), h3, if_pos rfl]
  rw [NB_index_n (7 * p + o) (by omega), NB_index_n (7 * o + p) (by omega)]
  simp (disch := omega) only [si_e, si_ne, si_nj, sl_r, si_l, ga_n, n_cl, n_lt, n_le, n_eq, n_add, n_mul, n_sub, n_eqm, n_meq, n_mm, n_mlt, n_mle, n_ltm, Option.bind_some, if_pos, if_neg, i_7]
  have x1 : 7 * p + o < 49 := by omega
  have x2 : 7 * o + p < 49 := by omega
  have q1 : m1.1 (11 + 4) (7 * p + o) = nI (S 4 (7 * p + o)) := cF4 hC.1 x1
  have q2 : m2.1 5 (7 * p + o) = nI (S 4 (7 * p + o)) := rF4 hM.1 x1
  rw [q1, q2]
  refine ⟨_, _, _, rfl, rfl, su (su S 4 (7 * p + o) q) 4 (7 * o + p) q, ld, it, StC_set (f := 4) (i := 7 * o + p) (StC_set (f := 4) (i := 7 * p + o) hC (Wf_41 hW) x1 (by decide) rfl) (by simp (disch := omega) only [si_e, si_ne, si_nj, sl_r, si_l, ga_n, n_cl, n_lt, n_le, n_eq, n_add, n_mul, n_sub, n_eqm, n_meq, n_mm, n_mlt, n_mle, n_ltm, Option.bind_some, if_pos, if_neg, su_ne]; exact Wf_41 hW) x2 (by decide) rfl, StM_set (f := 4) (i := 7 * o + p) (StM_set (f := 4) (i := 7 * p + o) hM x1 (by decide) rfl) x2 (by decide) rfl, ?_, ?_⟩
  · refine Wf_up hW ?_ (fun f hf => by funext i; simp (disch := omega) only [si_e, si_ne, si_nj, sl_r, si_l, ga_n, n_cl, n_lt, n_le, n_eq, n_add, n_mul, n_sub, n_eqm, n_meq, n_mm, n_mlt, n_mle, n_ltm, Option.bind_some, if_pos, if_neg, su_ne])
    have hW0 := hW.1
    unfold WfW at hW0 ⊢
    simp (disch := omega) only [su_ne, su_e]
    obtain ⟨a1, a2, a3, a4, a5, a6, a7, a8, a9⟩ := hW0
    refine ⟨a1, a2, fun x y hx hy => ?_, a4, a5, a6, a7, a8, a9⟩
    have hz : S (0 + 0) 0 = S 0 0 := rfl
    obtain ⟨c1, c2, c3, c4⟩ := a3 x y hx hy
    simp (disch := omega) only [su_r, ix7, true_and]
    refine ⟨?_, ?_, ?_, ?_⟩
    · split
      · omega
      · split
        · omega
        · exact c1
    · split
      · split
        · rfl
        · split
          · rfl
          · omega
      · split
        · split
          · rfl
          · omega
        · split
          · omega
          · split
            · omega
            · exact c2
    · split
      · omega
      · split
        · omega
        · exact c3
    · intro hn
      split
      · omega
      · split
        · omega
        · exact c4 hn
  · simp (disch := omega) only [si_e, si_ne, si_nj, sl_r, si_l, ga_n, n_cl, n_lt, n_le, n_eq, n_add, n_mul, n_sub, n_eqm, n_meq, n_mm, n_mlt, n_mle, n_ltm, Option.bind_some, if_pos, if_neg, su_ne]
    exact hL
theorem H6 : lwH6 Inv := by
  intro m1 m2 a1 a2 a3 hI
  obtain ⟨S, ld, it, hC, hM, hW, hL⟩ := id hI
  have b0 := Wf_0 hW
  have b6 := Wf_6 hW
  unfold NB_traveller Mo_traveller Wo_addTraveller
  rw [Wo_has_eq (cF0 hC.1) (by omega), Wo_has_eq (cF0 hC.1) (by omega), Mo_arePlaces_eq (rF0 hM.1) (by omega)]
  cases e1 : inR a1 (S 0 0) with
  | false => exact ⟨-1, m1, m2, rfl, rfl, hI⟩
  | true =>
  cases e2 : inR a2 (S 0 0) with
  | false => exact ⟨-1, m1, m2, rfl, rfl, hI⟩
  | true =>
  obtain ⟨p, hp, rfl⟩ := inR_ex e1 (by omega)
  obtain ⟨o, ho, rfl⟩ := inR_ex e2 (by omega)
  by_cases e3 : p = o
  · subst e3
    exact ⟨-2, m1, m2, by rw [if_pos rfl, if_pos rfl, if_pos rfl], by rw [Bool.and_self, if_pos rfl, if_pos rfl], hI⟩
  have e4 : ¬ nI p = nI o := by rw [n_eq (by omega) (by omega)]; exact e3
  simp only [Bool.and_self, e4, ↓reduceIte]
  have hin : Mo_in a3 1 99 = decide (1 ≤ a3.toInt ∧ a3.toInt ≤ 99) := Mo_in_eq a3 1 99
  rw [hin]
  by_cases g1 : a3 < 1
  · have g2 := Int32.lt_iff_toInt_lt.mp g1
    have g3 : (1 : Int32).toInt = 1 := rfl
    rw [g3] at g2
    exact ⟨-2, m1, m2, by rw [if_pos g1], by rw [decide_eq_false (by omega)]; rfl, hI⟩
  by_cases g4 : a3 ≤ 99
  · have g2 : ¬ a3.toInt < (1 : Int32).toInt := fun h => g1 (Int32.lt_iff_toInt_lt.mpr h)
    have g3 : (1 : Int32).toInt = 1 := rfl
    rw [g3] at g2
    have g5 := Int32.le_iff_toInt_le.mp g4
    have g6 : (99 : Int32).toInt = 99 := rfl
    rw [g6] at g5
    obtain ⟨q, hq, rfl⟩ := inR_ex (a := a3) (n := 100) (decide_eq_true (by omega)) (by omega)
    rw [if_neg g1, if_pos g4, decide_eq_true (by omega), if_pos rfl]
    rw [cF6 hC.1, rF6 hM.1]
    by_cases hf : S 6 0 = 8
    · rw [if_neg (by rw [i_8, n_lt (by omega) (by omega)]; omega), if_pos (by rw [hf]; rfl)]
      exact ⟨_, _, _, rfl, rfl, hI⟩
    have hn : S 6 0 < 8 := by omega
    simp (disch := omega) only [si_e, si_ne, si_nj, sl_r, si_l, ga_n, n_cl, n_lt, n_le, n_eq, n_add, n_mul, n_sub, n_eqm, n_meq, n_mm, n_mlt, n_mle, n_ltm, Option.bind_some, if_pos, if_neg, i_8, i_1, cF6 hC.1, rF6 hM.1]
    have e9 : nI (S 6 0 + 1) - nI 1 = nI (S 6 0) := by rw [n_sub (by omega)]; rfl
    refine ⟨_, _, _, rfl, rfl, su (su (su (su S 7 (S 6 0) p) 8 (S 6 0) o) 9 (S 6 0) q) 6 0 (S 6 0 + 1), ld, it, StC_set (f := 6) (i := 0) (StC_set (f := 9) (i := S 6 0) (StC_set (f := 8) (i := S 6 0) (StC_set (f := 7) (i := S 6 0) hC (Wf_41 hW) hn (by decide) rfl) (by simp (disch := omega) only [si_e, si_ne, si_nj, sl_r, si_l, ga_n, n_cl, n_lt, n_le, n_eq, n_add, n_mul, n_sub, n_eqm, n_meq, n_mm, n_mlt, n_mle, n_ltm, Option.bind_some, if_pos, if_neg, su_ne]; exact Wf_41 hW) hn (by decide) rfl) (by simp (disch := omega) only [si_e, si_ne, si_nj, sl_r, si_l, ga_n, n_cl, n_lt, n_le, n_eq, n_add, n_mul, n_sub, n_eqm, n_meq, n_mm, n_mlt, n_mle, n_ltm, Option.bind_some, if_pos, if_neg, su_ne]; exact Wf_41 hW) hn (by decide) rfl) (by simp (disch := omega) only [si_e, si_ne, si_nj, sl_r, si_l, ga_n, n_cl, n_lt, n_le, n_eq, n_add, n_mul, n_sub, n_eqm, n_meq, n_mm, n_mlt, n_mle, n_ltm, Option.bind_some, if_pos, if_neg, su_ne]; exact Wf_41 hW) (by decide) (by decide) rfl, StM_set (f := 6) (i := 0) (StM_set (f := 9) (i := S 6 0) (StM_set (f := 8) (i := S 6 0) (StM_set (f := 7) (i := S 6 0) hM hn (by decide) rfl) hn (by decide) rfl) hn (by decide) rfl) (by decide) (by decide) rfl, ?_, ?_⟩
    · refine Wf_up hW ?_ (fun f hf => by funext i; simp (disch := omega) only [si_e, si_ne, si_nj, sl_r, si_l, ga_n, n_cl, n_lt, n_le, n_eq, n_add, n_mul, n_sub, n_eqm, n_meq, n_mm, n_mlt, n_mle, n_ltm, Option.bind_some, if_pos, if_neg, su_ne])
      have hW0 := hW.1
      unfold WfW at hW0 ⊢
      simp (disch := omega) only [su_ne, su_e]
      obtain ⟨a1, a2, a3, a4, a5, a6, a7, a8, a9⟩ := hW0
      refine ⟨a1, a2, a3, a4, by omega, fun t ht => ?_, a7, a8, a9⟩
      by_cases e : t = S 6 0
      · subst e
        simp (disch := omega) only [su_ne, su_e]
        exact ⟨hp, ho, by omega⟩
      · simp (disch := omega) only [su_ne, su_nj]
        exact a6 t (by show t < S 6 0; omega)
    · simp (disch := omega) only [si_e, si_ne, si_nj, sl_r, si_l, ga_n, n_cl, n_lt, n_le, n_eq, n_add, n_mul, n_sub, n_eqm, n_meq, n_mm, n_mlt, n_mle, n_ltm, Option.bind_some, if_pos, if_neg, su_ne]
      exact hL
  · have g5 : ¬ a3.toInt ≤ (99 : Int32).toInt := fun h => g4 (Int32.le_iff_toInt_le.mpr h)
    have g6 : (99 : Int32).toInt = 99 := rfl
    rw [g6] at g5
    exact ⟨-2, m1, m2, by rw [if_neg g1, if_neg g4], by rw [decide_eq_false (by omega)]; rfl, hI⟩
theorem nar_char {k : Nat} (h : k < 128) : vp_nar .char ((nI k).toUInt32 % 65536).toInt32 = nI k := by
  have H : ∀ k : Fin 128, vp_nar .char ((nI k.val).toUInt32 % 65536).toInt32 = nI k.val := by decide +kernel
  exact H ⟨k, h⟩
theorem H7 : lwH7 Inv := by
  intro m1 m2 a1 hI
  obtain ⟨S, ld, it, hC, hM, hW, hL⟩ := id hI
  have b := Wf_43 hW
  unfold NB_feed Mo_feed Re_addSign
  rw [in127, cF43 hC.1, rF43 hM.1]
  rcases arg3 a1 128 (by omega) with ⟨g1, h2⟩ | ⟨g1, h2, h3⟩ | ⟨q, g1, rfl, h3⟩
  · exact ⟨-2, m1, m2, by rw [if_pos g1], by rw [h2]; rfl, hI⟩
  · exact ⟨-2, m1, m2, by rw [if_neg h2, i_127, if_neg (n_nle g1 (by omega))], by rw [h3]; rfl, hI⟩
  rw [if_neg (nI_pos (by omega)), i_127, if_pos (by rw [n_le (by omega) (by omega)]; omega), h3, if_pos rfl, nar_char g1, i_100]
  by_cases hf : S 43 0 = 100
  · rw [if_neg (by rw [n_lt (by omega) (by omega)]; omega), if_pos (by rw [hf])]
    exact ⟨_, _, _, rfl, rfl, hI⟩
  have hn : S 43 0 < 100 := by omega
  simp (disch := omega) only [si_e, si_ne, si_nj, sl_r, si_l, ga_n, n_cl, n_lt, n_le, n_eq, n_add, n_mul, n_sub, n_eqm, n_meq, n_mm, n_mlt, n_mle, n_ltm, Option.bind_some, if_pos, if_neg, i_1, cF43 hC.1, rF43 hM.1]
  refine ⟨_, _, _, rfl, rfl, su (su S 42 (S 43 0) q) 43 0 (S 43 0 + 1), ld, it, StC_set (f := 43) (i := 0) (StC_set (f := 42) (i := S 43 0) hC (Wf_41 hW) hn (by decide) rfl) (by simp (disch := omega) only [si_e, si_ne, si_nj, sl_r, si_l, ga_n, n_cl, n_lt, n_le, n_eq, n_add, n_mul, n_sub, n_eqm, n_meq, n_mm, n_mlt, n_mle, n_ltm, Option.bind_some, if_pos, if_neg, su_ne]; exact Wf_41 hW) (by decide) (by decide) rfl, StM_set (f := 43) (i := 0) (StM_set (f := 42) (i := S 43 0) hM hn (by decide) rfl) (by decide) (by decide) rfl, ?_, ?_⟩
  · obtain ⟨a0, a1, a2, a3, a4, a5, a6, a7, a8⟩ := hW
    unfold WfW at a0 a1
    unfold Wf WfW
    simp (disch := omega) only [su_ne, su_e]
    refine ⟨a0, a1, a2, a3, fun i hi => ?_, by omega, a6, a7, a8⟩
    rw [su_r]
    split
    · omega
    · exact a4 i hi
  · simp (disch := omega) only [si_e, si_ne, si_nj, sl_r, si_l, ga_n, n_cl, n_lt, n_le, n_eq, n_add, n_mul, n_sub, n_eqm, n_meq, n_mm, n_mlt, n_mle, n_ltm, Option.bind_some, if_pos, if_neg, su_ne]
    exact hL
