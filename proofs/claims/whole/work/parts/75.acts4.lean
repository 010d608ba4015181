-- ===== acts: the reference's =====
section
variable {m : Mm} {S : Sn} {ld : Nat → List Cl} {it : Nat → Nat → Int64} {p kd v : Nat}
theorem AM_k (h : AM m S ld it p kd v) : m.1 1 p = nI kd := by
  have q := rF1 h.1.1 h.2.1
  rw [h.2.2.1] at q
  exact q
theorem AM_v (h : AM m S ld it p kd v) : m.1 2 p = nI v := by
  have q := rF2 h.1.1 h.2.1
  rw [h.2.2.2] at q
  exact q
theorem pp_m (h : AM m S ld it p kd v) (x : Int32) (hs : S 44 0 < 1000) : ∃ m', Mo_placePoints m (nI p) x = some (x + nI p, m') ∧ AM m' (bodiesS S [10]) ld it p kd v := by
  obtain ⟨m1, e1, g1⟩ := body_m h 10 hs
  unfold Mo_placePoints
  simp (disch := omega) only [si_e, si_ne, si_nj, sl_r, si_l, ga_n, n_cl, n_lt, n_le, n_eq, n_add, n_mul, n_sub, n_eqm, n_meq, n_mm, n_mlt, n_mle, n_ltm, Option.bind_some, if_pos, if_neg, i_10, e1]
  exact ⟨_, rfl, g1⟩
theorem pts_m (h : AM m S ld it p kd v) (hkd : kd < 7) (x : Int32) (hs : S 44 0 < 990) : ∃ m', Mo_pointsAct m (nI p) x = some (ptsV p v kd x, m') ∧ AM m' (bodiesS S (ptsL kd)) ld it p kd v := by
  have hp := h.2.1
  have hk := AM_k h
  unfold Mo_pointsAct
  have hk' : kd = 0 ∨ kd = 1 ∨ kd = 3 ∨ kd = 2 ∨ kd = 4 ∨ kd = 5 ∨ kd = 6 := by omega
  rcases hk' with rfl | rfl | rfl | rfl | rfl | rfl | rfl
  · obtain ⟨m1, e1, g1⟩ := pp_m h x (by omega)
    simp (disch := omega) only [si_e, si_ne, si_nj, sl_r, si_l, ga_n, n_cl, n_lt, n_le, n_eq, n_add, n_mul, n_sub, n_eqm, n_meq, n_mm, n_mlt, n_mle, n_ltm, Option.bind_some, if_pos, if_neg, hk, i_2, i_3, i_4, i_5, i_6, e1]
    exact ⟨_, rfl, g1⟩
  · obtain ⟨m1, e1, g1⟩ := pp_m h x (by omega)
    simp (disch := omega) only [si_e, si_ne, si_nj, sl_r, si_l, ga_n, n_cl, n_lt, n_le, n_eq, n_add, n_mul, n_sub, n_eqm, n_meq, n_mm, n_mlt, n_mle, n_ltm, Option.bind_some, if_pos, if_neg, hk, i_2, i_3, i_4, i_5, i_6, e1]
    exact ⟨_, rfl, g1⟩
  · obtain ⟨m1, e1, g1⟩ := pp_m h x (by omega)
    simp (disch := omega) only [si_e, si_ne, si_nj, sl_r, si_l, ga_n, n_cl, n_lt, n_le, n_eq, n_add, n_mul, n_sub, n_eqm, n_meq, n_mm, n_mlt, n_mle, n_ltm, Option.bind_some, if_pos, if_neg, hk, i_2, i_3, i_4, i_5, i_6, e1]
    exact ⟨_, rfl, g1⟩
  · obtain ⟨m1, e1, g1⟩ := body_m h 30 (by omega)
    obtain ⟨m2, e2, g2⟩ := pp_m g1 (x * 3) (by rw [bodiesS_44]; show S 44 0 + 1 < 1000; omega)
    have e2' : Mo_placePoints m1 (nI p) (x * nI 3) = some (x * 3 + nI p, m2) := e2
    simp (disch := omega) only [si_e, si_ne, si_nj, sl_r, si_l, ga_n, n_cl, n_lt, n_le, n_eq, n_add, n_mul, n_sub, n_eqm, n_meq, n_mm, n_mlt, n_mle, n_ltm, Option.bind_some, if_pos, if_neg, hk, i_2, i_3, i_30, e1, e2']
    exact ⟨_, rfl, g2⟩
  · obtain ⟨m1, e1, g1⟩ := body_m h 50 (by omega)
    obtain ⟨m2, e2, g2⟩ := pp_m g1 x (by rw [bodiesS_44]; show S 44 0 + 1 < 1000; omega)
    simp (disch := omega) only [si_e, si_ne, si_nj, sl_r, si_l, ga_n, n_cl, n_lt, n_le, n_eq, n_add, n_mul, n_sub, n_eqm, n_meq, n_mm, n_mlt, n_mle, n_ltm, Option.bind_some, if_pos, if_neg, hk, i_2, i_3, i_4, i_50, e1, e2]
    exact ⟨_, rfl, g2⟩
  · obtain ⟨m1, e1, g1⟩ := body_m h 30 (by omega)
    obtain ⟨m2, e2, g2⟩ := pp_m g1 (x * 3) (by rw [bodiesS_44]; show S 44 0 + 1 < 1000; omega)
    have e2' : Mo_placePoints m1 (nI p) (x * nI 3) = some (x * 3 + nI p, m2) := e2
    simp (disch := omega) only [si_e, si_ne, si_nj, sl_r, si_l, ga_n, n_cl, n_lt, n_le, n_eq, n_add, n_mul, n_sub, n_eqm, n_meq, n_mm, n_mlt, n_mle, n_ltm, Option.bind_some, if_pos, if_neg, hk, i_2, i_3, i_4, i_5, i_30, e1, e2']
    exact ⟨_, rfl, g2⟩
  · obtain ⟨m1, e1, g1⟩ := body_m h 71 (by omega)
    obtain ⟨m2, e2, g2⟩ := pp_m g1 x (by rw [bodiesS_44]; show S 44 0 + 1 < 1000; omega)
    have hv := AM_v g2
    simp (disch := omega) only [si_e, si_ne, si_nj, sl_r, si_l, ga_n, n_cl, n_lt, n_le, n_eq, n_add, n_mul, n_sub, n_eqm, n_meq, n_mm, n_mlt, n_mle, n_ltm, Option.bind_some, if_pos, if_neg, hk, i_2, i_3, i_4, i_5, i_6, i_71, e1, e2, hv]
    exact ⟨_, rfl, g2⟩
theorem pl_m (h : AM m S ld it p kd v) (hkd : kd < 7) (x : Int32) (hs : S 44 0 < 900) : ∃ m', Mo_placeNames m (nI p) x = some (plV p v kd x, m') ∧ AM m' (bodiesS S (plL kd)) ld it p kd v := by
  have hp := h.2.1
  obtain ⟨m1, e1, g1⟩ := body_m h 11 (by omega)
  obtain ⟨m2, e2, g2⟩ := pts_m g1 hkd x (by rw [bodiesS_44]; show S 44 0 + 1 < 990; omega)
  have hv := AM_v g2
  unfold Mo_placeNames
  simp (disch := omega) only [si_e, si_ne, si_nj, sl_r, si_l, ga_n, n_cl, n_lt, n_le, n_eq, n_add, n_mul, n_sub, n_eqm, n_meq, n_mm, n_mlt, n_mle, n_ltm, Option.bind_some, if_pos, if_neg, i_11, e1, e2, hv]
  exact ⟨_, rfl, g2⟩
theorem near_m (h : AM m S ld it p kd v) (hkd : kd < 7) (x : Int32) (hs : S 44 0 < 890) : ∃ m', Mo_nearNames m (nI p) x = some (plV p v kd x ^^^ 6, m') ∧ AM m' (bodiesS S (20 :: plL kd)) ld it p kd v := by
  obtain ⟨m1, e1, g1⟩ := body_m h 20 (by omega)
  obtain ⟨m2, e2, g2⟩ := pl_m g1 hkd x (by rw [bodiesS_44]; show S 44 0 + 1 < 900; omega)
  unfold Mo_nearNames
  simp (disch := omega) only [si_e, si_ne, si_nj, sl_r, si_l, ga_n, n_cl, n_lt, n_le, n_eq, n_add, n_mul, n_sub, n_eqm, n_meq, n_mm, n_mlt, n_mle, n_ltm, Option.bind_some, if_pos, if_neg, i_20, e1, e2]
  exact ⟨_, rfl, g2⟩
theorem nam_m (h : AM m S ld it p kd v) (hkd : kd < 7) (x : Int32) (hs : S 44 0 < 880) : ∃ m', Mo_namesAct m (nI p) x = some (namV p v kd kd x, m') ∧ AM m' (bodiesS S (namL kd kd)) ld it p kd v := by
  have hp := h.2.1
  have hk := AM_k h
  unfold Mo_namesAct
  have hk' : (kd = 0 ∨ kd = 2 ∨ kd = 3 ∨ kd = 5) ∨ kd = 1 ∨ kd = 4 ∨ kd = 6 := by omega
  rcases hk' with hk' | rfl | rfl | rfl
  · obtain ⟨m1, e1, g1⟩ := pl_m h hkd x (by omega)
    rcases hk' with rfl | rfl | rfl | rfl
    · simp (disch := omega) only [si_e, si_ne, si_nj, sl_r, si_l, ga_n, n_cl, n_lt, n_le, n_eq, n_add, n_mul, n_sub, n_eqm, n_meq, n_mm, n_mlt, n_mle, n_ltm, Option.bind_some, if_pos, if_neg, hk, i_1, i_4, i_6, e1]
      exact ⟨_, rfl, g1⟩
    · simp (disch := omega) only [si_e, si_ne, si_nj, sl_r, si_l, ga_n, n_cl, n_lt, n_le, n_eq, n_add, n_mul, n_sub, n_eqm, n_meq, n_mm, n_mlt, n_mle, n_ltm, Option.bind_some, if_pos, if_neg, hk, i_1, i_4, i_6, e1]
      exact ⟨_, rfl, g1⟩
    · simp (disch := omega) only [si_e, si_ne, si_nj, sl_r, si_l, ga_n, n_cl, n_lt, n_le, n_eq, n_add, n_mul, n_sub, n_eqm, n_meq, n_mm, n_mlt, n_mle, n_ltm, Option.bind_some, if_pos, if_neg, hk, i_1, i_4, i_6, e1]
      exact ⟨_, rfl, g1⟩
    · simp (disch := omega) only [si_e, si_ne, si_nj, sl_r, si_l, ga_n, n_cl, n_lt, n_le, n_eq, n_add, n_mul, n_sub, n_eqm, n_meq, n_mm, n_mlt, n_mle, n_ltm, Option.bind_some, if_pos, if_neg, hk, i_1, i_4, i_6, e1]
      exact ⟨_, rfl, g1⟩
  · obtain ⟨m1, e1, g1⟩ := near_m h hkd x (by omega)
    simp (disch := omega) only [si_e, si_ne, si_nj, sl_r, si_l, ga_n, n_cl, n_lt, n_le, n_eq, n_add, n_mul, n_sub, n_eqm, n_meq, n_mm, n_mlt, n_mle, n_ltm, Option.bind_some, if_pos, if_neg, hk, i_1, e1]
    exact ⟨_, rfl, g1⟩
  · obtain ⟨m1, e1, g1⟩ := body_m h 51 (by omega)
    obtain ⟨m2, e2, g2⟩ := near_m g1 hkd (x + 1) (by rw [bodiesS_44]; show S 44 0 + 1 < 890; omega)
    have e2' : Mo_nearNames m1 (nI p) (x + nI 1) = some (plV p v 4 (x + 1) ^^^ 6, m2) := e2
    simp (disch := omega) only [si_e, si_ne, si_nj, sl_r, si_l, ga_n, n_cl, n_lt, n_le, n_eq, n_add, n_mul, n_sub, n_eqm, n_meq, n_mm, n_mlt, n_mle, n_ltm, Option.bind_some, if_pos, if_neg, hk, i_1, i_4, i_51, e1, e2']
    exact ⟨_, rfl, g2⟩
  · obtain ⟨m1, e1, g1⟩ := body_m h 70 (by omega)
    obtain ⟨m2, e2, g2⟩ := pl_m g1 hkd x (by rw [bodiesS_44]; show S 44 0 + 1 < 900; omega)
    obtain ⟨m3, e3, g3⟩ := pp_m g2 2 (by rw [bodiesS_44, bodiesS_44]; show S 44 0 + 1 + 3 < 1000; omega)
    simp (disch := omega) only [si_e, si_ne, si_nj, sl_r, si_l, ga_n, n_cl, n_lt, n_le, n_eq, n_add, n_mul, n_sub, n_eqm, n_meq, n_mm, n_mlt, n_mle, n_ltm, Option.bind_some, if_pos, if_neg, hk, i_1, i_4, i_6, i_70, e1, e2, e3]
    exact ⟨_, rfl, g3⟩
theorem tel0_m (h : AM m S ld it p kd v) (hkd : kd < 7) (x : Int32) (hs : S 44 0 < 800) : ∃ m', Mo_placeTells m (nI p) x = some (telT p v kd x, m') ∧ AM m' (bodiesS S (telL0 kd)) ld it p kd v := by
  obtain ⟨m1, e1, g1⟩ := body_m h 12 (by omega)
  obtain ⟨m2, e2, g2⟩ := nam_m g1 hkd x (by rw [bodiesS_44]; show S 44 0 + 1 < 880; omega)
  unfold Mo_placeTells
  simp (disch := omega) only [si_e, si_ne, si_nj, sl_r, si_l, ga_n, n_cl, n_lt, n_le, n_eq, n_add, n_mul, n_sub, n_eqm, n_meq, n_mm, n_mlt, n_mle, n_ltm, Option.bind_some, if_pos, if_neg, i_12, e1, e2]
  exact ⟨_, rfl, g2⟩
end
