-- ===== acts: tells, the reference's =====
def telT (p v kd : Nat) (x : Int32) : Int32 := namV p v kd kd x * 2
def telL0 (kd : Nat) : List Nat := 12 :: namL kd kd
def telV (p v kd k : Nat) (x : Int32) : Int32 := if k = 3 ∨ k = 6 then telT p v kd x + namV p v kd kd 1 else if k = 5 then telT p v kd (x - nI p) else telT p v kd x
def telL (kd k : Nat) : List Nat := if k = 3 ∨ k = 6 then 40 :: (telL0 kd ++ namL kd kd) else if k = 5 then 60 :: telL0 kd else telL0 kd
theorem plL_len (k : Nat) : (plL k).length ≤ 3 := by
  have := ptsL_len k
  show (ptsL k).length + 1 ≤ 3
  omega
theorem namL_len (kd k : Nat) : (namL kd k).length ≤ 5 := by
  have h := plL_len kd
  unfold namL
  split
  · rw [List.length_cons]
    omega
  · split
    · rw [List.length_cons, List.length_cons]
      omega
    · split
      · rw [List.length_cons, List.length_append]
        show (plL kd).length + 1 + 1 ≤ 5
        omega
      · omega
section
variable {m : Mm} {S : Sn} {ld : Nat → List Cl} {it : Nat → Nat → Int64} {p kd v : Nat}
theorem tel0_c (h : AC m S ld it p kd v) (hkd : kd < 7) (k : Nat) (hk : k = 0 ∨ k = 1 ∨ k = 2 ∨ k = 4) (x : Int32) (d n : Nat) (hd : d < 36) (hs : S 44 0 < 800) : ∃ m', Ac_tells_n (n + 1) m (nI k) x (nI d) = some (telT p v kd x, m') ∧ AC m' (bodiesS S (telL0 kd)) ld it p kd v := by
  obtain ⟨m1, e1, g1⟩ := begin_c h 12 (by omega)
  obtain ⟨m2, e2, g2⟩ := nam_c g1 hkd kd hkd x (d + 1) 5 (by omega) (by rw [bodiesS_44]; show S 44 0 + 1 < 880; omega)
  have e2' : Ac_names m1 (nI kd) x (nI (d + 1)) = some (namV p v kd kd x, m2) := e2
  have g3 := g1.2.2.1
  show ∃ m', Ac_tells_b (Ac_tells_n n) m (nI k) x (nI d) = some (telT p v kd x, m') ∧ AC m' (bodiesS S (telL0 kd)) ld it p kd v
  unfold Ac_tells_b
  rcases hk with rfl | rfl | rfl | rfl
  · simp (disch := omega) only [si_e, si_ne, si_nj, sl_r, si_l, ga_n, n_cl, n_lt, n_le, n_eq, n_add, n_mul, n_sub, n_eqm, n_meq, n_mm, n_mlt, n_mle, n_ltm, Option.bind_some, if_pos, if_neg, i_40, i_1, i_3, i_4, i_5, i_6, i_12, e1, g3, e2']
    exact ⟨_, rfl, g2⟩
  · simp (disch := omega) only [si_e, si_ne, si_nj, sl_r, si_l, ga_n, n_cl, n_lt, n_le, n_eq, n_add, n_mul, n_sub, n_eqm, n_meq, n_mm, n_mlt, n_mle, n_ltm, Option.bind_some, if_pos, if_neg, i_40, i_1, i_3, i_4, i_5, i_6, i_12, e1, g3, e2']
    exact ⟨_, rfl, g2⟩
  · simp (disch := omega) only [si_e, si_ne, si_nj, sl_r, si_l, ga_n, n_cl, n_lt, n_le, n_eq, n_add, n_mul, n_sub, n_eqm, n_meq, n_mm, n_mlt, n_mle, n_ltm, Option.bind_some, if_pos, if_neg, i_40, i_1, i_3, i_4, i_5, i_6, i_12, e1, g3, e2']
    exact ⟨_, rfl, g2⟩
  · simp (disch := omega) only [si_e, si_ne, si_nj, sl_r, si_l, ga_n, n_cl, n_lt, n_le, n_eq, n_add, n_mul, n_sub, n_eqm, n_meq, n_mm, n_mlt, n_mle, n_ltm, Option.bind_some, if_pos, if_neg, i_40, i_1, i_3, i_4, i_5, i_6, i_12, e1, g3, e2']
    exact ⟨_, rfl, g2⟩
theorem tel_c (h : AC m S ld it p kd v) (hkd : kd < 7) (k : Nat) (hk : k < 7) (x : Int32) (d n : Nat) (hd : d < 35) (hs : S 44 0 < 700) : ∃ m', Ac_tells_n (n + 2) m (nI k) x (nI d) = some (telV p v kd k x, m') ∧ AC m' (bodiesS S (telL kd k)) ld it p kd v := by
  have hk' : (k = 0 ∨ k = 1 ∨ k = 2 ∨ k = 4) ∨ k = 3 ∨ k = 5 ∨ k = 6 := by omega
  have hl := namL_len kd kd
  rcases hk' with hk' | rfl | rfl | rfl
  · have e1 : telV p v kd k x = telT p v kd x := by
      rcases hk' with rfl | rfl | rfl | rfl
      · rfl
      · rfl
      · rfl
      · rfl
    have e2 : telL kd k = telL0 kd := by
      rcases hk' with rfl | rfl | rfl | rfl
      · rfl
      · rfl
      · rfl
      · rfl
    rw [e1, e2]
    exact tel0_c h hkd k hk' x d (n + 1) (by omega) (by omega)
  · obtain ⟨m1, e1, g1⟩ := begin_c h 40 (by omega)
    obtain ⟨m2, e2, g2⟩ := tel0_c g1 hkd 0 (by omega) x (d + 1) n (by omega) (by rw [bodiesS_44]; show S 44 0 + 1 < 800; omega)
    obtain ⟨m3, e3, g3⟩ := nam_c g2 hkd kd hkd 1 (d + 1) 5 (by omega) (by rw [bodiesS_44, bodiesS_44]; show S 44 0 + 1 + ((namL kd kd).length + 1) < 880; omega)
    have e2' : Ac_tells_n (n + 1) m1 0 x (nI (d + 1)) = some (telT p v kd x, m2) := e2
    have e3' : Ac_names m2 (nI kd) (nI 1) (nI (d + 1)) = some (namV p v kd kd 1, m3) := e3
    have g4 := g2.2.2.1
    show ∃ m', Ac_tells_b (Ac_tells_n (n + 1)) m (nI 3) x (nI d) = some (telV p v kd 3 x, m') ∧ AC m' (bodiesS S (telL kd 3)) ld it p kd v
    unfold Ac_tells_b
    simp (disch := omega) only [si_e, si_ne, si_nj, sl_r, si_l, ga_n, n_cl, n_lt, n_le, n_eq, n_add, n_mul, n_sub, n_eqm, n_meq, n_mm, n_mlt, n_mle, n_ltm, Option.bind_some, if_pos, if_neg, i_40, i_1, i_3, e1, e2', e3', g4]
    refine ⟨_, rfl, ?_⟩
    have e4 : bodiesS S (telL kd 3) = bodiesS (bodiesS (bodiesS S [40]) (telL0 kd)) (namL kd kd) := bodiesS_app (telL0 kd) (namL kd kd) _
    rw [e4]
    exact g3
  · obtain ⟨m1, e1, g1⟩ := begin_c h 60 (by omega)
    obtain ⟨m2, e2, g2⟩ := tel0_c g1 hkd 2 (by omega) (x - nI p) (d + 1) n (by omega) (by rw [bodiesS_44]; show S 44 0 + 1 < 800; omega)
    have g3 := g1.2.1
    have e2' : Ac_tells_n (n + 1) m1 2 (x - nI p) (nI (d + 1)) = some (telT p v kd (x - nI p), m2) := e2
    show ∃ m', Ac_tells_b (Ac_tells_n (n + 1)) m (nI 5) x (nI d) = some (telV p v kd 5 x, m') ∧ AC m' (bodiesS S (telL kd 5)) ld it p kd v
    unfold Ac_tells_b
    simp (disch := omega) only [si_e, si_ne, si_nj, sl_r, si_l, ga_n, n_cl, n_lt, n_le, n_eq, n_add, n_mul, n_sub, n_eqm, n_meq, n_mm, n_mlt, n_mle, n_ltm, Option.bind_some, if_pos, if_neg, i_40, i_1, i_3, i_4, i_5, i_60, e1, g3, e2']
    exact ⟨_, rfl, g2⟩
  · obtain ⟨m1, e1, g1⟩ := begin_c h 40 (by omega)
    obtain ⟨m2, e2, g2⟩ := tel0_c g1 hkd 0 (by omega) x (d + 1) n (by omega) (by rw [bodiesS_44]; show S 44 0 + 1 < 800; omega)
    obtain ⟨m3, e3, g3⟩ := nam_c g2 hkd kd hkd 1 (d + 1) 5 (by omega) (by rw [bodiesS_44, bodiesS_44]; show S 44 0 + 1 + ((namL kd kd).length + 1) < 880; omega)
    have e2' : Ac_tells_n (n + 1) m1 0 x (nI (d + 1)) = some (telT p v kd x, m2) := e2
    have e3' : Ac_names m2 (nI kd) (nI 1) (nI (d + 1)) = some (namV p v kd kd 1, m3) := e3
    have g4 := g2.2.2.1
    show ∃ m', Ac_tells_b (Ac_tells_n (n + 1)) m (nI 6) x (nI d) = some (telV p v kd 6 x, m') ∧ AC m' (bodiesS S (telL kd 6)) ld it p kd v
    unfold Ac_tells_b
    simp (disch := omega) only [si_e, si_ne, si_nj, sl_r, si_l, ga_n, n_cl, n_lt, n_le, n_eq, n_add, n_mul, n_sub, n_eqm, n_meq, n_mm, n_mlt, n_mle, n_ltm, Option.bind_some, if_pos, if_neg, i_40, i_1, i_3, i_4, i_5, i_6, e1, e2', e3', g4]
    refine ⟨_, rfl, ?_⟩
    have e4 : bodiesS S (telL kd 6) = bodiesS (bodiesS (bodiesS S [40]) (telL0 kd)) (namL kd kd) := bodiesS_app (telL0 kd) (namL kd kd) _
    rw [e4]
    exact g3
end
