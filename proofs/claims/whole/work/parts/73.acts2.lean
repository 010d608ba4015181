-- ===== acts: names =====
def plV (p v kd : Nat) (x : Int32) : Int32 := ptsV p v kd x - nI v
def plL (kd : Nat) : List Nat := 11 :: ptsL kd
def namV (p v kd k : Nat) (x : Int32) : Int32 := if k = 1 then plV p v kd x ^^^ 6 else if k = 4 then plV p v kd (x + 1) ^^^ 6 else if k = 6 then plV p v kd x + (2 + nI p) else plV p v kd x
def namL (kd k : Nat) : List Nat := if k = 1 then 20 :: plL kd else if k = 4 then 51 :: 20 :: plL kd else if k = 6 then 70 :: (plL kd ++ [10]) else plL kd
theorem ptsL_len (k : Nat) : (ptsL k).length ≤ 2 := by
  unfold ptsL
  split
  · decide
  · split
    · decide
    · split
      · decide
      · split
        · decide
        · split
          · decide
          · decide
section
variable {m : Mm} {S : Sn} {ld : Nat → List Cl} {it : Nat → Nat → Int64} {p kd v : Nat}
theorem nam0_c (h : AC m S ld it p kd v) (hkd : kd < 7) (k : Nat) (hk : k = 0 ∨ k = 2 ∨ k = 3 ∨ k = 5) (x : Int32) (d n : Nat) (hd : d < 39) (hs : S 44 0 < 900) : ∃ m', Ac_names_n (n + 1) m (nI k) x (nI d) = some (plV p v kd x, m') ∧ AC m' (bodiesS S (plL kd)) ld it p kd v := by
  obtain ⟨m1, e1, g1⟩ := begin_c h 11 (by omega)
  obtain ⟨m2, e2, g2⟩ := pts_c g1 kd hkd x (d + 1) 6 (by omega) (by rw [bodiesS_44]; show S 44 0 + 1 < 990; omega)
  have e2' : Ac_points m1 (nI kd) x (nI (d + 1)) = some (ptsV p v kd x, m2) := e2
  have g3 := g1.2.2.1
  have g4 := g2.2.2.2.1
  show ∃ m', Ac_names_b (Ac_names_n n) m (nI k) x (nI d) = some (plV p v kd x, m') ∧ AC m' (bodiesS S (plL kd)) ld it p kd v
  unfold Ac_names_b
  rcases hk with rfl | rfl | rfl | rfl
  · simp (disch := omega) only [si_e, si_ne, si_nj, sl_r, si_l, ga_n, n_cl, n_lt, n_le, n_eq, n_add, n_mul, n_sub, n_eqm, n_meq, n_mm, n_mlt, n_mle, n_ltm, Option.bind_some, if_pos, if_neg, i_40, i_1, i_4, i_6, i_11, e1, g3, e2', g4]
    exact ⟨_, rfl, g2⟩
  · simp (disch := omega) only [si_e, si_ne, si_nj, sl_r, si_l, ga_n, n_cl, n_lt, n_le, n_eq, n_add, n_mul, n_sub, n_eqm, n_meq, n_mm, n_mlt, n_mle, n_ltm, Option.bind_some, if_pos, if_neg, i_40, i_1, i_4, i_6, i_11, e1, g3, e2', g4]
    exact ⟨_, rfl, g2⟩
  · simp (disch := omega) only [si_e, si_ne, si_nj, sl_r, si_l, ga_n, n_cl, n_lt, n_le, n_eq, n_add, n_mul, n_sub, n_eqm, n_meq, n_mm, n_mlt, n_mle, n_ltm, Option.bind_some, if_pos, if_neg, i_40, i_1, i_4, i_6, i_11, e1, g3, e2', g4]
    exact ⟨_, rfl, g2⟩
  · simp (disch := omega) only [si_e, si_ne, si_nj, sl_r, si_l, ga_n, n_cl, n_lt, n_le, n_eq, n_add, n_mul, n_sub, n_eqm, n_meq, n_mm, n_mlt, n_mle, n_ltm, Option.bind_some, if_pos, if_neg, i_40, i_1, i_4, i_6, i_11, e1, g3, e2', g4]
    exact ⟨_, rfl, g2⟩
theorem nam1_c (h : AC m S ld it p kd v) (hkd : kd < 7) (x : Int32) (d n : Nat) (hd : d < 38) (hs : S 44 0 < 890) : ∃ m', Ac_names_n (n + 2) m (nI 1) x (nI d) = some (plV p v kd x ^^^ 6, m') ∧ AC m' (bodiesS S (20 :: plL kd)) ld it p kd v := by
  obtain ⟨m1, e1, g1⟩ := begin_c h 20 (by omega)
  obtain ⟨m2, e2, g2⟩ := nam0_c g1 hkd 0 (by omega) x (d + 1) n (by omega) (by rw [bodiesS_44]; show S 44 0 + 1 < 900; omega)
  have e2' : Ac_names_n (n + 1) m1 0 x (nI (d + 1)) = some (plV p v kd x, m2) := e2
  show ∃ m', Ac_names_b (Ac_names_n (n + 1)) m (nI 1) x (nI d) = some (plV p v kd x ^^^ 6, m') ∧ AC m' (bodiesS S (20 :: plL kd)) ld it p kd v
  unfold Ac_names_b
  simp (disch := omega) only [si_e, si_ne, si_nj, sl_r, si_l, ga_n, n_cl, n_lt, n_le, n_eq, n_add, n_mul, n_sub, n_eqm, n_meq, n_mm, n_mlt, n_mle, n_ltm, Option.bind_some, if_pos, if_neg, i_40, i_1, i_20, e1, e2']
  exact ⟨_, rfl, g2⟩
theorem nam_c (h : AC m S ld it p kd v) (hkd : kd < 7) (k : Nat) (hk : k < 7) (x : Int32) (d n : Nat) (hd : d < 37) (hs : S 44 0 < 880) : ∃ m', Ac_names_n (n + 3) m (nI k) x (nI d) = some (namV p v kd k x, m') ∧ AC m' (bodiesS S (namL kd k)) ld it p kd v := by
  have hk' : (k = 0 ∨ k = 2 ∨ k = 3 ∨ k = 5) ∨ k = 1 ∨ k = 4 ∨ k = 6 := by omega
  rcases hk' with hk' | rfl | rfl | rfl
  · have e1 : namV p v kd k x = plV p v kd x := by
      rcases hk' with rfl | rfl | rfl | rfl
      · rfl
      · rfl
      · rfl
      · rfl
    have e2 : namL kd k = plL kd := by
      rcases hk' with rfl | rfl | rfl | rfl
      · rfl
      · rfl
      · rfl
      · rfl
    rw [e1, e2]
    exact nam0_c h hkd k hk' x d (n + 2) (by omega) (by omega)
  · exact nam1_c h hkd x d (n + 1) (by omega) (by omega)
  · obtain ⟨m1, e1, g1⟩ := begin_c h 51 (by omega)
    obtain ⟨m2, e2, g2⟩ := nam1_c g1 hkd (x + 1) (d + 1) n (by omega) (by rw [bodiesS_44]; show S 44 0 + 1 < 890; omega)
    show ∃ m', Ac_names_b (Ac_names_n (n + 2)) m (nI 4) x (nI d) = some (namV p v kd 4 x, m') ∧ AC m' (bodiesS S (namL kd 4)) ld it p kd v
    unfold Ac_names_b
    have e2' : Ac_names_n (n + 2) m1 (nI 1) (x + nI 1) (nI (d + 1)) = some (plV p v kd (x + 1) ^^^ 6, m2) := e2
    simp (disch := omega) only [si_e, si_ne, si_nj, sl_r, si_l, ga_n, n_cl, n_lt, n_le, n_eq, n_add, n_mul, n_sub, n_eqm, n_meq, n_mm, n_mlt, n_mle, n_ltm, Option.bind_some, if_pos, if_neg, i_40, i_1, i_4, i_51, e1, e2']
    exact ⟨_, rfl, g2⟩
  · obtain ⟨m1, e1, g1⟩ := begin_c h 70 (by omega)
    obtain ⟨m2, e2, g2⟩ := nam0_c g1 hkd 3 (by omega) x (d + 1) (n + 1) (by omega) (by rw [bodiesS_44]; show S 44 0 + 1 < 900; omega)
    have hl := ptsL_len kd
    obtain ⟨m3, e3, g3⟩ := pts0_c g2 3 (by omega) 2 (d + 1) 7 (by omega) (by rw [bodiesS_44, bodiesS_44]; show S 44 0 + 1 + ((ptsL kd).length + 1) < 1000; omega)
    have e3' : Ac_points m2 (nI 3) 2 (nI (d + 1)) = some (2 + nI p, m3) := e3
    show ∃ m', Ac_names_b (Ac_names_n (n + 2)) m (nI 6) x (nI d) = some (namV p v kd 6 x, m') ∧ AC m' (bodiesS S (namL kd 6)) ld it p kd v
    unfold Ac_names_b
    simp (disch := omega) only [si_e, si_ne, si_nj, sl_r, si_l, ga_n, n_cl, n_lt, n_le, n_eq, n_add, n_mul, n_sub, n_eqm, n_meq, n_mm, n_mlt, n_mle, n_ltm, Option.bind_some, if_pos, if_neg, i_40, i_1, i_4, i_6, i_70, i_3, e1, e2, e3']
    refine ⟨_, rfl, ?_⟩
    have e4 : bodiesS S (namL kd 6) = bodiesS (bodiesS (bodiesS S [70]) (plL kd)) [10] := by
      show bodiesS S (70 :: (plL kd ++ [10])) = _
      exact bodiesS_app (plL kd) [10] _
    rw [e4]
    exact g3
end
