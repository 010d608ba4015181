-- ===== acts =====
def bodyS (S : Sn) (b : Nat) : Sn := su (if S 44 0 < 20 then su S 45 (S 44 0) b else S) 44 0 (S 44 0 + 1)
def bodiesS (S : Sn) : List Nat → Sn
  | [] => S
  | b :: l => bodiesS (bodyS S b) l
theorem bodiesS_app (l1 l2 : List Nat) : ∀ S, bodiesS S (l1 ++ l2) = bodiesS (bodiesS S l1) l2 := by
  induction l1 with
  | nil => intro S; rfl
  | cons b l ih => intro S; exact ih (bodyS S b)
theorem bodyS_ne {S : Sn} {b f i : Nat} (h : f ≠ 44) (h' : f ≠ 45) : bodyS S b f i = S f i := by
  unfold bodyS
  rw [su_ne h]
  split
  · rw [su_ne h']
  · rfl
theorem bodyS_44 {S : Sn} {b : Nat} : bodyS S b 44 0 = S 44 0 + 1 := su_e rfl rfl
theorem bodiesS_ne {f i : Nat} (h : f ≠ 44) (h' : f ≠ 45) : ∀ (l : List Nat) (S : Sn), bodiesS S l f i = S f i
  | [], _ => rfl
  | _ :: l, S => (bodiesS_ne h h' l _).trans (bodyS_ne h h')
theorem bodiesS_44 : ∀ (l : List Nat) (S : Sn), bodiesS S l 44 0 = S 44 0 + l.length
  | [], _ => rfl
  | b :: l, S => by
    show bodiesS (bodyS S b) l 44 0 = S 44 0 + (l.length + 1)
    rw [bodiesS_44 l, bodyS_44]
    omega
def AC (m : Mm) (S : Sn) (ld : Nat → List Cl) (it : Nat → Nat → Int64) (p kd v : Nat) : Prop := StC m S ld it ∧ m.1 74 2 = nI p ∧ m.1 74 3 = nI kd ∧ m.1 74 4 = nI v ∧ S 41 0 ≤ 6
def AM (m : Mm) (S : Sn) (ld : Nat → List Cl) (it : Nat → Nat → Int64) (p kd v : Nat) : Prop := StM m S ld it ∧ p < 7 ∧ S 1 p = kd ∧ S 2 p = v
section
variable {m : Mm} {S : Sn} {ld : Nat → List Cl} {it : Nat → Nat → Int64} {p kd v : Nat}
theorem begin_c (h : AC m S ld it p kd v) (b : Nat) (hs : S 44 0 < 1000) : ∃ m', Ac_begin m (nI b) = some m' ∧ AC m' (bodiesS S [b]) ld it p kd v := by
  obtain ⟨h1, h2, h3, h4, h5⟩ := h
  have q := cF44 h1.1
  unfold Ac_begin jn
  by_cases e : S 44 0 < 20
  · simp (disch := omega) only [si_e, si_ne, si_nj, sl_r, si_l, ga_n, n_cl, n_lt, n_le, n_eq, n_add, n_mul, n_sub, n_eqm, n_meq, n_mm, n_mlt, n_mle, n_ltm, Option.bind_some, if_pos, if_neg, q, i_20, i_1]
    refine ⟨_, rfl, ?_, ?_, ?_, ?_, ?_⟩
    · show StC _ (bodyS S b) ld it
      unfold bodyS
      rw [if_pos e]
      exact StC_set (f := 44) (i := 0) (StC_set (f := 45) (i := S 44 0) h1 h5 e (by decide) rfl) (by simp (disch := omega) only [si_e, si_ne, si_nj, sl_r, si_l, ga_n, n_cl, n_lt, n_le, n_eq, n_add, n_mul, n_sub, n_eqm, n_meq, n_mm, n_mlt, n_mle, n_ltm, Option.bind_some, if_pos, if_neg, su_ne]; exact h5) (by decide) (by decide) rfl
    · simp (disch := omega) only [si_e, si_ne, si_nj, sl_r, si_l, ga_n, n_cl, n_lt, n_le, n_eq, n_add, n_mul, n_sub, n_eqm, n_meq, n_mm, n_mlt, n_mle, n_ltm, Option.bind_some, if_pos, if_neg, h2]
    · simp (disch := omega) only [si_e, si_ne, si_nj, sl_r, si_l, ga_n, n_cl, n_lt, n_le, n_eq, n_add, n_mul, n_sub, n_eqm, n_meq, n_mm, n_mlt, n_mle, n_ltm, Option.bind_some, if_pos, if_neg, h3]
    · simp (disch := omega) only [si_e, si_ne, si_nj, sl_r, si_l, ga_n, n_cl, n_lt, n_le, n_eq, n_add, n_mul, n_sub, n_eqm, n_meq, n_mm, n_mlt, n_mle, n_ltm, Option.bind_some, if_pos, if_neg, h4]
    · show bodyS S b 41 0 ≤ 6
      rw [bodyS_ne (by omega) (by omega)]
      exact h5
  · simp (disch := omega) only [si_e, si_ne, si_nj, sl_r, si_l, ga_n, n_cl, n_lt, n_le, n_eq, n_add, n_mul, n_sub, n_eqm, n_meq, n_mm, n_mlt, n_mle, n_ltm, Option.bind_some, if_pos, if_neg, q, i_20, i_1]
    refine ⟨_, rfl, ?_, ?_, ?_, ?_, ?_⟩
    · show StC _ (bodyS S b) ld it
      unfold bodyS
      rw [if_neg e]
      exact StC_set (f := 44) (i := 0) h1 h5 (by decide) (by decide) rfl
    · simp (disch := omega) only [si_e, si_ne, si_nj, sl_r, si_l, ga_n, n_cl, n_lt, n_le, n_eq, n_add, n_mul, n_sub, n_eqm, n_meq, n_mm, n_mlt, n_mle, n_ltm, Option.bind_some, if_pos, if_neg, h2]
    · simp (disch := omega) only [si_e, si_ne, si_nj, sl_r, si_l, ga_n, n_cl, n_lt, n_le, n_eq, n_add, n_mul, n_sub, n_eqm, n_meq, n_mm, n_mlt, n_mle, n_ltm, Option.bind_some, if_pos, if_neg, h3]
    · simp (disch := omega) only [si_e, si_ne, si_nj, sl_r, si_l, ga_n, n_cl, n_lt, n_le, n_eq, n_add, n_mul, n_sub, n_eqm, n_meq, n_mm, n_mlt, n_mle, n_ltm, Option.bind_some, if_pos, if_neg, h4]
    · show bodyS S b 41 0 ≤ 6
      rw [bodyS_ne (by omega) (by omega)]
      exact h5
theorem body_m (h : AM m S ld it p kd v) (b : Nat) (hs : S 44 0 < 1000) : ∃ m', Mo_body m (nI b) = some m' ∧ AM m' (bodiesS S [b]) ld it p kd v := by
  obtain ⟨h1, h2, h3, h4⟩ := h
  have q := rF44 h1.1
  have k3 : bodiesS S [b] 1 p = kd := (bodyS_ne (by omega) (by omega)).trans h3
  have k4 : bodiesS S [b] 2 p = v := (bodyS_ne (by omega) (by omega)).trans h4
  unfold Mo_body jn
  by_cases e : S 44 0 < 20
  · simp (disch := omega) only [si_e, si_ne, si_nj, sl_r, si_l, ga_n, n_cl, n_lt, n_le, n_eq, n_add, n_mul, n_sub, n_eqm, n_meq, n_mm, n_mlt, n_mle, n_ltm, Option.bind_some, if_pos, if_neg, q, i_20, i_1]
    refine ⟨_, rfl, ?_, h2, k3, k4⟩
    show StM _ (bodyS S b) ld it
    unfold bodyS
    rw [if_pos e]
    exact StM_set (f := 44) (i := 0) (StM_set (f := 45) (i := S 44 0) h1 e (by decide) rfl) (by decide) (by decide) rfl
  · simp (disch := omega) only [si_e, si_ne, si_nj, sl_r, si_l, ga_n, n_cl, n_lt, n_le, n_eq, n_add, n_mul, n_sub, n_eqm, n_meq, n_mm, n_mlt, n_mle, n_ltm, Option.bind_some, if_pos, if_neg, q, i_20, i_1]
    refine ⟨_, rfl, ?_, h2, k3, k4⟩
    show StM _ (bodyS S b) ld it
    unfold bodyS
    rw [if_neg e]
    exact StM_set (f := 44) (i := 0) h1 (by decide) (by decide) rfl
end
def ptsV (p v k : Nat) (x : Int32) : Int32 := if k = 2 then x * 3 + nI p else if k = 3 then x + nI p else if k = 4 then -(x + nI p) else if k = 5 then x * 3 + nI p else if k = 6 then (x + nI p) ^^^ nI v else x + nI p
def ptsL (k : Nat) : List Nat := if k = 2 then [30, 10] else if k = 3 then [10] else if k = 4 then [50, 10] else if k = 5 then [30, 10] else if k = 6 then [71, 10] else [10]
section
variable {m : Mm} {S : Sn} {ld : Nat → List Cl} {it : Nat → Nat → Int64} {p kd v : Nat}
theorem pts0_c (h : AC m S ld it p kd v) (k : Nat) (hk : k = 0 ∨ k = 1 ∨ k = 3) (x : Int32) (d n : Nat) (hd : d ≤ 40) (hs : S 44 0 < 1000) : ∃ m', Ac_points_n (n + 1) m (nI k) x (nI d) = some (x + nI p, m') ∧ AC m' (bodiesS S [10]) ld it p kd v := by
  obtain ⟨m1, e1, g1⟩ := begin_c h 10 hs
  have g2 := g1.2.1
  show ∃ m', Ac_points_b (Ac_points_n n) m (nI k) x (nI d) = some (x + nI p, m') ∧ AC m' (bodiesS S [10]) ld it p kd v
  unfold Ac_points_b
  rcases hk with rfl | rfl | rfl
  · simp (disch := omega) only [si_e, si_ne, si_nj, sl_r, si_l, ga_n, n_cl, n_lt, n_le, n_eq, n_add, n_mul, n_sub, n_eqm, n_meq, n_mm, n_mlt, n_mle, n_ltm, Option.bind_some, if_pos, if_neg, i_40, i_2, i_3, i_4, i_5, i_6, i_10, e1, g2]
    exact ⟨_, rfl, g1⟩
  · simp (disch := omega) only [si_e, si_ne, si_nj, sl_r, si_l, ga_n, n_cl, n_lt, n_le, n_eq, n_add, n_mul, n_sub, n_eqm, n_meq, n_mm, n_mlt, n_mle, n_ltm, Option.bind_some, if_pos, if_neg, i_40, i_2, i_3, i_4, i_5, i_6, i_10, e1, g2]
    exact ⟨_, rfl, g1⟩
  · simp (disch := omega) only [si_e, si_ne, si_nj, sl_r, si_l, ga_n, n_cl, n_lt, n_le, n_eq, n_add, n_mul, n_sub, n_eqm, n_meq, n_mm, n_mlt, n_mle, n_ltm, Option.bind_some, if_pos, if_neg, i_40, i_2, i_3, i_4, i_5, i_6, i_10, e1, g2]
    exact ⟨_, rfl, g1⟩
theorem pts_c (h : AC m S ld it p kd v) (k : Nat) (hk : k < 7) (x : Int32) (d n : Nat) (hd : d < 40) (hs : S 44 0 < 990) : ∃ m', Ac_points_n (n + 2) m (nI k) x (nI d) = some (ptsV p v k x, m') ∧ AC m' (bodiesS S (ptsL k)) ld it p kd v := by
  have hk' : (k = 0 ∨ k = 1 ∨ k = 3) ∨ k = 2 ∨ k = 4 ∨ k = 5 ∨ k = 6 := by omega
  rcases hk' with hk' | rfl | rfl | rfl | rfl
  · have e1 : ptsV p v k x = x + nI p := by
      rcases hk' with rfl | rfl | rfl
      · rfl
      · rfl
      · rfl
    have e2 : ptsL k = [10] := by
      rcases hk' with rfl | rfl | rfl
      · rfl
      · rfl
      · rfl
    rw [e1, e2]
    exact pts0_c h k hk' x d (n + 1) (by omega) (by omega)
  · obtain ⟨m1, e1, g1⟩ := begin_c h 30 (by omega)
    obtain ⟨m2, e2, g2⟩ := pts0_c g1 0 (by omega) (x * 3) (d + 1) n (by omega) (by rw [bodiesS_44]; show S 44 0 + 1 < 1000; omega)
    show ∃ m', Ac_points_b (Ac_points_n (n + 1)) m (nI 2) x (nI d) = some (ptsV p v 2 x, m') ∧ AC m' (bodiesS S (ptsL 2)) ld it p kd v
    unfold Ac_points_b
    have e2' : Ac_points_n (n + 1) m1 0 (x * 3) (nI (d + 1)) = some (x * 3 + nI p, m2) := e2
    simp (disch := omega) only [si_e, si_ne, si_nj, sl_r, si_l, ga_n, n_cl, n_lt, n_le, n_eq, n_add, n_mul, n_sub, n_eqm, n_meq, n_mm, n_mlt, n_mle, n_ltm, Option.bind_some, if_pos, if_neg, i_40, i_2, i_1, i_30, e1, e2']
    exact ⟨_, rfl, g2⟩
  · obtain ⟨m1, e1, g1⟩ := begin_c h 50 (by omega)
    obtain ⟨m2, e2, g2⟩ := pts0_c g1 1 (by omega) x (d + 1) n (by omega) (by rw [bodiesS_44]; show S 44 0 + 1 < 1000; omega)
    show ∃ m', Ac_points_b (Ac_points_n (n + 1)) m (nI 4) x (nI d) = some (ptsV p v 4 x, m') ∧ AC m' (bodiesS S (ptsL 4)) ld it p kd v
    unfold Ac_points_b
    simp (disch := omega) only [si_e, si_ne, si_nj, sl_r, si_l, ga_n, n_cl, n_lt, n_le, n_eq, n_add, n_mul, n_sub, n_eqm, n_meq, n_mm, n_mlt, n_mle, n_ltm, Option.bind_some, if_pos, if_neg, i_40, i_2, i_3, i_4, i_1, i_50, e1, e2]
    exact ⟨_, rfl, g2⟩
  · obtain ⟨m1, e1, g1⟩ := begin_c h 30 (by omega)
    obtain ⟨m2, e2, g2⟩ := pts0_c g1 0 (by omega) (x * 3) (d + 1) n (by omega) (by rw [bodiesS_44]; show S 44 0 + 1 < 1000; omega)
    show ∃ m', Ac_points_b (Ac_points_n (n + 1)) m (nI 5) x (nI d) = some (ptsV p v 5 x, m') ∧ AC m' (bodiesS S (ptsL 5)) ld it p kd v
    unfold Ac_points_b
    have e2' : Ac_points_n (n + 1) m1 0 (x * 3) (nI (d + 1)) = some (x * 3 + nI p, m2) := e2
    simp (disch := omega) only [si_e, si_ne, si_nj, sl_r, si_l, ga_n, n_cl, n_lt, n_le, n_eq, n_add, n_mul, n_sub, n_eqm, n_meq, n_mm, n_mlt, n_mle, n_ltm, Option.bind_some, if_pos, if_neg, i_40, i_2, i_3, i_4, i_5, i_1, i_30, e1]
    rw [show nI 3 = 3 from rfl, e2']
    exact ⟨_, rfl, g2⟩
  · obtain ⟨m1, e1, g1⟩ := begin_c h 71 (by omega)
    obtain ⟨m2, e2, g2⟩ := pts0_c g1 3 (by omega) x (d + 1) n (by omega) (by rw [bodiesS_44]; show S 44 0 + 1 < 1000; omega)
    have g3 := g2.2.2.2.1
    show ∃ m', Ac_points_b (Ac_points_n (n + 1)) m (nI 6) x (nI d) = some (ptsV p v 6 x, m') ∧ AC m' (bodiesS S (ptsL 6)) ld it p kd v
    unfold Ac_points_b
    simp (disch := omega) only [si_e, si_ne, si_nj, sl_r, si_l, ga_n, n_cl, n_lt, n_le, n_eq, n_add, n_mul, n_sub, n_eqm, n_meq, n_mm, n_mlt, n_mle, n_ltm, Option.bind_some, if_pos, if_neg, i_40, i_2, i_3, i_4, i_5, i_6, i_1, i_71, e1, e2, g3]
    exact ⟨_, rfl, g2⟩
end
