-- ===== tape, shift =====
theorem ofn (n : Nat) : Int32.ofNat n = nI n := rfl
theorem JA_fill_eq (m : Mm) {n : Nat} (arr : Nat) (v : Int64) (hn : n < 2 ^ 30) : ∃ m', JA_fill m n arr v = some m' ∧ m'.1 = m.1 ∧ ∀ a b, m'.2.1 a b = if a = arr ∧ b < n then v else m.2.1 a b := by
  unfold JA_fill
  obtain ⟨m', h1, h2, h3⟩ := iter_for (step := JA_fill_l6 n arr v) (fun i s => s.1 = nI i ∧ s.2.1 = m.1 ∧ ∀ a b, s.2.2.1 a b = if a = arr ∧ b < i then v else m.2.1 a b) n (fun e => e.1 = m.1 ∧ ∀ a b, e.2.1 a b = if a = arr ∧ b < n then v else m.2.1 a b)
    (by
      rintro i ⟨s1, s2⟩ hi ⟨hs, g1, g2⟩
      replace hs : s1 = nI i := hs
      subst hs
      unfold JA_fill_l6
      rw [ofn]
      simp (disch := omega) only [si_e, si_ne, si_nj, sl_r, si_l, ga_n, n_cl, n_lt, n_le, n_eq, n_add, n_mul, n_sub, n_eqm, n_meq, n_mm, n_mlt, n_mle, n_ltm, Option.bind_some, if_pos, if_neg, i_1]
      refine ⟨_, rfl, rfl, g1, fun a b => ?_⟩
      show (sl s2 arr i v).2.1 a b = _
      rw [sl_l]
      have g3 : s2.2.1 a b = if a = arr ∧ b < i then v else m.2.1 a b := g2 a b
      rw [g3]
      by_cases e : a = arr ∧ b < i + 1
      · rw [if_pos e]
        by_cases e1 : a = arr ∧ b = i
        · rw [if_pos e1]
        · rw [if_neg e1, if_pos (by omega)]
      · rw [if_neg e, if_neg (by omega), if_neg (by omega)])
    (by
      rintro ⟨s1, s2⟩ ⟨hs, g1, g2⟩
      replace hs : s1 = nI n := hs
      subst hs
      unfold JA_fill_l6
      rw [ofn]
      simp (disch := omega) only [si_e, si_ne, si_nj, sl_r, si_l, ga_n, n_cl, n_lt, n_le, n_eq, n_add, n_mul, n_sub, n_eqm, n_meq, n_mm, n_mlt, n_mle, n_ltm, Option.bind_some, if_pos, if_neg]
      exact ⟨_, rfl, g1, g2⟩) 0 (0, m) (by omega) ⟨rfl, rfl, fun a b => by rw [if_neg (by omega)]⟩
  rw [h1]
  exact ⟨m', rfl, h2, h3⟩
theorem become_eq {m : Mm} {S : Sn} {ld : Nat → List Cl} {it : Nat → Nat → Int64} {t k n : Nat} {x y : Int32} (h : StC m S ld it) (hW : Wf S) (ht : t < 6) (hx : x = nI k - 1) (hy : y = nI n) : ∃ m', Ta_become (77 + 2 * t) m x y = some m' ∧ StC m' (su (su S 46 t k) 47 t n) ld (fun a b => if a = t then 0 else it a b) := by
  unfold Ta_become
  obtain ⟨m', h1, h2, h3⟩ := JA_fill_eq (si (si m (77 + 2 * t) 0 x) (77 + 2 * t) 1 y) (n := 60) (77 + 2 * t + 1) 0 (by omega)
  rw [h1]
  refine ⟨m', rfl, StC_longs (StC_set (f := 47) (i := t) (StC_set (f := 46) (i := t) h (Wf_41 hW) ht (by decide) hx) (by simp (disch := omega) only [si_e, si_ne, si_nj, sl_r, si_l, ga_n, n_cl, n_lt, n_le, n_eq, n_add, n_mul, n_sub, n_eqm, n_meq, n_mm, n_mlt, n_mle, n_ltm, Option.bind_some, if_pos, if_neg, su_ne]; exact Wf_41 hW) ht (by decide) hy) h2 (fun a b ha hb => ?_)⟩
  rw [h3, si_l, si_l, h.2.1 a b ha hb]
  by_cases e : a = t
  · rw [if_pos (by omega), if_pos e]
  · rw [if_neg (by omega), if_neg e]
theorem tape_loop {m : Mm} {S : Sn} {ld : Nat → List Cl} {it : Nat → Nat → Int64} {t : Nat} (h : StM m S ld it) (ht : t < 6) : ∃ e, iter (Mo_tape_l69 (nI t)) (0, m) = some e ∧ StM e S ld (fun a b => if a = t then 0 else it a b) := by
  obtain ⟨e, h1, h2⟩ := iter_for (step := Mo_tape_l69 (nI t)) (fun i s => s.1 = nI i ∧ StM s.2 S ld (fun a b => if a = t ∧ b < i then 0 else it a b)) 60 (fun e => StM e S ld (fun a b => if a = t ∧ b < 60 then 0 else it a b))
    (by
      rintro i ⟨s1, s2⟩ hi ⟨hs, g1⟩
      replace hs : s1 = nI i := hs
      subst hs
      unfold Mo_tape_l69
      simp (disch := omega) only [si_e, si_ne, si_nj, sl_r, si_l, ga_n, n_cl, n_lt, n_le, n_eq, n_add, n_mul, n_sub, n_eqm, n_meq, n_mm, n_mlt, n_mle, n_ltm, Option.bind_some, if_pos, if_neg, i_1, i_60]
      refine ⟨_, rfl, rfl, ?_⟩
      have g2 := StM_item (t := t) (i := i) (x := 0) g1 hi
      refine StM_longs g2 rfl (fun a b ha hb => ?_)
      rw [g2.2.1 a b ha hb]
      unfold iu
      dsimp only
      by_cases e : a = t ∧ b < i + 1
      · rw [if_pos e]
        by_cases e1 : a = t ∧ b = i
        · rw [if_pos e1]
        · rw [if_neg e1, if_pos (by omega)]
      · rw [if_neg e, if_neg (by omega), if_neg (by omega)])
    (by
      rintro ⟨s1, s2⟩ ⟨hs, g1⟩
      replace hs : s1 = nI 60 := hs
      subst hs
      unfold Mo_tape_l69
      simp (disch := omega) only [si_e, si_ne, si_nj, sl_r, si_l, ga_n, n_cl, n_lt, n_le, n_eq, n_add, n_mul, n_sub, n_eqm, n_meq, n_mm, n_mlt, n_mle, n_ltm, Option.bind_some, if_pos, if_neg, i_60]
      exact ⟨_, rfl, g1⟩) 0 (0, m) (by omega) ⟨rfl, StM_longs h rfl (fun a b ha hb => by rw [if_neg (by omega)]; exact h.2.1 a b ha hb)⟩
  refine ⟨e, h1, StM_longs h2 rfl (fun a b ha hb => ?_)⟩
  rw [h2.2.1 a b ha hb]
  dsimp only
  by_cases e : a = t
  · rw [if_pos ⟨e, hb⟩, if_pos e]
  · rw [if_neg (fun q => e q.1), if_neg e]
theorem tape_Wf {S : Sn} {t k n : Nat} (hW : Wf S) (hk : k ≤ 5) (hn : n ≤ 60) (h0 : k = 0 → n = 0) : Wf (su (su S 46 t k) 47 t n) := by
  obtain ⟨a0, a1, a2, a3, a4, a5, a6, a7, a8⟩ := hW
  unfold WfW at a0 a1
  unfold Wf WfW
  simp (disch := omega) only [su_ne]
  refine ⟨a0, a1, a2, a3, a4, a5, a6, fun i hi => ?_, a8⟩
  by_cases e : i = t
  · subst e
    simp (disch := omega) only [su_e]
    exact ⟨hk, hn, h0⟩
  · simp (disch := omega) only [su_nj]
    exact a7 i hi
theorem in_m14 (a : Int32) : Mo_in a (-1) 4 = (decide (a = -1) || inR a 5) := by
  rw [Mo_in_eq]
  have h1 : (-1 : Int32).toInt = -1 := rfl
  have h2 : (4 : Int32).toInt = 4 := rfl
  rw [h1, h2]
  unfold inR
  by_cases e : a = -1
  · subst e
    rw [h1]
    rfl
  · rw [decide_eq_false e, Bool.false_or]
    congr 1
    apply propext
    have h3 : a.toInt ≠ -1 := fun q => e (Int32.toInt_inj.mp (by rw [q, h1]))
    omega
theorem tape_l_eq : Mo_tape_l69_1 = Mo_tape_l69 := rfl
theorem H35 : lwH35 Inv := by
  intro m1 m2 a1 a2 a3 hI
  obtain ⟨S, ld, it, hC, hM, hW, hL⟩ := id hI
  unfold NB_tape Mo_tape jn
  rw [isTape_c, isTape_m, in_m14, tape_l_eq]
  cases e1 : inR a1 6 with
  | false => exact ⟨_, _, _, rfl, rfl, hI⟩
  | true =>
  obtain ⟨t, ht, rfl⟩ := inR_ex e1 (by omega)
  by_cases e2 : a2 = -1
  · subst e2
    have q1 : (-1 : Int32) < 0 := by decide
    have q2 : ¬ (0 : Int32) ≤ -1 := by decide
    simp only [q1, q2, ↓reduceIte, decide_true, Bool.true_or]
    simp (disch := omega) only [si_e, si_ne, si_nj, sl_r, si_l, ga_n, n_cl, n_lt, n_le, n_eq, n_add, n_mul, n_sub, n_eqm, n_meq, n_mm, n_mlt, n_mle, n_ltm, Option.bind_some, if_pos, if_neg, i_6]
    obtain ⟨x1, x2, x3⟩ := become_eq (k := 0) (n := 0) hC hW ht (x := -1) (y := 0) rfl rfl
    obtain ⟨y1, y2, y3⟩ := tape_loop (StM_set (f := 47) (i := t) (v := 0) (StM_set (f := 46) (i := t) (v := 0) (x := -1) hM ht (by decide) rfl) ht (by decide) rfl) ht
    have y4 : iter (Mo_tape_l69 (nI t)) (0, si (si m2 36 t (-1)) 37 t 0) = some y1 := y2
    rw [x2, y4]
    refine ⟨_, _, _, rfl, rfl, _, _, _, x3, y3, tape_Wf hW (by omega) (by omega) (fun _ => rfl), ?_⟩
    simp (disch := omega) only [si_e, si_ne, si_nj, sl_r, si_l, ga_n, n_cl, n_lt, n_le, n_eq, n_add, n_mul, n_sub, n_eqm, n_meq, n_mm, n_mlt, n_mle, n_ltm, Option.bind_some, if_pos, if_neg, su_ne]
    exact hL
  rw [decide_eq_false e2, Bool.false_or]
  rcases arg3 a2 5 (by omega) with ⟨g1, h2⟩ | ⟨g1, h2, h3⟩ | ⟨k, g1, rfl, h3⟩
  · rw [h2]
    simp only [e2, g1, ↓reduceIte]
    exact ⟨_, _, _, rfl, rfl, hI⟩
  · rw [h3]
    have q1 : (4 : Int32) < a2 := n_gt (k := 4) g1 (by omega)
    simp only [e2, h2, q1, ↓reduceIte]
    exact ⟨_, _, _, rfl, rfl, hI⟩
  rw [h3]
  have q1 : ¬ nI k < 0 := nI_pos (by omega)
  have q2 : ¬ 4 < nI k := by rw [i_4]; exact (by rw [n_lt (by omega) (by omega)]; omega)
  have q3 : 0 ≤ nI k := by rw [i_0]; exact (by rw [n_le (by omega) (by omega)]; omega)
  simp only [e2, q1, q2, q3, ↓reduceIte]
  rcases arg3 a3 61 (by omega) with ⟨g1', h2⟩ | ⟨g1', h2, h3'⟩ | ⟨n, g1', rfl, h3'⟩
  · have r1 : a3 ≤ 60 := by
      rw [lt0] at g1'
      rw [Int32.le_iff_toInt_le]
      show a3.toInt ≤ 60
      omega
    have r2 : ¬ 0 ≤ a3 := by
      rw [lt0] at g1'
      rw [Int32.le_iff_toInt_le]
      show ¬ 0 ≤ a3.toInt
      omega
    simp only [r1, r2, ↓reduceIte]
    exact ⟨_, _, _, rfl, rfl, hI⟩
  · have r1 : ¬ a3 ≤ 60 := n_nle (k := 60) g1' (by omega)
    simp only [r1, ↓reduceIte]
    exact ⟨_, _, _, rfl, rfl, hI⟩
  have r1 : nI n ≤ 60 := by rw [i_60]; exact (by rw [n_le (by omega) (by omega)]; omega)
  have r2 : 0 ≤ nI n := by rw [i_0]; exact (by rw [n_le (by omega) (by omega)]; omega)
  simp only [r1, r2, ↓reduceIte]
  simp (disch := omega) only [si_e, si_ne, si_nj, sl_r, si_l, ga_n, n_cl, n_lt, n_le, n_eq, n_add, n_mul, n_sub, n_eqm, n_meq, n_mm, n_mlt, n_mle, n_ltm, Option.bind_some, if_pos, if_neg, i_6]
  have s1 : nI k = nI (k + 1) - 1 := by rw [i_1, n_sub (by omega)]; rfl
  obtain ⟨x1, x2, x3⟩ := become_eq (k := k + 1) (n := n) hC hW ht (x := nI k) (y := nI n) s1 rfl
  obtain ⟨y1, y2, y3⟩ := tape_loop (StM_set (f := 47) (i := t) (v := n) (StM_set (f := 46) (i := t) (v := k + 1) (x := nI k) hM ht (by decide) s1) ht (by decide) rfl) ht
  have y4 : iter (Mo_tape_l69 (nI t)) (0, si (si m2 36 t (nI k)) 37 t (nI n)) = some y1 := y2
  rw [x2, y4]
  refine ⟨_, _, _, rfl, rfl, _, _, _, x3, y3, tape_Wf hW (by omega) (by omega) (fun h => by omega), ?_⟩
  simp (disch := omega) only [si_e, si_ne, si_nj, sl_r, si_l, ga_n, n_cl, n_lt, n_le, n_eq, n_add, n_mul, n_sub, n_eqm, n_meq, n_mm, n_mlt, n_mle, n_ltm, Option.bind_some, if_pos, if_neg, su_ne]
  exact hL
def shiftI (it : Nat → Nat → Int64) (t u i j n : Nat) : Nat → Nat → Int64 := fun a b => if a = u ∧ j ≤ b ∧ b < j + n then it t (i + (b - j)) else it a b
theorem shift_c {m : Mm} {S : Sn} {ld : Nat → List Cl} {it : Nat → Nat → Int64} {t u i j n : Nat} (h : StC m S ld it) (ht : t < 6) (hu : u < 6) (hi : i + n ≤ 60) (hj : j + n ≤ 60) : StC (cpl m (77 + 2 * t + 1) (77 + 2 * u + 1) (nI i) (nI j) (nI n)) S ld (shiftI it t u i j n) := by
  refine StC_longs h rfl (fun a b ha hb => ?_)
  unfold cpl sla shiftI
  rw [n_cl (by omega), n_cl (by omega), n_cl (by omega)]
  dsimp only
  have e1 : 77 + 2 * t + 1 = 78 + 2 * t := by omega
  by_cases e : a = u
  · subst e
    rw [if_pos (by omega)]
    unfold va_cpy
    by_cases e2 : j ≤ b ∧ b < j + n
    · rw [if_pos e2, if_pos ⟨rfl, e2⟩, e1]
      exact h.2.1 t _ ht (by omega)
    · rw [if_neg e2, if_neg (fun q => e2 q.2), show 77 + 2 * a + 1 = 78 + 2 * a by omega]
      exact h.2.1 a b ha hb
  · rw [if_neg (by omega), if_neg (fun q => e q.1)]
    exact h.2.1 a b ha hb
theorem shift_m {m : Mm} {S : Sn} {ld : Nat → List Cl} {it : Nat → Nat → Int64} {t u i j n : Nat} (h : StM m S ld it) (ht : t < 6) (hu : u < 6) (hi : i + n ≤ 60) (hj : j + n ≤ 60) : ∃ e, ((iter (Mo_shift_l104 (nI t) (nI i) (nI n)) (0, m)).bind fun e8 => (iter (Mo_shift_l141 (nI u) (nI j) (nI n)) (0, e8)).bind fun e13 => some (nI n, e13)) = some (nI n, e) ∧ StM e S ld (shiftI it t u i j n) := by
  obtain ⟨e8, h1, h2, h3, h4⟩ := iter_for (step := Mo_shift_l104 (nI t) (nI i) (nI n)) (fun k s => s.1 = nI k ∧ s.2.1 = m.1 ∧ (∀ b, s.2.2.1 38 b = m.2.1 38 b) ∧ ∀ b, b < k → s.2.2.1 39 b = m.2.1 38 (60 * t + i + b)) n (fun e => e.1 = m.1 ∧ (∀ b, e.2.1 38 b = m.2.1 38 b) ∧ ∀ b, b < n → e.2.1 39 b = m.2.1 38 (60 * t + i + b))
    (by
      rintro k ⟨s1, s2⟩ hk ⟨hs, g1, g2, g3⟩
      replace hs : s1 = nI k := hs
      subst hs
      replace g2 : ∀ b, s2.2.1 38 b = m.2.1 38 b := g2
      replace g3 : ∀ b, b < k → s2.2.1 39 b = m.2.1 38 (60 * t + i + b) := g3
      unfold Mo_shift_l104
      simp (disch := omega) only [si_e, si_ne, si_nj, sl_r, si_l, ga_n, n_cl, n_lt, n_le, n_eq, n_add, n_mul, n_sub, n_eqm, n_meq, n_mm, n_mlt, n_mle, n_ltm, Option.bind_some, if_pos, if_neg, i_1, i_60]
      refine ⟨_, rfl, rfl, g1, fun b => ?_, fun b hb => ?_⟩
      · show (sl s2 39 k (s2.2.1 38 (60 * t + i + k))).2.1 38 b = _
        rw [sl_l, if_neg (by omega)]
        exact g2 b
      · show (sl s2 39 k (s2.2.1 38 (60 * t + i + k))).2.1 39 b = _
        rw [sl_l]
        by_cases e : b = k
        · rw [if_pos ⟨rfl, e⟩, g2, e]
        · rw [if_neg (fun q => e q.2)]
          exact g3 b (by omega))
    (by
      rintro ⟨s1, s2⟩ ⟨hs, g1, g2, g3⟩
      replace hs : s1 = nI n := hs
      subst hs
      unfold Mo_shift_l104
      simp (disch := omega) only [si_e, si_ne, si_nj, sl_r, si_l, ga_n, n_cl, n_lt, n_le, n_eq, n_add, n_mul, n_sub, n_eqm, n_meq, n_mm, n_mlt, n_mle, n_ltm, Option.bind_some, if_pos, if_neg]
      exact ⟨_, rfl, g1, g2, g3⟩) 0 (0, m) (by omega) ⟨rfl, rfl, fun _ => rfl, fun b hb => absurd hb (Nat.not_lt_zero b)⟩
  obtain ⟨e, k1, k2, k3⟩ := iter_for (step := Mo_shift_l141 (nI u) (nI j) (nI n)) (fun k s => s.1 = nI k ∧ s.2.1 = m.1 ∧ (∀ b, s.2.2.1 39 b = e8.2.1 39 b) ∧ ∀ b, s.2.2.1 38 b = if 60 * u + j ≤ b ∧ b < 60 * u + j + k then m.2.1 38 (60 * t + i + (b - (60 * u + j))) else m.2.1 38 b) n (fun e => e.1 = m.1 ∧ ∀ b, e.2.1 38 b = if 60 * u + j ≤ b ∧ b < 60 * u + j + n then m.2.1 38 (60 * t + i + (b - (60 * u + j))) else m.2.1 38 b)
    (by
      rintro k ⟨s1, s2⟩ hk ⟨hs, g1, g2, g3⟩
      replace hs : s1 = nI k := hs
      subst hs
      replace g2 : ∀ b, s2.2.1 39 b = e8.2.1 39 b := g2
      unfold Mo_shift_l141
      simp (disch := omega) only [si_e, si_ne, si_nj, sl_r, si_l, ga_n, n_cl, n_lt, n_le, n_eq, n_add, n_mul, n_sub, n_eqm, n_meq, n_mm, n_mlt, n_mle, n_ltm, Option.bind_some, if_pos, if_neg, i_1, i_60]
      refine ⟨_, rfl, rfl, g1, fun b => ?_, fun b => ?_⟩
      · show (sl s2 38 (60 * u + j + k) (s2.2.1 39 k)).2.1 39 b = _
        rw [sl_l, if_neg (by omega)]
        exact g2 b
      · show (sl s2 38 (60 * u + j + k) (s2.2.1 39 k)).2.1 38 b = _
        rw [sl_l]
        by_cases e : b = 60 * u + j + k
        · rw [if_pos ⟨rfl, e⟩, g2, h4 k hk, if_pos (by omega), show b - (60 * u + j) = k by omega]
        · rw [if_neg (fun q => e q.2)]
          refine (g3 b).trans ?_
          by_cases e1 : 60 * u + j ≤ b ∧ b < 60 * u + j + k
          · rw [if_pos e1, if_pos (by omega)]
          · rw [if_neg e1, if_neg (by omega)])
    (by
      rintro ⟨s1, s2⟩ ⟨hs, g1, g2, g3⟩
      replace hs : s1 = nI n := hs
      subst hs
      unfold Mo_shift_l141
      simp (disch := omega) only [si_e, si_ne, si_nj, sl_r, si_l, ga_n, n_cl, n_lt, n_le, n_eq, n_add, n_mul, n_sub, n_eqm, n_meq, n_mm, n_mlt, n_mle, n_ltm, Option.bind_some, if_pos, if_neg]
      exact ⟨_, rfl, g1, g3⟩) 0 (0, e8) (by omega) ⟨rfl, h2, fun _ => rfl, fun b => by rw [if_neg (by omega)]; exact h3 b⟩
  rw [h1]
  dsimp only [Option.bind_some]
  rw [k1]
  refine ⟨e, rfl, StM_longs h k2 (fun a b ha hb => ?_)⟩
  rw [k3]
  unfold shiftI
  by_cases e : a = u ∧ j ≤ b ∧ b < j + n
  · rw [if_pos (by omega), if_pos e, ← h.2.1 t _ ht (by omega), show 60 * t + i + (60 * a + b - (60 * u + j)) = 60 * t + (i + (b - j)) by omega]
  · rw [if_neg (by omega), if_neg e]
    exact h.2.1 a b ha hb
theorem H38 : lwH38 Inv := by
  intro m1 m2 a1 a2 a3 a4 a5 hI
  obtain ⟨S, ld, it, hC, hM, hW, hL⟩ := id hI
  unfold NB_shift Mo_shift
  rw [isTape_c, isTape_c, isTape_m, isTape_m]
  cases e1 : inR a1 6 with
  | false => exact ⟨_, _, _, rfl, rfl, hI⟩
  | true =>
  cases e2 : inR a3 6 with
  | false => exact ⟨_, _, _, rfl, rfl, hI⟩
  | true =>
  obtain ⟨t, ht, rfl⟩ := inR_ex e1 (by omega)
  obtain ⟨u, hu, rfl⟩ := inR_ex e2 (by omega)
  have hw := Wf_46 hW ht
  have hv := Wf_46 hW hu
  simp (disch := omega) only [si_e, si_ne, si_nj, sl_r, si_l, ga_n, n_cl, n_lt, n_le, n_eq, n_add, n_mul, n_sub, n_eqm, n_meq, n_mm, n_mlt, n_mle, n_ltm, Option.bind_some, if_pos, if_neg, ↓reduceIte]
  rw [Ta_spans_eq (cF47 hC.1 ht) (by omega), Ta_spans_eq (cF47 hC.1 hu) (by omega), cF46 hC.1 ht, rF46 hM.1 ht, rF47 hM.1 ht, cF46 hC.1 hu, rF46 hM.1 hu, rF47 hM.1 hu]
  simp only [sort_nn hv.1, sort_lt hw.1, sort_m1 hw.1, sort_m1 hv.1, sort_eq hw.1 hv.1]
  by_cases h0 : S 46 t = 0
  · rw [if_pos h0, if_pos h0]
    exact ⟨_, _, _, rfl, rfl, hI⟩
  rw [if_neg h0, if_neg h0]
  by_cases h1 : S 46 u = 0
  · rw [if_pos h1, if_neg (fun q => q h1)]
    exact ⟨_, _, _, rfl, rfl, hI⟩
  rw [if_neg h1, if_pos h1]
  by_cases h2 : S 46 t = S 46 u
  case neg =>
    rw [if_neg h2, if_neg h2]
    exact ⟨_, _, _, rfl, rfl, hI⟩
  rw [if_pos h2, if_pos h2]
  by_cases c1 : a5 < 0
  · rw [if_pos c1]
    rw [lt0] at c1
    have q1 : spansN a2 a5 (S 47 t) = false := decide_eq_false (by omega)
    rw [q1]
    exact ⟨_, _, _, rfl, rfl, hI⟩
  rw [if_neg c1]
  rw [lt0] at c1
  by_cases c2 : a2 < 0
  · rw [if_pos c2]
    rw [lt0] at c2
    have q1 : spansN a2 a5 (S 47 t) = false := decide_eq_false (by omega)
    rw [q1]
    exact ⟨_, _, _, rfl, rfl, hI⟩
  rw [if_neg c2]
  rw [lt0] at c2
  by_cases c3 : a4 < 0
  · rw [if_pos c3]
    rw [lt0] at c3
    have q1 : spansN a4 a5 (S 47 u) = false := decide_eq_false (by omega)
    rw [q1]
    cases spansN a2 a5 (S 47 t) with
    | false => exact ⟨_, _, _, rfl, rfl, hI⟩
    | true => exact ⟨_, _, _, rfl, rfl, hI⟩
  rw [if_neg c3]
  rw [lt0] at c3
  have d1 := sub_toInt (k := S 47 t) (n := a5) (by omega) (by omega)
  have d2 := sub_toInt (k := S 47 u) (n := a5) (by omega) (by omega)
  by_cases c4 : nI (S 47 t) - a5 < a2
  · rw [if_pos c4]
    rw [Int32.lt_iff_toInt_lt, d1] at c4
    have q1 : spansN a2 a5 (S 47 t) = false := decide_eq_false (by omega)
    rw [q1]
    exact ⟨_, _, _, rfl, rfl, hI⟩
  rw [if_neg c4]
  rw [Int32.lt_iff_toInt_lt, d1] at c4
  have q1 : spansN a2 a5 (S 47 t) = true := decide_eq_true (by omega)
  rw [q1, if_pos rfl]
  by_cases c5 : a4 ≤ nI (S 47 u) - a5
  case neg =>
    rw [if_neg c5]
    rw [Int32.le_iff_toInt_le, d2] at c5
    have q1 : spansN a4 a5 (S 47 u) = false := decide_eq_false (by omega)
    rw [q1]
    exact ⟨_, _, _, rfl, rfl, hI⟩
  rw [if_pos c5]
  rw [Int32.le_iff_toInt_le, d2] at c5
  have q2 : spansN a4 a5 (S 47 u) = true := decide_eq_true (by omega)
  rw [q2, if_pos rfl]
  obtain ⟨n, hn, rfl⟩ := inR_ex (a := a5) (n := 61) (decide_eq_true (by omega)) (by omega)
  obtain ⟨i, hi, rfl⟩ := inR_ex (a := a2) (n := 61) (decide_eq_true (by omega)) (by omega)
  obtain ⟨j, hj, rfl⟩ := inR_ex (a := a4) (n := 61) (decide_eq_true (by omega)) (by omega)
  rw [nI_toInt (by omega), nI_toInt (by omega)] at c4 c5
  have hin : i + n ≤ 60 := by omega
  have hjn : j + n ≤ 60 := by omega
  have hcp : cpOk (nI i) (nI j) (nI n) 60 60 = true := by
    unfold cpOk
    rw [n_cl (by omega), n_cl (by omega), n_cl (by omega)]
    exact decide_eq_true ⟨nI_pos (by omega), nI_pos (by omega), nI_pos (by omega), hin, hjn⟩
  obtain ⟨e, k1, k2⟩ := shift_m hM ht hu hin hjn
  rw [hcp, k1]
  exact ⟨_, _, _, rfl, rfl, S, ld, _, shift_c hC ht hu hin hjn, k2, hW, hL⟩
