-- ===== image, undo =====
theorem StC_ext {m : Mm} {S S' : Sn} {ld : Nat → List Cl} {it : Nat → Nat → Int64} (h : StC m S ld it) (e : ∀ f i, i < lenC f → S f i = S' f i) : StC m S' ld it := by
  obtain ⟨h1, h2, h3, h4⟩ := h
  refine ⟨fun f i hi => ?_, h2, h3, fun j hj => h4 j ?_⟩
  · rw [← e f i hi]
    exact h1 f i hi
  · rw [e 41 0 (by decide)]
    exact hj
theorem StM_ext {m : Mm} {S S' : Sn} {ld : Nat → List Cl} {it : Nat → Nat → Int64} (h : StM m S ld it) (e : ∀ f i, i < lenM f → S f i = S' f i) : StM m S' ld it := by
  obtain ⟨h1, h2, h4⟩ := h
  refine ⟨fun f i hi => ?_, h2, fun j hj => h4 j ?_⟩
  · rw [← e f i hi]
    exact h1 f i hi
  · rw [e 41 0 (by decide)]
    exact hj
def sg (S : Sn) (g : Nat) (r : Nat → Nat) : Sn := fun x y => if x = g then r y else S x y
theorem sg_e {S : Sn} {g x y : Nat} {r : Nat → Nat} (h : x = g) : sg S g r x y = r y := by unfold sg; rw [if_pos h]
theorem sg_ne {S : Sn} {g x y : Nat} {r : Nat → Nat} (h : x ≠ g) : sg S g r x y = S x y := by unfold sg; rw [if_neg h]
theorem cpi_r (m : Mm) (a b n : Nat) (hn : n < 2 ^ 30) (x j : Nat) : (cpi m a b 0 0 (nI n)).1 x j = if x = b ∧ j < n then m.1 a j else m.1 x j := by
  have h0 : (0 : Int32).toNatClampNeg = 0 := rfl
  unfold cpi sia va_cpy
  rw [n_cl (by omega), h0]
  dsimp only
  by_cases e : x = b
  · subst e
    by_cases e1 : j < n
    · rw [if_pos rfl, if_pos (by omega), if_pos ⟨rfl, e1⟩, show 0 + (j - 0) = j by omega]
    · rw [if_pos rfl, if_neg (by omega), if_neg (by omega)]
  · rw [if_neg e, if_neg (fun q => e q.1)]
theorem StC_cpy {m : Mm} {S : Sn} {ld : Nat → List Cl} {it : Nat → Nat → Int64} (f g a b n : Nat) (h : StC m S ld it) (h6 : S 41 0 ≤ 6) (hf : ∀ i, locC f i = (a, i)) (hg : ∀ i, locC g i = (b, i)) (lf : lenC f = n) (lg : lenC g = n) (hn : n < 100) (n0 : 0 < n) (hv : ∀ v, vS f v = vS g v) (h41 : g ≠ 41) : StC (cpi m a b 0 0 (nI n)) (sg S g (S f)) ld it := by
  obtain ⟨h1, h2, h3, h4⟩ := h
  have hn41 : sg S g (S f) 41 0 = S 41 0 := sg_ne (fun q => h41 q.symm)
  have hb : ¬ (31 ≤ b ∧ b ≤ 66) := by
    intro q
    have := locC_land 0 g (by omega)
    rw [hg 0] at this
    exact this q.1 q.2
  refine ⟨fun x j hj => ?_, h2, CL_keep h3 (fun k j q1 q2 => ?_), fun j hj => ?_⟩
  · rw [cpi_r m a b n (by omega)]
    by_cases e : x = g
    · subst e
      rw [hg j, if_pos ⟨rfl, by omega⟩, sg_e rfl, ← hv]
      have h5 := h1 f j (by omega)
      rw [hf j] at h5
      exact h5
    · rw [sg_ne e, if_neg]
      · exact h1 x j hj
      · intro q
        have h5 : locC x j = locC g (locC x j).2 := by
          rw [hg, ← q.1]
        exact e (locC_inj hj (by omega) h5).1
  · rw [cpi_r m a b n (by omega), if_neg (by omega)]
  · rw [hn41] at hj
    refine CL_keep (h4 j hj) (fun k j' q1 q2 => ?_)
    rw [cpi_r m a b n (by omega), if_neg (by omega)]
def imageS0 (X : Sn) (k : Nat) : Sn := fun x y => if (x = 21 ∨ x = 22 ∨ x = 23 ∨ x = 25) ∧ y < k then X (x - 20) y else X x y
theorem image_l0 {m : Mm} {X : Sn} {ld : Nat → List Cl} {it : Nat → Nat → Int64} (h : StM m X ld it) : ∃ e, iter Mo_image_l39 (0, m) = some e ∧ StM e (imageS0 X 7) ld it :=
  iter_for (step := Mo_image_l39) (fun i s => s.1 = nI i ∧ StM s.2 (imageS0 X i) ld it) 7 (fun e => StM e (imageS0 X 7) ld it)
    (by
      rintro i ⟨s1, s2⟩ hi ⟨hs, g⟩
      replace hs : s1 = nI i := hs
      subst hs
      replace g : StM s2 (imageS0 X i) ld it := g
      have r1 : s2.1 1 i = nI (X 1 i) := (rF1 g.1 hi).trans (by unfold imageS0; rw [if_neg (by omega)])
      have r2 : s2.1 2 i = nI (X 2 i) := (rF2 g.1 hi).trans (by unfold imageS0; rw [if_neg (by omega)])
      have r3 : s2.1 3 i = nI (X 3 i) := (rF3 g.1 hi).trans (by unfold imageS0; rw [if_neg (by omega)])
      have r5 : s2.1 4 i = nI (X 5 i) := (rF5 g.1 hi).trans (by unfold imageS0; rw [if_neg (by omega)])
      unfold Mo_image_l39
      simp (disch := omega) only [si_e, si_ne, si_nj, sl_r, si_l, ga_n, n_cl, n_lt, n_le, n_eq, n_add, n_mul, n_sub, n_eqm, n_meq, n_mm, n_mlt, n_mle, n_ltm, Option.bind_some, if_pos, if_neg, i_1, i_7, r1, r2, r3, r5]
      refine ⟨_, rfl, rfl, ?_⟩
      refine StM_ext (StM_set (f := 25) (i := i) (v := X 5 i) (StM_set (f := 23) (i := i) (v := X 3 i) (StM_set (f := 22) (i := i) (v := X 2 i) (StM_set (f := 21) (i := i) (v := X 1 i) g hi (by decide) rfl) hi (by decide) rfl) hi (by decide) rfl) hi (by decide) rfl) (fun f j _ => ?_)
      have hf : f = 21 ∨ f = 22 ∨ f = 23 ∨ f = 25 ∨ (f ≠ 21 ∧ f ≠ 22 ∧ f ≠ 23 ∧ f ≠ 25) := by omega
      unfold imageS0
      by_cases e : j = i
      · subst e
        rcases hf with rfl | rfl | rfl | rfl | ho
        · refine Eq.trans ?_ (if_pos (by omega)).symm
          simp (disch := omega) only [su_e, su_ne] <;> rfl
        · refine Eq.trans ?_ (if_pos (by omega)).symm
          simp (disch := omega) only [su_e, su_ne] <;> rfl
        · refine Eq.trans ?_ (if_pos (by omega)).symm
          simp (disch := omega) only [su_e, su_ne] <;> rfl
        · refine Eq.trans ?_ (if_pos (by omega)).symm
          simp (disch := omega) only [su_e, su_ne] <;> rfl
        · simp (disch := omega) only [su_ne, if_neg]
      · simp (disch := omega) only [su_nj]
        by_cases e1 : (f = 21 ∨ f = 22 ∨ f = 23 ∨ f = 25) ∧ j < i
        · rw [if_pos e1, if_pos (by omega)]
        · rw [if_neg e1, if_neg (by omega)])
    (by
      rintro ⟨s1, s2⟩ ⟨hs, g⟩
      replace hs : s1 = nI 7 := hs
      subst hs
      unfold Mo_image_l39
      simp (disch := omega) only [si_e, si_ne, si_nj, sl_r, si_l, ga_n, n_cl, n_lt, n_le, n_eq, n_add, n_mul, n_sub, n_eqm, n_meq, n_mm, n_mlt, n_mle, n_ltm, Option.bind_some, if_pos, if_neg, i_7]
      exact ⟨_, rfl, g⟩) 0 (0, m) (by omega) ⟨rfl, StM_ext h (fun f j _ => by unfold imageS0; rw [if_neg (by omega)])⟩
def imageS1 (X : Sn) (k : Nat) : Sn := fun x y => if (x = 24) ∧ y < k then X (x - 20) y else X x y
theorem image_l1 {m : Mm} {X : Sn} {ld : Nat → List Cl} {it : Nat → Nat → Int64} (h : StM m X ld it) : ∃ e, iter Mo_image_l101 (0, m) = some e ∧ StM e (imageS1 X 49) ld it :=
  iter_for (step := Mo_image_l101) (fun i s => s.1 = nI i ∧ StM s.2 (imageS1 X i) ld it) 49 (fun e => StM e (imageS1 X 49) ld it)
    (by
      rintro i ⟨s1, s2⟩ hi ⟨hs, g⟩
      replace hs : s1 = nI i := hs
      subst hs
      replace g : StM s2 (imageS1 X i) ld it := g
      have r4 : s2.1 5 i = nI (X 4 i) := (rF4 g.1 hi).trans (by unfold imageS1; rw [if_neg (by omega)])
      unfold Mo_image_l101
      simp (disch := omega) only [si_e, si_ne, si_nj, sl_r, si_l, ga_n, n_cl, n_lt, n_le, n_eq, n_add, n_mul, n_sub, n_eqm, n_meq, n_mm, n_mlt, n_mle, n_ltm, Option.bind_some, if_pos, if_neg, i_1, i_49, r4]
      refine ⟨_, rfl, rfl, ?_⟩
      refine StM_ext (StM_set (f := 24) (i := i) (v := X 4 i) g hi (by decide) rfl) (fun f j _ => ?_)
      have hf : f = 24 ∨ (f ≠ 24) := by omega
      unfold imageS1
      by_cases e : j = i
      · subst e
        rcases hf with rfl | ho
        · refine Eq.trans ?_ (if_pos (by omega)).symm
          simp (disch := omega) only [su_e, su_ne] <;> rfl
        · simp (disch := omega) only [su_ne, if_neg]
      · simp (disch := omega) only [su_nj]
        by_cases e1 : (f = 24) ∧ j < i
        · rw [if_pos e1, if_pos (by omega)]
        · rw [if_neg e1, if_neg (by omega)])
    (by
      rintro ⟨s1, s2⟩ ⟨hs, g⟩
      replace hs : s1 = nI 49 := hs
      subst hs
      unfold Mo_image_l101
      simp (disch := omega) only [si_e, si_ne, si_nj, sl_r, si_l, ga_n, n_cl, n_lt, n_le, n_eq, n_add, n_mul, n_sub, n_eqm, n_meq, n_mm, n_mlt, n_mle, n_ltm, Option.bind_some, if_pos, if_neg, i_49]
      exact ⟨_, rfl, g⟩) 0 (0, m) (by omega) ⟨rfl, StM_ext h (fun f j _ => by unfold imageS1; rw [if_neg (by omega)])⟩
def imageS2 (X : Sn) (k : Nat) : Sn := fun x y => if (x = 27 ∨ x = 28 ∨ x = 29) ∧ y < k then X (x - 20) y else X x y
theorem image_l2 {m : Mm} {X : Sn} {ld : Nat → List Cl} {it : Nat → Nat → Int64} (h : StM m X ld it) : ∃ e, iter Mo_image_l127 (0, m) = some e ∧ StM e (imageS2 X 8) ld it :=
  iter_for (step := Mo_image_l127) (fun i s => s.1 = nI i ∧ StM s.2 (imageS2 X i) ld it) 8 (fun e => StM e (imageS2 X 8) ld it)
    (by
      rintro i ⟨s1, s2⟩ hi ⟨hs, g⟩
      replace hs : s1 = nI i := hs
      subst hs
      replace g : StM s2 (imageS2 X i) ld it := g
      have r7 : s2.1 6 i = nI (X 7 i) := (rF7 g.1 hi).trans (by unfold imageS2; rw [if_neg (by omega)])
      have r8 : s2.1 7 i = nI (X 8 i) := (rF8 g.1 hi).trans (by unfold imageS2; rw [if_neg (by omega)])
      have r9 : s2.1 8 i = nI (X 9 i) := (rF9 g.1 hi).trans (by unfold imageS2; rw [if_neg (by omega)])
      unfold Mo_image_l127
      simp (disch := omega) only [si_e, si_ne, si_nj, sl_r, si_l, ga_n, n_cl, n_lt, n_le, n_eq, n_add, n_mul, n_sub, n_eqm, n_meq, n_mm, n_mlt, n_mle, n_ltm, Option.bind_some, if_pos, if_neg, i_1, i_8, r7, r8, r9]
      refine ⟨_, rfl, rfl, ?_⟩
      refine StM_ext (StM_set (f := 29) (i := i) (v := X 9 i) (StM_set (f := 28) (i := i) (v := X 8 i) (StM_set (f := 27) (i := i) (v := X 7 i) g hi (by decide) rfl) hi (by decide) rfl) hi (by decide) rfl) (fun f j _ => ?_)
      have hf : f = 27 ∨ f = 28 ∨ f = 29 ∨ (f ≠ 27 ∧ f ≠ 28 ∧ f ≠ 29) := by omega
      unfold imageS2
      by_cases e : j = i
      · subst e
        rcases hf with rfl | rfl | rfl | ho
        · refine Eq.trans ?_ (if_pos (by omega)).symm
          simp (disch := omega) only [su_e, su_ne] <;> rfl
        · refine Eq.trans ?_ (if_pos (by omega)).symm
          simp (disch := omega) only [su_e, su_ne] <;> rfl
        · refine Eq.trans ?_ (if_pos (by omega)).symm
          simp (disch := omega) only [su_e, su_ne] <;> rfl
        · simp (disch := omega) only [su_ne, if_neg]
      · simp (disch := omega) only [su_nj]
        by_cases e1 : (f = 27 ∨ f = 28 ∨ f = 29) ∧ j < i
        · rw [if_pos e1, if_pos (by omega)]
        · rw [if_neg e1, if_neg (by omega)])
    (by
      rintro ⟨s1, s2⟩ ⟨hs, g⟩
      replace hs : s1 = nI 8 := hs
      subst hs
      unfold Mo_image_l127
      simp (disch := omega) only [si_e, si_ne, si_nj, sl_r, si_l, ga_n, n_cl, n_lt, n_le, n_eq, n_add, n_mul, n_sub, n_eqm, n_meq, n_mm, n_mlt, n_mle, n_ltm, Option.bind_some, if_pos, if_neg, i_8]
      exact ⟨_, rfl, g⟩) 0 (0, m) (by omega) ⟨rfl, StM_ext h (fun f j _ => by unfold imageS2; rw [if_neg (by omega)])⟩
def imageS3 (X : Sn) (k : Nat) : Sn := fun x y => if (x = 31) ∧ y < k then X (x - 20) y else X x y
theorem image_l3 {m : Mm} {X : Sn} {ld : Nat → List Cl} {it : Nat → Nat → Int64} (h : StM m X ld it) : ∃ e, iter Mo_image_l177 (0, m) = some e ∧ StM e (imageS3 X 12) ld it :=
  iter_for (step := Mo_image_l177) (fun i s => s.1 = nI i ∧ StM s.2 (imageS3 X i) ld it) 12 (fun e => StM e (imageS3 X 12) ld it)
    (by
      rintro i ⟨s1, s2⟩ hi ⟨hs, g⟩
      replace hs : s1 = nI i := hs
      subst hs
      replace g : StM s2 (imageS3 X i) ld it := g
      have r11 : s2.1 25 i = nI (X 11 i) := (rF11 g.1 hi).trans (by unfold imageS3; rw [if_neg (by omega)])
      unfold Mo_image_l177
      simp (disch := omega) only [si_e, si_ne, si_nj, sl_r, si_l, ga_n, n_cl, n_lt, n_le, n_eq, n_add, n_mul, n_sub, n_eqm, n_meq, n_mm, n_mlt, n_mle, n_ltm, Option.bind_some, if_pos, if_neg, i_1, i_12, r11]
      refine ⟨_, rfl, rfl, ?_⟩
      refine StM_ext (StM_set (f := 31) (i := i) (v := X 11 i) g hi (by decide) rfl) (fun f j _ => ?_)
      have hf : f = 31 ∨ (f ≠ 31) := by omega
      unfold imageS3
      by_cases e : j = i
      · subst e
        rcases hf with rfl | ho
        · refine Eq.trans ?_ (if_pos (by omega)).symm
          simp (disch := omega) only [su_e, su_ne] <;> rfl
        · simp (disch := omega) only [su_ne, if_neg]
      · simp (disch := omega) only [su_nj]
        by_cases e1 : (f = 31) ∧ j < i
        · rw [if_pos e1, if_pos (by omega)]
        · rw [if_neg e1, if_neg (by omega)])
    (by
      rintro ⟨s1, s2⟩ ⟨hs, g⟩
      replace hs : s1 = nI 12 := hs
      subst hs
      unfold Mo_image_l177
      simp (disch := omega) only [si_e, si_ne, si_nj, sl_r, si_l, ga_n, n_cl, n_lt, n_le, n_eq, n_add, n_mul, n_sub, n_eqm, n_meq, n_mm, n_mlt, n_mle, n_ltm, Option.bind_some, if_pos, if_neg, i_12]
      exact ⟨_, rfl, g⟩) 0 (0, m) (by omega) ⟨rfl, StM_ext h (fun f j _ => by unfold imageS3; rw [if_neg (by omega)])⟩
def undoS0 (X : Sn) (k : Nat) : Sn := fun x y => if (x = 1 ∨ x = 2 ∨ x = 3 ∨ x = 5) ∧ y < k then X (x + 20) y else X x y
theorem undo_l0 {m : Mm} {X : Sn} {ld : Nat → List Cl} {it : Nat → Nat → Int64} (h : StM m X ld it) : ∃ e, iter Mo_undo_l44 (0, m) = some e ∧ StM e (undoS0 X 7) ld it :=
  iter_for (step := Mo_undo_l44) (fun i s => s.1 = nI i ∧ StM s.2 (undoS0 X i) ld it) 7 (fun e => StM e (undoS0 X 7) ld it)
    (by
      rintro i ⟨s1, s2⟩ hi ⟨hs, g⟩
      replace hs : s1 = nI i := hs
      subst hs
      replace g : StM s2 (undoS0 X i) ld it := g
      have r1 : s2.1 26 i = nI (X 21 i) := (rF21 g.1 hi).trans (by unfold undoS0; rw [if_neg (by omega)])
      have r2 : s2.1 27 i = nI (X 22 i) := (rF22 g.1 hi).trans (by unfold undoS0; rw [if_neg (by omega)])
      have r3 : s2.1 28 i = nI (X 23 i) := (rF23 g.1 hi).trans (by unfold undoS0; rw [if_neg (by omega)])
      have r5 : s2.1 29 i = nI (X 25 i) := (rF25 g.1 hi).trans (by unfold undoS0; rw [if_neg (by omega)])
      unfold Mo_undo_l44
      simp (disch := omega) only [si_e, si_ne, si_nj, sl_r, si_l, ga_n, n_cl, n_lt, n_le, n_eq, n_add, n_mul, n_sub, n_eqm, n_meq, n_mm, n_mlt, n_mle, n_ltm, Option.bind_some, if_pos, if_neg, i_1, i_7, r1, r2, r3, r5]
      refine ⟨_, rfl, rfl, ?_⟩
      refine StM_ext (StM_set (f := 5) (i := i) (v := X 25 i) (StM_set (f := 3) (i := i) (v := X 23 i) (StM_set (f := 2) (i := i) (v := X 22 i) (StM_set (f := 1) (i := i) (v := X 21 i) g hi (by decide) rfl) hi (by decide) rfl) hi (by decide) rfl) hi (by decide) rfl) (fun f j _ => ?_)
      have hf : f = 1 ∨ f = 2 ∨ f = 3 ∨ f = 5 ∨ (f ≠ 1 ∧ f ≠ 2 ∧ f ≠ 3 ∧ f ≠ 5) := by omega
      unfold undoS0
      by_cases e : j = i
      · subst e
        rcases hf with rfl | rfl | rfl | rfl | ho
        · refine Eq.trans ?_ (if_pos (by omega)).symm
          simp (disch := omega) only [su_e, su_ne] <;> rfl
        · refine Eq.trans ?_ (if_pos (by omega)).symm
          simp (disch := omega) only [su_e, su_ne] <;> rfl
        · refine Eq.trans ?_ (if_pos (by omega)).symm
          simp (disch := omega) only [su_e, su_ne] <;> rfl
        · refine Eq.trans ?_ (if_pos (by omega)).symm
          simp (disch := omega) only [su_e, su_ne] <;> rfl
        · simp (disch := omega) only [su_ne, if_neg]
      · simp (disch := omega) only [su_nj]
        by_cases e1 : (f = 1 ∨ f = 2 ∨ f = 3 ∨ f = 5) ∧ j < i
        · rw [if_pos e1, if_pos (by omega)]
        · rw [if_neg e1, if_neg (by omega)])
    (by
      rintro ⟨s1, s2⟩ ⟨hs, g⟩
      replace hs : s1 = nI 7 := hs
      subst hs
      unfold Mo_undo_l44
      simp (disch := omega) only [si_e, si_ne, si_nj, sl_r, si_l, ga_n, n_cl, n_lt, n_le, n_eq, n_add, n_mul, n_sub, n_eqm, n_meq, n_mm, n_mlt, n_mle, n_ltm, Option.bind_some, if_pos, if_neg, i_7]
      exact ⟨_, rfl, g⟩) 0 (0, m) (by omega) ⟨rfl, StM_ext h (fun f j _ => by unfold undoS0; rw [if_neg (by omega)])⟩
def undoS1 (X : Sn) (k : Nat) : Sn := fun x y => if (x = 4) ∧ y < k then X (x + 20) y else X x y
theorem undo_l1 {m : Mm} {X : Sn} {ld : Nat → List Cl} {it : Nat → Nat → Int64} (h : StM m X ld it) : ∃ e, iter Mo_undo_l106 (0, m) = some e ∧ StM e (undoS1 X 49) ld it :=
  iter_for (step := Mo_undo_l106) (fun i s => s.1 = nI i ∧ StM s.2 (undoS1 X i) ld it) 49 (fun e => StM e (undoS1 X 49) ld it)
    (by
      rintro i ⟨s1, s2⟩ hi ⟨hs, g⟩
      replace hs : s1 = nI i := hs
      subst hs
      replace g : StM s2 (undoS1 X i) ld it := g
      have r4 : s2.1 30 i = nI (X 24 i) := (rF24 g.1 hi).trans (by unfold undoS1; rw [if_neg (by omega)])
      unfold Mo_undo_l106
      simp (disch := omega) only [si_e, si_ne, si_nj, sl_r, si_l, ga_n, n_cl, n_lt, n_le, n_eq, n_add, n_mul, n_sub, n_eqm, n_meq, n_mm, n_mlt, n_mle, n_ltm, Option.bind_some, if_pos, if_neg, i_1, i_49, r4]
      refine ⟨_, rfl, rfl, ?_⟩
      refine StM_ext (StM_set (f := 4) (i := i) (v := X 24 i) g hi (by decide) rfl) (fun f j _ => ?_)
      have hf : f = 4 ∨ (f ≠ 4) := by omega
      unfold undoS1
      by_cases e : j = i
      · subst e
        rcases hf with rfl | ho
        · refine Eq.trans ?_ (if_pos (by omega)).symm
          simp (disch := omega) only [su_e, su_ne] <;> rfl
        · simp (disch := omega) only [su_ne, if_neg]
      · simp (disch := omega) only [su_nj]
        by_cases e1 : (f = 4) ∧ j < i
        · rw [if_pos e1, if_pos (by omega)]
        · rw [if_neg e1, if_neg (by omega)])
    (by
      rintro ⟨s1, s2⟩ ⟨hs, g⟩
      replace hs : s1 = nI 49 := hs
      subst hs
      unfold Mo_undo_l106
      simp (disch := omega) only [si_e, si_ne, si_nj, sl_r, si_l, ga_n, n_cl, n_lt, n_le, n_eq, n_add, n_mul, n_sub, n_eqm, n_meq, n_mm, n_mlt, n_mle, n_ltm, Option.bind_some, if_pos, if_neg, i_49]
      exact ⟨_, rfl, g⟩) 0 (0, m) (by omega) ⟨rfl, StM_ext h (fun f j _ => by unfold undoS1; rw [if_neg (by omega)])⟩
def undoS2 (X : Sn) (k : Nat) : Sn := fun x y => if (x = 7 ∨ x = 8 ∨ x = 9) ∧ y < k then X (x + 20) y else X x y
theorem undo_l2 {m : Mm} {X : Sn} {ld : Nat → List Cl} {it : Nat → Nat → Int64} (h : StM m X ld it) : ∃ e, iter Mo_undo_l132 (0, m) = some e ∧ StM e (undoS2 X 8) ld it :=
  iter_for (step := Mo_undo_l132) (fun i s => s.1 = nI i ∧ StM s.2 (undoS2 X i) ld it) 8 (fun e => StM e (undoS2 X 8) ld it)
    (by
      rintro i ⟨s1, s2⟩ hi ⟨hs, g⟩
      replace hs : s1 = nI i := hs
      subst hs
      replace g : StM s2 (undoS2 X i) ld it := g
      have r7 : s2.1 31 i = nI (X 27 i) := (rF27 g.1 hi).trans (by unfold undoS2; rw [if_neg (by omega)])
      have r8 : s2.1 32 i = nI (X 28 i) := (rF28 g.1 hi).trans (by unfold undoS2; rw [if_neg (by omega)])
      have r9 : s2.1 33 i = nI (X 29 i) := (rF29 g.1 hi).trans (by unfold undoS2; rw [if_neg (by omega)])
      unfold Mo_undo_l132
      simp (disch := omega) only [si_e, si_ne, si_nj, sl_r, si_l, ga_n, n_cl, n_lt, n_le, n_eq, n_add, n_mul, n_sub, n_eqm, n_meq, n_mm, n_mlt, n_mle, n_ltm, Option.bind_some, if_pos, if_neg, i_1, i_8, r7, r8, r9]
      refine ⟨_, rfl, rfl, ?_⟩
      refine StM_ext (StM_set (f := 9) (i := i) (v := X 29 i) (StM_set (f := 8) (i := i) (v := X 28 i) (StM_set (f := 7) (i := i) (v := X 27 i) g hi (by decide) rfl) hi (by decide) rfl) hi (by decide) rfl) (fun f j _ => ?_)
      have hf : f = 7 ∨ f = 8 ∨ f = 9 ∨ (f ≠ 7 ∧ f ≠ 8 ∧ f ≠ 9) := by omega
      unfold undoS2
      by_cases e : j = i
      · subst e
        rcases hf with rfl | rfl | rfl | ho
        · refine Eq.trans ?_ (if_pos (by omega)).symm
          simp (disch := omega) only [su_e, su_ne] <;> rfl
        · refine Eq.trans ?_ (if_pos (by omega)).symm
          simp (disch := omega) only [su_e, su_ne] <;> rfl
        · refine Eq.trans ?_ (if_pos (by omega)).symm
          simp (disch := omega) only [su_e, su_ne] <;> rfl
        · simp (disch := omega) only [su_ne, if_neg]
      · simp (disch := omega) only [su_nj]
        by_cases e1 : (f = 7 ∨ f = 8 ∨ f = 9) ∧ j < i
        · rw [if_pos e1, if_pos (by omega)]
        · rw [if_neg e1, if_neg (by omega)])
    (by
      rintro ⟨s1, s2⟩ ⟨hs, g⟩
      replace hs : s1 = nI 8 := hs
      subst hs
      unfold Mo_undo_l132
      simp (disch := omega) only [si_e, si_ne, si_nj, sl_r, si_l, ga_n, n_cl, n_lt, n_le, n_eq, n_add, n_mul, n_sub, n_eqm, n_meq, n_mm, n_mlt, n_mle, n_ltm, Option.bind_some, if_pos, if_neg, i_8]
      exact ⟨_, rfl, g⟩) 0 (0, m) (by omega) ⟨rfl, StM_ext h (fun f j _ => by unfold undoS2; rw [if_neg (by omega)])⟩
def undoS3 (X : Sn) (k : Nat) : Sn := fun x y => if (x = 11) ∧ y < k then X (x + 20) y else X x y
theorem undo_l3 {m : Mm} {X : Sn} {ld : Nat → List Cl} {it : Nat → Nat → Int64} (h : StM m X ld it) : ∃ e, iter Mo_undo_l182 (0, m) = some e ∧ StM e (undoS3 X 12) ld it :=
  iter_for (step := Mo_undo_l182) (fun i s => s.1 = nI i ∧ StM s.2 (undoS3 X i) ld it) 12 (fun e => StM e (undoS3 X 12) ld it)
    (by
      rintro i ⟨s1, s2⟩ hi ⟨hs, g⟩
      replace hs : s1 = nI i := hs
      subst hs
      replace g : StM s2 (undoS3 X i) ld it := g
      have r11 : s2.1 34 i = nI (X 31 i) := (rF31 g.1 hi).trans (by unfold undoS3; rw [if_neg (by omega)])
      unfold Mo_undo_l182
      simp (disch := omega) only [si_e, si_ne, si_nj, sl_r, si_l, ga_n, n_cl, n_lt, n_le, n_eq, n_add, n_mul, n_sub, n_eqm, n_meq, n_mm, n_mlt, n_mle, n_ltm, Option.bind_some, if_pos, if_neg, i_1, i_12, r11]
      refine ⟨_, rfl, rfl, ?_⟩
      refine StM_ext (StM_set (f := 11) (i := i) (v := X 31 i) g hi (by decide) rfl) (fun f j _ => ?_)
      have hf : f = 11 ∨ (f ≠ 11) := by omega
      unfold undoS3
      by_cases e : j = i
      · subst e
        rcases hf with rfl | ho
        · refine Eq.trans ?_ (if_pos (by omega)).symm
          simp (disch := omega) only [su_e, su_ne] <;> rfl
        · simp (disch := omega) only [su_ne, if_neg]
      · simp (disch := omega) only [su_nj]
        by_cases e1 : (f = 11) ∧ j < i
        · rw [if_pos e1, if_pos (by omega)]
        · rw [if_neg e1, if_neg (by omega)])
    (by
      rintro ⟨s1, s2⟩ ⟨hs, g⟩
      replace hs : s1 = nI 12 := hs
      subst hs
      unfold Mo_undo_l182
      simp (disch := omega) only [si_e, si_ne, si_nj, sl_r, si_l, ga_n, n_cl, n_lt, n_le, n_eq, n_add, n_mul, n_sub, n_eqm, n_meq, n_mm, n_mlt, n_mle, n_ltm, Option.bind_some, if_pos, if_neg, i_12]
      exact ⟨_, rfl, g⟩) 0 (0, m) (by omega) ⟨rfl, StM_ext h (fun f j _ => by unfold undoS3; rw [if_neg (by omega)])⟩
theorem cpi_ne {m : Mm} {a b : Nat} {sp dp n : Int32} {x j : Nat} (h : x ≠ b) : (cpi m a b sp dp n).1 x j = m.1 x j := by
  unfold cpi sia
  dsimp only
  rw [if_neg h]
theorem cp7 : cpOk 0 0 7 7 7 = true := by decide
theorem cp49 : cpOk 0 0 49 49 49 = true := by decide
theorem cp8 : cpOk 0 0 8 8 8 = true := by decide
theorem cp12 : cpOk 0 0 12 12 12 = true := by decide
theorem gq_t {α : Type} (x : Option α) : gq true x = x := rfl
def imgS (S : Sn) : Sn := fun x y => if 20 ≤ x ∧ x ≤ 32 then S (x - 20) y else if x = 40 then 1 else S x y
def undS (S : Sn) : Sn := fun x y => if x ≤ 12 then S (x + 20) y else S x y
theorem imgS_hi {S : Sn} {x y : Nat} (h : 20 ≤ x ∧ x ≤ 32) : imgS S x y = S (x - 20) y := by unfold imgS; rw [if_pos h]
theorem imgS_40 {S : Sn} {y : Nat} : imgS S 40 y = 1 := by unfold imgS; rw [if_neg (by omega), if_pos rfl]
theorem imgS_lo {S : Sn} {x y : Nat} (h : ¬ (20 ≤ x ∧ x ≤ 32)) (h' : x ≠ 40) : imgS S x y = S x y := by unfold imgS; rw [if_neg h, if_neg h']
theorem undS_lo {S : Sn} {x y : Nat} (h : x ≤ 12) : undS S x y = S (x + 20) y := by unfold undS; rw [if_pos h]
theorem undS_hi {S : Sn} {x y : Nat} (h : ¬ x ≤ 12) : undS S x y = S x y := by unfold undS; rw [if_neg h]
theorem image_c {m : Mm} {S : Sn} {ld : Nat → List Cl} {it : Nat → Nat → Int64} (h : StC m S ld it) (hW : Wf S) : ∃ m', Wo_becomeAs 21 m 11 = some m' ∧ StC m' (su (sg (su (sg (sg (sg (su (sg (sg (sg (sg (sg (su S 20 0 (S 0 0)) 21 ((su S 20 0 (S 0 0)) 1)) 22 ((sg (su S 20 0 (S 0 0)) 21 ((su S 20 0 (S 0 0)) 1)) 2)) 23 ((sg (sg (su S 20 0 (S 0 0)) 21 ((su S 20 0 (S 0 0)) 1)) 22 ((sg (su S 20 0 (S 0 0)) 21 ((su S 20 0 (S 0 0)) 1)) 2)) 3)) 24 ((sg (sg (sg (su S 20 0 (S 0 0)) 21 ((su S 20 0 (S 0 0)) 1)) 22 ((sg (su S 20 0 (S 0 0)) 21 ((su S 20 0 (S 0 0)) 1)) 2)) 23 ((sg (sg (su S 20 0 (S 0 0)) 21 ((su S 20 0 (S 0 0)) 1)) 22 ((sg (su S 20 0 (S 0 0)) 21 ((su S 20 0 (S 0 0)) 1)) 2)) 3)) 4)) 25 ((sg (sg (sg (sg (su S 20 0 (S 0 0)) 21 ((su S 20 0 (S 0 0)) 1)) 22 ((sg (su S 20 0 (S 0 0)) 21 ((su S 20 0 (S 0 0)) 1)) 2)) 23 ((sg (sg (su S 20 0 (S 0 0)) 21 ((su S 20 0 (S 0 0)) 1)) 22 ((sg (su S 20 0 (S 0 0)) 21 ((su S 20 0 (S 0 0)) 1)) 2)) 3)) 24 ((sg (sg (sg (su S 20 0 (S 0 0)) 21 ((su S 20 0 (S 0 0)) 1)) 22 ((sg (su S 20 0 (S 0 0)) 21 ((su S 20 0 (S 0 0)) 1)) 2)) 23 ((sg (sg (su S 20 0 (S 0 0)) 21 ((su S 20 0 (S 0 0)) 1)) 22 ((sg (su S 20 0 (S 0 0)) 21 ((su S 20 0 (S 0 0)) 1)) 2)) 3)) 4)) 5)) 26 0 (S 6 0)) 27 ((su (sg (sg (sg (sg (sg (su S 20 0 (S 0 0)) 21 ((su S 20 0 (S 0 0)) 1)) 22 ((sg (su S 20 0 (S 0 0)) 21 ((su S 20 0 (S 0 0)) 1)) 2)) 23 ((sg (sg (su S 20 0 (S 0 0)) 21 ((su S 20 0 (S 0 0)) 1)) 22 ((sg (su S 20 0 (S 0 0)) 21 ((su S 20 0 (S 0 0)) 1)) 2)) 3)) 24 ((sg (sg (sg (su S 20 0 (S 0 0)) 21 ((su S 20 0 (S 0 0)) 1)) 22 ((sg (su S 20 0 (S 0 0)) 21 ((su S 20 0 (S 0 0)) 1)) 2)) 23 ((sg (sg (su S 20 0 (S 0 0)) 21 ((su S 20 0 (S 0 0)) 1)) 22 ((sg (su S 20 0 (S 0 0)) 21 ((su S 20 0 (S 0 0)) 1)) 2)) 3)) 4)) 25 ((sg (sg (sg (sg (su S 20 0 (S 0 0)) 21 ((su S 20 0 (S 0 0)) 1)) 22 ((sg (su S 20 0 (S 0 0)) 21 ((su S 20 0 (S 0 0)) 1)) 2)) 23 ((sg (sg (su S 20 0 (S 0 0)) 21 ((su S 20 0 (S 0 0)) 1)) 22 ((sg (su S 20 0 (S 0 0)) 21 ((su S 20 0 (S 0 0)) 1)) 2)) 3)) 24 ((sg (sg (sg (su S 20 0 (S 0 0)) 21 ((su S 20 0 (S 0 0)) 1)) 22 ((sg (su S 20 0 (S 0 0)) 21 ((su S 20 0 (S 0 0)) 1)) 2)) 23 ((sg (sg (su S 20 0 (S 0 0)) 21 ((su S 20 0 (S 0 0)) 1)) 22 ((sg (su S 20 0 (S 0 0)) 21 ((su S 20 0 (S 0 0)) 1)) 2)) 3)) 4)) 5)) 26 0 (S 6 0)) 7)) 28 ((sg (su (sg (sg (sg (sg (sg (su S 20 0 (S 0 0)) 21 ((su S 20 0 (S 0 0)) 1)) 22 ((sg (su S 20 0 (S 0 0)) 21 ((su S 20 0 (S 0 0)) 1)) 2)) 23 ((sg (sg (su S 20 0 (S 0 0)) 21 ((su S 20 0 (S 0 0)) 1)) 22 ((sg (su S 20 0 (S 0 0)) 21 ((su S 20 0 (S 0 0)) 1)) 2)) 3)) 24 ((sg (sg (sg (su S 20 0 (S 0 0)) 21 ((su S 20 0 (S 0 0)) 1)) 22 ((sg (su S 20 0 (S 0 0)) 21 ((su S 20 0 (S 0 0)) 1)) 2)) 23 ((sg (sg (su S 20 0 (S 0 0)) 21 ((su S 20 0 (S 0 0)) 1)) 22 ((sg (su S 20 0 (S 0 0)) 21 ((su S 20 0 (S 0 0)) 1)) 2)) 3)) 4)) 25 ((sg (sg (sg (sg (su S 20 0 (S 0 0)) 21 ((su S 20 0 (S 0 0)) 1)) 22 ((sg (su S 20 0 (S 0 0)) 21 ((su S 20 0 (S 0 0)) 1)) 2)) 23 ((sg (sg (su S 20 0 (S 0 0)) 21 ((su S 20 0 (S 0 0)) 1)) 22 ((sg (su S 20 0 (S 0 0)) 21 ((su S 20 0 (S 0 0)) 1)) 2)) 3)) 24 ((sg (sg (sg (su S 20 0 (S 0 0)) 21 ((su S 20 0 (S 0 0)) 1)) 22 ((sg (su S 20 0 (S 0 0)) 21 ((su S 20 0 (S 0 0)) 1)) 2)) 23 ((sg (sg (su S 20 0 (S 0 0)) 21 ((su S 20 0 (S 0 0)) 1)) 22 ((sg (su S 20 0 (S 0 0)) 21 ((su S 20 0 (S 0 0)) 1)) 2)) 3)) 4)) 5)) 26 0 (S 6 0)) 27 ((su (sg (sg (sg (sg (sg (su S 20 0 (S 0 0)) 21 ((su S 20 0 (S 0 0)) 1)) 22 ((sg (su S 20 0 (S 0 0)) 21 ((su S 20 0 (S 0 0)) 1)) 2)) 23 ((sg (sg (su S 20 0 (S 0 0)) 21 ((su S 20 0 (S 0 0)) 1)) 22 ((sg (su S 20 0 (S 0 0)) 21 ((su S 20 0 (S 0 0)) 1)) 2)) 3)) 24 ((sg (sg (sg (su S 20 0 (S 0 0)) 21 ((su S 20 0 (S 0 0)) 1)) 22 ((sg (su S 20 0 (S 0 0)) 21 ((su S 20 0 (S 0 0)) 1)) 2)) 23 ((sg (sg (su S 20 0 (S 0 0)) 21 ((su S 20 0 (S 0 0)) 1)) 22 ((sg (su S 20 0 (S 0 0)) 21 ((su S 20 0 (S 0 0)) 1)) 2)) 3)) 4)) 25 ((sg (sg (sg (sg (su S 20 0 (S 0 0)) 21 ((su S 20 0 (S 0 0)) 1)) 22 ((sg (su S 20 0 (S 0 0)) 21 ((su S 20 0 (S 0 0)) 1)) 2)) 23 ((sg (sg (su S 20 0 (S 0 0)) 21 ((su S 20 0 (S 0 0)) 1)) 22 ((sg (su S 20 0 (S 0 0)) 21 ((su S 20 0 (S 0 0)) 1)) 2)) 3)) 24 ((sg (sg (sg (su S 20 0 (S 0 0)) 21 ((su S 20 0 (S 0 0)) 1)) 22 ((sg (su S 20 0 (S 0 0)) 21 ((su S 20 0 (S 0 0)) 1)) 2)) 23 ((sg (sg (su S 20 0 (S 0 0)) 21 ((su S 20 0 (S 0 0)) 1)) 22 ((sg (su S 20 0 (S 0 0)) 21 ((su S 20 0 (S 0 0)) 1)) 2)) 3)) 4)) 5)) 26 0 (S 6 0)) 7)) 8)) 29 ((sg (sg (su (sg (sg (sg (sg (sg (su S 20 0 (S 0 0)) 21 ((su S 20 0 (S 0 0)) 1)) 22 ((sg (su S 20 0 (S 0 0)) 21 ((su S 20 0 (S 0 0)) 1)) 2)) 23 ((sg (sg (su S 20 0 (S 0 0)) 21 ((su S 20 0 (S 0 0)) 1)) 22 ((sg (su S 20 0 (S 0 0)) 21 ((su S 20 0 (S 0 0)) 1)) 2)) 3)) 24 ((sg (sg (sg (su S 20 0 (S 0 0)) 21 ((su S 20 0 (S 0 0)) 1)) 22 ((sg (su S 20 0 (S 0 0)) 21 ((su S 20 0 (S 0 0)) 1)) 2)) 23 ((sg (sg (su S 20 0 (S 0 0)) 21 ((su S 20 0 (S 0 0)) 1)) 22 ((sg (su S 20 0 (S 0 0)) 21 ((su S 20 0 (S 0 0)) 1)) 2)) 3)) 4)) 25 ((sg (sg (sg (sg (su S 20 0 (S 0 0)) 21 ((su S 20 0 (S 0 0)) 1)) 22 ((sg (su S 20 0 (S 0 0)) 21 ((su S 20 0 (S 0 0)) 1)) 2)) 23 ((sg (sg (su S 20 0 (S 0 0)) 21 ((su S 20 0 (S 0 0)) 1)) 22 ((sg (su S 20 0 (S 0 0)) 21 ((su S 20 0 (S 0 0)) 1)) 2)) 3)) 24 ((sg (sg (sg (su S 20 0 (S 0 0)) 21 ((su S 20 0 (S 0 0)) 1)) 22 ((sg (su S 20 0 (S 0 0)) 21 ((su S 20 0 (S 0 0)) 1)) 2)) 23 ((sg (sg (su S 20 0 (S 0 0)) 21 ((su S 20 0 (S 0 0)) 1)) 22 ((sg (su S 20 0 (S 0 0)) 21 ((su S 20 0 (S 0 0)) 1)) 2)) 3)) 4)) 5)) 26 0 (S 6 0)) 27 ((su (sg (sg (sg (sg (sg (su S 20 0 (S 0 0)) 21 ((su S 20 0 (S 0 0)) 1)) 22 ((sg (su S 20 0 (S 0 0)) 21 ((su S 20 0 (S 0 0)) 1)) 2)) 23 ((sg (sg (su S 20 0 (S 0 0)) 21 ((su S 20 0 (S 0 0)) 1)) 22 ((sg (su S 20 0 (S 0 0)) 21 ((su S 20 0 (S 0 0)) 1)) 2)) 3)) 24 ((sg (sg (sg (su S 20 0 (S 0 0)) 21 ((su S 20 0 (S 0 0)) 1)) 22 ((sg (su S 20 0 (S 0 0)) 21 ((su S 20 0 (S 0 0)) 1)) 2)) 23 ((sg (sg (su S 20 0 (S 0 0)) 21 ((su S 20 0 (S 0 0)) 1)) 22 ((sg (su S 20 0 (S 0 0)) 21 ((su S 20 0 (S 0 0)) 1)) 2)) 3)) 4)) 25 ((sg (sg (sg (sg (su S 20 0 (S 0 0)) 21 ((su S 20 0 (S 0 0)) 1)) 22 ((sg (su S 20 0 (S 0 0)) 21 ((su S 20 0 (S 0 0)) 1)) 2)) 23 ((sg (sg (su S 20 0 (S 0 0)) 21 ((su S 20 0 (S 0 0)) 1)) 22 ((sg (su S 20 0 (S 0 0)) 21 ((su S 20 0 (S 0 0)) 1)) 2)) 3)) 24 ((sg (sg (sg (su S 20 0 (S 0 0)) 21 ((su S 20 0 (S 0 0)) 1)) 22 ((sg (su S 20 0 (S 0 0)) 21 ((su S 20 0 (S 0 0)) 1)) 2)) 23 ((sg (sg (su S 20 0 (S 0 0)) 21 ((su S 20 0 (S 0 0)) 1)) 22 ((sg (su S 20 0 (S 0 0)) 21 ((su S 20 0 (S 0 0)) 1)) 2)) 3)) 4)) 5)) 26 0 (S 6 0)) 7)) 28 ((sg (su (sg (sg (sg (sg (sg (su S 20 0 (S 0 0)) 21 ((su S 20 0 (S 0 0)) 1)) 22 ((sg (su S 20 0 (S 0 0)) 21 ((su S 20 0 (S 0 0)) 1)) 2)) 23 ((sg (sg (su S 20 0 (S 0 0)) 21 ((su S 20 0 (S 0 0)) 1)) 22 ((sg (su S 20 0 (S 0 0)) 21 ((su S 20 0 (S 0 0)) 1)) 2)) 3)) 24 ((sg (sg (sg (su S 20 0 (S 0 0)) 21 ((su S 20 0 (S 0 0)) 1)) 22 ((sg (su S 20 0 (S 0 0)) 21 ((su S 20 0 (S 0 0)) 1)) 2)) 23 ((sg (sg (su S 20 0 (S 0 0)) 21 ((su S 20 0 (S 0 0)) 1)) 22 ((sg (su S 20 0 (S 0 0)) 21 ((su S 20 0 (S 0 0)) 1)) 2)) 3)) 4)) 25 ((sg (sg (sg (sg (su S 20 0 (S 0 0)) 21 ((su S 20 0 (S 0 0)) 1)) 22 ((sg (su S 20 0 (S 0 0)) 21 ((su S 20 0 (S 0 0)) 1)) 2)) 23 ((sg (sg (su S 20 0 (S 0 0)) 21 ((su S 20 0 (S 0 0)) 1)) 22 ((sg (su S 20 0 (S 0 0)) 21 ((su S 20 0 (S 0 0)) 1)) 2)) 3)) 24 ((sg (sg (sg (su S 20 0 (S 0 0)) 21 ((su S 20 0 (S 0 0)) 1)) 22 ((sg (su S 20 0 (S 0 0)) 21 ((su S 20 0 (S 0 0)) 1)) 2)) 23 ((sg (sg (su S 20 0 (S 0 0)) 21 ((su S 20 0 (S 0 0)) 1)) 22 ((sg (su S 20 0 (S 0 0)) 21 ((su S 20 0 (S 0 0)) 1)) 2)) 3)) 4)) 5)) 26 0 (S 6 0)) 27 ((su (sg (sg (sg (sg (sg (su S 20 0 (S 0 0)) 21 ((su S 20 0 (S 0 0)) 1)) 22 ((sg (su S 20 0 (S 0 0)) 21 ((su S 20 0 (S 0 0)) 1)) 2)) 23 ((sg (sg (su S 20 0 (S 0 0)) 21 ((su S 20 0 (S 0 0)) 1)) 22 ((sg (su S 20 0 (S 0 0)) 21 ((su S 20 0 (S 0 0)) 1)) 2)) 3)) 24 ((sg (sg (sg (su S 20 0 (S 0 0)) 21 ((su S 20 0 (S 0 0)) 1)) 22 ((sg (su S 20 0 (S 0 0)) 21 ((su S 20 0 (S 0 0)) 1)) 2)) 23 ((sg (sg (su S 20 0 (S 0 0)) 21 ((su S 20 0 (S 0 0)) 1)) 22 ((sg (su S 20 0 (S 0 0)) 21 ((su S 20 0 (S 0 0)) 1)) 2)) 3)) 4)) 25 ((sg (sg (sg (sg (su S 20 0 (S 0 0)) 21 ((su S 20 0 (S 0 0)) 1)) 22 ((sg (su S 20 0 (S 0 0)) 21 ((su S 20 0 (S 0 0)) 1)) 2)) 23 ((sg (sg (su S 20 0 (S 0 0)) 21 ((su S 20 0 (S 0 0)) 1)) 22 ((sg (su S 20 0 (S 0 0)) 21 ((su S 20 0 (S 0 0)) 1)) 2)) 3)) 24 ((sg (sg (sg (su S 20 0 (S 0 0)) 21 ((su S 20 0 (S 0 0)) 1)) 22 ((sg (su S 20 0 (S 0 0)) 21 ((su S 20 0 (S 0 0)) 1)) 2)) 23 ((sg (sg (su S 20 0 (S 0 0)) 21 ((su S 20 0 (S 0 0)) 1)) 22 ((sg (su S 20 0 (S 0 0)) 21 ((su S 20 0 (S 0 0)) 1)) 2)) 3)) 4)) 5)) 26 0 (S 6 0)) 7)) 8)) 9)) 30 0 (S 10 0)) 31 ((su (sg (sg (sg (su (sg (sg (sg (sg (sg (su S 20 0 (S 0 0)) 21 ((su S 20 0 (S 0 0)) 1)) 22 ((sg (su S 20 0 (S 0 0)) 21 ((su S 20 0 (S 0 0)) 1)) 2)) 23 ((sg (sg (su S 20 0 (S 0 0)) 21 ((su S 20 0 (S 0 0)) 1)) 22 ((sg (su S 20 0 (S 0 0)) 21 ((su S 20 0 (S 0 0)) 1)) 2)) 3)) 24 ((sg (sg (sg (su S 20 0 (S 0 0)) 21 ((su S 20 0 (S 0 0)) 1)) 22 ((sg (su S 20 0 (S 0 0)) 21 ((su S 20 0 (S 0 0)) 1)) 2)) 23 ((sg (sg (su S 20 0 (S 0 0)) 21 ((su S 20 0 (S 0 0)) 1)) 22 ((sg (su S 20 0 (S 0 0)) 21 ((su S 20 0 (S 0 0)) 1)) 2)) 3)) 4)) 25 ((sg (sg (sg (sg (su S 20 0 (S 0 0)) 21 ((su S 20 0 (S 0 0)) 1)) 22 ((sg (su S 20 0 (S 0 0)) 21 ((su S 20 0 (S 0 0)) 1)) 2)) 23 ((sg (sg (su S 20 0 (S 0 0)) 21 ((su S 20 0 (S 0 0)) 1)) 22 ((sg (su S 20 0 (S 0 0)) 21 ((su S 20 0 (S 0 0)) 1)) 2)) 3)) 24 ((sg (sg (sg (su S 20 0 (S 0 0)) 21 ((su S 20 0 (S 0 0)) 1)) 22 ((sg (su S 20 0 (S 0 0)) 21 ((su S 20 0 (S 0 0)) 1)) 2)) 23 ((sg (sg (su S 20 0 (S 0 0)) 21 ((su S 20 0 (S 0 0)) 1)) 22 ((sg (su S 20 0 (S 0 0)) 21 ((su S 20 0 (S 0 0)) 1)) 2)) 3)) 4)) 5)) 26 0 (S 6 0)) 27 ((su (sg (sg (sg (sg (sg (su S 20 0 (S 0 0)) 21 ((su S 20 0 (S 0 0)) 1)) 22 ((sg (su S 20 0 (S 0 0)) 21 ((su S 20 0 (S 0 0)) 1)) 2)) 23 ((sg (sg (su S 20 0 (S 0 0)) 21 ((su S 20 0 (S 0 0)) 1)) 22 ((sg (su S 20 0 (S 0 0)) 21 ((su S 20 0 (S 0 0)) 1)) 2)) 3)) 24 ((sg (sg (sg (su S 20 0 (S 0 0)) 21 ((su S 20 0 (S 0 0)) 1)) 22 ((sg (su S 20 0 (S 0 0)) 21 ((su S 20 0 (S 0 0)) 1)) 2)) 23 ((sg (sg (su S 20 0 (S 0 0)) 21 ((su S 20 0 (S 0 0)) 1)) 22 ((sg (su S 20 0 (S 0 0)) 21 ((su S 20 0 (S 0 0)) 1)) 2)) 3)) 4)) 25 ((sg (sg (sg (sg (su S 20 0 (S 0 0)) 21 ((su S 20 0 (S 0 0)) 1)) 22 ((sg (su S 20 0 (S 0 0)) 21 ((su S 20 0 (S 0 0)) 1)) 2)) 23 ((sg (sg (su S 20 0 (S 0 0)) 21 ((su S 20 0 (S 0 0)) 1)) 22 ((sg (su S 20 0 (S 0 0)) 21 ((su S 20 0 (S 0 0)) 1)) 2)) 3)) 24 ((sg (sg (sg (su S 20 0 (S 0 0)) 21 ((su S 20 0 (S 0 0)) 1)) 22 ((sg (su S 20 0 (S 0 0)) 21 ((su S 20 0 (S 0 0)) 1)) 2)) 23 ((sg (sg (su S 20 0 (S 0 0)) 21 ((su S 20 0 (S 0 0)) 1)) 22 ((sg (su S 20 0 (S 0 0)) 21 ((su S 20 0 (S 0 0)) 1)) 2)) 3)) 4)) 5)) 26 0 (S 6 0)) 7)) 28 ((sg (su (sg (sg (sg (sg (sg (su S 20 0 (S 0 0)) 21 ((su S 20 0 (S 0 0)) 1)) 22 ((sg (su S 20 0 (S 0 0)) 21 ((su S 20 0 (S 0 0)) 1)) 2)) 23 ((sg (sg (su S 20 0 (S 0 0)) 21 ((su S 20 0 (S 0 0)) 1)) 22 ((sg (su S 20 0 (S 0 0)) 21 ((su S 20 0 (S 0 0)) 1)) 2)) 3)) 24 ((sg (sg (sg (su S 20 0 (S 0 0)) 21 ((su S 20 0 (S 0 0)) 1)) 22 ((sg (su S 20 0 (S 0 0)) 21 ((su S 20 0 (S 0 0)) 1)) 2)) 23 ((sg (sg (su S 20 0 (S 0 0)) 21 ((su S 20 0 (S 0 0)) 1)) 22 ((sg (su S 20 0 (S 0 0)) 21 ((su S 20 0 (S 0 0)) 1)) 2)) 3)) 4)) 25 ((sg (sg (sg (sg (su S 20 0 (S 0 0)) 21 ((su S 20 0 (S 0 0)) 1)) 22 ((sg (su S 20 0 (S 0 0)) 21 ((su S 20 0 (S 0 0)) 1)) 2)) 23 ((sg (sg (su S 20 0 (S 0 0)) 21 ((su S 20 0 (S 0 0)) 1)) 22 ((sg (su S 20 0 (S 0 0)) 21 ((su S 20 0 (S 0 0)) 1)) 2)) 3)) 24 ((sg (sg (sg (su S 20 0 (S 0 0)) 21 ((su S 20 0 (S 0 0)) 1)) 22 ((sg (su S 20 0 (S 0 0)) 21 ((su S 20 0 (S 0 0)) 1)) 2)) 23 ((sg (sg (su S 20 0 (S 0 0)) 21 ((su S 20 0 (S 0 0)) 1)) 22 ((sg (su S 20 0 (S 0 0)) 21 ((su S 20 0 (S 0 0)) 1)) 2)) 3)) 4)) 5)) 26 0 (S 6 0)) 27 ((su (sg (sg (sg (sg (sg (su S 20 0 (S 0 0)) 21 ((su S 20 0 (S 0 0)) 1)) 22 ((sg (su S 20 0 (S 0 0)) 21 ((su S 20 0 (S 0 0)) 1)) 2)) 23 ((sg (sg (su S 20 0 (S 0 0)) 21 ((su S 20 0 (S 0 0)) 1)) 22 ((sg (su S 20 0 (S 0 0)) 21 ((su S 20 0 (S 0 0)) 1)) 2)) 3)) 24 ((sg (sg (sg (su S 20 0 (S 0 0)) 21 ((su S 20 0 (S 0 0)) 1)) 22 ((sg (su S 20 0 (S 0 0)) 21 ((su S 20 0 (S 0 0)) 1)) 2)) 23 ((sg (sg (su S 20 0 (S 0 0)) 21 ((su S 20 0 (S 0 0)) 1)) 22 ((sg (su S 20 0 (S 0 0)) 21 ((su S 20 0 (S 0 0)) 1)) 2)) 3)) 4)) 25 ((sg (sg (sg (sg (su S 20 0 (S 0 0)) 21 ((su S 20 0 (S 0 0)) 1)) 22 ((sg (su S 20 0 (S 0 0)) 21 ((su S 20 0 (S 0 0)) 1)) 2)) 23 ((sg (sg (su S 20 0 (S 0 0)) 21 ((su S 20 0 (S 0 0)) 1)) 22 ((sg (su S 20 0 (S 0 0)) 21 ((su S 20 0 (S 0 0)) 1)) 2)) 3)) 24 ((sg (sg (sg (su S 20 0 (S 0 0)) 21 ((su S 20 0 (S 0 0)) 1)) 22 ((sg (su S 20 0 (S 0 0)) 21 ((su S 20 0 (S 0 0)) 1)) 2)) 23 ((sg (sg (su S 20 0 (S 0 0)) 21 ((su S 20 0 (S 0 0)) 1)) 22 ((sg (su S 20 0 (S 0 0)) 21 ((su S 20 0 (S 0 0)) 1)) 2)) 3)) 4)) 5)) 26 0 (S 6 0)) 7)) 8)) 29 ((sg (sg (su (sg (sg (sg (sg (sg (su S 20 0 (S 0 0)) 21 ((su S 20 0 (S 0 0)) 1)) 22 ((sg (su S 20 0 (S 0 0)) 21 ((su S 20 0 (S 0 0)) 1)) 2)) 23 ((sg (sg (su S 20 0 (S 0 0)) 21 ((su S 20 0 (S 0 0)) 1)) 22 ((sg (su S 20 0 (S 0 0)) 21 ((su S 20 0 (S 0 0)) 1)) 2)) 3)) 24 ((sg (sg (sg (su S 20 0 (S 0 0)) 21 ((su S 20 0 (S 0 0)) 1)) 22 ((sg (su S 20 0 (S 0 0)) 21 ((su S 20 0 (S 0 0)) 1)) 2)) 23 ((sg (sg (su S 20 0 (S 0 0)) 21 ((su S 20 0 (S 0 0)) 1)) 22 ((sg (su S 20 0 (S 0 0)) 21 ((su S 20 0 (S 0 0)) 1)) 2)) 3)) 4)) 25 ((sg (sg (sg (sg (su S 20 0 (S 0 0)) 21 ((su S 20 0 (S 0 0)) 1)) 22 ((sg (su S 20 0 (S 0 0)) 21 ((su S 20 0 (S 0 0)) 1)) 2)) 23 ((sg (sg (su S 20 0 (S 0 0)) 21 ((su S 20 0 (S 0 0)) 1)) 22 ((sg (su S 20 0 (S 0 0)) 21 ((su S 20 0 (S 0 0)) 1)) 2)) 3)) 24 ((sg (sg (sg (su S 20 0 (S 0 0)) 21 ((su S 20 0 (S 0 0)) 1)) 22 ((sg (su S 20 0 (S 0 0)) 21 ((su S 20 0 (S 0 0)) 1)) 2)) 23 ((sg (sg (su S 20 0 (S 0 0)) 21 ((su S 20 0 (S 0 0)) 1)) 22 ((sg (su S 20 0 (S 0 0)) 21 ((su S 20 0 (S 0 0)) 1)) 2)) 3)) 4)) 5)) 26 0 (S 6 0)) 27 ((su (sg (sg (sg (sg (sg (su S 20 0 (S 0 0)) 21 ((su S 20 0 (S 0 0)) 1)) 22 ((sg (su S 20 0 (S 0 0)) 21 ((su S 20 0 (S 0 0)) 1)) 2)) 23 ((sg (sg (su S 20 0 (S 0 0)) 21 ((su S 20 0 (S 0 0)) 1)) 22 ((sg (su S 20 0 (S 0 0)) 21 ((su S 20 0 (S 0 0)) 1)) 2)) 3)) 24 ((sg (sg (sg (su S 20 0 (S 0 0)) 21 ((su S 20 0 (S 0 0)) 1)) 22 ((sg (su S 20 0 (S 0 0)) 21 ((su S 20 0 (S 0 0)) 1)) 2)) 23 ((sg (sg (su S 20 0 (S 0 0)) 21 ((su S 20 0 (S 0 0)) 1)) 22 ((sg (su S 20 0 (S 0 0)) 21 ((su S 20 0 (S 0 0)) 1)) 2)) 3)) 4)) 25 ((sg (sg (sg (sg (su S 20 0 (S 0 0)) 21 ((su S 20 0 (S 0 0)) 1)) 22 ((sg (su S 20 0 (S 0 0)) 21 ((su S 20 0 (S 0 0)) 1)) 2)) 23 ((sg (sg (su S 20 0 (S 0 0)) 21 ((su S 20 0 (S 0 0)) 1)) 22 ((sg (su S 20 0 (S 0 0)) 21 ((su S 20 0 (S 0 0)) 1)) 2)) 3)) 24 ((sg (sg (sg (su S 20 0 (S 0 0)) 21 ((su S 20 0 (S 0 0)) 1)) 22 ((sg (su S 20 0 (S 0 0)) 21 ((su S 20 0 (S 0 0)) 1)) 2)) 23 ((sg (sg (su S 20 0 (S 0 0)) 21 ((su S 20 0 (S 0 0)) 1)) 22 ((sg (su S 20 0 (S 0 0)) 21 ((su S 20 0 (S 0 0)) 1)) 2)) 3)) 4)) 5)) 26 0 (S 6 0)) 7)) 28 ((sg (su (sg (sg (sg (sg (sg (su S 20 0 (S 0 0)) 21 ((su S 20 0 (S 0 0)) 1)) 22 ((sg (su S 20 0 (S 0 0)) 21 ((su S 20 0 (S 0 0)) 1)) 2)) 23 ((sg (sg (su S 20 0 (S 0 0)) 21 ((su S 20 0 (S 0 0)) 1)) 22 ((sg (su S 20 0 (S 0 0)) 21 ((su S 20 0 (S 0 0)) 1)) 2)) 3)) 24 ((sg (sg (sg (su S 20 0 (S 0 0)) 21 ((su S 20 0 (S 0 0)) 1)) 22 ((sg (su S 20 0 (S 0 0)) 21 ((su S 20 0 (S 0 0)) 1)) 2)) 23 ((sg (sg (su S 20 0 (S 0 0)) 21 ((su S 20 0 (S 0 0)) 1)) 22 ((sg (su S 20 0 (S 0 0)) 21 ((su S 20 0 (S 0 0)) 1)) 2)) 3)) 4)) 25 ((sg (sg (sg (sg (su S 20 0 (S 0 0)) 21 ((su S 20 0 (S 0 0)) 1)) 22 ((sg (su S 20 0 (S 0 0)) 21 ((su S 20 0 (S 0 0)) 1)) 2)) 23 ((sg (sg (su S 20 0 (S 0 0)) 21 ((su S 20 0 (S 0 0)) 1)) 22 ((sg (su S 20 0 (S 0 0)) 21 ((su S 20 0 (S 0 0)) 1)) 2)) 3)) 24 ((sg (sg (sg (su S 20 0 (S 0 0)) 21 ((su S 20 0 (S 0 0)) 1)) 22 ((sg (su S 20 0 (S 0 0)) 21 ((su S 20 0 (S 0 0)) 1)) 2)) 23 ((sg (sg (su S 20 0 (S 0 0)) 21 ((su S 20 0 (S 0 0)) 1)) 22 ((sg (su S 20 0 (S 0 0)) 21 ((su S 20 0 (S 0 0)) 1)) 2)) 3)) 4)) 5)) 26 0 (S 6 0)) 27 ((su (sg (sg (sg (sg (sg (su S 20 0 (S 0 0)) 21 ((su S 20 0 (S 0 0)) 1)) 22 ((sg (su S 20 0 (S 0 0)) 21 ((su S 20 0 (S 0 0)) 1)) 2)) 23 ((sg (sg (su S 20 0 (S 0 0)) 21 ((su S 20 0 (S 0 0)) 1)) 22 ((sg (su S 20 0 (S 0 0)) 21 ((su S 20 0 (S 0 0)) 1)) 2)) 3)) 24 ((sg (sg (sg (su S 20 0 (S 0 0)) 21 ((su S 20 0 (S 0 0)) 1)) 22 ((sg (su S 20 0 (S 0 0)) 21 ((su S 20 0 (S 0 0)) 1)) 2)) 23 ((sg (sg (su S 20 0 (S 0 0)) 21 ((su S 20 0 (S 0 0)) 1)) 22 ((sg (su S 20 0 (S 0 0)) 21 ((su S 20 0 (S 0 0)) 1)) 2)) 3)) 4)) 25 ((sg (sg (sg (sg (su S 20 0 (S 0 0)) 21 ((su S 20 0 (S 0 0)) 1)) 22 ((sg (su S 20 0 (S 0 0)) 21 ((su S 20 0 (S 0 0)) 1)) 2)) 23 ((sg (sg (su S 20 0 (S 0 0)) 21 ((su S 20 0 (S 0 0)) 1)) 22 ((sg (su S 20 0 (S 0 0)) 21 ((su S 20 0 (S 0 0)) 1)) 2)) 3)) 24 ((sg (sg (sg (su S 20 0 (S 0 0)) 21 ((su S 20 0 (S 0 0)) 1)) 22 ((sg (su S 20 0 (S 0 0)) 21 ((su S 20 0 (S 0 0)) 1)) 2)) 23 ((sg (sg (su S 20 0 (S 0 0)) 21 ((su S 20 0 (S 0 0)) 1)) 22 ((sg (su S 20 0 (S 0 0)) 21 ((su S 20 0 (S 0 0)) 1)) 2)) 3)) 4)) 5)) 26 0 (S 6 0)) 7)) 8)) 9)) 30 0 (S 10 0)) 11)) 32 0 (S 12 0)) ld it := by
  unfold Wo_becomeAs
  rw [cp7, cp49, cp8, cp12]
  simp only [gq_t]
  simp (disch := omega) only [cpi_ne, si_ne, si_nj, cF0 h.1, cF6 h.1, cF10 h.1, cF12 h.1, i_7, i_8, i_49, i_12]
  exact ⟨_, rfl, (StC_set (f := 32) (i := 0) (v := S 12 0) (StC_cpy 11 31 20 30 12 (StC_set (f := 30) (i := 0) (v := S 10 0) (StC_cpy 9 29 19 29 8 (StC_cpy 8 28 18 28 8 (StC_cpy 7 27 17 27 8 (StC_set (f := 26) (i := 0) (v := S 6 0) (StC_cpy 5 25 16 26 7 (StC_cpy 4 24 15 25 49 (StC_cpy 3 23 14 24 7 (StC_cpy 2 22 13 23 7 (StC_cpy 1 21 12 22 7 (StC_set (f := 20) (i := 0) (v := S 0 0) h (Wf_41 hW) (by decide) (by decide) rfl) (by simp (disch := omega) only [si_e, si_ne, si_nj, sl_r, si_l, ga_n, n_cl, n_lt, n_le, n_eq, n_add, n_mul, n_sub, n_eqm, n_meq, n_mm, n_mlt, n_mle, n_ltm, Option.bind_some, if_pos, if_neg, su_ne, sg_ne]; exact Wf_41 hW) (fun _ => rfl) (fun _ => rfl) rfl rfl (by omega) (by omega) (fun _ => rfl) (by omega)) (by simp (disch := omega) only [si_e, si_ne, si_nj, sl_r, si_l, ga_n, n_cl, n_lt, n_le, n_eq, n_add, n_mul, n_sub, n_eqm, n_meq, n_mm, n_mlt, n_mle, n_ltm, Option.bind_some, if_pos, if_neg, su_ne, sg_ne]; exact Wf_41 hW) (fun _ => rfl) (fun _ => rfl) rfl rfl (by omega) (by omega) (fun _ => rfl) (by omega)) (by simp (disch := omega) only [si_e, si_ne, si_nj, sl_r, si_l, ga_n, n_cl, n_lt, n_le, n_eq, n_add, n_mul, n_sub, n_eqm, n_meq, n_mm, n_mlt, n_mle, n_ltm, Option.bind_some, if_pos, if_neg, su_ne, sg_ne]; exact Wf_41 hW) (fun _ => rfl) (fun _ => rfl) rfl rfl (by omega) (by omega) (fun _ => rfl) (by omega)) (by simp (disch := omega) only [si_e, si_ne, si_nj, sl_r, si_l, ga_n, n_cl, n_lt, n_le, n_eq, n_add, n_mul, n_sub, n_eqm, n_meq, n_mm, n_mlt, n_mle, n_ltm, Option.bind_some, if_pos, if_neg, su_ne, sg_ne]; exact Wf_41 hW) (fun _ => rfl) (fun _ => rfl) rfl rfl (by omega) (by omega) (fun _ => rfl) (by omega)) (by simp (disch := omega) only [si_e, si_ne, si_nj, sl_r, si_l, ga_n, n_cl, n_lt, n_le, n_eq, n_add, n_mul, n_sub, n_eqm, n_meq, n_mm, n_mlt, n_mle, n_ltm, Option.bind_some, if_pos, if_neg, su_ne, sg_ne]; exact Wf_41 hW) (fun _ => rfl) (fun _ => rfl) rfl rfl (by omega) (by omega) (fun _ => rfl) (by omega)) (by simp (disch := omega) only [si_e, si_ne, si_nj, sl_r, si_l, ga_n, n_cl, n_lt, n_le, n_eq, n_add, n_mul, n_sub, n_eqm, n_meq, n_mm, n_mlt, n_mle, n_ltm, Option.bind_some, if_pos, if_neg, su_ne, sg_ne]; exact Wf_41 hW) (by decide) (by decide) rfl) (by simp (disch := omega) only [si_e, si_ne, si_nj, sl_r, si_l, ga_n, n_cl, n_lt, n_le, n_eq, n_add, n_mul, n_sub, n_eqm, n_meq, n_mm, n_mlt, n_mle, n_ltm, Option.bind_some, if_pos, if_neg, su_ne, sg_ne]; exact Wf_41 hW) (fun _ => rfl) (fun _ => rfl) rfl rfl (by omega) (by omega) (fun _ => rfl) (by omega)) (by simp (disch := omega) only [si_e, si_ne, si_nj, sl_r, si_l, ga_n, n_cl, n_lt, n_le, n_eq, n_add, n_mul, n_sub, n_eqm, n_meq, n_mm, n_mlt, n_mle, n_ltm, Option.bind_some, if_pos, if_neg, su_ne, sg_ne]; exact Wf_41 hW) (fun _ => rfl) (fun _ => rfl) rfl rfl (by omega) (by omega) (fun _ => rfl) (by omega)) (by simp (disch := omega) only [si_e, si_ne, si_nj, sl_r, si_l, ga_n, n_cl, n_lt, n_le, n_eq, n_add, n_mul, n_sub, n_eqm, n_meq, n_mm, n_mlt, n_mle, n_ltm, Option.bind_some, if_pos, if_neg, su_ne, sg_ne]; exact Wf_41 hW) (fun _ => rfl) (fun _ => rfl) rfl rfl (by omega) (by omega) (fun _ => rfl) (by omega)) (by simp (disch := omega) only [si_e, si_ne, si_nj, sl_r, si_l, ga_n, n_cl, n_lt, n_le, n_eq, n_add, n_mul, n_sub, n_eqm, n_meq, n_mm, n_mlt, n_mle, n_ltm, Option.bind_some, if_pos, if_neg, su_ne, sg_ne]; exact Wf_41 hW) (by decide) (by decide) rfl) (by simp (disch := omega) only [si_e, si_ne, si_nj, sl_r, si_l, ga_n, n_cl, n_lt, n_le, n_eq, n_add, n_mul, n_sub, n_eqm, n_meq, n_mm, n_mlt, n_mle, n_ltm, Option.bind_some, if_pos, if_neg, su_ne, sg_ne]; exact Wf_41 hW) (fun _ => rfl) (fun _ => rfl) rfl rfl (by omega) (by omega) (fun _ => rfl) (by omega)) (by simp (disch := omega) only [si_e, si_ne, si_nj, sl_r, si_l, ga_n, n_cl, n_lt, n_le, n_eq, n_add, n_mul, n_sub, n_eqm, n_meq, n_mm, n_mlt, n_mle, n_ltm, Option.bind_some, if_pos, if_neg, su_ne, sg_ne]; exact Wf_41 hW) (by decide) (by decide) rfl)⟩
theorem image_ce {S : Sn} (f i : Nat) (hi : i < lenC f) : su (su (sg (su (sg (sg (sg (su (sg (sg (sg (sg (sg (su S 20 0 (S 0 0)) 21 ((su S 20 0 (S 0 0)) 1)) 22 ((sg (su S 20 0 (S 0 0)) 21 ((su S 20 0 (S 0 0)) 1)) 2)) 23 ((sg (sg (su S 20 0 (S 0 0)) 21 ((su S 20 0 (S 0 0)) 1)) 22 ((sg (su S 20 0 (S 0 0)) 21 ((su S 20 0 (S 0 0)) 1)) 2)) 3)) 24 ((sg (sg (sg (su S 20 0 (S 0 0)) 21 ((su S 20 0 (S 0 0)) 1)) 22 ((sg (su S 20 0 (S 0 0)) 21 ((su S 20 0 (S 0 0)) 1)) 2)) 23 ((sg (sg (su S 20 0 (S 0 0)) 21 ((su S 20 0 (S 0 0)) 1)) 22 ((sg (su S 20 0 (S 0 0)) 21 ((su S 20 0 (S 0 0)) 1)) 2)) 3)) 4)) 25 ((sg (sg (sg (sg (su S 20 0 (S 0 0)) 21 ((su S 20 0 (S 0 0)) 1)) 22 ((sg (su S 20 0 (S 0 0)) 21 ((su S 20 0 (S 0 0)) 1)) 2)) 23 ((sg (sg (su S 20 0 (S 0 0)) 21 ((su S 20 0 (S 0 0)) 1)) 22 ((sg (su S 20 0 (S 0 0)) 21 ((su S 20 0 (S 0 0)) 1)) 2)) 3)) 24 ((sg (sg (sg (su S 20 0 (S 0 0)) 21 ((su S 20 0 (S 0 0)) 1)) 22 ((sg (su S 20 0 (S 0 0)) 21 ((su S 20 0 (S 0 0)) 1)) 2)) 23 ((sg (sg (su S 20 0 (S 0 0)) 21 ((su S 20 0 (S 0 0)) 1)) 22 ((sg (su S 20 0 (S 0 0)) 21 ((su S 20 0 (S 0 0)) 1)) 2)) 3)) 4)) 5)) 26 0 (S 6 0)) 27 ((su (sg (sg (sg (sg (sg (su S 20 0 (S 0 0)) 21 ((su S 20 0 (S 0 0)) 1)) 22 ((sg (su S 20 0 (S 0 0)) 21 ((su S 20 0 (S 0 0)) 1)) 2)) 23 ((sg (sg (su S 20 0 (S 0 0)) 21 ((su S 20 0 (S 0 0)) 1)) 22 ((sg (su S 20 0 (S 0 0)) 21 ((su S 20 0 (S 0 0)) 1)) 2)) 3)) 24 ((sg (sg (sg (su S 20 0 (S 0 0)) 21 ((su S 20 0 (S 0 0)) 1)) 22 ((sg (su S 20 0 (S 0 0)) 21 ((su S 20 0 (S 0 0)) 1)) 2)) 23 ((sg (sg (su S 20 0 (S 0 0)) 21 ((su S 20 0 (S 0 0)) 1)) 22 ((sg (su S 20 0 (S 0 0)) 21 ((su S 20 0 (S 0 0)) 1)) 2)) 3)) 4)) 25 ((sg (sg (sg (sg (su S 20 0 (S 0 0)) 21 ((su S 20 0 (S 0 0)) 1)) 22 ((sg (su S 20 0 (S 0 0)) 21 ((su S 20 0 (S 0 0)) 1)) 2)) 23 ((sg (sg (su S 20 0 (S 0 0)) 21 ((su S 20 0 (S 0 0)) 1)) 22 ((sg (su S 20 0 (S 0 0)) 21 ((su S 20 0 (S 0 0)) 1)) 2)) 3)) 24 ((sg (sg (sg (su S 20 0 (S 0 0)) 21 ((su S 20 0 (S 0 0)) 1)) 22 ((sg (su S 20 0 (S 0 0)) 21 ((su S 20 0 (S 0 0)) 1)) 2)) 23 ((sg (sg (su S 20 0 (S 0 0)) 21 ((su S 20 0 (S 0 0)) 1)) 22 ((sg (su S 20 0 (S 0 0)) 21 ((su S 20 0 (S 0 0)) 1)) 2)) 3)) 4)) 5)) 26 0 (S 6 0)) 7)) 28 ((sg (su (sg (sg (sg (sg (sg (su S 20 0 (S 0 0)) 21 ((su S 20 0 (S 0 0)) 1)) 22 ((sg (su S 20 0 (S 0 0)) 21 ((su S 20 0 (S 0 0)) 1)) 2)) 23 ((sg (sg (su S 20 0 (S 0 0)) 21 ((su S 20 0 (S 0 0)) 1)) 22 ((sg (su S 20 0 (S 0 0)) 21 ((su S 20 0 (S 0 0)) 1)) 2)) 3)) 24 ((sg (sg (sg (su S 20 0 (S 0 0)) 21 ((su S 20 0 (S 0 0)) 1)) 22 ((sg (su S 20 0 (S 0 0)) 21 ((su S 20 0 (S 0 0)) 1)) 2)) 23 ((sg (sg (su S 20 0 (S 0 0)) 21 ((su S 20 0 (S 0 0)) 1)) 22 ((sg (su S 20 0 (S 0 0)) 21 ((su S 20 0 (S 0 0)) 1)) 2)) 3)) 4)) 25 ((sg (sg (sg (sg (su S 20 0 (S 0 0)) 21 ((su S 20 0 (S 0 0)) 1)) 22 ((sg (su S 20 0 (S 0 0)) 21 ((su S 20 0 (S 0 0)) 1)) 2)) 23 ((sg (sg (su S 20 0 (S 0 0)) 21 ((su S 20 0 (S 0 0)) 1)) 22 ((sg (su S 20 0 (S 0 0)) 21 ((su S 20 0 (S 0 0)) 1)) 2)) 3)) 24 ((sg (sg (sg (su S 20 0 (S 0 0)) 21 ((su S 20 0 (S 0 0)) 1)) 22 ((sg (su S 20 0 (S 0 0)) 21 ((su S 20 0 (S 0 0)) 1)) 2)) 23 ((sg (sg (su S 20 0 (S 0 0)) 21 ((su S 20 0 (S 0 0)) 1)) 22 ((sg (su S 20 0 (S 0 0)) 21 ((su S 20 0 (S 0 0)) 1)) 2)) 3)) 4)) 5)) 26 0 (S 6 0)) 27 ((su (sg (sg (sg (sg (sg (su S 20 0 (S 0 0)) 21 ((su S 20 0 (S 0 0)) 1)) 22 ((sg (su S 20 0 (S 0 0)) 21 ((su S 20 0 (S 0 0)) 1)) 2)) 23 ((sg (sg (su S 20 0 (S 0 0)) 21 ((su S 20 0 (S 0 0)) 1)) 22 ((sg (su S 20 0 (S 0 0)) 21 ((su S 20 0 (S 0 0)) 1)) 2)) 3)) 24 ((sg (sg (sg (su S 20 0 (S 0 0)) 21 ((su S 20 0 (S 0 0)) 1)) 22 ((sg (su S 20 0 (S 0 0)) 21 ((su S 20 0 (S 0 0)) 1)) 2)) 23 ((sg (sg (su S 20 0 (S 0 0)) 21 ((su S 20 0 (S 0 0)) 1)) 22 ((sg (su S 20 0 (S 0 0)) 21 ((su S 20 0 (S 0 0)) 1)) 2)) 3)) 4)) 25 ((sg (sg (sg (sg (su S 20 0 (S 0 0)) 21 ((su S 20 0 (S 0 0)) 1)) 22 ((sg (su S 20 0 (S 0 0)) 21 ((su S 20 0 (S 0 0)) 1)) 2)) 23 ((sg (sg (su S 20 0 (S 0 0)) 21 ((su S 20 0 (S 0 0)) 1)) 22 ((sg (su S 20 0 (S 0 0)) 21 ((su S 20 0 (S 0 0)) 1)) 2)) 3)) 24 ((sg (sg (sg (su S 20 0 (S 0 0)) 21 ((su S 20 0 (S 0 0)) 1)) 22 ((sg (su S 20 0 (S 0 0)) 21 ((su S 20 0 (S 0 0)) 1)) 2)) 23 ((sg (sg (su S 20 0 (S 0 0)) 21 ((su S 20 0 (S 0 0)) 1)) 22 ((sg (su S 20 0 (S 0 0)) 21 ((su S 20 0 (S 0 0)) 1)) 2)) 3)) 4)) 5)) 26 0 (S 6 0)) 7)) 8)) 29 ((sg (sg (su (sg (sg (sg (sg (sg (su S 20 0 (S 0 0)) 21 ((su S 20 0 (S 0 0)) 1)) 22 ((sg (su S 20 0 (S 0 0)) 21 ((su S 20 0 (S 0 0)) 1)) 2)) 23 ((sg (sg (su S 20 0 (S 0 0)) 21 ((su S 20 0 (S 0 0)) 1)) 22 ((sg (su S 20 0 (S 0 0)) 21 ((su S 20 0 (S 0 0)) 1)) 2)) 3)) 24 ((sg (sg (sg (su S 20 0 (S 0 0)) 21 ((su S 20 0 (S 0 0)) 1)) 22 ((sg (su S 20 0 (S 0 0)) 21 ((su S 20 0 (S 0 0)) 1)) 2)) 23 ((sg (sg (su S 20 0 (S 0 0)) 21 ((su S 20 0 (S 0 0)) 1)) 22 ((sg (su S 20 0 (S 0 0)) 21 ((su S 20 0 (S 0 0)) 1)) 2)) 3)) 4)) 25 ((sg (sg (sg (sg (su S 20 0 (S 0 0)) 21 ((su S 20 0 (S 0 0)) 1)) 22 ((sg (su S 20 0 (S 0 0)) 21 ((su S 20 0 (S 0 0)) 1)) 2)) 23 ((sg (sg (su S 20 0 (S 0 0)) 21 ((su S 20 0 (S 0 0)) 1)) 22 ((sg (su S 20 0 (S 0 0)) 21 ((su S 20 0 (S 0 0)) 1)) 2)) 3)) 24 ((sg (sg (sg (su S 20 0 (S 0 0)) 21 ((su S 20 0 (S 0 0)) 1)) 22 ((sg (su S 20 0 (S 0 0)) 21 ((su S 20 0 (S 0 0)) 1)) 2)) 23 ((sg (sg (su S 20 0 (S 0 0)) 21 ((su S 20 0 (S 0 0)) 1)) 22 ((sg (su S 20 0 (S 0 0)) 21 ((su S 20 0 (S 0 0)) 1)) 2)) 3)) 4)) 5)) 26 0 (S 6 0)) 27 ((su (sg (sg (sg (sg (sg (su S 20 0 (S 0 0)) 21 ((su S 20 0 (S 0 0)) 1)) 22 ((sg (su S 20 0 (S 0 0)) 21 ((su S 20 0 (S 0 0)) 1)) 2)) 23 ((sg (sg (su S 20 0 (S 0 0)) 21 ((su S 20 0 (S 0 0)) 1)) 22 ((sg (su S 20 0 (S 0 0)) 21 ((su S 20 0 (S 0 0)) 1)) 2)) 3)) 24 ((sg (sg (sg (su S 20 0 (S 0 0)) 21 ((su S 20 0 (S 0 0)) 1)) 22 ((sg (su S 20 0 (S 0 0)) 21 ((su S 20 0 (S 0 0)) 1)) 2)) 23 ((sg (sg (su S 20 0 (S 0 0)) 21 ((su S 20 0 (S 0 0)) 1)) 22 ((sg (su S 20 0 (S 0 0)) 21 ((su S 20 0 (S 0 0)) 1)) 2)) 3)) 4)) 25 ((sg (sg (sg (sg (su S 20 0 (S 0 0)) 21 ((su S 20 0 (S 0 0)) 1)) 22 ((sg (su S 20 0 (S 0 0)) 21 ((su S 20 0 (S 0 0)) 1)) 2)) 23 ((sg (sg (su S 20 0 (S 0 0)) 21 ((su S 20 0 (S 0 0)) 1)) 22 ((sg (su S 20 0 (S 0 0)) 21 ((su S 20 0 (S 0 0)) 1)) 2)) 3)) 24 ((sg (sg (sg (su S 20 0 (S 0 0)) 21 ((su S 20 0 (S 0 0)) 1)) 22 ((sg (su S 20 0 (S 0 0)) 21 ((su S 20 0 (S 0 0)) 1)) 2)) 23 ((sg (sg (su S 20 0 (S 0 0)) 21 ((su S 20 0 (S 0 0)) 1)) 22 ((sg (su S 20 0 (S 0 0)) 21 ((su S 20 0 (S 0 0)) 1)) 2)) 3)) 4)) 5)) 26 0 (S 6 0)) 7)) 28 ((sg (su (sg (sg (sg (sg (sg (su S 20 0 (S 0 0)) 21 ((su S 20 0 (S 0 0)) 1)) 22 ((sg (su S 20 0 (S 0 0)) 21 ((su S 20 0 (S 0 0)) 1)) 2)) 23 ((sg (sg (su S 20 0 (S 0 0)) 21 ((su S 20 0 (S 0 0)) 1)) 22 ((sg (su S 20 0 (S 0 0)) 21 ((su S 20 0 (S 0 0)) 1)) 2)) 3)) 24 ((sg (sg (sg (su S 20 0 (S 0 0)) 21 ((su S 20 0 (S 0 0)) 1)) 22 ((sg (su S 20 0 (S 0 0)) 21 ((su S 20 0 (S 0 0)) 1)) 2)) 23 ((sg (sg (su S 20 0 (S 0 0)) 21 ((su S 20 0 (S 0 0)) 1)) 22 ((sg (su S 20 0 (S 0 0)) 21 ((su S 20 0 (S 0 0)) 1)) 2)) 3)) 4)) 25 ((sg (sg (sg (sg (su S 20 0 (S 0 0)) 21 ((su S 20 0 (S 0 0)) 1)) 22 ((sg (su S 20 0 (S 0 0)) 21 ((su S 20 0 (S 0 0)) 1)) 2)) 23 ((sg (sg (su S 20 0 (S 0 0)) 21 ((su S 20 0 (S 0 0)) 1)) 22 ((sg (su S 20 0 (S 0 0)) 21 ((su S 20 0 (S 0 0)) 1)) 2)) 3)) 24 ((sg (sg (sg (su S 20 0 (S 0 0)) 21 ((su S 20 0 (S 0 0)) 1)) 22 ((sg (su S 20 0 (S 0 0)) 21 ((su S 20 0 (S 0 0)) 1)) 2)) 23 ((sg (sg (su S 20 0 (S 0 0)) 21 ((su S 20 0 (S 0 0)) 1)) 22 ((sg (su S 20 0 (S 0 0)) 21 ((su S 20 0 (S 0 0)) 1)) 2)) 3)) 4)) 5)) 26 0 (S 6 0)) 27 ((su (sg (sg (sg (sg (sg (su S 20 0 (S 0 0)) 21 ((su S 20 0 (S 0 0)) 1)) 22 ((sg (su S 20 0 (S 0 0)) 21 ((su S 20 0 (S 0 0)) 1)) 2)) 23 ((sg (sg (su S 20 0 (S 0 0)) 21 ((su S 20 0 (S 0 0)) 1)) 22 ((sg (su S 20 0 (S 0 0)) 21 ((su S 20 0 (S 0 0)) 1)) 2)) 3)) 24 ((sg (sg (sg (su S 20 0 (S 0 0)) 21 ((su S 20 0 (S 0 0)) 1)) 22 ((sg (su S 20 0 (S 0 0)) 21 ((su S 20 0 (S 0 0)) 1)) 2)) 23 ((sg (sg (su S 20 0 (S 0 0)) 21 ((su S 20 0 (S 0 0)) 1)) 22 ((sg (su S 20 0 (S 0 0)) 21 ((su S 20 0 (S 0 0)) 1)) 2)) 3)) 4)) 25 ((sg (sg (sg (sg (su S 20 0 (S 0 0)) 21 ((su S 20 0 (S 0 0)) 1)) 22 ((sg (su S 20 0 (S 0 0)) 21 ((su S 20 0 (S 0 0)) 1)) 2)) 23 ((sg (sg (su S 20 0 (S 0 0)) 21 ((su S 20 0 (S 0 0)) 1)) 22 ((sg (su S 20 0 (S 0 0)) 21 ((su S 20 0 (S 0 0)) 1)) 2)) 3)) 24 ((sg (sg (sg (su S 20 0 (S 0 0)) 21 ((su S 20 0 (S 0 0)) 1)) 22 ((sg (su S 20 0 (S 0 0)) 21 ((su S 20 0 (S 0 0)) 1)) 2)) 23 ((sg (sg (su S 20 0 (S 0 0)) 21 ((su S 20 0 (S 0 0)) 1)) 22 ((sg (su S 20 0 (S 0 0)) 21 ((su S 20 0 (S 0 0)) 1)) 2)) 3)) 4)) 5)) 26 0 (S 6 0)) 7)) 8)) 9)) 30 0 (S 10 0)) 31 ((su (sg (sg (sg (su (sg (sg (sg (sg (sg (su S 20 0 (S 0 0)) 21 ((su S 20 0 (S 0 0)) 1)) 22 ((sg (su S 20 0 (S 0 0)) 21 ((su S 20 0 (S 0 0)) 1)) 2)) 23 ((sg (sg (su S 20 0 (S 0 0)) 21 ((su S 20 0 (S 0 0)) 1)) 22 ((sg (su S 20 0 (S 0 0)) 21 ((su S 20 0 (S 0 0)) 1)) 2)) 3)) 24 ((sg (sg (sg (su S 20 0 (S 0 0)) 21 ((su S 20 0 (S 0 0)) 1)) 22 ((sg (su S 20 0 (S 0 0)) 21 ((su S 20 0 (S 0 0)) 1)) 2)) 23 ((sg (sg (su S 20 0 (S 0 0)) 21 ((su S 20 0 (S 0 0)) 1)) 22 ((sg (su S 20 0 (S 0 0)) 21 ((su S 20 0 (S 0 0)) 1)) 2)) 3)) 4)) 25 ((sg (sg (sg (sg (su S 20 0 (S 0 0)) 21 ((su S 20 0 (S 0 0)) 1)) 22 ((sg (su S 20 0 (S 0 0)) 21 ((su S 20 0 (S 0 0)) 1)) 2)) 23 ((sg (sg (su S 20 0 (S 0 0)) 21 ((su S 20 0 (S 0 0)) 1)) 22 ((sg (su S 20 0 (S 0 0)) 21 ((su S 20 0 (S 0 0)) 1)) 2)) 3)) 24 ((sg (sg (sg (su S 20 0 (S 0 0)) 21 ((su S 20 0 (S 0 0)) 1)) 22 ((sg (su S 20 0 (S 0 0)) 21 ((su S 20 0 (S 0 0)) 1)) 2)) 23 ((sg (sg (su S 20 0 (S 0 0)) 21 ((su S 20 0 (S 0 0)) 1)) 22 ((sg (su S 20 0 (S 0 0)) 21 ((su S 20 0 (S 0 0)) 1)) 2)) 3)) 4)) 5)) 26 0 (S 6 0)) 27 ((su (sg (sg (sg (sg (sg (su S 20 0 (S 0 0)) 21 ((su S 20 0 (S 0 0)) 1)) 22 ((sg (su S 20 0 (S 0 0)) 21 ((su S 20 0 (S 0 0)) 1)) 2)) 23 ((sg (sg (su S 20 0 (S 0 0)) 21 ((su S 20 0 (S 0 0)) 1)) 22 ((sg (su S 20 0 (S 0 0)) 21 ((su S 20 0 (S 0 0)) 1)) 2)) 3)) 24 ((sg (sg (sg (su S 20 0 (S 0 0)) 21 ((su S 20 0 (S 0 0)) 1)) 22 ((sg (su S 20 0 (S 0 0)) 21 ((su S 20 0 (S 0 0)) 1)) 2)) 23 ((sg (sg (su S 20 0 (S 0 0)) 21 ((su S 20 0 (S 0 0)) 1)) 22 ((sg (su S 20 0 (S 0 0)) 21 ((su S 20 0 (S 0 0)) 1)) 2)) 3)) 4)) 25 ((sg (sg (sg (sg (su S 20 0 (S 0 0)) 21 ((su S 20 0 (S 0 0)) 1)) 22 ((sg (su S 20 0 (S 0 0)) 21 ((su S 20 0 (S 0 0)) 1)) 2)) 23 ((sg (sg (su S 20 0 (S 0 0)) 21 ((su S 20 0 (S 0 0)) 1)) 22 ((sg (su S 20 0 (S 0 0)) 21 ((su S 20 0 (S 0 0)) 1)) 2)) 3)) 24 ((sg (sg (sg (su S 20 0 (S 0 0)) 21 ((su S 20 0 (S 0 0)) 1)) 22 ((sg (su S 20 0 (S 0 0)) 21 ((su S 20 0 (S 0 0)) 1)) 2)) 23 ((sg (sg (su S 20 0 (S 0 0)) 21 ((su S 20 0 (S 0 0)) 1)) 22 ((sg (su S 20 0 (S 0 0)) 21 ((su S 20 0 (S 0 0)) 1)) 2)) 3)) 4)) 5)) 26 0 (S 6 0)) 7)) 28 ((sg (su (sg (sg (sg (sg (sg (su S 20 0 (S 0 0)) 21 ((su S 20 0 (S 0 0)) 1)) 22 ((sg (su S 20 0 (S 0 0)) 21 ((su S 20 0 (S 0 0)) 1)) 2)) 23 ((sg (sg (su S 20 0 (S 0 0)) 21 ((su S 20 0 (S 0 0)) 1)) 22 ((sg (su S 20 0 (S 0 0)) 21 ((su S 20 0 (S 0 0)) 1)) 2)) 3)) 24 ((sg (sg (sg (su S 20 0 (S 0 0)) 21 ((su S 20 0 (S 0 0)) 1)) 22 ((sg (su S 20 0 (S 0 0)) 21 ((su S 20 0 (S 0 0)) 1)) 2)) 23 ((sg (sg (su S 20 0 (S 0 0)) 21 ((su S 20 0 (S 0 0)) 1)) 22 ((sg (su S 20 0 (S 0 0)) 21 ((su S 20 0 (S 0 0)) 1)) 2)) 3)) 4)) 25 ((sg (sg (sg (sg (su S 20 0 (S 0 0)) 21 ((su S 20 0 (S 0 0)) 1)) 22 ((sg (su S 20 0 (S 0 0)) 21 ((su S 20 0 (S 0 0)) 1)) 2)) 23 ((sg (sg (su S 20 0 (S 0 0)) 21 ((su S 20 0 (S 0 0)) 1)) 22 ((sg (su S 20 0 (S 0 0)) 21 ((su S 20 0 (S 0 0)) 1)) 2)) 3)) 24 ((sg (sg (sg (su S 20 0 (S 0 0)) 21 ((su S 20 0 (S 0 0)) 1)) 22 ((sg (su S 20 0 (S 0 0)) 21 ((su S 20 0 (S 0 0)) 1)) 2)) 23 ((sg (sg (su S 20 0 (S 0 0)) 21 ((su S 20 0 (S 0 0)) 1)) 22 ((sg (su S 20 0 (S 0 0)) 21 ((su S 20 0 (S 0 0)) 1)) 2)) 3)) 4)) 5)) 26 0 (S 6 0)) 27 ((su (sg (sg (sg (sg (sg (su S 20 0 (S 0 0)) 21 ((su S 20 0 (S 0 0)) 1)) 22 ((sg (su S 20 0 (S 0 0)) 21 ((su S 20 0 (S 0 0)) 1)) 2)) 23 ((sg (sg (su S 20 0 (S 0 0)) 21 ((su S 20 0 (S 0 0)) 1)) 22 ((sg (su S 20 0 (S 0 0)) 21 ((su S 20 0 (S 0 0)) 1)) 2)) 3)) 24 ((sg (sg (sg (su S 20 0 (S 0 0)) 21 ((su S 20 0 (S 0 0)) 1)) 22 ((sg (su S 20 0 (S 0 0)) 21 ((su S 20 0 (S 0 0)) 1)) 2)) 23 ((sg (sg (su S 20 0 (S 0 0)) 21 ((su S 20 0 (S 0 0)) 1)) 22 ((sg (su S 20 0 (S 0 0)) 21 ((su S 20 0 (S 0 0)) 1)) 2)) 3)) 4)) 25 ((sg (sg (sg (sg (su S 20 0 (S 0 0)) 21 ((su S 20 0 (S 0 0)) 1)) 22 ((sg (su S 20 0 (S 0 0)) 21 ((su S 20 0 (S 0 0)) 1)) 2)) 23 ((sg (sg (su S 20 0 (S 0 0)) 21 ((su S 20 0 (S 0 0)) 1)) 22 ((sg (su S 20 0 (S 0 0)) 21 ((su S 20 0 (S 0 0)) 1)) 2)) 3)) 24 ((sg (sg (sg (su S 20 0 (S 0 0)) 21 ((su S 20 0 (S 0 0)) 1)) 22 ((sg (su S 20 0 (S 0 0)) 21 ((su S 20 0 (S 0 0)) 1)) 2)) 23 ((sg (sg (su S 20 0 (S 0 0)) 21 ((su S 20 0 (S 0 0)) 1)) 22 ((sg (su S 20 0 (S 0 0)) 21 ((su S 20 0 (S 0 0)) 1)) 2)) 3)) 4)) 5)) 26 0 (S 6 0)) 7)) 8)) 29 ((sg (sg (su (sg (sg (sg (sg (sg (su S 20 0 (S 0 0)) 21 ((su S 20 0 (S 0 0)) 1)) 22 ((sg (su S 20 0 (S 0 0)) 21 ((su S 20 0 (S 0 0)) 1)) 2)) 23 ((sg (sg (su S 20 0 (S 0 0)) 21 ((su S 20 0 (S 0 0)) 1)) 22 ((sg (su S 20 0 (S 0 0)) 21 ((su S 20 0 (S 0 0)) 1)) 2)) 3)) 24 ((sg (sg (sg (su S 20 0 (S 0 0)) 21 ((su S 20 0 (S 0 0)) 1)) 22 ((sg (su S 20 0 (S 0 0)) 21 ((su S 20 0 (S 0 0)) 1)) 2)) 23 ((sg (sg (su S 20 0 (S 0 0)) 21 ((su S 20 0 (S 0 0)) 1)) 22 ((sg (su S 20 0 (S 0 0)) 21 ((su S 20 0 (S 0 0)) 1)) 2)) 3)) 4)) 25 ((sg (sg (sg (sg (su S 20 0 (S 0 0)) 21 ((su S 20 0 (S 0 0)) 1)) 22 ((sg (su S 20 0 (S 0 0)) 21 ((su S 20 0 (S 0 0)) 1)) 2)) 23 ((sg (sg (su S 20 0 (S 0 0)) 21 ((su S 20 0 (S 0 0)) 1)) 22 ((sg (su S 20 0 (S 0 0)) 21 ((su S 20 0 (S 0 0)) 1)) 2)) 3)) 24 ((sg (sg (sg (su S 20 0 (S 0 0)) 21 ((su S 20 0 (S 0 0)) 1)) 22 ((sg (su S 20 0 (S 0 0)) 21 ((su S 20 0 (S 0 0)) 1)) 2)) 23 ((sg (sg (su S 20 0 (S 0 0)) 21 ((su S 20 0 (S 0 0)) 1)) 22 ((sg (su S 20 0 (S 0 0)) 21 ((su S 20 0 (S 0 0)) 1)) 2)) 3)) 4)) 5)) 26 0 (S 6 0)) 27 ((su (sg (sg (sg (sg (sg (su S 20 0 (S 0 0)) 21 ((su S 20 0 (S 0 0)) 1)) 22 ((sg (su S 20 0 (S 0 0)) 21 ((su S 20 0 (S 0 0)) 1)) 2)) 23 ((sg (sg (su S 20 0 (S 0 0)) 21 ((su S 20 0 (S 0 0)) 1)) 22 ((sg (su S 20 0 (S 0 0)) 21 ((su S 20 0 (S 0 0)) 1)) 2)) 3)) 24 ((sg (sg (sg (su S 20 0 (S 0 0)) 21 ((su S 20 0 (S 0 0)) 1)) 22 ((sg (su S 20 0 (S 0 0)) 21 ((su S 20 0 (S 0 0)) 1)) 2)) 23 ((sg (sg (su S 20 0 (S 0 0)) 21 ((su S 20 0 (S 0 0)) 1)) 22 ((sg (su S 20 0 (S 0 0)) 21 ((su S 20 0 (S 0 0)) 1)) 2)) 3)) 4)) 25 ((sg (sg (sg (sg (su S 20 0 (S 0 0)) 21 ((su S 20 0 (S 0 0)) 1)) 22 ((sg (su S 20 0 (S 0 0)) 21 ((su S 20 0 (S 0 0)) 1)) 2)) 23 ((sg (sg (su S 20 0 (S 0 0)) 21 ((su S 20 0 (S 0 0)) 1)) 22 ((sg (su S 20 0 (S 0 0)) 21 ((su S 20 0 (S 0 0)) 1)) 2)) 3)) 24 ((sg (sg (sg (su S 20 0 (S 0 0)) 21 ((su S 20 0 (S 0 0)) 1)) 22 ((sg (su S 20 0 (S 0 0)) 21 ((su S 20 0 (S 0 0)) 1)) 2)) 23 ((sg (sg (su S 20 0 (S 0 0)) 21 ((su S 20 0 (S 0 0)) 1)) 22 ((sg (su S 20 0 (S 0 0)) 21 ((su S 20 0 (S 0 0)) 1)) 2)) 3)) 4)) 5)) 26 0 (S 6 0)) 7)) 28 ((sg (su (sg (sg (sg (sg (sg (su S 20 0 (S 0 0)) 21 ((su S 20 0 (S 0 0)) 1)) 22 ((sg (su S 20 0 (S 0 0)) 21 ((su S 20 0 (S 0 0)) 1)) 2)) 23 ((sg (sg (su S 20 0 (S 0 0)) 21 ((su S 20 0 (S 0 0)) 1)) 22 ((sg (su S 20 0 (S 0 0)) 21 ((su S 20 0 (S 0 0)) 1)) 2)) 3)) 24 ((sg (sg (sg (su S 20 0 (S 0 0)) 21 ((su S 20 0 (S 0 0)) 1)) 22 ((sg (su S 20 0 (S 0 0)) 21 ((su S 20 0 (S 0 0)) 1)) 2)) 23 ((sg (sg (su S 20 0 (S 0 0)) 21 ((su S 20 0 (S 0 0)) 1)) 22 ((sg (su S 20 0 (S 0 0)) 21 ((su S 20 0 (S 0 0)) 1)) 2)) 3)) 4)) 25 ((sg (sg (sg (sg (su S 20 0 (S 0 0)) 21 ((su S 20 0 (S 0 0)) 1)) 22 ((sg (su S 20 0 (S 0 0)) 21 ((su S 20 0 (S 0 0)) 1)) 2)) 23 ((sg (sg (su S 20 0 (S 0 0)) 21 ((su S 20 0 (S 0 0)) 1)) 22 ((sg (su S 20 0 (S 0 0)) 21 ((su S 20 0 (S 0 0)) 1)) 2)) 3)) 24 ((sg (sg (sg (su S 20 0 (S 0 0)) 21 ((su S 20 0 (S 0 0)) 1)) 22 ((sg (su S 20 0 (S 0 0)) 21 ((su S 20 0 (S 0 0)) 1)) 2)) 23 ((sg (sg (su S 20 0 (S 0 0)) 21 ((su S 20 0 (S 0 0)) 1)) 22 ((sg (su S 20 0 (S 0 0)) 21 ((su S 20 0 (S 0 0)) 1)) 2)) 3)) 4)) 5)) 26 0 (S 6 0)) 27 ((su (sg (sg (sg (sg (sg (su S 20 0 (S 0 0)) 21 ((su S 20 0 (S 0 0)) 1)) 22 ((sg (su S 20 0 (S 0 0)) 21 ((su S 20 0 (S 0 0)) 1)) 2)) 23 ((sg (sg (su S 20 0 (S 0 0)) 21 ((su S 20 0 (S 0 0)) 1)) 22 ((sg (su S 20 0 (S 0 0)) 21 ((su S 20 0 (S 0 0)) 1)) 2)) 3)) 24 ((sg (sg (sg (su S 20 0 (S 0 0)) 21 ((su S 20 0 (S 0 0)) 1)) 22 ((sg (su S 20 0 (S 0 0)) 21 ((su S 20 0 (S 0 0)) 1)) 2)) 23 ((sg (sg (su S 20 0 (S 0 0)) 21 ((su S 20 0 (S 0 0)) 1)) 22 ((sg (su S 20 0 (S 0 0)) 21 ((su S 20 0 (S 0 0)) 1)) 2)) 3)) 4)) 25 ((sg (sg (sg (sg (su S 20 0 (S 0 0)) 21 ((su S 20 0 (S 0 0)) 1)) 22 ((sg (su S 20 0 (S 0 0)) 21 ((su S 20 0 (S 0 0)) 1)) 2)) 23 ((sg (sg (su S 20 0 (S 0 0)) 21 ((su S 20 0 (S 0 0)) 1)) 22 ((sg (su S 20 0 (S 0 0)) 21 ((su S 20 0 (S 0 0)) 1)) 2)) 3)) 24 ((sg (sg (sg (su S 20 0 (S 0 0)) 21 ((su S 20 0 (S 0 0)) 1)) 22 ((sg (su S 20 0 (S 0 0)) 21 ((su S 20 0 (S 0 0)) 1)) 2)) 23 ((sg (sg (su S 20 0 (S 0 0)) 21 ((su S 20 0 (S 0 0)) 1)) 22 ((sg (su S 20 0 (S 0 0)) 21 ((su S 20 0 (S 0 0)) 1)) 2)) 3)) 4)) 5)) 26 0 (S 6 0)) 7)) 8)) 9)) 30 0 (S 10 0)) 11)) 32 0 (S 12 0)) 40 0 1 f i = imgS S f i := by
  have hf : f = 20 ∨ f = 21 ∨ f = 22 ∨ f = 23 ∨ f = 24 ∨ f = 25 ∨ f = 26 ∨ f = 27 ∨ f = 28 ∨ f = 29 ∨ f = 30 ∨ f = 31 ∨ f = 32 ∨ (f ≠ 20 ∧ f ≠ 21 ∧ f ≠ 22 ∧ f ≠ 23 ∧ f ≠ 24 ∧ f ≠ 25 ∧ f ≠ 26 ∧ f ≠ 27 ∧ f ≠ 28 ∧ f ≠ 29 ∧ f ≠ 30 ∧ f ≠ 31 ∧ f ≠ 32) := by omega
  by_cases h40 : f = 40
  · subst h40
    have hi0 : i = 0 := by have h1 : i < 1 := hi; omega
    subst hi0
    simp (disch := omega) only [su_e, su_ne, sg_ne, imgS_40]
  rcases hf with rfl | rfl | rfl | rfl | rfl | rfl | rfl | rfl | rfl | rfl | rfl | rfl | rfl | ho
  · have hi0 : i = 0 := by have h1 : i < 1 := hi; omega
    subst hi0
    simp (disch := omega) only [su_e, su_ne, sg_e, sg_ne, imgS_hi, imgS_lo] <;> rfl
  · simp (disch := omega) only [su_e, su_ne, sg_e, sg_ne, imgS_hi, imgS_lo] <;> rfl
  · simp (disch := omega) only [su_e, su_ne, sg_e, sg_ne, imgS_hi, imgS_lo] <;> rfl
  · simp (disch := omega) only [su_e, su_ne, sg_e, sg_ne, imgS_hi, imgS_lo] <;> rfl
  · simp (disch := omega) only [su_e, su_ne, sg_e, sg_ne, imgS_hi, imgS_lo] <;> rfl
  · simp (disch := omega) only [su_e, su_ne, sg_e, sg_ne, imgS_hi, imgS_lo] <;> rfl
  · have hi0 : i = 0 := by have h1 : i < 1 := hi; omega
    subst hi0
    simp (disch := omega) only [su_e, su_ne, sg_e, sg_ne, imgS_hi, imgS_lo] <;> rfl
  · simp (disch := omega) only [su_e, su_ne, sg_e, sg_ne, imgS_hi, imgS_lo] <;> rfl
  · simp (disch := omega) only [su_e, su_ne, sg_e, sg_ne, imgS_hi, imgS_lo] <;> rfl
  · simp (disch := omega) only [su_e, su_ne, sg_e, sg_ne, imgS_hi, imgS_lo] <;> rfl
  · have hi0 : i = 0 := by have h1 : i < 1 := hi; omega
    subst hi0
    simp (disch := omega) only [su_e, su_ne, sg_e, sg_ne, imgS_hi, imgS_lo] <;> rfl
  · simp (disch := omega) only [su_e, su_ne, sg_e, sg_ne, imgS_hi, imgS_lo] <;> rfl
  · have hi0 : i = 0 := by have h1 : i < 1 := hi; omega
    subst hi0
    simp (disch := omega) only [su_e, su_ne, sg_e, sg_ne, imgS_hi, imgS_lo] <;> rfl
  · simp (disch := omega) only [su_ne, sg_ne, imgS_lo]
theorem imageN0 {X : Sn} {k x y : Nat} (h : ¬ (x = 21 ∨ x = 22 ∨ x = 23 ∨ x = 25)) : imageS0 X k x y = X x y := by
  unfold imageS0
  rw [if_neg (fun q => h q.1)]
theorem imageE0 {X : Sn} {k x y : Nat} (h : (x = 21 ∨ x = 22 ∨ x = 23 ∨ x = 25) ∧ y < k) : imageS0 X k x y = X (x - 20) y := by
  unfold imageS0
  rw [if_pos h]
theorem imageN1 {X : Sn} {k x y : Nat} (h : ¬ (x = 24)) : imageS1 X k x y = X x y := by
  unfold imageS1
  rw [if_neg (fun q => h q.1)]
theorem imageE1 {X : Sn} {k x y : Nat} (h : (x = 24) ∧ y < k) : imageS1 X k x y = X (x - 20) y := by
  unfold imageS1
  rw [if_pos h]
theorem imageN2 {X : Sn} {k x y : Nat} (h : ¬ (x = 27 ∨ x = 28 ∨ x = 29)) : imageS2 X k x y = X x y := by
  unfold imageS2
  rw [if_neg (fun q => h q.1)]
theorem imageE2 {X : Sn} {k x y : Nat} (h : (x = 27 ∨ x = 28 ∨ x = 29) ∧ y < k) : imageS2 X k x y = X (x - 20) y := by
  unfold imageS2
  rw [if_pos h]
theorem imageN3 {X : Sn} {k x y : Nat} (h : ¬ (x = 31)) : imageS3 X k x y = X x y := by
  unfold imageS3
  rw [if_neg (fun q => h q.1)]
theorem imageE3 {X : Sn} {k x y : Nat} (h : (x = 31) ∧ y < k) : imageS3 X k x y = X (x - 20) y := by
  unfold imageS3
  rw [if_pos h]
theorem image_me {S : Sn} (f i : Nat) (hi : i < lenM f) : (imageS3 (imageS2 (imageS1 (imageS0 (su (su (su (su (su S 40 0 1) 32 0 (S 12 0)) 20 0 (S 0 0)) 26 0 (S 6 0)) 30 0 (S 10 0)) 7) 49) 8) 12) f i = imgS S f i := by
  have hf : f = 20 ∨ f = 21 ∨ f = 22 ∨ f = 23 ∨ f = 24 ∨ f = 25 ∨ f = 26 ∨ f = 27 ∨ f = 28 ∨ f = 29 ∨ f = 30 ∨ f = 31 ∨ f = 32 ∨ (f ≠ 20 ∧ f ≠ 21 ∧ f ≠ 22 ∧ f ≠ 23 ∧ f ≠ 24 ∧ f ≠ 25 ∧ f ≠ 26 ∧ f ≠ 27 ∧ f ≠ 28 ∧ f ≠ 29 ∧ f ≠ 30 ∧ f ≠ 31 ∧ f ≠ 32) := by omega
  by_cases h40 : f = 40
  · subst h40
    have hi0 : i = 0 := by have h1 : i < 1 := hi; omega
    subst hi0
    rw [imageN3 (by omega), imageN2 (by omega), imageN1 (by omega), imageN0 (by omega)]
    simp (disch := omega) only [su_e, su_ne, imgS_40]
  rcases hf with rfl | rfl | rfl | rfl | rfl | rfl | rfl | rfl | rfl | rfl | rfl | rfl | rfl | ho
  · have hi0 : i = 0 := by have h1 : i < 1 := hi; omega
    subst hi0
    rw [imageN3 (by omega), imageN2 (by omega), imageN1 (by omega), imageN0 (by omega)]
    simp (disch := omega) only [su_e, su_ne, imgS_hi, imgS_lo] <;> rfl
  · have h1 : i < 7 := hi
    rw [imageN3 (by omega), imageN2 (by omega), imageN1 (by omega), imageE0 (by omega)]
    simp (disch := omega) only [su_e, su_ne, imgS_hi, imgS_lo] <;> rfl
  · have h1 : i < 7 := hi
    rw [imageN3 (by omega), imageN2 (by omega), imageN1 (by omega), imageE0 (by omega)]
    simp (disch := omega) only [su_e, su_ne, imgS_hi, imgS_lo] <;> rfl
  · have h1 : i < 7 := hi
    rw [imageN3 (by omega), imageN2 (by omega), imageN1 (by omega), imageE0 (by omega)]
    simp (disch := omega) only [su_e, su_ne, imgS_hi, imgS_lo] <;> rfl
  · have h1 : i < 49 := hi
    rw [imageN3 (by omega), imageN2 (by omega), imageE1 (by omega), imageN0 (by omega)]
    simp (disch := omega) only [su_e, su_ne, imgS_hi, imgS_lo] <;> rfl
  · have h1 : i < 7 := hi
    rw [imageN3 (by omega), imageN2 (by omega), imageN1 (by omega), imageE0 (by omega)]
    simp (disch := omega) only [su_e, su_ne, imgS_hi, imgS_lo] <;> rfl
  · have hi0 : i = 0 := by have h1 : i < 1 := hi; omega
    subst hi0
    rw [imageN3 (by omega), imageN2 (by omega), imageN1 (by omega), imageN0 (by omega)]
    simp (disch := omega) only [su_e, su_ne, imgS_hi, imgS_lo] <;> rfl
  · have h1 : i < 8 := hi
    rw [imageN3 (by omega), imageE2 (by omega), imageN1 (by omega), imageN0 (by omega)]
    simp (disch := omega) only [su_e, su_ne, imgS_hi, imgS_lo] <;> rfl
  · have h1 : i < 8 := hi
    rw [imageN3 (by omega), imageE2 (by omega), imageN1 (by omega), imageN0 (by omega)]
    simp (disch := omega) only [su_e, su_ne, imgS_hi, imgS_lo] <;> rfl
  · have h1 : i < 8 := hi
    rw [imageN3 (by omega), imageE2 (by omega), imageN1 (by omega), imageN0 (by omega)]
    simp (disch := omega) only [su_e, su_ne, imgS_hi, imgS_lo] <;> rfl
  · have hi0 : i = 0 := by have h1 : i < 1 := hi; omega
    subst hi0
    rw [imageN3 (by omega), imageN2 (by omega), imageN1 (by omega), imageN0 (by omega)]
    simp (disch := omega) only [su_e, su_ne, imgS_hi, imgS_lo] <;> rfl
  · have h1 : i < 12 := hi
    rw [imageE3 (by omega), imageN2 (by omega), imageN1 (by omega), imageN0 (by omega)]
    simp (disch := omega) only [su_e, su_ne, imgS_hi, imgS_lo] <;> rfl
  · have hi0 : i = 0 := by have h1 : i < 1 := hi; omega
    subst hi0
    rw [imageN3 (by omega), imageN2 (by omega), imageN1 (by omega), imageN0 (by omega)]
    simp (disch := omega) only [su_e, su_ne, imgS_hi, imgS_lo] <;> rfl
  · rw [imageN3 (by omega), imageN2 (by omega), imageN1 (by omega), imageN0 (by omega)]
    simp (disch := omega) only [su_ne, imgS_lo]
theorem image_m {m : Mm} {S : Sn} {ld : Nat → List Cl} {it : Nat → Nat → Int64} (h : StM m S ld it) : ∃ e, ((iter (Mo_image_l39) (0, si (si (si (si (si m 0 41 1) 0 42 (nI (S 12 0) - 1)) 0 43 (nI (S 0 0))) 0 44 (nI (S 6 0))) 0 45 (nI (S 10 0)))).bind fun e2 => (iter (Mo_image_l101) (0, e2)).bind fun e13 => (iter (Mo_image_l127) (0, e13)).bind fun e18 => (iter (Mo_image_l177) (0, e18)).bind fun e27 => some (e27.1 0 0, e27)) = some (nI (imgS S 0 0), e) ∧ StM e (imgS S) ld it := by
  obtain ⟨e0, h0, g0⟩ := image_l0 (m := si (si (si (si (si m 0 41 1) 0 42 (nI (S 12 0) - 1)) 0 43 (nI (S 0 0))) 0 44 (nI (S 6 0))) 0 45 (nI (S 10 0))) (StM_set (f := 30) (i := 0) (v := S 10 0) (StM_set (f := 26) (i := 0) (v := S 6 0) (StM_set (f := 20) (i := 0) (v := S 0 0) (StM_set (f := 32) (i := 0) (v := S 12 0) (StM_set (f := 40) (i := 0) (v := 1) h (by decide) (by decide) rfl) (by decide) (by decide) rfl) (by decide) (by decide) rfl) (by decide) (by decide) rfl) (by decide) (by decide) rfl)
  obtain ⟨e1, h1, g1⟩ := image_l1 g0
  obtain ⟨e2, h2, g2⟩ := image_l2 g1
  obtain ⟨e3, h3, g3⟩ := image_l3 g2
  rw [h0]
  dsimp only [Option.bind_some]
  rw [h1]
  dsimp only [Option.bind_some]
  rw [h2]
  dsimp only [Option.bind_some]
  rw [h3]
  dsimp only [Option.bind_some]
  have g4 := StM_ext g3 image_me
  rw [rF0 g4.1]
  exact ⟨e3, rfl, g4⟩
theorem undo_c {m : Mm} {S : Sn} {ld : Nat → List Cl} {it : Nat → Nat → Int64} (h : StC m S ld it) (hW : Wf S) : ∃ m', Wo_becomeAs 11 m 21 = some m' ∧ StC m' (su (sg (su (sg (sg (sg (su (sg (sg (sg (sg (sg (su S 0 0 (S 20 0)) 1 ((su S 0 0 (S 20 0)) 21)) 2 ((sg (su S 0 0 (S 20 0)) 1 ((su S 0 0 (S 20 0)) 21)) 22)) 3 ((sg (sg (su S 0 0 (S 20 0)) 1 ((su S 0 0 (S 20 0)) 21)) 2 ((sg (su S 0 0 (S 20 0)) 1 ((su S 0 0 (S 20 0)) 21)) 22)) 23)) 4 ((sg (sg (sg (su S 0 0 (S 20 0)) 1 ((su S 0 0 (S 20 0)) 21)) 2 ((sg (su S 0 0 (S 20 0)) 1 ((su S 0 0 (S 20 0)) 21)) 22)) 3 ((sg (sg (su S 0 0 (S 20 0)) 1 ((su S 0 0 (S 20 0)) 21)) 2 ((sg (su S 0 0 (S 20 0)) 1 ((su S 0 0 (S 20 0)) 21)) 22)) 23)) 24)) 5 ((sg (sg (sg (sg (su S 0 0 (S 20 0)) 1 ((su S 0 0 (S 20 0)) 21)) 2 ((sg (su S 0 0 (S 20 0)) 1 ((su S 0 0 (S 20 0)) 21)) 22)) 3 ((sg (sg (su S 0 0 (S 20 0)) 1 ((su S 0 0 (S 20 0)) 21)) 2 ((sg (su S 0 0 (S 20 0)) 1 ((su S 0 0 (S 20 0)) 21)) 22)) 23)) 4 ((sg (sg (sg (su S 0 0 (S 20 0)) 1 ((su S 0 0 (S 20 0)) 21)) 2 ((sg (su S 0 0 (S 20 0)) 1 ((su S 0 0 (S 20 0)) 21)) 22)) 3 ((sg (sg (su S 0 0 (S 20 0)) 1 ((su S 0 0 (S 20 0)) 21)) 2 ((sg (su S 0 0 (S 20 0)) 1 ((su S 0 0 (S 20 0)) 21)) 22)) 23)) 24)) 25)) 6 0 (S 26 0)) 7 ((su (sg (sg (sg (sg (sg (su S 0 0 (S 20 0)) 1 ((su S 0 0 (S 20 0)) 21)) 2 ((sg (su S 0 0 (S 20 0)) 1 ((su S 0 0 (S 20 0)) 21)) 22)) 3 ((sg (sg (su S 0 0 (S 20 0)) 1 ((su S 0 0 (S 20 0)) 21)) 2 ((sg (su S 0 0 (S 20 0)) 1 ((su S 0 0 (S 20 0)) 21)) 22)) 23)) 4 ((sg (sg (sg (su S 0 0 (S 20 0)) 1 ((su S 0 0 (S 20 0)) 21)) 2 ((sg (su S 0 0 (S 20 0)) 1 ((su S 0 0 (S 20 0)) 21)) 22)) 3 ((sg (sg (su S 0 0 (S 20 0)) 1 ((su S 0 0 (S 20 0)) 21)) 2 ((sg (su S 0 0 (S 20 0)) 1 ((su S 0 0 (S 20 0)) 21)) 22)) 23)) 24)) 5 ((sg (sg (sg (sg (su S 0 0 (S 20 0)) 1 ((su S 0 0 (S 20 0)) 21)) 2 ((sg (su S 0 0 (S 20 0)) 1 ((su S 0 0 (S 20 0)) 21)) 22)) 3 ((sg (sg (su S 0 0 (S 20 0)) 1 ((su S 0 0 (S 20 0)) 21)) 2 ((sg (su S 0 0 (S 20 0)) 1 ((su S 0 0 (S 20 0)) 21)) 22)) 23)) 4 ((sg (sg (sg (su S 0 0 (S 20 0)) 1 ((su S 0 0 (S 20 0)) 21)) 2 ((sg (su S 0 0 (S 20 0)) 1 ((su S 0 0 (S 20 0)) 21)) 22)) 3 ((sg (sg (su S 0 0 (S 20 0)) 1 ((su S 0 0 (S 20 0)) 21)) 2 ((sg (su S 0 0 (S 20 0)) 1 ((su S 0 0 (S 20 0)) 21)) 22)) 23)) 24)) 25)) 6 0 (S 26 0)) 27)) 8 ((sg (su (sg (sg (sg (sg (sg (su S 0 0 (S 20 0)) 1 ((su S 0 0 (S 20 0)) 21)) 2 ((sg (su S 0 0 (S 20 0)) 1 ((su S 0 0 (S 20 0)) 21)) 22)) 3 ((sg (sg (su S 0 0 (S 20 0)) 1 ((su S 0 0 (S 20 0)) 21)) 2 ((sg (su S 0 0 (S 20 0)) 1 ((su S 0 0 (S 20 0)) 21)) 22)) 23)) 4 ((sg (sg (sg (su S 0 0 (S 20 0)) 1 ((su S 0 0 (S 20 0)) 21)) 2 ((sg (su S 0 0 (S 20 0)) 1 ((su S 0 0 (S 20 0)) 21)) 22)) 3 ((sg (sg (su S 0 0 (S 20 0)) 1 ((su S 0 0 (S 20 0)) 21)) 2 ((sg (su S 0 0 (S 20 0)) 1 ((su S 0 0 (S 20 0)) 21)) 22)) 23)) 24)) 5 ((sg (sg (sg (sg (su S 0 0 (S 20 0)) 1 ((su S 0 0 (S 20 0)) 21)) 2 ((sg (su S 0 0 (S 20 0)) 1 ((su S 0 0 (S 20 0)) 21)) 22)) 3 ((sg (sg (su S 0 0 (S 20 0)) 1 ((su S 0 0 (S 20 0)) 21)) 2 ((sg (su S 0 0 (S 20 0)) 1 ((su S 0 0 (S 20 0)) 21)) 22)) 23)) 4 ((sg (sg (sg (su S 0 0 (S 20 0)) 1 ((su S 0 0 (S 20 0)) 21)) 2 ((sg (su S 0 0 (S 20 0)) 1 ((su S 0 0 (S 20 0)) 21)) 22)) 3 ((sg (sg (su S 0 0 (S 20 0)) 1 ((su S 0 0 (S 20 0)) 21)) 2 ((sg (su S 0 0 (S 20 0)) 1 ((su S 0 0 (S 20 0)) 21)) 22)) 23)) 24)) 25)) 6 0 (S 26 0)) 7 ((su (sg (sg (sg (sg (sg (su S 0 0 (S 20 0)) 1 ((su S 0 0 (S 20 0)) 21)) 2 ((sg (su S 0 0 (S 20 0)) 1 ((su S 0 0 (S 20 0)) 21)) 22)) 3 ((sg (sg (su S 0 0 (S 20 0)) 1 ((su S 0 0 (S 20 0)) 21)) 2 ((sg (su S 0 0 (S 20 0)) 1 ((su S 0 0 (S 20 0)) 21)) 22)) 23)) 4 ((sg (sg (sg (su S 0 0 (S 20 0)) 1 ((su S 0 0 (S 20 0)) 21)) 2 ((sg (su S 0 0 (S 20 0)) 1 ((su S 0 0 (S 20 0)) 21)) 22)) 3 ((sg (sg (su S 0 0 (S 20 0)) 1 ((su S 0 0 (S 20 0)) 21)) 2 ((sg (su S 0 0 (S 20 0)) 1 ((su S 0 0 (S 20 0)) 21)) 22)) 23)) 24)) 5 ((sg (sg (sg (sg (su S 0 0 (S 20 0)) 1 ((su S 0 0 (S 20 0)) 21)) 2 ((sg (su S 0 0 (S 20 0)) 1 ((su S 0 0 (S 20 0)) 21)) 22)) 3 ((sg (sg (su S 0 0 (S 20 0)) 1 ((su S 0 0 (S 20 0)) 21)) 2 ((sg (su S 0 0 (S 20 0)) 1 ((su S 0 0 (S 20 0)) 21)) 22)) 23)) 4 ((sg (sg (sg (su S 0 0 (S 20 0)) 1 ((su S 0 0 (S 20 0)) 21)) 2 ((sg (su S 0 0 (S 20 0)) 1 ((su S 0 0 (S 20 0)) 21)) 22)) 3 ((sg (sg (su S 0 0 (S 20 0)) 1 ((su S 0 0 (S 20 0)) 21)) 2 ((sg (su S 0 0 (S 20 0)) 1 ((su S 0 0 (S 20 0)) 21)) 22)) 23)) 24)) 25)) 6 0 (S 26 0)) 27)) 28)) 9 ((sg (sg (su (sg (sg (sg (sg (sg (su S 0 0 (S 20 0)) 1 ((su S 0 0 (S 20 0)) 21)) 2 ((sg (su S 0 0 (S 20 0)) 1 ((su S 0 0 (S 20 0)) 21)) 22)) 3 ((sg (sg (su S 0 0 (S 20 0)) 1 ((su S 0 0 (S 20 0)) 21)) 2 ((sg (su S 0 0 (S 20 0)) 1 ((su S 0 0 (S 20 0)) 21)) 22)) 23)) 4 ((sg (sg (sg (su S 0 0 (S 20 0)) 1 ((su S 0 0 (S 20 0)) 21)) 2 ((sg (su S 0 0 (S 20 0)) 1 ((su S 0 0 (S 20 0)) 21)) 22)) 3 ((sg (sg (su S 0 0 (S 20 0)) 1 ((su S 0 0 (S 20 0)) 21)) 2 ((sg (su S 0 0 (S 20 0)) 1 ((su S 0 0 (S 20 0)) 21)) 22)) 23)) 24)) 5 ((sg (sg (sg (sg (su S 0 0 (S 20 0)) 1 ((su S 0 0 (S 20 0)) 21)) 2 ((sg (su S 0 0 (S 20 0)) 1 ((su S 0 0 (S 20 0)) 21)) 22)) 3 ((sg (sg (su S 0 0 (S 20 0)) 1 ((su S 0 0 (S 20 0)) 21)) 2 ((sg (su S 0 0 (S 20 0)) 1 ((su S 0 0 (S 20 0)) 21)) 22)) 23)) 4 ((sg (sg (sg (su S 0 0 (S 20 0)) 1 ((su S 0 0 (S 20 0)) 21)) 2 ((sg (su S 0 0 (S 20 0)) 1 ((su S 0 0 (S 20 0)) 21)) 22)) 3 ((sg (sg (su S 0 0 (S 20 0)) 1 ((su S 0 0 (S 20 0)) 21)) 2 ((sg (su S 0 0 (S 20 0)) 1 ((su S 0 0 (S 20 0)) 21)) 22)) 23)) 24)) 25)) 6 0 (S 26 0)) 7 ((su (sg (sg (sg (sg (sg (su S 0 0 (S 20 0)) 1 ((su S 0 0 (S 20 0)) 21)) 2 ((sg (su S 0 0 (S 20 0)) 1 ((su S 0 0 (S 20 0)) 21)) 22)) 3 ((sg (sg (su S 0 0 (S 20 0)) 1 ((su S 0 0 (S 20 0)) 21)) 2 ((sg (su S 0 0 (S 20 0)) 1 ((su S 0 0 (S 20 0)) 21)) 22)) 23)) 4 ((sg (sg (sg (su S 0 0 (S 20 0)) 1 ((su S 0 0 (S 20 0)) 21)) 2 ((sg (su S 0 0 (S 20 0)) 1 ((su S 0 0 (S 20 0)) 21)) 22)) 3 ((sg (sg (su S 0 0 (S 20 0)) 1 ((su S 0 0 (S 20 0)) 21)) 2 ((sg (su S 0 0 (S 20 0)) 1 ((su S 0 0 (S 20 0)) 21)) 22)) 23)) 24)) 5 ((sg (sg (sg (sg (su S 0 0 (S 20 0)) 1 ((su S 0 0 (S 20 0)) 21)) 2 ((sg (su S 0 0 (S 20 0)) 1 ((su S 0 0 (S 20 0)) 21)) 22)) 3 ((sg (sg (su S 0 0 (S 20 0)) 1 ((su S 0 0 (S 20 0)) 21)) 2 ((sg (su S 0 0 (S 20 0)) 1 ((su S 0 0 (S 20 0)) 21)) 22)) 23)) 4 ((sg (sg (sg (su S 0 0 (S 20 0)) 1 ((su S 0 0 (S 20 0)) 21)) 2 ((sg (su S 0 0 (S 20 0)) 1 ((su S 0 0 (S 20 0)) 21)) 22)) 3 ((sg (sg (su S 0 0 (S 20 0)) 1 ((su S 0 0 (S 20 0)) 21)) 2 ((sg (su S 0 0 (S 20 0)) 1 ((su S 0 0 (S 20 0)) 21)) 22)) 23)) 24)) 25)) 6 0 (S 26 0)) 27)) 8 ((sg (su (sg (sg (sg (sg (sg (su S 0 0 (S 20 0)) 1 ((su S 0 0 (S 20 0)) 21)) 2 ((sg (su S 0 0 (S 20 0)) 1 ((su S 0 0 (S 20 0)) 21)) 22)) 3 ((sg (sg (su S 0 0 (S 20 0)) 1 ((su S 0 0 (S 20 0)) 21)) 2 ((sg (su S 0 0 (S 20 0)) 1 ((su S 0 0 (S 20 0)) 21)) 22)) 23)) 4 ((sg (sg (sg (su S 0 0 (S 20 0)) 1 ((su S 0 0 (S 20 0)) 21)) 2 ((sg (su S 0 0 (S 20 0)) 1 ((su S 0 0 (S 20 0)) 21)) 22)) 3 ((sg (sg (su S 0 0 (S 20 0)) 1 ((su S 0 0 (S 20 0)) 21)) 2 ((sg (su S 0 0 (S 20 0)) 1 ((su S 0 0 (S 20 0)) 21)) 22)) 23)) 24)) 5 ((sg (sg (sg (sg (su S 0 0 (S 20 0)) 1 ((su S 0 0 (S 20 0)) 21)) 2 ((sg (su S 0 0 (S 20 0)) 1 ((su S 0 0 (S 20 0)) 21)) 22)) 3 ((sg (sg (su S 0 0 (S 20 0)) 1 ((su S 0 0 (S 20 0)) 21)) 2 ((sg (su S 0 0 (S 20 0)) 1 ((su S 0 0 (S 20 0)) 21)) 22)) 23)) 4 ((sg (sg (sg (su S 0 0 (S 20 0)) 1 ((su S 0 0 (S 20 0)) 21)) 2 ((sg (su S 0 0 (S 20 0)) 1 ((su S 0 0 (S 20 0)) 21)) 22)) 3 ((sg (sg (su S 0 0 (S 20 0)) 1 ((su S 0 0 (S 20 0)) 21)) 2 ((sg (su S 0 0 (S 20 0)) 1 ((su S 0 0 (S 20 0)) 21)) 22)) 23)) 24)) 25)) 6 0 (S 26 0)) 7 ((su (sg (sg (sg (sg (sg (su S 0 0 (S 20 0)) 1 ((su S 0 0 (S 20 0)) 21)) 2 ((sg (su S 0 0 (S 20 0)) 1 ((su S 0 0 (S 20 0)) 21)) 22)) 3 ((sg (sg (su S 0 0 (S 20 0)) 1 ((su S 0 0 (S 20 0)) 21)) 2 ((sg (su S 0 0 (S 20 0)) 1 ((su S 0 0 (S 20 0)) 21)) 22)) 23)) 4 ((sg (sg (sg (su S 0 0 (S 20 0)) 1 ((su S 0 0 (S 20 0)) 21)) 2 ((sg (su S 0 0 (S 20 0)) 1 ((su S 0 0 (S 20 0)) 21)) 22)) 3 ((sg (sg (su S 0 0 (S 20 0)) 1 ((su S 0 0 (S 20 0)) 21)) 2 ((sg (su S 0 0 (S 20 0)) 1 ((su S 0 0 (S 20 0)) 21)) 22)) 23)) 24)) 5 ((sg (sg (sg (sg (su S 0 0 (S 20 0)) 1 ((su S 0 0 (S 20 0)) 21)) 2 ((sg (su S 0 0 (S 20 0)) 1 ((su S 0 0 (S 20 0)) 21)) 22)) 3 ((sg (sg (su S 0 0 (S 20 0)) 1 ((su S 0 0 (S 20 0)) 21)) 2 ((sg (su S 0 0 (S 20 0)) 1 ((su S 0 0 (S 20 0)) 21)) 22)) 23)) 4 ((sg (sg (sg (su S 0 0 (S 20 0)) 1 ((su S 0 0 (S 20 0)) 21)) 2 ((sg (su S 0 0 (S 20 0)) 1 ((su S 0 0 (S 20 0)) 21)) 22)) 3 ((sg (sg (su S 0 0 (S 20 0)) 1 ((su S 0 0 (S 20 0)) 21)) 2 ((sg (su S 0 0 (S 20 0)) 1 ((su S 0 0 (S 20 0)) 21)) 22)) 23)) 24)) 25)) 6 0 (S 26 0)) 27)) 28)) 29)) 10 0 (S 30 0)) 11 ((su (sg (sg (sg (su (sg (sg (sg (sg (sg (su S 0 0 (S 20 0)) 1 ((su S 0 0 (S 20 0)) 21)) 2 ((sg (su S 0 0 (S 20 0)) 1 ((su S 0 0 (S 20 0)) 21)) 22)) 3 ((sg (sg (su S 0 0 (S 20 0)) 1 ((su S 0 0 (S 20 0)) 21)) 2 ((sg (su S 0 0 (S 20 0)) 1 ((su S 0 0 (S 20 0)) 21)) 22)) 23)) 4 ((sg (sg (sg (su S 0 0 (S 20 0)) 1 ((su S 0 0 (S 20 0)) 21)) 2 ((sg (su S 0 0 (S 20 0)) 1 ((su S 0 0 (S 20 0)) 21)) 22)) 3 ((sg (sg (su S 0 0 (S 20 0)) 1 ((su S 0 0 (S 20 0)) 21)) 2 ((sg (su S 0 0 (S 20 0)) 1 ((su S 0 0 (S 20 0)) 21)) 22)) 23)) 24)) 5 ((sg (sg (sg (sg (su S 0 0 (S 20 0)) 1 ((su S 0 0 (S 20 0)) 21)) 2 ((sg (su S 0 0 (S 20 0)) 1 ((su S 0 0 (S 20 0)) 21)) 22)) 3 ((sg (sg (su S 0 0 (S 20 0)) 1 ((su S 0 0 (S 20 0)) 21)) 2 ((sg (su S 0 0 (S 20 0)) 1 ((su S 0 0 (S 20 0)) 21)) 22)) 23)) 4 ((sg (sg (sg (su S 0 0 (S 20 0)) 1 ((su S 0 0 (S 20 0)) 21)) 2 ((sg (su S 0 0 (S 20 0)) 1 ((su S 0 0 (S 20 0)) 21)) 22)) 3 ((sg (sg (su S 0 0 (S 20 0)) 1 ((su S 0 0 (S 20 0)) 21)) 2 ((sg (su S 0 0 (S 20 0)) 1 ((su S 0 0 (S 20 0)) 21)) 22)) 23)) 24)) 25)) 6 0 (S 26 0)) 7 ((su (sg (sg (sg (sg (sg (su S 0 0 (S 20 0)) 1 ((su S 0 0 (S 20 0)) 21)) 2 ((sg (su S 0 0 (S 20 0)) 1 ((su S 0 0 (S 20 0)) 21)) 22)) 3 ((sg (sg (su S 0 0 (S 20 0)) 1 ((su S 0 0 (S 20 0)) 21)) 2 ((sg (su S 0 0 (S 20 0)) 1 ((su S 0 0 (S 20 0)) 21)) 22)) 23)) 4 ((sg (sg (sg (su S 0 0 (S 20 0)) 1 ((su S 0 0 (S 20 0)) 21)) 2 ((sg (su S 0 0 (S 20 0)) 1 ((su S 0 0 (S 20 0)) 21)) 22)) 3 ((sg (sg (su S 0 0 (S 20 0)) 1 ((su S 0 0 (S 20 0)) 21)) 2 ((sg (su S 0 0 (S 20 0)) 1 ((su S 0 0 (S 20 0)) 21)) 22)) 23)) 24)) 5 ((sg (sg (sg (sg (su S 0 0 (S 20 0)) 1 ((su S 0 0 (S 20 0)) 21)) 2 ((sg (su S 0 0 (S 20 0)) 1 ((su S 0 0 (S 20 0)) 21)) 22)) 3 ((sg (sg (su S 0 0 (S 20 0)) 1 ((su S 0 0 (S 20 0)) 21)) 2 ((sg (su S 0 0 (S 20 0)) 1 ((su S 0 0 (S 20 0)) 21)) 22)) 23)) 4 ((sg (sg (sg (su S 0 0 (S 20 0)) 1 ((su S 0 0 (S 20 0)) 21)) 2 ((sg (su S 0 0 (S 20 0)) 1 ((su S 0 0 (S 20 0)) 21)) 22)) 3 ((sg (sg (su S 0 0 (S 20 0)) 1 ((su S 0 0 (S 20 0)) 21)) 2 ((sg (su S 0 0 (S 20 0)) 1 ((su S 0 0 (S 20 0)) 21)) 22)) 23)) 24)) 25)) 6 0 (S 26 0)) 27)) 8 ((sg (su (sg (sg (sg (sg (sg (su S 0 0 (S 20 0)) 1 ((su S 0 0 (S 20 0)) 21)) 2 ((sg (su S 0 0 (S 20 0)) 1 ((su S 0 0 (S 20 0)) 21)) 22)) 3 ((sg (sg (su S 0 0 (S 20 0)) 1 ((su S 0 0 (S 20 0)) 21)) 2 ((sg (su S 0 0 (S 20 0)) 1 ((su S 0 0 (S 20 0)) 21)) 22)) 23)) 4 ((sg (sg (sg (su S 0 0 (S 20 0)) 1 ((su S 0 0 (S 20 0)) 21)) 2 ((sg (su S 0 0 (S 20 0)) 1 ((su S 0 0 (S 20 0)) 21)) 22)) 3 ((sg (sg (su S 0 0 (S 20 0)) 1 ((su S 0 0 (S 20 0)) 21)) 2 ((sg (su S 0 0 (S 20 0)) 1 ((su S 0 0 (S 20 0)) 21)) 22)) 23)) 24)) 5 ((sg (sg (sg (sg (su S 0 0 (S 20 0)) 1 ((su S 0 0 (S 20 0)) 21)) 2 ((sg (su S 0 0 (S 20 0)) 1 ((su S 0 0 (S 20 0)) 21)) 22)) 3 ((sg (sg (su S 0 0 (S 20 0)) 1 ((su S 0 0 (S 20 0)) 21)) 2 ((sg (su S 0 0 (S 20 0)) 1 ((su S 0 0 (S 20 0)) 21)) 22)) 23)) 4 ((sg (sg (sg (su S 0 0 (S 20 0)) 1 ((su S 0 0 (S 20 0)) 21)) 2 ((sg (su S 0 0 (S 20 0)) 1 ((su S 0 0 (S 20 0)) 21)) 22)) 3 ((sg (sg (su S 0 0 (S 20 0)) 1 ((su S 0 0 (S 20 0)) 21)) 2 ((sg (su S 0 0 (S 20 0)) 1 ((su S 0 0 (S 20 0)) 21)) 22)) 23)) 24)) 25)) 6 0 (S 26 0)) 7 ((su (sg (sg (sg (sg (sg (su S 0 0 (S 20 0)) 1 ((su S 0 0 (S 20 0)) 21)) 2 ((sg (su S 0 0 (S 20 0)) 1 ((su S 0 0 (S 20 0)) 21)) 22)) 3 ((sg (sg (su S 0 0 (S 20 0)) 1 ((su S 0 0 (S 20 0)) 21)) 2 ((sg (su S 0 0 (S 20 0)) 1 ((su S 0 0 (S 20 0)) 21)) 22)) 23)) 4 ((sg (sg (sg (su S 0 0 (S 20 0)) 1 ((su S 0 0 (S 20 0)) 21)) 2 ((sg (su S 0 0 (S 20 0)) 1 ((su S 0 0 (S 20 0)) 21)) 22)) 3 ((sg (sg (su S 0 0 (S 20 0)) 1 ((su S 0 0 (S 20 0)) 21)) 2 ((sg (su S 0 0 (S 20 0)) 1 ((su S 0 0 (S 20 0)) 21)) 22)) 23)) 24)) 5 ((sg (sg (sg (sg (su S 0 0 (S 20 0)) 1 ((su S 0 0 (S 20 0)) 21)) 2 ((sg (su S 0 0 (S 20 0)) 1 ((su S 0 0 (S 20 0)) 21)) 22)) 3 ((sg (sg (su S 0 0 (S 20 0)) 1 ((su S 0 0 (S 20 0)) 21)) 2 ((sg (su S 0 0 (S 20 0)) 1 ((su S 0 0 (S 20 0)) 21)) 22)) 23)) 4 ((sg (sg (sg (su S 0 0 (S 20 0)) 1 ((su S 0 0 (S 20 0)) 21)) 2 ((sg (su S 0 0 (S 20 0)) 1 ((su S 0 0 (S 20 0)) 21)) 22)) 3 ((sg (sg (su S 0 0 (S 20 0)) 1 ((su S 0 0 (S 20 0)) 21)) 2 ((sg (su S 0 0 (S 20 0)) 1 ((su S 0 0 (S 20 0)) 21)) 22)) 23)) 24)) 25)) 6 0 (S 26 0)) 27)) 28)) 9 ((sg (sg (su (sg (sg (sg (sg (sg (su S 0 0 (S 20 0)) 1 ((su S 0 0 (S 20 0)) 21)) 2 ((sg (su S 0 0 (S 20 0)) 1 ((su S 0 0 (S 20 0)) 21)) 22)) 3 ((sg (sg (su S 0 0 (S 20 0)) 1 ((su S 0 0 (S 20 0)) 21)) 2 ((sg (su S 0 0 (S 20 0)) 1 ((su S 0 0 (S 20 0)) 21)) 22)) 23)) 4 ((sg (sg (sg (su S 0 0 (S 20 0)) 1 ((su S 0 0 (S 20 0)) 21)) 2 ((sg (su S 0 0 (S 20 0)) 1 ((su S 0 0 (S 20 0)) 21)) 22)) 3 ((sg (sg (su S 0 0 (S 20 0)) 1 ((su S 0 0 (S 20 0)) 21)) 2 ((sg (su S 0 0 (S 20 0)) 1 ((su S 0 0 (S 20 0)) 21)) 22)) 23)) 24)) 5 ((sg (sg (sg (sg (su S 0 0 (S 20 0)) 1 ((su S 0 0 (S 20 0)) 21)) 2 ((sg (su S 0 0 (S 20 0)) 1 ((su S 0 0 (S 20 0)) 21)) 22)) 3 ((sg (sg (su S 0 0 (S 20 0)) 1 ((su S 0 0 (S 20 0)) 21)) 2 ((sg (su S 0 0 (S 20 0)) 1 ((su S 0 0 (S 20 0)) 21)) 22)) 23)) 4 ((sg (sg (sg (su S 0 0 (S 20 0)) 1 ((su S 0 0 (S 20 0)) 21)) 2 ((sg (su S 0 0 (S 20 0)) 1 ((su S 0 0 (S 20 0)) 21)) 22)) 3 ((sg (sg (su S 0 0 (S 20 0)) 1 ((su S 0 0 (S 20 0)) 21)) 2 ((sg (su S 0 0 (S 20 0)) 1 ((su S 0 0 (S 20 0)) 21)) 22)) 23)) 24)) 25)) 6 0 (S 26 0)) 7 ((su (sg (sg (sg (sg (sg (su S 0 0 (S 20 0)) 1 ((su S 0 0 (S 20 0)) 21)) 2 ((sg (su S 0 0 (S 20 0)) 1 ((su S 0 0 (S 20 0)) 21)) 22)) 3 ((sg (sg (su S 0 0 (S 20 0)) 1 ((su S 0 0 (S 20 0)) 21)) 2 ((sg (su S 0 0 (S 20 0)) 1 ((su S 0 0 (S 20 0)) 21)) 22)) 23)) 4 ((sg (sg (sg (su S 0 0 (S 20 0)) 1 ((su S 0 0 (S 20 0)) 21)) 2 ((sg (su S 0 0 (S 20 0)) 1 ((su S 0 0 (S 20 0)) 21)) 22)) 3 ((sg (sg (su S 0 0 (S 20 0)) 1 ((su S 0 0 (S 20 0)) 21)) 2 ((sg (su S 0 0 (S 20 0)) 1 ((su S 0 0 (S 20 0)) 21)) 22)) 23)) 24)) 5 ((sg (sg (sg (sg (su S 0 0 (S 20 0)) 1 ((su S 0 0 (S 20 0)) 21)) 2 ((sg (su S 0 0 (S 20 0)) 1 ((su S 0 0 (S 20 0)) 21)) 22)) 3 ((sg (sg (su S 0 0 (S 20 0)) 1 ((su S 0 0 (S 20 0)) 21)) 2 ((sg (su S 0 0 (S 20 0)) 1 ((su S 0 0 (S 20 0)) 21)) 22)) 23)) 4 ((sg (sg (sg (su S 0 0 (S 20 0)) 1 ((su S 0 0 (S 20 0)) 21)) 2 ((sg (su S 0 0 (S 20 0)) 1 ((su S 0 0 (S 20 0)) 21)) 22)) 3 ((sg (sg (su S 0 0 (S 20 0)) 1 ((su S 0 0 (S 20 0)) 21)) 2 ((sg (su S 0 0 (S 20 0)) 1 ((su S 0 0 (S 20 0)) 21)) 22)) 23)) 24)) 25)) 6 0 (S 26 0)) 27)) 8 ((sg (su (sg (sg (sg (sg (sg (su S 0 0 (S 20 0)) 1 ((su S 0 0 (S 20 0)) 21)) 2 ((sg (su S 0 0 (S 20 0)) 1 ((su S 0 0 (S 20 0)) 21)) 22)) 3 ((sg (sg (su S 0 0 (S 20 0)) 1 ((su S 0 0 (S 20 0)) 21)) 2 ((sg (su S 0 0 (S 20 0)) 1 ((su S 0 0 (S 20 0)) 21)) 22)) 23)) 4 ((sg (sg (sg (su S 0 0 (S 20 0)) 1 ((su S 0 0 (S 20 0)) 21)) 2 ((sg (su S 0 0 (S 20 0)) 1 ((su S 0 0 (S 20 0)) 21)) 22)) 3 ((sg (sg (su S 0 0 (S 20 0)) 1 ((su S 0 0 (S 20 0)) 21)) 2 ((sg (su S 0 0 (S 20 0)) 1 ((su S 0 0 (S 20 0)) 21)) 22)) 23)) 24)) 5 ((sg (sg (sg (sg (su S 0 0 (S 20 0)) 1 ((su S 0 0 (S 20 0)) 21)) 2 ((sg (su S 0 0 (S 20 0)) 1 ((su S 0 0 (S 20 0)) 21)) 22)) 3 ((sg (sg (su S 0 0 (S 20 0)) 1 ((su S 0 0 (S 20 0)) 21)) 2 ((sg (su S 0 0 (S 20 0)) 1 ((su S 0 0 (S 20 0)) 21)) 22)) 23)) 4 ((sg (sg (sg (su S 0 0 (S 20 0)) 1 ((su S 0 0 (S 20 0)) 21)) 2 ((sg (su S 0 0 (S 20 0)) 1 ((su S 0 0 (S 20 0)) 21)) 22)) 3 ((sg (sg (su S 0 0 (S 20 0)) 1 ((su S 0 0 (S 20 0)) 21)) 2 ((sg (su S 0 0 (S 20 0)) 1 ((su S 0 0 (S 20 0)) 21)) 22)) 23)) 24)) 25)) 6 0 (S 26 0)) 7 ((su (sg (sg (sg (sg (sg (su S 0 0 (S 20 0)) 1 ((su S 0 0 (S 20 0)) 21)) 2 ((sg (su S 0 0 (S 20 0)) 1 ((su S 0 0 (S 20 0)) 21)) 22)) 3 ((sg (sg (su S 0 0 (S 20 0)) 1 ((su S 0 0 (S 20 0)) 21)) 2 ((sg (su S 0 0 (S 20 0)) 1 ((su S 0 0 (S 20 0)) 21)) 22)) 23)) 4 ((sg (sg (sg (su S 0 0 (S 20 0)) 1 ((su S 0 0 (S 20 0)) 21)) 2 ((sg (su S 0 0 (S 20 0)) 1 ((su S 0 0 (S 20 0)) 21)) 22)) 3 ((sg (sg (su S 0 0 (S 20 0)) 1 ((su S 0 0 (S 20 0)) 21)) 2 ((sg (su S 0 0 (S 20 0)) 1 ((su S 0 0 (S 20 0)) 21)) 22)) 23)) 24)) 5 ((sg (sg (sg (sg (su S 0 0 (S 20 0)) 1 ((su S 0 0 (S 20 0)) 21)) 2 ((sg (su S 0 0 (S 20 0)) 1 ((su S 0 0 (S 20 0)) 21)) 22)) 3 ((sg (sg (su S 0 0 (S 20 0)) 1 ((su S 0 0 (S 20 0)) 21)) 2 ((sg (su S 0 0 (S 20 0)) 1 ((su S 0 0 (S 20 0)) 21)) 22)) 23)) 4 ((sg (sg (sg (su S 0 0 (S 20 0)) 1 ((su S 0 0 (S 20 0)) 21)) 2 ((sg (su S 0 0 (S 20 0)) 1 ((su S 0 0 (S 20 0)) 21)) 22)) 3 ((sg (sg (su S 0 0 (S 20 0)) 1 ((su S 0 0 (S 20 0)) 21)) 2 ((sg (su S 0 0 (S 20 0)) 1 ((su S 0 0 (S 20 0)) 21)) 22)) 23)) 24)) 25)) 6 0 (S 26 0)) 27)) 28)) 29)) 10 0 (S 30 0)) 31)) 12 0 (S 32 0)) ld it := by
  unfold Wo_becomeAs
  rw [cp7, cp49, cp8, cp12]
  simp only [gq_t]
  simp (disch := omega) only [cpi_ne, si_ne, si_nj, cF20 h.1, cF26 h.1, cF30 h.1, cF32 h.1, i_7, i_8, i_49, i_12]
  exact ⟨_, rfl, (StC_set (f := 12) (i := 0) (v := S 32 0) (StC_cpy 31 11 30 20 12 (StC_set (f := 10) (i := 0) (v := S 30 0) (StC_cpy 29 9 29 19 8 (StC_cpy 28 8 28 18 8 (StC_cpy 27 7 27 17 8 (StC_set (f := 6) (i := 0) (v := S 26 0) (StC_cpy 25 5 26 16 7 (StC_cpy 24 4 25 15 49 (StC_cpy 23 3 24 14 7 (StC_cpy 22 2 23 13 7 (StC_cpy 21 1 22 12 7 (StC_set (f := 0) (i := 0) (v := S 20 0) h (Wf_41 hW) (by decide) (by decide) rfl) (by simp (disch := omega) only [si_e, si_ne, si_nj, sl_r, si_l, ga_n, n_cl, n_lt, n_le, n_eq, n_add, n_mul, n_sub, n_eqm, n_meq, n_mm, n_mlt, n_mle, n_ltm, Option.bind_some, if_pos, if_neg, su_ne, sg_ne]; exact Wf_41 hW) (fun _ => rfl) (fun _ => rfl) rfl rfl (by omega) (by omega) (fun _ => rfl) (by omega)) (by simp (disch := omega) only [si_e, si_ne, si_nj, sl_r, si_l, ga_n, n_cl, n_lt, n_le, n_eq, n_add, n_mul, n_sub, n_eqm, n_meq, n_mm, n_mlt, n_mle, n_ltm, Option.bind_some, if_pos, if_neg, su_ne, sg_ne]; exact Wf_41 hW) (fun _ => rfl) (fun _ => rfl) rfl rfl (by omega) (by omega) (fun _ => rfl) (by omega)) (by simp (disch := omega) only [si_e, si_ne, si_nj, sl_r, si_l, ga_n, n_cl, n_lt, n_le, n_eq, n_add, n_mul, n_sub, n_eqm, n_meq, n_mm, n_mlt, n_mle, n_ltm, Option.bind_some, if_pos, if_neg, su_ne, sg_ne]; exact Wf_41 hW) (fun _ => rfl) (fun _ => rfl) rfl rfl (by omega) (by omega) (fun _ => rfl) (by omega)) (by simp (disch := omega) only [si_e, si_ne, si_nj, sl_r, si_l, ga_n, n_cl, n_lt, n_le, n_eq, n_add, n_mul, n_sub, n_eqm, n_meq, n_mm, n_mlt, n_mle, n_ltm, Option.bind_some, if_pos, if_neg, su_ne, sg_ne]; exact Wf_41 hW) (fun _ => rfl) (fun _ => rfl) rfl rfl (by omega) (by omega) (fun _ => rfl) (by omega)) (by simp (disch := omega) only [si_e, si_ne, si_nj, sl_r, si_l, ga_n, n_cl, n_lt, n_le, n_eq, n_add, n_mul, n_sub, n_eqm, n_meq, n_mm, n_mlt, n_mle, n_ltm, Option.bind_some, if_pos, if_neg, su_ne, sg_ne]; exact Wf_41 hW) (fun _ => rfl) (fun _ => rfl) rfl rfl (by omega) (by omega) (fun _ => rfl) (by omega)) (by simp (disch := omega) only [si_e, si_ne, si_nj, sl_r, si_l, ga_n, n_cl, n_lt, n_le, n_eq, n_add, n_mul, n_sub, n_eqm, n_meq, n_mm, n_mlt, n_mle, n_ltm, Option.bind_some, if_pos, if_neg, su_ne, sg_ne]; exact Wf_41 hW) (by decide) (by decide) rfl) (by simp (disch := omega) only [si_e, si_ne, si_nj, sl_r, si_l, ga_n, n_cl, n_lt, n_le, n_eq, n_add, n_mul, n_sub, n_eqm, n_meq, n_mm, n_mlt, n_mle, n_ltm, Option.bind_some, if_pos, if_neg, su_ne, sg_ne]; exact Wf_41 hW) (fun _ => rfl) (fun _ => rfl) rfl rfl (by omega) (by omega) (fun _ => rfl) (by omega)) (by simp (disch := omega) only [si_e, si_ne, si_nj, sl_r, si_l, ga_n, n_cl, n_lt, n_le, n_eq, n_add, n_mul, n_sub, n_eqm, n_meq, n_mm, n_mlt, n_mle, n_ltm, Option.bind_some, if_pos, if_neg, su_ne, sg_ne]; exact Wf_41 hW) (fun _ => rfl) (fun _ => rfl) rfl rfl (by omega) (by omega) (fun _ => rfl) (by omega)) (by simp (disch := omega) only [si_e, si_ne, si_nj, sl_r, si_l, ga_n, n_cl, n_lt, n_le, n_eq, n_add, n_mul, n_sub, n_eqm, n_meq, n_mm, n_mlt, n_mle, n_ltm, Option.bind_some, if_pos, if_neg, su_ne, sg_ne]; exact Wf_41 hW) (fun _ => rfl) (fun _ => rfl) rfl rfl (by omega) (by omega) (fun _ => rfl) (by omega)) (by simp (disch := omega) only [si_e, si_ne, si_nj, sl_r, si_l, ga_n, n_cl, n_lt, n_le, n_eq, n_add, n_mul, n_sub, n_eqm, n_meq, n_mm, n_mlt, n_mle, n_ltm, Option.bind_some, if_pos, if_neg, su_ne, sg_ne]; exact Wf_41 hW) (by decide) (by decide) rfl) (by simp (disch := omega) only [si_e, si_ne, si_nj, sl_r, si_l, ga_n, n_cl, n_lt, n_le, n_eq, n_add, n_mul, n_sub, n_eqm, n_meq, n_mm, n_mlt, n_mle, n_ltm, Option.bind_some, if_pos, if_neg, su_ne, sg_ne]; exact Wf_41 hW) (fun _ => rfl) (fun _ => rfl) rfl rfl (by omega) (by omega) (fun _ => rfl) (by omega)) (by simp (disch := omega) only [si_e, si_ne, si_nj, sl_r, si_l, ga_n, n_cl, n_lt, n_le, n_eq, n_add, n_mul, n_sub, n_eqm, n_meq, n_mm, n_mlt, n_mle, n_ltm, Option.bind_some, if_pos, if_neg, su_ne, sg_ne]; exact Wf_41 hW) (by decide) (by decide) rfl)⟩
theorem undo_ce {S : Sn} (f i : Nat) (hi : i < lenC f) : (su (sg (su (sg (sg (sg (su (sg (sg (sg (sg (sg (su S 0 0 (S 20 0)) 1 ((su S 0 0 (S 20 0)) 21)) 2 ((sg (su S 0 0 (S 20 0)) 1 ((su S 0 0 (S 20 0)) 21)) 22)) 3 ((sg (sg (su S 0 0 (S 20 0)) 1 ((su S 0 0 (S 20 0)) 21)) 2 ((sg (su S 0 0 (S 20 0)) 1 ((su S 0 0 (S 20 0)) 21)) 22)) 23)) 4 ((sg (sg (sg (su S 0 0 (S 20 0)) 1 ((su S 0 0 (S 20 0)) 21)) 2 ((sg (su S 0 0 (S 20 0)) 1 ((su S 0 0 (S 20 0)) 21)) 22)) 3 ((sg (sg (su S 0 0 (S 20 0)) 1 ((su S 0 0 (S 20 0)) 21)) 2 ((sg (su S 0 0 (S 20 0)) 1 ((su S 0 0 (S 20 0)) 21)) 22)) 23)) 24)) 5 ((sg (sg (sg (sg (su S 0 0 (S 20 0)) 1 ((su S 0 0 (S 20 0)) 21)) 2 ((sg (su S 0 0 (S 20 0)) 1 ((su S 0 0 (S 20 0)) 21)) 22)) 3 ((sg (sg (su S 0 0 (S 20 0)) 1 ((su S 0 0 (S 20 0)) 21)) 2 ((sg (su S 0 0 (S 20 0)) 1 ((su S 0 0 (S 20 0)) 21)) 22)) 23)) 4 ((sg (sg (sg (su S 0 0 (S 20 0)) 1 ((su S 0 0 (S 20 0)) 21)) 2 ((sg (su S 0 0 (S 20 0)) 1 ((su S 0 0 (S 20 0)) 21)) 22)) 3 ((sg (sg (su S 0 0 (S 20 0)) 1 ((su S 0 0 (S 20 0)) 21)) 2 ((sg (su S 0 0 (S 20 0)) 1 ((su S 0 0 (S 20 0)) 21)) 22)) 23)) 24)) 25)) 6 0 (S 26 0)) 7 ((su (sg (sg (sg (sg (sg (su S 0 0 (S 20 0)) 1 ((su S 0 0 (S 20 0)) 21)) 2 ((sg (su S 0 0 (S 20 0)) 1 ((su S 0 0 (S 20 0)) 21)) 22)) 3 ((sg (sg (su S 0 0 (S 20 0)) 1 ((su S 0 0 (S 20 0)) 21)) 2 ((sg (su S 0 0 (S 20 0)) 1 ((su S 0 0 (S 20 0)) 21)) 22)) 23)) 4 ((sg (sg (sg (su S 0 0 (S 20 0)) 1 ((su S 0 0 (S 20 0)) 21)) 2 ((sg (su S 0 0 (S 20 0)) 1 ((su S 0 0 (S 20 0)) 21)) 22)) 3 ((sg (sg (su S 0 0 (S 20 0)) 1 ((su S 0 0 (S 20 0)) 21)) 2 ((sg (su S 0 0 (S 20 0)) 1 ((su S 0 0 (S 20 0)) 21)) 22)) 23)) 24)) 5 ((sg (sg (sg (sg (su S 0 0 (S 20 0)) 1 ((su S 0 0 (S 20 0)) 21)) 2 ((sg (su S 0 0 (S 20 0)) 1 ((su S 0 0 (S 20 0)) 21)) 22)) 3 ((sg (sg (su S 0 0 (S 20 0)) 1 ((su S 0 0 (S 20 0)) 21)) 2 ((sg (su S 0 0 (S 20 0)) 1 ((su S 0 0 (S 20 0)) 21)) 22)) 23)) 4 ((sg (sg (sg (su S 0 0 (S 20 0)) 1 ((su S 0 0 (S 20 0)) 21)) 2 ((sg (su S 0 0 (S 20 0)) 1 ((su S 0 0 (S 20 0)) 21)) 22)) 3 ((sg (sg (su S 0 0 (S 20 0)) 1 ((su S 0 0 (S 20 0)) 21)) 2 ((sg (su S 0 0 (S 20 0)) 1 ((su S 0 0 (S 20 0)) 21)) 22)) 23)) 24)) 25)) 6 0 (S 26 0)) 27)) 8 ((sg (su (sg (sg (sg (sg (sg (su S 0 0 (S 20 0)) 1 ((su S 0 0 (S 20 0)) 21)) 2 ((sg (su S 0 0 (S 20 0)) 1 ((su S 0 0 (S 20 0)) 21)) 22)) 3 ((sg (sg (su S 0 0 (S 20 0)) 1 ((su S 0 0 (S 20 0)) 21)) 2 ((sg (su S 0 0 (S 20 0)) 1 ((su S 0 0 (S 20 0)) 21)) 22)) 23)) 4 ((sg (sg (sg (su S 0 0 (S 20 0)) 1 ((su S 0 0 (S 20 0)) 21)) 2 ((sg (su S 0 0 (S 20 0)) 1 ((su S 0 0 (S 20 0)) 21)) 22)) 3 ((sg (sg (su S 0 0 (S 20 0)) 1 ((su S 0 0 (S 20 0)) 21)) 2 ((sg (su S 0 0 (S 20 0)) 1 ((su S 0 0 (S 20 0)) 21)) 22)) 23)) 24)) 5 ((sg (sg (sg (sg (su S 0 0 (S 20 0)) 1 ((su S 0 0 (S 20 0)) 21)) 2 ((sg (su S 0 0 (S 20 0)) 1 ((su S 0 0 (S 20 0)) 21)) 22)) 3 ((sg (sg (su S 0 0 (S 20 0)) 1 ((su S 0 0 (S 20 0)) 21)) 2 ((sg (su S 0 0 (S 20 0)) 1 ((su S 0 0 (S 20 0)) 21)) 22)) 23)) 4 ((sg (sg (sg (su S 0 0 (S 20 0)) 1 ((su S 0 0 (S 20 0)) 21)) 2 ((sg (su S 0 0 (S 20 0)) 1 ((su S 0 0 (S 20 0)) 21)) 22)) 3 ((sg (sg (su S 0 0 (S 20 0)) 1 ((su S 0 0 (S 20 0)) 21)) 2 ((sg (su S 0 0 (S 20 0)) 1 ((su S 0 0 (S 20 0)) 21)) 22)) 23)) 24)) 25)) 6 0 (S 26 0)) 7 ((su (sg (sg (sg (sg (sg (su S 0 0 (S 20 0)) 1 ((su S 0 0 (S 20 0)) 21)) 2 ((sg (su S 0 0 (S 20 0)) 1 ((su S 0 0 (S 20 0)) 21)) 22)) 3 ((sg (sg (su S 0 0 (S 20 0)) 1 ((su S 0 0 (S 20 0)) 21)) 2 ((sg (su S 0 0 (S 20 0)) 1 ((su S 0 0 (S 20 0)) 21)) 22)) 23)) 4 ((sg (sg (sg (su S 0 0 (S 20 0)) 1 ((su S 0 0 (S 20 0)) 21)) 2 ((sg (su S 0 0 (S 20 0)) 1 ((su S 0 0 (S 20 0)) 21)) 22)) 3 ((sg (sg (su S 0 0 (S 20 0)) 1 ((su S 0 0 (S 20 0)) 21)) 2 ((sg (su S 0 0 (S 20 0)) 1 ((su S 0 0 (S 20 0)) 21)) 22)) 23)) 24)) 5 ((sg (sg (sg (sg (su S 0 0 (S 20 0)) 1 ((su S 0 0 (S 20 0)) 21)) 2 ((sg (su S 0 0 (S 20 0)) 1 ((su S 0 0 (S 20 0)) 21)) 22)) 3 ((sg (sg (su S 0 0 (S 20 0)) 1 ((su S 0 0 (S 20 0)) 21)) 2 ((sg (su S 0 0 (S 20 0)) 1 ((su S 0 0 (S 20 0)) 21)) 22)) 23)) 4 ((sg (sg (sg (su S 0 0 (S 20 0)) 1 ((su S 0 0 (S 20 0)) 21)) 2 ((sg (su S 0 0 (S 20 0)) 1 ((su S 0 0 (S 20 0)) 21)) 22)) 3 ((sg (sg (su S 0 0 (S 20 0)) 1 ((su S 0 0 (S 20 0)) 21)) 2 ((sg (su S 0 0 (S 20 0)) 1 ((su S 0 0 (S 20 0)) 21)) 22)) 23)) 24)) 25)) 6 0 (S 26 0)) 27)) 28)) 9 ((sg (sg (su (sg (sg (sg (sg (sg (su S 0 0 (S 20 0)) 1 ((su S 0 0 (S 20 0)) 21)) 2 ((sg (su S 0 0 (S 20 0)) 1 ((su S 0 0 (S 20 0)) 21)) 22)) 3 ((sg (sg (su S 0 0 (S 20 0)) 1 ((su S 0 0 (S 20 0)) 21)) 2 ((sg (su S 0 0 (S 20 0)) 1 ((su S 0 0 (S 20 0)) 21)) 22)) 23)) 4 ((sg (sg (sg (su S 0 0 (S 20 0)) 1 ((su S 0 0 (S 20 0)) 21)) 2 ((sg (su S 0 0 (S 20 0)) 1 ((su S 0 0 (S 20 0)) 21)) 22)) 3 ((sg (sg (su S 0 0 (S 20 0)) 1 ((su S 0 0 (S 20 0)) 21)) 2 ((sg (su S 0 0 (S 20 0)) 1 ((su S 0 0 (S 20 0)) 21)) 22)) 23)) 24)) 5 ((sg (sg (sg (sg (su S 0 0 (S 20 0)) 1 ((su S 0 0 (S 20 0)) 21)) 2 ((sg (su S 0 0 (S 20 0)) 1 ((su S 0 0 (S 20 0)) 21)) 22)) 3 ((sg (sg (su S 0 0 (S 20 0)) 1 ((su S 0 0 (S 20 0)) 21)) 2 ((sg (su S 0 0 (S 20 0)) 1 ((su S 0 0 (S 20 0)) 21)) 22)) 23)) 4 ((sg (sg (sg (su S 0 0 (S 20 0)) 1 ((su S 0 0 (S 20 0)) 21)) 2 ((sg (su S 0 0 (S 20 0)) 1 ((su S 0 0 (S 20 0)) 21)) 22)) 3 ((sg (sg (su S 0 0 (S 20 0)) 1 ((su S 0 0 (S 20 0)) 21)) 2 ((sg (su S 0 0 (S 20 0)) 1 ((su S 0 0 (S 20 0)) 21)) 22)) 23)) 24)) 25)) 6 0 (S 26 0)) 7 ((su (sg (sg (sg (sg (sg (su S 0 0 (S 20 0)) 1 ((su S 0 0 (S 20 0)) 21)) 2 ((sg (su S 0 0 (S 20 0)) 1 ((su S 0 0 (S 20 0)) 21)) 22)) 3 ((sg (sg (su S 0 0 (S 20 0)) 1 ((su S 0 0 (S 20 0)) 21)) 2 ((sg (su S 0 0 (S 20 0)) 1 ((su S 0 0 (S 20 0)) 21)) 22)) 23)) 4 ((sg (sg (sg (su S 0 0 (S 20 0)) 1 ((su S 0 0 (S 20 0)) 21)) 2 ((sg (su S 0 0 (S 20 0)) 1 ((su S 0 0 (S 20 0)) 21)) 22)) 3 ((sg (sg (su S 0 0 (S 20 0)) 1 ((su S 0 0 (S 20 0)) 21)) 2 ((sg (su S 0 0 (S 20 0)) 1 ((su S 0 0 (S 20 0)) 21)) 22)) 23)) 24)) 5 ((sg (sg (sg (sg (su S 0 0 (S 20 0)) 1 ((su S 0 0 (S 20 0)) 21)) 2 ((sg (su S 0 0 (S 20 0)) 1 ((su S 0 0 (S 20 0)) 21)) 22)) 3 ((sg (sg (su S 0 0 (S 20 0)) 1 ((su S 0 0 (S 20 0)) 21)) 2 ((sg (su S 0 0 (S 20 0)) 1 ((su S 0 0 (S 20 0)) 21)) 22)) 23)) 4 ((sg (sg (sg (su S 0 0 (S 20 0)) 1 ((su S 0 0 (S 20 0)) 21)) 2 ((sg (su S 0 0 (S 20 0)) 1 ((su S 0 0 (S 20 0)) 21)) 22)) 3 ((sg (sg (su S 0 0 (S 20 0)) 1 ((su S 0 0 (S 20 0)) 21)) 2 ((sg (su S 0 0 (S 20 0)) 1 ((su S 0 0 (S 20 0)) 21)) 22)) 23)) 24)) 25)) 6 0 (S 26 0)) 27)) 8 ((sg (su (sg (sg (sg (sg (sg (su S 0 0 (S 20 0)) 1 ((su S 0 0 (S 20 0)) 21)) 2 ((sg (su S 0 0 (S 20 0)) 1 ((su S 0 0 (S 20 0)) 21)) 22)) 3 ((sg (sg (su S 0 0 (S 20 0)) 1 ((su S 0 0 (S 20 0)) 21)) 2 ((sg (su S 0 0 (S 20 0)) 1 ((su S 0 0 (S 20 0)) 21)) 22)) 23)) 4 ((sg (sg (sg (su S 0 0 (S 20 0)) 1 ((su S 0 0 (S 20 0)) 21)) 2 ((sg (su S 0 0 (S 20 0)) 1 ((su S 0 0 (S 20 0)) 21)) 22)) 3 ((sg (sg (su S 0 0 (S 20 0)) 1 ((su S 0 0 (S 20 0)) 21)) 2 ((sg (su S 0 0 (S 20 0)) 1 ((su S 0 0 (S 20 0)) 21)) 22)) 23)) 24)) 5 ((sg (sg (sg (sg (su S 0 0 (S 20 0)) 1 ((su S 0 0 (S 20 0)) 21)) 2 ((sg (su S 0 0 (S 20 0)) 1 ((su S 0 0 (S 20 0)) 21)) 22)) 3 ((sg (sg (su S 0 0 (S 20 0)) 1 ((su S 0 0 (S 20 0)) 21)) 2 ((sg (su S 0 0 (S 20 0)) 1 ((su S 0 0 (S 20 0)) 21)) 22)) 23)) 4 ((sg (sg (sg (su S 0 0 (S 20 0)) 1 ((su S 0 0 (S 20 0)) 21)) 2 ((sg (su S 0 0 (S 20 0)) 1 ((su S 0 0 (S 20 0)) 21)) 22)) 3 ((sg (sg (su S 0 0 (S 20 0)) 1 ((su S 0 0 (S 20 0)) 21)) 2 ((sg (su S 0 0 (S 20 0)) 1 ((su S 0 0 (S 20 0)) 21)) 22)) 23)) 24)) 25)) 6 0 (S 26 0)) 7 ((su (sg (sg (sg (sg (sg (su S 0 0 (S 20 0)) 1 ((su S 0 0 (S 20 0)) 21)) 2 ((sg (su S 0 0 (S 20 0)) 1 ((su S 0 0 (S 20 0)) 21)) 22)) 3 ((sg (sg (su S 0 0 (S 20 0)) 1 ((su S 0 0 (S 20 0)) 21)) 2 ((sg (su S 0 0 (S 20 0)) 1 ((su S 0 0 (S 20 0)) 21)) 22)) 23)) 4 ((sg (sg (sg (su S 0 0 (S 20 0)) 1 ((su S 0 0 (S 20 0)) 21)) 2 ((sg (su S 0 0 (S 20 0)) 1 ((su S 0 0 (S 20 0)) 21)) 22)) 3 ((sg (sg (su S 0 0 (S 20 0)) 1 ((su S 0 0 (S 20 0)) 21)) 2 ((sg (su S 0 0 (S 20 0)) 1 ((su S 0 0 (S 20 0)) 21)) 22)) 23)) 24)) 5 ((sg (sg (sg (sg (su S 0 0 (S 20 0)) 1 ((su S 0 0 (S 20 0)) 21)) 2 ((sg (su S 0 0 (S 20 0)) 1 ((su S 0 0 (S 20 0)) 21)) 22)) 3 ((sg (sg (su S 0 0 (S 20 0)) 1 ((su S 0 0 (S 20 0)) 21)) 2 ((sg (su S 0 0 (S 20 0)) 1 ((su S 0 0 (S 20 0)) 21)) 22)) 23)) 4 ((sg (sg (sg (su S 0 0 (S 20 0)) 1 ((su S 0 0 (S 20 0)) 21)) 2 ((sg (su S 0 0 (S 20 0)) 1 ((su S 0 0 (S 20 0)) 21)) 22)) 3 ((sg (sg (su S 0 0 (S 20 0)) 1 ((su S 0 0 (S 20 0)) 21)) 2 ((sg (su S 0 0 (S 20 0)) 1 ((su S 0 0 (S 20 0)) 21)) 22)) 23)) 24)) 25)) 6 0 (S 26 0)) 27)) 28)) 29)) 10 0 (S 30 0)) 11 ((su (sg (sg (sg (su (sg (sg (sg (sg (sg (su S 0 0 (S 20 0)) 1 ((su S 0 0 (S 20 0)) 21)) 2 ((sg (su S 0 0 (S 20 0)) 1 ((su S 0 0 (S 20 0)) 21)) 22)) 3 ((sg (sg (su S 0 0 (S 20 0)) 1 ((su S 0 0 (S 20 0)) 21)) 2 ((sg (su S 0 0 (S 20 0)) 1 ((su S 0 0 (S 20 0)) 21)) 22)) 23)) 4 ((sg (sg (sg (su S 0 0 (S 20 0)) 1 ((su S 0 0 (S 20 0)) 21)) 2 ((sg (su S 0 0 (S 20 0)) 1 ((su S 0 0 (S 20 0)) 21)) 22)) 3 ((sg (sg (su S 0 0 (S 20 0)) 1 ((su S 0 0 (S 20 0)) 21)) 2 ((sg (su S 0 0 (S 20 0)) 1 ((su S 0 0 (S 20 0)) 21)) 22)) 23)) 24)) 5 ((sg (sg (sg (sg (su S 0 0 (S 20 0)) 1 ((su S 0 0 (S 20 0)) 21)) 2 ((sg (su S 0 0 (S 20 0)) 1 ((su S 0 0 (S 20 0)) 21)) 22)) 3 ((sg (sg (su S 0 0 (S 20 0)) 1 ((su S 0 0 (S 20 0)) 21)) 2 ((sg (su S 0 0 (S 20 0)) 1 ((su S 0 0 (S 20 0)) 21)) 22)) 23)) 4 ((sg (sg (sg (su S 0 0 (S 20 0)) 1 ((su S 0 0 (S 20 0)) 21)) 2 ((sg (su S 0 0 (S 20 0)) 1 ((su S 0 0 (S 20 0)) 21)) 22)) 3 ((sg (sg (su S 0 0 (S 20 0)) 1 ((su S 0 0 (S 20 0)) 21)) 2 ((sg (su S 0 0 (S 20 0)) 1 ((su S 0 0 (S 20 0)) 21)) 22)) 23)) 24)) 25)) 6 0 (S 26 0)) 7 ((su (sg (sg (sg (sg (sg (su S 0 0 (S 20 0)) 1 ((su S 0 0 (S 20 0)) 21)) 2 ((sg (su S 0 0 (S 20 0)) 1 ((su S 0 0 (S 20 0)) 21)) 22)) 3 ((sg (sg (su S 0 0 (S 20 0)) 1 ((su S 0 0 (S 20 0)) 21)) 2 ((sg (su S 0 0 (S 20 0)) 1 ((su S 0 0 (S 20 0)) 21)) 22)) 23)) 4 ((sg (sg (sg (su S 0 0 (S 20 0)) 1 ((su S 0 0 (S 20 0)) 21)) 2 ((sg (su S 0 0 (S 20 0)) 1 ((su S 0 0 (S 20 0)) 21)) 22)) 3 ((sg (sg (su S 0 0 (S 20 0)) 1 ((su S 0 0 (S 20 0)) 21)) 2 ((sg (su S 0 0 (S 20 0)) 1 ((su S 0 0 (S 20 0)) 21)) 22)) 23)) 24)) 5 ((sg (sg (sg (sg (su S 0 0 (S 20 0)) 1 ((su S 0 0 (S 20 0)) 21)) 2 ((sg (su S 0 0 (S 20 0)) 1 ((su S 0 0 (S 20 0)) 21)) 22)) 3 ((sg (sg (su S 0 0 (S 20 0)) 1 ((su S 0 0 (S 20 0)) 21)) 2 ((sg (su S 0 0 (S 20 0)) 1 ((su S 0 0 (S 20 0)) 21)) 22)) 23)) 4 ((sg (sg (sg (su S 0 0 (S 20 0)) 1 ((su S 0 0 (S 20 0)) 21)) 2 ((sg (su S 0 0 (S 20 0)) 1 ((su S 0 0 (S 20 0)) 21)) 22)) 3 ((sg (sg (su S 0 0 (S 20 0)) 1 ((su S 0 0 (S 20 0)) 21)) 2 ((sg (su S 0 0 (S 20 0)) 1 ((su S 0 0 (S 20 0)) 21)) 22)) 23)) 24)) 25)) 6 0 (S 26 0)) 27)) 8 ((sg (su (sg (sg (sg (sg (sg (su S 0 0 (S 20 0)) 1 ((su S 0 0 (S 20 0)) 21)) 2 ((sg (su S 0 0 (S 20 0)) 1 ((su S 0 0 (S 20 0)) 21)) 22)) 3 ((sg (sg (su S 0 0 (S 20 0)) 1 ((su S 0 0 (S 20 0)) 21)) 2 ((sg (su S 0 0 (S 20 0)) 1 ((su S 0 0 (S 20 0)) 21)) 22)) 23)) 4 ((sg (sg (sg (su S 0 0 (S 20 0)) 1 ((su S 0 0 (S 20 0)) 21)) 2 ((sg (su S 0 0 (S 20 0)) 1 ((su S 0 0 (S 20 0)) 21)) 22)) 3 ((sg (sg (su S 0 0 (S 20 0)) 1 ((su S 0 0 (S 20 0)) 21)) 2 ((sg (su S 0 0 (S 20 0)) 1 ((su S 0 0 (S 20 0)) 21)) 22)) 23)) 24)) 5 ((sg (sg (sg (sg (su S 0 0 (S 20 0)) 1 ((su S 0 0 (S 20 0)) 21)) 2 ((sg (su S 0 0 (S 20 0)) 1 ((su S 0 0 (S 20 0)) 21)) 22)) 3 ((sg (sg (su S 0 0 (S 20 0)) 1 ((su S 0 0 (S 20 0)) 21)) 2 ((sg (su S 0 0 (S 20 0)) 1 ((su S 0 0 (S 20 0)) 21)) 22)) 23)) 4 ((sg (sg (sg (su S 0 0 (S 20 0)) 1 ((su S 0 0 (S 20 0)) 21)) 2 ((sg (su S 0 0 (S 20 0)) 1 ((su S 0 0 (S 20 0)) 21)) 22)) 3 ((sg (sg (su S 0 0 (S 20 0)) 1 ((su S 0 0 (S 20 0)) 21)) 2 ((sg (su S 0 0 (S 20 0)) 1 ((su S 0 0 (S 20 0)) 21)) 22)) 23)) 24)) 25)) 6 0 (S 26 0)) 7 ((su (sg (sg (sg (sg (sg (su S 0 0 (S 20 0)) 1 ((su S 0 0 (S 20 0)) 21)) 2 ((sg (su S 0 0 (S 20 0)) 1 ((su S 0 0 (S 20 0)) 21)) 22)) 3 ((sg (sg (su S 0 0 (S 20 0)) 1 ((su S 0 0 (S 20 0)) 21)) 2 ((sg (su S 0 0 (S 20 0)) 1 ((su S 0 0 (S 20 0)) 21)) 22)) 23)) 4 ((sg (sg (sg (su S 0 0 (S 20 0)) 1 ((su S 0 0 (S 20 0)) 21)) 2 ((sg (su S 0 0 (S 20 0)) 1 ((su S 0 0 (S 20 0)) 21)) 22)) 3 ((sg (sg (su S 0 0 (S 20 0)) 1 ((su S 0 0 (S 20 0)) 21)) 2 ((sg (su S 0 0 (S 20 0)) 1 ((su S 0 0 (S 20 0)) 21)) 22)) 23)) 24)) 5 ((sg (sg (sg (sg (su S 0 0 (S 20 0)) 1 ((su S 0 0 (S 20 0)) 21)) 2 ((sg (su S 0 0 (S 20 0)) 1 ((su S 0 0 (S 20 0)) 21)) 22)) 3 ((sg (sg (su S 0 0 (S 20 0)) 1 ((su S 0 0 (S 20 0)) 21)) 2 ((sg (su S 0 0 (S 20 0)) 1 ((su S 0 0 (S 20 0)) 21)) 22)) 23)) 4 ((sg (sg (sg (su S 0 0 (S 20 0)) 1 ((su S 0 0 (S 20 0)) 21)) 2 ((sg (su S 0 0 (S 20 0)) 1 ((su S 0 0 (S 20 0)) 21)) 22)) 3 ((sg (sg (su S 0 0 (S 20 0)) 1 ((su S 0 0 (S 20 0)) 21)) 2 ((sg (su S 0 0 (S 20 0)) 1 ((su S 0 0 (S 20 0)) 21)) 22)) 23)) 24)) 25)) 6 0 (S 26 0)) 27)) 28)) 9 ((sg (sg (su (sg (sg (sg (sg (sg (su S 0 0 (S 20 0)) 1 ((su S 0 0 (S 20 0)) 21)) 2 ((sg (su S 0 0 (S 20 0)) 1 ((su S 0 0 (S 20 0)) 21)) 22)) 3 ((sg (sg (su S 0 0 (S 20 0)) 1 ((su S 0 0 (S 20 0)) 21)) 2 ((sg (su S 0 0 (S 20 0)) 1 ((su S 0 0 (S 20 0)) 21)) 22)) 23)) 4 ((sg (sg (sg (su S 0 0 (S 20 0)) 1 ((su S 0 0 (S 20 0)) 21)) 2 ((sg (su S 0 0 (S 20 0)) 1 ((su S 0 0 (S 20 0)) 21)) 22)) 3 ((sg (sg (su S 0 0 (S 20 0)) 1 ((su S 0 0 (S 20 0)) 21)) 2 ((sg (su S 0 0 (S 20 0)) 1 ((su S 0 0 (S 20 0)) 21)) 22)) 23)) 24)) 5 ((sg (sg (sg (sg (su S 0 0 (S 20 0)) 1 ((su S 0 0 (S 20 0)) 21)) 2 ((sg (su S 0 0 (S 20 0)) 1 ((su S 0 0 (S 20 0)) 21)) 22)) 3 ((sg (sg (su S 0 0 (S 20 0)) 1 ((su S 0 0 (S 20 0)) 21)) 2 ((sg (su S 0 0 (S 20 0)) 1 ((su S 0 0 (S 20 0)) 21)) 22)) 23)) 4 ((sg (sg (sg (su S 0 0 (S 20 0)) 1 ((su S 0 0 (S 20 0)) 21)) 2 ((sg (su S 0 0 (S 20 0)) 1 ((su S 0 0 (S 20 0)) 21)) 22)) 3 ((sg (sg (su S 0 0 (S 20 0)) 1 ((su S 0 0 (S 20 0)) 21)) 2 ((sg (su S 0 0 (S 20 0)) 1 ((su S 0 0 (S 20 0)) 21)) 22)) 23)) 24)) 25)) 6 0 (S 26 0)) 7 ((su (sg (sg (sg (sg (sg (su S 0 0 (S 20 0)) 1 ((su S 0 0 (S 20 0)) 21)) 2 ((sg (su S 0 0 (S 20 0)) 1 ((su S 0 0 (S 20 0)) 21)) 22)) 3 ((sg (sg (su S 0 0 (S 20 0)) 1 ((su S 0 0 (S 20 0)) 21)) 2 ((sg (su S 0 0 (S 20 0)) 1 ((su S 0 0 (S 20 0)) 21)) 22)) 23)) 4 ((sg (sg (sg (su S 0 0 (S 20 0)) 1 ((su S 0 0 (S 20 0)) 21)) 2 ((sg (su S 0 0 (S 20 0)) 1 ((su S 0 0 (S 20 0)) 21)) 22)) 3 ((sg (sg (su S 0 0 (S 20 0)) 1 ((su S 0 0 (S 20 0)) 21)) 2 ((sg (su S 0 0 (S 20 0)) 1 ((su S 0 0 (S 20 0)) 21)) 22)) 23)) 24)) 5 ((sg (sg (sg (sg (su S 0 0 (S 20 0)) 1 ((su S 0 0 (S 20 0)) 21)) 2 ((sg (su S 0 0 (S 20 0)) 1 ((su S 0 0 (S 20 0)) 21)) 22)) 3 ((sg (sg (su S 0 0 (S 20 0)) 1 ((su S 0 0 (S 20 0)) 21)) 2 ((sg (su S 0 0 (S 20 0)) 1 ((su S 0 0 (S 20 0)) 21)) 22)) 23)) 4 ((sg (sg (sg (su S 0 0 (S 20 0)) 1 ((su S 0 0 (S 20 0)) 21)) 2 ((sg (su S 0 0 (S 20 0)) 1 ((su S 0 0 (S 20 0)) 21)) 22)) 3 ((sg (sg (su S 0 0 (S 20 0)) 1 ((su S 0 0 (S 20 0)) 21)) 2 ((sg (su S 0 0 (S 20 0)) 1 ((su S 0 0 (S 20 0)) 21)) 22)) 23)) 24)) 25)) 6 0 (S 26 0)) 27)) 8 ((sg (su (sg (sg (sg (sg (sg (su S 0 0 (S 20 0)) 1 ((su S 0 0 (S 20 0)) 21)) 2 ((sg (su S 0 0 (S 20 0)) 1 ((su S 0 0 (S 20 0)) 21)) 22)) 3 ((sg (sg (su S 0 0 (S 20 0)) 1 ((su S 0 0 (S 20 0)) 21)) 2 ((sg (su S 0 0 (S 20 0)) 1 ((su S 0 0 (S 20 0)) 21)) 22)) 23)) 4 ((sg (sg (sg (su S 0 0 (S 20 0)) 1 ((su S 0 0 (S 20 0)) 21)) 2 ((sg (su S 0 0 (S 20 0)) 1 ((su S 0 0 (S 20 0)) 21)) 22)) 3 ((sg (sg (su S 0 0 (S 20 0)) 1 ((su S 0 0 (S 20 0)) 21)) 2 ((sg (su S 0 0 (S 20 0)) 1 ((su S 0 0 (S 20 0)) 21)) 22)) 23)) 24)) 5 ((sg (sg (sg (sg (su S 0 0 (S 20 0)) 1 ((su S 0 0 (S 20 0)) 21)) 2 ((sg (su S 0 0 (S 20 0)) 1 ((su S 0 0 (S 20 0)) 21)) 22)) 3 ((sg (sg (su S 0 0 (S 20 0)) 1 ((su S 0 0 (S 20 0)) 21)) 2 ((sg (su S 0 0 (S 20 0)) 1 ((su S 0 0 (S 20 0)) 21)) 22)) 23)) 4 ((sg (sg (sg (su S 0 0 (S 20 0)) 1 ((su S 0 0 (S 20 0)) 21)) 2 ((sg (su S 0 0 (S 20 0)) 1 ((su S 0 0 (S 20 0)) 21)) 22)) 3 ((sg (sg (su S 0 0 (S 20 0)) 1 ((su S 0 0 (S 20 0)) 21)) 2 ((sg (su S 0 0 (S 20 0)) 1 ((su S 0 0 (S 20 0)) 21)) 22)) 23)) 24)) 25)) 6 0 (S 26 0)) 7 ((su (sg (sg (sg (sg (sg (su S 0 0 (S 20 0)) 1 ((su S 0 0 (S 20 0)) 21)) 2 ((sg (su S 0 0 (S 20 0)) 1 ((su S 0 0 (S 20 0)) 21)) 22)) 3 ((sg (sg (su S 0 0 (S 20 0)) 1 ((su S 0 0 (S 20 0)) 21)) 2 ((sg (su S 0 0 (S 20 0)) 1 ((su S 0 0 (S 20 0)) 21)) 22)) 23)) 4 ((sg (sg (sg (su S 0 0 (S 20 0)) 1 ((su S 0 0 (S 20 0)) 21)) 2 ((sg (su S 0 0 (S 20 0)) 1 ((su S 0 0 (S 20 0)) 21)) 22)) 3 ((sg (sg (su S 0 0 (S 20 0)) 1 ((su S 0 0 (S 20 0)) 21)) 2 ((sg (su S 0 0 (S 20 0)) 1 ((su S 0 0 (S 20 0)) 21)) 22)) 23)) 24)) 5 ((sg (sg (sg (sg (su S 0 0 (S 20 0)) 1 ((su S 0 0 (S 20 0)) 21)) 2 ((sg (su S 0 0 (S 20 0)) 1 ((su S 0 0 (S 20 0)) 21)) 22)) 3 ((sg (sg (su S 0 0 (S 20 0)) 1 ((su S 0 0 (S 20 0)) 21)) 2 ((sg (su S 0 0 (S 20 0)) 1 ((su S 0 0 (S 20 0)) 21)) 22)) 23)) 4 ((sg (sg (sg (su S 0 0 (S 20 0)) 1 ((su S 0 0 (S 20 0)) 21)) 2 ((sg (su S 0 0 (S 20 0)) 1 ((su S 0 0 (S 20 0)) 21)) 22)) 3 ((sg (sg (su S 0 0 (S 20 0)) 1 ((su S 0 0 (S 20 0)) 21)) 2 ((sg (su S 0 0 (S 20 0)) 1 ((su S 0 0 (S 20 0)) 21)) 22)) 23)) 24)) 25)) 6 0 (S 26 0)) 27)) 28)) 29)) 10 0 (S 30 0)) 31)) 12 0 (S 32 0)) f i = undS S f i := by
  have hf : f = 0 ∨ f = 1 ∨ f = 2 ∨ f = 3 ∨ f = 4 ∨ f = 5 ∨ f = 6 ∨ f = 7 ∨ f = 8 ∨ f = 9 ∨ f = 10 ∨ f = 11 ∨ f = 12 ∨ (f ≠ 0 ∧ f ≠ 1 ∧ f ≠ 2 ∧ f ≠ 3 ∧ f ≠ 4 ∧ f ≠ 5 ∧ f ≠ 6 ∧ f ≠ 7 ∧ f ≠ 8 ∧ f ≠ 9 ∧ f ≠ 10 ∧ f ≠ 11 ∧ f ≠ 12) := by omega
  rcases hf with rfl | rfl | rfl | rfl | rfl | rfl | rfl | rfl | rfl | rfl | rfl | rfl | rfl | ho
  · have hi0 : i = 0 := by have h1 : i < 1 := hi; omega
    subst hi0
    simp (disch := omega) only [su_e, su_ne, sg_e, sg_ne, undS_lo, undS_hi] <;> rfl
  · simp (disch := omega) only [su_e, su_ne, sg_e, sg_ne, undS_lo, undS_hi] <;> rfl
  · simp (disch := omega) only [su_e, su_ne, sg_e, sg_ne, undS_lo, undS_hi] <;> rfl
  · simp (disch := omega) only [su_e, su_ne, sg_e, sg_ne, undS_lo, undS_hi] <;> rfl
  · simp (disch := omega) only [su_e, su_ne, sg_e, sg_ne, undS_lo, undS_hi] <;> rfl
  · simp (disch := omega) only [su_e, su_ne, sg_e, sg_ne, undS_lo, undS_hi] <;> rfl
  · have hi0 : i = 0 := by have h1 : i < 1 := hi; omega
    subst hi0
    simp (disch := omega) only [su_e, su_ne, sg_e, sg_ne, undS_lo, undS_hi] <;> rfl
  · simp (disch := omega) only [su_e, su_ne, sg_e, sg_ne, undS_lo, undS_hi] <;> rfl
  · simp (disch := omega) only [su_e, su_ne, sg_e, sg_ne, undS_lo, undS_hi] <;> rfl
  · simp (disch := omega) only [su_e, su_ne, sg_e, sg_ne, undS_lo, undS_hi] <;> rfl
  · have hi0 : i = 0 := by have h1 : i < 1 := hi; omega
    subst hi0
    simp (disch := omega) only [su_e, su_ne, sg_e, sg_ne, undS_lo, undS_hi] <;> rfl
  · simp (disch := omega) only [su_e, su_ne, sg_e, sg_ne, undS_lo, undS_hi] <;> rfl
  · have hi0 : i = 0 := by have h1 : i < 1 := hi; omega
    subst hi0
    simp (disch := omega) only [su_e, su_ne, sg_e, sg_ne, undS_lo, undS_hi] <;> rfl
  · simp (disch := omega) only [su_ne, sg_ne, undS_hi]
theorem undoN0 {X : Sn} {k x y : Nat} (h : ¬ (x = 1 ∨ x = 2 ∨ x = 3 ∨ x = 5)) : undoS0 X k x y = X x y := by
  unfold undoS0
  rw [if_neg (fun q => h q.1)]
theorem undoE0 {X : Sn} {k x y : Nat} (h : (x = 1 ∨ x = 2 ∨ x = 3 ∨ x = 5) ∧ y < k) : undoS0 X k x y = X (x + 20) y := by
  unfold undoS0
  rw [if_pos h]
theorem undoN1 {X : Sn} {k x y : Nat} (h : ¬ (x = 4)) : undoS1 X k x y = X x y := by
  unfold undoS1
  rw [if_neg (fun q => h q.1)]
theorem undoE1 {X : Sn} {k x y : Nat} (h : (x = 4) ∧ y < k) : undoS1 X k x y = X (x + 20) y := by
  unfold undoS1
  rw [if_pos h]
theorem undoN2 {X : Sn} {k x y : Nat} (h : ¬ (x = 7 ∨ x = 8 ∨ x = 9)) : undoS2 X k x y = X x y := by
  unfold undoS2
  rw [if_neg (fun q => h q.1)]
theorem undoE2 {X : Sn} {k x y : Nat} (h : (x = 7 ∨ x = 8 ∨ x = 9) ∧ y < k) : undoS2 X k x y = X (x + 20) y := by
  unfold undoS2
  rw [if_pos h]
theorem undoN3 {X : Sn} {k x y : Nat} (h : ¬ (x = 11)) : undoS3 X k x y = X x y := by
  unfold undoS3
  rw [if_neg (fun q => h q.1)]
theorem undoE3 {X : Sn} {k x y : Nat} (h : (x = 11) ∧ y < k) : undoS3 X k x y = X (x + 20) y := by
  unfold undoS3
  rw [if_pos h]
theorem undo_me {S : Sn} (f i : Nat) (hi : i < lenM f) : (undoS3 (undoS2 (undoS1 (undoS0 (su (su (su (su S 12 0 (S 32 0)) 0 0 (S 20 0)) 6 0 (S 26 0)) 10 0 (S 30 0)) 7) 49) 8) 12) f i = undS S f i := by
  have hf : f = 0 ∨ f = 1 ∨ f = 2 ∨ f = 3 ∨ f = 4 ∨ f = 5 ∨ f = 6 ∨ f = 7 ∨ f = 8 ∨ f = 9 ∨ f = 10 ∨ f = 11 ∨ f = 12 ∨ (f ≠ 0 ∧ f ≠ 1 ∧ f ≠ 2 ∧ f ≠ 3 ∧ f ≠ 4 ∧ f ≠ 5 ∧ f ≠ 6 ∧ f ≠ 7 ∧ f ≠ 8 ∧ f ≠ 9 ∧ f ≠ 10 ∧ f ≠ 11 ∧ f ≠ 12) := by omega
  rcases hf with rfl | rfl | rfl | rfl | rfl | rfl | rfl | rfl | rfl | rfl | rfl | rfl | rfl | ho
  · have hi0 : i = 0 := by have h1 : i < 1 := hi; omega
    subst hi0
    rw [undoN3 (by omega), undoN2 (by omega), undoN1 (by omega), undoN0 (by omega)]
    simp (disch := omega) only [su_e, su_ne, undS_lo, undS_hi] <;> rfl
  · have h1 : i < 7 := hi
    rw [undoN3 (by omega), undoN2 (by omega), undoN1 (by omega), undoE0 (by omega)]
    simp (disch := omega) only [su_e, su_ne, undS_lo, undS_hi] <;> rfl
  · have h1 : i < 7 := hi
    rw [undoN3 (by omega), undoN2 (by omega), undoN1 (by omega), undoE0 (by omega)]
    simp (disch := omega) only [su_e, su_ne, undS_lo, undS_hi] <;> rfl
  · have h1 : i < 7 := hi
    rw [undoN3 (by omega), undoN2 (by omega), undoN1 (by omega), undoE0 (by omega)]
    simp (disch := omega) only [su_e, su_ne, undS_lo, undS_hi] <;> rfl
  · have h1 : i < 49 := hi
    rw [undoN3 (by omega), undoN2 (by omega), undoE1 (by omega), undoN0 (by omega)]
    simp (disch := omega) only [su_e, su_ne, undS_lo, undS_hi] <;> rfl
  · have h1 : i < 7 := hi
    rw [undoN3 (by omega), undoN2 (by omega), undoN1 (by omega), undoE0 (by omega)]
    simp (disch := omega) only [su_e, su_ne, undS_lo, undS_hi] <;> rfl
  · have hi0 : i = 0 := by have h1 : i < 1 := hi; omega
    subst hi0
    rw [undoN3 (by omega), undoN2 (by omega), undoN1 (by omega), undoN0 (by omega)]
    simp (disch := omega) only [su_e, su_ne, undS_lo, undS_hi] <;> rfl
  · have h1 : i < 8 := hi
    rw [undoN3 (by omega), undoE2 (by omega), undoN1 (by omega), undoN0 (by omega)]
    simp (disch := omega) only [su_e, su_ne, undS_lo, undS_hi] <;> rfl
  · have h1 : i < 8 := hi
    rw [undoN3 (by omega), undoE2 (by omega), undoN1 (by omega), undoN0 (by omega)]
    simp (disch := omega) only [su_e, su_ne, undS_lo, undS_hi] <;> rfl
  · have h1 : i < 8 := hi
    rw [undoN3 (by omega), undoE2 (by omega), undoN1 (by omega), undoN0 (by omega)]
    simp (disch := omega) only [su_e, su_ne, undS_lo, undS_hi] <;> rfl
  · have hi0 : i = 0 := by have h1 : i < 1 := hi; omega
    subst hi0
    rw [undoN3 (by omega), undoN2 (by omega), undoN1 (by omega), undoN0 (by omega)]
    simp (disch := omega) only [su_e, su_ne, undS_lo, undS_hi] <;> rfl
  · have h1 : i < 12 := hi
    rw [undoE3 (by omega), undoN2 (by omega), undoN1 (by omega), undoN0 (by omega)]
    simp (disch := omega) only [su_e, su_ne, undS_lo, undS_hi] <;> rfl
  · have hi0 : i = 0 := by have h1 : i < 1 := hi; omega
    subst hi0
    rw [undoN3 (by omega), undoN2 (by omega), undoN1 (by omega), undoN0 (by omega)]
    simp (disch := omega) only [su_e, su_ne, undS_lo, undS_hi] <;> rfl
  · rw [undoN3 (by omega), undoN2 (by omega), undoN1 (by omega), undoN0 (by omega)]
    simp (disch := omega) only [su_ne, undS_hi]
theorem undo_m {m : Mm} {S : Sn} {ld : Nat → List Cl} {it : Nat → Nat → Int64} (h : StM m S ld it) : ∃ e, ((iter (Mo_undo_l44) (0, si (si (si (si m 0 11 (nI (S 32 0) - 1)) 0 0 (nI (S 20 0))) 0 1 (nI (S 26 0))) 0 39 (nI (S 30 0)))).bind fun e2 => (iter (Mo_undo_l106) (0, e2)).bind fun e13 => (iter (Mo_undo_l132) (0, e13)).bind fun e18 => (iter (Mo_undo_l182) (0, e18)).bind fun e27 => some (e27.1 0 0, e27)) = some (nI (undS S 0 0), e) ∧ StM e (undS S) ld it := by
  obtain ⟨e0, h0, g0⟩ := undo_l0 (m := si (si (si (si m 0 11 (nI (S 32 0) - 1)) 0 0 (nI (S 20 0))) 0 1 (nI (S 26 0))) 0 39 (nI (S 30 0))) (StM_set (f := 10) (i := 0) (v := S 30 0) (StM_set (f := 6) (i := 0) (v := S 26 0) (StM_set (f := 0) (i := 0) (v := S 20 0) (StM_set (f := 12) (i := 0) (v := S 32 0) h (by decide) (by decide) rfl) (by decide) (by decide) rfl) (by decide) (by decide) rfl) (by decide) (by decide) rfl)
  obtain ⟨e1, h1, g1⟩ := undo_l1 g0
  obtain ⟨e2, h2, g2⟩ := undo_l2 g1
  obtain ⟨e3, h3, g3⟩ := undo_l3 g2
  rw [h0]
  dsimp only [Option.bind_some]
  rw [h1]
  dsimp only [Option.bind_some]
  rw [h2]
  dsimp only [Option.bind_some]
  rw [h3]
  dsimp only [Option.bind_some]
  have g4 := StM_ext g3 undo_me
  rw [rF0 g4.1]
  exact ⟨e3, rfl, g4⟩
theorem img_Wf {S : Sn} (hW : Wf S) : Wf (imgS S) := by
  obtain ⟨a0, a1, a2, a3, a4, a5, a6, a7, a8⟩ := hW
  unfold WfW at a0 a1
  unfold Wf WfW
  simp (disch := omega) only [imgS_hi, imgS_lo, imgS_40, Nat.add_sub_cancel_left]
  exact ⟨a0, a0, by omega, a3, a4, a5, a6, a7, a8⟩
theorem und_Wf {S : Sn} (hW : Wf S) : Wf (undS S) := by
  obtain ⟨a0, a1, a2, a3, a4, a5, a6, a7, a8⟩ := hW
  unfold WfW at a0 a1
  unfold Wf WfW
  simp (disch := omega) only [undS_hi, undS_lo]
  exact ⟨a1, a1, a2, a3, a4, a5, a6, a7, a8⟩
theorem H29 : lwH29 Inv := by
  intro m1 m2 hI
  obtain ⟨S, ld, it, hC, hM, hW, hL⟩ := id hI
  unfold NB_image Mo_image
  obtain ⟨x, x1, x2⟩ := image_c hC hW
  obtain ⟨y, y1, y2⟩ := image_m hM
  have x3 := StC_set (f := 40) (i := 0) (v := 1) x2 (by simp (disch := omega) only [si_e, si_ne, si_nj, sl_r, si_l, ga_n, n_cl, n_lt, n_le, n_eq, n_add, n_mul, n_sub, n_eqm, n_meq, n_mm, n_mlt, n_mle, n_ltm, Option.bind_some, if_pos, if_neg, su_ne, sg_ne]; exact Wf_41 hW) (by decide) (by decide) rfl
  have x4 := StC_ext x3 image_ce
  rw [x1]
  simp (disch := omega) only [si_e, si_ne, si_nj, sl_r, si_l, ga_n, n_cl, n_lt, n_le, n_eq, n_add, n_mul, n_sub, n_eqm, n_meq, n_mm, n_mlt, n_mle, n_ltm, Option.bind_some, if_pos, if_neg, rF12 hM.1, rF0 hM.1, rF6 hM.1, rF10 hM.1]
  rw [y1]
  refine ⟨_, _, _, rfl, ?_, imgS S, ld, it, x4, y2, img_Wf hW, ?_⟩
  · rw [← cF0 x4.1]
    rfl
  · simp (disch := omega) only [imgS_lo]
    exact hL
theorem H30 : lwH30 Inv := by
  intro m1 m2 hI
  obtain ⟨S, ld, it, hC, hM, hW, hL⟩ := id hI
  unfold NB_undo Mo_undo
  have h40 := Wf_40 hW
  rw [cF40 hC.1, rF40 hM.1]
  by_cases h0 : S 40 0 = 0
  · rw [h0]
    exact ⟨_, _, _, rfl, rfl, hI⟩
  have h1 : ¬ nI (S 40 0) = 0 := by rw [i_0, n_eq (by omega) (by omega)]; exact h0
  rw [if_neg h1, if_neg h1]
  obtain ⟨x, x1, x2⟩ := undo_c hC hW
  obtain ⟨y, y1, y2⟩ := undo_m hM
  have x4 := StC_ext x2 undo_ce
  rw [x1]
  simp (disch := omega) only [si_e, si_ne, si_nj, sl_r, si_l, ga_n, n_cl, n_lt, n_le, n_eq, n_add, n_mul, n_sub, n_eqm, n_meq, n_mm, n_mlt, n_mle, n_ltm, Option.bind_some, if_pos, if_neg, rF32 hM.1, rF20 hM.1, rF26 hM.1, rF30 hM.1]
  rw [y1]
  refine ⟨_, _, _, rfl, ?_, undS S, ld, it, x4, y2, und_Wf hW, ?_⟩
  · rw [← cF0 x4.1]
  · simp (disch := omega) only [undS_hi]
    exact hL
