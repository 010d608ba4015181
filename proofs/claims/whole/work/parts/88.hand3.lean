-- ===== longest, looked, judge =====
def lgI (S : Sn) (L : List Cl) (s : Option Nat × Nat) (p o : Nat) : Option Nat × Nat := if (WK S L none p o).1 = o ∧ s.2 < (WK S L none p o).2.2 then (some (10 * p + o), (WK S L none p o).2.2) else s
def lg1 (S : Sn) (L : List Cl) (s : Option Nat × Nat) (p : Nat) : Nat → Option Nat × Nat
  | 0 => s
  | o + 1 => lgI S L (lg1 S L s p o) p o
def lg2 (S : Sn) (L : List Cl) : Nat → Option Nat × Nat
  | 0 => (none, 0)
  | p + 1 => lg1 S L (lg2 S L p) p (S 0 0)
def lgOk (S : Sn) (L : List Cl) (s : Option Nat × Nat) : Prop := s = (none, 0) ∨ ∃ p o, p < S 0 0 ∧ o < S 0 0 ∧ s = (some (10 * p + o), (WK S L none p o).2.2)
theorem lgI_ok {S : Sn} {L : List Cl} {s : Option Nat × Nat} {p o : Nat} (h : lgOk S L s) (hp : p < S 0 0) (ho : o < S 0 0) : lgOk S L (lgI S L s p o) := by
  unfold lgI
  split
  · exact Or.inr ⟨p, o, hp, ho, rfl⟩
  · exact h
theorem lg1_ok {S : Sn} {L : List Cl} {s : Option Nat × Nat} {p : Nat} (h : lgOk S L s) (hp : p < S 0 0) : ∀ o, o ≤ S 0 0 → lgOk S L (lg1 S L s p o)
  | 0, _ => h
  | o + 1, ho => lgI_ok (lg1_ok h hp o (by omega)) hp (by omega)
theorem lg2_ok {S : Sn} {L : List Cl} : ∀ p, p ≤ S 0 0 → lgOk S L (lg2 S L p)
  | 0, _ => Or.inl rfl
  | p + 1, hp => lg1_ok (lg2_ok p (by omega)) (by omega) (S 0 0) (Nat.le_refl _)
theorem lg_le {S : Sn} {L : List Cl} (hW : Wf S) (hL : WL L) {s : Option Nat × Nat} (h : lgOk S L s) : s.2 ≤ 21780 := by
  rcases h with rfl | ⟨p, o, hp, ho, rfl⟩
  · exact Nat.zero_le _
  · exact (WK_bd (fa := none) (t := o) hW hL hp).2.2
theorem longest_c {m : Mm} {S : Sn} {L : List Cl} (hw : WC m S) (hJ : JC m S L none) (hW : Wf S) (hL : WL L) : ∃ m', Jo_longestPair m = some (oI (-5) (lg2 S L (S 0 0)).1, m') ∧ fr pW m m' := by
  have b0 := Wf_0 hW
  unfold Jo_longestPair
  obtain ⟨r, h1, h2⟩ := iter_for (step := Jo_longestPair_l7) (fun p s => ∃ m', s = (oI (-5) (lg2 S L p).1, nI (lg2 S L p).2, nI p, m') ∧ fr pW m m') (S 0 0) (fun r => ∃ m', r = (oI (-5) (lg2 S L (S 0 0)).1, m') ∧ fr pW m m')
    (by
      rintro p s hp ⟨m', rfl, hs⟩
      obtain ⟨r, g1, g2⟩ := iter_for (step := Jo_longestPair_l21 (oI (-5) (lg2 S L p).1, nI (lg2 S L p).2, nI p, m')) (fun o s => ∃ m', s = (oI (-5) (lg1 S L (lg2 S L p) p o).1, nI (lg1 S L (lg2 S L p) p o).2, nI o, m') ∧ fr pW m m') (S 0 0) (fun r => ∃ m', r = (oI (-5) (lg2 S L (p + 1)).1, nI (lg2 S L (p + 1)).2, m') ∧ fr pW m m')
        (by
          rintro o s ho ⟨m2, rfl, hs2⟩
          obtain ⟨m3, k1, k2, k3, k4⟩ := walk_c (JC_W hJ hs2) hW hL hp ho
          have hbd := WK_bd (fa := none) (t := o) hW hL hp
          have hle := lg_le hW hL (lg1_ok (lg2_ok (L := L) p (by omega)) hp o (by omega))
          have hn : lg1 S L (lg2 S L p) p (o + 1) = if (WK S L none p o).1 = o ∧ (lg1 S L (lg2 S L p) p o).2 < (WK S L none p o).2.2 then (some (10 * p + o), (WK S L none p o).2.2) else lg1 S L (lg2 S L p) p o := rfl
          unfold Jo_longestPair_l21
          dsimp only
          rw [w0 (WC_W hw hs2), if_neg (by rw [n_le (by omega) (by omega)]; omega), k1]
          simp (disch := omega) only [Option.bind_some, n_eq, i_1, n_add, i_10, n_mul]
          rw [show m3.1 1 14 = _ from k4]
          simp (disch := omega) only [n_le]
          rw [hn]
          by_cases e : (WK S L none p o).1 = o
          · rw [if_pos e]
            by_cases e2 : (WK S L none p o).2.2 ≤ (lg1 S L (lg2 S L p) p o).2
            · rw [if_pos e2, if_neg (fun q => by omega)]
              exact ⟨_, rfl, m3, rfl, fr_tr hs2 k2⟩
            · rw [if_neg e2, if_pos ⟨e, by omega⟩]
              exact ⟨_, rfl, m3, rfl, fr_tr hs2 k2⟩
          · rw [if_neg e, if_neg (fun q => e q.1)]
            exact ⟨_, rfl, m3, rfl, fr_tr hs2 k2⟩)
        (by
          rintro s ⟨m2, rfl, hs2⟩
          unfold Jo_longestPair_l21
          dsimp only
          rw [w0 (WC_W hw hs2), if_pos (by rw [n_le (by omega) (by omega)]; omega)]
          exact ⟨_, rfl, m2, rfl, hs2⟩) 0 (oI (-5) (lg2 S L p).1, nI (lg2 S L p).2, 0, m') (by omega) ⟨m', rfl, hs⟩
      obtain ⟨m2, rfl, hs2⟩ := g2
      unfold Jo_longestPair_l7
      dsimp only
      rw [w0 (WC_W hw hs), if_neg (by rw [n_le (by omega) (by omega)]; omega), g1]
      exact ⟨_, rfl, m2, by rw [nI_succ p], hs2⟩)
    (by
      rintro s ⟨m', rfl, hs⟩
      unfold Jo_longestPair_l7
      dsimp only
      rw [w0 (WC_W hw hs), if_pos (by rw [n_le (by omega) (by omega)]; omega)]
      exact ⟨_, rfl, m', rfl, hs⟩) 0 ((-5), 0, 0, m) (by omega) ⟨m, rfl, fr_rf _ _⟩
  obtain ⟨m', rfl, hs⟩ := h2
  rw [h1]
  exact ⟨m', rfl, hs⟩
theorem longest_m {m : Mm} {S : Sn} {L : List Cl} (hLM : LM m S L none) (hW : Wf S) (hL : WL L) : ∃ m', iter Mo_longest_l24 (0, (-5), 0, m) = some (nI (lg2 S L (S 0 0)).2, oI (-5) (lg2 S L (S 0 0)).1, m') ∧ fr pG m m' := by
  have b0 := Wf_0 hW
  obtain ⟨r, h1, h2⟩ := iter_for (step := Mo_longest_l24) (fun p s => ∃ m', s = (nI (lg2 S L p).2, oI (-5) (lg2 S L p).1, nI p, m') ∧ fr pG m m') (S 0 0) (fun r => ∃ m', r = (nI (lg2 S L (S 0 0)).2, oI (-5) (lg2 S L (S 0 0)).1, m') ∧ fr pG m m')
    (by
      rintro p s hp ⟨m', rfl, hs⟩
      obtain ⟨r, g1, g2⟩ := iter_for (step := Mo_longest_l36 (nI (lg2 S L p).2, oI (-5) (lg2 S L p).1, nI p, m')) (fun o s => ∃ m', s = (nI (lg1 S L (lg2 S L p) p o).2, oI (-5) (lg1 S L (lg2 S L p) p o).1, nI o, m') ∧ fr pG m m') (S 0 0) (fun r => ∃ m', r = (nI (lg2 S L (p + 1)).2, oI (-5) (lg2 S L (p + 1)).1, m') ∧ fr pG m m')
        (by
          rintro o s ho ⟨m2, rfl, hs2⟩
          obtain ⟨m3, k1, k2, k3, k4, k5⟩ := goes_m (fa := none) (LM_G hLM hs2) hW hL trivial hp ho
          have hbd := WK_bd (fa := none) (t := o) hW hL hp
          have hle := lg_le hW hL (lg1_ok (lg2_ok (L := L) p (by omega)) hp o (by omega))
          have hn : lg1 S L (lg2 S L p) p (o + 1) = if (WK S L none p o).1 = o ∧ (lg1 S L (lg2 S L p) p o).2 < (WK S L none p o).2.2 then (some (10 * p + o), (WK S L none p o).2.2) else lg1 S L (lg2 S L p) p o := rfl
          unfold Mo_longest_l36
          dsimp only
          rw [r0 (WM_G hLM.1 hs2), if_neg (by rw [n_le (by omega) (by omega)]; omega), k1]
          simp (disch := omega) only [Option.bind_some, n_eq, i_1, n_add, i_10, n_mul, decide_eq_true_eq]
          rw [show m3.1 0 34 = _ from k5]
          simp (disch := omega) only [n_lt]
          rw [hn]
          by_cases e0 : p = o
          · have hz : ¬ ((WK S L none p o).1 = o ∧ (lg1 S L (lg2 S L p) p o).2 < (WK S L none p o).2.2) := by
              rw [← e0, WK_self]
              exact fun q => absurd q.2 (Nat.not_lt_zero _)
            rw [if_pos e0, if_neg hz]
            exact ⟨_, rfl, m2, rfl, hs2⟩
          rw [if_neg e0]
          by_cases e : (WK S L none p o).1 = o
          · rw [if_pos e]
            by_cases e2 : (lg1 S L (lg2 S L p) p o).2 < (WK S L none p o).2.2
            · rw [if_pos e2, if_pos ⟨e, e2⟩]
              exact ⟨_, rfl, m3, rfl, fr_tr hs2 k2⟩
            · rw [if_neg e2, if_neg (fun q => e2 q.2)]
              exact ⟨_, rfl, m3, rfl, fr_tr hs2 k2⟩
          · rw [if_neg e, if_neg (fun q => e q.1)]
            exact ⟨_, rfl, m3, rfl, fr_tr hs2 k2⟩)
        (by
          rintro s ⟨m2, rfl, hs2⟩
          unfold Mo_longest_l36
          dsimp only
          rw [r0 (WM_G hLM.1 hs2), if_pos (by rw [n_le (by omega) (by omega)]; omega)]
          exact ⟨_, rfl, m2, rfl, hs2⟩) 0 (nI (lg2 S L p).2, oI (-5) (lg2 S L p).1, 0, m') (by omega) ⟨m', rfl, hs⟩
      obtain ⟨m2, rfl, hs2⟩ := g2
      unfold Mo_longest_l24
      dsimp only
      rw [r0 (WM_G hLM.1 hs), if_neg (by rw [n_le (by omega) (by omega)]; omega), g1]
      exact ⟨_, rfl, m2, by rw [nI_succ p], hs2⟩)
    (by
      rintro s ⟨m', rfl, hs⟩
      unfold Mo_longest_l24
      dsimp only
      rw [r0 (WM_G hLM.1 hs), if_pos (by rw [n_le (by omega) (by omega)]; omega)]
      exact ⟨_, rfl, m', rfl, hs⟩) 0 (0, (-5), 0, m) (by omega) ⟨m, rfl, fr_rf _ _⟩
  obtain ⟨m', rfl, hs⟩ := h2
  exact ⟨m', h1, hs⟩
theorem H15 : lwH15 Inv := by
  intro m1 m2 a1 hI
  obtain ⟨S, ld, it, hC, hM, hW, hL⟩ := id hI
  have b0 := Wf_0 hW
  have hLL := hold_WL hW hL
  unfold NB_longest Mo_longest
  rw [part_c, in1]
  cases e1 : inR a1 2 with
  | false => exact ⟨_, _, _, rfl, rfl, hI⟩
  | true =>
  obtain ⟨k, hk, rfl⟩ := inR_ex e1 (by omega)
  obtain ⟨m1', x1, x2, x3, x4⟩ := look_0 hC hW hL
  obtain ⟨m2', y1, y2, y3⟩ := lay_0 hM hW hL
  obtain ⟨m1'', u1, u2⟩ := longest_c x4 x3 hW hLL
  obtain ⟨m2'', v1, v2⟩ := longest_m y3 hW hLL
  have hok := lg2_ok (S := S) (L := holdL S ld) (S 0 0) (Nat.le_refl _)
  have hm2 := (fr_SM y2).tr (fr_GM v2)
  have hm1 := (fr_SC x2).tr (fr_WC u2)
  simp only [↓reduceIte]
  rw [x1, y1]
  simp only [Option.bind_some]
  rw [u1, v1]
  simp (disch := omega) only [Option.bind_some, i_1, i_0, n_eq]
  by_cases c1 : k = 1
  · rw [if_pos c1, if_neg (by omega)]
    exact ⟨_, _, _, rfl, rfl, inv_same hC hM hW hL hm1 hm2⟩
  rw [if_neg c1, if_pos (show k = 0 by omega)]
  rcases hok with h | ⟨p, o, hp, ho, h⟩
  · rw [h]
    exact ⟨_, _, _, rfl, rfl, inv_same hC hM hW hL hm1 hm2⟩
  · rw [h]
    obtain ⟨m3, k1, k2, k3, k4⟩ := walk_c (JC_W x3 u2) hW hLL hp ho
    rw [show oI (-5) (some (10 * p + o)) = nI (10 * p + o) from rfl]
    rw [i_10, pk_rem (by omega) (by omega) (by omega), pk_div (by omega) (by omega) (by omega), show (10 * p + o) / 10 = p by omega, show (10 * p + o) % 10 = o by omega, k1]
    simp only [Option.bind_some]
    rw [k4]
    exact ⟨_, _, _, if_pos (show nI 0 ≤ nI (10 * p + o) from nI_pos' (by omega)), rfl, inv_same hC hM hW hL (hm1.tr (fr_WC k2)) hm2⟩
theorem fstR_c {β : Type} (m : Mm) (v : Nat → Int32) (d : Int32) (o : Option Nat) : (some (fstR (fun i => (v i, m)) o) : Option (Unit ⊕ (Int32 × Mm))).bind (Sum.elim (fun _ => some (d, m)) (fun v => some v)) = some (match o with | none => d | some k => v k, m) := by
  cases o <;> rfl
theorem H27 : lwH27 Inv := by
  intro m1 m2 a1 hI
  obtain ⟨S, ld, it, hC, hM, hW, hL⟩ := id hI
  have b0 := Wf_0 hW
  have b10 := Wf_10 hW
  have hLL := hold_WL hW hL
  unfold NB_looked Mo_looked
  rw [Wo_has_eq (cF0 hC.1) (by omega), Mo_isPlace_eq (rF0 hM.1) (by omega)]
  cases e1 : inR a1 (S 0 0) with
  | false => exact ⟨-1, m1, m2, rfl, rfl, hI⟩
  | true =>
  obtain ⟨t, ht, rfl⟩ := inR_ex e1 (by omega)
  obtain ⟨m1', x1, x2, x3, x4⟩ := look_0 hC hW hL
  obtain ⟨m2', y1, y2, y3⟩ := lay_0 hM hW hL
  simp only [↓reduceIte]
  rw [x1, y1]
  simp only [Option.bind_some]
  have e10 : S 10 0 ≤ 1 + (S 10 0 - 1) := by omega
  have c1 := iter_find (step := NB_looked_l20 (nI t) m1') (fun i => nI i) (fun k => decide (¬ oI (-5) (STo S (holdL S ld) none (S 11 (k - 1)) t) = nI (S 11 k))) (fun i => (nI i, m1')) 1 (1 + (S 10 0 - 1))
    (fun k h1 hk hP => by
      have hP' := of_decide_eq_false hP
      have g1 := Wf_11 hW (show k - 1 < S 10 0 by omega)
      unfold NB_looked_l20
      try dsimp only
      rw [w10 x4, if_neg (by rw [n_le (by omega) (by omega)]; omega), i_1, n_sub h1, ga_n (by omega) (by omega), n_cl (by omega), w11 x4 (by omega), NB_index_n (7 * S 11 (k - 1) + t) (by omega), ga_n (by omega) (by omega), ga_n (by omega) (by omega), n_cl (by omega), n_cl (by omega), w11 x4 (by omega), jc8 x3 g1 ht, n_add, if_pos (Classical.not_not.mp hP')])
    (fun k h1 hk hP => by
      have hP' := of_decide_eq_true hP
      have g1 := Wf_11 hW (show k - 1 < S 10 0 by omega)
      unfold NB_looked_l20
      try dsimp only
      rw [w10 x4, if_neg (by rw [n_le (by omega) (by omega)]; omega), i_1, n_sub h1, ga_n (by omega) (by omega), n_cl (by omega), w11 x4 (by omega), NB_index_n (7 * S 11 (k - 1) + t) (by omega), ga_n (by omega) (by omega), ga_n (by omega) (by omega), n_cl (by omega), n_cl (by omega), w11 x4 (by omega), jc8 x3 g1 ht, if_neg hP'])
    (by
      unfold NB_looked_l20
      try dsimp only
      rw [w10 x4, if_pos (by rw [n_le (by omega) (by omega)]; omega)]) (S 10 0 - 1) 1 (by omega) (by omega)
  have c2 := iter_find (step := Mo_looked_l16 (nI t) m2') (fun i => nI i) (fun k => decide (¬ oI (-5) (STo S (holdL S ld) none (S 11 (k - 1)) t) = nI (S 11 k))) (fun i => (nI i, m2')) 1 (1 + (S 10 0 - 1))
    (fun k h1 hk hP => by
      have hP' := Classical.not_not.mp (of_decide_eq_false hP)
      have g1 := Wf_11 hW (show k - 1 < S 10 0 by omega)
      have g2 := Wf_11 hW (show k < S 10 0 by omega)
      have hne : S 11 (k - 1) ≠ t := by
        intro q
        rw [q] at hP'
        unfold STo at hP'
        rw [if_pos rfl] at hP'
        exact absurd hP'.symm (cne (k := 5) (by omega) (by decide) (by decide))
      unfold Mo_looked_l16
      try dsimp only
      rw [r10 y3.1, if_neg (by rw [n_le (by omega) (by omega)]; omega), i_1, n_sub h1, ga_n (by omega) (by omega), ga_n (by omega) (by omega), n_cl (by omega), r11 y3.1 (by omega), if_neg (by rw [n_eq (by omega) (by omega)]; exact hne), next_m (fa := none) y3.1 y3.2.1 hW hLL trivial y3.2.2 g1 ht hne]
      simp only [Option.bind_some]
      rw [ga_n (by omega) (by omega), n_cl (by omega), r11 y3.1 (by omega), if_pos hP', n_add])
    (fun k h1 hk hP => by
      have hP' := of_decide_eq_true hP
      have g1 := Wf_11 hW (show k - 1 < S 10 0 by omega)
      have g2 := Wf_11 hW (show k < S 10 0 by omega)
      unfold Mo_looked_l16
      try dsimp only
      rw [r10 y3.1, if_neg (by rw [n_le (by omega) (by omega)]; omega), i_1, n_sub h1, ga_n (by omega) (by omega), ga_n (by omega) (by omega), n_cl (by omega), r11 y3.1 (by omega)]
      by_cases hne : S 11 (k - 1) = t
      · rw [if_pos (by rw [hne])]
      · rw [if_neg (by rw [n_eq (by omega) (by omega)]; exact hne), next_m (fa := none) y3.1 y3.2.1 hW hLL trivial y3.2.2 g1 ht hne]
        simp only [Option.bind_some]
        rw [ga_n (by omega) (by omega), n_cl (by omega), r11 y3.1 (by omega), if_neg hP'])
    (by
      unfold Mo_looked_l16
      try dsimp only
      rw [r10 y3.1, if_pos (by rw [n_le (by omega) (by omega)]; omega)]) (S 10 0 - 1) 1 (by omega) (by omega)
  rw [show iter (NB_looked_l20 (nI t) m1') 1 = _ from c1, show iter (Mo_looked_l16 (nI t) m2') 1 = _ from c2, fstR_c (β := Nat), fstR_c (β := Nat)]
  exact ⟨_, _, _, rfl, rfl, inv_same hC hM hW hL (fr_SC x2) (fr_SM y2)⟩
theorem H28 : lwH28 Inv := by
  intro m1 m2 a1 a2 hI
  obtain ⟨S, ld, it, hC, hM, hW, hL⟩ := id hI
  have b0 := Wf_0 hW
  have hLL := hold_WL hW hL
  unfold NB_judge Mo_judge jn
  rw [isTape_c, isTape_m]
  cases e1 : inR a1 6 with
  | false => exact ⟨_, _, _, rfl, rfl, hI⟩
  | true =>
  obtain ⟨t, ht, rfl⟩ := inR_ex e1 (by omega)
  have hw := Wf_46 hW ht
  obtain ⟨m1', x1, x2, x3, x4⟩ := look_0 hC hW hL
  obtain ⟨m2', y1, y2, y3⟩ := lay_0 hM hW hL
  have sC := fr_SC x2
  have sM := fr_SM y2
  have hC' := StC_same hC sC (Wf_41 hW)
  have hM' := StM_same hM sM
  have n1 : ¬ (1 : Int32) = 0 := by decide
  simp only [↓reduceIte]
  rw [x1, y1]
  simp (disch := omega) only [ga_n, n_cl, Option.bind_some]
  have cs : m1.1 (77 + 2 * t) 0 = nI (S 46 t) - 1 := cF46 hC.1 ht
  rw [cs, rF46 hM.1 ht]
  simp only [sort_lt hw.1, sort_m1 hw.1]
  have hsort : (nI (S 46 t) - 1 = 2) = (S 46 t = 3) := by
    have h : S 46 t = 0 ∨ S 46 t = 1 ∨ S 46 t = 2 ∨ S 46 t = 3 ∨ S 46 t = 4 ∨ S 46 t = 5 := by omega
    rcases h with h | h | h | h | h | h <;> rw [h] <;> decide
  simp only [hsort]
  have key : ∃ r, (iter (NB_judge_l43 (nI t) a2 m1') 0).bind (Sum.elim (fun _ => some (-5, m1')) (fun v => some v)) = some (r, m1') ∧ (iter (Mo_judge_l38 (nI t) a2 m2') 0).bind (Sum.elim (fun _ => some (-5, m2')) (fun v => some v)) = some (r, m2') := by
    by_cases hneg : a2 < 0
    · by_cases h0 : S 0 0 = 0
      · refine ⟨-5, ?_, ?_⟩
        · rw [iter_inr (r := .inl ())]
          · rfl
          · unfold NB_judge_l43
            rw [w0 x4, h0, i_0, if_pos (by rw [n_le (by omega) (by omega)]; omega)]
        · rw [iter_inr (r := .inl ())]
          · rfl
          · unfold Mo_judge_l38
            rw [r0 y3.1, h0, i_0, if_pos (by rw [n_le (by omega) (by omega)]; omega)]
      · refine ⟨100 + 0, ?_, ?_⟩
        · rw [iter_inr (r := .inr (100 + 0, m1'))]
          · rfl
          · unfold NB_judge_l43
            rw [w0 x4, if_neg (by rw [i_0]; exact (by rw [n_le (by omega) (by omega)]; omega)), if_pos hneg]
        · rw [iter_inr (r := .inr (100 + 0, m2'))]
          · rfl
          · unfold Mo_judge_l38
            rw [r0 y3.1, if_neg (by rw [i_0]; exact (by rw [n_le (by omega) (by omega)]; omega)), ga_n (by omega) (by omega), if_pos hneg]
            simp only [ite_self]
    obtain ⟨j, hj, rfl⟩ := nI_of hneg
    have hlC : m1'.1 (77 + 2 * t) 1 = nI (S 47 t) := cF47 hC'.1 ht
    have hlM : m2'.1 37 t = nI (S 47 t) := rF47 hM'.1 ht
    have hsM : m2'.1 36 t = nI (S 46 t) - 1 := rF46 hM'.1 ht
    have itC : ∀ i, i < 60 → m1'.2.1 (77 + 2 * t + 1) i = it t i := fun i hi => by
      rw [show 77 + 2 * t + 1 = 78 + 2 * t by omega]
      exact hC'.2.1 t i ht hi
    have itM : ∀ i, i < 60 → m2'.2.1 38 (60 * t + i) = it t i := fun i hi => hM'.2.1 t i ht hi
    have cC : ∀ p, p < 7 → (nI j < nI (S 47 t) - nI p) = (j + p < S 47 t) := fun p hp => by
      apply propext
      rw [Int32.lt_iff_toInt_lt, nI_toInt hj, pk_sub_toInt (by omega) (by omega)]
      omega
    have cM : ∀ p, p < 7 → (nI j ≤ nI (S 47 t) - nI p - 1) = (j + p < S 47 t) := fun p hp => by
      apply propext
      rw [Int32.sub_sub, i_1, n_add, Int32.le_iff_toInt_le, nI_toInt hj, pk_sub_toInt (by omega) (by omega)]
      omega
    have c1 := iter_find (step := NB_judge_l43 (nI t) (nI j) m1') (fun i => nI i) (fun p => ! (decide (j + p < S 47 t) && decide (lg_cmp (it t (j + p)) ((nI (SZ S (holdL S ld) p)).toInt64) = 0))) (fun p => (if j + p < S 47 t then nI p else 100 + nI p, m1')) 0 (S 0 0)
      (fun p _ hp hP => by
        have h1 : (decide (j + p < S 47 t) && decide (lg_cmp (it t (j + p)) ((nI (SZ S (holdL S ld) p)).toInt64) = 0)) = true := by
          cases hh : (decide (j + p < S 47 t) && decide (lg_cmp (it t (j + p)) ((nI (SZ S (holdL S ld) p)).toInt64) = 0)) with
          | true => rfl
          | false => rw [hh] at hP; cases hP
        rw [Bool.and_eq_true, decide_eq_true_eq, decide_eq_true_eq] at h1
        unfold NB_judge_l43
        try dsimp only
        rw [w0 x4, if_neg (by rw [n_le (by omega) (by omega)]; omega), if_neg (nI_pos (by omega)), n_cl (by omega), hlC]
        simp only [cC p (by omega)]
        rw [if_pos h1.1, n_add, ga_n (by omega) (by omega), ga_n (by omega) (by omega), n_cl (by omega), n_cl (by omega), itC _ (by omega), x3.1.1 p hp, if_pos h1.2, i_1, n_add])
      (fun p _ hp hP => by
        unfold NB_judge_l43
        try dsimp only
        rw [w0 x4, if_neg (by rw [n_le (by omega) (by omega)]; omega), if_neg (nI_pos (by omega)), n_cl (by omega), hlC]
        simp only [cC p (by omega)]
        by_cases h1 : j + p < S 47 t
        · rw [if_pos h1, if_pos h1, n_add, ga_n (by omega) (by omega), ga_n (by omega) (by omega), n_cl (by omega), n_cl (by omega), itC _ (by omega), x3.1.1 p hp]
          rw [decide_eq_true h1, Bool.true_and] at hP
          rw [if_neg (fun q => by rw [decide_eq_true q] at hP; cases hP)]
        · rw [if_neg h1, if_neg h1])
      (by
        unfold NB_judge_l43
        try dsimp only
        rw [w0 x4, if_pos (by rw [n_le (by omega) (by omega)]; omega)]) (S 0 0) 0 (by omega) (by omega)
    have c2 := iter_find (step := Mo_judge_l38 (nI t) (nI j) m2') (fun i => nI i) (fun p => ! (decide (j + p < S 47 t) && decide (lg_cmp (it t (j + p)) ((nI (SZ S (holdL S ld) p)).toInt64) = 0))) (fun p => (if j + p < S 47 t then nI p else 100 + nI p, m2')) 0 (S 0 0)
      (fun p _ hp hP => by
        have h1 : (decide (j + p < S 47 t) && decide (lg_cmp (it t (j + p)) ((nI (SZ S (holdL S ld) p)).toInt64) = 0)) = true := by
          cases hh : (decide (j + p < S 47 t) && decide (lg_cmp (it t (j + p)) ((nI (SZ S (holdL S ld) p)).toInt64) = 0)) with
          | true => rfl
          | false => rw [hh] at hP; cases hP
        rw [Bool.and_eq_true, decide_eq_true_eq, decide_eq_true_eq] at h1
        have h46 : ¬ S 46 t = 0 := fun q => by have := hw.2.2 q; omega
        unfold Mo_judge_l38
        try dsimp only
        rw [r0 y3.1, if_neg (by rw [n_le (by omega) (by omega)]; omega), ga_n (by omega) (by omega), n_cl (by omega), hsM, hlM, i_60]
        simp only [sort_lt hw.1]
        simp (disch := omega) only [ga_n, n_mul, n_add]
        simp only [cM p (by omega)]
        rw [if_neg h46, if_neg (nI_pos (by omega)), if_pos h1.1, n_cl (by omega), n_cl (by omega), Nat.add_assoc, itM _ (by omega), y3.2.1.1 p hp, if_pos h1.2, i_1, n_add])
      (fun p _ hp hP => by
        unfold Mo_judge_l38
        try dsimp only
        rw [r0 y3.1, if_neg (by rw [n_le (by omega) (by omega)]; omega), ga_n (by omega) (by omega), n_cl (by omega), hsM, hlM, i_60]
        simp only [sort_lt hw.1]
        simp (disch := omega) only [ga_n, n_mul, n_add]
        simp only [cM p (by omega)]
        by_cases h46 : S 46 t = 0
        · have := hw.2.2 h46
          rw [if_pos h46, if_neg (show ¬ j + p < S 47 t by omega)]
        rw [if_neg h46, if_neg (nI_pos (by omega))]
        by_cases h1 : j + p < S 47 t
        · rw [if_pos h1, if_pos h1, ga_n (by omega) (by omega), n_cl (by omega), n_cl (by omega), Nat.add_assoc, itM _ (by omega), y3.2.1.1 p hp]
          rw [decide_eq_true h1, Bool.true_and] at hP
          rw [if_neg (fun q => by rw [decide_eq_true q] at hP; cases hP)]
        · rw [if_neg h1, if_neg h1])
      (by
        unfold Mo_judge_l38
        try dsimp only
        rw [r0 y3.1, if_pos (by rw [n_le (by omega) (by omega)]; omega)]) (S 0 0) 0 (by omega) (by omega)
    rw [show iter (NB_judge_l43 (nI t) (nI j) m1') 0 = _ from c1, show iter (Mo_judge_l38 (nI t) (nI j) m2') 0 = _ from c2]
    exact ⟨_, fstR_c (β := Nat) m1' (fun p => if j + p < S 47 t then nI p else 100 + nI p) _ _, fstR_c (β := Nat) m2' (fun p => if j + p < S 47 t then nI p else 100 + nI p) _ _⟩
  obtain ⟨r, k1, k2⟩ := key
  rw [k1, k2]
  have hfin := inv_same hC hM hW hL sC sM
  by_cases g0 : S 46 t = 0
  · rw [if_pos g0, if_pos g0]
    exact ⟨_, _, _, rfl, rfl, hfin⟩
  rw [if_neg g0, if_neg g0]
  by_cases g3 : S 46 t = 3
  · rw [if_pos g3, if_pos g3]
    exact ⟨_, _, _, rfl, rfl, hfin⟩
  · rw [if_neg g3, if_neg g3]
    exact ⟨_, _, _, rfl, rfl, hI⟩
