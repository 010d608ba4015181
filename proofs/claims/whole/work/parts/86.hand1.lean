-- ===== of, far, way, toward, next, gone, looked =====
theorem inv_same {m1 m2 m1' m2' : Mm} {S : Sn} {ld : Nat → List Cl} {it : Nat → Nat → Int64} (hC : StC m1 S ld it) (hM : StM m2 S ld it) (hW : Wf S) (hL : ∀ j, j < S 41 0 → WL (ld j)) (h1 : sameC m1 m1') (h2 : sameM m2 m2') : Inv m1' m2' := ⟨S, ld, it, StC_same hC h1 (Wf_41 hW), StM_same hM h2, hW, hL⟩
theorem look_0 {m : Mm} {S : Sn} {ld : Nat → List Cl} {it : Nat → Nat → Int64} (hC : StC m S ld it) (hW : Wf S) (hL : ∀ j, j < S 41 0 → WL (ld j)) : ∃ m', NB_look m = some m' ∧ fr pL m m' ∧ JC m' S (holdL S ld) none ∧ WC m' S := by
  have h10 : m.1 1 10 = -1 := by
    rw [cF48 hC.1, Wf_48 hW]
    rfl
  obtain ⟨m', a1, a2, a3⟩ := look_c (fa := none) (KC_of hC hW) hW (hold_WL hW hL) trivial h10
  exact ⟨m', a1, a2, a3, WC_L (WC_of hC.1) a2⟩
theorem lay_0 {m : Mm} {S : Sn} {ld : Nat → List Cl} {it : Nat → Nat → Int64} (hM : StM m S ld it) (hW : Wf S) (hL : ∀ j, j < S 41 0 → WL (ld j)) : ∃ m', Mo_layLand m = some m' ∧ fr pS m m' ∧ LM m' S (holdL S ld) none := by
  have h32 : m.1 0 32 = -1 := by
    rw [rF48 hM.1, Wf_48 hW]
    rfl
  have h33 : m.1 0 33 = -1 := by
    rw [rF49 hM.1, Wf_49 hW]
    rfl
  obtain ⟨m', a1, a2, a3⟩ := lay_m (KM_of hM hW) hW (hold_WL hW hL)
  exact ⟨m', a1, a2, WM_S (WM_of hM.1) a2, a3, (a2.1 0 32 (by unfold pS; omega)).trans h32, (a2.1 0 33 (by unfold pS; omega)).trans h33⟩
theorem H1 : lwH1 Inv := by
  intro m1 m2 a1 a2 hI
  obtain ⟨S, ld, it, hC, hM, hW, hL⟩ := id hI
  have b0 := Wf_0 hW
  unfold NB_of Mo_of
  rw [Wo_has_eq (cF0 hC.1) (by omega), Mo_isPlace_eq (rF0 hM.1) (by omega)]
  cases e1 : inR a1 (S 0 0) with
  | false => exact ⟨-1, m1, m2, rfl, rfl, hI⟩
  | true =>
  obtain ⟨p, hp, rfl⟩ := inR_ex e1 (by omega)
  obtain ⟨m1', x1, x2, x3, x4⟩ := look_0 hC hW hL
  obtain ⟨m2', y1, y2⟩ := sumOf_m (w := 0) (KM_of hM hW) hW (show p < 7 by omega) (hold_WL hW hL) (by omega)
  simp only [↓reduceIte]
  rw [x1, show Mo_sumOf m2 0 (nI p) = _ from y1, roads_c (WC_of hC.1) hW (by omega), roads_m (WM_of hM.1) hW (by omega)]
  simp (disch := omega) only [ga_n, n_cl, Option.bind_some]
  rw [w1 (WC_of hC.1) (by omega), w2 (WC_of hC.1) (by omega), w3 (WC_of hC.1) (by omega), w5 (WC_of hC.1) (by omega), r1 (WM_of hM.1) (by omega), r2 (WM_of hM.1) (by omega), r3 (WM_of hM.1) (by omega), r5 (WM_of hM.1) (by omega), x3.1.1 p hp, n_add]
  by_cases c0 : a2 = 0
  · rw [if_pos c0, if_pos c0]
    exact ⟨_, _, _, rfl, rfl, hI⟩
  rw [if_neg c0, if_neg c0]
  by_cases c1 : a2 = 1
  · rw [if_pos c1, if_pos c1]
    exact ⟨_, _, _, rfl, rfl, hI⟩
  rw [if_neg c1, if_neg c1]
  by_cases c2 : a2 = 2
  · rw [if_pos c2, if_pos c2]
    exact ⟨_, _, _, rfl, rfl, hI⟩
  rw [if_neg c2, if_neg c2]
  by_cases c3 : a2 = 3
  · rw [if_pos c3, if_pos c3]
    exact ⟨_, _, _, rfl, rfl, inv_same hC hM hW hL (fr_SC x2) (fr_SM (fr_HM y2))⟩
  rw [if_neg c3, if_neg c3]
  by_cases c4 : a2 = 4
  · rw [if_pos c4, if_pos c4]
    exact ⟨_, _, _, rfl, rfl, hI⟩
  rw [if_neg c4, if_neg c4]
  by_cases c5 : a2 = 5
  · rw [if_pos c5, if_pos c5]
    exact ⟨_, _, _, rfl, rfl, hI⟩
  rw [if_neg c5, if_neg c5]
  exact ⟨_, _, _, rfl, rfl, hI⟩
theorem H3 : lwH3 Inv := by
  intro m1 m2 a1 a2 hI
  obtain ⟨S, ld, it, hC, hM, hW, hL⟩ := id hI
  have b0 := Wf_0 hW
  unfold NB_far Mo_far
  rw [Wo_has_eq (cF0 hC.1) (by omega), Wo_has_eq (cF0 hC.1) (by omega), Mo_arePlaces_eq (rF0 hM.1) (by omega)]
  cases e1 : inR a1 (S 0 0) with
  | false => exact ⟨-1, m1, m2, rfl, rfl, hI⟩
  | true =>
  cases e2 : inR a2 (S 0 0) with
  | false => exact ⟨-1, m1, m2, rfl, rfl, hI⟩
  | true =>
  obtain ⟨p, hp, rfl⟩ := inR_ex e1 (by omega)
  obtain ⟨o, ho, rfl⟩ := inR_ex e2 (by omega)
  obtain ⟨m1', x1, x2, x3, x4⟩ := look_0 hC hW hL
  obtain ⟨m2', y1, y2, y3⟩ := lay_0 hM hW hL
  have hfin := inv_same hC hM hW hL (fr_SC x2) (fr_SM y2)
  simp only [Bool.and_self, ↓reduceIte]
  rw [x1, y1, NB_index_n (7 * p + o) (by omega), i_7, n_mul, n_add]
  simp (disch := omega) only [ga_n, n_cl, Option.bind_some, n_eq]
  rw [jw5 x3.1 hp ho, jm19 y3.2.1 hp ho]
  by_cases e : p = o
  · rw [if_pos e, ← e, LG_0.mpr (Wf_4d hW (by omega))]
    exact ⟨_, _, _, rfl, rfl, hfin⟩
  · rw [if_neg e]
    exact ⟨_, _, _, rfl, rfl, hfin⟩
theorem H10 : lwH10 Inv := by
  intro m1 m2 a1 a2 hI
  obtain ⟨S, ld, it, hC, hM, hW, hL⟩ := id hI
  have b0 := Wf_0 hW
  unfold NB_way Mo_way
  rw [Wo_has_eq (cF0 hC.1) (by omega), Wo_has_eq (cF0 hC.1) (by omega), Mo_arePlaces_eq (rF0 hM.1) (by omega)]
  cases e1 : inR a1 (S 0 0) with
  | false => exact ⟨-1, m1, m2, rfl, rfl, hI⟩
  | true =>
  cases e2 : inR a2 (S 0 0) with
  | false => exact ⟨-1, m1, m2, rfl, rfl, hI⟩
  | true =>
  obtain ⟨p, hp, rfl⟩ := inR_ex e1 (by omega)
  obtain ⟨o, ho, rfl⟩ := inR_ex e2 (by omega)
  obtain ⟨m1', x1, x2, x3, x4⟩ := look_0 hC hW hL
  obtain ⟨m2', y1, y2, y3⟩ := lay_0 hM hW hL
  have hfin := inv_same hC hM hW hL (fr_SC x2) (fr_SM y2)
  have hle := WY_le hW (hold_WL hW hL) (show p < 7 by omega) (show o < 7 by omega)
  have hE : EN = 1000000 := rfl
  simp only [Bool.and_self, ↓reduceIte]
  rw [x1, y1]
  simp only [Option.bind_some]
  rw [leads_c x3.1 hW (hold_WL hW hL) hp ho, NB_index_n (7 * p + o) (by omega), i_7, n_mul, n_add]
  simp (disch := omega) only [ga_n, n_cl, Option.bind_some]
  rw [jw6 x3.1 hp ho, jm20 y3.2.1 hp ho]
  simp (disch := omega) only [wI_ge]
  by_cases e : WY S (holdL S ld) p o = EN
  · rw [decide_eq_false (show ¬ WY S (holdL S ld) p o ≠ EN from fun q => q e), if_neg (show ¬ false = true by decide), if_neg (show ¬ WY S (holdL S ld) p o ≠ EN from fun q => q e)]
    exact ⟨_, _, _, rfl, rfl, hfin⟩
  · rw [decide_eq_true (show WY S (holdL S ld) p o ≠ EN from e), if_pos rfl, if_pos (show WY S (holdL S ld) p o ≠ EN from e), wI_n e]
    exact ⟨_, _, _, rfl, rfl, hfin⟩
theorem H11 : lwH11 Inv := by
  intro m1 m2 a1 a2 hI
  obtain ⟨S, ld, it, hC, hM, hW, hL⟩ := id hI
  have b0 := Wf_0 hW
  unfold NB_toward Mo_toward
  rw [Wo_has_eq (cF0 hC.1) (by omega), Wo_has_eq (cF0 hC.1) (by omega), Mo_arePlaces_eq (rF0 hM.1) (by omega)]
  cases e1 : inR a1 (S 0 0) with
  | false => exact ⟨-1, m1, m2, rfl, rfl, hI⟩
  | true =>
  cases e2 : inR a2 (S 0 0) with
  | false => exact ⟨-1, m1, m2, rfl, rfl, hI⟩
  | true =>
  obtain ⟨p, hp, rfl⟩ := inR_ex e1 (by omega)
  obtain ⟨o, ho, rfl⟩ := inR_ex e2 (by omega)
  obtain ⟨m1', x1, x2, x3, x4⟩ := look_0 hC hW hL
  obtain ⟨m2', y1, y2, y3⟩ := lay_0 hM hW hL
  have hfin := inv_same hC hM hW hL (fr_SC x2) (fr_SM y2)
  simp only [Bool.and_self, ↓reduceIte]
  rw [x1, y1]
  simp only [Option.bind_some]
  rw [toward_m y3.1 y3.2.1 hW (hold_WL hW hL) hp ho, NB_index_n (7 * p + o) (by omega), ga_n (by omega) (by omega), n_cl (by omega), jc7 x3 hp ho]
  exact ⟨_, _, _, rfl, rfl, hfin⟩
theorem H12 : lwH12 Inv := by
  intro m1 m2 a1 a2 hI
  obtain ⟨S, ld, it, hC, hM, hW, hL⟩ := id hI
  have b0 := Wf_0 hW
  unfold NB_next Mo_next
  rw [Wo_has_eq (cF0 hC.1) (by omega), Wo_has_eq (cF0 hC.1) (by omega), Mo_arePlaces_eq (rF0 hM.1) (by omega)]
  cases e1 : inR a1 (S 0 0) with
  | false => exact ⟨-1, m1, m2, rfl, rfl, hI⟩
  | true =>
  cases e2 : inR a2 (S 0 0) with
  | false => exact ⟨-1, m1, m2, rfl, rfl, hI⟩
  | true =>
  obtain ⟨p, hp, rfl⟩ := inR_ex e1 (by omega)
  obtain ⟨o, ho, rfl⟩ := inR_ex e2 (by omega)
  obtain ⟨m1', x1, x2, x3, x4⟩ := look_0 hC hW hL
  obtain ⟨m2', y1, y2, y3⟩ := lay_0 hM hW hL
  have hfin := inv_same hC hM hW hL (fr_SC x2) (fr_SM y2)
  simp (disch := omega) only [Bool.and_self, ↓reduceIte, n_eq]
  by_cases e : p = o
  · rw [if_pos e, if_pos e]
    exact ⟨_, _, _, rfl, rfl, hI⟩
  rw [if_neg e, if_neg e, x1, y1]
  simp only [Option.bind_some]
  rw [next_m (fa := none) y3.1 y3.2.1 hW (hold_WL hW hL) trivial y3.2.2 hp ho e, NB_index_n (7 * p + o) (by omega), ga_n (by omega) (by omega), n_cl (by omega), jc8 x3 hp ho]
  exact ⟨_, _, _, rfl, rfl, hfin⟩
theorem part_c (a : Int32) : NB_isPart a = inR a 2 := by
  unfold NB_isPart
  rcases arg3 a 2 (by omega) with ⟨g1, g2⟩ | ⟨g1, g2, g3⟩ | ⟨q, g1, rfl, g3⟩
  · rw [if_neg (fun e => absurd (e ▸ g1) (by decide)), if_neg (fun e => absurd (e ▸ g1) (by decide)), g2]
  · rw [if_neg (fun e => absurd (e ▸ g1) (by decide)), if_neg (fun e => absurd (e ▸ g1) (by decide)), g3]
  · have h : q = 0 ∨ q = 1 := by omega
    rcases h with rfl | rfl
    · exact g3.symm
    · exact g3.symm
theorem H13 : lwH13 Inv := by
  intro m1 m2 a1 a2 a3 hI
  obtain ⟨S, ld, it, hC, hM, hW, hL⟩ := id hI
  have b0 := Wf_0 hW
  unfold NB_gone Mo_gone
  rw [Wo_has_eq (cF0 hC.1) (by omega), Wo_has_eq (cF0 hC.1) (by omega), Mo_arePlaces_eq (rF0 hM.1) (by omega), part_c, in1]
  cases e1 : inR a1 (S 0 0) with
  | false => exact ⟨-1, m1, m2, rfl, rfl, hI⟩
  | true =>
  cases e2 : inR a2 (S 0 0) with
  | false => exact ⟨-1, m1, m2, rfl, rfl, hI⟩
  | true =>
  cases e3 : inR a3 2 with
  | false => exact ⟨-1, m1, m2, rfl, rfl, hI⟩
  | true =>
  obtain ⟨p, hp, rfl⟩ := inR_ex e1 (by omega)
  obtain ⟨o, ho, rfl⟩ := inR_ex e2 (by omega)
  obtain ⟨m1', x1, x2, x3, x4⟩ := look_0 hC hW hL
  obtain ⟨m2', y1, y2, y3⟩ := lay_0 hM hW hL
  obtain ⟨m1'', u1, u2, u3, u4⟩ := walk_c x3 hW (hold_WL hW hL) hp ho
  obtain ⟨m2'', v1, v2, v3, v4, v5⟩ := goes_m (fa := none) y3 hW (hold_WL hW hL) trivial hp ho
  have hbd := WK_bd (fa := none) (t := o) hW (hold_WL hW hL) hp
  have hfin := inv_same hC hM hW hL ((fr_SC x2).tr (fr_WC u2)) ((fr_SM y2).tr (fr_GM v2))
  simp (disch := omega) only [Bool.and_self, ↓reduceIte, n_eq]
  by_cases e : p = o
  · rw [if_pos e, if_pos e]
    exact ⟨_, _, _, rfl, rfl, hI⟩
  rw [if_neg e, if_neg e, x1, y1]
  simp only [Option.bind_some]
  rw [u1, v1]
  simp (disch := omega) only [Option.bind_some, n_eq, decide_eq_true_eq]
  rw [u3, u4, v4, v5]
  by_cases g : (WK S (holdL S ld) none p o).1 = o
  · rw [if_pos g, if_pos g]
    by_cases g2 : a3 = 0
    · rw [if_pos g2, if_pos g2]
      exact ⟨_, _, _, rfl, rfl, hfin⟩
    · rw [if_neg g2, if_neg g2]
      exact ⟨_, _, _, rfl, rfl, hfin⟩
  · rw [if_neg g, if_neg g]
    exact ⟨_, _, _, rfl, rfl, hfin⟩
