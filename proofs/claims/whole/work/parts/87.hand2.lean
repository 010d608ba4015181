-- ===== lost, gets, longest, looked, judge =====
theorem accum1 {st : Int32 × Int32 × Mm → Option ((Int32 × Int32 × Mm) ⊕ (Int32 × Mm))} {n : Nat} (P : Mm → Prop) (v : Nat → Nat) (h : ∀ a t m, t < n → P m → ∃ m', st (nI a, nI t, m) = some (.inl (nI (a + v t), nI (t + 1), m')) ∧ P m') (he : ∀ a m, P m → st (a, nI n, m) = some (.inr (a, m))) {m : Mm} (h0 : P m) : ∃ m', iter st (0, 0, m) = some (nI (sumN v n), m') ∧ P m' := by
  obtain ⟨r, h1, h2⟩ := iter_for (step := st) (fun k s => ∃ m', s = (nI (sumN v k), nI k, m') ∧ P m') n (fun r => ∃ m', r = (nI (sumN v n), m') ∧ P m')
    (by
      rintro k s hk ⟨m', rfl, hP⟩
      obtain ⟨m2, q1, q2⟩ := h (sumN v k) k m' hk hP
      exact ⟨_, q1, m2, rfl, q2⟩)
    (by
      rintro s ⟨m', rfl, hP⟩
      exact ⟨_, he _ _ hP, m', rfl, hP⟩) 0 (0, 0, m) (by omega) ⟨m, rfl, h0⟩
  obtain ⟨m', rfl, hP⟩ := h2
  exact ⟨m', h1, hP⟩
theorem accum2 {st1 : Int32 × Int32 × Mm → Option ((Int32 × Int32 × Mm) ⊕ (Int32 × Mm))} {st2 : Int32 × Int32 × Mm → Int32 × Int32 × Mm → Option ((Int32 × Int32 × Mm) ⊕ (Int32 × Mm))} {n : Nat} (P : Mm → Prop) (v : Nat → Nat → Nat)
    (h1 : ∀ a p m, p < n → P m → st1 (a, nI p, m) = (iter (st2 (a, nI p, m)) (a, 0, m)).bind fun e => some (.inl (e.1, nI p + 1, e.2)))
    (h1e : ∀ a m, P m → st1 (a, nI n, m) = some (.inr (a, m)))
    (h2 : ∀ a0 a p o m0 m, p < n → o < n → P m → ∃ m', st2 (a0, nI p, m0) (nI a, nI o, m) = some (.inl (nI (a + v p o), nI (o + 1), m')) ∧ P m')
    (h2e : ∀ a0 a p m0 m, p < n → P m → st2 (a0, nI p, m0) (a, nI n, m) = some (.inr (a, m))) {m : Mm} (h0 : P m) : ∃ m', iter st1 (0, 0, m) = some (nI (sumN (fun p => sumN (v p) n) n), m') ∧ P m' := by
  refine accum1 P (fun p => sumN (v p) n) ?_ h1e h0
  intro a p m hp hP
  obtain ⟨r, q1, q2⟩ := iter_for (step := st2 (nI a, nI p, m)) (fun o s => ∃ m', s = (nI (a + sumN (v p) o), nI o, m') ∧ P m') n (fun r => ∃ m', r = (nI (a + sumN (v p) n), m') ∧ P m')
    (by
      rintro o s ho ⟨m', rfl, hP'⟩
      obtain ⟨m2, q1, q2⟩ := h2 (nI a) (a + sumN (v p) o) p o m m' hp ho hP'
      exact ⟨_, q1, m2, by rw [Nat.add_assoc]; rfl, q2⟩)
    (by
      rintro s ⟨m', rfl, hP'⟩
      exact ⟨_, h2e _ _ p m m' hp hP', m', rfl, hP'⟩) 0 (nI a, 0, m) (by omega) ⟨m, rfl, hP⟩
  obtain ⟨m', rfl, hP'⟩ := q2
  refine ⟨m', ?_, hP'⟩
  rw [h1 _ p m hp hP, q1, nI_succ p]
  rfl
def lostV (S : Sn) (L : List Cl) (fa : Fa) (f t : Nat) : Nat := if (WK S L fa f t).1 = t then 0 else 1
def LPa (S : Sn) (L : List Cl) (fa : Fa) : Nat := sumN (fun p => sumN (lostV S L fa p) (S 0 0)) (S 0 0)
theorem lostP_c {m : Mm} {S : Sn} {L : List Cl} {fa : Fa} (hw : WC m S) (hJ : JC m S L fa) (hW : Wf S) (hL : WL L) : ∃ m', Jo_lostPairs m = some (nI (LPa S L fa), m') ∧ fr pW m m' := by
  have b0 := Wf_0 hW
  obtain ⟨m', q1, q2⟩ := accum2 (st1 := Jo_lostPairs_l4) (st2 := Jo_lostPairs_l17) (n := S 0 0) (fun m' => fr pW m m') (lostV S L fa)
    (fun a p m' hp hs => by
      unfold Jo_lostPairs_l4
      dsimp only
      rw [w0 (WC_W hw hs), if_neg (by rw [n_le (by omega) (by omega)]; omega)])
    (fun a m' hs => by
      unfold Jo_lostPairs_l4
      dsimp only
      rw [w0 (WC_W hw hs), if_pos (by rw [n_le (by omega) (by omega)]; omega)])
    (fun a0 a p o m0 m' hp ho hs => by
      obtain ⟨m2, g1, g2, g3, g4⟩ := walk_c (JC_W hJ hs) hW hL hp ho
      have hbd := WK_bd (fa := fa) (t := o) hW hL hp
      unfold Jo_lostPairs_l17 lostV
      dsimp only
      rw [w0 (WC_W hw hs), if_neg (by rw [n_le (by omega) (by omega)]; omega), g1]
      simp (disch := omega) only [Option.bind_some, n_eq, i_1, n_add]
      refine ⟨m2, ?_, fr_tr hs g2⟩
      split <;> rfl)
    (fun a0 a p m0 m' hp hs => by
      unfold Jo_lostPairs_l17
      dsimp only
      rw [w0 (WC_W hw hs), if_pos (by rw [n_le (by omega) (by omega)]; omega)]) (m := m) (fr_rf _ _)
  refine ⟨m', ?_, q2⟩
  unfold Jo_lostPairs
  rw [q1]
  rfl
theorem lostP_m {m : Mm} {S : Sn} {L : List Cl} {fa : Fa} (h : KM m S L) (hW : Wf S) (hL : WL L) (hB : faB fa (S 0 0)) (hF : faM m fa (S 0 0)) : ∃ m', Mo_lostPairs m = some (nI (LPa S L fa), m') ∧ sameM m m' ∧ (∀ i, i = 32 ∨ i = 33 → m'.1 0 i = m.1 0 i) := by
  have b0 := Wf_0 hW
  obtain ⟨m1, a1, a2, a3⟩ := lay_m h hW hL
  have hLM : LM m1 S L fa := by
    refine ⟨WM_S h.1 a2, a3, ?_⟩
    unfold faM at hF ⊢
    rw [a2.1 0 32 (by unfold pS; omega), a2.1 0 33 (by unfold pS; omega)]
    exact hF
  obtain ⟨m', q1, q2⟩ := accum2 (st1 := Mo_lostPairs_l8) (st2 := Mo_lostPairs_l18) (n := S 0 0) (fun m' => fr pG m1 m') (lostV S L fa)
    (fun a p m' hp hs => by
      unfold Mo_lostPairs_l8
      dsimp only
      rw [r0 (WM_G hLM.1 hs), if_neg (by rw [n_le (by omega) (by omega)]; omega)])
    (fun a m' hs => by
      unfold Mo_lostPairs_l8
      dsimp only
      rw [r0 (WM_G hLM.1 hs), if_pos (by rw [n_le (by omega) (by omega)]; omega)])
    (fun a0 a p o m0 m' hp ho hs => by
      obtain ⟨m2, g1, g2, g3, g4⟩ := goes_m (LM_G hLM hs) hW hL hB hp ho
      have hbd := WK_bd (fa := fa) (t := o) hW hL hp
      unfold Mo_lostPairs_l18 lostV
      dsimp only
      rw [r0 (WM_G hLM.1 hs), if_neg (by rw [n_le (by omega) (by omega)]; omega), g1]
      simp (disch := omega) only [Option.bind_some, n_eq, i_1, n_add, i_0, decide_eq_true_eq]
      by_cases e : p = o
      · rw [if_pos e, ← e, WK_self, if_pos rfl]
        exact ⟨m', rfl, hs⟩
      · rw [if_neg e]
        refine ⟨m2, ?_, fr_tr hs g2⟩
        split <;> rfl)
    (fun a0 a p m0 m' hp hs => by
      unfold Mo_lostPairs_l18
      dsimp only
      rw [r0 (WM_G hLM.1 hs), if_pos (by rw [n_le (by omega) (by omega)]; omega)]) (m := m1) (fr_rf _ _)
  refine ⟨m', ?_, (fr_SM a2).tr (fr_GM q2), fun i hi => (q2.1 0 i (by unfold pG; omega)).trans (a2.1 0 i (by unfold pS; omega))⟩
  unfold Mo_lostPairs
  rw [a1]
  simp only [Option.bind_some]
  rw [q1]
  rfl
def lostT (S : Sn) (L : List Cl) (t : Nat) : Nat := if (WK S L none (S 7 t) (S 8 t)).1 = S 8 t then 0 else S 9 t
theorem lostT_c {m : Mm} {S : Sn} {L : List Cl} (hw : WC m S) (hJ : JC m S L none) (hW : Wf S) (hL : WL L) : ∃ m', Jo_lostTravellers m = some (nI (sumN (lostT S L) (S 6 0)), m') ∧ fr pW m m' := by
  have b0 := Wf_0 hW
  have b6 := Wf_6 hW
  obtain ⟨m', q1, q2⟩ := accum1 (st := Jo_lostTravellers_l4) (n := S 6 0) (fun m' => fr pW m m') (lostT S L)
    (fun a t m' ht hs => by
      have h7 := Wf_7 hW ht
      obtain ⟨m2, g1, g2, g3, g4⟩ := walk_c (JC_W hJ hs) hW hL h7.1 h7.2.1
      have hbd := WK_bd (fa := none) (t := S 8 t) hW hL h7.1
      have hw2 := WC_W hw (fr_tr hs g2)
      unfold Jo_lostTravellers_l4 lostT
      dsimp only
      rw [w6 (WC_W hw hs), if_neg (by rw [n_le (by omega) (by omega)]; omega), ga_n (by omega) (by omega), ga_n (by omega) (by omega), n_cl (by omega), w7 (WC_W hw hs) (by omega), w8 (WC_W hw hs) (by omega), g1]
      simp (disch := omega) only [Option.bind_some, ga_n]
      rw [w8 hw2 (by omega), w9 hw2 (by omega)]
      simp (disch := omega) only [n_eq, i_1, n_add]
      refine ⟨m2, ?_, fr_tr hs g2⟩
      split <;> rfl)
    (fun a m' hs => by
      unfold Jo_lostTravellers_l4
      dsimp only
      rw [w6 (WC_W hw hs), if_pos (by rw [n_le (by omega) (by omega)]; omega)]) (m := m) (fr_rf _ _)
  refine ⟨m', ?_, q2⟩
  unfold Jo_lostTravellers
  rw [q1]
  rfl
theorem lostT_m {m : Mm} {S : Sn} {L : List Cl} (hLM : LM m S L none) (hW : Wf S) (hL : WL L) : ∃ m', iter Mo_lostMany_l8 (0, 0, m) = some (nI (sumN (lostT S L) (S 6 0)), m') ∧ fr pG m m' := by
  have b0 := Wf_0 hW
  have b6 := Wf_6 hW
  exact accum1 (st := Mo_lostMany_l8) (n := S 6 0) (fun m' => fr pG m m') (lostT S L)
    (fun a t m' ht hs => by
      have h7 := Wf_7 hW ht
      obtain ⟨m2, g1, g2, g3, g4⟩ := goes_m (fa := none) (LM_G hLM hs) hW hL trivial h7.1 h7.2.1
      have hbd := WK_bd (fa := none) (t := S 8 t) hW hL h7.1
      have hw := WM_G hLM.1 hs
      have hw2 := WM_G hLM.1 (fr_tr hs g2)
      unfold Mo_lostMany_l8 lostT
      dsimp only
      rw [r6 hw, if_neg (by rw [n_le (by omega) (by omega)]; omega), ga_n (by omega) (by omega), ga_n (by omega) (by omega), n_cl (by omega), r7 hw (by omega), r8 hw (by omega), g1]
      simp (disch := omega) only [Option.bind_some, ga_n]
      rw [r9 hw2 (by omega)]
      simp (disch := omega) only [i_1, n_add, i_0, decide_eq_true_eq]
      refine ⟨m2, ?_, fr_tr hs g2⟩
      split <;> rfl)
    (fun a m' hs => by
      unfold Mo_lostMany_l8
      dsimp only
      rw [r6 (WM_G hLM.1 hs), if_pos (by rw [n_le (by omega) (by omega)]; omega)]) (m := m) (fr_rf _ _)
theorem H14 : lwH14 Inv := by
  intro m1 m2 a1 hI
  obtain ⟨S, ld, it, hC, hM, hW, hL⟩ := id hI
  unfold NB_lost Mo_lost Mo_lostMany
  obtain ⟨m1', x1, x2, x3, x4⟩ := look_0 hC hW hL
  obtain ⟨m2', y1, y2, y3⟩ := lay_0 hM hW hL
  rw [x1, y1]
  simp only [Option.bind_some]
  by_cases c0 : a1 = 0
  · obtain ⟨m1'', u1, u2⟩ := lostT_c x4 x3 hW (hold_WL hW hL)
    obtain ⟨m2'', v1, v2⟩ := lostT_m y3 hW (hold_WL hW hL)
    rw [if_pos c0, if_pos c0, u1, v1]
    exact ⟨_, _, _, rfl, rfl, inv_same hC hM hW hL ((fr_SC x2).tr (fr_WC u2)) ((fr_SM y2).tr (fr_GM v2))⟩
  rw [if_neg c0, if_neg c0]
  by_cases c1 : a1 = 1
  · obtain ⟨m1'', u1, u2⟩ := lostP_c x4 x3 hW (hold_WL hW hL)
    obtain ⟨m2'', v1, v2, v3⟩ := lostP_m (fa := none) (KM_of hM hW) hW (hold_WL hW hL) trivial ⟨by rw [rF48 hM.1, Wf_48 hW]; rfl, by rw [rF49 hM.1, Wf_49 hW]; rfl⟩
    rw [if_pos c1, if_pos c1, u1, v1]
    exact ⟨_, _, _, rfl, rfl, inv_same hC hM hW hL ((fr_SC x2).tr (fr_WC u2)) v2⟩
  rw [if_neg c1, if_neg c1]
  exact ⟨_, _, _, rfl, rfl, hI⟩
def getsV (S : Sn) (L : List Cl) (p t : Nat) : Nat := if (WK S L none (S 7 t) (S 8 t)).1 = S 8 t then 0 else if (WK S L none (S 7 t) (S 8 t)).1 = p then S 9 t else 0
theorem H23 : lwH23 Inv := by
  intro m1 m2 a1 hI
  obtain ⟨S, ld, it, hC, hM, hW, hL⟩ := id hI
  have b0 := Wf_0 hW
  have b6 := Wf_6 hW
  unfold NB_gets Mo_gets
  rw [Wo_has_eq (cF0 hC.1) (by omega), Mo_isPlace_eq (rF0 hM.1) (by omega)]
  cases e1 : inR a1 (S 0 0) with
  | false => exact ⟨-1, m1, m2, rfl, rfl, hI⟩
  | true =>
  obtain ⟨p, hp, rfl⟩ := inR_ex e1 (by omega)
  obtain ⟨m1', x1, x2, x3, x4⟩ := look_0 hC hW hL
  obtain ⟨m2', y1, y2, y3⟩ := lay_0 hM hW hL
  have hLL := hold_WL hW hL
  simp only [↓reduceIte]
  rw [x1, y1]
  simp only [Option.bind_some]
  obtain ⟨m1'', u1, u2⟩ := accum1 (st := NB_gets_l22 (nI p)) (n := S 6 0) (fun m' => fr pW m1' m') (getsV S (holdL S ld) p)
    (fun a t m' ht hs => by
      have h7 := Wf_7 hW ht
      obtain ⟨m2, g1, g2, g3, g4⟩ := walk_c (JC_W x3 hs) hW hLL h7.1 h7.2.1
      have hbd := WK_bd (fa := none) (t := S 8 t) hW hLL h7.1
      have hw2 := WC_W x4 (fr_tr hs g2)
      unfold NB_gets_l22 getsV
      dsimp only
      rw [w6 (WC_W x4 hs), if_neg (by rw [n_le (by omega) (by omega)]; omega), ga_n (by omega) (by omega), ga_n (by omega) (by omega), n_cl (by omega), w7 (WC_W x4 hs) (by omega), w8 (WC_W x4 hs) (by omega), g1]
      simp (disch := omega) only [Option.bind_some, ga_n]
      rw [w8 hw2 (by omega), w9 hw2 (by omega)]
      simp (disch := omega) only [n_eq, i_1, n_add]
      refine ⟨m2, ?_, fr_tr hs g2⟩
      split
      · rfl
      · split <;> rfl)
    (fun a m' hs => by
      unfold NB_gets_l22
      dsimp only
      rw [w6 (WC_W x4 hs), if_pos (by rw [n_le (by omega) (by omega)]; omega)]) (m := m1') (fr_rf _ _)
  obtain ⟨m2'', v1, v2⟩ := accum1 (st := Mo_gets_l18 (nI p)) (n := S 6 0) (fun m' => fr pG m2' m') (getsV S (holdL S ld) p)
    (fun a t m' ht hs => by
      have h7 := Wf_7 hW ht
      obtain ⟨m2, g1, g2, g3, g4⟩ := goes_m (fa := none) (LM_G y3 hs) hW hLL trivial h7.1 h7.2.1
      have hbd := WK_bd (fa := none) (t := S 8 t) hW hLL h7.1
      have hw := WM_G y3.1 hs
      have hw2 := WM_G y3.1 (fr_tr hs g2)
      unfold Mo_gets_l18 getsV
      dsimp only
      rw [r6 hw, if_neg (by rw [n_le (by omega) (by omega)]; omega), ga_n (by omega) (by omega), ga_n (by omega) (by omega), n_cl (by omega), r7 hw (by omega), r8 hw (by omega), g1]
      simp (disch := omega) only [Option.bind_some, ga_n]
      rw [r9 hw2 (by omega), g3]
      simp (disch := omega) only [i_1, n_add, i_0, decide_eq_true_eq, n_eq]
      refine ⟨m2, ?_, fr_tr hs g2⟩
      split
      · rfl
      · split <;> rfl)
    (fun a m' hs => by
      unfold Mo_gets_l18
      dsimp only
      rw [r6 (WM_G y3.1 hs), if_pos (by rw [n_le (by omega) (by omega)]; omega)]) (m := m2') (fr_rf _ _)
  rw [u1, v1]
  exact ⟨_, _, _, rfl, rfl, inv_same hC hM hW hL ((fr_SC x2).tr (fr_WC u2)) ((fr_SM y2).tr (fr_GM v2))⟩
theorem H18 : lwH18 Inv := by
  intro m1 m2 a1 a2 hI
  obtain ⟨S, ld, it, hC, hM, hW, hL⟩ := id hI
  have b0 := Wf_0 hW
  unfold NB_turned Mo_turned
  rw [Wo_has_eq (cF0 hC.1) (by omega), Wo_has_eq (cF0 hC.1) (by omega), Mo_arePlaces_eq (rF0 hM.1) (by omega)]
  cases e1 : inR a1 (S 0 0) with
  | false => exact ⟨-1, m1, m2, rfl, rfl, hI⟩
  | true =>
  cases e2 : inR a2 (S 0 0) with
  | false => exact ⟨-1, m1, m2, rfl, rfl, hI⟩
  | true =>
  obtain ⟨p, hp, rfl⟩ := inR_ex e1 (by omega)
  obtain ⟨o, ho, rfl⟩ := inR_ex e2 (by omega)
  simp only [Bool.and_self, ↓reduceIte]
  rw [namesW (WC_of hC.1) hW (by omega) (by omega), ga_n (by omega) (by omega), n_cl (by omega), r5 (WM_of hM.1) (by omega), has_n (Wf_5 hW (by omega)) (by omega), show (S 5 p).testBit o = nmd S p o from rfl]
  simp only [Option.bind_some]
  cases hb : nmd S p o with
  | false => exact ⟨_, _, _, rfl, rfl, hI⟩
  | true =>
  have hne : p ≠ o := by
    intro q
    have h1 := Wf_5d hW (show p < 7 by omega)
    have h2 : (S 5 p).testBit o = true := hb
    rw [← q, h1] at h2
    cases h2
  simp only [↓reduceIte]
  -- the false arm of the class
  have hbeh : ∀ (m : Mm) (q : Nat), m.1 11 0 = nI (S 0 0) → q < S 0 0 → Jo_behind m (nI q) = nI ((q + 1) % S 0 0) := by
    intro m q hm hq
    unfold Jo_behind
    rw [hm, i_1, n_add]
    by_cases e : S 0 0 ≤ q + 1
    · rw [if_pos (by rw [n_le (by omega) (by omega)]; omega), show q + 1 = S 0 0 by omega, Nat.mod_self]
      rfl
    · rw [if_neg (by rw [n_le (by omega) (by omega)]; omega), Nat.mod_eq_of_lt (by omega)]
  have hmod := Nat.mod_lt (o + 1) (show S 0 0 > 0 by omega)
  have hset : ∃ m', Jo_setFalseArm m1 (nI p) (nI o) = m' ∧ (∀ k i, k ≠ 1 → m'.1 k i = m1.1 k i) ∧ (∀ k i, m'.2.1 k i = m1.2.1 k i) ∧ faC m' (some (p, o, if (o + 1) % S 0 0 = p then ((o + 1) % S 0 0 + 1) % S 0 0 else (o + 1) % S 0 0)) := by
    have hw0 := w0 (WC_of hC.1)
    refine ⟨_, rfl, ?_⟩
    unfold Jo_setFalseArm
    rw [hbeh _ o (by rw [si_ne (by omega), si_ne (by omega)]; exact hw0) ho, hbeh _ p (by rw [si_ne (by omega), si_ne (by omega), si_ne (by omega)]; exact hw0) hp, si_e rfl rfl]
    simp (disch := omega) only [n_eq]
    by_cases e : (o + 1) % S 0 0 = p
    · rw [if_pos e, if_pos e, e]
      refine ⟨fun k i hk => by rw [si_ne hk, si_ne hk, si_ne hk, si_ne hk], fun k i => by simp only [si_l], ?_⟩
      show _ ∧ _ ∧ _
      refine ⟨?_, ?_, si_e rfl rfl⟩
      · rw [si_nj (by omega), si_nj (by omega), si_nj (by omega), si_e rfl rfl]
      · rw [si_nj (by omega), si_nj (by omega), si_e rfl rfl]
    · rw [if_neg e, if_neg e]
      refine ⟨fun k i hk => by rw [si_ne hk, si_ne hk, si_ne hk], fun k i => by simp only [si_l], ?_⟩
      show _ ∧ _ ∧ _
      refine ⟨?_, ?_, si_e rfl rfl⟩
      · rw [si_nj (by omega), si_nj (by omega), si_e rfl rfl]
      · rw [si_nj (by omega), si_e rfl rfl]
  obtain ⟨m1a, s1, s2, s3, s4⟩ := hset
  have hBf : faB (some (p, o, if (o + 1) % S 0 0 = p then ((o + 1) % S 0 0 + 1) % S 0 0 else (o + 1) % S 0 0)) (S 0 0) := ⟨hp, ho, by
    have hmod2 := Nat.mod_lt ((o + 1) % S 0 0 + 1) (show S 0 0 > 0 by omega)
    split <;> omega⟩
  obtain ⟨m1', x1, x2, x3⟩ := look_c (KC_keep (KC_of hC hW) (fun k i a b => s2 k i (by omega))) hW (hold_WL hW hL) hBf s4
  have x4 : WC m1' S := WC_L (WC_keep (WC_of hC.1) (fun k i a b => s2 k i (by omega))) x2
  obtain ⟨m1'', u1, u2⟩ := lostP_c x4 x3 hW (hold_WL hW hL)
  have hK2 : KM (si (si m2 0 32 (nI p)) 0 33 (nI o)) S (holdL S ld) := KM_keep (KM_of hM hW) (fun k i a b => by
    by_cases hk : k = 0
    · rw [si_nj (by omega), si_nj (by omega)]
    · rw [si_ne hk, si_ne hk])
  obtain ⟨m2', v1, v2, v3⟩ := lostP_m hK2 hW (hold_WL hW hL) hBf ⟨by rw [si_nj (by omega), si_e rfl rfl], si_e rfl rfl, rfl⟩
  rw [s1, x1, v1]
  simp only [Option.bind_some]
  rw [u1]
  refine ⟨_, _, _, rfl, rfl, inv_same hC hM hW hL ?_ ?_⟩
  · unfold Jo_dropFalseArm
    refine ⟨fun k i q => ?_, fun k i q => ?_⟩
    · by_cases e : k = 1 ∧ i = 10
      · rw [e.1, e.2, si_e rfl rfl, cF48 hC.1, Wf_48 hW]
        rfl
      · have hk : k ≠ 1 := by
          intro h
          apply q
          unfold scrC
          omega
        rw [si_ne hk, (fr_WC u2).1 k i q, (fr_SC x2).1 k i q, s2 k i hk]
    · rw [si_l, (fr_WC u2).2 k i q, (fr_SC x2).2 k i q, s3]
  · refine ⟨fun k i q => ?_, fun k i q => ?_⟩
    · by_cases e1 : k = 0 ∧ i = 33
      · rw [e1.1, e1.2, si_e rfl rfl, rF49 hM.1, Wf_49 hW]
        rfl
      · by_cases e2 : k = 0 ∧ i = 32
        · rw [e2.1, e2.2, si_nj (by omega), si_e rfl rfl, rF48 hM.1, Wf_48 hW]
          rfl
        · rw [si_r, if_neg e1, si_r, if_neg e2, v2.1 k i q, si_r, if_neg e1, si_r, if_neg e2]
    · rw [si_l, si_l, v2.2 k i q, si_l, si_l]
