-- ===== odds =====
def bump (a : Nat → Nat) (c x : Nat) : Nat → Nat := fun j => if j = c then a j + x else a j
def spAim (S : Sn) (L : List Cl) (p k : Nat) : Nat := match TWo S L p k with
  | none => p
  | some c => c
def spA (S : Sn) (L : List Cl) (old : Nat → Nat) (p : Nat) (acc : Nat → Nat) : Nat → Nat → Nat
  | 0 => acc
  | k + 1 => if nmd S p k = true then bump (spA S L old p acc k) (spAim S L p k) (old p * (60 / onesN (S 5 p))) else spA S L old p acc k
def spP (S : Sn) (L : List Cl) (old : Nat → Nat) (p : Nat) (acc : Nat → Nat) : Nat → Nat := if S 5 p = 0 then bump acc p (old p * 60) else spA S L old p acc (S 0 0)
def stA (S : Sn) (L : List Cl) (old : Nat → Nat) : Nat → Nat → Nat
  | 0 => fun _ => 0
  | p + 1 => spP S L old p (stA S L old p)
def shN (S : Sn) (L : List Cl) (f : Nat) : Nat → Nat → Nat
  | 0 => fun c => if c = f then 1 else 0
  | k + 1 => stA S L (shN S L f k) (S 0 0)
-- bounds
def cntN (b : Nat) : Nat → Nat
  | 0 => 0
  | k + 1 => cntN b k + oneN (b.testBit k)
theorem cnt_le (b : Nat) {k : Nat} (hk : k ≤ 7) : cntN b k ≤ onesN b := by
  have h : cntN b 7 = onesN b := by
    unfold onesN
    show 0 + _ + _ + _ + _ + _ + _ + _ = _
    rw [Nat.zero_add]
  have mono : ∀ d j, cntN b j ≤ cntN b (j + d) := by
    intro d
    induction d with
    | zero => intro j; exact Nat.le_refl _
    | succ d ih =>
      intro j
      have := ih j
      show cntN b j ≤ cntN b (j + d) + _
      omega
  have := mono (7 - k) k
  rw [show k + (7 - k) = 7 by omega, h] at this
  exact this
theorem ones0 {b : Nat} (h : b < 128) : (onesN b = 0) = (b = 0) := by
  have H : ∀ b : Fin 128, (onesN b.val = 0) ↔ (b.val = 0) := by decide +kernel
  exact propext (H ⟨b, h⟩)
theorem spA_le {S : Sn} {L : List Cl} {old : Nat → Nat} {p : Nat} {acc : Nat → Nat} (c : Nat) : ∀ k, spA S L old p acc k c ≤ acc c + old p * (60 / onesN (S 5 p)) * cntN (S 5 p) k
  | 0 => Nat.le_add_right _ _
  | k + 1 => by
    have ih := spA_le (S := S) (L := L) (old := old) (p := p) (acc := acc) c k
    have h1 : cntN (S 5 p) (k + 1) = cntN (S 5 p) k + oneN ((S 5 p).testBit k) := rfl
    rw [h1, Nat.mul_add]
    show (if nmd S p k = true then bump (spA S L old p acc k) (spAim S L p k) (old p * (60 / onesN (S 5 p))) else spA S L old p acc k) c ≤ _
    unfold nmd
    cases (S 5 p).testBit k with
    | false =>
      rw [if_neg (by decide)]
      omega
    | true =>
      rw [if_pos rfl]
      have h2 : oneN true = 1 := rfl
      rw [h2, Nat.mul_one]
      unfold bump
      split <;> omega
theorem spP_le {S : Sn} {L : List Cl} {old : Nat → Nat} {p : Nat} {acc : Nat → Nat} {M : Nat} (hW : Wf S) (c : Nat) (hM : old p ≤ M) : spP S L old p acc c ≤ acc c + 60 * M := by
  have b0 := Wf_0 hW
  unfold spP
  split
  · unfold bump
    split <;> omega
  · have h1 := spA_le (S := S) (L := L) (old := old) (p := p) (acc := acc) c (S 0 0)
    have h2 : old p * (60 / onesN (S 5 p)) * cntN (S 5 p) (S 0 0) ≤ M * 60 := by
      have h3 := cnt_le (S 5 p) b0
      have h4 : 60 / onesN (S 5 p) * cntN (S 5 p) (S 0 0) ≤ 60 := Nat.le_trans (Nat.mul_le_mul_left _ h3) (Nat.div_mul_le_self 60 _)
      rw [Nat.mul_assoc]
      exact Nat.mul_le_mul hM h4
    omega
theorem stA_le {S : Sn} {L : List Cl} {old : Nat → Nat} {M : Nat} (hW : Wf S) (hM : ∀ p, old p ≤ M) (c : Nat) : ∀ k, stA S L old k c ≤ 60 * M * k
  | 0 => Nat.zero_le _
  | p + 1 => by
    have ih := stA_le (S := S) (L := L) hW hM c p
    have h1 := spP_le (S := S) (L := L) (acc := stA S L old p) hW c (hM p)
    show spP S L old p (stA S L old p) c ≤ 60 * M * (p + 1)
    rw [Nat.mul_succ]
    omega
theorem shN_le {S : Sn} {L : List Cl} {f : Nat} (hW : Wf S) : ∀ k c, shN S L f k c ≤ 420 ^ k
  | 0, c => by
    show (if c = f then 1 else 0) ≤ 1
    split <;> omega
  | k + 1, c => by
    have b0 := Wf_0 hW
    have h1 := stA_le (S := S) (L := L) hW (fun p => shN_le (S := S) (L := L) (f := f) hW k p) c (S 0 0)
    show stA S L (shN S L f k) (S 0 0) c ≤ 420 ^ (k + 1)
    have h2 : 60 * 420 ^ k * S 0 0 ≤ 60 * 420 ^ k * 7 := Nat.mul_le_mul_left _ b0
    rw [Nat.pow_succ]
    omega
theorem spAim_lt {S : Sn} {L : List Cl} {p k : Nat} (hp : p < S 0 0) : spAim S L p k < S 0 0 := by
  unfold spAim
  match hh : TWo S L p k with
  | none => exact hp
  | some c => exact TWo_lt hh
theorem spA_none {S : Sn} {L : List Cl} {old : Nat → Nat} {p : Nat} {acc : Nat → Nat} (h : S 5 p = 0) : ∀ k, spA S L old p acc k = acc
  | 0 => rfl
  | k + 1 => by
    show (if nmd S p k = true then _ else spA S L old p acc k) = acc
    have h1 : nmd S p k = false := by
      unfold nmd
      rw [h]
      exact Nat.zero_testBit k
    rw [h1, if_neg (by decide)]
    exact spA_none h k
-- memory
def SH (m : Mm) (c : Nat) (a : Nat → Nat) : Prop := ∀ i, i < 7 → m.2.1 c i = lN (a i)
def fo (c : Nat) (m m' : Mm) : Prop := m'.1 = m.1 ∧ ∀ k i, k ≠ c → m'.2.1 k i = m.2.1 k i
theorem fo_rf (c : Nat) (m : Mm) : fo c m m := ⟨rfl, fun _ _ _ => rfl⟩
theorem fo_tr {c : Nat} {m1 m2 m3 : Mm} (h : fo c m1 m2) (g : fo c m2 m3) : fo c m1 m3 := ⟨g.1.trans h.1, fun k i q => (g.2 k i q).trans (h.2 k i q)⟩
theorem fo_sl (c i : Nat) (x : Int64) (m : Mm) : fo c m (sl m c i x) := ⟨rfl, fun k j q => by rw [sl_l, if_neg (fun e => q e.1)]⟩
theorem SH_keep {c d : Nat} {m m' : Mm} {a : Nat → Nat} (h : SH m c a) (hs : fo d m m') (hne : c ≠ d) : SH m' c a := fun i hi => (hs.2 c i hne).trans (h i hi)
theorem SH_bump {m : Mm} {c j x : Nat} {a : Nat → Nat} (h : SH m c a) (hj : j < 7) (y : Int64) (hy : y = lN (a j + x)) : SH (sl m c j y) c (bump a j x) := by
  intro i hi
  rw [sl_l]
  unfold bump
  by_cases e : i = j
  · rw [if_pos ⟨rfl, e⟩, if_pos e, hy, e]
  · rw [if_neg (fun q => e q.2), if_neg e]
    exact h i hi
theorem WC_1 {m m' : Mm} {S : Sn} (h : WC m S) (e : m'.1 = m.1) : WC m' S := WC_keep h (fun k i _ _ => by rw [e])
theorem JC_1 {m m' : Mm} {S : Sn} {L : List Cl} {fa : Fa} (h : JC m S L fa) (e : m'.1 = m.1) : JC m' S L fa := JC_keep h (fun k i _ _ => by rw [e])
theorem LM_1 {m m' : Mm} {S : Sn} {L : List Cl} {fa : Fa} (h : LM m S L fa) (e : m'.1 = m.1) : LM m' S L fa := by
  obtain ⟨h1, h2, h3⟩ := h
  refine ⟨WM_keep h1 (fun k i _ _ => by rw [e]), JM_keep h2 (fun k i _ _ => by rw [e]), ?_⟩
  unfold faM at h3 ⊢
  rw [e]
  exact h3
theorem div60 {k : Nat} (h0 : 0 < k) (h : k ≤ 7) : ((60 : Int32) / nI k).toInt64 = lN (60 / k) := by
  rw [i_60, pk_div (by omega) h0 (by omega), nI_l (by have := Nat.div_le_self 60 k; omega)]
theorem spread_c {m : Mm} {S : Sn} {L : List Cl} {p : Nat} {old acc : Nat → Nat} (hw : WC m S) (hJ : JC m S L none) (hW : Wf S) (hL : WL L) (hp : p < S 0 0) (h9 : SH m 9 old) (h10 : SH m 10 acc) : ∃ m', Jo_spread m (nI p) = some m' ∧ fo 10 m m' ∧ SH m' 10 (spP S L old p acc) := by
  have b0 := Wf_0 hW
  have ho1 := onesN_le (S 5 p)
  unfold Jo_spread spP
  rw [ga_n (by omega) (by omega), n_cl (by omega), w5 hw (by omega), bc_n (Wf_5 hW (by omega))]
  by_cases e : S 5 p = 0
  · rw [if_pos e, if_pos (by rw [ones0 (Wf_5 hW (by omega)) |>.mpr e]; rfl), ga_n (by omega) (by omega), ga_n (by omega) (by omega), ga_n (by omega) (by omega)]
    refine ⟨_, rfl, fo_sl _ _ _ _, SH_bump h10 (by omega) _ ?_⟩
    rw [h10 p (by omega), h9 p (by omega), l_60, lN_mul, lN_add]
  have hpos : 0 < onesN (S 5 p) := by
    rcases Nat.eq_zero_or_pos (onesN (S 5 p)) with q | q
    · exact absurd ((ones0 (Wf_5 hW (by omega))).mp q) e
    · exact q
  rw [if_neg e, if_neg (nI_ne0 hpos (by omega))]
  obtain ⟨r, g1, g2⟩ := iter_for (step := Jo_spread_l39 m (nI p)) (fun k s => ∃ m', s = (nI k, m') ∧ fo 10 m m' ∧ SH m' 10 (spA S L old p acc k)) (S 0 0) (fun m' => fo 10 m m' ∧ SH m' 10 (spA S L old p acc (S 0 0)))
    (by
      rintro k s hk ⟨m', rfl, hs, hA⟩
      have hw' := WC_1 hw hs.1
      have hJ' := JC_1 hJ hs.1
      have h9' := SH_keep h9 hs (by decide)
      have hn : spA S L old p acc (k + 1) = if nmd S p k = true then bump (spA S L old p acc k) (spAim S L p k) (old p * (60 / onesN (S 5 p))) else spA S L old p acc k := rfl
      unfold Jo_spread_l39
      dsimp only
      rw [w0 hw', if_neg (by rw [n_le (by omega) (by omega)]; omega), namesW hw' hW (by omega) (by omega), NB_index_n (7 * p + k) (by omega), n_cl (by omega), n_cl (by omega), jc7 hJ' hp hk, w5 hw (by omega), bc_n (Wf_5 hW (by omega)), div60 hpos ho1, h9' p (by omega), lN_mul, i_1, n_add, hn]
      simp only [Option.bind_some]
      unfold gz
      rw [if_neg (nI_ne0 hpos (by omega)), if_neg (nI_ne0 hpos (by omega))]
      cases hb : nmd S p k with
      | false =>
        rw [if_neg (by decide), if_neg (by decide)]
        exact ⟨_, rfl, m', rfl, hs, hA⟩
      | true =>
        rw [if_pos rfl, if_pos rfl, ga_n (by omega) (by omega)]
        unfold spAim
        match hh : TWo S L p k with
        | none =>
          rw [show oI (-5) none = -5 from rfl, if_neg m5]
          simp (disch := omega) only [ga_n]
          rw [hA p (by omega), lN_add]
          exact ⟨_, rfl, _, rfl, fo_tr hs (fo_sl _ _ _ _), SH_bump hA (by omega) _ rfl⟩
        | some c =>
          have hc := TWo_lt hh
          rw [show oI (-5) (some c) = nI c from rfl, if_pos (nI_pos' (by omega))]
          simp (disch := omega) only [ga_n, n_cl]
          rw [hA c (by omega), lN_add]
          exact ⟨_, rfl, _, rfl, fo_tr hs (fo_sl _ _ _ _), SH_bump hA (by omega) _ rfl⟩)
    (by
      rintro s ⟨m', rfl, hs, hA⟩
      unfold Jo_spread_l39
      dsimp only
      rw [w0 (WC_1 hw hs.1), if_pos (by rw [n_le (by omega) (by omega)]; omega)]
      exact ⟨_, rfl, hs, hA⟩) 0 (0, m) (by omega) ⟨m, rfl, fo_rf _ _, h10⟩
  rw [g1]
  exact ⟨r, rfl, g2⟩
def fO (m m' : Mm) : Prop := m'.1 = m.1 ∧ ∀ k i, k ≠ 9 → k ≠ 10 → m'.2.1 k i = m.2.1 k i
theorem fO_tr {m1 m2 m3 : Mm} (h : fO m1 m2) (g : fO m2 m3) : fO m1 m3 := ⟨g.1.trans h.1, fun k i q q2 => (g.2 k i q q2).trans (h.2 k i q q2)⟩
theorem fO_of {c : Nat} {m m' : Mm} (h : fo c m m') (hc : c = 9 ∨ c = 10) : fO m m' := ⟨h.1, fun k i q q2 => h.2 k i (by omega)⟩
theorem shares_c {m : Mm} {S : Sn} {L : List Cl} {f t n : Nat} (hw : WC m S) (hJ : JC m S L none) (hW : Wf S) (hL : WL L) (hf : f < S 0 0) (ht : t < S 0 0) (hn : n ≤ 6) : ∃ m', Jo_sharesAt m (nI f) (nI t) (nI n) = some (lN (shN S L f n t), m') ∧ fO m m' := by
  have b0 := Wf_0 hW
  unfold Jo_sharesAt
  obtain ⟨m0, a1, a2, a3⟩ := JA_fill_eq m (n := 7) 9 0 (by omega)
  rw [a1]
  simp only [Option.bind_some]
  rw [ga_n (by omega) (by omega), n_cl (by omega)]
  have s0 : fO m m0 := ⟨a2, fun k i q q2 => by rw [a3, if_neg (fun e => q e.1)]⟩
  have s1 : fO m (sl m0 9 f 1) := fO_tr s0 (fO_of (fo_sl 9 f 1 m0) (Or.inl rfl))
  have i1 : SH (sl m0 9 f 1) 9 (shN S L f 0) := by
    intro i hi
    show _ = lN (if i = f then 1 else 0)
    rw [sl_l]
    by_cases e : i = f
    · rw [if_pos ⟨rfl, e⟩, if_pos e]
      rfl
    · rw [if_neg (fun q => e q.2), if_neg e, a3, if_pos ⟨rfl, hi⟩]
      rfl
  obtain ⟨r, g1, g2⟩ := iter_for (step := Jo_sharesAt_l18 (nI n)) (fun k s => ∃ m', s = (nI k, m') ∧ fO m m' ∧ SH m' 9 (shN S L f k)) n (fun m' => fO m m' ∧ SH m' 9 (shN S L f n))
    (by
      rintro k s hk ⟨m', rfl, hs, hA⟩
      obtain ⟨m2, c1, c2, c3⟩ := JA_fill_eq m' (n := 7) 10 0 (by omega)
      have s2 : fo 10 m' m2 := ⟨c2, fun k i q => by rw [c3, if_neg (fun e => q e.1)]⟩
      have z2 : SH m2 10 (stA S L (shN S L f k) 0) := fun i hi => by
        rw [c3, if_pos ⟨rfl, hi⟩]
        rfl
      obtain ⟨r, d1, d2⟩ := iter_for (step := Jo_sharesAt_l35) (fun p s => ∃ m3, s = (nI p, m3) ∧ fo 10 m' m3 ∧ SH m3 10 (stA S L (shN S L f k) p)) (S 0 0) (fun m3 => fo 10 m' m3 ∧ SH m3 10 (stA S L (shN S L f k) (S 0 0)))
        (by
          rintro p s hp ⟨m3, rfl, hs3, hB⟩
          have e3 : m3.1 = m.1 := hs3.1.trans hs.1
          obtain ⟨m4, k1, k2, k3⟩ := spread_c (WC_1 hw e3) (JC_1 hJ e3) hW hL hp (SH_keep hA hs3 (by decide)) hB
          unfold Jo_sharesAt_l35
          dsimp only
          rw [w0 (WC_1 hw e3), if_neg (by rw [n_le (by omega) (by omega)]; omega), k1]
          exact ⟨_, rfl, m4, by rw [nI_succ], fo_tr hs3 k2, k3⟩)
        (by
          rintro s ⟨m3, rfl, hs3, hB⟩
          have e3 : m3.1 = m.1 := hs3.1.trans hs.1
          unfold Jo_sharesAt_l35
          dsimp only
          rw [w0 (WC_1 hw e3), if_pos (by rw [n_le (by omega) (by omega)]; omega)]
          exact ⟨_, rfl, hs3, hB⟩) 0 (0, m2) (by omega) ⟨m2, rfl, s2, z2⟩
      unfold Jo_sharesAt_l18
      dsimp only
      rw [if_neg (by rw [n_le (by omega) (by omega)]; omega), c1]
      simp only [Option.bind_some]
      rw [d1]
      simp only [Option.bind_some]
      rw [cp7, gq_t]
      refine ⟨_, rfl, _, by rw [nI_succ], ?_, ?_⟩
      · refine fO_tr hs (fO_tr (fO_of d2.1 (Or.inr rfl)) ⟨rfl, fun k i q q2 => ?_⟩)
        unfold cpl sla
        dsimp only
        rw [if_neg q]
      · intro i hi
        unfold cpl sla
        dsimp only
        rw [if_pos rfl, pk_cpy_in (by exact Nat.zero_le _) (by show i < 0 + 7; omega)]
        show r.2.1 10 (0 + (i - 0)) = _
        rw [Nat.zero_add]
        exact d2.2 i hi)
    (by
      rintro s ⟨m', rfl, hs, hA⟩
      unfold Jo_sharesAt_l18
      dsimp only
      rw [if_pos (by rw [n_le (by omega) (by omega)]; omega)]
      exact ⟨_, rfl, hs, hA⟩) 0 (0, sl m0 9 f 1) (by omega) ⟨_, rfl, s1, i1⟩
  rw [g1]
  simp only [Option.bind_some]
  rw [ga_n (by omega) (by omega), n_cl (by omega), g2.2 t (by omega)]
  exact ⟨r, rfl, g2.1⟩
theorem goStep_m {m : Mm} {S : Sn} {L : List Cl} {old : Nat → Nat} (hLM : LM m S L none) (hW : Wf S) (hL : WL L) (hA : SH m 23 old) : ∃ m', Mo_goStep m = some m' ∧ m'.1 = m.1 ∧ (∀ k i, k ≠ 23 → k ≠ 24 → m'.2.1 k i = m.2.1 k i) ∧ SH m' 23 (stA S L old (S 0 0)) := by
  have b0 := Wf_0 hW
  unfold Mo_goStep
  obtain ⟨m1, a1, a2, a3⟩ := iter_for (step := Mo_goStep_l2) (fun k s => ∃ m', s = (nI k, m') ∧ fo 24 m m' ∧ ∀ i, i < k → m'.2.1 24 i = lN 0) 7 (fun m' => fo 24 m m' ∧ SH m' 24 (stA S L old 0))
    (by
      rintro k s hk ⟨m', rfl, hs, hz⟩
      unfold Mo_goStep_l2
      dsimp only
      rw [i_7, if_neg (by rw [n_le (by omega) (by omega)]; omega), ga_n (by omega) (by omega), n_cl (by omega)]
      refine ⟨_, rfl, _, by rw [nI_succ], fo_tr hs (fo_sl _ _ _ _), fun i hi => ?_⟩
      rw [sl_l]
      by_cases e : i = k
      · rw [if_pos ⟨rfl, e⟩]
        rfl
      · rw [if_neg (fun q => e q.2)]
        exact hz i (by omega))
    (by
      rintro s ⟨m', rfl, hs, hz⟩
      unfold Mo_goStep_l2
      dsimp only
      rw [i_7, if_pos (by rw [n_le (by omega) (by omega)]; omega)]
      exact ⟨_, rfl, hs, fun i hi => hz i hi⟩) 0 (0, m) (by omega) ⟨m, rfl, fo_rf _ _, fun i hi => absurd hi (Nat.not_lt_zero i)⟩
  rw [a1]
  simp only [Option.bind_some]
  obtain ⟨m2, c1, c2, c3⟩ := iter_for (step := Mo_goStep_l23) (fun p s => ∃ m', s = (nI p, m') ∧ fo 24 m m' ∧ SH m' 24 (stA S L old p)) (S 0 0) (fun m' => fo 24 m m' ∧ SH m' 24 (stA S L old (S 0 0)))
    (by
      rintro p s hp ⟨m', rfl, hs, hB⟩
      have hLM' := LM_1 hLM hs.1
      have h23 := SH_keep hA hs (by decide)
      have ho1 := onesN_le (S 5 p)
      -- the inner loop
      have inner : ∀ (m0 : Mm) (acc : Nat → Nat), fo 24 m m0 → SH m0 24 acc → ∃ m3, iter (Mo_goStep_l61 (nI p, m')) (0, m0) = some m3 ∧ fo 24 m m3 ∧ SH m3 24 (spA S L old p acc (S 0 0)) := by
        intro m0 acc hs0 hB0
        obtain ⟨r, g1, g2⟩ := iter_for (step := Mo_goStep_l61 (nI p, m')) (fun k s => ∃ m3, s = (nI k, m3) ∧ fo 24 m m3 ∧ SH m3 24 (spA S L old p acc k)) (S 0 0) (fun m3 => fo 24 m m3 ∧ SH m3 24 (spA S L old p acc (S 0 0)))
          (by
            rintro k s hk ⟨m3, rfl, hs3, hA3⟩
            have hL3 := LM_1 hLM hs3.1
            have h23' := SH_keep hA hs3 (by decide)
            have hn : spA S L old p acc (k + 1) = if nmd S p k = true then bump (spA S L old p acc k) (spAim S L p k) (old p * (60 / onesN (S 5 p))) else spA S L old p acc k := rfl
            unfold Mo_goStep_l61
            dsimp only
            rw [r0 hL3.1, if_neg (by rw [n_le (by omega) (by omega)]; omega), ga_n (by omega) (by omega), n_cl (by omega), r5 hL3.1 (by omega), has_n (Wf_5 hW (by omega)) (by omega), toward_m hL3.1 hL3.2.1 hW hL hp hk, ones_n (Wf_5 hW (by omega)), h23' p (by omega), i_1, n_add, hn, show (S 5 p).testBit k = nmd S p k from rfl]
            simp only [Option.bind_some]
            cases hb : nmd S p k with
            | false =>
              rw [if_neg (by decide), if_neg (by decide)]
              exact ⟨_, rfl, m3, rfl, hs3, hA3⟩
            | true =>
              have hpos : 0 < onesN (S 5 p) := by
                rcases Nat.eq_zero_or_pos (onesN (S 5 p)) with q | q
                · have h0 := (ones0 (Wf_5 hW (show p < 7 by omega))).mp q
                  unfold nmd at hb
                  rw [h0, Nat.zero_testBit] at hb
                  cases hb
                · exact q
              have hnz : ¬ (nI (onesN (S 5 p))).toInt64 = 0 := by
                rw [nI_l (by omega), l_0, l_eq (by omega) (by omega)]
                omega
              have hdv : (60 : Int64) / (nI (onesN (S 5 p))).toInt64 = lN (60 / onesN (S 5 p)) := by
                rw [nI_l (by omega), l_60, pk_lDiv (by omega) hpos (by omega)]
              rw [if_pos rfl, if_pos rfl]
              unfold gzl spAim
              rw [if_neg hnz, if_neg hnz, hdv, lN_mul]
              match hh : TWo S L p k with
              | none =>
                rw [show oI (-5) none = -5 from rfl, if_neg m5]
                simp (disch := omega) only [ga_n]
                rw [hA3 p (by omega), lN_add, Nat.mul_comm]
                exact ⟨_, rfl, _, rfl, fo_tr hs3 (fo_sl _ _ _ _), SH_bump hA3 (by omega) _ rfl⟩
              | some c =>
                have hc := TWo_lt hh
                rw [show oI (-5) (some c) = nI c from rfl, if_pos (nI_pos' (by omega))]
                simp (disch := omega) only [ga_n, n_cl]
                rw [hA3 c (by omega), lN_add, Nat.mul_comm]
                exact ⟨_, rfl, _, rfl, fo_tr hs3 (fo_sl _ _ _ _), SH_bump hA3 (by omega) _ rfl⟩)
          (by
            rintro s ⟨m3, rfl, hs3, hA3⟩
            unfold Mo_goStep_l61
            dsimp only
            rw [r0 (LM_1 hLM hs3.1).1, if_pos (by rw [n_le (by omega) (by omega)]; omega)]
            exact ⟨_, rfl, hs3, hA3⟩) 0 (0, m0) (by omega) ⟨m0, rfl, hs0, hB0⟩
        exact ⟨r, g1, g2⟩
      unfold Mo_goStep_l23 jn
      dsimp only
      rw [r0 hLM'.1, if_neg (by rw [n_le (by omega) (by omega)]; omega), ga_n (by omega) (by omega), n_cl (by omega), r5 hLM'.1 (by omega)]
      have hn : stA S L old (p + 1) = if S 5 p = 0 then bump (stA S L old p) p (old p * 60) else spA S L old p (stA S L old p) (S 0 0) := rfl
      rw [hn]
      by_cases e : S 5 p = 0
      · have hB2 : SH (sl m' 24 p (m'.2.1 24 p + 60 * m'.2.1 23 p)) 24 (bump (stA S L old p) p (old p * 60)) := SH_bump hB (by omega) _ (by rw [hB p (by omega), h23 p (by omega), l_60, lN_mul, lN_add, Nat.mul_comm])
        obtain ⟨m3, k1, k2, k3⟩ := inner _ _ (fo_tr hs (fo_sl 24 p _ m')) hB2
        rw [if_pos (by rw [e]; rfl), if_pos e, ga_n (by omega) (by omega), ga_n (by omega) (by omega), ga_n (by omega) (by omega), k1]
        rw [spA_none e] at k3
        exact ⟨_, rfl, m3, by rw [nI_succ p], k2, k3⟩
      · have h5 := Wf_5 hW (show p < 7 by omega)
        obtain ⟨m3, k1, k2, k3⟩ := inner m' _ hs hB
        rw [if_neg (nI_ne0 (by omega) (by omega)), if_neg e, k1]
        exact ⟨_, rfl, m3, by rw [nI_succ p], k2, k3⟩)
    (by
      rintro s ⟨m', rfl, hs, hB⟩
      unfold Mo_goStep_l23
      dsimp only
      rw [r0 (LM_1 hLM hs.1).1, if_pos (by rw [n_le (by omega) (by omega)]; omega)]
      exact ⟨_, rfl, hs, hB⟩) 0 (0, m1) (by omega) ⟨m1, rfl, a2, a3⟩
  rw [c1]
  simp only [Option.bind_some]
  obtain ⟨m3, d1, d2, d3⟩ := iter_for (step := Mo_goStep_l146) (fun k s => ∃ m', s = (nI k, m') ∧ fo 23 m2 m' ∧ ∀ i, i < k → m'.2.1 23 i = lN (stA S L old (S 0 0) i)) 7 (fun m' => fo 23 m2 m' ∧ SH m' 23 (stA S L old (S 0 0)))
    (by
      rintro k s hk ⟨m', rfl, hs, hz⟩
      unfold Mo_goStep_l146
      dsimp only
      rw [i_7, if_neg (by rw [n_le (by omega) (by omega)]; omega), ga_n (by omega) (by omega), ga_n (by omega) (by omega), n_cl (by omega)]
      refine ⟨_, rfl, _, by rw [nI_succ], fo_tr hs (fo_sl _ _ _ _), fun i hi => ?_⟩
      rw [sl_l]
      by_cases e : i = k
      · rw [if_pos ⟨rfl, e⟩, e, hs.2 24 k (by decide)]
        exact c3 k hk
      · rw [if_neg (fun q => e q.2)]
        exact hz i (by omega))
    (by
      rintro s ⟨m', rfl, hs, hz⟩
      unfold Mo_goStep_l146
      dsimp only
      rw [i_7, if_pos (by rw [n_le (by omega) (by omega)]; omega)]
      exact ⟨_, rfl, hs, fun i hi => hz i hi⟩) 0 (0, m2) (by omega) ⟨m2, rfl, fo_rf _ _, fun i hi => absurd hi (Nat.not_lt_zero i)⟩
  rw [d1]
  exact ⟨m3, rfl, d2.1.trans c2.1, fun k i q q2 => (d2.2 k i q).trans (c2.2 k i q2), d3⟩
theorem odds_m {m : Mm} {S : Sn} {L : List Cl} {f n : Nat} (hLM : LM m S L none) (hW : Wf S) (hL : WL L) (hf : f < S 0 0) (hn : n ≤ 6) : ∃ m1 m', iter (Mo_odds_l42 (nI f)) (0, m) = some m1 ∧ iter (Mo_odds_l79 (nI n)) (1, 0, m1) = some (lN (60 ^ n), m') ∧ m'.1 = m.1 ∧ (∀ k i, k ≠ 23 → k ≠ 24 → m'.2.1 k i = m.2.1 k i) ∧ SH m' 23 (shN S L f n) := by
  have b0 := Wf_0 hW
  obtain ⟨m1, a1, a2, a3⟩ := iter_for (step := Mo_odds_l42 (nI f)) (fun k s => ∃ m', s = (nI k, m') ∧ fo 23 m m' ∧ ∀ i, i < k → m'.2.1 23 i = lN (shN S L f 0 i)) 7 (fun m' => fo 23 m m' ∧ SH m' 23 (shN S L f 0))
    (by
      rintro k s hk ⟨m', rfl, hs, hz⟩
      unfold Mo_odds_l42
      dsimp only
      rw [i_7, if_neg (by rw [n_le (by omega) (by omega)]; omega)]
      simp (disch := omega) only [ga_n, n_cl, n_eq]
      by_cases e : k = f
      · rw [if_pos e]
        refine ⟨_, rfl, _, by rw [nI_succ], fo_tr hs (fo_sl _ _ _ _), fun i hi => ?_⟩
        rw [sl_l]
        by_cases e2 : i = k
        · rw [if_pos ⟨rfl, e2⟩]
          show _ = lN (if i = f then 1 else 0)
          rw [if_pos (e2.trans e)]
          rfl
        · rw [if_neg (fun q => e2 q.2)]
          exact hz i (by omega)
      · rw [if_neg e]
        refine ⟨_, rfl, _, by rw [nI_succ], fo_tr hs (fo_sl _ _ _ _), fun i hi => ?_⟩
        rw [sl_l]
        by_cases e2 : i = k
        · rw [if_pos ⟨rfl, e2⟩]
          show _ = lN (if i = f then 1 else 0)
          rw [if_neg (fun q => e (e2.symm.trans q))]
          rfl
        · rw [if_neg (fun q => e2 q.2)]
          exact hz i (by omega))
    (by
      rintro s ⟨m', rfl, hs, hz⟩
      unfold Mo_odds_l42
      dsimp only
      rw [i_7, if_pos (by rw [n_le (by omega) (by omega)]; omega)]
      exact ⟨_, rfl, hs, fun i hi => hz i hi⟩) 0 (0, m) (by omega) ⟨m, rfl, fo_rf _ _, fun i hi => absurd hi (Nat.not_lt_zero i)⟩
  obtain ⟨r, c1, c2⟩ := iter_for (step := Mo_odds_l79 (nI n)) (fun k s => ∃ m', s = (lN (60 ^ k), nI k, m') ∧ m'.1 = m.1 ∧ (∀ k i, k ≠ 23 → k ≠ 24 → m'.2.1 k i = m.2.1 k i) ∧ SH m' 23 (shN S L f k)) n (fun r => ∃ m', r = (lN (60 ^ n), m') ∧ m'.1 = m.1 ∧ (∀ k i, k ≠ 23 → k ≠ 24 → m'.2.1 k i = m.2.1 k i) ∧ SH m' 23 (shN S L f n))
    (by
      rintro k s hk ⟨m', rfl, e1, e2, hA⟩
      obtain ⟨m2, k1, k2, k3, k4⟩ := goStep_m (LM_1 hLM e1) hW hL hA
      unfold Mo_odds_l79
      dsimp only
      rw [if_neg (by rw [n_le (by omega) (by omega)]; omega), k1]
      exact ⟨_, rfl, m2, by rw [l_60, lN_mul, nI_succ, ← Nat.pow_succ], k2.trans e1, fun k i q q2 => (k3 k i q q2).trans (e2 k i q q2), k4⟩)
    (by
      rintro s ⟨m', rfl, e1, e2, hA⟩
      unfold Mo_odds_l79
      dsimp only
      rw [if_pos (by rw [n_le (by omega) (by omega)]; omega)]
      exact ⟨_, rfl, m', rfl, e1, e2, hA⟩) 0 (1, 0, m1) (by omega) ⟨m1, rfl, a2.1, fun k i q q2 => a2.2 k i q, a3⟩
  obtain ⟨m', rfl, e1, e2, hA⟩ := c2
  exact ⟨m1, m', a1, c1, e1, e2, hA⟩
theorem below_c {n : Nat} (hn : n ≤ 6) : iter (NB_odds_l62 (nI n)) (1, 0) = some (lN (60 ^ n)) := by
  have h1 := iter_all (step := NB_odds_l62 (nI n)) (fun k => (lN (60 ^ k), nI k)) n (r := lN (60 ^ n))
    (fun k hk => by
      unfold NB_odds_l62
      dsimp only
      rw [if_neg (by rw [n_le (by omega) (by omega)]; omega), l_60, lN_mul, ← nI_succ, ← Nat.pow_succ])
    (by
      unfold NB_odds_l62
      dsimp only
      rw [if_pos (by rw [n_le (by omega) (by omega)]; omega)])
  exact h1
theorem H24 : lwH24 Inv := by
  intro m1 m2 a1 a2 a3 a4 hI
  obtain ⟨S, ld, it, hC, hM, hW, hL⟩ := id hI
  have b0 := Wf_0 hW
  have hLL := hold_WL hW hL
  unfold NB_odds Mo_odds
  rw [Wo_has_eq (cF0 hC.1) (by omega), Wo_has_eq (cF0 hC.1) (by omega), Mo_arePlaces_eq (rF0 hM.1) (by omega), part_c, in1, in6]
  cases e1 : inR a1 (S 0 0) with
  | false => exact ⟨_, m1, m2, rfl, rfl, hI⟩
  | true =>
  cases e2 : inR a2 (S 0 0) with
  | false => exact ⟨_, m1, m2, rfl, rfl, hI⟩
  | true =>
  obtain ⟨f, hf, rfl⟩ := inR_ex e1 (by omega)
  obtain ⟨t, ht, rfl⟩ := inR_ex e2 (by omega)
  simp only [Bool.and_self, ↓reduceIte]
  rcases arg3 a3 7 (by omega) with ⟨g1, h2⟩ | ⟨g1, h2, h3⟩ | ⟨n, g1, rfl, h3⟩
  · exact ⟨_, m1, m2, by rw [if_pos g1], by rw [h2]; rfl, hI⟩
  · exact ⟨_, m1, m2, by rw [if_neg h2, if_pos (show (6 : Int32) < a3 from n_gt (k := 6) g1 (by decide))], by rw [h3]; rfl, hI⟩
  rw [if_neg (nI_pos (by omega)), i_6, if_neg (by rw [n_lt (by omega) (by omega)]; omega), h3, if_pos rfl]
  cases e4 : inR a4 2 with
  | false => exact ⟨_, m1, m2, rfl, rfl, hI⟩
  | true =>
  obtain ⟨m1', x1, x2, x3, x4⟩ := look_0 hC hW hL
  obtain ⟨m2', y1, y2, y3⟩ := lay_0 hM hW hL
  obtain ⟨m1'', u1, u2⟩ := shares_c (n := n) x4 x3 hW hLL hf ht (by omega)
  obtain ⟨m2a, m2'', v1, v2, v3, v4, v5⟩ := odds_m (n := n) y3 hW hLL hf (by omega)
  have hle := shN_le (S := S) (L := holdL S ld) (f := f) hW n t
  have hp1 : 420 ^ n ≤ 420 ^ 6 := Nat.pow_le_pow_right (by omega) (by omega)
  have hp2 : 60 ^ n ≤ 60 ^ 6 := Nat.pow_le_pow_right (by omega) (by omega)
  have hp3 : 0 < 60 ^ n := Nat.pow_pos (by omega)
  simp only [↓reduceIte]
  rw [x1, y1]
  simp only [Option.bind_some]
  rw [u1, v1, below_c (by omega)]
  simp only [Option.bind_some]
  rw [v2]
  simp only [Option.bind_some]
  rw [ga_n (by omega) (by omega), n_cl (by omega), v5 t (by omega)]
  obtain ⟨r, k1, k2⟩ := low_cm (a := shN S (holdL S ld) f n t) (b := 60 ^ n) (by omega) (by omega) hp3 a4
  rw [k1, k2]
  refine ⟨_, _, _, rfl, rfl, inv_same hC hM hW hL ((fr_SC x2).tr ⟨fun k i q => by rw [u2.1], fun k i q => u2.2 k i (by omega) (by omega)⟩) ((fr_SM y2).tr ⟨fun k i q => by rw [v3], fun k i q => v4 k i (by omega) (by omega)⟩)⟩
