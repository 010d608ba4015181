-- ===== journeys =====
def faM (m : Mm) (fa : Fa) (n : Nat) : Prop := match fa with
  | none => m.1 0 32 = -1 ∧ m.1 0 33 = -1
  | some (a, b, c) => m.1 0 32 = nI a ∧ m.1 0 33 = nI b ∧ c = (if (b + 1) % n = a then ((b + 1) % n + 1) % n else (b + 1) % n)
theorem turnedTo_m {m : Mm} {S : Sn} {a b c : Nat} (hw : WM m S) (hW : Wf S) (hn : 0 < S 0 0) (hb : b < S 0 0) (ha : a < S 0 0) (hF : faM m (some (a, b, c)) (S 0 0)) : Mo_turnedTo m = some (nI c) := by
  have b0 := Wf_0 hW
  have hm1 := Nat.mod_lt (b + 1) (show S 0 0 > 0 by omega)
  have hm2 := Nat.mod_lt ((b + 1) % S 0 0 + 1) (show S 0 0 > 0 by omega)
  obtain ⟨h1, h2, h3⟩ := hF
  unfold Mo_turnedTo
  rw [r0 hw, h1, h2, i_1, n_add, pk_rem (by omega) (by omega) (by omega), n_add, pk_rem (by omega) (by omega) (by omega)]
  unfold gz
  rw [if_neg (nI_ne0 (by omega) (by omega)), if_neg (nI_ne0 (by omega) (by omega)), h3]
  simp (disch := omega) only [n_eq]
  split <;> rfl
theorem next_m {m : Mm} {S : Sn} {L : List Cl} {fa : Fa} (hw : WM m S) (hJ : JM m S L) (hW : Wf S) (hL : WL L) (hB : faB fa (S 0 0)) (hF : faM m fa (S 0 0)) {p t : Nat} (hp : p < S 0 0) (ht : t < S 0 0) (hne : p ≠ t) : Mo_nextOf m (nI p) (nI t) = some (oI (-5) (STo S L fa p t)) := by
  have b0 := Wf_0 hW
  unfold Mo_nextOf STo
  rw [goal_m hw hJ hW hL hp ht, if_neg hne]
  simp only [Option.bind_some]
  match hA : AIM S L p t with
  | none => rfl
  | some g =>
    have hg := AIM_lt ht hA
    rw [show oI (-5) (some g) = nI g from rfl, if_pos (nI_pos' (by omega)), toward_m hw hJ hW hL hp hg]
    match fa, hB, hF with
    | none, _, hF =>
      rw [hF.1, if_neg (cne1 (by omega))]
      rfl
    | some (a, b, c), hB, hF =>
      obtain ⟨ha, hb, hc⟩ := hB
      rw [turnedTo_m hw hW (by omega) hb ha hF, hF.1, hF.2.1]
      simp (disch := omega) only [n_eq, Option.bind_some]
      rw [toward_m hw hJ hW hL hp hc]
      simp only [Option.bind_some]
      show _ = some (oI (-5) (TWo S L p (if p = a ∧ g = b then c else g)))
      by_cases e1 : p = a
      · rw [if_pos e1]
        by_cases e2 : g = b
        · rw [if_pos e2, if_pos ⟨e1, e2⟩]
        · rw [if_neg e2, if_neg (fun q => e2 q.2)]
      · rw [if_neg e1, if_neg (fun q => e1 q.1)]
def wkF (S : Sn) (L : List Cl) (fa : Fa) (t : Nat) : Nat → Nat → Nat → Nat → Nat × Nat × Nat
  | 0, a, r, l => (a, r, l)
  | d + 1, a, r, l => if a = t then (a, r, l) else match STo S L fa a t with
    | none => (a, r, l)
    | some b => wkF S L fa t d b (r + 1) (l + LG S L a b)
def WK (S : Sn) (L : List Cl) (fa : Fa) (f t : Nat) : Nat × Nat × Nat := wkF S L fa t 20 f 0 0
theorem WK_self {S : Sn} {L : List Cl} {fa : Fa} {f : Nat} : WK S L fa f f = (f, 0, 0) := by
  show (if f = f then (f, 0, 0) else _) = _
  rw [if_pos rfl]
theorem wkF_bd {S : Sn} {L : List Cl} {fa : Fa} {t : Nat} (hW : Wf S) (hL : WL L) : ∀ d a r l, a < S 0 0 → (wkF S L fa t d a r l).1 < S 0 0 ∧ (wkF S L fa t d a r l).2.1 ≤ r + d ∧ (wkF S L fa t d a r l).2.2 ≤ l + 1089 * d
  | 0, a, r, l, ha => ⟨ha, Nat.le_refl _, Nat.le_refl _⟩
  | d + 1, a, r, l, ha => by
    have b0 := Wf_0 hW
    unfold wkF
    split
    · exact ⟨ha, by show r ≤ r + (d + 1); omega, by show l ≤ l + 1089 * (d + 1); omega⟩
    · match hh : STo S L fa a t with
      | none => exact ⟨ha, by show r ≤ r + (d + 1); omega, by show l ≤ l + 1089 * (d + 1); omega⟩
      | some b =>
        have hb := STo_lt hh
        have h1 := wkF_bd hW hL (t := t) (fa := fa) d b (r + 1) (l + LG S L a b) hb
        have h2 := LG_le hW hL (show a < 7 by omega) (show b < 7 by omega)
        dsimp only
        omega
theorem WK_bd {S : Sn} {L : List Cl} {fa : Fa} {f t : Nat} (hW : Wf S) (hL : WL L) (hf : f < S 0 0) : (WK S L fa f t).1 < S 0 0 ∧ (WK S L fa f t).2.1 ≤ 20 ∧ (WK S L fa f t).2.2 ≤ 21780 := by
  have h := wkF_bd (fa := fa) (t := t) hW hL 20 f 0 0 hf
  exact ⟨h.1, by have := h.2.1; unfold WK; omega, by have := h.2.2; unfold WK; omega⟩
theorem JC_keep {m m' : Mm} {S : Sn} {L : List Cl} {fa : Fa} (h : JC m S L fa) (hk : ∀ k i, 2 ≤ k → k ≤ 8 → m'.1 k i = m.1 k i) : JC m' S L fa := by
  obtain ⟨h1, h2, h3⟩ := h
  exact ⟨JW_keep h1 (fun k i a => hk k i (by omega) (by omega)), fun a b ha hb => (hk 7 _ (by omega) (by omega)).trans (h2 a b ha hb), fun a b ha hb => (hk 8 _ (by omega) (by omega)).trans (h3 a b ha hb)⟩
theorem JC_W {m m' : Mm} {S : Sn} {L : List Cl} {fa : Fa} (h : JC m S L fa) (hs : fr pW m m') : JC m' S L fa := JC_keep h (fun k i a b => hs.1 k i (by unfold pW; omega))
theorem jc8 {m : Mm} {S : Sn} {L : List Cl} {fa : Fa} (h : JC m S L fa) {p o : Nat} (hp : p < S 0 0) (ho : o < S 0 0) : m.1 8 (7 * p + o) = oI (-5) (STo S L fa p o) := h.2.2 p o hp ho
theorem jc7 {m : Mm} {S : Sn} {L : List Cl} {fa : Fa} (h : JC m S L fa) {p o : Nat} (hp : p < S 0 0) (ho : o < S 0 0) : m.1 7 (7 * p + o) = oI (-5) (TWo S L p o) := h.2.1 p o hp ho
theorem m5 : ¬ (0 : Int32) ≤ -5 := by decide
theorem walkF_c {S : Sn} {L : List Cl} {fa : Fa} (hW : Wf S) (hL : WL L) {t : Nat} (ht : t < S 0 0) : ∀ d a r l (m : Mm), r + d = 20 → a < S 0 0 → JC m S L fa → m.1 1 13 = nI r → m.1 1 14 = nI l → l + 1089 * d ≤ 21780 → ∃ m', (iter (Jo_walk_l15 (nI t)) (nI a, nI r, m)).bind (Sum.elim (fun e2 => some (e2.1, e2.2)) (fun v8 => some v8)) = some (nI (wkF S L fa t d a r l).1, m') ∧ fr pW m m' ∧ m'.1 1 13 = nI (wkF S L fa t d a r l).2.1 ∧ m'.1 1 14 = nI (wkF S L fa t d a r l).2.2 := by
  have b0 := Wf_0 hW
  intro d
  induction d with
  | zero =>
    intro a r l m hr ha hJ h13 h14 hl
    refine ⟨m, ?_, fr_rf _ _, h13, h14⟩
    rw [iter_inr (r := .inl (nI a, m))]
    · rfl
    · unfold Jo_walk_l15
      dsimp only
      rw [i_20, if_pos (by rw [n_le (by omega) (by omega)]; omega)]
  | succ d ih =>
    intro a r l m hr ha hJ h13 h14 hl
    have hstep : Jo_walk_l15 (nI t) (nI a, nI r, m) = (if a = t then some (.inr (.inl (nI a, m))) else if 0 ≤ oI (-5) (STo S L fa a t) then (ga (NB_index (nI a) (oI (-5) (STo S L fa a t))) 49 (some (.inl (oI (-5) (STo S L fa a t), nI (r + 1), si (si m 1 13 (nI (r + 1))) 1 14 (nI l + m.1 5 (NB_index (nI a) (oI (-5) (STo S L fa a t))).toNatClampNeg))))) else some (.inr (.inr (nI a, m)))) := by
      unfold Jo_walk_l15
      dsimp only
      rw [i_20, if_neg (by rw [n_le (by omega) (by omega)]; omega), NB_index_n (7 * a + t) (by omega)]
      simp (disch := omega) only [n_eq, ga_n, n_cl, si_ne, si_nj]
      rw [jc8 hJ ha ht, h13, h14, nI_succ r]
    by_cases e : a = t
    · have hwk : wkF S L fa t (d + 1) a r l = (a, r, l) := by
        unfold wkF
        rw [if_pos e]
      rw [hwk]
      refine ⟨m, ?_, fr_rf _ _, h13, h14⟩
      rw [iter_inr (r := .inl (nI a, m))]
      · rfl
      · rw [hstep, if_pos e]
    · match hh : STo S L fa a t with
      | none =>
        have hwk : wkF S L fa t (d + 1) a r l = (a, r, l) := by
          unfold wkF
          rw [if_neg e, hh]
        rw [hwk]
        refine ⟨m, ?_, fr_rf _ _, h13, h14⟩
        rw [iter_inr (r := .inr (nI a, m))]
        · rfl
        · rw [hstep, if_neg e, hh, show oI (-5) none = -5 from rfl, if_neg m5]
      | some b =>
        have hb := STo_lt hh
        have hlg := LG_le hW hL (show a < 7 by omega) (show b < 7 by omega)
        have hwk : wkF S L fa t (d + 1) a r l = wkF S L fa t d b (r + 1) (l + LG S L a b) := by
          show (if a = t then (a, r, l) else _) = _
          rw [if_neg e, hh]
        rw [hwk]
        have s2 : fr pW m (si (si m 1 13 (nI (r + 1))) 1 14 (nI (l + LG S L a b))) := fr_si _ (fr_si _ (fr_rf _ _) (by unfold pW; omega)) (by unfold pW; omega)
        obtain ⟨m', g1, g2, g3, g4⟩ := ih b (r + 1) (l + LG S L a b) (si (si m 1 13 (nI (r + 1))) 1 14 (nI (l + LG S L a b))) (by omega) hb (JC_W hJ s2) (by rw [si_nj (by omega), si_e rfl rfl]) (si_e rfl rfl) (by omega)
        refine ⟨m', ?_, fr_tr s2 g2, g3, g4⟩
        rw [iter_inl, g1]
        rw [hstep, if_neg e, hh, show oI (-5) (some b) = nI b from rfl, if_pos (nI_pos' (by omega)), NB_index_n (7 * a + b) (by omega), ga_n (by omega) (by omega), n_cl (by omega), jw5 hJ.1 ha hb, n_add]
theorem walk_c {m : Mm} {S : Sn} {L : List Cl} {fa : Fa} (hJ : JC m S L fa) (hW : Wf S) (hL : WL L) {f t : Nat} (hf : f < S 0 0) (ht : t < S 0 0) : ∃ m', Jo_walk m (nI f) (nI t) = some (nI (WK S L fa f t).1, m') ∧ fr pW m m' ∧ m'.1 1 13 = nI (WK S L fa f t).2.1 ∧ m'.1 1 14 = nI (WK S L fa f t).2.2 := by
  have s2 : fr pW m (si (si m 1 13 0) 1 14 0) := fr_si _ (fr_si _ (fr_rf _ _) (by unfold pW; omega)) (by unfold pW; omega)
  obtain ⟨m', g1, g2, g3, g4⟩ := walkF_c (fa := fa) hW hL ht 20 f 0 0 (si (si m 1 13 0) 1 14 0) (by omega) hf (JC_W hJ s2) (by rw [si_nj (by omega), si_e rfl rfl]; rfl) (si_e rfl rfl) (by omega)
  exact ⟨m', g1, fr_tr s2 g2, g3, g4⟩
/-- the reference, laid -/
def LM (m : Mm) (S : Sn) (L : List Cl) (fa : Fa) : Prop := WM m S ∧ JM m S L ∧ faM m fa (S 0 0)
theorem LM_G {m m' : Mm} {S : Sn} {L : List Cl} {fa : Fa} (h : LM m S L fa) (hs : fr pG m m') : LM m' S L fa := by
  obtain ⟨h1, h2, h3⟩ := h
  refine ⟨WM_G h1 hs, JM_keep h2 (fun k i a b => hs.1 k i (by unfold pG; omega)), ?_⟩
  unfold faM at h3 ⊢
  rw [hs.1 0 32 (by unfold pG; omega), hs.1 0 33 (by unfold pG; omega)]
  exact h3
theorem goesF_m {S : Sn} {L : List Cl} {fa : Fa} (hW : Wf S) (hL : WL L) (hB : faB fa (S 0 0)) {t : Nat} (ht : t < S 0 0) : ∀ d a r l (m : Mm), r + d = 20 → a < S 0 0 → LM m S L fa → m.1 0 36 = nI a → m.1 0 35 = nI r → m.1 0 34 = nI l → l + 1089 * d ≤ 21780 → ∃ m', (iter (Mo_goes_l15 (nI t)) m).bind (Sum.elim (fun e2 => if (e2.1 0 36) = nI t then (some (true, e2)) else (some (false, e2))) (fun v9 => some v9)) = some (decide ((wkF S L fa t d a r l).1 = t), m') ∧ fr pG m m' ∧ m'.1 0 36 = nI (wkF S L fa t d a r l).1 ∧ m'.1 0 35 = nI (wkF S L fa t d a r l).2.1 ∧ m'.1 0 34 = nI (wkF S L fa t d a r l).2.2 := by
  have b0 := Wf_0 hW
  intro d
  induction d with
  | zero =>
    intro a r l m hr ha hJ h36 h35 h34 hl
    refine ⟨m, ?_, fr_rf _ _, h36, h35, h34⟩
    rw [iter_inr (r := .inl m)]
    · simp only [Option.bind_some, Sum.elim_inl]
      rw [h36]
      show _ = some (decide (a = t), m)
      by_cases e : a = t
      · rw [if_pos (by rw [e]), decide_eq_true e]
      · rw [if_neg (by rw [n_eq (by omega) (by omega)]; exact e), decide_eq_false e]
    · unfold Mo_goes_l15
      rw [h36, h35]
      by_cases e : a = t
      · rw [if_pos (by rw [e])]
      · rw [if_neg (by rw [n_eq (by omega) (by omega)]; exact e), i_20, if_pos (by rw [n_le (by omega) (by omega)]; omega)]
  | succ d ih =>
    intro a r l m hr ha hJ h36 h35 h34 hl
    by_cases e : a = t
    · have hwk : wkF S L fa t (d + 1) a r l = (a, r, l) := by
        unfold wkF
        rw [if_pos e]
      rw [hwk]
      refine ⟨m, ?_, fr_rf _ _, h36, h35, h34⟩
      rw [iter_inr (r := .inl m)]
      · simp only [Option.bind_some, Sum.elim_inl]
        rw [h36, if_pos (by rw [e])]
        show _ = some (decide (a = t), m)
        rw [decide_eq_true e]
      · unfold Mo_goes_l15
        rw [h36, if_pos (by rw [e])]
    · have hstep : Mo_goes_l15 (nI t) m = (if 0 ≤ oI (-5) (STo S L fa a t) then (ga ((7 * nI a) + oI (-5) (STo S L fa a t)) 49 (some (.inl (si (si (si m 0 34 (nI l + m.1 19 ((7 * nI a) + oI (-5) (STo S L fa a t)).toNatClampNeg)) 0 35 (nI (r + 1))) 0 36 (oI (-5) (STo S L fa a t)))))) else some (.inr (.inr (false, m)))) := by
        unfold Mo_goes_l15
        rw [h36, if_neg (by rw [n_eq (by omega) (by omega)]; exact e), h35, i_20, if_neg (by rw [n_le (by omega) (by omega)]; omega), next_m hJ.1 hJ.2.1 hW hL hB hJ.2.2 ha ht e]
        simp (disch := omega) only [Option.bind_some, si_nj]
        rw [h35, h34, nI_succ r]
      match hh : STo S L fa a t with
      | none =>
        have hwk : wkF S L fa t (d + 1) a r l = (a, r, l) := by
          unfold wkF
          rw [if_neg e, hh]
        rw [hwk]
        refine ⟨m, ?_, fr_rf _ _, h36, h35, h34⟩
        rw [iter_inr (r := .inr (false, m))]
        · show some (false, m) = some (decide (a = t), m)
          rw [decide_eq_false e]
        · rw [hstep, hh, show oI (-5) none = -5 from rfl, if_neg m5]
      | some b =>
        have hb := STo_lt hh
        have hlg := LG_le hW hL (show a < 7 by omega) (show b < 7 by omega)
        have hwk : wkF S L fa t (d + 1) a r l = wkF S L fa t d b (r + 1) (l + LG S L a b) := by
          show (if a = t then (a, r, l) else _) = _
          rw [if_neg e, hh]
        rw [hwk]
        have s2 : fr pG m (si (si (si m 0 34 (nI (l + LG S L a b))) 0 35 (nI (r + 1))) 0 36 (nI b)) := fr_si _ (fr_si _ (fr_si _ (fr_rf _ _) (by unfold pG; omega)) (by unfold pG; omega)) (by unfold pG; omega)
        obtain ⟨m', g1, g2, g3, g4, g5⟩ := ih b (r + 1) (l + LG S L a b) (si (si (si m 0 34 (nI (l + LG S L a b))) 0 35 (nI (r + 1))) 0 36 (nI b)) (by omega) hb (LM_G hJ s2) (si_e rfl rfl) (by rw [si_nj (by omega), si_e rfl rfl]) (by rw [si_nj (by omega), si_nj (by omega), si_e rfl rfl]) (by omega)
        refine ⟨m', ?_, fr_tr s2 g2, g3, g4, g5⟩
        rw [iter_inl, g1]
        rw [hstep, hh, show oI (-5) (some b) = nI b from rfl, if_pos (nI_pos' (by omega)), i_7, n_mul, n_add, ga_n (by omega) (by omega), n_cl (by omega), jm19 hJ.2.1 ha hb, n_add]
theorem goes_m {m : Mm} {S : Sn} {L : List Cl} {fa : Fa} (hJ : LM m S L fa) (hW : Wf S) (hL : WL L) (hB : faB fa (S 0 0)) {f t : Nat} (hf : f < S 0 0) (ht : t < S 0 0) : ∃ m', Mo_goes m (nI f) (nI t) = some (decide ((WK S L fa f t).1 = t), m') ∧ fr pG m m' ∧ m'.1 0 36 = nI (WK S L fa f t).1 ∧ m'.1 0 35 = nI (WK S L fa f t).2.1 ∧ m'.1 0 34 = nI (WK S L fa f t).2.2 := by
  have s2 : fr pG m (si (si (si m 0 34 0) 0 35 0) 0 36 (nI f)) := fr_si _ (fr_si _ (fr_si _ (fr_rf _ _) (by unfold pG; omega)) (by unfold pG; omega)) (by unfold pG; omega)
  obtain ⟨m', g1, g2, g3, g4, g5⟩ := goesF_m hW hL hB ht 20 f 0 0 (si (si (si m 0 34 0) 0 35 0) 0 36 (nI f)) (by omega) hf (LM_G hJ s2) (si_e rfl rfl) (by rw [si_nj (by omega), si_e rfl rfl]; rfl) (by rw [si_nj (by omega), si_nj (by omega), si_e rfl rfl]; rfl) (by omega)
  exact ⟨m', g1, fr_tr s2 g2, g3, g4, g5⟩
