-- ===== frames, worlds =====
def fr (P : Nat → Nat → Prop) (m m' : Mm) : Prop := (∀ k i, ¬ P k i → m'.1 k i = m.1 k i) ∧ ∀ k i, m'.2.1 k i = m.2.1 k i
theorem fr_rf (P : Nat → Nat → Prop) (m : Mm) : fr P m m := ⟨fun _ _ _ => rfl, fun _ _ => rfl⟩
theorem fr_tr {P : Nat → Nat → Prop} {a b c : Mm} (h : fr P a b) (g : fr P b c) : fr P a c := ⟨fun k i q => (g.1 k i q).trans (h.1 k i q), fun k i => (g.2 k i).trans (h.2 k i)⟩
theorem fr_mono {P Q : Nat → Nat → Prop} {a b : Mm} (h : fr P a b) (hPQ : ∀ k i, P k i → Q k i) : fr Q a b := ⟨fun k i q => h.1 k i (fun p => q (hPQ k i p)), h.2⟩
theorem fr_si {P : Nat → Nat → Prop} {a m : Mm} {k i : Nat} (x : Int32) (h : fr P a m) (hP : P k i) : fr P a (si m k i x) := by
  refine ⟨fun k' i' q => ?_, fun k' i' => ?_⟩
  · rw [si_r]
    by_cases e : k' = k ∧ i' = i
    · rw [e.1, e.2] at q
      exact absurd hP q
    · rw [if_neg e]
      exact h.1 k' i' q
  · rw [si_l]
    exact h.2 k' i'
def pL (k _i : Nat) : Prop := 2 ≤ k ∧ k ≤ 8
def pF (k _i : Nat) : Prop := k = 2
def pW (k i : Nat) : Prop := k = 1 ∧ (i = 13 ∨ i = 14)
def pH (k _i : Nat) : Prop := k = 18
def pS (k _i : Nat) : Prop := 18 ≤ k ∧ k ≤ 22
def pG (k i : Nat) : Prop := k = 0 ∧ (i = 34 ∨ i = 35 ∨ i = 36)
def WC (m : Mm) (S : Sn) : Prop := ∀ f i, f ≤ 12 → i < lenC f → m.1 (locC f i).1 (locC f i).2 = vS f (S f i)
def WM (m : Mm) (S : Sn) : Prop := ∀ f i, f ≤ 12 → i < lenM f → m.1 (locM f i).1 (locM f i).2 = vS f (S f i)
theorem WC_of {m : Mm} {S : Sn} (h : RelC m S) : WC m S := fun f i _ hi => h f i hi
theorem WM_of {m : Mm} {S : Sn} (h : RelM m S) : WM m S := fun f i _ hi => h f i hi
theorem locC_w (i : Nat) : ∀ f, f ≤ 12 → 11 ≤ (locC f i).1 ∧ (locC f i).1 ≤ 20
  | 0, _ => by show 11 ≤ 11 ∧ 11 ≤ 20; omega
  | 1, _ => by show 11 ≤ 12 ∧ 12 ≤ 20; omega
  | 2, _ => by show 11 ≤ 13 ∧ 13 ≤ 20; omega
  | 3, _ => by show 11 ≤ 14 ∧ 14 ≤ 20; omega
  | 4, _ => by show 11 ≤ 15 ∧ 15 ≤ 20; omega
  | 5, _ => by show 11 ≤ 16 ∧ 16 ≤ 20; omega
  | 6, _ => by show 11 ≤ 11 ∧ 11 ≤ 20; omega
  | 7, _ => by show 11 ≤ 17 ∧ 17 ≤ 20; omega
  | 8, _ => by show 11 ≤ 18 ∧ 18 ≤ 20; omega
  | 9, _ => by show 11 ≤ 19 ∧ 19 ≤ 20; omega
  | 10, _ => by show 11 ≤ 11 ∧ 11 ≤ 20; omega
  | 11, _ => by show 11 ≤ 20 ∧ 20 ≤ 20; omega
  | 12, _ => by show 11 ≤ 11 ∧ 11 ≤ 20; omega
  | f + 13, h => by omega
theorem locM_w (i : Nat) : ∀ f, f ≤ 12 → i < lenM f → ((locM f i).1 ≤ 8 ∨ (locM f i).1 = 25) ∧ ((locM f i).1 = 0 → (locM f i).2 ≤ 11 ∨ (locM f i).2 = 39)
  | 0, _, _ => by show (0 ≤ 8 ∨ 0 = 25) ∧ (0 = 0 → 0 ≤ 11 ∨ 0 = 39); omega
  | 1, _, _ => by show (1 ≤ 8 ∨ 1 = 25) ∧ (1 = 0 → i ≤ 11 ∨ i = 39); omega
  | 2, _, _ => by show (2 ≤ 8 ∨ 2 = 25) ∧ (2 = 0 → i ≤ 11 ∨ i = 39); omega
  | 3, _, _ => by show (3 ≤ 8 ∨ 3 = 25) ∧ (3 = 0 → i ≤ 11 ∨ i = 39); omega
  | 4, _, _ => by show (5 ≤ 8 ∨ 5 = 25) ∧ (5 = 0 → i ≤ 11 ∨ i = 39); omega
  | 5, _, _ => by show (4 ≤ 8 ∨ 4 = 25) ∧ (4 = 0 → i ≤ 11 ∨ i = 39); omega
  | 6, _, _ => by show (0 ≤ 8 ∨ 0 = 25) ∧ (0 = 0 → 1 ≤ 11 ∨ 1 = 39); omega
  | 7, _, _ => by show (6 ≤ 8 ∨ 6 = 25) ∧ (6 = 0 → i ≤ 11 ∨ i = 39); omega
  | 8, _, _ => by show (7 ≤ 8 ∨ 7 = 25) ∧ (7 = 0 → i ≤ 11 ∨ i = 39); omega
  | 9, _, _ => by show (8 ≤ 8 ∨ 8 = 25) ∧ (8 = 0 → i ≤ 11 ∨ i = 39); omega
  | 10, _, _ => by show (0 ≤ 8 ∨ 0 = 25) ∧ (0 = 0 → 39 ≤ 11 ∨ 39 = 39); omega
  | 11, _, _ => by show (25 ≤ 8 ∨ 25 = 25) ∧ (25 = 0 → i ≤ 11 ∨ i = 39); omega
  | 12, _, _ => by show (0 ≤ 8 ∨ 0 = 25) ∧ (0 = 0 → 11 ≤ 11 ∨ 11 = 39); omega
  | f + 13, h, _ => by omega
theorem WC_keep {m m' : Mm} {S : Sn} (h : WC m S) (hk : ∀ k i, 11 ≤ k → k ≤ 20 → m'.1 k i = m.1 k i) : WC m' S := fun f i hf hi => (hk _ _ (locC_w i f hf).1 (locC_w i f hf).2).trans (h f i hf hi)
theorem WM_keep {m m' : Mm} {S : Sn} (h : WM m S) (hk : ∀ k i, (k ≤ 8 ∨ k = 25) → (k = 0 → i ≤ 11 ∨ i = 39) → m'.1 k i = m.1 k i) : WM m' S := fun f i hf hi => (hk _ _ (locM_w i f hf hi).1 (locM_w i f hf hi).2).trans (h f i hf hi)
theorem w0 {m : Mm} {S : Sn} (h : WC m S) : m.1 11 0 = nI (S 0 0) := h 0 0 (by decide) (by decide)
theorem w1 {m : Mm} {S : Sn} (h : WC m S) {i : Nat} (hi : i < 7) : m.1 (11 + 1) i = nI (S 1 i) := h 1 i (by decide) hi
theorem w2 {m : Mm} {S : Sn} (h : WC m S) {i : Nat} (hi : i < 7) : m.1 (11 + 2) i = nI (S 2 i) := h 2 i (by decide) hi
theorem w3 {m : Mm} {S : Sn} (h : WC m S) {i : Nat} (hi : i < 7) : m.1 (11 + 3) i = nI (S 3 i) := h 3 i (by decide) hi
theorem w4 {m : Mm} {S : Sn} (h : WC m S) {i : Nat} (hi : i < 49) : m.1 (11 + 4) i = nI (S 4 i) := h 4 i (by decide) hi
theorem w5 {m : Mm} {S : Sn} (h : WC m S) {i : Nat} (hi : i < 7) : m.1 (11 + 5) i = nI (S 5 i) := h 5 i (by decide) hi
theorem w6 {m : Mm} {S : Sn} (h : WC m S) : m.1 11 6 = nI (S 6 0) := h 6 0 (by decide) (by decide)
theorem w7 {m : Mm} {S : Sn} (h : WC m S) {i : Nat} (hi : i < 8) : m.1 (11 + 6) i = nI (S 7 i) := h 7 i (by decide) hi
theorem w8 {m : Mm} {S : Sn} (h : WC m S) {i : Nat} (hi : i < 8) : m.1 (11 + 7) i = nI (S 8 i) := h 8 i (by decide) hi
theorem w9 {m : Mm} {S : Sn} (h : WC m S) {i : Nat} (hi : i < 8) : m.1 (11 + 8) i = nI (S 9 i) := h 9 i (by decide) hi
theorem w10 {m : Mm} {S : Sn} (h : WC m S) : m.1 11 10 = nI (S 10 0) := h 10 0 (by decide) (by decide)
theorem w11 {m : Mm} {S : Sn} (h : WC m S) {i : Nat} (hi : i < 12) : m.1 (11 + 9) i = nI (S 11 i) := h 11 i (by decide) hi
theorem w12 {m : Mm} {S : Sn} (h : WC m S) : m.1 11 12 = nI (S 12 0) - 1 := h 12 0 (by decide) (by decide)
theorem r0 {m : Mm} {S : Sn} (h : WM m S) : m.1 0 0 = nI (S 0 0) := h 0 0 (by decide) (by decide)
theorem r1 {m : Mm} {S : Sn} (h : WM m S) {i : Nat} (hi : i < 7) : m.1 1 i = nI (S 1 i) := h 1 i (by decide) hi
theorem r2 {m : Mm} {S : Sn} (h : WM m S) {i : Nat} (hi : i < 7) : m.1 2 i = nI (S 2 i) := h 2 i (by decide) hi
theorem r3 {m : Mm} {S : Sn} (h : WM m S) {i : Nat} (hi : i < 7) : m.1 3 i = nI (S 3 i) := h 3 i (by decide) hi
theorem r4 {m : Mm} {S : Sn} (h : WM m S) {i : Nat} (hi : i < 49) : m.1 5 i = nI (S 4 i) := h 4 i (by decide) hi
theorem r5 {m : Mm} {S : Sn} (h : WM m S) {i : Nat} (hi : i < 7) : m.1 4 i = nI (S 5 i) := h 5 i (by decide) hi
theorem r6 {m : Mm} {S : Sn} (h : WM m S) : m.1 0 1 = nI (S 6 0) := h 6 0 (by decide) (by decide)
theorem r7 {m : Mm} {S : Sn} (h : WM m S) {i : Nat} (hi : i < 8) : m.1 6 i = nI (S 7 i) := h 7 i (by decide) hi
theorem r8 {m : Mm} {S : Sn} (h : WM m S) {i : Nat} (hi : i < 8) : m.1 7 i = nI (S 8 i) := h 8 i (by decide) hi
theorem r9 {m : Mm} {S : Sn} (h : WM m S) {i : Nat} (hi : i < 8) : m.1 8 i = nI (S 9 i) := h 9 i (by decide) hi
theorem r10 {m : Mm} {S : Sn} (h : WM m S) : m.1 0 39 = nI (S 10 0) := h 10 0 (by decide) (by decide)
theorem r11 {m : Mm} {S : Sn} (h : WM m S) {i : Nat} (hi : i < 12) : m.1 25 i = nI (S 11 i) := h 11 i (by decide) hi
theorem r12 {m : Mm} {S : Sn} (h : WM m S) : m.1 0 11 = nI (S 12 0) - 1 := h 12 0 (by decide) (by decide)
/-- the class: its world, and the land that holds -/
def KC (m : Mm) (S : Sn) (L : List Cl) : Prop := WC m S ∧ ∃ x, NB_holding m = some x ∧ isL x = true ∧ 31 ≤ x ∧ x ≤ 62 ∧ CL m x L
theorem KC_keep {m m' : Mm} {S : Sn} {L : List Cl} (h : KC m S L) (hk : ∀ k i, 11 ≤ k → k ≤ 66 → m'.1 k i = m.1 k i) : KC m' S L := by
  obtain ⟨h1, x, h2, h3, h4, h5, h6⟩ := h
  refine ⟨WC_keep h1 (fun k i a b => hk k i a (by omega)), x, ?_, h3, h4, h5, CL_keep h6 (fun k i a b => hk k i (by omega) (by omega))⟩
  unfold NB_holding at h2 ⊢
  rw [hk 11 12 (by omega) (by omega)]
  exact h2
theorem holdX_le {S : Sn} (hW : Wf S) : 31 ≤ holdX S ∧ holdX S ≤ 62 := by
  have h1 := Wf_12 hW
  have h2 := Wf_41 hW
  unfold holdX
  split <;> omega
theorem KC_of {m : Mm} {S : Sn} {ld : Nat → List Cl} {it : Nat → Nat → Int64} (h : StC m S ld it) (hW : Wf S) : KC m S (holdL S ld) := by
  obtain ⟨c1, c2, c3⟩ := hold_c h hW
  exact ⟨WC_of h.1, holdX S, c1, c3, (holdX_le hW).1, (holdX_le hW).2, c2⟩
theorem KC_L {m m' : Mm} {S : Sn} {L : List Cl} (h : KC m S L) (hs : fr pL m m') : KC m' S L := KC_keep h (fun k i a b => hs.1 k i (by unfold pL; omega))
theorem KC_W {m m' : Mm} {S : Sn} {L : List Cl} (h : KC m S L) (hs : fr pW m m') : KC m' S L := KC_keep h (fun k i a b => hs.1 k i (by unfold pW; omega))
theorem WC_L {m m' : Mm} {S : Sn} (h : WC m S) (hs : fr pL m m') : WC m' S := WC_keep h (fun k i a b => hs.1 k i (by unfold pL; omega))
theorem WC_W {m m' : Mm} {S : Sn} (h : WC m S) (hs : fr pW m m') : WC m' S := WC_keep h (fun k i a b => hs.1 k i (by unfold pW; omega))
/-- the reference: its world, and the land that holds -/
def KM (m : Mm) (S : Sn) (L : List Cl) : Prop := WM m S ∧ Mo_begin m = nI (10 * (S 12 0 - 1)) ∧ Mo_behind m = some (nI (10 * (S 12 0 - 1) + L.length)) ∧ (S 12 0 ≠ 0 → ML m (S 12 0 - 1) L) ∧ (S 12 0 = 0 → L = [])
theorem KM_keep {m m' : Mm} {S : Sn} {L : List Cl} (h : KM m S L) (hk : ∀ k i, k ≤ 15 ∨ k = 25 → (k = 0 → i ≤ 11 ∨ i = 39) → m'.1 k i = m.1 k i) : KM m' S L := by
  obtain ⟨h1, h2, h3, h4, h5⟩ := h
  refine ⟨WM_keep h1 (fun k i a b => hk k i (by omega) b), ?_, ?_, fun q => ML_keep (h4 q) (fun k i a b => hk k i (by omega) (by omega)), h5⟩
  · unfold Mo_begin at h2 ⊢
    rw [hk 0 11 (by omega) (by omega)]
    exact h2
  · unfold Mo_behind at h3 ⊢
    rw [hk 0 11 (by omega) (by omega), show m'.1 10 = m.1 10 from funext (fun i => hk 10 i (by omega) (by omega))]
    exact h3
theorem KM_of {m : Mm} {S : Sn} {ld : Nat → List Cl} {it : Nat → Nat → Int64} (h : StM m S ld it) (hW : Wf S) : KM m S (holdL S ld) := by
  obtain ⟨b1, b2, b3⟩ := beg_m h hW
  refine ⟨WM_of h.1, b1, b2, b3, fun q => ?_⟩
  unfold holdL
  rw [if_pos q]
theorem KM_S {m m' : Mm} {S : Sn} {L : List Cl} (h : KM m S L) (hs : fr pS m m') : KM m' S L := KM_keep h (fun k i a b => hs.1 k i (by unfold pS; omega))
theorem KM_H {m m' : Mm} {S : Sn} {L : List Cl} (h : KM m S L) (hs : fr pH m m') : KM m' S L := KM_keep h (fun k i a b => hs.1 k i (by unfold pH; omega))
theorem KM_G {m m' : Mm} {S : Sn} {L : List Cl} (h : KM m S L) (hs : fr pG m m') : KM m' S L := KM_keep h (fun k i a b => hs.1 k i (by unfold pG; omega))
theorem WM_S {m m' : Mm} {S : Sn} (h : WM m S) (hs : fr pS m m') : WM m' S := WM_keep h (fun k i a b => hs.1 k i (by unfold pS; omega))
theorem WM_G {m m' : Mm} {S : Sn} (h : WM m S) (hs : fr pG m m') : WM m' S := WM_keep h (fun k i a b => hs.1 k i (by unfold pG; omega))
theorem WM_H {m m' : Mm} {S : Sn} (h : WM m S) (hs : fr pH m m') : WM m' S := WM_keep h (fun k i a b => hs.1 k i (by unfold pH; omega))
theorem fr_SC {m m' : Mm} (h : fr pL m m') : sameC m m' := ⟨fun k i q => h.1 k i (fun p => q (by unfold pL at p; unfold scrC; omega)), fun k i _ => h.2 k i⟩
theorem fr_WC {m m' : Mm} (h : fr pW m m') : sameC m m' := ⟨fun k i q => h.1 k i (fun p => q (by unfold pW at p; unfold scrC; omega)), fun k i _ => h.2 k i⟩
theorem fr_SM {m m' : Mm} (h : fr pS m m') : sameM m m' := ⟨fun k i q => h.1 k i (fun p => q (by unfold pS at p; unfold scrM; omega)), fun k i _ => h.2 k i⟩
theorem fr_GM {m m' : Mm} (h : fr pG m m') : sameM m m' := ⟨fun k i q => h.1 k i (fun p => q (by unfold pG at p; unfold scrM; omega)), fun k i _ => h.2 k i⟩
theorem fr_HM {m m' : Mm} (h : fr pH m m') : fr pS m m' := fr_mono h (fun k i p => by unfold pH at p; unfold pS; omega)
