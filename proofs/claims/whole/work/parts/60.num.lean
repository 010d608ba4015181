-- ===== numbers =====
theorem n_le {a b : Nat} (ha : a < 2 ^ 31) (hb : b < 2 ^ 31) : (nI a ≤ nI b) = (a ≤ b) := propext (nI_leI ha hb)
theorem n_lt {a b : Nat} (ha : a < 2 ^ 31) (hb : b < 2 ^ 31) : (nI a < nI b) = (a < b) := propext (nI_ltI ha hb)
theorem n_eq {a b : Nat} (ha : a < 2 ^ 31) (hb : b < 2 ^ 31) : (nI a = nI b) = (a = b) := propext (nI_eq ha hb)
theorem n_add (a b : Nat) : nI a + nI b = nI (a + b) := nI_add a b
theorem n_mul (a b : Nat) : nI a * nI b = nI (a * b) := pk_mul a b
theorem n_sub {a b : Nat} (h : b ≤ a) : nI a - nI b = nI (a - b) := pk_sub h
theorem n_cl {a : Nat} (h : a < 2 ^ 31) : (nI a).toNatClampNeg = a := nI_clamp h
theorem ga_n {α : Type} {i n : Nat} (h : i < n) (hn : n < 2 ^ 31) (x : Option α) : ga (nI i) n x = x := by
  unfold ga
  rw [if_neg (nI_in h hn)]
theorem lit (n : Nat) : (OfNat.ofNat n : Int32) = nI n := rfl
theorem n_neg_toInt {b : Nat} (hb : b < 2 ^ 30) : (-nI b).toInt = -(b : Int) := by
  have h := pk_sub_toInt (a := 0) (b := b) (by omega) hb
  rw [nI_0, Int32.zero_sub] at h
  rw [h]
  omega
theorem n_eqm {a b : Nat} (ha : a < 2 ^ 31) (h0 : 0 < b) (hb : b < 2 ^ 30) : (nI a = -nI b) = False := by
  apply propext
  refine ⟨fun h => ?_, False.elim⟩
  have h1 := congrArg Int32.toInt h
  rw [nI_toInt ha, n_neg_toInt hb] at h1
  omega
theorem n_meq {a b : Nat} (ha : a < 2 ^ 31) (h0 : 0 < b) (hb : b < 2 ^ 30) : (-nI b = nI a) = False := by
  apply propext
  refine ⟨fun h => ?_, False.elim⟩
  have h1 := congrArg Int32.toInt h
  rw [nI_toInt ha, n_neg_toInt hb] at h1
  omega
theorem n_mm {a b : Nat} (ha : a < 2 ^ 30) (hb : b < 2 ^ 30) : (-nI a = -nI b) = (a = b) := by
  apply propext
  refine ⟨fun h => ?_, fun h => by rw [h]⟩
  have h1 := congrArg Int32.toInt h
  rw [n_neg_toInt ha, n_neg_toInt hb] at h1
  omega
theorem n_mlt {a b : Nat} (ha : a < 2 ^ 31) (h0 : 0 < b) (hb : b < 2 ^ 30) : (-nI b < nI a) = True := by
  apply propext
  refine ⟨fun _ => trivial, fun _ => ?_⟩
  rw [Int32.lt_iff_toInt_lt, nI_toInt ha, n_neg_toInt hb]
  omega
theorem n_mle {a b : Nat} (ha : a < 2 ^ 31) (h0 : 0 < b) (hb : b < 2 ^ 30) : (nI a ≤ -nI b) = False := by
  apply propext
  refine ⟨fun h => ?_, False.elim⟩
  rw [Int32.le_iff_toInt_le, nI_toInt ha, n_neg_toInt hb] at h
  omega
theorem n_ltm {a b : Nat} (ha : a < 2 ^ 31) (h0 : 0 < b) (hb : b < 2 ^ 30) : (nI a < -nI b) = False := by
  apply propext
  refine ⟨fun h => ?_, False.elim⟩
  rw [Int32.lt_iff_toInt_lt, nI_toInt ha, n_neg_toInt hb] at h
  omega
/-- an argument within 0 .. n - 1 -/
def inR (a : Int32) (n : Nat) : Bool := decide (0 ≤ a.toInt ∧ a.toInt < n)
theorem inR_n {p n : Nat} (hp : p < 2 ^ 31) : inR (nI p) n = decide (p < n) := by
  unfold inR
  rw [nI_toInt hp]
  congr 1
  apply propext
  omega
theorem inR_ex {a : Int32} {n : Nat} (h : inR a n = true) (hn : n ≤ 2 ^ 31) : ∃ p, p < n ∧ a = nI p := by
  have h1 := of_decide_eq_true h
  refine ⟨a.toInt.toNat, by omega, ?_⟩
  apply Int32.toInt_inj.mp
  rw [nI_toInt (by omega)]
  omega
theorem inR_lo {a : Int32} {n : Nat} (h : a < 0) : inR a n = false := by
  unfold inR
  rw [Int32.lt_iff_toInt_lt] at h
  have h0 : (0 : Int32).toInt = 0 := rfl
  rw [h0] at h
  exact decide_eq_false (by omega)
theorem arg3 (a : Int32) (n : Nat) (hn : n < 2 ^ 31) : (a < 0 ∧ inR a n = false) ∨ (nI n ≤ a ∧ ¬ a < 0 ∧ inR a n = false) ∨ ∃ p, p < n ∧ a = nI p ∧ inR a n = true := by
  rcases pk_ix a hn with h | h | ⟨j, h1, h2⟩
  · exact Or.inl ⟨h, inR_lo h⟩
  · refine Or.inr (Or.inl ?_)
    have h1 := h
    rw [Int32.le_iff_toInt_le, nI_toInt hn] at h1
    refine ⟨h, ?_, ?_⟩
    · rw [Int32.lt_iff_toInt_lt]
      show ¬ a.toInt < 0
      omega
    · exact decide_eq_false (by omega)
  · refine Or.inr (Or.inr ⟨j, h1, h2, ?_⟩)
    rw [h2, inR_n (by omega)]
    exact decide_eq_true h1
theorem n_nle {a : Int32} {k : Nat} (h : nI (k + 1) ≤ a) (hk : k + 1 < 2 ^ 31) : ¬ a ≤ nI k := by
  rw [Int32.le_iff_toInt_le, nI_toInt hk] at h
  rw [Int32.le_iff_toInt_le, nI_toInt (by omega)]
  omega
theorem n_gt {a : Int32} {k : Nat} (h : nI (k + 1) ≤ a) (hk : k + 1 < 2 ^ 31) : nI k < a := by
  rw [Int32.le_iff_toInt_le, nI_toInt hk] at h
  rw [Int32.lt_iff_toInt_lt, nI_toInt (by omega)]
  omega
theorem Wo_has_eq {x : Nat} {m : Mm} {a : Int32} {k : Nat} (h : m.1 x 0 = nI k) (hk : k < 2 ^ 31) : Wo_has x m a = inR a k := by
  unfold Wo_has
  rw [h]
  rcases arg3 a k hk with ⟨h1, h2⟩ | ⟨h1, h2, h3⟩ | ⟨p, h1, h2, h3⟩
  · rw [if_pos h1, h2]
  · rw [if_neg h2, if_pos h1, h3]
  · subst h2
    rw [if_neg (nI_pos (by omega)), if_neg (by rw [n_le hk (by omega)]; omega), h3]
theorem Mo_in_eq (a b c : Int32) : Mo_in a b c = decide (b.toInt ≤ a.toInt ∧ a.toInt ≤ c.toInt) := by
  unfold Mo_in
  by_cases h1 : a < b
  · rw [if_pos h1]
    rw [Int32.lt_iff_toInt_lt] at h1
    exact (decide_eq_false (by omega)).symm
  · rw [if_neg h1]
    rw [Int32.lt_iff_toInt_lt] at h1
    by_cases h2 : c < a
    · rw [if_pos h2]
      rw [Int32.lt_iff_toInt_lt] at h2
      exact (decide_eq_false (by omega)).symm
    · rw [if_neg h2]
      rw [Int32.lt_iff_toInt_lt] at h2
      exact (decide_eq_true (by omega)).symm
theorem Mo_in_0 {a c : Int32} {k : Nat} (hc : c.toInt + 1 = (k : Int)) : Mo_in a 0 c = inR a k := by
  rw [Mo_in_eq]
  unfold inR
  have h0 : (0 : Int32).toInt = 0 := rfl
  rw [h0]
  congr 1
  apply propext
  omega
theorem Mo_isPlace_eq {m : Mm} {a : Int32} {k : Nat} (h : m.1 0 0 = nI k) (hk : k < 2 ^ 30) : Mo_isPlace m a = inR a k := by
  unfold Mo_isPlace
  rw [h]
  apply Mo_in_0
  have h1 := pk_sub_toInt (a := k) (b := 1) hk (by omega)
  show (nI k - nI 1).toInt + 1 = _
  rw [h1]
  omega
theorem Mo_arePlaces_eq {m : Mm} {a b : Int32} {k : Nat} (h : m.1 0 0 = nI k) (hk : k < 2 ^ 30) : Mo_arePlaces m a b = (inR a k && inR b k) := by
  unfold Mo_arePlaces
  rw [Mo_isPlace_eq h hk, Mo_isPlace_eq h hk]
  cases inR a k <;> cases inR b k <;> rfl
-- ===== memory =====
theorem si_r (m : Mm) (k i : Nat) (x : Int32) (a j : Nat) : (si m k i x).1 a j = if a = k ∧ j = i then x else m.1 a j := by
  unfold si
  by_cases h : a = k
  · subst h
    by_cases hj : j = i
    · simp [upd, hj]
    · simp [upd, hj]
  · simp [h]
theorem si_l (m : Mm) (k i : Nat) (x : Int32) : (si m k i x).2 = m.2 := rfl
theorem sl_r (m : Mm) (k i : Nat) (x : Int64) : (sl m k i x).1 = m.1 := rfl
theorem sl_l (m : Mm) (k i : Nat) (x : Int64) (a j : Nat) : (sl m k i x).2.1 a j = if a = k ∧ j = i then x else m.2.1 a j := by
  unfold sl
  by_cases h : a = k
  · subst h
    by_cases hj : j = i
    · simp [vp_updL, hj]
    · simp [vp_updL, hj]
  · simp [h]
-- ===== loops =====
theorem iter_for {σ ρ : Type} {step : σ → Option (σ ⊕ ρ)} (I : Nat → σ → Prop) (n : Nat) (Q : ρ → Prop) (hs : ∀ i s, i < n → I i s → ∃ s', step s = some (.inl s') ∧ I (i + 1) s') (he : ∀ s, I n s → ∃ r, step s = some (.inr r) ∧ Q r) : ∀ (k : Nat) s, k ≤ n → I k s → ∃ r, iter step s = some r ∧ Q r := by
  have key : ∀ (d k : Nat) s, k + d = n → I k s → ∃ r, iter step s = some r ∧ Q r := by
    intro d
    induction d with
    | zero =>
      intro k s hk hI
      obtain ⟨r, h1, h2⟩ := he s (by rw [← hk]; exact hI)
      exact ⟨r, iter_inr h1, h2⟩
    | succ d ih =>
      intro k s hk hI
      obtain ⟨s', h1, h2⟩ := hs k s (by omega) hI
      rw [iter_inl h1]
      exact ih (k + 1) s' (by omega) h2
  intro k s hk hI
  exact key (n - k) k s (by omega) hI
