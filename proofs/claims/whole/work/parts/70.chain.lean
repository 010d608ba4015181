-- ===== searching loops, chain, allIn =====
def fstN (P : Nat → Bool) : Nat → Nat → Option Nat
  | _, 0 => none
  | a, d + 1 => if P a = true then some a else fstN P (a + 1) d
def fstR {β : Type} (v : Nat → β) : Option Nat → Unit ⊕ β
  | none => .inl ()
  | some i => .inr (v i)
theorem iter_find {σ β : Type} {step : σ → Option (σ ⊕ (Unit ⊕ β))} (t : Nat → σ) (P : Nat → Bool) (v : Nat → β) (lo n : Nat) (h1 : ∀ i, lo ≤ i → i < n → P i = false → step (t i) = some (.inl (t (i + 1)))) (h2 : ∀ i, lo ≤ i → i < n → P i = true → step (t i) = some (.inr (.inr (v i)))) (he : step (t n) = some (.inr (.inl ()))) : ∀ d a, lo ≤ a → a + d = n → iter step (t a) = some (fstR v (fstN P a d)) := by
  intro d
  induction d with
  | zero =>
    intro a _ ha
    rw [show a = n by omega, iter_inr he]
    rfl
  | succ d ih =>
    intro a hl ha
    show _ = some (fstR v (if P a = true then some a else fstN P (a + 1) d))
    cases e : P a with
    | true =>
      rw [iter_inr (h2 a hl (by omega) e), if_pos rfl]
      rfl
    | false =>
      rw [iter_inl (h1 a hl (by omega) e), if_neg (by decide)]
      exact ih (a + 1) (by omega) (by omega)
theorem fstN_some {P : Nat → Bool} : ∀ d a i, fstN P a d = some i → a ≤ i ∧ i < a + d ∧ P i = true ∧ ∀ j, a ≤ j → j < i → P j = false
  | 0, _, _, h => by cases h
  | d + 1, a, i, h => by
    have h' : (if P a = true then some a else fstN P (a + 1) d) = some i := h
    cases e : P a with
    | true =>
      rw [e, if_pos rfl] at h'
      cases h'
      exact ⟨by omega, by omega, e, fun j _ _ => by omega⟩
    | false =>
      rw [e, if_neg (by decide)] at h'
      obtain ⟨q1, q2, q3, q4⟩ := fstN_some d (a + 1) i h'
      refine ⟨by omega, by omega, q3, fun j hj hi => ?_⟩
      by_cases e1 : j = a
      · rw [e1, e]
      · exact q4 j (by omega) hi
theorem fstN_none {P : Nat → Bool} : ∀ d a, fstN P a d = none → ∀ j, a ≤ j → j < a + d → P j = false
  | 0, _, _, _, _, _ => by omega
  | d + 1, a, h, j, hj, hd => by
    have h' : (if P a = true then some a else fstN P (a + 1) d) = none := h
    cases e : P a with
    | true =>
      rw [e, if_pos rfl] at h'
      cases h'
    | false =>
      rw [e, if_neg (by decide)] at h'
      by_cases e1 : j = a
      · rw [e1, e]
      · exact fstN_none d (a + 1) h' j (by omega) (by omega)
theorem fstN_congr {P Q : Nat → Bool} : ∀ d a, (∀ j, a ≤ j → j < a + d → P j = Q j) → fstN P a d = fstN Q a d
  | 0, _, _ => rfl
  | d + 1, a, h => by
    show (if P a = true then some a else fstN P (a + 1) d) = (if Q a = true then some a else fstN Q (a + 1) d)
    rw [h a (by omega) (by omega), fstN_congr d (a + 1) (fun j q1 q2 => h j (by omega) (by omega))]
/-- fewer tries do, where the last ones find nothing new -/
theorem fstN_more {P : Nat → Bool} : ∀ d a, (P (a + d) = true → ∃ j, a ≤ j ∧ j < a + d ∧ P j = true) → fstN P a (d + 1) = fstN P a d
  | 0, a, h => by
    show (if P a = true then some a else none) = none
    cases e : P a with
    | true =>
      obtain ⟨j, h1, h2, _⟩ := h (by rw [Nat.add_zero]; exact e)
      omega
    | false => rfl
  | d + 1, a, h => by
    show (if P a = true then some a else fstN P (a + 1) (d + 1)) = (if P a = true then some a else fstN P (a + 1) d)
    cases e : P a with
    | true => rfl
    | false =>
      rw [if_neg (by decide), if_neg (by decide)]
      refine fstN_more d (a + 1) (fun q => ?_)
      obtain ⟨j, h1, h2, h3⟩ := h (by rw [show a + (d + 1) = a + 1 + d by omega]; exact q)
      refine ⟨j, ?_, by omega, h3⟩
      by_cases e1 : j = a
      · rw [e1, e] at h3
        cases h3
      · omega
-- one more name on
def orF (A : Nat → Nat) (X : Nat) : Nat → Nat
  | 0 => X
  | k + 1 => if X.testBit k = true then orF A X k ||| A k else orF A X k
theorem or128 {a b : Nat} (ha : a < 128) (hb : b < 128) : a ||| b < 128 := Nat.or_lt_two_pow (n := 7) ha hb
theorem orF_lt {A : Nat → Nat} {X : Nat} (hX : X < 128) : ∀ k, (∀ p, p < k → A p < 128) → orF A X k < 128
  | 0, _ => hX
  | k + 1, h => by
    have ih := orF_lt hX k (fun p hp => h p (by omega))
    show (if X.testBit k = true then orF A X k ||| A k else orF A X k) < 128
    split
    · exact or128 ih (h k (by omega))
    · exact ih
theorem orF_bit {A : Nat → Nat} {X o : Nat} : ∀ k, (orF A X k).testBit o = true ↔ (X.testBit o = true ∨ ∃ p, p < k ∧ X.testBit p = true ∧ (A p).testBit o = true)
  | 0 => by
    show X.testBit o = true ↔ _
    refine ⟨Or.inl, fun h => h.elim id ?_⟩
    rintro ⟨p, hp, _⟩
    omega
  | k + 1 => by
    have ih := orF_bit (A := A) (X := X) (o := o) k
    show (if X.testBit k = true then orF A X k ||| A k else orF A X k).testBit o = true ↔ _
    by_cases e : X.testBit k = true
    · rw [if_pos e, Nat.testBit_or, Bool.or_eq_true, ih]
      refine ⟨?_, ?_⟩
      · rintro ((h | ⟨p, h1, h2, h3⟩) | h)
        · exact Or.inl h
        · exact Or.inr ⟨p, by omega, h2, h3⟩
        · exact Or.inr ⟨k, by omega, e, h⟩
      · rintro (h | ⟨p, h1, h2, h3⟩)
        · exact Or.inl (Or.inl h)
        · by_cases e1 : p = k
          · subst e1
            exact Or.inr h3
          · exact Or.inl (Or.inr ⟨p, by omega, h2, h3⟩)
    · rw [if_neg e, ih]
      refine ⟨?_, ?_⟩
      · rintro (h | ⟨p, h1, h2, h3⟩)
        · exact Or.inl h
        · exact Or.inr ⟨p, by omega, h2, h3⟩
      · rintro (h | ⟨p, h1, h2, h3⟩)
        · exact Or.inl h
        · by_cases e1 : p = k
          · subst e1
            exact absurd h2 e
          · exact Or.inr ⟨p, by omega, h2, h3⟩
def rchN (S : Sn) (p : Nat) : Nat → Nat
  | 0 => 2 ^ p
  | k + 1 => orF (S 5) (rchN S p k) (S 0 0)
theorem rchN_lt {S : Sn} (hW : Wf S) {p : Nat} (hp : p < 7) : ∀ k, rchN S p k < 128
  | 0 => by
    have H : ∀ p : Fin 7, 2 ^ p.val < 128 := by decide
    exact H ⟨p, hp⟩
  | k + 1 => orF_lt (rchN_lt hW hp k) (S 0 0) (fun q hq => Wf_5 hW (by have := Wf_0 hW; omega))
theorem rchN_mono {S : Sn} {p o k : Nat} (h : (rchN S p k).testBit o = true) : (rchN S p (k + 1)).testBit o = true := (orF_bit (S 0 0)).mpr (Or.inl h)
theorem rchN_le {S : Sn} {p o k : Nat} (h : (rchN S p k).testBit o = true) : ∀ d, (rchN S p (k + d)).testBit o = true
  | 0 => h
  | d + 1 => rchN_mono (rchN_le h d)
theorem sub_eq {a b : Nat} (h : ∀ o, a.testBit o = true → b.testBit o = true) (ha : a < 128) (hb : b < 128) (hc : onesN b ≤ onesN a) : a = b := by
  apply Nat.eq_of_testBit_eq
  have key : ∀ o, o < 7 → a.testBit o = b.testBit o := by
    have H : ∀ x y : Bool, (x = true → y = true) → oneN x ≤ oneN y := by decide
    have H2 : ∀ x y : Bool, (x = true → y = true) → oneN y ≤ oneN x → x = y := by decide
    have g0 := H _ _ (h 0)
    have g1 := H _ _ (h 1)
    have g2 := H _ _ (h 2)
    have g3 := H _ _ (h 3)
    have g4 := H _ _ (h 4)
    have g5 := H _ _ (h 5)
    have g6 := H _ _ (h 6)
    unfold onesN at hc
    intro o ho
    have ho' : o = 0 ∨ o = 1 ∨ o = 2 ∨ o = 3 ∨ o = 4 ∨ o = 5 ∨ o = 6 := by omega
    rcases ho' with rfl | rfl | rfl | rfl | rfl | rfl | rfl
    · exact H2 _ _ (h 0) (by omega)
    · exact H2 _ _ (h 1) (by omega)
    · exact H2 _ _ (h 2) (by omega)
    · exact H2 _ _ (h 3) (by omega)
    · exact H2 _ _ (h 4) (by omega)
    · exact H2 _ _ (h 5) (by omega)
    · exact H2 _ _ (h 6) (by omega)
  intro o
  by_cases ho : o < 7
  · exact key o ho
  · have q : 2 ^ 7 ≤ 2 ^ o := Nat.pow_le_pow_right (by omega) (by omega)
    rw [Nat.testBit_lt_two_pow (by omega), Nat.testBit_lt_two_pow (by omega)]
theorem rchN_stop {S : Sn} {p k : Nat} (h : rchN S p (k + 1) = rchN S p k) : ∀ d, rchN S p (k + d) = rchN S p k
  | 0 => rfl
  | d + 1 => by
    show orF (S 5) (rchN S p (k + d)) (S 0 0) = _
    rw [rchN_stop h d]
    exact h
theorem rchN_7 {S : Sn} (hW : Wf S) {p : Nat} (hp : p < 7) : rchN S p 7 = rchN S p 6 := by
  have key : ∀ k, k ≤ 6 → rchN S p 7 = rchN S p 6 ∨ k + 1 ≤ onesN (rchN S p k) := by
    intro k
    induction k with
    | zero =>
      intro _
      right
      have H : ∀ p : Fin 7, 1 ≤ onesN (2 ^ p.val) := by decide
      exact H ⟨p, hp⟩
    | succ k ih =>
      intro hk
      rcases ih (by omega) with h | h
      · exact Or.inl h
      · by_cases hc : onesN (rchN S p (k + 1)) ≤ onesN (rchN S p k)
        · left
          have e := sub_eq (fun o ho => rchN_mono ho) (rchN_lt hW hp k) (rchN_lt hW hp (k + 1)) hc
          have h7 := rchN_stop e.symm (7 - k)
          have h6 := rchN_stop e.symm (6 - k)
          rw [show k + (7 - k) = 7 by omega] at h7
          rw [show k + (6 - k) = 6 by omega] at h6
          rw [h7, h6]
        · right
          omega
  rcases key 6 (by omega) with h | h
  · exact h
  · exact (sub_eq (fun o ho => rchN_mono ho) (rchN_lt hW hp 6) (rchN_lt hW hp 7) (by have := onesN_le (rchN S p (6 + 1)); omega)).symm
theorem pow_n {p : Nat} (hp : p < 7) : (1 : Int32) <<< (nI p &&& 31) = nI (2 ^ p) := by
  have H : ∀ p : Fin 7, (1 : Int32) <<< (nI p.val &&& 31) = nI (2 ^ p.val) := by decide +kernel
  exact H ⟨p, hp⟩
theorem or_or {a b : Nat} (ha : a < 128) (hb : b < 128) : nI a ||| nI b = nI (a ||| b) := by
  apply Int32.toBitVec_inj.mp
  apply BitVec.eq_of_toNat_eq
  have h1 := or128 ha hb
  show ((nI a ||| nI b).toBitVec).toNat = (nI (a ||| b)).toBitVec.toNat
  rw [Int32.toBitVec_or, BitVec.toNat_or]
  show (BitVec.ofNat 32 a).toNat ||| (BitVec.ofNat 32 b).toNat = (BitVec.ofNat 32 (a ||| b)).toNat
  rw [BitVec.toNat_ofNat, BitVec.toNat_ofNat, BitVec.toNat_ofNat, Nat.mod_eq_of_lt (by omega), Nat.mod_eq_of_lt (by omega), Nat.mod_eq_of_lt (by omega)]
theorem come_c {m : Mm} {S : Sn} (h : RelC m S) (hW : Wf S) {X : Nat} (hX : X < 128) (c : Int32) : iter (Wo_comeToBy_l19 11 m (nI X, c)) (nI X, 0) = some (nI (orF (S 5) X (S 0 0))) := by
  have b0 := Wf_0 hW
  exact iter_all (step := Wo_comeToBy_l19 11 m (nI X, c)) (fun k => (nI (orF (S 5) X k), nI k)) (S 0 0)
    (fun k hk => by
      have q1 : m.1 (11 + 5) k = nI (S 5 k) := cF5 h (by omega)
      have hk7 : k < 7 := by omega
      unfold Wo_comeToBy_l19
      simp (disch := omega) only [si_e, si_ne, si_nj, sl_r, si_l, ga_n, n_cl, n_lt, n_le, n_eq, n_add, n_mul, n_sub, n_eqm, n_meq, n_mm, n_mlt, n_mle, n_ltm, Option.bind_some, if_pos, if_neg, cF0 h, q1]
      simp only [and_n hX hk7]
      show _ = some (Sum.inl (nI (if X.testBit k = true then orF (S 5) X k ||| S 5 k else orF (S 5) X k), nI (k + 1)))
      rw [or_or (orF_lt hX k (fun p hp => Wf_5 hW (by omega))) (Wf_5 hW hk7)]
      cases X.testBit k with
      | true => rw [if_neg (by decide), if_pos rfl, i_1, n_add]
      | false => rw [if_pos rfl, if_neg (by decide), i_1, n_add])
    (by
      unfold Wo_comeToBy_l19
      simp (disch := omega) only [si_e, si_ne, si_nj, sl_r, si_l, ga_n, n_cl, n_lt, n_le, n_eq, n_add, n_mul, n_sub, n_eqm, n_meq, n_mm, n_mlt, n_mle, n_ltm, Option.bind_some, if_pos, if_neg, cF0 h])
theorem comeTo_c {m : Mm} {S : Sn} (h : RelC m S) (hW : Wf S) {p n : Nat} (hp : p < 7) (hn : n < 100) : Wo_comeToBy 11 m (nI p) (nI n) = some (nI (rchN S p n)) := by
  unfold Wo_comeToBy
  rw [pow_n hp]
  have h1 := iter_all (step := Wo_comeToBy_l7 11 m (nI n)) (fun k => (nI (rchN S p k), nI k)) n (r := nI (rchN S p n))
    (fun k hk => by
      unfold Wo_comeToBy_l7
      simp (disch := omega) only [si_e, si_ne, si_nj, sl_r, si_l, ga_n, n_cl, n_lt, n_le, n_eq, n_add, n_mul, n_sub, n_eqm, n_meq, n_mm, n_mlt, n_mle, n_ltm, Option.bind_some, if_pos, if_neg, come_c h hW (rchN_lt hW hp k), i_1]
      rfl)
    (by
      unfold Wo_comeToBy_l7
      simp (disch := omega) only [si_e, si_ne, si_nj, sl_r, si_l, ga_n, n_cl, n_lt, n_le, n_eq, n_add, n_mul, n_sub, n_eqm, n_meq, n_mm, n_mlt, n_mle, n_ltm, Option.bind_some, if_pos, if_neg])
  rw [show iter (Wo_comeToBy_l7 11 m (nI n)) (nI (2 ^ p), 0) = _ from h1]
  rfl
theorem come_m {m : Mm} {S : Sn} (h : RelM m S) (hW : Wf S) {X : Nat} (hX : X < 128) (c : Int32) : iter (Mo_chainOf_l20 m (nI X, c)) (nI X, 0) = some (nI (orF (S 5) X (S 0 0))) := by
  have b0 := Wf_0 hW
  exact iter_all (step := Mo_chainOf_l20 m (nI X, c)) (fun k => (nI (orF (S 5) X k), nI k)) (S 0 0)
    (fun k hk => by
      have hk7 : k < 7 := by omega
      unfold Mo_chainOf_l20
      simp (disch := omega) only [si_e, si_ne, si_nj, sl_r, si_l, ga_n, n_cl, n_lt, n_le, n_eq, n_add, n_mul, n_sub, n_eqm, n_meq, n_mm, n_mlt, n_mle, n_ltm, Option.bind_some, if_pos, if_neg, rF0 h, rF5 h]
      rw [has_n hX hk7]
      show _ = some (Sum.inl (nI (if X.testBit k = true then orF (S 5) X k ||| S 5 k else orF (S 5) X k), nI (k + 1)))
      rw [or_or (orF_lt hX k (fun p hp => Wf_5 hW (by omega))) (Wf_5 hW hk7)]
      cases X.testBit k with
      | true => rw [if_pos rfl, if_pos rfl, i_1, n_add]
      | false => rw [if_neg (by decide), if_neg (by decide), i_1, n_add, Int32.or_zero])
    (by
      unfold Mo_chainOf_l20
      simp (disch := omega) only [si_e, si_ne, si_nj, sl_r, si_l, ga_n, n_cl, n_lt, n_le, n_eq, n_add, n_mul, n_sub, n_eqm, n_meq, n_mm, n_mlt, n_mle, n_ltm, Option.bind_some, if_pos, if_neg, rF0 h])
def chN (S : Sn) (p o : Nat) : Option Nat := fstN (fun n => (rchN S p n).testBit o) 1 6
def chI (S : Sn) (p o : Nat) : Int32 := match chN S p o with
  | none => -5
  | some n => nI n
theorem chain_7 {S : Sn} (hW : Wf S) {p o : Nat} (hp : p < 7) : fstN (fun n => (rchN S p n).testBit o) 1 7 = chN S p o := by
  unfold chN
  refine fstN_more 6 1 (fun h => ⟨6, by omega, by omega, ?_⟩)
  have h' : (rchN S p 7).testBit o = true := h
  rw [rchN_7 hW hp] at h'
  exact h'
theorem chain_c {m : Mm} {S : Sn} (h : RelC m S) (hW : Wf S) {p o : Nat} (hp : p < 7) (ho : o < 7) : (iter (NB_chain_l34 m (nI p) (nI o)) (1)).bind (Sum.elim (fun e2 => some (-5)) (fun v6 => some v6)) = some (chI S p o) := by
  have h1 := iter_find (step := NB_chain_l34 m (nI p) (nI o)) (fun k => nI k) (fun n => (rchN S p n).testBit o) (fun k => nI k) 1 7
    (fun k _ hk e => by
      unfold NB_chain_l34
      simp (disch := omega) only [si_e, si_ne, si_nj, sl_r, si_l, ga_n, n_cl, n_lt, n_le, n_eq, n_add, n_mul, n_sub, n_eqm, n_meq, n_mm, n_mlt, n_mle, n_ltm, Option.bind_some, if_pos, if_neg, i_7, comeTo_c h hW hp (show k < 100 by omega)]
      simp only [and_n (rchN_lt hW hp k) ho, e, ↓reduceIte]
      rw [i_1, n_add])
    (fun k _ hk e => by
      unfold NB_chain_l34
      simp (disch := omega) only [si_e, si_ne, si_nj, sl_r, si_l, ga_n, n_cl, n_lt, n_le, n_eq, n_add, n_mul, n_sub, n_eqm, n_meq, n_mm, n_mlt, n_mle, n_ltm, Option.bind_some, if_pos, if_neg, i_7, comeTo_c h hW hp (show k < 100 by omega)]
      simp only [and_n (rchN_lt hW hp k) ho, e, ↓reduceIte]
      rfl)
    (by
      unfold NB_chain_l34
      simp (disch := omega) only [si_e, si_ne, si_nj, sl_r, si_l, ga_n, n_cl, n_lt, n_le, n_eq, n_add, n_mul, n_sub, n_eqm, n_meq, n_mm, n_mlt, n_mle, n_ltm, Option.bind_some, if_pos, if_neg, i_7]) 6 1 (by omega) rfl
  rw [show iter (NB_chain_l34 m (nI p) (nI o)) 1 = _ from h1]
  unfold chI chN
  cases fstN (fun n => (rchN S p n).testBit o) 1 6 with
  | none => rfl
  | some n => rfl
theorem chain_m {m : Mm} {S : Sn} (h : RelM m S) (hW : Wf S) {p o : Nat} (hp : p < 7) (ho : o < 7) : Mo_chainOf m (nI p) (nI o) = some (chI S p o) := by
  have b0 := Wf_0 hW
  have h1 := iter_find (step := Mo_chainOf_l7 m (nI o)) (fun k => (nI (rchN S p (k - 1)), nI k)) (fun n => (rchN S p n).testBit o) (fun k => nI k) 1 8
    (fun k hl hk e => by
      have hlt := rchN_lt hW hp k
      obtain ⟨j, rfl⟩ : ∃ j, k = j + 1 := ⟨k - 1, by omega⟩
      have e1 : orF (S 5) (rchN S p j) (S 0 0) = rchN S p (j + 1) := rfl
      rw [show j + 1 - 1 = j by omega, show j + 1 + 1 - 1 = j + 1 by omega]
      unfold Mo_chainOf_l7
      simp (disch := omega) only [si_e, si_ne, si_nj, sl_r, si_l, ga_n, n_cl, n_lt, n_le, n_eq, n_add, n_mul, n_sub, n_eqm, n_meq, n_mm, n_mlt, n_mle, n_ltm, Option.bind_some, if_pos, if_neg, i_8, come_m h hW (rchN_lt hW hp j), e1]
      rw [has_n hlt ho, e, if_neg (by decide), i_1, n_add])
    (fun k hl hk e => by
      have hlt := rchN_lt hW hp k
      obtain ⟨j, rfl⟩ : ∃ j, k = j + 1 := ⟨k - 1, by omega⟩
      have e1 : orF (S 5) (rchN S p j) (S 0 0) = rchN S p (j + 1) := rfl
      rw [show j + 1 - 1 = j by omega]
      unfold Mo_chainOf_l7
      simp (disch := omega) only [si_e, si_ne, si_nj, sl_r, si_l, ga_n, n_cl, n_lt, n_le, n_eq, n_add, n_mul, n_sub, n_eqm, n_meq, n_mm, n_mlt, n_mle, n_ltm, Option.bind_some, if_pos, if_neg, i_8, come_m h hW (rchN_lt hW hp j), e1]
      rw [has_n hlt ho, e, if_pos rfl])
    (by
      unfold Mo_chainOf_l7
      simp (disch := omega) only [si_e, si_ne, si_nj, sl_r, si_l, ga_n, n_cl, n_lt, n_le, n_eq, n_add, n_mul, n_sub, n_eqm, n_meq, n_mm, n_mlt, n_mle, n_ltm, Option.bind_some, if_pos, if_neg, i_8]) 7 1 (by omega) rfl
  unfold Mo_chainOf
  rw [pow_n hp]
  rw [show iter (Mo_chainOf_l7 m (nI o)) (nI (2 ^ p), 1) = _ from h1, chain_7 hW hp]
  unfold chI
  cases chN S p o with
  | none => rfl
  | some n => rfl
theorem H19 : lwH19 Inv := by
  intro m1 m2 a1 a2 hI
  obtain ⟨S, ld, it, hC, hM, hW, hL⟩ := id hI
  have b0 := Wf_0 hW
  unfold NB_chain Mo_chain
  rw [Wo_has_eq (cF0 hC.1) (by omega), Wo_has_eq (cF0 hC.1) (by omega), Mo_arePlaces_eq (rF0 hM.1) (by omega)]
  cases e1 : inR a1 (S 0 0) with
  | false => exact ⟨-1, rfl, rfl, hI⟩
  | true =>
  cases e2 : inR a2 (S 0 0) with
  | false => exact ⟨-1, rfl, rfl, hI⟩
  | true =>
  obtain ⟨p, hp, rfl⟩ := inR_ex e1 (by omega)
  obtain ⟨o, ho, rfl⟩ := inR_ex e2 (by omega)
  have hp7 : p < 7 := by omega
  have ho7 : o < 7 := by omega
  by_cases e3 : p = o
  · subst e3
    exact ⟨-2, by rw [if_pos rfl, if_pos rfl, if_pos rfl], by rw [Bool.and_self, if_pos rfl, if_pos rfl], hI⟩
  have e4 : ¬ nI p = nI o := by rw [n_eq (by omega) (by omega)]; exact e3
  simp only [Bool.and_self, e4, ↓reduceIte]
  rw [chain_c hC.1 hW hp7 ho7, chain_m hM.1 hW hp7 ho7]
  exact ⟨_, rfl, rfl, hI⟩
