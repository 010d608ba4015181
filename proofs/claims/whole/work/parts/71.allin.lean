-- ===== allIn =====
theorem rchN_low {S : Sn} (hW : Wf S) {p o : Nat} (hp : p < S 0 0) : ∀ k, (rchN S p k).testBit o = true → o < S 0 0
  | 0, h => by
    have h' : (2 ^ p).testBit o = true := h
    rw [Nat.testBit_two_pow, decide_eq_true_eq] at h'
    omega
  | k + 1, h => by
    rcases (orF_bit (S 0 0)).mp h with h1 | ⟨q, h1, h2, h3⟩
    · exact rchN_low hW hp k h1
    · have b0 := Wf_0 hW
      by_cases e : o < S 0 0
      · exact e
      · by_cases e7 : o < 7
        · rw [Wf_5s hW (by omega) e7, Wf_5z hW e7 (by omega), Nat.zero_testBit] at h3
          cases h3
        · have h5 := Wf_5 hW (show q < 7 by omega)
          have hp2 : 2 ^ 7 ≤ 2 ^ o := Nat.pow_le_pow_right (by omega) (by omega)
          rw [Nat.testBit_lt_two_pow (by omega)] at h3
          cases h3
theorem rchN_self {S : Sn} {p k : Nat} : (rchN S p k).testBit p = true := by
  have h := rchN_le (S := S) (p := p) (o := p) (k := 0) (by show (2 ^ p).testBit p = true; rw [Nat.testBit_two_pow, decide_eq_true rfl]) k
  rwa [Nat.zero_add] at h
/-- from p one comes to all, by n names -/
def allN (S : Sn) (n p : Nat) : Bool := decide (rchN S p n = 2 ^ S 0 0 - 1)
theorem allN_iff {S : Sn} (hW : Wf S) {p n : Nat} (hp : p < S 0 0) : allN S n p = true ↔ ∀ o, o < S 0 0 → (rchN S p n).testBit o = true := by
  unfold allN
  rw [decide_eq_true_eq]
  refine ⟨fun h o ho => ?_, fun h => ?_⟩
  · rw [h, Nat.testBit_two_pow_sub_one, decide_eq_true ho]
  · apply Nat.eq_of_testBit_eq
    intro o
    rw [Nat.testBit_two_pow_sub_one]
    by_cases ho : o < S 0 0
    · rw [h o ho, decide_eq_true ho]
    · rw [decide_eq_false ho]
      cases e : (rchN S p n).testBit o with
      | false => rfl
      | true => exact absurd (rchN_low hW hp n e) ho
theorem mask_n {n : Nat} (h : n ≤ 7) : (1 : Int32) <<< (nI n &&& 31) - 1 = nI (2 ^ n - 1) := by
  have H : ∀ n : Fin 8, (1 : Int32) <<< (nI n.val &&& 31) - 1 = nI (2 ^ n.val - 1) := by decide +kernel
  exact H ⟨n, by omega⟩
def allR (S : Sn) (n : Nat) : Int32 := match fstN (fun p => !allN S n p) 0 (S 0 0) with
  | none => 1
  | some _ => 0
theorem allIn_c {m : Mm} {S : Sn} (h : RelC m S) (hW : Wf S) {n : Nat} (hn : n < 7) : (iter (NB_allIn_l28 m (nI n)) (0)).bind (Sum.elim (fun e2 => some 1) (fun v6 => some v6)) = some (allR S n) := by
  have b0 := Wf_0 hW
  have hm : 2 ^ S 0 0 - 1 < 128 := by
    have H : ∀ n : Fin 8, 2 ^ n.val - 1 < 128 := by decide
    exact H ⟨S 0 0, by omega⟩
  have h1 := iter_find (step := NB_allIn_l28 m (nI n)) (fun k => nI k) (fun p => !allN S n p) (fun _ => (0 : Int32)) 0 (S 0 0)
    (fun k _ hk e => by
      have hr := rchN_lt hW (show k < 7 by omega) n
      have e' : rchN S k n = 2 ^ S 0 0 - 1 := by
        unfold allN at e
        rw [Bool.not_eq_false', decide_eq_true_eq] at e
        exact e
      unfold NB_allIn_l28
      rw [cF0 h]
      simp (disch := omega) only [si_e, si_ne, si_nj, sl_r, si_l, ga_n, n_cl, n_lt, n_le, n_eq, n_add, n_mul, n_sub, n_eqm, n_meq, n_mm, n_mlt, n_mle, n_ltm, Option.bind_some, if_pos, if_neg, comeTo_c h hW (show k < 7 by omega) (show n < 100 by omega)]
      rw [mask_n b0, e', if_pos rfl, i_1, n_add])
    (fun k _ hk e => by
      have hr := rchN_lt hW (show k < 7 by omega) n
      have e' : ¬ rchN S k n = 2 ^ S 0 0 - 1 := by
        unfold allN at e
        rw [Bool.not_eq_true', decide_eq_false_iff_not] at e
        exact e
      unfold NB_allIn_l28
      rw [cF0 h]
      simp (disch := omega) only [si_e, si_ne, si_nj, sl_r, si_l, ga_n, n_cl, n_lt, n_le, n_eq, n_add, n_mul, n_sub, n_eqm, n_meq, n_mm, n_mlt, n_mle, n_ltm, Option.bind_some, if_pos, if_neg, comeTo_c h hW (show k < 7 by omega) (show n < 100 by omega)]
      rw [mask_n b0, if_neg (by rw [n_eq (by omega) (by omega)]; exact e')])
    (by
      unfold NB_allIn_l28
      simp (disch := omega) only [si_e, si_ne, si_nj, sl_r, si_l, ga_n, n_cl, n_lt, n_le, n_eq, n_add, n_mul, n_sub, n_eqm, n_meq, n_mm, n_mlt, n_mle, n_ltm, Option.bind_some, if_pos, if_neg, cF0 h]) (S 0 0) 0 (by omega) (by omega)
  rw [show iter (NB_allIn_l28 m (nI n)) 0 = _ from h1]
  unfold allR
  cases fstN (fun p => !allN S n p) 0 (S 0 0) with
  | none => rfl
  | some n => rfl
theorem chI_in {S : Sn} {p o n : Nat} (h1 : 1 ≤ n) (hn : n < 7) : Mo_in (chI S p o) 1 (nI n) = (rchN S p n).testBit o := by
  rw [Mo_in_eq]
  have g1 : (1 : Int32).toInt = 1 := rfl
  rw [g1, nI_toInt (by omega)]
  unfold chI
  cases e : chN S p o with
  | none =>
    have h5 : (-5 : Int32).toInt = -5 := rfl
    have h6 := fstN_none 6 1 e n h1 (by omega)
    show decide (1 ≤ (-5 : Int32).toInt ∧ (-5 : Int32).toInt ≤ (n : Int)) = _
    rw [h5, decide_eq_false (by omega)]
    exact h6.symm
  | some k =>
    obtain ⟨q1, q2, q3, q4⟩ := fstN_some 6 1 k e
    show decide (1 ≤ (nI k).toInt ∧ (nI k).toInt ≤ (n : Int)) = _
    rw [nI_toInt (by omega)]
    by_cases c : k ≤ n
    · rw [decide_eq_true (by omega)]
      have h7 := rchN_le (d := n - k) q3
      rw [show k + (n - k) = n by omega] at h7
      exact h7.symm
    · rw [decide_eq_false (by omega)]
      exact (q4 n h1 (by omega)).symm
theorem allIn_m {m : Mm} {S : Sn} (h : RelM m S) (hW : Wf S) {n : Nat} (h1n : 1 ≤ n) (hn : n < 7) : (iter (Mo_allIn_l16 m (nI n)) (0)).bind (Sum.elim (fun e2 => some 1) (fun v12 => some v12)) = some (allR S n) := by
  have b0 := Wf_0 hW
  have inner : ∀ k, k < S 0 0 → iter (Mo_allIn_l26 m (nI n) (nI k)) 0 = some (fstR (fun _ => (0 : Int32)) (fstN (fun o => !(rchN S k n).testBit o) 0 (S 0 0))) := by
    intro k hk
    exact iter_find (step := Mo_allIn_l26 m (nI n) (nI k)) (fun o => nI o) (fun o => !(rchN S k n).testBit o) (fun _ => (0 : Int32)) 0 (S 0 0)
      (fun o _ ho e => by
        rw [Bool.not_eq_false'] at e
        unfold Mo_allIn_l26
        simp (disch := omega) only [si_e, si_ne, si_nj, sl_r, si_l, ga_n, n_cl, n_lt, n_le, n_eq, n_add, n_mul, n_sub, n_eqm, n_meq, n_mm, n_mlt, n_mle, n_ltm, Option.bind_some, if_pos, if_neg, rF0 h]
        by_cases c : k = o
        · rw [if_pos c, i_1, n_add]
        · rw [if_neg c, chain_m h hW (by omega) (by omega)]
          dsimp only [Option.bind_some]
          rw [chI_in h1n hn, e, if_pos rfl, i_1, n_add])
      (fun o _ ho e => by
        rw [Bool.not_eq_true'] at e
        unfold Mo_allIn_l26
        simp (disch := omega) only [si_e, si_ne, si_nj, sl_r, si_l, ga_n, n_cl, n_lt, n_le, n_eq, n_add, n_mul, n_sub, n_eqm, n_meq, n_mm, n_mlt, n_mle, n_ltm, Option.bind_some, if_pos, if_neg, rF0 h]
        have c : k ≠ o := by
          intro q
          rw [← q, rchN_self] at e
          cases e
        rw [if_neg c, chain_m h hW (by omega) (by omega)]
        dsimp only [Option.bind_some]
        rw [chI_in h1n hn, e, if_neg (by decide)])
      (by
        unfold Mo_allIn_l26
        simp (disch := omega) only [si_e, si_ne, si_nj, sl_r, si_l, ga_n, n_cl, n_lt, n_le, n_eq, n_add, n_mul, n_sub, n_eqm, n_meq, n_mm, n_mlt, n_mle, n_ltm, Option.bind_some, if_pos, if_neg, rF0 h]) (S 0 0) 0 (by omega) (by omega)
  have h1 := iter_find (step := Mo_allIn_l16 m (nI n)) (fun k => nI k) (fun p => !allN S n p) (fun _ => (0 : Int32)) 0 (S 0 0)
    (fun k _ hk e => by
      rw [Bool.not_eq_false'] at e
      have e1 := (allN_iff hW hk).mp e
      unfold Mo_allIn_l16
      simp (disch := omega) only [si_e, si_ne, si_nj, sl_r, si_l, ga_n, n_cl, n_lt, n_le, n_eq, n_add, n_mul, n_sub, n_eqm, n_meq, n_mm, n_mlt, n_mle, n_ltm, Option.bind_some, if_pos, if_neg, rF0 h, inner k hk]
      cases e2 : fstN (fun o => !(rchN S k n).testBit o) 0 (S 0 0) with
      | none =>
        show some (Sum.inl (nI k + 1)) = _
        rw [i_1, n_add]
      | some o =>
        obtain ⟨q1, q2, q3, _⟩ := fstN_some _ _ _ e2
        rw [e1 o (by omega)] at q3
        cases q3)
    (fun k _ hk e => by
      rw [Bool.not_eq_true'] at e
      unfold Mo_allIn_l16
      simp (disch := omega) only [si_e, si_ne, si_nj, sl_r, si_l, ga_n, n_cl, n_lt, n_le, n_eq, n_add, n_mul, n_sub, n_eqm, n_meq, n_mm, n_mlt, n_mle, n_ltm, Option.bind_some, if_pos, if_neg, rF0 h, inner k hk]
      cases e2 : fstN (fun o => !(rchN S k n).testBit o) 0 (S 0 0) with
      | none =>
        have q := fstN_none _ _ e2
        have e3 : allN S n k = true := (allN_iff hW hk).mpr (fun o ho => by
          have q1 := q o (by omega) (by omega)
          rw [Bool.not_eq_false'] at q1
          exact q1)
        rw [e3] at e
        cases e
      | some o => rfl)
    (by
      unfold Mo_allIn_l16
      simp (disch := omega) only [si_e, si_ne, si_nj, sl_r, si_l, ga_n, n_cl, n_lt, n_le, n_eq, n_add, n_mul, n_sub, n_eqm, n_meq, n_mm, n_mlt, n_mle, n_ltm, Option.bind_some, if_pos, if_neg, rF0 h]) (S 0 0) 0 (by omega) (by omega)
  rw [show iter (Mo_allIn_l16 m (nI n)) 0 = _ from h1]
  unfold allR
  cases fstN (fun p => !allN S n p) 0 (S 0 0) with
  | none => rfl
  | some n => rfl
theorem H20 : lwH20 Inv := by
  intro m1 m2 a1 hI
  obtain ⟨S, ld, it, hC, hM, hW, hL⟩ := id hI
  unfold NB_allIn Mo_allIn
  rw [Mo_in_eq]
  have g1 : (1 : Int32).toInt = 1 := rfl
  have g6 : (6 : Int32).toInt = 6 := rfl
  rw [g1, g6]
  by_cases c1 : a1 < 1
  · rw [if_pos c1]
    rw [Int32.lt_iff_toInt_lt, g1] at c1
    rw [decide_eq_false (by omega)]
    exact ⟨_, rfl, rfl, hI⟩
  rw [if_neg c1]
  rw [Int32.lt_iff_toInt_lt, g1] at c1
  by_cases c2 : a1 ≤ 6
  case neg =>
    rw [if_neg c2]
    rw [Int32.le_iff_toInt_le, g6] at c2
    rw [decide_eq_false (by omega)]
    exact ⟨_, rfl, rfl, hI⟩
  rw [if_pos c2]
  rw [Int32.le_iff_toInt_le, g6] at c2
  obtain ⟨n, hn, rfl⟩ := inR_ex (a := a1) (n := 7) (decide_eq_true (by omega)) (by omega)
  rw [nI_toInt (by omega)] at c1 c2 ⊢
  rw [decide_eq_true (by omega), if_pos rfl, allIn_c hC.1 hW hn, allIn_m hM.1 hW (by omega) hn]
  exact ⟨_, rfl, rfl, hI⟩
