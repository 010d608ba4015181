-- ===== the land that holds, arms, told, name, capitals =====
def holdL (S : Sn) (ld : Nat → List Cl) : List Cl := if S 12 0 = 0 then [] else ld (S 12 0 - 1)
def holdX (S : Sn) : Nat := if S 12 0 = 0 then 31 else 37 + 5 * (S 12 0 - 1)
theorem m1_lt : ((-1 : Int32) < 0) = True := by decide
theorem hold_c {m : Mm} {S : Sn} {ld : Nat → List Cl} {it : Nat → Nat → Int64} (h : StC m S ld it) (hW : Wf S) : NB_holding m = some (holdX S) ∧ CL m (holdX S) (holdL S ld) ∧ isL (holdX S) = true := by
  have h12 := Wf_12 hW
  have h41 := Wf_41 hW
  unfold NB_holding holdX holdL
  have q1 : m.1 11 12 = nI (S 12 0) - 1 := cF12 h.1
  rw [q1]
  by_cases h0 : S 12 0 = 0
  · rw [h0]
    exact ⟨rfl, h.2.2.1, rfl⟩
  · obtain ⟨k, hk⟩ : ∃ k, S 12 0 = k + 1 := ⟨S 12 0 - 1, by omega⟩
    have q2 : nI (S 12 0) - 1 = nI k := by rw [hk, i_1, n_sub (by omega)]; rfl
    have hk6 : k < 6 := by omega
    rw [q2, if_neg (nI_pos (by omega)), if_neg h0, if_neg h0, i_6, if_neg (by rw [n_le (by omega) (by omega)]; omega), ga_n (by omega) (by omega), n_cl (by omega), show S 12 0 - 1 = k by omega]
    refine ⟨rfl, h.2.2.2 k (by omega), ?_⟩
    have H : ∀ k : Fin 6, isL (37 + 5 * k.val) = true := by decide
    exact H ⟨k, hk6⟩
theorem beg_m {m : Mm} {S : Sn} {ld : Nat → List Cl} {it : Nat → Nat → Int64} (h : StM m S ld it) (hW : Wf S) : Mo_begin m = nI (10 * (S 12 0 - 1)) ∧ Mo_behind m = some (nI (10 * (S 12 0 - 1) + (holdL S ld).length)) ∧ (S 12 0 ≠ 0 → ML m (S 12 0 - 1) (holdL S ld)) := by
  have h12 := Wf_12 hW
  have h41 := Wf_41 hW
  unfold Mo_begin Mo_behind holdL
  rw [rF12 h.1]
  by_cases h0 : S 12 0 = 0
  · rw [h0]
    exact ⟨rfl, rfl, fun q => absurd rfl q⟩
  · obtain ⟨k, hk⟩ : ∃ k, S 12 0 = k + 1 := ⟨S 12 0 - 1, by omega⟩
    have q2 : nI (S 12 0) - 1 = nI k := by rw [hk, i_1, n_sub (by omega)]; rfl
    have hml := h.2.2 k (by omega)
    rw [q2, if_neg h0, show S 12 0 - 1 = k by omega, if_pos (by rw [i_0]; exact (by rw [n_le (by omega) (by omega)]; omega)), if_pos (by rw [i_0]; exact (by rw [n_le (by omega) (by omega)]; omega)), i_10, ga_n (by omega) (by omega), n_cl (by omega), n_mul, hml.1, n_add]
    exact ⟨rfl, rfl, fun _ => hml⟩
theorem hold_WL {S : Sn} {ld : Nat → List Cl} (hW : Wf S) (hL : ∀ j, j < S 41 0 → WL (ld j)) : WL (holdL S ld) := by
  have h12 := Wf_12 hW
  unfold holdL
  by_cases h0 : S 12 0 = 0
  · rw [if_pos h0]
    exact ⟨by decide, by decide, fun c hc => absurd hc (List.not_mem_nil)⟩
  · rw [if_neg h0]
    exact hL _ (by omega)
theorem armsF_le (lc : List Cl) (h : ∀ c ∈ lc, c.2.1 ≤ 99) : ∀ a, a ≤ 99 → lc.foldl (fun a c => if c.1 = 2 then c.2.1 else a) a ≤ 99 := by
  induction lc with
  | nil => intro a ha; exact ha
  | cons c l ih =>
    intro a ha
    rw [List.foldl_cons]
    refine ih (fun c hc => h c (List.mem_cons_of_mem _ hc)) _ ?_
    split
    · exact h c (List.mem_cons_self)
    · exact ha
theorem arms_le {lc : List Cl} (h : WL lc) : armsOf lc ≤ 99 := armsF_le lc (fun c hc => (h.2.2 c hc).2.1) 4 (by omega)
theorem arms_m {m : Mm} {S : Sn} {ld : Nat → List Cl} {it : Nat → Nat → Int64} (h : StM m S ld it) (hW : Wf S) (hL : ∀ j, j < S 41 0 → WL (ld j)) : Mo_armsNow m = some (nI (armsOf (holdL S ld))) := by
  obtain ⟨b1, b2, b3⟩ := beg_m h hW
  have hw := hold_WL hW hL
  have h12 := Wf_12 hW
  have h41 := Wf_41 hW
  unfold Mo_armsNow
  rw [b1]
  obtain ⟨r, h1, h2⟩ := iter_for (step := Mo_armsNow_l7 m) (fun k s => s = (nI (((holdL S ld).take k).foldl (fun a c => if c.1 = 2 then c.2.1 else a) 4), nI (10 * (S 12 0 - 1) + k))) (holdL S ld).length (fun r => r = nI (armsOf (holdL S ld)))
    (by
      rintro k s hk rfl
      have hlen := hw.1
      have h0 : S 12 0 ≠ 0 := by
        intro q
        unfold holdL at hk
        rw [if_pos q] at hk
        exact absurd hk (Nat.not_lt_zero _)
      have hc := List.getElem?_eq_getElem hk
      obtain ⟨g1, g2, _⟩ := (b3 h0).2 k _ hc
      have hcw := hw.2.2 _ (List.getElem_mem hk)
      rw [List.take_succ_eq_append_getElem hk, List.foldl_append]
      unfold Mo_armsNow_l7
      rw [b2]
      simp (disch := omega) only [si_e, si_ne, si_nj, sl_r, si_l, ga_n, n_cl, n_lt, n_le, n_eq, n_add, n_mul, n_sub, n_eqm, n_meq, n_mm, n_mlt, n_mle, n_ltm, Option.bind_some, if_pos, if_neg, i_1, i_60, i_2, g1, g2]
      by_cases e : ((holdL S ld)[k]).1 = 2
      · rw [if_pos e]
        exact ⟨_, rfl, by rw [List.foldl_cons, List.foldl_nil, if_pos e]; rfl⟩
      · rw [if_neg e]
        exact ⟨_, rfl, by rw [List.foldl_cons, List.foldl_nil, if_neg e]; rfl⟩)
    (by
      rintro s rfl
      have hlen := hw.1
      unfold Mo_armsNow_l7
      rw [b2]
      simp (disch := omega) only [si_e, si_ne, si_nj, sl_r, si_l, ga_n, n_cl, n_lt, n_le, n_eq, n_add, n_mul, n_sub, n_eqm, n_meq, n_mm, n_mlt, n_mle, n_ltm, Option.bind_some, if_pos, if_neg]
      exact ⟨_, rfl, by rw [List.take_length]; rfl⟩) 0 (4, nI (10 * (S 12 0 - 1))) (by omega) rfl
  rw [h1, h2]
  rfl
theorem arms_c {m : Mm} {S : Sn} {ld : Nat → List Cl} {it : Nat → Nat → Int64} (h : StC m S ld it) (hW : Wf S) : m.1 (holdX S) 6 = nI (armsOf (holdL S ld)) := (hold_c h hW).2.1.2.1
def sumN (f : Nat → Nat) : Nat → Nat
  | 0 => 0
  | k + 1 => sumN f k + f k
def mxN (f : Nat → Nat) : Nat → Nat
  | 0 => 0
  | k + 1 => if f k ≤ mxN f k then mxN f k else f k
def bitsN (P : Nat → Bool) : Nat → Nat
  | 0 => 0
  | k + 1 => if P k = true then bitsN P k ||| 2 ^ k else bitsN P k
theorem bitsN_lt (P : Nat → Bool) : ∀ k, k ≤ 7 → bitsN P k < 128
  | 0, _ => Nat.zero_lt_succ 127
  | k + 1, h => by
    have ih := bitsN_lt P k (by omega)
    show (if P k = true then bitsN P k ||| 2 ^ k else bitsN P k) < 128
    split
    · exact or_lt ih (by omega)
    · exact ih
theorem bitsN_congr {P Q : Nat → Bool} : ∀ k, (∀ p, p < k → P p = Q p) → bitsN P k = bitsN Q k
  | 0, _ => rfl
  | k + 1, h => by
    show (if P k = true then bitsN P k ||| 2 ^ k else bitsN P k) = (if Q k = true then bitsN Q k ||| 2 ^ k else bitsN Q k)
    rw [bitsN_congr k (fun p hp => h p (by omega)), h k (by omega)]
theorem bitsN_none {P : Nat → Bool} : ∀ k, (∀ p, p < k → P p = false) → bitsN P k = 0
  | 0, _ => rfl
  | k + 1, h => by
    show (if P k = true then bitsN P k ||| 2 ^ k else bitsN P k) = 0
    rw [bitsN_none k (fun p hp => h p (by omega)), h k (by omega)]
    rfl
theorem mxN_le {f : Nat → Nat} {b : Nat} (h : ∀ p, f p ≤ b) : ∀ k, mxN f k ≤ b
  | 0 => Nat.zero_le b
  | k + 1 => by
    have ih := mxN_le h k
    show (if f k ≤ mxN f k then mxN f k else f k) ≤ b
    split
    · exact ih
    · exact h k
theorem mxN_ge {f : Nat → Nat} : ∀ k p, p < k → f p ≤ mxN f k
  | 0, p, h => absurd h (Nat.not_lt_zero p)
  | k + 1, p, h => by
    show f p ≤ (if f k ≤ mxN f k then mxN f k else f k)
    by_cases e : p = k
    · subst e
      split
      · assumption
      · exact Nat.le_refl _
    · have ih := mxN_ge (f := f) k p (by omega)
      split
      · exact ih
      · omega
theorem sumN_le {f : Nat → Nat} {b : Nat} (h : ∀ p, f p ≤ b) : ∀ k, sumN f k ≤ b * k
  | 0 => Nat.zero_le _
  | k + 1 => by
    have ih := sumN_le h k
    have h1 := h k
    show sumN f k + f k ≤ b * (k + 1)
    rw [Nat.mul_succ]
    omega
theorem iter_all {σ ρ : Type} {step : σ → Option (σ ⊕ ρ)} (t : Nat → σ) (n : Nat) {r : ρ} (hs : ∀ i, i < n → step (t i) = some (.inl (t (i + 1)))) (he : step (t n) = some (.inr r)) : iter step (t 0) = some r := by
  obtain ⟨r', h1, h2⟩ := iter_for (step := step) (fun i s => s = t i) n (fun r' => r' = r) (fun i s hi e => ⟨t (i + 1), by rw [e]; exact hs i hi, rfl⟩) (fun s e => ⟨r, by rw [e]; exact he, rfl⟩) 0 (t 0) (by omega) rfl
  rw [h1, h2]
def namesN (S : Sn) (p : Nat) : Nat := onesN (S 5 p)
theorem countNames_c {m : Mm} {S : Sn} (h : RelC m S) (hW : Wf S) : Wo_countNames 11 m = some (nI (sumN (namesN S) (S 0 0)) / 2) := by
  have b0 := Wf_0 hW
  unfold Wo_countNames
  have h1 := iter_all (step := Wo_countNames_l4 11 m) (fun k => (nI (sumN (namesN S) k), nI k)) (S 0 0) (r := nI (sumN (namesN S) (S 0 0)))
    (fun k hk => by
      have q1 : m.1 (11 + 5) k = nI (S 5 k) := cF5 h (by omega)
      unfold Wo_countNames_l4
      simp (disch := omega) only [si_e, si_ne, si_nj, sl_r, si_l, ga_n, n_cl, n_lt, n_le, n_eq, n_add, n_mul, n_sub, n_eqm, n_meq, n_mm, n_mlt, n_mle, n_ltm, Option.bind_some, if_pos, if_neg, cF0 h, i_1, q1]
      rw [bc_n (Wf_5 hW (by omega)), n_add]
      rfl)
    (by
      unfold Wo_countNames_l4
      simp (disch := omega) only [si_e, si_ne, si_nj, sl_r, si_l, ga_n, n_cl, n_lt, n_le, n_eq, n_add, n_mul, n_sub, n_eqm, n_meq, n_mm, n_mlt, n_mle, n_ltm, Option.bind_some, if_pos, if_neg, cF0 h])
  rw [show iter (Wo_countNames_l4 11 m) (0, 0) = _ from h1]
  rfl
theorem countNames_m {m : Mm} {S : Sn} (h : RelM m S) (hW : Wf S) : Mo_namesNow m = some (nI (sumN (namesN S) (S 0 0)) / 2) := by
  have b0 := Wf_0 hW
  unfold Mo_namesNow
  have h1 := iter_all (step := Mo_namesNow_l4 m) (fun k => (nI (sumN (namesN S) k), nI k)) (S 0 0) (r := nI (sumN (namesN S) (S 0 0)))
    (fun k hk => by
      unfold Mo_namesNow_l4
      simp (disch := omega) only [si_e, si_ne, si_nj, sl_r, si_l, ga_n, n_cl, n_lt, n_le, n_eq, n_add, n_mul, n_sub, n_eqm, n_meq, n_mm, n_mlt, n_mle, n_ltm, Option.bind_some, if_pos, if_neg, rF0 h, i_1, rF5 h]
      rw [ones_n (Wf_5 hW (by omega))]
      simp (disch := omega) only [si_e, si_ne, si_nj, sl_r, si_l, ga_n, n_cl, n_lt, n_le, n_eq, n_add, n_mul, n_sub, n_eqm, n_meq, n_mm, n_mlt, n_mle, n_ltm, Option.bind_some, if_pos, if_neg]
      rfl)
    (by
      unfold Mo_namesNow_l4
      simp (disch := omega) only [si_e, si_ne, si_nj, sl_r, si_l, ga_n, n_cl, n_lt, n_le, n_eq, n_add, n_mul, n_sub, n_eqm, n_meq, n_mm, n_mlt, n_mle, n_ltm, Option.bind_some, if_pos, if_neg, rF0 h])
  rw [show iter (Mo_namesNow_l4 m) (0, 0) = _ from h1]
  rfl
theorem H9 : lwH9 Inv := by
  intro m1 m2 a1 hI
  obtain ⟨S, ld, it, hC, hM, hW, hL⟩ := id hI
  unfold NB_told Mo_told
  obtain ⟨c1, c2, c3⟩ := hold_c hC hW
  rw [c1, arms_m hM hW hL, countNames_c hC.1 hW, countNames_m hM.1 hW]
  dsimp only [Option.bind_some]
  rw [c3, arms_c hC hW]
  by_cases h0 : a1 = 0
  · rw [if_pos h0, if_pos h0]
    exact ⟨_, rfl, rfl, hI⟩
  rw [if_neg h0, if_neg h0]
  by_cases h1 : a1 = 1
  · rw [if_pos h1]
    exact ⟨_, rfl, rfl, hI⟩
  rw [if_neg h1]
  exact ⟨_, rfl, rfl, hI⟩
theorem free_c {m : Mm} {S : Sn} {ld : Nat → List Cl} {it : Nat → Nat → Int64} {p : Nat} (h : StC m S ld it) (hW : Wf S) (hL : ∀ j, j < S 41 0 → WL (ld j)) (hp : p < 7) : NB_hasArmFree m (nI p) = some (decide (onesN (S 5 p) < armsOf (holdL S ld))) := by
  obtain ⟨c1, c2, c3⟩ := hold_c h hW
  have q1 : m.1 (11 + 5) p = nI (S 5 p) := cF5 h.1 hp
  have ha := arms_le (hold_WL hW hL)
  have ho := onesN_le (S 5 p)
  unfold NB_hasArmFree
  rw [c1]
  dsimp only [Option.bind_some]
  rw [c3, arms_c h hW, gq_t]
  simp (disch := omega) only [si_e, si_ne, si_nj, sl_r, si_l, ga_n, n_cl, n_lt, n_le, n_eq, n_add, n_mul, n_sub, n_eqm, n_meq, n_mm, n_mlt, n_mle, n_ltm, Option.bind_some, if_pos, if_neg]
  rw [q1, bc_n (Wf_5 hW hp)]
  by_cases e : onesN (S 5 p) < armsOf (holdL S ld)
  · rw [decide_eq_true e, if_neg (by rw [n_le (by omega) (by omega)]; omega)]
  · rw [decide_eq_false e, if_pos (by rw [n_le (by omega) (by omega)]; omega)]
theorem H4 : lwH4 Inv := by
  intro m1 m2 a1 a2 hI
  obtain ⟨S, ld, it, hC, hM, hW, hL⟩ := id hI
  have b0 := Wf_0 hW
  unfold NB_name Mo_name
  rw [Wo_has_eq (cF0 hC.1) (by omega), Wo_has_eq (cF0 hC.1) (by omega), Mo_arePlaces_eq (rF0 hM.1) (by omega)]
  cases e1 : inR a1 (S 0 0) with
  | false => exact ⟨-1, m1, m2, rfl, rfl, hI⟩
  | true =>
  cases e2 : inR a2 (S 0 0) with
  | false => exact ⟨-1, m1, m2, rfl, rfl, hI⟩
  | true =>
  obtain ⟨p, hp, rfl⟩ := inR_ex e1 (by omega)
  obtain ⟨o, ho, rfl⟩ := inR_ex e2 (by omega)
  have hp7 : p < 7 := by omega
  have ho7 : o < 7 := by omega
  by_cases e3 : p = o
  · subst e3
    exact ⟨-2, m1, m2, by rw [if_pos rfl, if_pos rfl, if_pos rfl], by rw [Bool.and_self, if_pos rfl, if_pos rfl], hI⟩
  have e4 : ¬ nI p = nI o := by rw [n_eq (by omega) (by omega)]; exact e3
  simp only [Bool.and_self, e4, ↓reduceIte]
  rw [names_n hC.1 hW hp7 ho7, free_c hC hW hL hp7, free_c hC hW hL ho7]
  simp (disch := omega) only [si_e, si_ne, si_nj, sl_r, si_l, ga_n, n_cl, n_lt, n_le, n_eq, n_add, n_mul, n_sub, n_eqm, n_meq, n_mm, n_mlt, n_mle, n_ltm, Option.bind_some, if_pos, if_neg, rF5 hM.1 hp7, rF5 hM.1 ho7]
  rw [has_n (Wf_5 hW hp7) ho7, ones_n (Wf_5 hW hp7), ones_n (Wf_5 hW ho7), arms_m hM hW hL]
  dsimp only [Option.bind_some]
  have ha := arms_le (hold_WL hW hL)
  have o1 := onesN_le (S 5 p)
  have o2 := onesN_le (S 5 o)
  cases ht : (S 5 p).testBit o with
  | true => exact ⟨_, _, _, rfl, rfl, hI⟩
  | false =>
  by_cases f1 : onesN (S 5 p) < armsOf (holdL S ld)
  case neg =>
    have g1 : nI (armsOf (holdL S ld)) ≤ nI (onesN (S 5 p)) := (by rw [n_le (by omega) (by omega)]; omega)
    simp only [decide_eq_false f1, Bool.false_eq_true, g1, ↓reduceIte]
    exact ⟨_, _, _, rfl, rfl, hI⟩
  have g1 : ¬ nI (armsOf (holdL S ld)) ≤ nI (onesN (S 5 p)) := (by rw [n_le (by omega) (by omega)]; omega)
  simp only [decide_eq_true f1, Bool.false_eq_true, g1, ↓reduceIte]
  by_cases f2 : onesN (S 5 o) < armsOf (holdL S ld)
  case neg =>
    have g2 : ¬ nI (onesN (S 5 o)) < nI (armsOf (holdL S ld)) := (by rw [n_lt (by omega) (by omega)]; omega)
    simp only [decide_eq_false f2, Bool.false_eq_true, g2, ↓reduceIte]
    exact ⟨_, _, _, rfl, rfl, hI⟩
  have g2 : nI (onesN (S 5 o)) < nI (armsOf (holdL S ld)) := (by rw [n_lt (by omega) (by omega)]; omega)
  simp only [decide_eq_true f2, g2, ↓reduceIte]
  obtain ⟨x, x1, x2⟩ := turn_c hC hW hp7 ho7 e3
  obtain ⟨y, y1, y2⟩ := lays1_m hM hW hp7 ho7 e3 ht
  have hW2 := turn_Wf hW hp ho e3
  rw [x1, y1]
  have q1 : x.1 (11 + 5) p = nI (turnS S p o 5 p) := cF5 x2.1 hp7
  simp (disch := omega) only [si_e, si_ne, si_nj, sl_r, si_l, ga_n, n_cl, n_lt, n_le, n_eq, n_add, n_mul, n_sub, n_eqm, n_meq, n_mm, n_mlt, n_mle, n_ltm, Option.bind_some, if_pos, if_neg, rF5 y2.1 hp7, q1]
  rw [bc_n (Wf_5 hW2 hp7), ones_n (Wf_5 hW2 hp7)]
  refine ⟨_, _, _, rfl, rfl, turnS S p o, ld, it, x2, y2, hW2, ?_⟩
  unfold turnS
  simp (disch := omega) only [si_e, si_ne, si_nj, sl_r, si_l, ga_n, n_cl, n_lt, n_le, n_eq, n_add, n_mul, n_sub, n_eqm, n_meq, n_mm, n_mlt, n_mle, n_ltm, Option.bind_some, if_pos, if_neg, su_ne]
  exact hL
theorem cap_c {m : Mm} {S : Sn} (h : RelC m S) (hW : Wf S) : NB_capitals m = some (nI (bitsN (fun p => decide (namesN S p = mxN (namesN S) (S 0 0))) (S 0 0))) := by
  have b0 := Wf_0 hW
  unfold NB_capitals
  have hm := mxN_le (f := namesN S) (b := 7) (fun p => onesN_le _)
  have h1 := iter_all (step := NB_capitals_l6 m) (fun k => (nI (mxN (namesN S) k), nI (bitsN (fun p => decide (namesN S p = mxN (namesN S) k)) k), nI k)) (S 0 0) (r := nI (bitsN (fun p => decide (namesN S p = mxN (namesN S) (S 0 0))) (S 0 0)))
    (fun k hk => by
      have q1 : m.1 (11 + 5) k = nI (S 5 k) := cF5 h (by omega)
      have hmk := hm k
      have hok := onesN_le (S 5 k)
      unfold NB_capitals_l6 jn
      simp (disch := omega) only [si_e, si_ne, si_nj, sl_r, si_l, ga_n, n_cl, n_lt, n_le, n_eq, n_add, n_mul, n_sub, n_eqm, n_meq, n_mm, n_mlt, n_mle, n_ltm, Option.bind_some, if_pos, if_neg, cF0 h, i_1, q1]
      rw [bc_n (Wf_5 hW (by omega))]
      show _ = some (Sum.inl (nI (if namesN S k ≤ mxN (namesN S) k then mxN (namesN S) k else namesN S k), nI (if decide (namesN S k = (if namesN S k ≤ mxN (namesN S) k then mxN (namesN S) k else namesN S k)) = true then bitsN (fun p => decide (namesN S p = (if namesN S k ≤ mxN (namesN S) k then mxN (namesN S) k else namesN S k))) k ||| 2 ^ k else bitsN (fun p => decide (namesN S p = (if namesN S k ≤ mxN (namesN S) k then mxN (namesN S) k else namesN S k))) k), nI (k + 1)))
      by_cases e : onesN (S 5 k) ≤ mxN (namesN S) k
      · rw [if_pos (by rw [n_le (by omega) (by omega)]; omega), if_pos (show namesN S k ≤ mxN (namesN S) k from e)]
        by_cases e2 : onesN (S 5 k) = mxN (namesN S) k
        · rw [if_pos (by rw [n_eq (by omega) (by omega)]; omega), decide_eq_true (show namesN S k = mxN (namesN S) k from e2), if_pos rfl, i_1.symm, or_n (bitsN_lt _ k (by omega)) (by omega)]
        · rw [if_neg (by rw [n_eq (by omega) (by omega)]; omega), decide_eq_false (show ¬ namesN S k = mxN (namesN S) k from e2), if_neg (by decide)]
      · rw [if_neg (by rw [n_le (by omega) (by omega)]; omega), if_neg (show ¬ namesN S k ≤ mxN (namesN S) k from e)]
        have e3 : bitsN (fun p => decide (namesN S p = namesN S k)) k = 0 := bitsN_none k (fun p hp => by
          have h5 := mxN_ge (f := namesN S) k p hp
          have e' : ¬ namesN S k ≤ mxN (namesN S) k := e
          exact decide_eq_false (by omega))
        rw [if_pos trivial, decide_eq_true rfl, if_pos rfl, e3, i_1.symm, i_0, or_n (by omega) (by omega)]
        rfl)
    (by
      unfold NB_capitals_l6
      simp (disch := omega) only [si_e, si_ne, si_nj, sl_r, si_l, ga_n, n_cl, n_lt, n_le, n_eq, n_add, n_mul, n_sub, n_eqm, n_meq, n_mm, n_mlt, n_mle, n_ltm, Option.bind_some, if_pos, if_neg, cF0 h])
  rw [show iter (NB_capitals_l6 m) (0, 0, 0) = _ from h1]
  rfl
theorem cap_m {m : Mm} {S : Sn} (h : RelM m S) (hW : Wf S) : Mo_capitals m = some (nI (bitsN (fun p => decide (namesN S p = mxN (namesN S) (S 0 0))) (S 0 0))) := by
  have b0 := Wf_0 hW
  have hm := mxN_le (f := namesN S) (b := 7) (fun p => onesN_le _)
  unfold Mo_capitals
  have h1 := iter_all (step := Mo_capitals_l4 m) (fun k => (nI (mxN (namesN S) k), nI k)) (S 0 0) (r := nI (mxN (namesN S) (S 0 0)))
    (fun k hk => by
      have hmk := hm k
      have hok := onesN_le (S 5 k)
      unfold Mo_capitals_l4
      simp (disch := omega) only [si_e, si_ne, si_nj, sl_r, si_l, ga_n, n_cl, n_lt, n_le, n_eq, n_add, n_mul, n_sub, n_eqm, n_meq, n_mm, n_mlt, n_mle, n_ltm, Option.bind_some, if_pos, if_neg, rF0 h, i_1, rF5 h]
      rw [ones_n (Wf_5 hW (by omega))]
      show (if nI (onesN (S 5 k)) ≤ nI (mxN (namesN S) k) then _ else _) = some (Sum.inl (nI (if namesN S k ≤ mxN (namesN S) k then mxN (namesN S) k else namesN S k), nI (k + 1)))
      by_cases e : onesN (S 5 k) ≤ mxN (namesN S) k
      · rw [if_pos (by rw [n_le (by omega) (by omega)]; omega), if_pos (show namesN S k ≤ mxN (namesN S) k from e)]
      · rw [if_neg (by rw [n_le (by omega) (by omega)]; omega), if_neg (show ¬ namesN S k ≤ mxN (namesN S) k from e)]
        rfl)
    (by
      unfold Mo_capitals_l4
      simp (disch := omega) only [si_e, si_ne, si_nj, sl_r, si_l, ga_n, n_cl, n_lt, n_le, n_eq, n_add, n_mul, n_sub, n_eqm, n_meq, n_mm, n_mlt, n_mle, n_ltm, Option.bind_some, if_pos, if_neg, rF0 h])
  rw [show iter (Mo_capitals_l4 m) (0, 0) = _ from h1]
  dsimp only [Option.bind_some]
  have h2 := iter_all (step := Mo_capitals_l51 m (nI (mxN (namesN S) (S 0 0)))) (fun k => (nI (bitsN (fun p => decide (namesN S p = mxN (namesN S) (S 0 0))) k), nI k)) (S 0 0) (r := nI (bitsN (fun p => decide (namesN S p = mxN (namesN S) (S 0 0))) (S 0 0)))
    (fun k hk => by
      have hmk := hm (S 0 0)
      have hok := onesN_le (S 5 k)
      unfold Mo_capitals_l51
      simp (disch := omega) only [si_e, si_ne, si_nj, sl_r, si_l, ga_n, n_cl, n_lt, n_le, n_eq, n_add, n_mul, n_sub, n_eqm, n_meq, n_mm, n_mlt, n_mle, n_ltm, Option.bind_some, if_pos, if_neg, rF0 h, i_1, rF5 h]
      rw [ones_n (Wf_5 hW (by omega))]
      show (if nI (onesN (S 5 k)) = nI (mxN (namesN S) (S 0 0)) then _ else _) = some (Sum.inl (nI (if decide (namesN S k = mxN (namesN S) (S 0 0)) = true then bitsN (fun p => decide (namesN S p = mxN (namesN S) (S 0 0))) k ||| 2 ^ k else bitsN (fun p => decide (namesN S p = mxN (namesN S) (S 0 0))) k), nI (k + 1)))
      by_cases e : onesN (S 5 k) = mxN (namesN S) (S 0 0)
      · rw [if_pos (by rw [n_eq (by omega) (by omega)]; omega), decide_eq_true (show namesN S k = mxN (namesN S) (S 0 0) from e), if_pos rfl, i_1.symm, or_n (bitsN_lt _ k (by omega)) (by omega)]
      · rw [if_neg (by rw [n_eq (by omega) (by omega)]; omega), decide_eq_false (show ¬ namesN S k = mxN (namesN S) (S 0 0) from e), if_neg (by decide), Int32.or_zero])
    (by
      unfold Mo_capitals_l51
      simp (disch := omega) only [si_e, si_ne, si_nj, sl_r, si_l, ga_n, n_cl, n_lt, n_le, n_eq, n_add, n_mul, n_sub, n_eqm, n_meq, n_mm, n_mlt, n_mle, n_ltm, Option.bind_some, if_pos, if_neg, rF0 h])
  rw [show iter (Mo_capitals_l51 m (nI (mxN (namesN S) (S 0 0)))) (0, 0) = _ from h2]
  rfl
theorem H21 : lwH21 Inv := by
  intro m1 m2 hI
  obtain ⟨S, ld, it, hC, hM, hW, hL⟩ := id hI
  exact ⟨_, cap_c hC.1 hW, cap_m hM.1 hW, hI⟩
