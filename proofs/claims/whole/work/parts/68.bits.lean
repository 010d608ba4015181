-- ===== bits =====
def oneN (b : Bool) : Nat := if b = true then 1 else 0
def onesN (b : Nat) : Nat := oneN (b.testBit 0) + oneN (b.testBit 1) + oneN (b.testBit 2) + oneN (b.testBit 3) + oneN (b.testBit 4) + oneN (b.testBit 5) + oneN (b.testBit 6)
theorem onesN_le (b : Nat) : onesN b ≤ 7 := by
  have H : ∀ c : Bool, oneN c ≤ 1 := by decide
  have h0 := H (b.testBit 0)
  have h1 := H (b.testBit 1)
  have h2 := H (b.testBit 2)
  have h3 := H (b.testBit 3)
  have h4 := H (b.testBit 4)
  have h5 := H (b.testBit 5)
  have h6 := H (b.testBit 6)
  unfold onesN
  omega
theorem bc_n {b : Nat} (h : b < 128) : JI_bitCount (nI b) = nI (onesN b) := by
  have H : ∀ b : Fin 128, JI_bitCount (nI b.val) = nI (onesN b.val) := by decide +kernel
  exact H ⟨b, h⟩
theorem ones_n {b : Nat} (h : b < 128) : Mo_ones (nI b) = some (nI (onesN b)) := by
  have H : ∀ b : Fin 128, itN Mo_ones_l4 8 (0, nI b.val) = some (nI (onesN b.val)) := by decide +kernel
  unfold Mo_ones
  rw [iter_of (H ⟨b, h⟩)]
  rfl
theorem has_n {b p : Nat} (h : b < 128) (hp : p < 7) : Mo_has (nI b) (nI p) = b.testBit p := by
  have H : ∀ (b : Fin 128) (p : Fin 7), Mo_has (nI b.val) (nI p.val) = b.val.testBit p.val := by decide +kernel
  exact H ⟨b, h⟩ ⟨p, hp⟩
theorem and_n {b p : Nat} (h : b < 128) (hp : p < 7) : (nI b &&& (1 <<< (nI p &&& 31)) = 0) = (b.testBit p = false) := by
  have H : ∀ (b : Fin 128) (p : Fin 7), (nI b.val &&& (1 <<< (nI p.val &&& 31)) = 0) ↔ (b.val.testBit p.val = false) := by decide +kernel
  exact propext (H ⟨b, h⟩ ⟨p, hp⟩)
theorem xor_n {b p : Nat} (h : b < 128) (hp : p < 7) : nI b ^^^ (1 <<< (nI p &&& 31)) = nI (b ^^^ 2 ^ p) := by
  have H : ∀ (b : Fin 128) (p : Fin 7), nI b.val ^^^ (1 <<< (nI p.val &&& 31)) = nI (b.val ^^^ 2 ^ p.val) := by decide +kernel
  exact H ⟨b, h⟩ ⟨p, hp⟩
theorem or_n {b p : Nat} (h : b < 128) (hp : p < 7) : nI b ||| (1 <<< (nI p &&& 31)) = nI (b ||| 2 ^ p) := by
  have H : ∀ (b : Fin 128) (p : Fin 7), nI b.val ||| (1 <<< (nI p.val &&& 31)) = nI (b.val ||| 2 ^ p.val) := by decide +kernel
  exact H ⟨b, h⟩ ⟨p, hp⟩
theorem nn_n {b p : Nat} (h : b < 128) (hp : p < 7) (ht : b.testBit p = true) : nI b &&& ((1 <<< (nI p &&& 31)) ^^^ (-1)) = nI (b ^^^ 2 ^ p) := by
  have H : ∀ (b : Fin 128) (p : Fin 7), b.val.testBit p.val = true → nI b.val &&& ((1 <<< (nI p.val &&& 31)) ^^^ (-1)) = nI (b.val ^^^ 2 ^ p.val) := by decide +kernel
  exact H ⟨b, h⟩ ⟨p, hp⟩ ht
theorem orx_n {b p : Nat} (h : b < 128) (hp : p < 7) (ht : b.testBit p = false) : nI b ||| (1 <<< (nI p &&& 31)) = nI (b ^^^ 2 ^ p) := by
  have H : ∀ (b : Fin 128) (p : Fin 7), b.val.testBit p.val = false → nI b.val ||| (1 <<< (nI p.val &&& 31)) = nI (b.val ^^^ 2 ^ p.val) := by decide +kernel
  exact H ⟨b, h⟩ ⟨p, hp⟩ ht
theorem xor_lt {b p : Nat} (h : b < 128) (hp : p < 7) : b ^^^ 2 ^ p < 128 := by
  have H : ∀ (b : Fin 128) (p : Fin 7), b.val ^^^ 2 ^ p.val < 128 := by decide +kernel
  exact H ⟨b, h⟩ ⟨p, hp⟩
theorem or_lt {b p : Nat} (h : b < 128) (hp : p < 7) : b ||| 2 ^ p < 128 := by
  have H : ∀ (b : Fin 128) (p : Fin 7), b.val ||| 2 ^ p.val < 128 := by decide +kernel
  exact H ⟨b, h⟩ ⟨p, hp⟩
theorem xor_t {b p o : Nat} : (b ^^^ 2 ^ p).testBit o = (if p = o then !b.testBit o else b.testBit o) := by
  rw [Nat.testBit_xor, Nat.testBit_two_pow]
  by_cases e : p = o
  · rw [if_pos e, decide_eq_true e, Bool.xor_true]
  · rw [if_neg e, decide_eq_false e, Bool.xor_false]
theorem names_n {m : Mm} {S : Sn} {p o : Nat} (h : RelC m S) (hW : Wf S) (hp : p < 7) (ho : o < 7) : Wo_names 11 m (nI p) (nI o) = some ((S 5 p).testBit o) := by
  unfold Wo_names
  have q1 : m.1 (11 + 5) p = nI (S 5 p) := cF5 h hp
  simp (disch := omega) only [si_e, si_ne, si_nj, sl_r, si_l, ga_n, n_cl, n_lt, n_le, n_eq, n_add, n_mul, n_sub, n_eqm, n_meq, n_mm, n_mlt, n_mle, n_ltm, Option.bind_some, if_pos, if_neg, i_7]
  rw [q1]
  simp only [and_n (Wf_5 hW hp) ho]
  cases (S 5 p).testBit o with
  | false => rfl
  | true => rfl
/-- a pair's names turned -/
def turnS (S : Sn) (p o : Nat) : Sn := su (su S 5 p (S 5 p ^^^ 2 ^ o)) 5 o (S 5 o ^^^ 2 ^ p)
theorem turn_c {m : Mm} {S : Sn} {ld : Nat → List Cl} {it : Nat → Nat → Int64} {p o : Nat} (h : StC m S ld it) (hW : Wf S) (hp : p < 7) (ho : o < 7) (e : p ≠ o) : ∃ m', Wo_turnName 11 m (nI p) (nI o) = some m' ∧ StC m' (turnS S p o) ld it := by
  unfold Wo_turnName
  have q1 : m.1 (11 + 5) p = nI (S 5 p) := cF5 h.1 hp
  have q2 : m.1 (11 + 5) o = nI (S 5 o) := cF5 h.1 ho
  simp (disch := omega) only [si_e, si_ne, si_nj, sl_r, si_l, ga_n, n_cl, n_lt, n_le, n_eq, n_add, n_mul, n_sub, n_eqm, n_meq, n_mm, n_mlt, n_mle, n_ltm, Option.bind_some, if_pos, if_neg, i_7]
  rw [q1, q2, xor_n (Wf_5 hW hp) ho, xor_n (Wf_5 hW ho) hp]
  exact ⟨_, rfl, StC_set (f := 5) (i := o) (StC_set (f := 5) (i := p) h (Wf_41 hW) hp (by decide) rfl) (by simp (disch := omega) only [si_e, si_ne, si_nj, sl_r, si_l, ga_n, n_cl, n_lt, n_le, n_eq, n_add, n_mul, n_sub, n_eqm, n_meq, n_mm, n_mlt, n_mle, n_ltm, Option.bind_some, if_pos, if_neg, su_ne]; exact Wf_41 hW) ho (by decide) rfl⟩
theorem lays1_m {m : Mm} {S : Sn} {ld : Nat → List Cl} {it : Nat → Nat → Int64} {p o : Nat} (h : StM m S ld it) (hW : Wf S) (hp : p < 7) (ho : o < 7) (e : p ≠ o) (ht : (S 5 p).testBit o = false) : ∃ m', Mo_lays m (nI p) (nI o) 1 = some m' ∧ StM m' (turnS S p o) ld it := by
  unfold Mo_lays
  have q1 : m.1 4 p = nI (S 5 p) := rF5 h.1 hp
  have q2 : m.1 4 o = nI (S 5 o) := rF5 h.1 ho
  have n10 : ¬ (1 : Int32) = 0 := by decide
  simp only [n10, ↓reduceIte]
  simp (disch := omega) only [si_e, si_ne, si_nj, sl_r, si_l, ga_n, n_cl, n_lt, n_le, n_eq, n_add, n_mul, n_sub, n_eqm, n_meq, n_mm, n_mlt, n_mle, n_ltm, Option.bind_some, if_pos, if_neg, i_7]
  rw [q1, q2, orx_n (Wf_5 hW hp) ho ht, orx_n (Wf_5 hW ho) hp (by rw [← Wf_5s hW hp ho]; exact ht)]
  exact ⟨_, rfl, StM_set (f := 5) (i := o) (StM_set (f := 5) (i := p) h hp (by decide) rfl) ho (by decide) rfl⟩
theorem lays0_m {m : Mm} {S : Sn} {ld : Nat → List Cl} {it : Nat → Nat → Int64} {p o : Nat} (h : StM m S ld it) (hW : Wf S) (hp : p < 7) (ho : o < 7) (e : p ≠ o) (ht : (S 5 p).testBit o = true) : ∃ m', Mo_lays m (nI p) (nI o) 0 = some m' ∧ StM m' (turnS S p o) ld it := by
  unfold Mo_lays
  have q1 : m.1 4 p = nI (S 5 p) := rF5 h.1 hp
  have q2 : m.1 4 o = nI (S 5 o) := rF5 h.1 ho
  simp only [↓reduceIte]
  simp (disch := omega) only [si_e, si_ne, si_nj, sl_r, si_l, ga_n, n_cl, n_lt, n_le, n_eq, n_add, n_mul, n_sub, n_eqm, n_meq, n_mm, n_mlt, n_mle, n_ltm, Option.bind_some, if_pos, if_neg, i_7]
  rw [q1, q2, nn_n (Wf_5 hW hp) ho ht, nn_n (Wf_5 hW ho) hp (by rw [← Wf_5s hW hp ho]; exact ht)]
  exact ⟨_, rfl, StM_set (f := 5) (i := o) (StM_set (f := 5) (i := p) h hp (by decide) rfl) ho (by decide) rfl⟩
theorem turn_Wf {S : Sn} {p o : Nat} (hW : Wf S) (hp : p < S 0 0) (ho : o < S 0 0) (e : p ≠ o) : Wf (turnS S p o) := by
  have b0 := Wf_0 hW
  unfold turnS
  refine Wf_up hW ?_ (fun f hf => by funext i; simp (disch := omega) only [si_e, si_ne, si_nj, sl_r, si_l, ga_n, n_cl, n_lt, n_le, n_eq, n_add, n_mul, n_sub, n_eqm, n_meq, n_mm, n_mlt, n_mle, n_ltm, Option.bind_some, if_pos, if_neg, su_ne])
  have hW0 := hW.1
  unfold WfW at hW0 ⊢
  simp (disch := omega) only [su_ne]
  obtain ⟨a1, a2, a3, a4, a5, a6, a7, a8, a9⟩ := hW0
  refine ⟨a1, fun i hi => ⟨(a2 i hi).1, (a2 i hi).2.1, (a2 i hi).2.2.1, ?_⟩, a3, fun x y hx hy => ?_, a5, a6, a7, a8, a9⟩
  · rw [su_r]
    split
    · exact xor_lt (Wf_5 hW (by omega)) (by omega)
    · rw [su_r]
      split
      · exact xor_lt (Wf_5 hW (by omega)) (by omega)
      · exact (a2 i hi).2.2.2
  · have hz : S (0 + 0) 0 = S 0 0 := rfl
    have key : ∀ u v, u < 7 → v < 7 → (su (su S 5 p (S 5 p ^^^ 2 ^ o)) 5 o (S 5 o ^^^ 2 ^ p) (0 + 5) u).testBit v = (if (u = p ∧ v = o) ∨ (u = o ∧ v = p) then !(S 5 u).testBit v else (S 5 u).testBit v) := by
      intro u v hu hv
      by_cases e1 : u = o
      · subst e1
        rw [su_e rfl rfl, xor_t]
        by_cases e2 : p = v
        · rw [if_pos e2, if_pos (by omega)]
        · rw [if_neg e2, if_neg (by omega)]
      · by_cases e2 : u = p
        · subst e2
          rw [su_nj e1, su_e rfl rfl, xor_t]
          by_cases e3 : o = v
          · rw [if_pos e3, if_pos (by omega)]
          · rw [if_neg e3, if_neg (by omega)]
        · rw [su_nj e1, su_nj e2, if_neg (by omega)]
    rw [key x y hx hy, key y x hy hx, key x x hx hx, Wf_5s hW hx hy]
    refine ⟨?_, ?_, fun hn => ?_⟩
    · by_cases e1 : (x = p ∧ y = o) ∨ (x = o ∧ y = p)
      · rw [if_pos e1, if_pos (by omega)]
      · rw [if_neg e1, if_neg (by omega)]
    · rw [if_neg (by omega)]
      exact Wf_5d hW hx
    · simp (disch := omega) only [su_nj]
      exact Wf_5z hW hx hn
theorem H5 : lwH5 Inv := by
  intro m1 m2 a1 a2 hI
  obtain ⟨S, ld, it, hC, hM, hW, hL⟩ := id hI
  have b0 := Wf_0 hW
  unfold NB_strike Mo_strike
  rw [Wo_has_eq (cF0 hC.1) (by omega), Wo_has_eq (cF0 hC.1) (by omega), Mo_arePlaces_eq (rF0 hM.1) (by omega)]
  cases e1 : inR a1 (S 0 0) with
  | false => exact ⟨-1, m1, m2, rfl, rfl, hI⟩
  | true =>
  cases e2 : inR a2 (S 0 0) with
  | false => exact ⟨-1, m1, m2, rfl, rfl, hI⟩
  | true =>
  obtain ⟨p, hp, rfl⟩ := inR_ex e1 (by omega)
  obtain ⟨o, ho, rfl⟩ := inR_ex e2 (by omega)
  have hp7 : p < 7 := by omega
  have ho7 : o < 7 := by omega
  simp (disch := omega) only [si_e, si_ne, si_nj, sl_r, si_l, ga_n, n_cl, n_lt, n_le, n_eq, n_add, n_mul, n_sub, n_eqm, n_meq, n_mm, n_mlt, n_mle, n_ltm, Option.bind_some, if_pos, if_neg, names_n hC.1 hW hp7 ho7, Bool.and_self, ↓reduceIte, i_7, rF5 hM.1 hp7]
  rw [has_n (Wf_5 hW hp7) ho7]
  cases ht : (S 5 p).testBit o with
  | false => exact ⟨_, _, _, rfl, rfl, hI⟩
  | true =>
  have e : p ≠ o := by
    intro q
    rw [← q, Wf_5d hW hp7] at ht
    cases ht
  obtain ⟨x, x1, x2⟩ := turn_c hC hW hp7 ho7 e
  obtain ⟨y, y1, y2⟩ := lays0_m hM hW hp7 ho7 e ht
  have hW2 := turn_Wf hW hp ho e
  rw [x1, y1]
  have q1 : x.1 (11 + 5) p = nI (turnS S p o 5 p) := cF5 x2.1 hp7
  simp (disch := omega) only [si_e, si_ne, si_nj, sl_r, si_l, ga_n, n_cl, n_lt, n_le, n_eq, n_add, n_mul, n_sub, n_eqm, n_meq, n_mm, n_mlt, n_mle, n_ltm, Option.bind_some, if_pos, if_neg, ↓reduceIte, rF5 y2.1 hp7, q1]
  rw [bc_n (Wf_5 hW2 hp7), ones_n (Wf_5 hW2 hp7)]
  refine ⟨_, _, _, rfl, rfl, turnS S p o, ld, it, x2, y2, hW2, ?_⟩
  unfold turnS
  simp (disch := omega) only [si_e, si_ne, si_nj, sl_r, si_l, ga_n, n_cl, n_lt, n_le, n_eq, n_add, n_mul, n_sub, n_eqm, n_meq, n_mm, n_mlt, n_mle, n_ltm, Option.bind_some, if_pos, if_neg, su_ne]
  exact hL
