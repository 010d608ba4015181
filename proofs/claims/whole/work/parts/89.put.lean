-- ===== put, worst =====
abbrev Bs : Type := Option Nat × Nat
def tr1 (f : Bs → Nat → Nat → Bs) (s : Bs) (p : Nat) : Nat → Bs
  | 0 => s
  | d + 1 => f (tr1 f s p d) p (p + 1 + d)
def tr2 (f : Bs → Nat → Nat → Bs) (n : Nat) (s : Bs) : Nat → Bs
  | 0 => s
  | p + 1 => tr1 f (tr2 f n s p) p (n - 1 - p)
theorem tri {st1 : Int32 × Int32 × Int32 × Mm → Option ((Int32 × Int32 × Int32 × Mm) ⊕ (Int32 × Int32 × Mm))} {st2 : Int32 × Int32 × Int32 × Mm → Int32 × Int32 × Int32 × Mm → Option ((Int32 × Int32 × Int32 × Mm) ⊕ (Int32 × Int32 × Mm))} {n : Nat} (P : Mm → Prop) (e : Bs → Int32 × Int32) (f : Bs → Nat → Nat → Bs) (ok : Bs → Prop) {s0 : Bs}
    (h1 : ∀ a b p m, p < n → P m → st1 (a, b, nI p, m) = (iter (st2 (a, b, nI p, m)) (a, b, nI p + 1, m)).bind fun e4 => some (.inl (e4.1, e4.2.1, nI p + 1, e4.2.2)))
    (h1e : ∀ a b m, P m → st1 (a, b, nI n, m) = some (.inr (a, b, m)))
    (h2 : ∀ a b m0 s p o m, p < o → o < n → P m → ok s → ∃ m', st2 (a, b, nI p, m0) ((e s).1, (e s).2, nI o, m) = some (.inl ((e (f s p o)).1, (e (f s p o)).2, nI (o + 1), m')) ∧ P m' ∧ ok (f s p o))
    (h2e : ∀ a b m0 a' b' p m, P m → st2 (a, b, nI p, m0) (a', b', nI n, m) = some (.inr (a', b', m)))
    {m : Mm} (h0 : P m) (hok : ok s0) : ∃ m', iter st1 ((e s0).1, (e s0).2, 0, m) = some ((e (tr2 f n s0 n)).1, (e (tr2 f n s0 n)).2, m') ∧ P m' ∧ ok (tr2 f n s0 n) := by
  obtain ⟨r, q1, q2⟩ := iter_for (step := st1) (fun p s => ∃ m', s = ((e (tr2 f n s0 p)).1, (e (tr2 f n s0 p)).2, nI p, m') ∧ P m' ∧ ok (tr2 f n s0 p)) n (fun r => ∃ m', r = ((e (tr2 f n s0 n)).1, (e (tr2 f n s0 n)).2, m') ∧ P m' ∧ ok (tr2 f n s0 n))
    (by
      rintro p s hp ⟨m', rfl, hP, hk⟩
      obtain ⟨r, g1, g2⟩ := iter_for (step := st2 ((e (tr2 f n s0 p)).1, (e (tr2 f n s0 p)).2, nI p, m')) (fun d s => ∃ m2, s = ((e (tr1 f (tr2 f n s0 p) p d)).1, (e (tr1 f (tr2 f n s0 p) p d)).2, nI (p + 1 + d), m2) ∧ P m2 ∧ ok (tr1 f (tr2 f n s0 p) p d)) (n - 1 - p) (fun r => ∃ m', r = ((e (tr2 f n s0 (p + 1))).1, (e (tr2 f n s0 (p + 1))).2, m') ∧ P m' ∧ ok (tr2 f n s0 (p + 1)))
        (by
          rintro d s hd ⟨m2, rfl, hP2, hk2⟩
          obtain ⟨m3, k1, k2, k3⟩ := h2 (e (tr2 f n s0 p)).1 (e (tr2 f n s0 p)).2 m' (tr1 f (tr2 f n s0 p) p d) p (p + 1 + d) m2 (by omega) (by omega) hP2 hk2
          exact ⟨_, k1, m3, rfl, k2, k3⟩)
        (by
          rintro s ⟨m2, rfl, hP2, hk2⟩
          refine ⟨_, ?_, m2, rfl, hP2, hk2⟩
          rw [show p + 1 + (n - 1 - p) = n by omega]
          exact h2e _ _ _ _ _ p m2 hP2) 0 ((e (tr2 f n s0 p)).1, (e (tr2 f n s0 p)).2, nI p + 1, m') (by omega) ⟨m', by rw [← nI_succ]; rfl, hP, hk⟩
      obtain ⟨m2, rfl, hP2, hk2⟩ := g2
      rw [h1 _ _ p m' hp hP, g1]
      exact ⟨_, rfl, m2, by rw [nI_succ p], hP2, hk2⟩)
    (by
      rintro s ⟨m', rfl, hP, hk⟩
      exact ⟨_, h1e _ _ m' hP, m', rfl, hP, hk⟩) 0 ((e s0).1, (e s0).2, 0, m) (by omega) ⟨m, rfl, h0, hok⟩
  obtain ⟨m', rfl, hP, hk⟩ := q2
  exact ⟨m', q1, hP, hk⟩
theorem turn_turn {S : Sn} {p o : Nat} (e : p ≠ o) : turnS (turnS S p o) p o = S := by
  have x : ∀ a b : Nat, a ^^^ b ^^^ b = a := fun a b => by rw [Nat.xor_assoc, Nat.xor_self, Nat.xor_zero]
  have g1 : turnS S p o 5 p = S 5 p ^^^ 2 ^ o := by
    unfold turnS
    rw [su_nj e, su_e rfl rfl]
  have g2 : turnS S p o 5 o = S 5 o ^^^ 2 ^ p := by
    unfold turnS
    rw [su_e rfl rfl]
  funext a b
  show su (su (turnS S p o) 5 p (turnS S p o 5 p ^^^ 2 ^ o)) 5 o (turnS S p o 5 o ^^^ 2 ^ p) a b = S a b
  rw [g1, g2, x, x, su_r]
  by_cases h1 : a = 5 ∧ b = o
  · rw [if_pos h1, h1.1, h1.2]
  rw [if_neg h1, su_r]
  by_cases h2 : a = 5 ∧ b = p
  · rw [if_pos h2, h2.1, h2.2]
  rw [if_neg h2]
  unfold turnS
  rw [su_r, if_neg h1, su_r, if_neg h2]
theorem turn_hold {S : Sn} {ld : Nat → List Cl} {p o : Nat} : holdL (turnS S p o) ld = holdL S ld := by
  unfold holdL turnS
  rw [su_ne (by decide), su_ne (by decide)]
theorem turn_ne {S : Sn} {p o f i : Nat} (h : f ≠ 5) : turnS S p o f i = S f i := by
  unfold turnS
  rw [su_ne h, su_ne h]
theorem turn_bit {S : Sn} {p o : Nat} (e : p ≠ o) : (turnS S p o 5 p).testBit o = !(S 5 p).testBit o := by
  unfold turnS
  rw [su_nj e, su_e rfl rfl, xor_t, if_pos rfl]
theorem LP_le {S : Sn} {L : List Cl} {fa : Fa} (hW : Wf S) : LPa S L fa ≤ 49 := by
  have b0 := Wf_0 hW
  unfold LPa
  have h1 : ∀ p, sumN (lostV S L fa p) (S 0 0) ≤ 7 := fun p => by
    have := sumN_le (f := lostV S L fa p) (b := 1) (fun o => by unfold lostV; split <;> omega) (S 0 0)
    omega
  have := sumN_le h1 (S 0 0)
  omega
def cst (S : Sn) (L : List Cl) (p o : Nat) : Nat := LPa (turnS S p o) L none
/-- a pair is turned, looked at, turned back: the class -/
theorem cost_c {m : Mm} {S : Sn} {ld : Nat → List Cl} {it : Nat → Nat → Int64} {p o : Nat} (hC : StC m S ld it) (hW : Wf S) (hL : ∀ j, j < S 41 0 → WL (ld j)) (hp : p < S 0 0) (ho : o < S 0 0) (e : p ≠ o) : ∃ ma mb mc md, Wo_turnName 11 m (nI p) (nI o) = some ma ∧ NB_look ma = some mb ∧ Jo_lostPairs mb = some (nI (cst S (holdL S ld) p o), mc) ∧ Wo_turnName 11 mc (nI p) (nI o) = some md ∧ StC md S ld it := by
  have b0 := Wf_0 hW
  have hp7 : p < 7 := by omega
  have ho7 : o < 7 := by omega
  have hW2 := turn_Wf hW hp ho e
  have hL2 : ∀ j, j < turnS S p o 41 0 → WL (ld j) := fun j hj => hL j (by rw [turn_ne (by decide)] at hj; exact hj)
  obtain ⟨ma, a1, a2⟩ := turn_c hC hW hp7 ho7 e
  obtain ⟨mb, b1, b2, b3, b4⟩ := look_0 a2 hW2 hL2
  obtain ⟨mc, c1, c2⟩ := lostP_c b4 b3 hW2 (hold_WL hW2 hL2)
  have sC := StC_same a2 ((fr_SC b2).tr (fr_WC c2)) (Wf_41 hW2)
  obtain ⟨md, d1, d2⟩ := turn_c sC hW2 hp7 ho7 e
  rw [turn_turn e] at d2
  rw [turn_hold] at c1
  exact ⟨ma, mb, mc, md, a1, b1, c1, d1, d2⟩
theorem cost_m {m : Mm} {S : Sn} {ld : Nat → List Cl} {it : Nat → Nat → Int64} (hM : StM m S ld it) (hW : Wf S) (hL : ∀ j, j < S 41 0 → WL (ld j)) : ∃ mc, Mo_lostPairs m = some (nI (LPa S (holdL S ld) none), mc) ∧ StM mc S ld it := by
  obtain ⟨m2'', v1, v2, v3⟩ := lostP_m (fa := none) (KM_of hM hW) hW (hold_WL hW hL) trivial ⟨by rw [rF48 hM.1, Wf_48 hW]; rfl, by rw [rF49 hM.1, Wf_49 hW]; rfl⟩
  exact ⟨_, v1, StM_same hM v2⟩
theorem costU_m {m : Mm} {S : Sn} {ld : Nat → List Cl} {it : Nat → Nat → Int64} {p o : Nat} (hM : StM m S ld it) (hW : Wf S) (hL : ∀ j, j < S 41 0 → WL (ld j)) (hp : p < S 0 0) (ho : o < S 0 0) (e : p ≠ o) (ht : nmd S p o = false) : ∃ ma mb mc, Mo_lays m (nI p) (nI o) 1 = some ma ∧ Mo_lostPairs ma = some (nI (cst S (holdL S ld) p o), mb) ∧ Mo_lays mb (nI p) (nI o) 0 = some mc ∧ StM mc S ld it := by
  have b0 := Wf_0 hW
  have hp7 : p < 7 := by omega
  have ho7 : o < 7 := by omega
  have hW2 := turn_Wf hW hp ho e
  have hL2 : ∀ j, j < turnS S p o 41 0 → WL (ld j) := fun j hj => hL j (by rw [turn_ne (by decide)] at hj; exact hj)
  obtain ⟨ma, a1, a2⟩ := lays1_m hM hW hp7 ho7 e ht
  obtain ⟨mb, b1, b2⟩ := cost_m a2 hW2 hL2
  obtain ⟨mc, c1, c2⟩ := lays0_m b2 hW2 hp7 ho7 e (by rw [turn_bit e]; rw [show (S 5 p).testBit o = false from ht]; rfl)
  rw [turn_turn e] at c2
  rw [turn_hold] at b1
  exact ⟨ma, mb, mc, a1, b1, c1, c2⟩
theorem costD_m {m : Mm} {S : Sn} {ld : Nat → List Cl} {it : Nat → Nat → Int64} {p o : Nat} (hM : StM m S ld it) (hW : Wf S) (hL : ∀ j, j < S 41 0 → WL (ld j)) (hp : p < S 0 0) (ho : o < S 0 0) (e : p ≠ o) (ht : nmd S p o = true) : ∃ ma mb mc, Mo_lays m (nI p) (nI o) 0 = some ma ∧ Mo_lostPairs ma = some (nI (cst S (holdL S ld) p o), mb) ∧ Mo_lays mb (nI p) (nI o) 1 = some mc ∧ StM mc S ld it := by
  have b0 := Wf_0 hW
  have hp7 : p < 7 := by omega
  have ho7 : o < 7 := by omega
  have hW2 := turn_Wf hW hp ho e
  have hL2 : ∀ j, j < turnS S p o 41 0 → WL (ld j) := fun j hj => hL j (by rw [turn_ne (by decide)] at hj; exact hj)
  obtain ⟨ma, a1, a2⟩ := lays0_m hM hW hp7 ho7 e ht
  obtain ⟨mb, b1, b2⟩ := cost_m a2 hW2 hL2
  obtain ⟨mc, c1, c2⟩ := lays1_m b2 hW2 hp7 ho7 e (by rw [turn_bit e]; rw [show (S 5 p).testBit o = true from ht]; rfl)
  rw [turn_turn e] at c2
  rw [turn_hold] at b1
  exact ⟨ma, mb, mc, a1, b1, c1, c2⟩
def mayN (S : Sn) (L : List Cl) (p o : Nat) : Bool := !nmd S p o && (decide (onesN (S 5 p) < armsOf L) && decide (onesN (S 5 o) < armsOf L))
def ptI (S : Sn) (L : List Cl) (s : Bs) (p o : Nat) : Bs := if mayN S L p o = true ∧ (s.1 = none ∨ cst S L p o < s.2) then (some (10 * p + o), cst S L p o) else s
def wsI (S : Sn) (L : List Cl) (s : Bs) (p o : Nat) : Bs := if nmd S p o = true ∧ (s.1 = none ∨ s.2 < cst S L p o) then (some (10 * p + o), cst S L p o) else s
def bsC (s : Bs) : Int32 × Int32 := match s.1 with
  | none => (-5, -5)
  | some k => (nI k, nI s.2)
def bsM (s : Bs) : Int32 × Int32 := match s.1 with
  | none => (-5, 0)
  | some k => (nI k, nI s.2)
def bsOk (s : Bs) : Prop := (∀ k, s.1 = some k → k < 100) ∧ s.2 ≤ 49
theorem may_c {m : Mm} {S : Sn} {ld : Nat → List Cl} {it : Nat → Nat → Int64} {p o : Nat} (hC : StC m S ld it) (hW : Wf S) (hL : ∀ j, j < S 41 0 → WL (ld j)) (hp : p < 7) (ho : o < 7) : NB_mayName m (nI p) (nI o) = some (mayN S (holdL S ld) p o) := by
  unfold NB_mayName mayN
  rw [namesW (WC_of hC.1) hW hp ho, free_c hC hW hL hp, free_c hC hW hL ho]
  simp only [Option.bind_some]
  cases nmd S p o <;> cases decide (onesN (S 5 p) < armsOf (holdL S ld)) <;> cases decide (onesN (S 5 o) < armsOf (holdL S ld)) <;> rfl
theorem cneg5 {k : Nat} (hk : k < 2 ^ 31) : ¬ nI k = -5 := cne (k := 5) hk (by decide) (by decide)
theorem best_c {m : Mm} {S : Sn} {ld : Nat → List Cl} {it : Nat → Nat → Int64} (hC : StC m S ld it) (hW : Wf S) (hL : ∀ j, j < S 41 0 → WL (ld j)) (up : Int32) (f : Bs → Nat → Nat → Bs) (hf : (up = 1 ∧ f = ptI S (holdL S ld)) ∨ (up = 0 ∧ f = wsI S (holdL S ld))) : ∃ m', iter (NB_bestTurn_l10 up) ((-5), (-5), 0, m) = some ((bsC (tr2 f (S 0 0) (none, 0) (S 0 0))).1, (bsC (tr2 f (S 0 0) (none, 0) (S 0 0))).2, m') ∧ StC m' S ld it ∧ bsOk (tr2 f (S 0 0) (none, 0) (S 0 0)) := by
  have b0 := Wf_0 hW
  refine tri (st1 := NB_bestTurn_l10 up) (st2 := NB_bestTurn_l28 up) (n := S 0 0) (fun m => StC m S ld it) bsC f bsOk (s0 := (none, 0)) ?_ ?_ ?_ ?_ hC ⟨fun k h => (by cases h), Nat.zero_le _⟩
  · intro a b p m hp hP
    unfold NB_bestTurn_l10
    dsimp only
    rw [cF0 hP.1, if_neg (by rw [n_le (by omega) (by omega)]; omega)]
  · intro a b m hP
    unfold NB_bestTurn_l10
    dsimp only
    rw [cF0 hP.1, if_pos (by rw [n_le (by omega) (by omega)]; omega)]
  · intro a b m0 s p o m hpo ho hP hk
    obtain ⟨ma, mb, mc, md, c1, c2, c3, c4, c5⟩ := cost_c hP hW hL (show p < S 0 0 by omega) ho (by omega)
    have hle : cst S (holdL S ld) p o ≤ 49 := LP_le (turn_Wf hW (show p < S 0 0 by omega) ho (by omega))
    have hk10 : 10 * p + o < 100 := by omega
    have hnew : bsOk (some (10 * p + o), cst S (holdL S ld) p o) := ⟨fun k h => (by cases h; exact hk10), hle⟩
    unfold NB_bestTurn_l28 jn
    dsimp only
    rw [cF0 hP.1, if_neg (by rw [n_le (by omega) (by omega)]; omega), c1]
    simp only [Option.bind_some]
    rw [c2]
    simp only [Option.bind_some]
    rw [c3]
    simp only [Option.bind_some]
    rw [c4, namesW (WC_of hP.1) hW (by omega) (by omega), may_c hP hW hL (by omega) (by omega)]
    simp only [Option.bind_some, i_10, i_1, n_mul, n_add]
    rcases hf with ⟨rfl, rfl⟩ | ⟨rfl, rfl⟩
    · rw [if_neg (show ¬ (1 : Int32) = 0 by decide), if_neg (show ¬ (1 : Int32) = 0 by decide)]
      unfold ptI
      cases hm : mayN S (holdL S ld) p o with
      | false =>
        rw [if_neg (by decide), if_neg (fun q => absurd q.1 (by decide))]
        exact ⟨m, rfl, hP, hk⟩
      | true =>
        rw [if_pos rfl]
        obtain ⟨s1, s2⟩ := s
        match s1, hk with
        | none, hk =>
          rw [if_pos (show (bsC (none, s2)).1 = -5 from rfl), if_pos ⟨rfl, Or.inl rfl⟩]
          exact ⟨md, rfl, c5, hnew⟩
        | some k, hk =>
          have hk1 := hk.1 k rfl
          have hk2 : s2 ≤ 49 := hk.2
          rw [if_neg (show ¬ (bsC (some k, s2)).1 = -5 from cneg5 (by omega))]
          by_cases g : cst S (holdL S ld) p o < s2
          · rw [if_neg (show ¬ (bsC (some k, s2)).2 ≤ nI (cst S (holdL S ld) p o) from (show ¬ nI s2 ≤ nI (cst S (holdL S ld) p o) from (by rw [n_le (by omega) (by omega)]; omega))), if_pos ⟨rfl, Or.inr g⟩]
            exact ⟨md, rfl, c5, hnew⟩
          · rw [if_pos (show (bsC (some k, s2)).2 ≤ nI (cst S (holdL S ld) p o) from (show nI s2 ≤ nI (cst S (holdL S ld) p o) from (by rw [n_le (by omega) (by omega)]; omega))), if_neg (fun q => q.2.elim (fun q => by cases q) g)]
            exact ⟨md, rfl, c5, hk⟩
    · rw [if_pos (show (0 : Int32) = 0 by rfl)]
      unfold wsI
      cases hm : nmd S p o with
      | false =>
        rw [if_neg (by decide), if_neg (fun q => absurd q.1 (by decide))]
        exact ⟨m, rfl, hP, hk⟩
      | true =>
        rw [if_pos rfl]
        obtain ⟨s1, s2⟩ := s
        match s1, hk with
        | none, hk =>
          rw [if_pos (show (bsC (none, s2)).1 = -5 from rfl), if_pos ⟨rfl, Or.inl rfl⟩]
          exact ⟨md, rfl, c5, hnew⟩
        | some k, hk =>
          have hk1 := hk.1 k rfl
          have hk2 : s2 ≤ 49 := hk.2
          rw [if_neg (show ¬ (bsC (some k, s2)).1 = -5 from cneg5 (by omega)), if_pos (show (0 : Int32) = 0 by rfl)]
          by_cases g : s2 < cst S (holdL S ld) p o
          · rw [if_neg (show ¬ nI (cst S (holdL S ld) p o) ≤ (bsC (some k, s2)).2 from (show ¬ nI (cst S (holdL S ld) p o) ≤ nI s2 from (by rw [n_le (by omega) (by omega)]; omega))), if_pos ⟨rfl, Or.inr g⟩]
            exact ⟨md, rfl, c5, hnew⟩
          · rw [if_pos (show nI (cst S (holdL S ld) p o) ≤ (bsC (some k, s2)).2 from (show nI (cst S (holdL S ld) p o) ≤ nI s2 from (by rw [n_le (by omega) (by omega)]; omega))), if_neg (fun q => q.2.elim (fun q => by cases q) g)]
            exact ⟨md, rfl, c5, hk⟩
  · intro a b m0 a' b' p m hP
    unfold NB_bestTurn_l28
    dsimp only
    rw [cF0 hP.1, if_pos (by rw [n_le (by omega) (by omega)]; omega)]
theorem put_m {m : Mm} {S : Sn} {ld : Nat → List Cl} {it : Nat → Nat → Int64} (hM : StM m S ld it) (hW : Wf S) (hL : ∀ j, j < S 41 0 → WL (ld j)) : ∃ m', iter Mo_put_l20 ((-5), 0, 0, m) = some ((bsM (tr2 (ptI S (holdL S ld)) (S 0 0) (none, 0) (S 0 0))).1, (bsM (tr2 (ptI S (holdL S ld)) (S 0 0) (none, 0) (S 0 0))).2, m') ∧ StM m' S ld it ∧ bsOk (tr2 (ptI S (holdL S ld)) (S 0 0) (none, 0) (S 0 0)) := by
  have b0 := Wf_0 hW
  have ha := arms_le (hold_WL hW hL)
  refine tri (st1 := Mo_put_l20) (st2 := Mo_put_l35) (n := S 0 0) (fun m => StM m S ld it) bsM (ptI S (holdL S ld)) bsOk (s0 := (none, 0)) ?_ ?_ ?_ ?_ hM ⟨fun k h => (by cases h), Nat.zero_le _⟩
  · intro a b p m hp hP
    unfold Mo_put_l20
    dsimp only
    rw [rF0 hP.1, if_neg (by rw [n_le (by omega) (by omega)]; omega)]
  · intro a b m hP
    unfold Mo_put_l20
    dsimp only
    rw [rF0 hP.1, if_pos (by rw [n_le (by omega) (by omega)]; omega)]
  · intro a b m0 s p o m hpo ho hP hk
    have hle : cst S (holdL S ld) p o ≤ 49 := LP_le (turn_Wf hW (show p < S 0 0 by omega) ho (by omega))
    have hk10 : 10 * p + o < 100 := by omega
    have hnew : bsOk (some (10 * p + o), cst S (holdL S ld) p o) := ⟨fun k h => (by cases h; exact hk10), hle⟩
    have o1 := onesN_le (S 5 p)
    have o2 := onesN_le (S 5 o)
    unfold Mo_put_l35 jn
    dsimp only
    rw [rF0 hP.1, if_neg (by rw [n_le (by omega) (by omega)]; omega)]
    simp (disch := omega) only [ga_n, n_cl]
    rw [rF5 hP.1 (by omega), rF5 hP.1 (by omega), has_n (Wf_5 hW (by omega)) (by omega), ones_n (Wf_5 hW (by omega)), ones_n (Wf_5 hW (by omega)), arms_m hP hW hL, show (S 5 p).testBit o = nmd S p o from rfl]
    simp (disch := omega) only [Option.bind_some, n_le, n_lt]
    unfold ptI mayN
    cases hm : nmd S p o with
    | true =>
      rw [if_pos rfl, if_neg (fun q => absurd q.1 (by simp))]
      exact ⟨m, by rw [i_1, n_add], hP, hk⟩
    | false =>
      rw [if_neg (by decide)]
      by_cases g1 : onesN (S 5 p) < armsOf (holdL S ld)
      case neg =>
        rw [if_pos (by omega), decide_eq_false g1, if_neg (fun q => absurd q.1 (by simp))]
        exact ⟨m, by rw [i_1, n_add], hP, hk⟩
      rw [if_neg (by omega), decide_eq_true g1]
      by_cases g2 : onesN (S 5 o) < armsOf (holdL S ld)
      case neg =>
        rw [if_neg g2, decide_eq_false g2, if_neg (fun q => absurd q.1 (by simp))]
        exact ⟨m, by rw [i_1, n_add], hP, hk⟩
      rw [if_pos g2, decide_eq_true g2]
      obtain ⟨ma, mb, mc, c1, c2, c3, c4⟩ := costU_m hP hW hL (show p < S 0 0 by omega) ho (by omega) hm
      rw [c1]
      simp only [Option.bind_some]
      rw [c2]
      simp only [Option.bind_some]
      rw [c3]
      simp only [Option.bind_some, i_10, i_1, n_mul, n_add]
      obtain ⟨s1, s2⟩ := s
      match s1, hk with
      | none, hk =>
        rw [if_pos (show (bsM (none, s2)).1 < 0 by show (-5 : Int32) < 0; decide), if_pos ⟨rfl, Or.inl rfl⟩]
        exact ⟨mc, rfl, c4, hnew⟩
      | some k, hk =>
        have hk1 := hk.1 k rfl
        have hk2 : s2 ≤ 49 := hk.2
        rw [if_neg (show ¬ (bsM (some k, s2)).1 < 0 from nI_pos (by omega))]
        by_cases g : cst S (holdL S ld) p o < s2
        · rw [if_pos (show nI (cst S (holdL S ld) p o) < (bsM (some k, s2)).2 from (show nI (cst S (holdL S ld) p o) < nI s2 from (by rw [n_lt (by omega) (by omega)]; omega))), if_pos ⟨rfl, Or.inr g⟩]
          exact ⟨mc, rfl, c4, hnew⟩
        · rw [if_neg (show ¬ nI (cst S (holdL S ld) p o) < (bsM (some k, s2)).2 from (show ¬ nI (cst S (holdL S ld) p o) < nI s2 from (by rw [n_lt (by omega) (by omega)]; omega))), if_neg (fun q => q.2.elim (fun q => by cases q) g)]
          exact ⟨mc, rfl, c4, hk⟩
  · intro a b m0 a' b' p m hP
    unfold Mo_put_l35
    dsimp only
    rw [rF0 hP.1, if_pos (by rw [n_le (by omega) (by omega)]; omega)]
theorem worst_m {m : Mm} {S : Sn} {ld : Nat → List Cl} {it : Nat → Nat → Int64} (hM : StM m S ld it) (hW : Wf S) (hL : ∀ j, j < S 41 0 → WL (ld j)) : ∃ m', iter Mo_worst_l20 ((-5), 0, 0, m) = some ((bsM (tr2 (wsI S (holdL S ld)) (S 0 0) (none, 0) (S 0 0))).1, (bsM (tr2 (wsI S (holdL S ld)) (S 0 0) (none, 0) (S 0 0))).2, m') ∧ StM m' S ld it ∧ bsOk (tr2 (wsI S (holdL S ld)) (S 0 0) (none, 0) (S 0 0)) := by
  have b0 := Wf_0 hW
  refine tri (st1 := Mo_worst_l20) (st2 := Mo_worst_l35) (n := S 0 0) (fun m => StM m S ld it) bsM (wsI S (holdL S ld)) bsOk (s0 := (none, 0)) ?_ ?_ ?_ ?_ hM ⟨fun k h => (by cases h), Nat.zero_le _⟩
  · intro a b p m hp hP
    unfold Mo_worst_l20
    dsimp only
    rw [rF0 hP.1, if_neg (by rw [n_le (by omega) (by omega)]; omega)]
  · intro a b m hP
    unfold Mo_worst_l20
    dsimp only
    rw [rF0 hP.1, if_pos (by rw [n_le (by omega) (by omega)]; omega)]
  · intro a b m0 s p o m hpo ho hP hk
    have hle : cst S (holdL S ld) p o ≤ 49 := LP_le (turn_Wf hW (show p < S 0 0 by omega) ho (by omega))
    have hk10 : 10 * p + o < 100 := by omega
    have hnew : bsOk (some (10 * p + o), cst S (holdL S ld) p o) := ⟨fun k h => (by cases h; exact hk10), hle⟩
    unfold Mo_worst_l35 jn
    dsimp only
    rw [rF0 hP.1, if_neg (by rw [n_le (by omega) (by omega)]; omega), ga_n (by omega) (by omega), n_cl (by omega), rF5 hP.1 (by omega), has_n (Wf_5 hW (by omega)) (by omega), show (S 5 p).testBit o = nmd S p o from rfl]
    unfold wsI
    cases hm : nmd S p o with
    | false =>
      rw [if_neg (by decide), if_neg (fun q => absurd q.1 (by decide))]
      exact ⟨m, by rw [i_1, n_add], hP, hk⟩
    | true =>
      rw [if_pos rfl]
      obtain ⟨ma, mb, mc, c1, c2, c3, c4⟩ := costD_m hP hW hL (show p < S 0 0 by omega) ho (by omega) hm
      rw [c1]
      simp only [Option.bind_some]
      rw [c2]
      simp only [Option.bind_some]
      rw [c3]
      simp only [Option.bind_some, i_10, i_1, n_mul, n_add]
      obtain ⟨s1, s2⟩ := s
      match s1, hk with
      | none, hk =>
        rw [if_pos (show (bsM (none, s2)).1 < 0 by show (-5 : Int32) < 0; decide), if_pos ⟨by first | rfl | trivial, Or.inl rfl⟩]
        exact ⟨mc, rfl, c4, hnew⟩
      | some k, hk =>
        have hk1 := hk.1 k rfl
        have hk2 : s2 ≤ 49 := hk.2
        rw [if_neg (show ¬ (bsM (some k, s2)).1 < 0 from nI_pos (by omega))]
        by_cases g : s2 < cst S (holdL S ld) p o
        · rw [if_pos (show (bsM (some k, s2)).2 < nI (cst S (holdL S ld) p o) from (show nI s2 < nI (cst S (holdL S ld) p o) from (by rw [n_lt (by omega) (by omega)]; omega))), if_pos ⟨by first | rfl | trivial, Or.inr g⟩]
          exact ⟨mc, rfl, c4, hnew⟩
        · rw [if_neg (show ¬ (bsM (some k, s2)).2 < nI (cst S (holdL S ld) p o) from (show ¬ nI s2 < nI (cst S (holdL S ld) p o) from (by rw [n_lt (by omega) (by omega)]; omega))), if_neg (fun q => q.2.elim (fun q => by cases q) g)]
          exact ⟨mc, rfl, c4, hk⟩
  · intro a b m0 a' b' p m hP
    unfold Mo_worst_l35
    dsimp only
    rw [rF0 hP.1, if_pos (by rw [n_le (by omega) (by omega)]; omega)]
theorem bs_fin {s : Bs} (hk : bsOk s) (a1 : Int32) (mc mm : Mm) : ∃ r, (if a1 = 0 then some ((bsC s).1, mc) else some ((bsC s).2, mc)) = some (r, mc) ∧ (if (bsM s).1 < 0 then some ((bsM s).1, mm) else (if a1 = 0 then some ((bsM s).1, mm) else some ((bsM s).2, mm))) = some (r, mm) := by
  obtain ⟨s1, s2⟩ := s
  match s1, hk with
  | none, hk =>
    refine ⟨-5, ?_, ?_⟩
    · show (if a1 = 0 then some (-5, mc) else some (-5, mc)) = _
      rw [ite_self]
    · rw [if_pos (show (bsM (none, s2)).1 < 0 by show (-5 : Int32) < 0; decide)]
      rfl
  | some k, hk =>
    have hk1 := hk.1 k rfl
    rw [if_neg (show ¬ (bsM (some k, s2)).1 < 0 from nI_pos (by omega))]
    by_cases e : a1 = 0
    · rw [if_pos e, if_pos e]
      exact ⟨_, rfl, rfl⟩
    · rw [if_neg e, if_neg e]
      exact ⟨_, rfl, rfl⟩
theorem H16 : lwH16 Inv := by
  intro m1 m2 a1 hI
  obtain ⟨S, ld, it, hC, hM, hW, hL⟩ := id hI
  unfold NB_put Mo_put NB_bestTurn
  rw [part_c, in1]
  cases e1 : inR a1 2 with
  | false => exact ⟨_, _, _, rfl, rfl, hI⟩
  | true =>
  obtain ⟨m1', u1, u2, u3⟩ := best_c hC hW hL 1 _ (Or.inl ⟨rfl, rfl⟩)
  obtain ⟨m2', v1, v2, v3⟩ := put_m hM hW hL
  simp only [↓reduceIte]
  rw [u1, v1]
  simp only [Option.bind_some]
  obtain ⟨r, k1, k2⟩ := bs_fin u3 a1 m1' m2'
  rw [k1, k2]
  exact ⟨_, _, _, rfl, rfl, S, ld, it, u2, v2, hW, hL⟩
theorem H17 : lwH17 Inv := by
  intro m1 m2 a1 hI
  obtain ⟨S, ld, it, hC, hM, hW, hL⟩ := id hI
  unfold NB_worst Mo_worst NB_bestTurn
  rw [part_c, in1]
  cases e1 : inR a1 2 with
  | false => exact ⟨_, _, _, rfl, rfl, hI⟩
  | true =>
  obtain ⟨m1', u1, u2, u3⟩ := best_c hC hW hL 0 _ (Or.inr ⟨rfl, rfl⟩)
  obtain ⟨m2', v1, v2, v3⟩ := worst_m hM hW hL
  simp only [↓reduceIte]
  rw [u1, v1]
  simp only [Option.bind_some]
  obtain ⟨r, k1, k2⟩ := bs_fin u3 a1 m1' m2'
  rw [k1, k2]
  exact ⟨_, _, _, rfl, rfl, S, ld, it, u2, v2, hW, hL⟩
