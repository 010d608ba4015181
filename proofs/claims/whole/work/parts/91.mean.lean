-- ===== lowest terms, mean =====
theorem cmp0 (x y : Int64) : (lg_cmp x y = 0) = (x = y) := by
  unfold lg_cmp
  apply propext
  by_cases h1 : x > y
  · rw [if_pos h1]
    refine ⟨fun q => absurd q (by decide), fun q => ?_⟩
    rw [q] at h1
    have h2 : y < y := h1
    rw [Int64.lt_iff_toInt_lt] at h2
    omega
  · rw [if_neg h1]
    by_cases h2 : x = y
    · rw [if_pos h2]
      exact ⟨fun _ => h2, fun _ => rfl⟩
    · rw [if_neg h2]
      exact ⟨fun q => absurd q (by decide), fun q => absurd q h2⟩
theorem l_0 : (0 : Int64) = lN 0 := rfl
theorem l_1 : (1 : Int64) = lN 1 := rfl
theorem l_60 : (60 : Int64) = lN 60 := rfl
theorem l_eq {a b : Nat} (ha : a < 2 ^ 63) (hb : b < 2 ^ 63) : (lN a = lN b) = (a = b) := propext (pk_lEQ ha hb)
theorem gcd_st (p q : Nat) : Nat.gcd q (p % q) = Nat.gcd p q := by
  rw [Nat.gcd_comm q (p % q), ← Nat.gcd_rec, Nat.gcd_comm]
theorem half {p q k : Nat} (hr : 0 < p % q) (hq : q < 2 ^ (k + 1)) : q % (p % q) < 2 ^ k := by
  rcases Nat.eq_zero_or_pos q with e0 | e0
  · rw [e0, Nat.zero_mod]
    exact Nat.two_pow_pos k
  have h1 : p % q < q := Nat.mod_lt _ e0
  rw [Nat.pow_succ] at hq
  generalize p % q = r at hr h1
  have h2 : q % r < r := Nat.mod_lt _ hr
  by_cases e : r ≤ 2 ^ k
  · omega
  · have h3 : q % r = q - r := by
      rw [Nat.mod_eq_sub_mod (by omega), Nat.mod_eq_of_lt (by omega)]
    omega
theorem euc1_c {p q c : Nat} (hp : p < 2 ^ 63) (hq : q < 2 ^ 63) (h0 : 0 < q) (hc : c < 100) : NB_inLowestTerms_l9 (lN p, lN q, nI c) = some (.inl (lN q, lN (p % q), nI (c + 1))) := by
  unfold NB_inLowestTerms_l9 gzl
  dsimp only
  rw [i_100, if_neg (by rw [n_le (by omega) (by omega)]; omega), if_neg (by rw [cmp0, l_0, l_eq hq (by omega)]; omega), if_neg (by rw [l_0, l_eq hq (by omega)]; omega), pk_lRem hp h0 hq, ← nI_succ]
theorem euc0_c {p c : Nat} : NB_inLowestTerms_l9 (lN p, lN 0, nI c) = some (.inr (lN p)) := by
  unfold NB_inLowestTerms_l9
  dsimp only
  rw [if_pos (show lg_cmp (lN 0) 0 = 0 by rw [cmp0]; rfl), ite_self]
theorem euc_c : ∀ k p q c, q < 2 ^ k → p < 2 ^ 63 → k ≤ 50 → c + 2 * k ≤ 100 → iter NB_inLowestTerms_l9 (lN p, lN q, nI c) = some (lN (Nat.gcd p q))
  | 0, p, q, c, hq, hp, hk, hc => by
    have h0 : q = 0 := by omega
    rw [h0, iter_inr euc0_c, Nat.gcd_zero_right]
  | k + 1, p, q, c, hq, hp, hk, hc => by
    have hpw : 2 ^ (k + 1) ≤ 2 ^ 50 := Nat.pow_le_pow_right (by omega) hk
    rcases Nat.eq_zero_or_pos q with e | e
    · rw [e, iter_inr euc0_c, Nat.gcd_zero_right]
    · rw [iter_inl (euc1_c hp (by omega) e (by omega)), ← gcd_st p q]
      have hlt := Nat.mod_lt p e
      rcases Nat.eq_zero_or_pos (p % q) with e2 | e2
      · rw [e2, iter_inr euc0_c, Nat.gcd_zero_right]
      · rw [iter_inl (euc1_c (by omega) (by omega) e2 (by omega)), ← gcd_st q (p % q)]
        exact euc_c k (p % q) (q % (p % q)) (c + 2) (half e2 hq) (by omega) (by omega) (by omega)
theorem euc1_m {p q : Nat} (hp : p < 2 ^ 63) (hq : q < 2 ^ 63) (h0 : 0 < q) : Mo_divisor_l6 (lN p, lN q) = some (.inl (lN q, lN (p % q))) := by
  unfold Mo_divisor_l6 gzl
  dsimp only
  rw [if_neg (by rw [cmp0, l_0, l_eq hq (by omega)]; omega), if_neg (by rw [l_0, l_eq hq (by omega)]; omega), pk_lRem hp h0 hq]
theorem euc0_m {p : Nat} : Mo_divisor_l6 (lN p, lN 0) = some (.inr (lN p)) := by
  unfold Mo_divisor_l6
  dsimp only
  rw [if_pos (show lg_cmp (lN 0) 0 = 0 by rw [cmp0]; rfl)]
theorem euc_m : ∀ k p q, q < 2 ^ k → p < 2 ^ 63 → k ≤ 50 → iter Mo_divisor_l6 (lN p, lN q) = some (lN (Nat.gcd p q))
  | 0, p, q, hq, hp, hk => by
    have h0 : q = 0 := by omega
    rw [h0, iter_inr euc0_m, Nat.gcd_zero_right]
  | k + 1, p, q, hq, hp, hk => by
    have hpw : 2 ^ (k + 1) ≤ 2 ^ 50 := Nat.pow_le_pow_right (by omega) hk
    rcases Nat.eq_zero_or_pos q with e | e
    · rw [e, iter_inr euc0_m, Nat.gcd_zero_right]
    · rw [iter_inl (euc1_m hp (by omega) e), ← gcd_st p q]
      have hlt := Nat.mod_lt p e
      rcases Nat.eq_zero_or_pos (p % q) with e2 | e2
      · rw [e2, iter_inr euc0_m, Nat.gcd_zero_right]
      · rw [iter_inl (euc1_m (by omega) (by omega) e2), ← gcd_st q (p % q)]
        exact euc_m k (p % q) (q % (p % q)) (half e2 hq) (by omega) (by omega)
theorem low_cm {a b : Nat} (ha : a < 2 ^ 63) (hb : b < 2 ^ 50) (h0 : 0 < b) (k : Int32) : ∃ r, NB_inLowestTerms (lN a) (lN b) k = some r ∧ Mo_lowest (lN a) (lN b) k = some r := by
  have hg0 : 0 < Nat.gcd a b := Nat.gcd_pos_of_pos_right a h0
  have hgl : Nat.gcd a b ≤ b := Nat.gcd_le_right a h0
  have hz : ¬ lN (Nat.gcd a b) = 0 := by
    rw [l_0, l_eq (by omega) (by omega)]
    omega
  unfold NB_inLowestTerms Mo_lowest Mo_divisor
  rw [show iter NB_inLowestTerms_l9 (lN a, lN b, 0) = _ from euc_c 50 a b 0 hb ha (by omega) (by omega), euc_m 50 a b hb ha (by omega)]
  simp only [Option.bind_some, cmp0]
  unfold gzl
  rw [if_neg hz, if_neg hz, if_neg hz, if_neg hz]
  by_cases e : k = 0
  · rw [if_pos e]
    exact ⟨_, rfl, rfl⟩
  · rw [if_neg e]
    exact ⟨_, rfl, rfl⟩
def mS (S : Sn) (L : List Cl) (p o : Nat) : Nat := if p = o then 0 else if (WK S L none p o).1 = o then (WK S L none p o).2.2 else 0
def mN (S : Sn) (L : List Cl) (p o : Nat) : Nat := if p = o then 0 else if (WK S L none p o).1 = o then 1 else 0
def sum2 (v : Nat → Nat → Nat) (n k : Nat) : Nat := sumN (fun p => sumN (v p) n) k
theorem mean_c {m : Mm} {S : Sn} {L : List Cl} (hw : WC m S) (hJ : JC m S L none) (hW : Wf S) (hL : WL L) : ∃ m', iter NB_mean_l24 (0, 0, 0, m) = some (lN (sum2 (mS S L) (S 0 0) (S 0 0)), lN (sum2 (mN S L) (S 0 0) (S 0 0)), m') ∧ fr pW m m' := by
  have b0 := Wf_0 hW
  obtain ⟨r, h1, h2⟩ := iter_for (step := NB_mean_l24) (fun p s => ∃ m', s = (lN (sum2 (mS S L) (S 0 0) p), lN (sum2 (mN S L) (S 0 0) p), nI p, m') ∧ fr pW m m') (S 0 0) (fun r => ∃ m', r = (lN (sum2 (mS S L) (S 0 0) (S 0 0)), lN (sum2 (mN S L) (S 0 0) (S 0 0)), m') ∧ fr pW m m')
    (by
      rintro p s hp ⟨m', rfl, hs⟩
      obtain ⟨r, g1, g2⟩ := iter_for (step := NB_mean_l39 (lN (sum2 (mS S L) (S 0 0) p), lN (sum2 (mN S L) (S 0 0) p), nI p, m')) (fun o s => ∃ m', s = (lN (sum2 (mS S L) (S 0 0) p + sumN (mS S L p) o), lN (sum2 (mN S L) (S 0 0) p + sumN (mN S L p) o), nI o, m') ∧ fr pW m m') (S 0 0) (fun r => ∃ m', r = (lN (sum2 (mS S L) (S 0 0) (p + 1)), lN (sum2 (mN S L) (S 0 0) (p + 1)), m') ∧ fr pW m m')
        (by
          rintro o s ho ⟨m2, rfl, hs2⟩
          obtain ⟨m3, k1, k2, k3, k4⟩ := walk_c (JC_W hJ hs2) hW hL hp ho
          have hbd := WK_bd (fa := none) (t := o) hW hL hp
          have hn1 : sumN (mS S L p) (o + 1) = sumN (mS S L p) o + (if p = o then 0 else if (WK S L none p o).1 = o then (WK S L none p o).2.2 else 0) := rfl
          have hn2 : sumN (mN S L p) (o + 1) = sumN (mN S L p) o + (if p = o then 0 else if (WK S L none p o).1 = o then 1 else 0) := rfl
          unfold NB_mean_l39
          dsimp only
          rw [w0 (WC_W hw hs2), if_neg (by rw [n_le (by omega) (by omega)]; omega), k1]
          simp (disch := omega) only [Option.bind_some, n_eq, i_1, n_add]
          rw [show m3.1 1 14 = _ from k4, nI_l (by omega), lN_add, lN_1, hn1, hn2]
          by_cases e0 : p = o
          · rw [if_pos e0, if_pos e0, if_pos e0]
            exact ⟨_, rfl, m2, rfl, hs2⟩
          rw [if_neg e0, if_neg e0, if_neg e0]
          by_cases e : (WK S L none p o).1 = o
          · rw [if_pos e, if_pos e, if_pos e]
            exact ⟨_, rfl, m3, by rw [Nat.add_assoc, Nat.add_assoc], fr_tr hs2 k2⟩
          · rw [if_neg e, if_neg e, if_neg e]
            exact ⟨_, rfl, m3, rfl, fr_tr hs2 k2⟩)
        (by
          rintro s ⟨m2, rfl, hs2⟩
          unfold NB_mean_l39
          dsimp only
          rw [w0 (WC_W hw hs2), if_pos (by rw [n_le (by omega) (by omega)]; omega)]
          exact ⟨_, rfl, m2, rfl, hs2⟩) 0 (lN (sum2 (mS S L) (S 0 0) p), lN (sum2 (mN S L) (S 0 0) p), 0, m') (by omega) ⟨m', rfl, hs⟩
      obtain ⟨m2, rfl, hs2⟩ := g2
      unfold NB_mean_l24
      dsimp only
      rw [w0 (WC_W hw hs), if_neg (by rw [n_le (by omega) (by omega)]; omega), g1]
      exact ⟨_, rfl, m2, by rw [nI_succ p], hs2⟩)
    (by
      rintro s ⟨m', rfl, hs⟩
      unfold NB_mean_l24
      dsimp only
      rw [w0 (WC_W hw hs), if_pos (by rw [n_le (by omega) (by omega)]; omega)]
      exact ⟨_, rfl, m', rfl, hs⟩) 0 (0, 0, 0, m) (by omega) ⟨m, rfl, fr_rf _ _⟩
  obtain ⟨m', rfl, hs⟩ := h2
  exact ⟨m', h1, hs⟩
theorem mean_m {m : Mm} {S : Sn} {L : List Cl} (hLM : LM m S L none) (hW : Wf S) (hL : WL L) : ∃ m', iter Mo_mean_l25 (0, 0, 0, m) = some (nI (sum2 (mS S L) (S 0 0) (S 0 0)), nI (sum2 (mN S L) (S 0 0) (S 0 0)), m') ∧ fr pG m m' := by
  have b0 := Wf_0 hW
  obtain ⟨r, h1, h2⟩ := iter_for (step := Mo_mean_l25) (fun p s => ∃ m', s = (nI (sum2 (mS S L) (S 0 0) p), nI (sum2 (mN S L) (S 0 0) p), nI p, m') ∧ fr pG m m') (S 0 0) (fun r => ∃ m', r = (nI (sum2 (mS S L) (S 0 0) (S 0 0)), nI (sum2 (mN S L) (S 0 0) (S 0 0)), m') ∧ fr pG m m')
    (by
      rintro p s hp ⟨m', rfl, hs⟩
      obtain ⟨r, g1, g2⟩ := iter_for (step := Mo_mean_l37 (nI (sum2 (mS S L) (S 0 0) p), nI (sum2 (mN S L) (S 0 0) p), nI p, m')) (fun o s => ∃ m', s = (nI (sum2 (mS S L) (S 0 0) p + sumN (mS S L p) o), nI (sum2 (mN S L) (S 0 0) p + sumN (mN S L p) o), nI o, m') ∧ fr pG m m') (S 0 0) (fun r => ∃ m', r = (nI (sum2 (mS S L) (S 0 0) (p + 1)), nI (sum2 (mN S L) (S 0 0) (p + 1)), m') ∧ fr pG m m')
        (by
          rintro o s ho ⟨m2, rfl, hs2⟩
          obtain ⟨m3, k1, k2, k3, k4, k5⟩ := goes_m (fa := none) (LM_G hLM hs2) hW hL trivial hp ho
          have hbd := WK_bd (fa := none) (t := o) hW hL hp
          have hn1 : sumN (mS S L p) (o + 1) = sumN (mS S L p) o + (if p = o then 0 else if (WK S L none p o).1 = o then (WK S L none p o).2.2 else 0) := rfl
          have hn2 : sumN (mN S L p) (o + 1) = sumN (mN S L p) o + (if p = o then 0 else if (WK S L none p o).1 = o then 1 else 0) := rfl
          unfold Mo_mean_l37
          dsimp only
          rw [r0 (WM_G hLM.1 hs2), if_neg (by rw [n_le (by omega) (by omega)]; omega), k1]
          simp (disch := omega) only [Option.bind_some, n_eq, i_1, n_add, decide_eq_true_eq]
          rw [show m3.1 0 34 = _ from k5, n_add, hn1, hn2]
          by_cases e0 : p = o
          · rw [if_pos e0, if_pos e0, if_pos e0]
            exact ⟨_, rfl, m2, rfl, hs2⟩
          rw [if_neg e0, if_neg e0, if_neg e0]
          by_cases e : (WK S L none p o).1 = o
          · rw [if_pos e, if_pos e, if_pos e]
            exact ⟨_, rfl, m3, by rw [Nat.add_assoc, Nat.add_assoc], fr_tr hs2 k2⟩
          · rw [if_neg e, if_neg e, if_neg e]
            exact ⟨_, rfl, m3, rfl, fr_tr hs2 k2⟩)
        (by
          rintro s ⟨m2, rfl, hs2⟩
          unfold Mo_mean_l37
          dsimp only
          rw [r0 (WM_G hLM.1 hs2), if_pos (by rw [n_le (by omega) (by omega)]; omega)]
          exact ⟨_, rfl, m2, rfl, hs2⟩) 0 (nI (sum2 (mS S L) (S 0 0) p), nI (sum2 (mN S L) (S 0 0) p), 0, m') (by omega) ⟨m', rfl, hs⟩
      obtain ⟨m2, rfl, hs2⟩ := g2
      unfold Mo_mean_l25
      dsimp only
      rw [r0 (WM_G hLM.1 hs), if_neg (by rw [n_le (by omega) (by omega)]; omega), g1]
      exact ⟨_, rfl, m2, by rw [nI_succ p], hs2⟩)
    (by
      rintro s ⟨m', rfl, hs⟩
      unfold Mo_mean_l25
      dsimp only
      rw [r0 (WM_G hLM.1 hs), if_pos (by rw [n_le (by omega) (by omega)]; omega)]
      exact ⟨_, rfl, m', rfl, hs⟩) 0 (0, 0, 0, m) (by omega) ⟨m, rfl, fr_rf _ _⟩
  obtain ⟨m', rfl, hs⟩ := h2
  exact ⟨m', h1, hs⟩
theorem sum2_le {v : Nat → Nat → Nat} {b n : Nat} (hn : n ≤ 7) (h : ∀ p o, p < n → o < n → v p o ≤ b) : sum2 v n n ≤ 49 * b := by
  have h1 : ∀ p, p < n → sumN (v p) n ≤ 7 * b := fun p hp => by
    have h2 := sumN_le2 (f := v p) (b := b) (n := n) (fun o ho => h p o hp ho) n (Nat.le_refl _)
    have h3 : b * n ≤ b * 7 := Nat.mul_le_mul_left b hn
    omega
  have h2 := sumN_le2 h1 n (Nat.le_refl _)
  have h3 : 7 * b * n ≤ 7 * b * 7 := Nat.mul_le_mul_left _ hn
  unfold sum2
  omega
theorem H25 : lwH25 Inv := by
  intro m1 m2 a1 hI
  obtain ⟨S, ld, it, hC, hM, hW, hL⟩ := id hI
  have b0 := Wf_0 hW
  have hLL := hold_WL hW hL
  unfold NB_mean Mo_mean
  rw [part_c, in1]
  cases e1 : inR a1 2 with
  | false => exact ⟨_, _, _, rfl, rfl, hI⟩
  | true =>
  obtain ⟨m1', x1, x2, x3, x4⟩ := look_0 hC hW hL
  obtain ⟨m2', y1, y2, y3⟩ := lay_0 hM hW hL
  obtain ⟨m1'', u1, u2⟩ := mean_c x4 x3 hW hLL
  obtain ⟨m2'', v1, v2⟩ := mean_m y3 hW hLL
  have hInv := inv_same hC hM hW hL ((fr_SC x2).tr (fr_WC u2)) ((fr_SM y2).tr (fr_GM v2))
  have hS := sum2_le (v := mS S (holdL S ld)) (b := 21780) b0 (fun p o hp ho => by
    have hbd := WK_bd (fa := none) (t := o) hW hLL hp
    unfold mS
    repeat' split
    all_goals omega)
  have hN := sum2_le (v := mN S (holdL S ld)) (b := 1) b0 (fun p o hp ho => by
    unfold mN
    repeat' split
    all_goals omega)
  simp only [↓reduceIte]
  rw [x1, y1]
  simp only [Option.bind_some]
  rw [u1, v1]
  simp only [Option.bind_some, cmp0]
  generalize sum2 (mS S (holdL S ld)) (S 0 0) (S 0 0) = a at *
  generalize sum2 (mN S (holdL S ld)) (S 0 0) (S 0 0) = b at *
  simp only [l_0, l_eq (show b < 2 ^ 63 by omega) (show 0 < 2 ^ 63 by omega), i_0, n_eq (show b < 2 ^ 31 by omega) (show 0 < 2 ^ 31 by omega)]
  by_cases e : b = 0
  · rw [if_pos e, if_pos e]
    exact ⟨_, _, _, rfl, rfl, hInv⟩
  · rw [if_neg e, if_neg e, nI_l (by omega), nI_l (by omega)]
    obtain ⟨r, k1, k2⟩ := low_cm (a := a) (b := b) (by omega) (by omega) (by omega) a1
    rw [k1, k2]
    exact ⟨_, _, _, rfl, rfl, hInv⟩
