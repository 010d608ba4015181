-- ===== the reference reads an E: its walk =====
section
variable {S : Sn} {f c : Nat}
theorem letter_m (hW : Wf S) {i : Nat} (hi : i ≤ S 43 0) : Mo_letterOf (pkI S i) = oI (-1) (ltr (chr S i)) := by
  have b := Wf_43 hW
  have H : ∀ c : Fin 128, Mo_letterOf (nI c.val) = oI (-1) (ltr c.val) := by decide +kernel
  unfold pkI chr
  by_cases e : i < S 43 0
  · rw [if_pos e, if_pos e]
    exact H ⟨S 42 i, Wf_42 hW (by omega)⟩
  · rw [if_neg e, if_neg e]
    decide
theorem sign_m (hW : Wf S) {i : Nat} (hi : i ≤ S 43 0) : Mo_in (pkI S i) 60 62 = decide (60 ≤ chr S i ∧ chr S i ≤ 62) := by
  have b := Wf_43 hW
  rw [Mo_in_eq, show (60 : Int32).toInt = 60 by decide, show (62 : Int32).toInt = 62 by decide]
  unfold pkI chr
  by_cases e : i < S 43 0
  · have := Wf_42 hW (show i < 100 by omega)
    rw [if_pos e, if_pos e, nI_toInt (by omega)]
    congr 1
    apply propext
    omega
  · rw [if_neg e, if_neg e]
    rfl
theorem rTest_n {l s v : Nat} (hs : s ≤ 2) (hv : v ≤ 99) : rTest (l * 300 + s * 100 + v) = 1000 * l + 100 * s + v := by
  unfold rTest
  omega
def okWs (W : List Nat) : Prop := ∀ w ∈ W, w < 128
theorem test_m {m : Mm} {i : Nat} {codes W : List Nat} (h : MS m S f i codes W) (hW : Wf S) (hf : f < 6) (hi : i ≤ S 43 0) (hl : codes.length + W.length ≤ i) (hS : okWs W) : match tst S i with
    | .inl e => ∃ m', Mo_takesTest m = some (false, m') ∧ frT f c m m' ∧ m'.1 0 13 = nI e
    | .inr (j, l) => ∃ m', Mo_takesTest m = some (true, m') ∧ frT f c m m' ∧ MS m' S f j (codes ++ l ++ bangs W) (strip W) := by
  have b := Wf_43 hW
  have l2 := chr_le S hW (i + 1)
  obtain ⟨h1, h2, h3, h4⟩ := id h
  unfold tst Mo_takesTest
  rw [peek_m h1 hW hi]
  simp only [Option.bind_some]
  rw [letter_m hW hi, h1.2.2.1, ← nI_succ, si_e rfl rfl, ← nI_succ]
  match g1 : ltr (chr S i) with
  | none =>
    rw [show oI (-1) none = -1 from rfl, if_neg (show ¬ (0 : Int32) ≤ -1 by decide)]
    exact ⟨m, rfl, frT_rf _ _ _, h1.2.2.1⟩
  | some l =>
    have g2 := ltr_lt g1
    have g3 := chr_lt g2.2
    have t1 := TM_at h1 (i + 1)
    have f1 : frT f c m (si m 0 13 (nI (i + 1))) := frT_si _ (frT_rf _ _ _) (pT0 (by omega))
    rw [show oI (-1) (some l) = nI l from rfl, if_pos (nI_pos' (by omega)), peek_m t1 hW (by omega)]
    simp only [Option.bind_some]
    rw [sign_m hW (by omega)]
    by_cases e : 60 ≤ chr S (i + 1) ∧ chr S (i + 1) ≤ 62
    · have g4 := chr_lt (S := S) (i := i + 1) (by omega)
      have t2 := TM_at t1 (i + 1 + 1)
      have f2 : frT f c m (si (si m 0 13 (nI (i + 1))) 0 13 (nI (i + 1 + 1))) := frT_si _ f1 (pT0 (by omega))
      have hn := num_m t2 hW (by omega)
      rw [decide_eq_true e, if_pos rfl, if_pos e]
      match g5 : num S (i + 2) with
      | none =>
        have hn' : Mo_takesNumber (si (si m 0 13 (nI (i + 1))) 0 13 (nI (i + 1 + 1))) = some (false, si (si m 0 13 (nI (i + 1))) 0 13 (nI (i + 1 + 1))) := by
          rw [show num S (i + 1 + 1) = none from g5] at hn
          exact hn
        rw [hn']
        exact ⟨_, rfl, f2, t2.2.2.1⟩
      | some q =>
        have g6 := num_bd g5
        rw [show num S (i + 1 + 1) = some q from g5] at hn
        obtain ⟨m2, q1, q2, q3, q4⟩ := hn
        have f3 : frT f c m m2 := frT_tr f2 (frN_T q2)
        have hv : 1000 * nI l + 100 * (pkI S (i + 1) - 60) + m2.1 0 14 = rCode (l * 300 + (chr S (i + 1) - 60) * 100 + q.1 + 3) := by
          rw [q4, pk_d g4, rCode_t, rTest_n (by omega) g6.2.2, i_60, i_100, i_1000, n_sub (by omega), n_mul, n_mul, n_add, n_add]
        obtain ⟨r1, r2, r3⟩ := emit_m (c := c) q3 hf (by omega) (l * 300 + (chr S (i + 1) - 60) * 100 + q.1 + 3)
        have hM3 : MS (si (si m2 15 (100 * f + codes.length) (rCode (l * 300 + (chr S (i + 1) - 60) * 100 + q.1 + 3))) 0 23 (nI (100 * f + (codes.length + 1)))) S f q.2 (codes ++ [l * 300 + (chr S (i + 1) - 60) * 100 + q.1 + 3]) W := MS_TM h r2 (fun k j hk => by
          have hk1 : ¬ (k = 0 ∧ j = 23) := by omega
          have hk2 : ¬ (k = 15 ∧ j = 100 * f + codes.length) := by omega
          rw [si_r, if_neg hk1, si_r, if_neg hk2, q2.1 k j (by omega), si_r, if_neg (by omega), si_r, if_neg (by omega)])
        obtain ⟨m4, w1, w2, w3⟩ := whole_m (c := c) hf W _ q.2 _ hM3 (by rw [List.length_append]; show codes.length + 1 + W.length ≤ 100; omega) hS
        rw [q1]
        simp only [Option.bind_some, ↓reduceIte]
        rw [hv, r1]
        simp only [Option.bind_some]
        rw [w1]
        exact ⟨m4, rfl, frT_tr f3 (frT_tr r3 w2), w3⟩
    · rw [if_neg e, decide_eq_false e]
      exact ⟨_, rfl, f1, t1.2.2.1⟩
/-- a sign waits -/
theorem push_m {m : Mm} {i w : Nat} {codes W : List Nat} (h : MS m S f i codes W) (j : Nat) (hw : w = 38 ∨ w = 124) : MS (si (si (si m 16 W.length (nI w)) 0 24 (nI (W.length + 1))) 0 13 (nI j)) S f j codes (w :: W) ∧ frT f c m (si (si (si m 16 W.length (nI w)) 0 24 (nI (W.length + 1))) 0 13 (nI j)) := by
  obtain ⟨h1, h2, h3, h4⟩ := h
  refine ⟨⟨TM_at (TM_T h1 (by rw [si_nj (by omega), si_ne (by omega)]) (by rw [si_nj (by omega), si_ne (by omega)]) (fun k i q => by
    by_cases hk : k = 0
    · rw [si_nj (by omega), si_ne (by omega)]
    · rw [si_ne hk, si_ne (by omega)])) j, ?_, ⟨?_, ?_⟩, ?_⟩, frT_si _ (frT_si _ (frT_si _ (frT_rf _ _ _) (by unfold pTx; omega)) (pT0 (by omega))) (pT0 (by omega))⟩
  · rw [si_nj (by omega), si_e rfl rfl]
    rfl
  · rw [si_ne (by omega), si_ne (by omega), si_e rfl rfl]
  · exact SWk_keep (m := si m 16 W.length (nI w)) (fun i => by rw [si_ne (by omega), si_ne (by omega)]) (SWk_si (Nat.le_refl _) h3)
  · rw [si_nj (by omega), si_nj (by omega), si_ne (by omega), h4]
    show nI (opn W) = nI (opn W + (if w = 33 ∨ w = 40 then 1 else 0))
    rw [if_neg (by omega)]
    rfl
theorem stW1 {m : Mm} {i : Nat} {codes W : List Nat} (h : MS m S f i codes W) (hW : Wf S) (hi : i ≤ S 43 0) (hl : W.length ≤ i) (hb : chr S i = 33 ∨ chr S i = 40) (ho : opn W ≤ 4) : if opn W = 4 then Mo_takesE_l22 (nI c) (1, m) = some (.inr (false, m)) else ∃ m', Mo_takesE_l22 (nI c) (1, m) = some (.inl (1, m')) ∧ frT f c m m' ∧ MS m' S f (i + 1) codes (chr S i :: W) := by
  have b := Wf_43 hW
  have g := chr_lt (S := S) (i := i) (by omega)
  obtain ⟨h1, h2, h3, h4⟩ := id h
  have hst : Mo_takesE_l22 (nI c) (1, m) = if opn W = 4 then some (.inr (false, m)) else some (.inl (1, si (si (si (si m 0 25 (nI (opn W + 1))) 16 W.length (nI (chr S i))) 0 24 (nI (W.length + 1))) 0 13 (nI (i + 1)))) := by
    unfold Mo_takesE_l22 jn
    dsimp only
    rw [peek_m h1 hW hi]
    simp only [Option.bind_some]
    rw [if_neg (show ¬ (1 : Int32) = 0 by decide), pk_d g, h4]
    have e3 : (nI (chr S i) = 33) = (chr S i = 33) := by rw [show (33 : Int32) = nI 33 from rfl, n_eq (by omega) (by omega)]
    have e4 : (nI (chr S i) = 40) = (chr S i = 40) := by rw [show (40 : Int32) = nI 40 from rfl, n_eq (by omega) (by omega)]
    simp (disch := omega) only [si_nj, si_ne, h2, h1.2.2.1, i_4, i_1, n_add, n_eq, ga_n, n_cl, e3, e4]
    rcases hb with e | e
    · rw [if_pos e]
    · rw [if_neg (show ¬ chr S i = 33 by omega), if_pos e]
  by_cases e : opn W = 4
  · rw [if_pos e] at hst ⊢
    exact hst
  · rw [if_neg e] at hst ⊢
    refine ⟨_, hst, frT_si _ (frT_si _ (frT_si _ (frT_si _ (frT_rf _ _ _) (pT0 (by omega))) (by unfold pTx; omega)) (pT0 (by omega))) (pT0 (by omega)), TM_at (TM_T h1 (by rw [si_nj (by omega), si_ne (by omega), si_nj (by omega)]) (by rw [si_nj (by omega), si_ne (by omega), si_nj (by omega)]) (fun k i q => by
      by_cases hk : k = 0
      · rw [si_nj (by omega), si_ne (by omega), si_nj (by omega)]
      · rw [si_ne hk, si_ne (by omega), si_ne hk])) (i + 1), ?_, ⟨?_, ?_⟩, ?_⟩
    · rw [si_nj (by omega), si_e rfl rfl]
      rfl
    · rw [si_ne (by omega), si_ne (by omega), si_e rfl rfl]
    · exact SWk_keep (m := si (si m 0 25 (nI (opn W + 1))) 16 W.length (nI (chr S i))) (fun i => by rw [si_ne (by omega), si_ne (by omega)]) (SWk_si (Nat.le_refl _) (SWk_keep (fun i => by rw [si_ne (by omega)]) h3))
    · rw [si_nj (by omega), si_nj (by omega), si_ne (by omega), si_e rfl rfl]
      show nI (opn W + 1) = nI (opn W + (if chr S i = 33 ∨ chr S i = 40 then 1 else 0))
      rw [if_pos hb]
theorem stW2 {m : Mm} {i : Nat} {codes W : List Nat} (h : MS m S f i codes W) (hW : Wf S) (hf : f < 6) (hi : i ≤ S 43 0) (hl : codes.length + W.length ≤ i) (hS : okWs W) (hb : ¬ (chr S i = 33 ∨ chr S i = 40)) : match tst S i with
    | .inl e => ∃ m', Mo_takesE_l22 (nI c) (1, m) = some (.inr (false, m')) ∧ frT f c m m' ∧ m'.1 0 13 = nI e
    | .inr (j, l) => ∃ m', Mo_takesE_l22 (nI c) (1, m) = some (.inl (0, m')) ∧ frT f c m m' ∧ MS m' S f j (codes ++ l ++ bangs W) (strip W) := by
  have ht := test_m (c := c) h hW hf hi hl hS
  have hst : Mo_takesE_l22 (nI c) (1, m) = (Mo_takesTest m).bind fun r19 => if r19.1 = true then some (.inl (0, r19.2)) else some (.inr (false, r19.2)) := by
    unfold Mo_takesE_l22 jn
    dsimp only
    rw [peek_m h.1 hW hi]
    simp only [Option.bind_some]
    rw [if_neg (show ¬ (1 : Int32) = 0 by decide), if_neg (show ¬ pkI S i = 33 from fun q => hb (Or.inl ((pk_is hW hi (c := 33) (by omega)).mp q))), if_neg (show ¬ pkI S i = 40 from fun q => hb (Or.inr ((pk_is hW hi (c := 40) (by omega)).mp q)))]
  match hh : tst S i with
  | .inl e =>
    rw [hh] at ht
    obtain ⟨m', q1, q2, q3⟩ := ht
    rw [q1] at hst
    exact ⟨m', hst, q2, q3⟩
  | .inr (j, l) =>
    rw [hh] at ht
    obtain ⟨m', q1, q2, q3⟩ := ht
    rw [q1] at hst
    exact ⟨m', hst, q2, q3⟩
theorem stO1 {m : Mm} {i : Nat} {codes W1 : List Nat} {a o : Bool} (h : MS m S f i codes (oA a ++ (oO o ++ W1))) (hW : Wf S) (hf : f < 6) (hw : okW W1) (hi : i ≤ S 43 0) (hl : codes.length + (onB a + onB o + W1.length) ≤ i) (hb : chr S i = 38) : ∃ m', Mo_takesE_l22 (nI c) (0, m) = some (.inl (1, m')) ∧ frT f c m m' ∧ MS m' S f (i + 1) (codes ++ pA a) (oA true ++ (oO o ++ W1)) := by
  have b := Wf_43 hW
  have g := chr_lt (S := S) (i := i) (by omega)
  obtain ⟨m1, q1, q2, q3⟩ := set38_m (c := c) hf hw h (by omega)
  obtain ⟨p1, p2⟩ := push_m (c := c) q3 (i + 1) (w := 38) (Or.inl rfl)
  have hlen : (oO o ++ W1).length = onB o + W1.length := by rw [List.length_append, oO_len]
  refine ⟨_, ?_, frT_tr q2 p2, p1⟩
  unfold Mo_takesE_l22 jn
  dsimp only
  rw [peek_m h.1 hW hi]
  simp only [Option.bind_some]
  rw [if_pos trivial, pk_d g, hb, if_pos (show nI 38 = 38 from rfl), show Mo_settle m (nI 38) = _ from q1]
  simp only [Option.bind_some]
  rw [q3.2.1, ga_n (by omega) (by omega), n_cl (by omega), si_ne (show 0 ≠ 16 by omega), q3.2.1, si_nj (show 13 ≠ 24 by omega), si_ne (show 0 ≠ 16 by omega), q3.1.2.2.1, i_1, n_add, n_add]
theorem stO2 {m : Mm} {i : Nat} {codes W1 : List Nat} {a o : Bool} (h : MS m S f i codes (oA a ++ (oO o ++ W1))) (hW : Wf S) (hf : f < 6) (hw : okW W1) (hi : i ≤ S 43 0) (hl : codes.length + (onB a + onB o + W1.length) ≤ i) (hb : chr S i = 124) : ∃ m', Mo_takesE_l22 (nI c) (0, m) = some (.inl (1, m')) ∧ frT f c m m' ∧ MS m' S f (i + 1) (codes ++ pA a ++ pO o) (oA false ++ (oO true ++ W1)) := by
  have b := Wf_43 hW
  have g := chr_lt (S := S) (i := i) (by omega)
  obtain ⟨m1, q1, q2, q3⟩ := set124_m (c := c) hf hw h (by omega) (by omega)
  obtain ⟨p1, p2⟩ := push_m (c := c) q3 (i + 1) (w := 124) (Or.inr rfl)
  refine ⟨_, ?_, frT_tr q2 p2, p1⟩
  unfold Mo_takesE_l22 jn
  dsimp only
  rw [peek_m h.1 hW hi]
  simp only [Option.bind_some]
  rw [if_pos trivial, pk_d g, hb, if_neg (show ¬ nI 124 = 38 by decide), if_pos (show nI 124 = 124 from rfl), show Mo_settle m (nI 124) = _ from q1]
  simp only [Option.bind_some]
  rw [q3.2.1, ga_n (by omega) (by omega), n_cl (by omega), si_ne (show 0 ≠ 16 by omega), q3.2.1, si_nj (show 13 ≠ 24 by omega), si_ne (show 0 ≠ 16 by omega), q3.1.2.2.1, i_1, n_add, n_add]
theorem to_m {m : Mm} {i : Nat} {codes W : List Nat} (h : MS m S f i codes W) (y : Int32) : MS (si m 14 c y) S f i codes W ∧ frT f c m (si m 14 c y) := ⟨MS_TM h (TM_T h.1 (si_ne (by omega)) (si_ne (by omega)) (fun k i q => si_ne (by omega))) (fun k i q => si_ne (by omega)), frT_si _ (frT_rf _ _ _) (by unfold pTx; omega)⟩
def o3P (S : Sn) (f c : Nat) (m : Mm) (i : Nat) (cs : List Nat) : List Nat → Prop
  | [] => ∃ m', Mo_takesE_l22 (nI c) (0, m) = some (.inr (true, m')) ∧ frT f c m m' ∧ TM m' S f i cs ∧ m'.1 14 c = nI (100 * f + cs.length)
  | _ :: W2 => if chr S i = 41 then ∃ m', Mo_takesE_l22 (nI c) (0, m) = some (.inl (0, m')) ∧ frT f c m m' ∧ MS m' S f (i + 1) (cs ++ bangs W2) (strip W2) else ∃ m', Mo_takesE_l22 (nI c) (0, m) = some (.inr (false, m')) ∧ frT f c m m' ∧ m'.1 0 13 = nI i
/-- the end of an E, and what closes a ( -/
theorem stO3 {m : Mm} {i : Nat} {codes W1 : List Nat} {a o : Bool} (h : MS m S f i codes (oA a ++ (oO o ++ W1))) (hW : Wf S) (hf : f < 6) (hcc : c < 60) (hw : okW W1) (hi : i ≤ S 43 0) (hl : codes.length + (onB a + onB o + W1.length) ≤ i) (hS : okWs W1) (hl1 : W1.length < 100) (hb1 : chr S i ≠ 38) (hb2 : chr S i ≠ 124) : o3P S f c m i (codes ++ pA a ++ pO o) W1 := by
  have b := Wf_43 hW
  obtain ⟨m1, q1, q2, q3⟩ := set124_m (c := c) hf hw h (by omega) hl1
  obtain ⟨t1, t2⟩ := to_m (c := c) q3 (nI (100 * f + (codes ++ pA a ++ pO o).length))
  have hpk1 : ¬ pkI S i = 38 := fun q => hb1 ((pk_is hW hi (c := 38) (by omega)).mp q)
  have hpk2 : ¬ pkI S i = 124 := fun q => hb2 ((pk_is hW hi (c := 124) (by omega)).mp q)
  have hst : Mo_takesE_l22 (nI c) (0, m) = (if nI W1.length = 0 then some (.inr (true, si m1 14 c (nI (100 * f + (codes ++ pA a ++ pO o).length)))) else if pkI S i = 41 then ((Mo_whole (si (si (si (si m1 14 c (nI (100 * f + (codes ++ pA a ++ pO o).length))) 0 24 (nI W1.length - 1)) 0 25 (nI (opn W1) - 1)) 0 13 (nI (i + 1)))).bind fun r10 => some (.inl (0, r10))) else some (.inr (false, si m1 14 c (nI (100 * f + (codes ++ pA a ++ pO o).length))))) := by
    unfold Mo_takesE_l22 jn
    dsimp only
    rw [peek_m h.1 hW hi]
    simp only [Option.bind_some]
    rw [if_pos trivial, if_neg hpk1, if_neg hpk2, q1]
    simp only [Option.bind_some]
    rw [ga_n (by omega) (by omega), n_cl (by omega), q3.1.2.2.2.1, t1.2.1, si_nj (show 25 ≠ 24 by omega), t1.2.2.2, si_nj (show 13 ≠ 25 by omega), si_nj (show 13 ≠ 24 by omega), t1.1.2.2.1, i_1, n_add]
  have hal : (codes ++ pA a ++ pO o).length = codes.length + onB a + onB o := by rw [List.length_append, List.length_append, pA_len, pO_len]
  match W1, hw, hS, hl, q3, t1, hst with
  | [], hw, hS, hl, q3, t1, hst =>
    rw [if_pos (show nI ([] : List Nat).length = 0 from rfl)] at hst
    exact ⟨_, hst, frT_tr q2 t2, t1.1, si_e rfl rfl⟩
  | w :: W2, hw, hS, hl, q3, t1, hst =>
    have hw40 : w = 40 := by
      rcases hw with q | ⟨W3, q⟩
      · cases q
      · cases q
        rfl
    have hlW : (w :: W2).length = W2.length + 1 := rfl
    rw [if_neg (nI_ne0 (by rw [hlW]; omega) (by omega))] at hst
    by_cases e : chr S i = 41
    · have g := chr_lt (S := S) (i := i) (by omega)
      show (if chr S i = 41 then _ else _)
      rw [if_pos e]
      rw [if_pos (show pkI S i = 41 from (pk_is hW hi (c := 41) (by omega)).mpr e)] at hst
      have hop : opn (w :: W2) = opn W2 + 1 := by
        show opn W2 + (if w = 33 ∨ w = 40 then 1 else 0) = _
        rw [if_pos (Or.inr hw40)]
      rw [hlW, hop, nI_pred, nI_pred] at hst
      obtain ⟨u1, u2, u3, u4⟩ := t1
      have hM : MS (si (si (si (si m1 14 c (nI (100 * f + (codes ++ pA a ++ pO o).length))) 0 24 (nI W2.length)) 0 25 (nI (opn W2))) 0 13 (nI (i + 1))) S f (i + 1) (codes ++ pA a ++ pO o) W2 := by
        refine ⟨TM_at (TM_T u1 (by rw [si_nj (by omega), si_nj (by omega)]) (by rw [si_nj (by omega), si_nj (by omega)]) (fun k i q => ?_)) (i + 1), ?_, ?_, ?_⟩
        · by_cases hk : k = 0
          · rw [si_nj (by omega), si_nj (by omega)]
          · rw [si_ne hk, si_ne hk]
        · rw [si_nj (by omega), si_nj (by omega), si_e rfl rfl]
        · exact SWk_keep (fun i => by rw [si_ne (by omega), si_ne (by omega), si_ne (by omega)]) u3.2
        · rw [si_nj (by omega), si_e rfl rfl]
      have hF : frT f c m1 (si (si (si (si m1 14 c (nI (100 * f + (codes ++ pA a ++ pO o).length))) 0 24 (nI W2.length)) 0 25 (nI (opn W2))) 0 13 (nI (i + 1))) := frT_si _ (frT_si _ (frT_si _ t2 (pT0 (by omega))) (pT0 (by omega))) (pT0 (by omega))
      obtain ⟨m', r1, r2, r3⟩ := whole_m (c := c) hf W2 _ _ _ hM (by omega) (fun w h => hS w (List.mem_cons_of_mem _ h))
      rw [r1] at hst
      exact ⟨m', hst, frT_tr q2 (frT_tr hF r2), r3⟩
    · show (if chr S i = 41 then _ else _)
      rw [if_neg e]
      rw [if_neg (show ¬ pkI S i = 41 from fun q => e ((pk_is hW hi (c := 41) (by omega)).mp q))] at hst
      exact ⟨_, hst, frT_tr q2 t2, t1.1.2.2.1⟩
end
