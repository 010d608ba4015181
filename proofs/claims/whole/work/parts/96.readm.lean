-- ===== the reference reads an E =====
def pTx (f c k i : Nat) : Prop := (k = 0 ∧ (i = 13 ∨ i = 14 ∨ i = 23 ∨ i = 24 ∨ i = 25)) ∨ k = 16 ∨ (k = 15 ∧ 100 * f ≤ i) ∨ (k = 14 ∧ i = c)
def frT (f c : Nat) (m m' : Mm) : Prop := (∀ k i, ¬ pTx f c k i → m'.1 k i = m.1 k i) ∧ m'.2 = m.2
theorem frT_rf (f c : Nat) (m : Mm) : frT f c m m := ⟨fun _ _ _ => rfl, rfl⟩
theorem frT_tr {f c : Nat} {m1 m2 m3 : Mm} (h : frT f c m1 m2) (g : frT f c m2 m3) : frT f c m1 m3 := ⟨fun k i q => (g.1 k i q).trans (h.1 k i q), g.2.trans h.2⟩
theorem frT_si {f c : Nat} {a m : Mm} {k i : Nat} (y : Int32) (h : frT f c a m) (hP : pTx f c k i) : frT f c a (si m k i y) := by
  refine ⟨fun k' i' q => ?_, ?_⟩
  · rw [si_r]
    by_cases e : k' = k ∧ i' = i
    · rw [e.1, e.2] at q
      exact absurd hP q
    · rw [if_neg e]
      exact h.1 k' i' q
  · rw [si_l]
    exact h.2
theorem pT0 {f c i : Nat} (h : i = 13 ∨ i = 14 ∨ i = 23 ∨ i = 24 ∨ i = 25) : pTx f c 0 i := Or.inl ⟨rfl, h⟩
def TM (m : Mm) (S : Sn) (f i : Nat) (codes : List Nat) : Prop := m.1 0 12 = nI (S 43 0) ∧ (∀ j, j < 100 → m.1 9 j = nI (S 42 j)) ∧ m.1 0 13 = nI i ∧ m.1 0 23 = nI (100 * f + codes.length) ∧ ∀ j v, codes[j]? = some v → m.1 15 (100 * f + j) = rCode v
def SWk (m : Mm) : List Nat → Prop
  | [] => True
  | w :: W => m.1 16 W.length = nI w ∧ SWk m W
def opn : List Nat → Nat
  | [] => 0
  | w :: W => opn W + (if w = 33 ∨ w = 40 then 1 else 0)
def MS (m : Mm) (S : Sn) (f i : Nat) (codes W : List Nat) : Prop := TM m S f i codes ∧ m.1 0 24 = nI W.length ∧ SWk m W ∧ m.1 0 25 = nI (opn W)
theorem SWk_keep {m m' : Mm} (h : ∀ i, m'.1 16 i = m.1 16 i) : ∀ {W : List Nat}, SWk m W → SWk m' W
  | [], _ => trivial
  | _ :: W, hw => ⟨(h W.length).trans hw.1, SWk_keep h hw.2⟩
theorem SWk_si {m : Mm} {j : Nat} {y : Int32} : ∀ {W : List Nat}, W.length ≤ j → SWk m W → SWk (si m 16 j y) W
  | [], _, _ => trivial
  | w :: W, hj, h => by
    have hj' : W.length + 1 ≤ j := hj
    refine ⟨?_, SWk_si (by omega) h.2⟩
    rw [si_nj (by omega)]
    exact h.1
def pkI (S : Sn) (i : Nat) : Int32 := if i < S 43 0 then nI (S 42 i) else -1
theorem pk_is {S : Sn} (hW : Wf S) {i c : Nat} (hi : i ≤ S 43 0) (hc : c < 128) : (pkI S i = nI c) = (chr S i = c) := by
  have b := Wf_43 hW
  unfold pkI chr
  by_cases e : i < S 43 0
  · have := Wf_42 hW (show i < 100 by omega)
    rw [if_pos e, if_pos e, n_eq (by omega) (by omega)]
  · rw [if_neg e, if_neg e]
    apply propext
    exact ⟨fun q => absurd q.symm (cne1 (by omega)), fun q => by omega⟩
theorem peek_m {m : Mm} {S : Sn} {f i : Nat} {codes : List Nat} (h : TM m S f i codes) (hW : Wf S) (hi : i ≤ S 43 0) : Mo_peek m = some (pkI S i) := by
  have b := Wf_43 hW
  obtain ⟨h1, h2, h3, _⟩ := h
  unfold Mo_peek pkI
  rw [h1, h3]
  by_cases e : i < S 43 0
  · rw [if_neg (by rw [n_le (by omega) (by omega)]; omega), if_pos e, ga_n (by omega) (by omega), n_cl (by omega), h2 i (by omega)]
  · rw [if_pos (by rw [n_le (by omega) (by omega)]; omega), if_neg e]
theorem TM_T {m m' : Mm} {S : Sn} {f i : Nat} {codes : List Nat} (h : TM m S f i codes) (h13 : m'.1 0 13 = m.1 0 13) (h23 : m'.1 0 23 = m.1 0 23) (hk : ∀ k i, (k = 0 ∧ i = 12) ∨ k = 9 ∨ k = 15 → m'.1 k i = m.1 k i) : TM m' S f i codes := by
  obtain ⟨h1, h2, h3, h4, h5⟩ := h
  exact ⟨(hk 0 12 (by omega)).trans h1, fun j hj => (hk 9 j (by omega)).trans (h2 j hj), h13.trans h3, h23.trans h4, fun j v hv => (hk 15 _ (by omega)).trans (h5 j v hv)⟩
theorem TM_at {m : Mm} {S : Sn} {f i : Nat} {codes : List Nat} (h : TM m S f i codes) (j : Nat) : TM (si m 0 13 (nI j)) S f j codes := by
  obtain ⟨h1, h2, h3, h4, h5⟩ := h
  exact ⟨(si_nj (by omega)).trans h1, fun j hj => (si_ne (by omega)).trans (h2 j hj), si_e rfl rfl, (si_nj (by omega)).trans h4, fun j v hv => (si_ne (by omega)).trans (h5 j v hv)⟩
theorem takes_m {m : Mm} {S : Sn} {f i : Nat} {codes : List Nat} (h : TM m S f i codes) (hW : Wf S) (hi : i ≤ S 43 0) {c : Nat} (hc : c < 128) : Mo_takes m (nI c) = if chr S i = c then some (true, si m 0 13 (nI (i + 1))) else some (false, m) := by
  unfold Mo_takes
  rw [peek_m h hW hi, h.2.2.1, i_1, n_add]
  simp only [Option.bind_some, pk_is hW hi hc]
theorem dig_m {m : Mm} {S : Sn} {f i : Nat} {codes : List Nat} (h : TM m S f i codes) (hW : Wf S) (hi : i ≤ S 43 0) : Mo_isDigit m = some (isD (chr S i)) := by
  have b := Wf_43 hW
  unfold Mo_isDigit
  rw [peek_m h hW hi]
  simp only [Option.bind_some]
  rw [Mo_in_eq, show (48 : Int32).toInt = 48 by decide, show (57 : Int32).toInt = 57 by decide]
  unfold pkI chr isD
  by_cases e : i < S 43 0
  · have := Wf_42 hW (show i < 100 by omega)
    rw [if_pos e, if_pos e, nI_toInt (by omega)]
    congr 1
    congr 1
    apply propext
    omega
  · rw [if_neg e, if_neg e]
    rfl
theorem pk_d {S : Sn} {i : Nat} (h : i < S 43 0) : pkI S i = nI (chr S i) := by
  unfold pkI chr
  rw [if_pos h, if_pos h]
/-- only where one stands and the number change -/
def frN (m m' : Mm) : Prop := (∀ k i, ¬ (k = 0 ∧ (i = 13 ∨ i = 14)) → m'.1 k i = m.1 k i) ∧ m'.2 = m.2
theorem frN_T {f c : Nat} {m m' : Mm} (h : frN m m') : frT f c m m' := ⟨fun k i q => h.1 k i (fun e => q (by unfold pTx; omega)), h.2⟩
theorem num_m {m : Mm} {S : Sn} {f i : Nat} {codes : List Nat} (h : TM m S f i codes) (hW : Wf S) (hi : i ≤ S 43 0) : match num S i with
    | none => Mo_takesNumber m = some (false, m)
    | some q => ∃ m', Mo_takesNumber m = some (true, m') ∧ frN m m' ∧ TM m' S f q.2 codes ∧ m'.1 0 14 = nI q.1 := by
  have b := Wf_43 hW
  have e48 : (48 : Int32) = nI 48 := rfl
  unfold num Mo_takesNumber
  rw [dig_m h hW hi]
  simp only [Option.bind_some]
  by_cases e1 : isD (chr S i) = true
  · have g1 := isD_lt e1
    have t0 : TM (si m 0 14 0) S f i codes := TM_T h (si_nj (by omega)) (si_nj (by omega)) (fun k j q => by
      by_cases hk : k = 0
      · rw [si_nj (by omega)]
      · rw [si_ne hk])
    have st1 : Mo_takesNumber_l16 (0, si m 0 14 0) = some (.inl (nI 1, si (si (si m 0 14 0) 0 14 (nI (chr S i - 48))) 0 13 (nI (i + 1)))) := by
      unfold Mo_takesNumber_l16
      dsimp only
      rw [if_neg (show ¬ (2 : Int32) ≤ 0 by decide), dig_m t0 hW hi, peek_m t0 hW hi]
      simp only [Option.bind_some, e1, ↓reduceIte]
      rw [pk_d g1.1, si_e rfl rfl, si_nj (by omega), t0.2.2.1, i_10, i_1, i_0, n_mul, e48]
      simp (disch := omega) only [n_add, n_sub]
      rw [show 10 * 0 + chr S i - 48 = chr S i - 48 by omega]
    have t1 : TM (si (si (si m 0 14 0) 0 14 (nI (chr S i - 48))) 0 13 (nI (i + 1))) S f (i + 1) codes := TM_at (TM_T t0 (si_nj (by omega)) (si_nj (by omega)) (fun k j q => by
      by_cases hk : k = 0
      · rw [si_nj (by omega)]
      · rw [si_ne hk])) (i + 1)
    have f1 : frN m (si (si (si m 0 14 0) 0 14 (nI (chr S i - 48))) 0 13 (nI (i + 1))) := ⟨fun k j q => by rw [si_r, if_neg (by omega), si_r, if_neg (by omega), si_r, if_neg (by omega)], rfl⟩
    have v1 : (si (si (si m 0 14 0) 0 14 (nI (chr S i - 48))) 0 13 (nI (i + 1))).1 0 14 = nI (chr S i - 48) := by rw [si_nj (by omega), si_e rfl rfl]
    rw [if_pos e1, if_pos e1, iter_inl st1]
    by_cases e2 : isD (chr S (i + 1)) = true
    · have g2 := isD_lt e2
      have st2 : Mo_takesNumber_l16 (nI 1, si (si (si m 0 14 0) 0 14 (nI (chr S i - 48))) 0 13 (nI (i + 1))) = some (.inl (nI 2, si (si (si (si (si m 0 14 0) 0 14 (nI (chr S i - 48))) 0 13 (nI (i + 1))) 0 14 (nI (10 * (chr S i - 48) + (chr S (i + 1) - 48)))) 0 13 (nI (i + 2)))) := by
        unfold Mo_takesNumber_l16
        dsimp only
        rw [if_neg (show ¬ (2 : Int32) ≤ nI 1 by decide), dig_m t1 hW (by omega), peek_m t1 hW (by omega)]
        simp only [Option.bind_some, e2, ↓reduceIte]
        rw [pk_d g2.1, v1, si_nj (by omega), t1.2.2.1, i_10, i_1, n_mul, e48]
        simp (disch := omega) only [n_add, n_sub]
        rw [show 10 * (chr S i - 48) + chr S (i + 1) - 48 = 10 * (chr S i - 48) + (chr S (i + 1) - 48) by omega]
      have st3 : ∀ m', Mo_takesNumber_l16 (nI 2, m') = some (.inr m') := by
        intro m'
        unfold Mo_takesNumber_l16
        dsimp only
        rw [if_pos (show (2 : Int32) ≤ nI 2 by decide)]
      rw [if_pos e2, iter_inl st2, iter_inr (st3 _)]
      refine ⟨_, rfl, ⟨fun k j q => by rw [si_r, if_neg (by omega), si_r, if_neg (by omega)]; exact f1.1 k j q, rfl⟩, TM_at (TM_T t1 (si_nj (by omega)) (si_nj (by omega)) (fun k j q => ?_)) (i + 2), by rw [si_nj (by omega), si_e rfl rfl]⟩
      by_cases hk : k = 0
      · rw [si_nj (by omega)]
      · rw [si_ne hk]
    · have st2 : Mo_takesNumber_l16 (nI 1, si (si (si m 0 14 0) 0 14 (nI (chr S i - 48))) 0 13 (nI (i + 1))) = some (.inr (si (si (si m 0 14 0) 0 14 (nI (chr S i - 48))) 0 13 (nI (i + 1)))) := by
        unfold Mo_takesNumber_l16
        dsimp only
        rw [if_neg (show ¬ (2 : Int32) ≤ nI 1 by decide), dig_m t1 hW (by omega)]
        simp only [Option.bind_some, e2]
        rfl
      rw [if_neg e2, iter_inr st2]
      exact ⟨_, rfl, f1, t1, v1⟩
  · rw [if_neg e1, if_neg e1]
section
variable {S : Sn} {f c : Nat}
theorem MS_TM {m m' : Mm} {i j : Nat} {codes codes' W : List Nat} (h : MS m S f i codes W) (ht : TM m' S f j codes') (hk : ∀ k i, (k = 0 ∧ (i = 24 ∨ i = 25)) ∨ k = 16 → m'.1 k i = m.1 k i) : MS m' S f j codes' W := by
  obtain ⟨_, h2, h3, h4⟩ := h
  exact ⟨ht, (hk 0 24 (by omega)).trans h2, SWk_keep (fun i => hk 16 i (by omega)) h3, (hk 0 25 (by omega)).trans h4⟩
theorem emit_m {m : Mm} {i : Nat} {codes : List Nat} (h : TM m S f i codes) (hf : f < 6) (hl : codes.length < 100) (v : Nat) : Mo_emits m (rCode v) = some (si (si m 15 (100 * f + codes.length) (rCode v)) 0 23 (nI (100 * f + (codes.length + 1)))) ∧ TM (si (si m 15 (100 * f + codes.length) (rCode v)) 0 23 (nI (100 * f + (codes.length + 1)))) S f i (codes ++ [v]) ∧ frT f c m (si (si m 15 (100 * f + codes.length) (rCode v)) 0 23 (nI (100 * f + (codes.length + 1)))) := by
  obtain ⟨h1, h2, h3, h4, h5⟩ := h
  refine ⟨?_, ⟨?_, fun j hj => ?_, ?_, ?_, fun j v' hv => ?_⟩, frT_si _ (frT_si _ (frT_rf _ _ _) (by unfold pTx; omega)) (pT0 (by omega))⟩
  · unfold Mo_emits
    rw [h4, ga_n (by omega) (by omega), n_cl (by omega), si_ne (by omega), h4, i_1, n_add, Nat.add_assoc]
  · rw [si_nj (by omega), si_ne (by omega)]
    exact h1
  · rw [si_ne (by omega), si_ne (by omega)]
    exact h2 j hj
  · rw [si_nj (by omega), si_ne (by omega)]
    exact h3
  · rw [si_e rfl rfl, List.length_append]
    rfl
  · rw [si_ne (by omega)]
    by_cases e : j < codes.length
    · rw [List.getElem?_append_left e] at hv
      rw [si_nj (by omega)]
      exact h5 j v' hv
    · rw [List.getElem?_append_right (by omega)] at hv
      obtain ⟨hj, _⟩ := List.getElem?_eq_some_iff.mp hv
      have hj' : j - codes.length < 1 := hj
      have e2 : j - codes.length = 0 := by omega
      rw [e2] at hv
      have hv' : some v = some v' := hv
      rw [si_e rfl (by omega), Option.some.inj hv']
def bangs : List Nat → List Nat
  | [] => []
  | w :: W => if w = 33 then 0 :: bangs W else []
def strip : List Nat → List Nat
  | [] => []
  | w :: W => if w = 33 then strip W else w :: W
theorem bang_len : ∀ W : List Nat, (bangs W).length + (strip W).length = W.length
  | [] => rfl
  | w :: W => by
    have ih := bang_len W
    unfold bangs strip
    by_cases e : w = 33
    · rw [if_pos e, if_pos e, List.length_cons, List.length_cons]
      omega
    · rw [if_neg e, if_neg e]
      exact Nat.zero_add _
theorem whole_m (hf : f < 6) : ∀ (W : List Nat) (m : Mm) (i : Nat) (codes : List Nat), MS m S f i codes W → codes.length + W.length ≤ 100 → (∀ w ∈ W, w < 128) → ∃ m', Mo_whole m = some m' ∧ frT f c m m' ∧ MS m' S f i (codes ++ bangs W) (strip W)
  | [], m, i, codes, h, hl, hW => by
    refine ⟨m, ?_, frT_rf _ _ _, by rw [show bangs [] = [] from rfl, List.append_nil]; exact h⟩
    unfold Mo_whole
    rw [iter_inr (r := m)]
    · rfl
    · unfold Mo_whole_l0
      rw [h.2.1, if_pos (show nI ([] : List Nat).length ≤ 0 by decide)]
  | w :: W, m, i, codes, h, hl, hW => by
    have hw := hW w List.mem_cons_self
    have hl' : codes.length + (W.length + 1) ≤ 100 := hl
    obtain ⟨h1, h2, h3, h4⟩ := id h
    have h2' : m.1 0 24 = nI (W.length + 1) := h2
    have hst : Mo_whole_l0 m = if w = 33 then ((Mo_emits m (-33)).bind fun r4 => some (.inl (si (si r4 0 24 (nI W.length)) 0 25 ((r4.1 0 25) - 1)))) else some (.inr m) := by
      unfold Mo_whole_l0
      rw [h2', if_neg (by rw [i_0]; exact (by rw [n_le (by omega) (by omega)]; omega)), nI_pred, ga_n (by omega) (by omega), n_cl (by omega), h3.1]
      by_cases e : w = 33
      · rw [if_pos (show nI w = 33 by rw [e]; rfl), if_pos e]
        obtain ⟨q1, q2, q3⟩ := emit_m (c := c) h1 hf (by omega) 0
        rw [show (-33 : Int32) = rCode 0 from rfl, q1]
        simp only [Option.bind_some]
        rw [si_nj (show 24 ≠ 23 by omega), si_ne (show 0 ≠ 15 by omega), h2', nI_pred, si_nj (show 25 ≠ 24 by omega)]
      · rw [if_neg (show ¬ nI w = 33 by rw [show (33 : Int32) = nI 33 from rfl, n_eq (by omega) (by omega)]; exact e), if_neg e]
    unfold bangs strip
    by_cases e : w = 33
    · obtain ⟨q1, q2, q3⟩ := emit_m (c := c) h1 hf (by omega) 0
      rw [if_pos e] at hst
      rw [show (-33 : Int32) = rCode 0 from rfl, q1] at hst
      simp only [Option.bind_some] at hst
      have hop : opn (w :: W) = opn W + 1 := by
        show opn W + (if w = 33 ∨ w = 40 then 1 else 0) = _
        rw [if_pos (Or.inl e)]
      have v25 : (si (si m 15 (100 * f + codes.length) (rCode 0)) 0 23 (nI (100 * f + (codes.length + 1)))).1 0 25 - 1 = nI (opn W) := by
        rw [si_nj (by omega), si_ne (by omega), h4, hop, nI_pred]
      rw [v25] at hst
      obtain ⟨m', r1, r2, r3⟩ := whole_m hf W _ i (codes ++ [0]) ⟨TM_T q2 (m' := si (si (si (si m 15 (100 * f + codes.length) (rCode 0)) 0 23 (nI (100 * f + (codes.length + 1)))) 0 24 (nI W.length)) 0 25 (nI (opn W))) (by rw [si_nj (by omega), si_nj (by omega)]) (by rw [si_nj (by omega), si_nj (by omega)]) (fun k j q => by
        by_cases hk : k = 0
        · rw [si_nj (by omega), si_nj (by omega)]
        · rw [si_ne hk, si_ne hk]), by rw [si_nj (by omega), si_e rfl rfl], SWk_keep (fun j => by rw [si_ne (by omega), si_ne (by omega), si_ne (by omega), si_ne (by omega)]) h3.2, si_e rfl rfl⟩ (by rw [List.length_append]; show codes.length + 1 + W.length ≤ 100; omega) (fun w h => hW w (List.mem_cons_of_mem _ h))
      refine ⟨m', ?_, frT_tr (frT_si _ (frT_si _ q3 (pT0 (by omega))) (pT0 (by omega))) r2, ?_⟩
      · unfold Mo_whole at r1 ⊢
        rw [iter_inl hst]
        exact r1
      · rw [if_pos e, if_pos e]
        rw [List.append_assoc] at r3
        exact r3
    · rw [if_neg e] at hst
      refine ⟨m, ?_, frT_rf _ _ _, ?_⟩
      · unfold Mo_whole
        rw [iter_inr hst]
        rfl
      · rw [if_neg e, if_neg e, List.append_nil]
        exact h
/-- one operator taken down -/
theorem setP_m {m : Mm} {i w : Nat} {codes W : List Nat} (h : MS m S f i codes (w :: W)) (hf : f < 6) (hl : codes.length + W.length < 100) {a1 : Int32} {v : Nat} (hv : (w = 38 ∧ v = 1) ∨ (w = 124 ∧ v = 2 ∧ ¬ a1 = 38)) : ∃ m', Mo_settle_l0 a1 m = some (.inl m') ∧ frT f c m m' ∧ MS m' S f i (codes ++ [v]) W := by
  obtain ⟨h1, h2, h3, h4⟩ := id h
  have h2' : m.1 0 24 = nI (W.length + 1) := h2
  have h1' : TM (si m 0 24 (nI W.length)) S f i codes := TM_T h1 (si_nj (by omega)) (si_nj (by omega)) (fun k j q => by
    by_cases hk : k = 0
    · rw [si_nj (by omega)]
    · rw [si_ne hk])
  obtain ⟨q1, q2, q3⟩ := emit_m (c := c) h1' hf (by omega) v
  have hneg : -(nI w) = rCode v := by
    rcases hv with ⟨rfl, rfl⟩ | ⟨rfl, rfl, _⟩ <;> decide
  have hop : opn (w :: W) = opn W := by
    show opn W + (if w = 33 ∨ w = 40 then 1 else 0) = _
    rw [if_neg (by omega)]
    rfl
  refine ⟨_, ?_, frT_tr (frT_si (k := 0) (i := 24) _ (frT_rf _ _ _) (pT0 (by omega))) q3, q2, ?_, ?_, ?_⟩
  · unfold Mo_settle_l0 jn
    dsimp only
    rw [h2', if_neg (by rw [i_0]; exact (by rw [n_le (by omega) (by omega)]; omega)), nI_pred, ga_n (by omega) (by omega), n_cl (by omega), h3.1, si_e rfl rfl, ga_n (by omega) (by omega), n_cl (by omega), si_ne (by omega), h3.1, hneg, q1]
    rcases hv with ⟨rfl, rfl⟩ | ⟨rfl, rfl, h38⟩
    · rw [if_pos (show nI 38 = 38 from rfl)]
      rfl
    · rw [if_neg (show ¬ nI 124 = 38 by decide), ga_n (by omega) (by omega), if_pos (show nI 124 = 124 from rfl), if_neg h38]
      rfl
  · rw [si_nj (by omega), si_ne (by omega), si_e rfl rfl]
  · exact SWk_keep (fun j => by rw [si_ne (by omega), si_ne (by omega), si_ne (by omega)]) h3.2
  · rw [si_nj (by omega), si_ne (by omega), si_nj (by omega), h4, hop]
theorem setS_m {m : Mm} {i : Nat} {codes W : List Nat} (h : MS m S f i codes W) (hl : W.length < 100) {a1 : Int32} (hs : W = [] ∨ (∃ W2, W = 40 :: W2) ∨ ∃ W2, W = 124 :: W2 ∧ a1 = 38) : Mo_settle_l0 a1 m = some (.inr m) := by
  obtain ⟨h1, h2, h3, h4⟩ := h
  unfold Mo_settle_l0 jn
  dsimp only
  rcases hs with rfl | ⟨W2, rfl⟩ | ⟨W2, rfl, ha⟩
  · rw [h2, if_pos (show nI ([] : List Nat).length ≤ 0 by decide)]
  · have hl' : W2.length + 1 < 100 := hl
    have h2' : m.1 0 24 = nI (W2.length + 1) := h2
    rw [h2', if_neg (by rw [i_0]; exact (by rw [n_le (by omega) (by omega)]; omega)), nI_pred, ga_n (by omega) (by omega), n_cl (by omega), h3.1, if_neg (show ¬ nI 40 = 38 by decide), ga_n (by omega) (by omega), if_neg (show ¬ nI 40 = 124 by decide)]
  · have hl' : W2.length + 1 < 100 := hl
    have h2' : m.1 0 24 = nI (W2.length + 1) := h2
    rw [h2', if_neg (by rw [i_0]; exact (by rw [n_le (by omega) (by omega)]; omega)), nI_pred, ga_n (by omega) (by omega), n_cl (by omega), h3.1, if_neg (show ¬ nI 124 = 38 by decide), ga_n (by omega) (by omega), if_pos (show nI 124 = 124 from rfl), if_pos ha]
def oA (a : Bool) : List Nat := if a = true then [38] else []
def oO (o : Bool) : List Nat := if o = true then [124] else []
def okW (W1 : List Nat) : Prop := W1 = [] ∨ ∃ W2, W1 = 40 :: W2
theorem oA_len (a : Bool) : (oA a).length = onB a := by cases a <;> rfl
theorem oO_len (a : Bool) : (oO a).length = onB a := by cases a <;> rfl
theorem ops_len (a o : Bool) (W1 : List Nat) : (oA a ++ (oO o ++ W1)).length = onB a + onB o + W1.length := by
  rw [List.length_append, List.length_append, oA_len, oO_len]
  omega
theorem iter_to {σ ρ : Type} {step : σ → Option (σ ⊕ ρ)} {s s' : σ} (h : step s = some (.inl s')) : iter step s = iter step s' := iter_inl h
theorem set38_m {m : Mm} {i : Nat} {codes W1 : List Nat} {a o : Bool} (hf : f < 6) (hw : okW W1) (h : MS m S f i codes (oA a ++ (oO o ++ W1))) (hl : codes.length + (onB a + onB o + W1.length) < 100) : ∃ m', Mo_settle m 38 = some m' ∧ frT f c m m' ∧ MS m' S f i (codes ++ pA a) (oO o ++ W1) := by
  have hstop : ∀ m2 : Mm, ∀ cs, MS m2 S f i cs (oO o ++ W1) → Mo_settle_l0 38 m2 = some (.inr m2) := by
    intro m2 cs h2
    refine setS_m h2 (by rw [List.length_append, oO_len]; omega) ?_
    cases o with
    | false => exact hw.elim Or.inl (fun q => Or.inr (Or.inl q))
    | true => exact Or.inr (Or.inr ⟨W1, rfl, rfl⟩)
  unfold Mo_settle
  cases a with
  | false =>
    refine ⟨m, ?_, frT_rf _ _ _, ?_⟩
    · rw [iter_inr (hstop m codes h)]
      rfl
    · rw [show pA false = [] from rfl, List.append_nil]
      exact h
  | true =>
    have t1 : onB true = 1 := rfl
    obtain ⟨m1, q1, q2, q3⟩ := setP_m (c := c) (a1 := 38) (w := 38) (W := oO o ++ W1) (v := 1) h hf (by rw [List.length_append, oO_len]; omega) (Or.inl ⟨rfl, rfl⟩)
    refine ⟨m1, ?_, q2, q3⟩
    rw [iter_inl q1, iter_inr (hstop m1 _ q3)]
    rfl
theorem set124_m {m : Mm} {i : Nat} {codes W1 : List Nat} {a o : Bool} (hf : f < 6) (hw : okW W1) (h : MS m S f i codes (oA a ++ (oO o ++ W1))) (hl : codes.length + (onB a + onB o + W1.length) ≤ 100) (hl1 : W1.length < 100) : ∃ m', Mo_settle m 124 = some m' ∧ frT f c m m' ∧ MS m' S f i (codes ++ pA a ++ pO o) W1 := by
  have n38 : ¬ (124 : Int32) = 38 := by decide
  have hstop : ∀ m2 : Mm, ∀ cs, MS m2 S f i cs W1 → Mo_settle_l0 124 m2 = some (.inr m2) := by
    intro m2 cs h2
    exact setS_m h2 hl1 (hw.elim Or.inl (fun q => Or.inr (Or.inl q)))
  have hO : ∀ (m2 : Mm) (cs : List Nat), cs.length + (onB o + W1.length) ≤ 100 → MS m2 S f i cs (oO o ++ W1) → ∃ m', iter (Mo_settle_l0 124) m2 = some m' ∧ frT f c m2 m' ∧ MS m' S f i (cs ++ pO o) W1 := by
    intro m2 cs hcs h2
    cases o with
    | false =>
      refine ⟨m2, iter_inr (hstop m2 cs h2), frT_rf _ _ _, ?_⟩
      rw [show pO false = [] from rfl, List.append_nil]
      exact h2
    | true =>
      have t1 : onB true = 1 := rfl
      obtain ⟨m1, q1, q2, q3⟩ := setP_m (c := c) (a1 := 124) (w := 124) (W := W1) (v := 2) h2 hf (by omega) (Or.inr ⟨rfl, rfl, n38⟩)
      exact ⟨m1, by rw [iter_inl q1, iter_inr (hstop m1 _ q3)], q2, q3⟩
  unfold Mo_settle
  cases a with
  | false =>
    have t0 : onB false = 0 := rfl
    obtain ⟨m', q1, q2, q3⟩ := hO m codes (by omega) h
    refine ⟨m', by rw [q1]; rfl, q2, ?_⟩
    rw [show pA false = [] from rfl, List.append_nil]
    exact q3
  | true =>
    have t1 : onB true = 1 := rfl
    obtain ⟨m1, q1, q2, q3⟩ := setP_m (c := c) (a1 := 124) (w := 38) (W := oO o ++ W1) (v := 1) h hf (by rw [List.length_append, oO_len]; omega) (Or.inl ⟨rfl, rfl⟩)
    obtain ⟨m', r1, r2, r3⟩ := hO m1 _ (by rw [List.length_append]; show codes.length + 1 + _ ≤ 100; omega) q3
    exact ⟨m', by rw [iter_inl q1, r1]; rfl, frT_tr q2 r2, r3⟩
end
