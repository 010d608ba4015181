-- ===== the class reads an E =====
def pR (x k i : Nat) : Prop := (k = 67 ∧ i = 2) ∨ (k = x ∧ i = 1) ∨ k = x + 1
def frR (x : Nat) (m m' : Mm) : Prop := (∀ k i, ¬ pR x k i → m'.1 k i = m.1 k i) ∧ m'.2 = m.2
theorem frR_rf (x : Nat) (m : Mm) : frR x m m := ⟨fun _ _ _ => rfl, rfl⟩
theorem frR_tr {x : Nat} {a b c : Mm} (h : frR x a b) (g : frR x b c) : frR x a c := ⟨fun k i q => (g.1 k i q).trans (h.1 k i q), g.2.trans h.2⟩
theorem frR_si {x : Nat} {a m : Mm} {k i : Nat} (y : Int32) (h : frR x a m) (hP : pR x k i) : frR x a (si m k i y) := by
  refine ⟨fun k' i' q => ?_, ?_⟩
  · rw [si_r]
    by_cases e : k' = k ∧ i' = i
    · rw [e.1, e.2] at q
      exact absurd hP q
    · rw [if_neg e]
      exact h.1 k' i' q
  · rw [si_l]
    exact h.2
def TC (m : Mm) (S : Sn) (x : Nat) : Prop := m.1 67 1 = nI (S 43 0) ∧ (∀ i, i < 100 → m.1 68 i = nI (S 42 i)) ∧ m.2.2 67 3 = x
def CS (m : Mm) (S : Sn) (x i : Nat) (codes : List Nat) : Prop := TC m S x ∧ m.1 67 2 = nI i ∧ m.1 x 1 = nI codes.length ∧ ∀ j v, codes[j]? = some v → m.1 (x + 1) j = cCode v
def Lx (x : Nat) : Prop := 37 ≤ x ∧ x ≤ 62 ∧ isL x = true
theorem TC_R {m m' : Mm} {S : Sn} {x : Nat} (h : TC m S x) (hs : frR x m m') (hx : Lx x) : TC m' S x := by
  obtain ⟨h1, h2, h3⟩ := h
  obtain ⟨x1, x2, _⟩ := hx
  refine ⟨(hs.1 67 1 (by unfold pR; omega)).trans h1, fun i hi => (hs.1 68 i (by unfold pR; omega)).trans (h2 i hi), ?_⟩
  rw [hs.2]
  exact h3
def okQ (S : Sn) (x : Nat) (m : Mm) (codes : List Nat) (r : Option (Bool × Mm)) : Rs → Prop
  | .inl a => ∃ m', r = some (false, m') ∧ frR x m m' ∧ m'.1 67 2 = nI a
  | .inr (j, l) => ∃ m', r = some (true, m') ∧ frR x m m' ∧ CS m' S x j (codes ++ l)
theorem okQ_pre {S : Sn} {x : Nat} {m m1 : Mm} {codes l : List Nat} {r : Option (Bool × Mm)} {res : Rs} (hs : frR x m m1) (h : okQ S x m1 (codes ++ l) r res) : okQ S x m codes r (pre l res) := by
  match res, h with
  | .inl a, h =>
    obtain ⟨m', h1, h2, h3⟩ := h
    exact ⟨m', h1, frR_tr hs h2, h3⟩
  | .inr (j, l2), h =>
    obtain ⟨m', h1, h2, h3⟩ := h
    refine ⟨m', h1, frR_tr hs h2, ?_⟩
    rw [← List.append_assoc]
    exact h3
theorem chr16 {c : Nat} (h : c < 128) : ((nI c).toUInt32 % 65536).toInt32 = nI c := by
  have H : ∀ k : Fin 128, ((nI k.val).toUInt32 % 65536).toInt32 = nI k.val := by decide +kernel
  exact H ⟨c, h⟩
section
variable {S : Sn} {x : Nat}
theorem ahead_c {m : Mm} {i : Nat} {codes : List Nat} (h : CS m S x i codes) (hW : Wf S) (hi : i ≤ S 43 0) : Re_ahead m = some (nI (chr S i)) := by
  have b := Wf_43 hW
  obtain ⟨⟨h1, h2, h3⟩, h4, h5⟩ := h
  unfold Re_ahead chr
  rw [h1, h4]
  by_cases e : i < S 43 0
  · rw [if_neg (by rw [n_le (by omega) (by omega)]; omega), if_pos e, ga_n (by omega) (by omega), n_cl (by omega), h2 i (by omega), chr16 (Wf_42 hW (by omega)), decide_eq_true rfl, gq_t]
  · rw [if_pos (by rw [n_le (by omega) (by omega)]; omega), if_neg e]
    rfl
theorem at_c {m : Mm} {i : Nat} {codes : List Nat} (h : CS m S x i codes) (hx : Lx x) (j : Nat) : CS (si m 67 2 (nI j)) S x j codes ∧ frR x m (si m 67 2 (nI j)) := by
  obtain ⟨h1, h2, h3, h4⟩ := h
  have hf : frR x m (si m 67 2 (nI j)) := frR_si _ (frR_rf _ _) (Or.inl ⟨rfl, rfl⟩)
  obtain ⟨x1, x2, _⟩ := id hx
  exact ⟨⟨TC_R h1 hf hx, si_e rfl rfl, (si_ne (by omega)).trans h3, fun j v hv => (si_ne (by omega)).trans (h4 j v hv)⟩, hf⟩
theorem takes_c {m : Mm} {i : Nat} {codes : List Nat} (h : CS m S x i codes) (hW : Wf S) (hi : i ≤ S 43 0) {c : Nat} (hc : c < 128) : Re_takes m (nI c) = if chr S i = c then some (true, si m 67 2 (nI (i + 1))) else some (false, m) := by
  have b := Wf_43 hW
  have hl := chr_le S hW i
  unfold Re_takes
  rw [ahead_c h hW hi, h.2.1]
  simp (disch := omega) only [Option.bind_some, n_eq, i_1, n_add]
theorem add_c {m : Mm} {i : Nat} {codes : List Nat} (h : CS m S x i codes) (hx : Lx x) (hl : codes.length < 100) (c : Nat) : ∃ m', La_addCode x m (cCode c) = some m' ∧ frR x m m' ∧ CS m' S x i (codes ++ [c]) := by
  obtain ⟨h1, h2, h3, h4⟩ := h
  obtain ⟨x1, x2, _⟩ := id hx
  unfold La_addCode
  rw [h3, i_100, if_neg (by rw [n_le (by omega) (by omega)]; omega), ga_n (by omega) (by omega), n_cl (by omega), si_ne (by omega), h3, i_1, n_add]
  have hf : frR x m (si (si m (x + 1) codes.length (cCode c)) x 1 (nI (codes.length + 1))) := frR_si _ (frR_si _ (frR_rf _ _) (Or.inr (Or.inr rfl))) (Or.inr (Or.inl ⟨rfl, rfl⟩))
  refine ⟨_, rfl, hf, TC_R h1 hf hx, ?_, ?_, fun j v hv => ?_⟩
  · rw [si_ne (by omega), si_ne (by omega)]
    exact h2
  · rw [si_e rfl rfl, List.length_append]
    rfl
  · rw [si_ne (by omega)]
    by_cases e : j < codes.length
    · rw [List.getElem?_append_left e] at hv
      rw [si_nj (by omega)]
      exact h4 j v hv
    · rw [List.getElem?_append_right (by omega)] at hv
      obtain ⟨hj, _⟩ := List.getElem?_eq_some_iff.mp hv
      have hj' : j - codes.length < 1 := hj
      have e2 : j - codes.length = 0 := by omega
      rw [e2] at hv
      have hv' : some c = some v := hv
      rw [si_e rfl (by omega), Option.some.inj hv']
end
theorem ix96 {c : Nat} (hc : c < 256) : JS_indexOf str_96 (nI c) = some (oI (-1) (ltr c)) := by
  have H : ∀ c : Fin 256, JL_canEncode (nI c.val) = true ∧ itN (JL_indexOfChar_l7 str_96 (nI c.val) 6) 8 0 = some (match ltr c.val with | none => .inl () | some l => .inr (nI l)) := by decide +kernel
  obtain ⟨h1, h2⟩ := H ⟨c, hc⟩
  unfold JS_indexOf JS_indexOf2 JL_indexOf JL_indexOfChar
  rw [h1, if_pos rfl, show imax 0 0 = 0 by decide, show imin (JS_length str_96) (Int32.ofNat str_96.length) = 6 by decide, if_pos (by decide), iter_of h2]
  cases ltr c <;> rfl
def sgn (c : Nat) : Option Nat := if 60 ≤ c ∧ c ≤ 62 then some (c - 60) else none
theorem ix98 {c : Nat} (hc : c < 256) : JS_indexOf str_98 (nI c) = some (oI (-1) (sgn c)) := by
  have H : ∀ c : Fin 256, JL_canEncode (nI c.val) = true ∧ itN (JL_indexOfChar_l7 str_98 (nI c.val) 3) 5 0 = some (match sgn c.val with | none => .inl () | some l => .inr (nI l)) := by decide +kernel
  obtain ⟨h1, h2⟩ := H ⟨c, hc⟩
  unfold JS_indexOf JS_indexOf2 JL_indexOf JL_indexOfChar
  rw [h1, if_pos rfl, show imax 0 0 = 0 by decide, show imin (JS_length str_98) (Int32.ofNat str_98.length) = 3 by decide, if_pos (by decide), iter_of h2]
  cases sgn c <;> rfl
theorem ix53 {c : Nat} (hc : c < 256) : JS_indexOf str_53 (nI c) = some (oI (-1) (srt c)) := by
  have H : ∀ c : Fin 256, JL_canEncode (nI c.val) = true ∧ itN (JL_indexOfChar_l7 str_53 (nI c.val) 3) 5 0 = some (match srt c.val with | none => .inl () | some l => .inr (nI l)) := by decide +kernel
  obtain ⟨h1, h2⟩ := H ⟨c, hc⟩
  unfold JS_indexOf JS_indexOf2 JL_indexOf JL_indexOfChar
  rw [h1, if_pos rfl, show imax 0 0 = 0 by decide, show imin (JS_length str_53) (Int32.ofNat str_53.length) = 3 by decide, if_pos (by decide), iter_of h2]
  cases srt c <;> rfl
section
variable {S : Sn} {x : Nat}
theorem numS_c {m : Mm} {i : Nat} {codes : List Nat} (h : CS m S x i codes) (hW : Wf S) (hi : i ≤ S 43 0) (acc : Int32) {k : Nat} (hk : k < 2) : Re_takeNumber_l4 (acc, nI k, m) = if isD (chr S i) = true then some (.inl (imax acc 0 * 10 + nI (chr S i) - 48, nI (k + 1), si m 67 2 (nI (i + 1)))) else some (.inr (acc, m)) := by
  have hl := chr_le S hW i
  have e48 : (48 : Int32) = nI 48 := rfl
  have e57 : (57 : Int32) = nI 57 := rfl
  unfold Re_takeNumber_l4
  dsimp only
  rw [i_2, if_neg (by rw [n_le (by omega) (by omega)]; omega), ahead_c h hW hi, h.2.1, e57]
  simp (disch := omega) only [Option.bind_some]
  unfold isD
  by_cases e1 : chr S i < 48
  · rw [if_pos (show nI (chr S i) < 48 by rw [e48]; exact (by rw [n_lt (by omega) (by omega)]; omega)), decide_eq_false (fun q => by omega), if_neg (by decide)]
  · rw [if_neg (show ¬ nI (chr S i) < 48 by rw [e48]; exact (by rw [n_lt (by omega) (by omega)]; omega))]
    by_cases e2 : 57 < chr S i
    · rw [if_pos (by rw [n_lt (by omega) (by omega)]; omega), decide_eq_false (fun q => by omega), if_neg (by decide)]
    · rw [if_neg (by rw [n_lt (by omega) (by omega)]; omega), decide_eq_true ⟨by omega, by omega⟩, if_pos rfl, ← nI_succ, ← nI_succ]
theorem num_c {m : Mm} {i : Nat} {codes : List Nat} (h : CS m S x i codes) (hx : Lx x) (hW : Wf S) (hi : i ≤ S 43 0) : ∃ m', Re_takeNumber m = some (match num S i with | none => -1 | some q => nI q.1, m') ∧ frR x m m' ∧ CS m' S x (match num S i with | none => i | some q => q.2) codes := by
  have e48 : (48 : Int32) = nI 48 := rfl
  unfold Re_takeNumber num
  by_cases e1 : isD (chr S i) = true
  · have g1 := isD_lt e1
    obtain ⟨c1, f1⟩ := at_c h hx (i + 1)
    have v1 : imax (-1) 0 * 10 + nI (chr S i) - 48 = nI (chr S i - 48) := by
      rw [show imax (-1) 0 = nI 0 by decide, i_10, n_mul, n_add, e48, n_sub (by omega)]
      congr 1
      omega
    rw [if_pos e1, iter_inl (s' := (nI (chr S i - 48), nI 1, si m 67 2 (nI (i + 1)))) (by rw [show ((-1 : Int32), (0 : Int32), m) = (-1, nI 0, m) from rfl, numS_c h hW hi (-1) (by omega), if_pos e1, v1])]
    by_cases e2 : isD (chr S (i + 1)) = true
    · have g2 := isD_lt e2
      obtain ⟨c2, f2⟩ := at_c c1 hx (i + 2)
      have v2 : imax (nI (chr S i - 48)) 0 * 10 + nI (chr S (i + 1)) - 48 = nI (10 * (chr S i - 48) + (chr S (i + 1) - 48)) := by
        have hm : imax (nI (chr S i - 48)) 0 = nI (chr S i - 48) := by
          unfold imax
          rw [if_neg (nI_pos (by omega))]
        rw [hm, i_10, n_mul, n_add, e48, n_sub (by omega)]
        congr 1
        omega
      rw [if_pos e2, iter_inl (s' := (nI (10 * (chr S i - 48) + (chr S (i + 1) - 48)), nI 2, si (si m 67 2 (nI (i + 1))) 67 2 (nI (i + 2)))) (by rw [numS_c c1 hW (by omega) _ (by omega), if_pos e2, v2]), iter_inr (r := (nI (10 * (chr S i - 48) + (chr S (i + 1) - 48)), si (si m 67 2 (nI (i + 1))) 67 2 (nI (i + 2)))) (by unfold Re_takeNumber_l4; dsimp only; rw [i_2, if_pos (by rw [n_le (by omega) (by omega)]; omega)])]
      exact ⟨_, rfl, frR_tr f1 f2, c2⟩
    · rw [if_neg e2, iter_inr (r := (nI (chr S i - 48), si m 67 2 (nI (i + 1)))) (by rw [numS_c c1 hW (by omega) _ (by omega), if_neg e2])]
      exact ⟨_, rfl, f1, c1⟩
  · rw [if_neg e1, iter_inr (r := (-1, m)) (by rw [show ((-1 : Int32), (0 : Int32), m) = (-1, nI 0, m) from rfl, numS_c h hW hi (-1) (by omega), if_neg e1])]
    exact ⟨m, rfl, frR_rf _ _, h⟩
theorem CS_isL {m : Mm} {i : Nat} {codes : List Nat} (h : CS m S x i codes) (hx : Lx x) : isL (m.2.2 67 3) = true ∧ m.2.2 67 3 = x := ⟨by rw [h.1.2.2]; exact hx.2.2, h.1.2.2⟩
theorem test_c {m : Mm} {i : Nat} {codes : List Nat} (h : CS m S x i codes) (hx : Lx x) (hW : Wf S) (hi : i ≤ S 43 0) (hl : codes.length ≤ i) : okQ S x m codes (Re_readsTest m) (tst S i) := by
  have b := Wf_43 hW
  have l1 := chr_le S hW i
  have l2 := chr_le S hW (i + 1)
  unfold Re_readsTest tst
  rw [ahead_c h hW hi]
  simp only [Option.bind_some]
  rw [ix96 (by omega)]
  simp only [Option.bind_some]
  match h1 : ltr (chr S i) with
  | none =>
    rw [show oI (-1) none = -1 from rfl, if_neg (show ¬ (0 : Int32) ≤ -1 by decide)]
    exact ⟨m, rfl, frR_rf _ _, h.2.1⟩
  | some l =>
    have g1 := ltr_lt h1
    have g2 := chr_lt g1.2
    obtain ⟨c1, f1⟩ := at_c h hx (i + 1)
    rw [show oI (-1) (some l) = nI l from rfl, if_pos (nI_pos' (by omega)), h.2.1, si_e rfl rfl, i_1, n_add, n_add, ahead_c c1 hW (by omega)]
    simp only [Option.bind_some]
    rw [ix98 (by omega)]
    simp only [Option.bind_some]
    unfold sgn
    by_cases e : 60 ≤ chr S (i + 1) ∧ chr S (i + 1) ≤ 62
    · have g3 := chr_lt (S := S) (i := i + 1) (by omega)
      obtain ⟨c2, f2⟩ := at_c c1 hx (i + 1 + 1)
      obtain ⟨m2, q1, q2, q3⟩ := num_c c2 hx hW (by omega)
      rw [if_pos e, if_pos e, show oI (-1) (some (chr S (i + 1) - 60)) = nI (chr S (i + 1) - 60) from rfl, if_pos (nI_pos' (by omega)), q1]
      simp only [Option.bind_some]
      match h2 : num S (i + 2) with
      | none =>
        rw [h2] at q3
        rw [if_neg (show ¬ (0 : Int32) ≤ -1 by decide)]
        exact ⟨m2, rfl, frR_tr f1 (frR_tr f2 q2), q3.2.1⟩
      | some q =>
        have g4 := num_bd h2
        rw [h2] at q3
        obtain ⟨k1, k2⟩ := CS_isL q3 hx
        have hv : nI l * 300 + nI (chr S (i + 1) - 60) * 100 + nI q.1 = cCode (l * 300 + (chr S (i + 1) - 60) * 100 + q.1 + 3) := by
          unfold cCode
          rw [if_neg (by omega), if_neg (by omega), if_neg (by omega), i_300, i_100, n_mul, n_mul, n_add, n_add]
          rfl
        obtain ⟨m3, r1, r2, r3⟩ := add_c q3 hx (by omega) (l * 300 + (chr S (i + 1) - 60) * 100 + q.1 + 3)
        rw [if_pos (nI_pos' (by omega)), k1, gq_t, k2]
        unfold La_addTest
        rw [hv, r1]
        exact ⟨m3, rfl, frR_tr f1 (frR_tr f2 (frR_tr q2 r2)), r3⟩
    · rw [if_neg e, if_neg e, show oI (-1) none = -1 from rfl, if_neg (show ¬ (0 : Int32) ≤ -1 by decide)]
      exact ⟨_, rfl, f1, c1.2.1⟩
theorem addB_c {m : Mm} {i : Nat} {codes : List Nat} (h : CS m S x i codes) (hx : Lx x) (a : Bool) (c : Nat) (y : Int32) (hy : y = cCode c) (hl : a = true → codes.length < 100) {α : Type} (j : Mm → Option α) : ∃ m', (if bI a = 0 then j m else gq (isL (m.2.2 67 3)) ((La_addCode (m.2.2 67 3) m y).bind fun r => j r)) = j m' ∧ frR x m m' ∧ CS m' S x i (codes ++ (if a = true then [c] else [])) := by
  cases a with
  | false =>
    refine ⟨m, by rw [if_pos (show bI false = 0 by decide)], frR_rf _ _, ?_⟩
    rw [if_neg (by decide), List.append_nil]
    exact h
  | true =>
    obtain ⟨k1, k2⟩ := CS_isL h hx
    obtain ⟨m2, r1, r2, r3⟩ := add_c h hx (hl rfl) c
    refine ⟨m2, ?_, r2, ?_⟩
    · rw [if_neg (show ¬ bI true = 0 by decide), k1, gq_t, k2, hy, r1]
      rfl
    · rw [if_pos rfl]
      exact r3
theorem eloop_c {rc : Mm → Int32 → Option (Bool × Mm)} {pt : Nat → Rs} {a1 : Int32} (hx : Lx x) (hW : Wf S) (hpt : ∀ i, i ≤ S 43 0 → bdR S i 0 (pt i)) (hrc : ∀ m i codes, CS m S x i codes → i ≤ S 43 0 → codes.length ≤ i → okQ S x m codes (rc m a1) (pt i)) : ∀ k a o i codes m, k ≤ 100 → CS m S x i codes → i ≤ S 43 0 → codes.length + (onB a + onB o) ≤ i → okQ S x m codes ((iter (Re_readsEither_l7 rc a1) (bI a, bI o, nI (100 - k), m)).bind (Sum.elim (fun e2 => some (false, e2)) (fun v20 => some v20))) (eloop S pt k a o i) := by
  have b := Wf_43 hW
  intro k
  induction k with
  | zero =>
    intro a o i codes m hk h hi hl
    refine ⟨m, ?_, frR_rf _ _, h.2.1⟩
    rw [iter_inr (r := .inl m)]
    · rfl
    · unfold Re_readsEither_l7
      dsimp only
      rw [i_100, if_pos (by rw [n_le (by omega) (by omega)]; omega)]
  | succ k ih =>
    intro a o i codes m hk h hi hl
    have h0 := hrc m i codes h hi (by omega)
    have hb := hpt i hi
    have hst : Re_readsEither_l7 rc a1 (bI a, bI o, nI (100 - (k + 1)), m) = ((rc m a1).bind fun r3 => if r3.1 = true then (if bI a = 0 then (Re_takes r3.2 38).bind fun r6 => if r6.1 = true then some (.inl (bI r6.1, bI o, nI (100 - k), r6.2)) else (if bI o = 0 then (Re_takes r6.2 124).bind fun r9 => if r9.1 = true then some (.inl (bI r6.1, bI r9.1, nI (100 - k), r9.2)) else some (.inr (.inr (true, r9.2))) else gq (isL (r6.2.2.2 67 3)) ((La_addCode (r6.2.2.2 67 3) r6.2 (-3)).bind fun r12 => (Re_takes r12 124).bind fun r9 => if r9.1 = true then some (.inl (bI r6.1, bI r9.1, nI (100 - k), r9.2)) else some (.inr (.inr (true, r9.2))))) else gq (isL (r3.2.2.2 67 3)) ((La_addCode (r3.2.2.2 67 3) r3.2 (-2)).bind fun r16 => (Re_takes r16 38).bind fun r6 => if r6.1 = true then some (.inl (bI r6.1, bI o, nI (100 - k), r6.2)) else (if bI o = 0 then (Re_takes r6.2 124).bind fun r9 => if r9.1 = true then some (.inl (bI r6.1, bI r9.1, nI (100 - k), r9.2)) else some (.inr (.inr (true, r9.2))) else gq (isL (r6.2.2.2 67 3)) ((La_addCode (r6.2.2.2 67 3) r6.2 (-3)).bind fun r12 => (Re_takes r12 124).bind fun r9 => if r9.1 = true then some (.inl (bI r6.1, bI r9.1, nI (100 - k), r9.2)) else some (.inr (.inr (true, r9.2))))))) else some (.inr (.inr (false, r3.2)))) := by
      unfold Re_readsEither_l7 jn
      dsimp only
      rw [i_100, if_neg (by rw [n_le (by omega) (by omega)]; omega), i_1, n_add, show 100 - (k + 1) + 1 = 100 - k by omega]
    unfold eloop
    match hh : pt i with
    | .inl e =>
      rw [hh] at h0
      obtain ⟨m1, q1, q2, q3⟩ := h0
      refine ⟨m1, ?_, q2, q3⟩
      rw [iter_inr (r := .inr (false, m1))]
      · rfl
      · rw [hst, q1]
        rfl
    | .inr (j, l) =>
      rw [hh] at h0 hb
      obtain ⟨m1, q1, q2, q3⟩ := h0
      obtain ⟨b1, b2, b3⟩ := hb
      have hlen : (codes ++ l).length = codes.length + l.length := List.length_append
      obtain ⟨m2, k1, k2, k3⟩ := addB_c q3 hx a 1 (-2) rfl (fun e => by
        have : onB a = 1 := by rw [e]; rfl
        omega) (fun e4 => (Re_takes e4 38).bind fun r6 => if r6.1 = true then (some (.inl (bI r6.1, bI o, nI (100 - k), r6.2)) : Option ((Int32 × Int32 × Int32 × Mm) ⊕ (Mm ⊕ (Bool × Mm)))) else (if bI o = 0 then (Re_takes r6.2 124).bind fun r9 => if r9.1 = true then some (.inl (bI r6.1, bI r9.1, nI (100 - k), r9.2)) else some (.inr (.inr (true, r9.2))) else gq (isL (r6.2.2.2 67 3)) ((La_addCode (r6.2.2.2 67 3) r6.2 (-3)).bind fun r12 => (Re_takes r12 124).bind fun r9 => if r9.1 = true then some (.inl (bI r6.1, bI r9.1, nI (100 - k), r9.2)) else some (.inr (.inr (true, r9.2))))))
      have hstep := hst
      rw [q1] at hstep
      simp only [Option.bind_some, ↓reduceIte] at hstep
      rw [k1, show Re_takes m2 38 = _ from takes_c k3 hW (by omega) (c := 38) (by omega)] at hstep
      have hA : codes ++ l ++ (if a = true then [1] else []) = codes ++ (l ++ pA a) := List.append_assoc ..
      rw [hA] at k3
      have hlA : (codes ++ (l ++ pA a)).length = codes.length + l.length + onB a := by rw [List.length_append, List.length_append, pA_len]; omega
      have s2 := frR_tr q2 k2
      dsimp only
      by_cases e1 : chr S j = 38
      · have g1 := chr_lt (S := S) (i := j) (by omega)
        obtain ⟨c1, f1⟩ := at_c k3 hx (j + 1)
        rw [if_pos e1] at hstep ⊢
        rw [iter_inl (s' := (bI true, bI o, nI (100 - k), si m2 67 2 (nI (j + 1)))) hstep]
        refine okQ_pre (frR_tr s2 f1) (ih true o (j + 1) _ _ (by omega) c1 (by omega) ?_)
        have t1 : onB true = 1 := rfl
        omega
      rw [if_neg e1] at hstep ⊢
      obtain ⟨m3, n1, n2, n3⟩ := addB_c k3 hx o 2 (-3) rfl (fun e => by
        have : onB o = 1 := by rw [e]; rfl
        omega) (fun e7 => (Re_takes e7 124).bind fun r9 => if r9.1 = true then (some (.inl (bI false, bI r9.1, nI (100 - k), r9.2)) : Option ((Int32 × Int32 × Int32 × Mm) ⊕ (Mm ⊕ (Bool × Mm)))) else some (.inr (.inr (true, r9.2))))
      simp only [Option.bind_some, Bool.false_eq_true, ↓reduceIte] at hstep
      rw [n1, show Re_takes m3 124 = _ from takes_c n3 hW (by omega) (c := 124) (by omega)] at hstep
      have hO : codes ++ (l ++ pA a) ++ (if o = true then [2] else []) = codes ++ (l ++ pA a ++ pO o) := List.append_assoc ..
      rw [hO] at n3
      have hlO : (codes ++ (l ++ pA a ++ pO o)).length = codes.length + l.length + onB a + onB o := by rw [List.length_append, List.length_append, List.length_append, pA_len, pO_len]; omega
      have s3 := frR_tr s2 n2
      by_cases e2 : chr S j = 124
      · have g1 := chr_lt (S := S) (i := j) (by omega)
        obtain ⟨c1, f1⟩ := at_c n3 hx (j + 1)
        rw [if_pos e2] at hstep ⊢
        rw [iter_inl (s' := (bI false, bI true, nI (100 - k), si m3 67 2 (nI (j + 1)))) hstep]
        refine okQ_pre (frR_tr s3 f1) (ih false true (j + 1) _ _ (by omega) c1 (by omega) ?_)
        have t1 : onB true = 1 := rfl
        have t0 : onB false = 0 := rfl
        omega
      · rw [if_neg e2] at hstep ⊢
        refine ⟨m3, ?_, s3, n3⟩
        rw [iter_inr (r := .inr (true, m3)) hstep]
        rfl
theorem part_c2 (hx : Lx x) (hW : Wf S) : ∀ h, h ≤ 4 → ∀ N, 2 * h + 1 ≤ N → ∀ m i codes, CS m S x i codes → i ≤ S 43 0 → codes.length ≤ i → okQ S x m codes ((Re_pair N).2 m (nI (4 - h))) (prt S h i) := by
  have b := Wf_43 hW
  have e33 : (33 : Int32) = nI 33 := rfl
  have e40 : (40 : Int32) = nI 40 := rfl
  have e41 : (41 : Int32) = nI 41 := rfl
  intro h
  induction h with
  | zero =>
    intro h4 N hN m i codes hc hi hl
    have l1 := chr_le S hW i
    obtain ⟨N', rfl⟩ : ∃ N', N = N' + 1 := ⟨N - 1, by omega⟩
    show okQ S x m codes (Re_readsPart_b (Re_pair N').1 (Re_pair N').2 m (nI (4 - 0))) _
    have ht := test_c hc hx hW hi hl
    unfold Re_readsPart_b jn prt
    rw [ahead_c hc hW hi]
    simp only [Option.bind_some]
    rw [if_neg (show ¬ nI (4 - 0) < 4 by decide), e33, e40]
    simp (disch := omega) only [n_eq]
    by_cases e1 : chr S i = 33
    · rw [if_pos e1, if_pos (Or.inl e1)]
      exact ⟨m, rfl, frR_rf _ _, hc.2.1⟩
    rw [if_neg e1]
    by_cases e2 : chr S i = 40
    · rw [if_pos e2, if_pos (Or.inr e2)]
      exact ⟨m, rfl, frR_rf _ _, hc.2.1⟩
    rw [if_neg e2, if_neg (fun q => q.elim e1 e2)]
    rw [show (Re_readsTest m).bind (fun r14 => some (r14.1, r14.2)) = Re_readsTest m from bind_oI _]
    exact ht
  | succ h ih =>
    intro h4 N hN m i codes hc hi hl
    have l1 := chr_le S hW i
    obtain ⟨N', rfl⟩ : ∃ N', N = N' + 2 := ⟨N - 2, by omega⟩
    show okQ S x m codes (Re_readsPart_b (Re_readsEither_b (Re_pair N').2) (Re_pair (N' + 1)).2 m (nI (4 - (h + 1)))) _
    have ht := test_c hc hx hW hi hl
    have hlt : nI (4 - (h + 1)) < 4 := by
      rw [i_4]
      exact (by rw [n_lt (by omega) (by omega)]; omega)
    unfold Re_readsPart_b jn prt
    rw [ahead_c hc hW hi]
    simp only [Option.bind_some]
    simp only [if_pos hlt]
    rw [e33, e40, e41, hc.2.1, i_1, n_add, n_add, show 4 - (h + 1) + 1 = 4 - h by omega]
    simp (disch := omega) only [n_eq]
    by_cases e1 : chr S i = 40
    · have g1 := chr_lt (S := S) (i := i) (by omega)
      obtain ⟨c1, f1⟩ := at_c hc hx (i + 1)
      have hE := eloop_c (rc := (Re_pair N').2) (pt := prt S h) (a1 := nI (4 - h)) hx hW (fun i hi => prt_bd h i hi) (fun m i codes a b c => ih (by omega) N' (by omega) m i codes a b c) 100 false false (i + 1) codes _ (by omega) c1 (by omega) (by have : onB false = 0 := rfl; omega)
      have hE' : okQ S x (si m 67 2 (nI (i + 1))) codes (Re_readsEither_b (Re_pair N').2 (si m 67 2 (nI (i + 1))) (nI (4 - h))) (eloop S (prt S h) 100 false false (i + 1)) := hE
      have hbd := eloop_bd (S := S) (pt := prt S h) (fun i hi => prt_bd h i hi) 100 false false (i + 1) (by omega)
      rw [if_neg (show ¬ chr S i = 33 by omega), if_pos e1, if_pos e1, if_pos e1]
      match hh : eloop S (prt S h) 100 false false (i + 1) with
      | .inl e =>
        rw [hh] at hE'
        obtain ⟨m1, q1, q2, q3⟩ := hE'
        rw [q1]
        exact ⟨m1, rfl, frR_tr f1 q2, q3⟩
      | .inr (j, l) =>
        rw [hh] at hE' hbd
        obtain ⟨m1, q1, q2, q3⟩ := hE'
        obtain ⟨b1, b2, b3⟩ := hbd
        rw [q1]
        simp only [Option.bind_some, ↓reduceIte]
        rw [takes_c q3 hW b2 (c := 41) (by omega)]
        by_cases e3 : chr S j = 41
        · obtain ⟨c2, f2⟩ := at_c q3 hx (j + 1)
          rw [if_pos e3, if_pos e3]
          exact ⟨_, rfl, frR_tr f1 (frR_tr q2 f2), c2⟩
        · rw [if_neg e3, if_neg e3]
          exact ⟨_, rfl, frR_tr f1 q2, q3.2.1⟩
    by_cases e2 : chr S i = 33
    · have g1 := chr_lt (S := S) (i := i) (by omega)
      obtain ⟨c1, f1⟩ := at_c hc hx (i + 1)
      have hP := ih (by omega) (N' + 1) (by omega) _ (i + 1) codes c1 (by omega) (by omega)
      have hbd := prt_bd (S := S) h (i + 1) (by omega)
      rw [if_pos e2, if_neg e1, if_neg e1, if_pos e2]
      match hh : prt S h (i + 1) with
      | .inl e =>
        rw [hh] at hP
        obtain ⟨m1, q1, q2, q3⟩ := hP
        rw [q1]
        exact ⟨m1, rfl, frR_tr f1 q2, q3⟩
      | .inr (j, l) =>
        rw [hh] at hP hbd
        obtain ⟨m1, q1, q2, q3⟩ := hP
        obtain ⟨b1, b2, b3⟩ := hbd
        obtain ⟨k1, k2⟩ := CS_isL q3 hx
        obtain ⟨m2, r1, r2, r3⟩ := add_c q3 hx (by rw [List.length_append]; omega) 0
        have r1' : La_addCode x m1 (-1) = some m2 := r1
        rw [q1]
        simp only [Option.bind_some, ↓reduceIte]
        rw [k1, gq_t, k2, show (-nI 1 : Int32) = -1 from rfl, r1']
        refine ⟨m2, rfl, frR_tr f1 (frR_tr q2 r2), ?_⟩
        rw [← List.append_assoc]
        exact r3
    · rw [if_neg e2, if_neg e1, if_neg e1, if_neg e2]
      rw [show (Re_readsTest m).bind (fun r14 => some (r14.1, r14.2)) = Re_readsTest m from bind_oI _]
      exact ht
end
