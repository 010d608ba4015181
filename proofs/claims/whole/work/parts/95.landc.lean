-- ===== the class reads a land =====
section
variable {S : Sn} {x : Nat}
theorem word_c {w : List Int32} {ws : List Nat} (hx : Lx x) (hW : Wf S) (hlen : JS_length w = nI ws.length) (hws : ws.length < 100) (hch : ∀ k v, ws[k]? = some v → v < 128 ∧ JS_charAt w (nI k) = some (nI v)) : ∀ (l : List Nat) (k i : Nat) (m : Mm) (codes : List Nat), (∀ j v, l[j]? = some v → ws[k + j]? = some v) → k + l.length = ws.length → CS m S x i codes → i ≤ S 43 0 → match wrd S l i with
    | .inl e => ∃ m', (iter (Re_takesWord_l2 w) (nI k, m)).bind (Sum.elim (fun e2 => some (true, e2)) (fun v7 => some v7)) = some (false, m') ∧ frR x m m' ∧ m'.1 67 2 = nI e
    | .inr j => ∃ m', (iter (Re_takesWord_l2 w) (nI k, m)).bind (Sum.elim (fun e2 => some (true, e2)) (fun v7 => some v7)) = some (true, m') ∧ frR x m m' ∧ CS m' S x j codes := by
  have b := Wf_43 hW
  intro l
  induction l with
  | nil =>
    intro k i m codes hl hk h hi
    rw [List.length_nil] at hk
    refine ⟨m, ?_, frR_rf _ _, h⟩
    rw [iter_inr (r := .inl m)]
    · rfl
    · unfold Re_takesWord_l2
      dsimp only
      rw [hlen, if_pos (by rw [n_le (by omega) (by omega)]; omega)]
  | cons c l ih =>
    intro k i m codes hl hk h hi
    rw [List.length_cons] at hk
    obtain ⟨hc, hcc⟩ := hch k c (hl 0 c rfl)
    have hst : Re_takesWord_l2 w (nI k, m) = if chr S i = c then some (.inl (nI (k + 1), si m 67 2 (nI (i + 1)))) else some (.inr (.inr (false, m))) := by
      unfold Re_takesWord_l2
      dsimp only
      rw [hlen, if_neg (by rw [n_le (by omega) (by omega)]; omega), hcc]
      simp only [Option.bind_some]
      rw [takes_c h hW hi hc, ← nI_succ]
      by_cases e : chr S i = c
      · rw [if_pos e, if_pos e]
        rfl
      · rw [if_neg e, if_neg e]
        rfl
    unfold wrd
    by_cases e : chr S i = c
    · have g1 := chr_lt (S := S) (i := i) (by omega)
      obtain ⟨c1, f1⟩ := at_c h hx (i + 1)
      rw [if_pos e] at hst ⊢
      rw [iter_inl hst]
      have hr := ih (k + 1) (i + 1) _ codes (fun j v hv => by rw [show k + 1 + j = k + (j + 1) by omega]; exact hl (j + 1) v hv) (by omega) c1 (by omega)
      match hh : wrd S l (i + 1) with
      | .inl e2 =>
        rw [hh] at hr
        obtain ⟨m', q1, q2, q3⟩ := hr
        exact ⟨m', q1, frR_tr f1 q2, q3⟩
      | .inr j =>
        rw [hh] at hr
        obtain ⟨m', q1, q2, q3⟩ := hr
        exact ⟨m', q1, frR_tr f1 q2, q3⟩
    · rw [if_neg e] at hst ⊢
      refine ⟨m, ?_, frR_rf _ _, h.2.1⟩
      rw [iter_inr hst]
      rfl
def wst (s : Nat) : List Int32 := if s = 0 then str_59 else if s = 1 then str_61 else str_63
theorem wst_len {s : Nat} (hs : s ≤ 2) : JS_length (wst s) = nI (wds s).length ∧ (wds s).length < 100 := by
  have h : s = 0 ∨ s = 1 ∨ s = 2 := by omega
  rcases h with rfl | rfl | rfl <;> decide
theorem wst_ch {s : Nat} (hs : s ≤ 2) : ∀ k v, (wds s)[k]? = some v → v < 128 ∧ JS_charAt (wst s) (nI k) = some (nI v) := by
  have h : s = 0 ∨ s = 1 ∨ s = 2 := by omega
  rcases h with rfl | rfl | rfl
  · intro k v hv
    have hk : k < 6 := (List.getElem?_eq_some_iff.mp hv).1
    have H : ∀ k : Fin 6, ∀ v : Fin 128, (wds 0)[k.val]? = some v.val → JS_charAt (wst 0) (nI k.val) = some (nI v.val) := by decide +kernel
    have hv2 : v < 128 := by
      have H2 : ∀ k : Fin 6, ∀ v, (wds 0)[k.val]? = some v → v < 128 := by
        intro k v h
        have h3 : v ∈ wds 0 := List.mem_of_getElem? h
        have h4 : ∀ v ∈ wds 0, v < 128 := by decide
        exact h4 v h3
      exact H2 ⟨k, hk⟩ v hv
    exact ⟨hv2, H ⟨k, hk⟩ ⟨v, hv2⟩ hv⟩
  · intro k v hv
    have hk : k < 4 := (List.getElem?_eq_some_iff.mp hv).1
    have H : ∀ k : Fin 4, ∀ v : Fin 128, (wds 1)[k.val]? = some v.val → JS_charAt (wst 1) (nI k.val) = some (nI v.val) := by decide +kernel
    have hv2 : v < 128 := by
      have h3 : v ∈ wds 1 := List.mem_of_getElem? hv
      have h4 : ∀ v ∈ wds 1, v < 128 := by decide
      exact h4 v h3
    exact ⟨hv2, H ⟨k, hk⟩ ⟨v, hv2⟩ hv⟩
  · intro k v hv
    have hk : k < 5 := (List.getElem?_eq_some_iff.mp hv).1
    have H : ∀ k : Fin 5, ∀ v : Fin 128, (wds 2)[k.val]? = some v.val → JS_charAt (wst 2) (nI k.val) = some (nI v.val) := by decide +kernel
    have hv2 : v < 128 := by
      have h3 : v ∈ wds 2 := List.mem_of_getElem? hv
      have h4 : ∀ v ∈ wds 2, v < 128 := by decide
      exact h4 v h3
    exact ⟨hv2, H ⟨k, hk⟩ ⟨v, hv2⟩ hv⟩
-- clauses
def flatL (lc : List Cl) : List Nat := (lc.map (fun c => c.2.2)).flatten
theorem flat_len (lc : List Cl) : (flatL lc).length = startOf lc lc.length := by
  induction lc with
  | nil => rfl
  | cons c l ih =>
    show (c.2.2 ++ flatL l).length = startOf (c :: l) (l.length + 1)
    rw [List.length_append, startOf_cons, ih]
theorem flat_get : ∀ (lc : List Cl) (k : Nat) (c : Cl), lc[k]? = some c → ∀ (i v : Nat), c.2.2[i]? = some v → (flatL lc)[startOf lc k + i]? = some v
  | [], k, c, h, _, _, _ => by cases h
  | c0 :: l, 0, c, h, i, v, hv => by
    have h' : some c0 = some c := h
    have e := Option.some.inj h'
    subst e
    show (c0.2.2 ++ flatL l)[0 + i]? = some v
    obtain ⟨hi, _⟩ := List.getElem?_eq_some_iff.mp hv
    rw [Nat.zero_add, List.getElem?_append_left hi]
    exact hv
  | c0 :: l, k + 1, c, h, i, v, hv => by
    have ih := flat_get l k c h i v hv
    show (c0.2.2 ++ flatL l)[startOf (c0 :: l) (k + 1) + i]? = some v
    rw [startOf_cons, List.getElem?_append_right (by omega), show c0.2.2.length + startOf l k + i - c0.2.2.length = startOf l k + i by omega]
    exact ih
theorem flat_app (lc : List Cl) (c : Cl) : flatL (lc ++ [c]) = flatL lc ++ c.2.2 := by
  unfold flatL
  rw [List.map_append, List.flatten_append]
  show _ ++ (c.2.2 ++ []) = _
  rw [List.append_nil]
theorem start_app {lc : List Cl} {c : Cl} {k : Nat} (hk : k ≤ lc.length) : startOf (lc ++ [c]) k = startOf lc k := by
  unfold startOf
  rw [List.take_append_of_le_length hk]
theorem arms_app (lc : List Cl) (c : Cl) : armsOf (lc ++ [c]) = if c.1 = 2 then c.2.1 else armsOf lc := by
  unfold armsOf
  rw [List.foldl_append]
  rfl
def CH (m : Mm) (x : Nat) (lc : List Cl) : Prop := m.1 x 5 = nI lc.length ∧ m.1 x 6 = nI (armsOf lc) ∧ ∀ (k : Nat) (c : Cl), lc[k]? = some c → m.1 (x + 2) k = nI c.1 ∧ m.1 (x + 3) k = nI c.2.1 ∧ m.1 (x + 4) k = nI (startOf lc (k + 1))
theorem CH_R {m m' : Mm} {lc : List Cl} (h : CH m x lc) (hs : frR x m m') (hx : Lx x) : CH m' x lc := by
  obtain ⟨h1, h2, h3⟩ := h
  obtain ⟨x1, x2, _⟩ := hx
  refine ⟨(hs.1 x 5 (by unfold pR; omega)).trans h1, (hs.1 x 6 (by unfold pR; omega)).trans h2, fun k c hk => ?_⟩
  obtain ⟨g1, g2, g3⟩ := h3 k c hk
  exact ⟨(hs.1 _ _ (by unfold pR; omega)).trans g1, (hs.1 _ _ (by unfold pR; omega)).trans g2, (hs.1 _ _ (by unfold pR; omega)).trans g3⟩
theorem CL_of {m : Mm} {lc : List Cl} {i : Nat} (h : CH m x lc) (hc : CS m S x i (flatL lc)) : CL m x lc := by
  obtain ⟨h1, h2, h3⟩ := h
  refine ⟨h1, h2, fun k c hk => ?_⟩
  obtain ⟨g1, g2, g3⟩ := h3 k c hk
  exact ⟨g1, g2, g3, fun i v hv => hc.2.2.2 _ v (flat_get lc k c hk i v hv)⟩
def pC (x k i : Nat) : Prop := (k = 67 ∧ i = 2) ∨ (x ≤ k ∧ k ≤ x + 4)
def frC (x : Nat) (m m' : Mm) : Prop := (∀ k i, ¬ pC x k i → m'.1 k i = m.1 k i) ∧ m'.2 = m.2
theorem frC_rf (x : Nat) (m : Mm) : frC x m m := ⟨fun _ _ _ => rfl, rfl⟩
theorem frC_tr {a b c : Mm} (h : frC x a b) (g : frC x b c) : frC x a c := ⟨fun k i q => (g.1 k i q).trans (h.1 k i q), g.2.trans h.2⟩
theorem frC_R {a b : Mm} (h : frR x a b) : frC x a b := ⟨fun k i q => h.1 k i (fun p => q (by unfold pR at p; unfold pC; omega)), h.2⟩
theorem frC_si {a m : Mm} {k i : Nat} (y : Int32) (h : frC x a m) (hP : pC x k i) : frC x a (si m k i y) := by
  refine ⟨fun k' i' q => ?_, ?_⟩
  · rw [si_r]
    by_cases e : k' = k ∧ i' = i
    · rw [e.1, e.2] at q
      exact absurd hP q
    · rw [if_neg e]
      exact h.1 k' i' q
  · rw [si_l]
    exact h.2
def TS (m : Mm) (S : Sn) (x i : Nat) (lc : List Cl) : Prop := CS m S x i (flatL lc) ∧ CH m x lc
theorem addCl_c {m : Mm} {i : Nat} {lc : List Cl} {c : Cl} (hx : Lx x) (h : CS m S x i (flatL lc ++ c.2.2)) (hH : CH m x lc) (hl : lc.length < 10) (hc : c.1 ≤ 2) : ∃ m', La_addClause x m (nI c.1) (nI c.2.1) = some m' ∧ frC x m m' ∧ TS m' S x i (lc ++ [c]) := by
  obtain ⟨x1, x2, _⟩ := id hx
  obtain ⟨k1, k2, k3⟩ := hH
  -- the memory in which the clause is written
  have key : ∀ m1 : Mm, CS m1 S x i (flatL lc ++ c.2.2) → m1.1 x 5 = nI lc.length → m1.1 x 6 = nI (if c.1 = 2 then c.2.1 else armsOf lc) → (∀ (k : Nat) (c : Cl), lc[k]? = some c → m1.1 (x + 2) k = nI c.1 ∧ m1.1 (x + 3) k = nI c.2.1 ∧ m1.1 (x + 4) k = nI (startOf lc (k + 1))) → frC x m m1 → frC x m (si (si (si (si m1 (x + 2) lc.length (nI c.1)) (x + 3) lc.length (nI c.2.1)) (x + 4) lc.length (nI (flatL lc ++ c.2.2).length)) x 5 (nI (lc.length + 1))) ∧ TS (si (si (si (si m1 (x + 2) lc.length (nI c.1)) (x + 3) lc.length (nI c.2.1)) (x + 4) lc.length (nI (flatL lc ++ c.2.2).length)) x 5 (nI (lc.length + 1))) S x i (lc ++ [c]) := by
    intro m1 hC h5 h6 hcl hf
    obtain ⟨c1, c2, c3, c4⟩ := hC
    refine ⟨frC_si _ (frC_si _ (frC_si _ (frC_si _ hf (by unfold pC; omega)) (by unfold pC; omega)) (by unfold pC; omega)) (by unfold pC; omega), ⟨⟨?_, fun i hi => ?_, ?_⟩, ?_, ?_, ?_⟩, ?_, ?_, ?_⟩
    · rw [si_ne (by omega), si_ne (by omega), si_ne (by omega), si_ne (by omega)]
      exact c1.1
    · rw [si_ne (by omega), si_ne (by omega), si_ne (by omega), si_ne (by omega)]
      exact c1.2.1 i hi
    · exact c1.2.2
    · rw [si_ne (by omega), si_ne (by omega), si_ne (by omega), si_ne (by omega)]
      exact c2
    · rw [flat_app, si_nj (by omega), si_ne (by omega), si_ne (by omega), si_ne (by omega)]
      exact c3
    · intro j v hv
      rw [flat_app] at hv
      rw [si_ne (by omega), si_ne (by omega), si_ne (by omega), si_ne (by omega)]
      exact c4 j v hv
    · rw [si_e rfl rfl, List.length_append]
      rfl
    · rw [si_nj (by omega), si_ne (by omega), si_ne (by omega), si_ne (by omega), h6, arms_app]
    · intro k c' hk
      by_cases e : k < lc.length
      · rw [List.getElem?_append_left e] at hk
        obtain ⟨g1, g2, g3⟩ := hcl k c' hk
        rw [start_app (by omega)]
        refine ⟨?_, ?_, ?_⟩
        · rw [si_ne (by omega), si_ne (by omega), si_ne (by omega), si_nj (by omega)]
          exact g1
        · rw [si_ne (by omega), si_ne (by omega), si_nj (by omega), si_ne (by omega)]
          exact g2
        · rw [si_ne (by omega), si_nj (by omega), si_ne (by omega), si_ne (by omega)]
          exact g3
      · rw [List.getElem?_append_right (by omega)] at hk
        obtain ⟨hj, _⟩ := List.getElem?_eq_some_iff.mp hk
        have hj' : k - lc.length < 1 := hj
        have e0 : k = lc.length := by omega
        subst e0
        rw [Nat.sub_self] at hk
        have e1 : c = c' := Option.some.inj hk
        subst e1
        refine ⟨?_, ?_, ?_⟩
        · rw [si_ne (by omega), si_ne (by omega), si_ne (by omega), si_e rfl rfl]
        · rw [si_ne (by omega), si_ne (by omega), si_e rfl rfl]
        · rw [si_ne (by omega), si_e rfl rfl]
          have := flat_len (lc ++ [c])
          rw [flat_app, List.length_append] at this
          have e2 : (lc ++ [c]).length = lc.length + 1 := by rw [List.length_append]; rfl
          rw [e2] at this
          rw [List.length_append, this]
  unfold La_addClause jn
  rw [i_2]
  simp (disch := omega) only [n_eq]
  by_cases e : c.1 = 2
  · have f6 : frC x m (si m x 6 (nI c.2.1)) := frC_si _ (frC_rf _ _) (by unfold pC; omega)
    obtain ⟨r1, r2⟩ := key (si m x 6 (nI c.2.1)) ⟨⟨(si_ne (by omega)).trans h.1.1, fun i hi => (si_ne (by omega)).trans (h.1.2.1 i hi), h.1.2.2⟩, (si_ne (by omega)).trans h.2.1, (si_nj (by omega)).trans h.2.2.1, fun j v hv => (si_ne (by omega)).trans (h.2.2.2 j v hv)⟩ ((si_nj (by omega)).trans k1) (by rw [if_pos e]; exact si_e rfl rfl) (fun k c hk => by
      obtain ⟨g1, g2, g3⟩ := k3 k c hk
      exact ⟨(si_ne (by omega)).trans g1, (si_ne (by omega)).trans g2, (si_ne (by omega)).trans g3⟩) f6
    rw [if_pos e]
    simp (disch := omega) only [si_ne, si_nj, k1, i_10, ga_n, n_cl, i_1, n_add, h.2.2.1]
    rw [if_neg (by rw [n_le (by omega) (by omega)]; omega)]
    exact ⟨_, rfl, r1, r2⟩
  · obtain ⟨r1, r2⟩ := key m h k1 (by rw [if_neg e]; exact k2) k3 (frC_rf _ _)
    rw [if_neg e]
    simp (disch := omega) only [si_ne, si_nj, k1, i_10, ga_n, n_cl, i_1, n_add, h.2.2.1]
    rw [if_neg (by rw [n_le (by omega) (by omega)]; omega)]
    exact ⟨_, rfl, r1, r2⟩
def okK (S : Sn) (x : Nat) (m : Mm) (lc : List Cl) (r : Option (Bool × Mm)) : Nat ⊕ (Nat × Cl) → Prop
  | .inl a => ∃ m', r = some (false, m') ∧ frC x m m' ∧ m'.1 67 2 = nI a ∧ TC m' S x
  | .inr (j, c) => ∃ m', r = some (true, m') ∧ frC x m m' ∧ TS m' S x j (lc ++ [c])
/-- what stands behind the word, for each sort -/
noncomputable def clRest (m : Mm) (r3 : Int32) (w : List Int32) : Option (Bool × Mm) :=
  (Re_takesWord m w).bind fun r34 =>
  if (r34.1) = true then
 ((Re_takeNumber (r34.2)).bind fun r35 =>
  if 0 ≤ (r35.1) then
 (if r3 = 2 then
 (gq (isL ((r35.2).2.2 67 3)) ((La_addClause ((r35.2).2.2 67 3) (r35.2) r3 (r35.1)).bind fun r39 => some (true, r39)))
 else ((Re_takes (r35.2) 32).bind fun r40 =>
  if (r40.1) = true then
 ((Re_readsEither (r40.2) 0).bind fun r41 =>
  if (r41.1) = true then
 (gq (isL ((r41.2).2.2 67 3)) ((La_addClause ((r41.2).2.2 67 3) (r41.2) r3 (r35.1)).bind fun r39 => some (true, r39)))
 else (some (false, r41.2)))
 else (some (false, r40.2))))
 else (some (false, r35.2)))
 else (some (false, r34.2))
theorem clRest_c {m : Mm} {i s : Nat} {lc : List Cl} (h : TS m S x i lc) (hx : Lx x) (hW : Wf S) (hi : i ≤ S 43 0) (hs : s ≤ 2) (hl : lc.length < 10) (hcc : (flatL lc).length ≤ i) : okK S x m lc (clRest m (nI s) (wst s)) (cls S i s) := by
  have b := Wf_43 hW
  obtain ⟨hC, hH⟩ := h
  obtain ⟨w1, w2⟩ := wst_len hs
  have hwd := word_c (w := wst s) (ws := wds s) hx hW w1 w2 (wst_ch hs) (wds s) 0 i m _ (fun j v hv => by rw [Nat.zero_add]; exact hv) (Nat.zero_add _) hC hi
  have hwb := wrd_bd (S := S) (wds s) i hi (by
    have h : s = 0 ∨ s = 1 ∨ s = 2 := by omega
    rcases h with rfl | rfl | rfl <;> decide)
  unfold clRest cls
  match h1 : wrd S (wds s) i with
  | .inl e =>
    rw [h1] at hwd
    obtain ⟨m1, q1, q2, q3⟩ := hwd
    have q1' : Re_takesWord m (wst s) = some (false, m1) := q1
    rw [q1']
    exact ⟨m1, rfl, frC_R q2, q3, TC_R hC.1 q2 hx⟩
  | .inr j =>
    rw [h1] at hwd hwb
    obtain ⟨m1, q1, q2, q3⟩ := hwd
    have q1' : Re_takesWord m (wst s) = some (true, m1) := q1
    obtain ⟨m2, n1, n2, n3⟩ := num_c q3 hx hW hwb.2
    rw [q1']
    simp only [Option.bind_some, ↓reduceIte]
    rw [n1]
    simp only [Option.bind_some]
    try dsimp only
    match h2 : num S j with
    | none =>
      rw [h2] at n3
      rw [if_neg (show ¬ (0 : Int32) ≤ -1 by decide)]
      exact ⟨m2, rfl, frC_R (frR_tr q2 n2), n3.2.1, n3.1⟩
    | some q =>
      have g := num_bd h2
      rw [h2] at n3
      have n3 : CS m2 S x q.2 (flatL lc) := n3
      have s2 := frR_tr q2 n2
      rw [if_pos (nI_pos' (by omega)), i_2]
      simp (disch := omega) only [n_eq]
      by_cases e : s = 2
      · obtain ⟨z1, z2⟩ := CS_isL n3 hx
        subst e
        obtain ⟨m3, r1, r2, r3⟩ := addCl_c (c := (2, q.1, [])) hx (by rw [List.append_nil]; exact n3) (CH_R hH s2 hx) hl (by show 2 ≤ 2; omega)
        have r1' : La_addClause x m2 (nI 2) (nI q.1) = some m3 := r1
        rw [if_pos rfl, if_pos rfl, z1, gq_t, z2, r1']
        exact ⟨m3, rfl, frC_tr (frC_R s2) r2, r3⟩
      rw [if_neg e, if_neg e, show Re_takes m2 32 = _ from takes_c n3 hW (by omega) (c := 32) (by omega)]
      by_cases e2 : chr S q.2 = 32
      · have g2 := chr_lt (S := S) (i := q.2) (by omega)
        obtain ⟨c1, f1⟩ := at_c n3 hx (q.2 + 1)
        have hE := eloop_c (rc := (Re_pair 15).2) (pt := prt S 4) (a1 := nI (4 - 4)) hx hW (fun i hi => prt_bd 4 i hi) (fun m i codes a b c => part_c2 hx hW 4 (by omega) 15 (by omega) m i codes a b c) 100 false false (q.2 + 1) _ _ (by omega) c1 (by omega) (by have : onB false = 0 := rfl; omega)
        have hE' : okQ S x (si m2 67 2 (nI (q.2 + 1))) (flatL lc) (Re_readsEither (si m2 67 2 (nI (q.2 + 1))) 0) (eloop S (prt S 4) 100 false false (q.2 + 1)) := hE
        rw [if_pos e2, if_pos e2]
        simp only [Option.bind_some, ↓reduceIte]
        match h3 : eloop S (prt S 4) 100 false false (q.2 + 1) with
        | .inl e3 =>
          rw [h3] at hE'
          obtain ⟨m3, t1, t2, t3⟩ := hE'
          rw [t1]
          exact ⟨m3, rfl, frC_R (frR_tr s2 (frR_tr f1 t2)), t3, TC_R c1.1 t2 hx⟩
        | .inr (k, l) =>
          rw [h3] at hE'
          obtain ⟨m3, t1, t2, t3⟩ := hE'
          have s3 := frR_tr s2 (frR_tr f1 t2)
          obtain ⟨z1, z2⟩ := CS_isL t3 hx
          obtain ⟨m4, r1, r2, r3⟩ := addCl_c (c := (s, q.1, l)) hx t3 (CH_R hH s3 hx) hl hs
          have r1' : La_addClause x m3 (nI s) (nI q.1) = some m4 := r1
          rw [t1]
          simp only [Option.bind_some, ↓reduceIte]
          rw [z1, gq_t, z2, r1']
          exact ⟨m4, rfl, frC_tr (frC_R s3) r2, r3⟩
      · rw [if_neg e2, if_neg e2]
        exact ⟨m2, rfl, frC_R s2, n3.2.1, n3.1⟩
theorem clause_c {m : Mm} {i : Nat} {lc : List Cl} (h : TS m S x i lc) (hx : Lx x) (hW : Wf S) (hi : i ≤ S 43 0) (hl : lc.length < 10) (hcc : (flatL lc).length ≤ i) : okK S x m lc (Re_readsClause m) (cla S i) := by
  have l1 := chr_le S hW i
  have hR : Re_readsClause m = (if oI (-1) (srt (chr S i)) < 0 then some (false, m) else if oI (-1) (srt (chr S i)) = 0 then clRest m (oI (-1) (srt (chr S i))) str_59 else if oI (-1) (srt (chr S i)) = 1 then clRest m (oI (-1) (srt (chr S i))) str_61 else clRest m (oI (-1) (srt (chr S i))) str_63) := by
    unfold Re_readsClause clRest jn
    rw [ahead_c h.1 hW hi]
    simp only [Option.bind_some]
    rw [ix53 (by omega)]
    rfl
  rw [hR]
  unfold cla
  match h1 : srt (chr S i) with
  | none =>
    rw [if_pos (show oI (-1) none < 0 by decide)]
    exact ⟨m, rfl, frC_rf _ _, h.1.2.1, h.1.1⟩
  | some s =>
    have hs := srt_le h1
    have hr := clRest_c h hx hW hi hs hl hcc
    rw [show oI (-1) (some s) = nI s from rfl, if_neg (nI_pos (by omega))]
    have hs3 : s = 0 ∨ s = 1 ∨ s = 2 := by omega
    rcases hs3 with rfl | rfl | rfl
    · rw [if_pos (show nI 0 = 0 from rfl)]
      exact hr
    · rw [if_neg (show ¬ nI 1 = 0 by decide), if_pos (show nI 1 = 1 from rfl)]
      exact hr
    · rw [if_neg (show ¬ nI 2 = 0 by decide), if_neg (show ¬ nI 2 = 1 by decide)]
      exact hr
noncomputable def txBody (k : Nat) (m : Mm) : Option ((Int32 × Mm) ⊕ (Mm ⊕ (Int32 × Mm))) := (Re_readsClause m).bind fun r6 => if (r6.1) = true then (if ((r6.2).1 67 2) = ((r6.2).1 67 1) then (some (.inr (.inr ((-1), r6.2)))) else (some (.inl (nI k + 1, r6.2)))) else (some (.inr (.inr ((r6.2).1 67 2, r6.2))))
theorem text_c (hx : Lx x) (hW : Wf S) : ∀ K i lc (m : Mm) (s : Int32 × Mm), lc.length + (K + 1) = 10 → TS m S x i lc → i ≤ S 43 0 → (flatL lc).length ≤ i → Re_faultOf_l19 s = txBody lc.length m → match txt S (K + 1) i with
    | .inl e => ∃ m', (iter Re_faultOf_l19 s).bind (Sum.elim (fun e3 => some (e3.1 67 2, e3)) (fun v13 => some v13)) = some (nI e, m') ∧ frC x m m'
    | .inr L => ∃ m', (iter Re_faultOf_l19 s).bind (Sum.elim (fun e3 => some (e3.1 67 2, e3)) (fun v13 => some v13)) = some (-1, m') ∧ frC x m m' ∧ CL m' x (lc ++ L) := by
  have b := Wf_43 hW
  intro K
  induction K with
  | zero =>
    intro i lc m s hK hT hi hcc hs
    have hc := clause_c hT hx hW hi (by omega) hcc
    have hb := cla_bd (S := S) hi
    unfold txBody at hs
    unfold txt
    match h1 : cla S i with
    | .inl e =>
      rw [h1] at hc
      obtain ⟨m1, q1, q2, q3, q4⟩ := hc
      rw [q1] at hs
      refine ⟨m1, ?_, q2⟩
      rw [iter_inr hs]
      show some (m1.1 67 2, m1) = _
      rw [q3]
    | .inr (j, c) =>
      rw [h1] at hc hb
      obtain ⟨m1, q1, q2, q3⟩ := hc
      obtain ⟨b1, b2, b3, b4⟩ := hb
      rw [q1] at hs
      simp only [Option.bind_some, ↓reduceIte] at hs
      rw [q3.1.2.1, q3.1.1.1] at hs
      simp (disch := omega) only [n_eq] at hs
      dsimp only
      by_cases e1 : j = S 43 0
      · rw [if_pos e1] at hs ⊢
        refine ⟨m1, ?_, q2, CL_of q3.2 q3.1⟩
        rw [iter_inr hs]
        rfl
      · rw [if_neg e1] at hs ⊢
        rw [if_pos rfl]
        refine ⟨m1, ?_, q2⟩
        rw [iter_inl hs, iter_inr (r := .inl m1)]
        · show some (m1.1 67 2, m1) = _
          rw [q3.1.2.1]
        · unfold Re_faultOf_l19
          dsimp only
          rw [show lc.length = 9 by omega, if_pos (show (10 : Int32) ≤ nI 9 + 1 by decide)]
  | succ K ih =>
    intro i lc m s hK hT hi hcc hs
    have hc := clause_c hT hx hW hi (by omega) hcc
    have hb := cla_bd (S := S) hi
    unfold txBody at hs
    unfold txt
    match h1 : cla S i with
    | .inl e =>
      rw [h1] at hc
      obtain ⟨m1, q1, q2, q3, q4⟩ := hc
      rw [q1] at hs
      refine ⟨m1, ?_, q2⟩
      rw [iter_inr hs]
      show some (m1.1 67 2, m1) = _
      rw [q3]
    | .inr (j, c) =>
      rw [h1] at hc hb
      obtain ⟨m1, q1, q2, q3⟩ := hc
      obtain ⟨b1, b2, b3, b4⟩ := hb
      rw [q1] at hs
      simp only [Option.bind_some, ↓reduceIte] at hs
      rw [q3.1.2.1, q3.1.1.1] at hs
      simp (disch := omega) only [n_eq] at hs
      dsimp only
      by_cases e1 : j = S 43 0
      · rw [if_pos e1] at hs ⊢
        refine ⟨m1, ?_, q2, CL_of q3.2 q3.1⟩
        rw [iter_inr hs]
        rfl
      · have hlen : (lc ++ [c]).length = lc.length + 1 := by rw [List.length_append]; rfl
        have hfl : (flatL (lc ++ [c])).length = (flatL lc).length + c.2.2.length := by rw [flat_app, List.length_append]
        rw [if_neg e1] at hs ⊢
        rw [if_neg (show ¬ K + 1 = 0 by omega), iter_inl hs]
        have hst : Re_faultOf_l19 (nI lc.length + 1, m1) = if chr S j = 59 then txBody (lc.length + 1) (si m1 67 2 (nI (j + 1))) else some (.inr (.inr (nI j, m1))) := by
          unfold Re_faultOf_l19 jn
          dsimp only
          rw [i_1, n_add, i_10, i_0, if_neg (by rw [n_le (by omega) (by omega)]; omega), if_neg (by rw [n_le (by omega) (by omega)]; omega), show Re_takes m1 59 = _ from takes_c q3.1 hW (by omega) (c := 59) (by omega)]
          by_cases e3 : chr S j = 59
          · rw [if_pos e3, if_pos e3]
            rfl
          · rw [if_neg e3, if_neg e3]
            simp only [Option.bind_some, Bool.false_eq_true, ↓reduceIte]
            rw [q3.1.2.1]
        by_cases e3 : chr S j = 59
        · have g1 := chr_lt (S := S) (i := j) (by omega)
          obtain ⟨c1, f1⟩ := at_c q3.1 hx (j + 1)
          rw [if_pos e3] at hst ⊢
          have hr := ih (j + 1) (lc ++ [c]) (si m1 67 2 (nI (j + 1))) (nI lc.length + 1, m1) (by omega) ⟨c1, CH_R q3.2 f1 hx⟩ (by omega) (by omega) (by rw [hst, hlen])
          match h2 : txt S (K + 1) (j + 1) with
          | .inl e =>
            rw [h2] at hr
            obtain ⟨m', r1, r2⟩ := hr
            exact ⟨m', r1, frC_tr q2 (frC_tr (frC_R f1) r2)⟩
          | .inr L =>
            rw [h2] at hr
            obtain ⟨m', r1, r2, r3⟩ := hr
            refine ⟨m', r1, frC_tr q2 (frC_tr (frC_R f1) r2), ?_⟩
            have e4 : lc ++ [c] ++ L = lc ++ c :: L := by rw [List.append_assoc]; rfl
            rw [← e4]
            exact r3
        · rw [if_neg e3] at hst ⊢
          refine ⟨m1, ?_, q2⟩
          rw [iter_inr hst]
          rfl
end
