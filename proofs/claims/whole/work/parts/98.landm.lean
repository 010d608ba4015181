-- ===== the reference reads a land =====
def wl (s : Nat) : List Nat := if s = 0 then [103, 114, 101, 97, 116] else if s = 1 then [102, 97, 114] else [97, 114, 109, 115]
def wfr (s : Nat) : Nat := if s = 0 then 0 else if s = 1 then 5 else 8
theorem wds_wl {s : Nat} (hs : s ≤ 2) : wds s = wl s ++ [32] := by
  have h : s = 0 ∨ s = 1 ∨ s = 2 := by omega
  rcases h with rfl | rfl | rfl <;> rfl
theorem wl_let {s : Nat} (hs : s ≤ 2) : wfr s + (wl s).length ≤ 12 ∧ ∀ j v, (wl s)[j]? = some v → letters0 (wfr s + j) = nI v ∧ v < 128 := by
  have h : s = 0 ∨ s = 1 ∨ s = 2 := by omega
  rcases h with rfl | rfl | rfl
  · refine ⟨by decide, fun j v hv => ?_⟩
    have hj : j < 5 := (List.getElem?_eq_some_iff.mp hv).1
    have H : ∀ j : Fin 5, letters0 (wfr 0 + j.val) = nI ((wl 0).getD j.val 0) ∧ (wl 0).getD j.val 0 < 128 := by decide
    have h2 := H ⟨j, hj⟩
    rw [List.getD_eq_getElem?_getD, hv] at h2
    exact h2
  · refine ⟨by decide, fun j v hv => ?_⟩
    have hj : j < 3 := (List.getElem?_eq_some_iff.mp hv).1
    have H : ∀ j : Fin 3, letters0 (wfr 1 + j.val) = nI ((wl 1).getD j.val 0) ∧ (wl 1).getD j.val 0 < 128 := by decide
    have h2 := H ⟨j, hj⟩
    rw [List.getD_eq_getElem?_getD, hv] at h2
    exact h2
  · refine ⟨by decide, fun j v hv => ?_⟩
    have hj : j < 4 := (List.getElem?_eq_some_iff.mp hv).1
    have H : ∀ j : Fin 4, letters0 (wfr 2 + j.val) = nI ((wl 2).getD j.val 0) ∧ (wl 2).getD j.val 0 < 128 := by decide
    have h2 := H ⟨j, hj⟩
    rw [List.getD_eq_getElem?_getD, hv] at h2
    exact h2
theorem frN_rf (m : Mm) : frN m m := ⟨fun _ _ _ => rfl, rfl⟩
theorem frN_tr {m1 m2 m3 : Mm} (h : frN m1 m2) (g : frN m2 m3) : frN m1 m3 := ⟨fun k i q => (g.1 k i q).trans (h.1 k i q), g.2.trans h.2⟩
theorem frN_at (m : Mm) (y : Int32) : frN m (si m 0 13 y) := ⟨fun k i q => by rw [si_r, if_neg (by omega)], rfl⟩
def LT (m : Mm) : Prop := ∀ i, i < 12 → m.1 17 i = letters0 i
section
variable {S : Sn} {f : Nat}
theorem word_m {fr : Nat} {ws : List Nat} (hW : Wf S) (hfr : fr + ws.length ≤ 12) (hws : ∀ j v, ws[j]? = some v → letters0 (fr + j) = nI v ∧ v < 128) : ∀ (l : List Nat) (k i : Nat) (m : Mm) (codes : List Nat), (∀ j v, l[j]? = some v → ws[k + j]? = some v) → k + l.length = ws.length → TM m S f i codes → LT m → i ≤ S 43 0 → match wrd S (l ++ [32]) i with
    | .inl e => ∃ m', (iter (Mo_takesWord_l2 (nI fr) (nI ws.length)) (nI k, m)).bind (Sum.elim (fun e2 => (Mo_takes e2 32).bind fun r7 => some (r7.1, r7.2)) (fun v8 => some v8)) = some (false, m') ∧ frN m m' ∧ m'.1 0 13 = nI e
    | .inr j => ∃ m', (iter (Mo_takesWord_l2 (nI fr) (nI ws.length)) (nI k, m)).bind (Sum.elim (fun e2 => (Mo_takes e2 32).bind fun r7 => some (r7.1, r7.2)) (fun v8 => some v8)) = some (true, m') ∧ frN m m' ∧ TM m' S f j codes := by
  intro l
  induction l with
  | nil =>
    intro k i m codes hl hk h hT hi
    rw [List.length_nil] at hk
    have hst : Mo_takesWord_l2 (nI fr) (nI ws.length) (nI k, m) = some (.inr (.inl m)) := by
      unfold Mo_takesWord_l2
      dsimp only
      rw [if_pos (by rw [n_le (by omega) (by omega)]; omega)]
    rw [iter_inr hst]
    show match (if chr S i = 32 then .inr (i + 1) else .inl i : Nat ⊕ Nat) with
    | .inl e => ∃ m', (Mo_takes m 32).bind (fun r7 => some (r7.1, r7.2)) = some (false, m') ∧ frN m m' ∧ m'.1 0 13 = nI e
    | .inr j => ∃ m', (Mo_takes m 32).bind (fun r7 => some (r7.1, r7.2)) = some (true, m') ∧ frN m m' ∧ TM m' S f j codes
    rw [show Mo_takes m 32 = _ from takes_m h hW hi (c := 32) (by omega)]
    by_cases e : chr S i = 32
    · rw [if_pos e, if_pos e]
      exact ⟨_, rfl, frN_at _ _, TM_at h (i + 1)⟩
    · rw [if_neg e, if_neg e]
      exact ⟨_, rfl, frN_rf _, h.2.2.1⟩
  | cons c l ih =>
    intro k i m codes hl hk h hT hi
    rw [List.length_cons] at hk
    obtain ⟨hc, hcc⟩ := hws k c (hl 0 c rfl)
    have hst : Mo_takesWord_l2 (nI fr) (nI ws.length) (nI k, m) = if chr S i = c then some (.inl (nI (k + 1), si m 0 13 (nI (i + 1)))) else some (.inr (.inr (false, m))) := by
      unfold Mo_takesWord_l2
      dsimp only
      rw [if_neg (by rw [n_le (by omega) (by omega)]; omega), n_add, ga_n (by omega) (by omega), n_cl (by omega), hT _ (by omega), hc, takes_m h hW hi hcc, ← nI_succ]
      by_cases e : chr S i = c
      · rw [if_pos e, if_pos e]
        rfl
      · rw [if_neg e, if_neg e]
        rfl
    show match (if chr S i = c then wrd S (l ++ [32]) (i + 1) else .inl i : Nat ⊕ Nat) with
    | .inl e => _
    | .inr j => _
    by_cases e : chr S i = c
    · have g1 := chr_lt (S := S) (i := i) (by omega)
      rw [if_pos e] at hst ⊢
      rw [iter_inl hst]
      have hr := ih (k + 1) (i + 1) _ codes (fun j v hv => by rw [show k + 1 + j = k + (j + 1) by omega]; exact hl (j + 1) v hv) (by omega) (TM_at h (i + 1)) (fun i hi => (si_ne (by omega)).trans (hT i hi)) (by omega)
      match hh : wrd S (l ++ [32]) (i + 1) with
      | .inl e2 =>
        rw [hh] at hr
        obtain ⟨m', q1, q2, q3⟩ := hr
        exact ⟨m', q1, frN_tr (frN_at _ _) q2, q3⟩
      | .inr j =>
        rw [hh] at hr
        obtain ⟨m', q1, q2, q3⟩ := hr
        exact ⟨m', q1, frN_tr (frN_at _ _) q2, q3⟩
    · rw [if_neg e] at hst ⊢
      refine ⟨m, ?_, frN_rf _, h.2.2.1⟩
      rw [iter_inr hst]
      rfl
def pK (f c k i : Nat) : Prop := (k = 0 ∧ (i = 13 ∨ i = 14 ∨ i = 23 ∨ i = 24 ∨ i = 25)) ∨ k = 16 ∨ (k = 15 ∧ 100 * f ≤ i) ∨ (11 ≤ k ∧ k ≤ 14 ∧ i = c)
def frK (f c : Nat) (m m' : Mm) : Prop := (∀ k i, ¬ pK f c k i → m'.1 k i = m.1 k i) ∧ m'.2 = m.2
theorem frK_tr {c : Nat} {m1 m2 m3 : Mm} (h : frK f c m1 m2) (g : frK f c m2 m3) : frK f c m1 m3 := ⟨fun k i q => (g.1 k i q).trans (h.1 k i q), g.2.trans h.2⟩
theorem frK_N {c : Nat} {m m' : Mm} (h : frN m m') : frK f c m m' := ⟨fun k i q => h.1 k i (fun e => q (by unfold pK; omega)), h.2⟩
theorem frK_T {c : Nat} {m m' : Mm} (h : frT2 f c m m') : frK f c m m' := ⟨fun k i q => h.1 k i (fun e => q (by unfold pTx at e; unfold pK; omega)), h.2⟩
theorem frK_si {c k : Nat} (m : Mm) (y : Int32) (hk : 11 ≤ k ∧ k ≤ 14) : frK f c m (si m k c y) := ⟨fun k' i q => by
  unfold pK at q
  rw [si_r, if_neg (by omega)], rfl⟩
theorem LT_K {c : Nat} {m m' : Mm} (h : LT m) (hs : frK f c m m') : LT m' := fun i hi => (hs.1 17 i (by unfold pK; omega)).trans (h i hi)
theorem TM_si {m : Mm} {i c k : Nat} {codes : List Nat} (h : TM m S f i codes) (y : Int32) (hk : 10 ≤ k ∧ k ≤ 14) : TM (si m k c y) S f i codes := TM_T h (si_ne (by omega)) (si_ne (by omega)) (fun k' j q => si_ne (by omega))
def okM (S : Sn) (f c : Nat) (m : Mm) (codes : List Nat) (r : Option (Bool × Mm)) : Nat ⊕ (Nat × Cl) → Prop
  | .inl a => ∃ m', r = some (false, m') ∧ frK f c m m' ∧ m'.1 0 13 = nI a
  | .inr (j, cl) => ∃ m', r = some (true, m') ∧ frK f c m m' ∧ TM m' S f j (codes ++ cl.2.2) ∧ m'.1 11 c = nI cl.1 ∧ m'.1 12 c = nI cl.2.1 ∧ (cl.1 ≠ 2 → m'.1 13 c = nI (100 * f + codes.length) ∧ m'.1 14 c = nI (100 * f + (codes ++ cl.2.2).length))
noncomputable def moRest (m : Mm) (c : Int32) (r1 : Option (Bool × Mm)) : Option (Bool × Mm) := r1.bind fun r1 =>
  if (r1.1) = true then
 ((Mo_takesNumber (r1.2)).bind fun r2 =>
  if (r2.1) = true then
 (ga c 60 (ga c 60 (if ((si (r2.2) 12 c.toNatClampNeg ((r2.2).1 0 14)).1 11 c.toNatClampNeg) = 2 then
 (some (true, si (r2.2) 12 c.toNatClampNeg ((r2.2).1 0 14)))
 else ((Mo_takes (si (r2.2) 12 c.toNatClampNeg ((r2.2).1 0 14)) 32).bind fun r5 =>
  if (r5.1) = true then
 ((Mo_takesE (r5.2) c).bind fun r6 =>
  if (r6.1) = true then
 (some (true, r6.2))
 else (some (false, r6.2)))
 else (some (false, r5.2))))))
 else (some (false, r2.2)))
 else (some (false, r1.2))
theorem cls_m {m : Mm} {i s c : Nat} {codes : List Nat} (h : TM m S f i codes) (hT : LT m) (hW : Wf S) (hf : f < 6) (hcc : c < 60) (hi : i ≤ S 43 0) (hl : codes.length ≤ i) (hs : s ≤ 2) : okM S f c m codes (moRest m (nI c) ((Mo_takesWord (si m 11 c (nI s)) (nI (wfr s)) (nI (wl s).length)).bind fun r6 => some (r6.1, r6.2))) (cls S i s) := by
  have b := Wf_43 hW
  have h0 := TM_si (c := c) h (nI s) (k := 11) (by omega)
  have f0 : frK f c m (si m 11 c (nI s)) := frK_si m _ (by omega)
  have hwd := word_m (fr := wfr s) (ws := wl s) (f := f) hW (wl_let hs).1 (wl_let hs).2 (wl s) 0 i (si m 11 c (nI s)) codes (fun j v hv => by rw [Nat.zero_add]; exact hv) (Nat.zero_add _) h0 (LT_K hT f0) hi
  have hwb := wrd_bd (S := S) (wds s) i hi (by
    have h : s = 0 ∨ s = 1 ∨ s = 2 := by omega
    rcases h with rfl | rfl | rfl <;> decide)
  rw [← wds_wl hs] at hwd
  unfold cls moRest
  rw [bind_oI]
  match h1 : wrd S (wds s) i with
  | .inl e =>
    rw [h1] at hwd
    obtain ⟨m1, q1, q2, q3⟩ := hwd
    have q1' : Mo_takesWord (si m 11 c (nI s)) (nI (wfr s)) (nI (wl s).length) = some (false, m1) := q1
    rw [q1']
    exact ⟨m1, rfl, frK_tr f0 (frK_N q2), q3⟩
  | .inr j =>
    rw [h1] at hwd hwb
    obtain ⟨m1, q1, q2, q3⟩ := hwd
    have q1' : Mo_takesWord (si m 11 c (nI s)) (nI (wfr s)) (nI (wl s).length) = some (true, m1) := q1
    have v11 : m1.1 11 c = nI s := (q2.1 11 c (by omega)).trans (si_e rfl rfl)
    have s1 := frK_tr f0 (frK_N (c := c) q2)
    have hn := num_m q3 hW hwb.2
    rw [q1']
    simp only [Option.bind_some, ↓reduceIte]
    try dsimp only
    match h2 : num S j with
    | none =>
      rw [h2] at hn
      have hn' : Mo_takesNumber m1 = some (false, m1) := hn
      rw [hn']
      exact ⟨m1, rfl, s1, q3.2.2.1⟩
    | some q =>
      have g := num_bd h2
      rw [h2] at hn
      obtain ⟨m2, n1, n2, n3, n4⟩ := hn
      have h3 := TM_si (c := c) n3 (nI q.1) (k := 12) (by omega)
      have s2 : frK f c m (si m2 12 c (nI q.1)) := frK_tr s1 (frK_tr (frK_N n2) (frK_si m2 _ (by omega)))
      have w11 : (si m2 12 c (nI q.1)).1 11 c = nI s := by
        rw [si_ne (by omega), n2.1 11 c (by omega)]
        exact v11
      rw [n1]
      simp only [Option.bind_some, ↓reduceIte]
      rw [ga_n (by omega) (by omega), ga_n (by omega) (by omega), n_cl (by omega), n4, w11, i_2]
      simp (disch := omega) only [n_eq]
      by_cases e : s = 2
      · rw [if_pos e, if_pos e]
        exact ⟨_, rfl, s2, by rw [List.append_nil]; exact h3, by rw [w11, e], si_e rfl rfl, fun q => absurd rfl q⟩
      rw [if_neg e, if_neg e, show Mo_takes (si m2 12 c (nI q.1)) 32 = _ from takes_m h3 hW (by omega) (c := 32) (by omega)]
      by_cases e2 : chr S q.2 = 32
      · have g2 := chr_lt (S := S) (i := q.2) (by omega)
        have h4 := TM_at h3 (q.2 + 1)
        have s3 : frK f c m (si (si m2 12 c (nI q.1)) 0 13 (nI (q.2 + 1))) := frK_tr s2 (frK_N (frN_at _ _))
        have hE := takesE_m (c := c) h4 hW hf hcc (by omega) (by omega)
        rw [if_pos e2, if_pos e2]
        simp only [Option.bind_some, ↓reduceIte]
        match h5 : eloop S (prt S 4) 100 false false (q.2 + 1) with
        | .inl e3 =>
          rw [h5] at hE
          obtain ⟨m3, t1, t2, t3⟩ := hE
          rw [t1]
          exact ⟨m3, rfl, frK_tr s3 (frK_T t2), t3⟩
        | .inr (k, l) =>
          rw [h5] at hE
          obtain ⟨m3, t1, t2, t3, t4, t5⟩ := hE
          rw [t1]
          refine ⟨m3, rfl, frK_tr s3 (frK_T t2), t3, ?_, ?_, fun _ => ⟨t4, t5⟩⟩
          · rw [t2.1 11 c (by unfold pTx; omega), si_ne (by omega), w11]
          · rw [t2.1 12 c (by unfold pTx; omega), si_ne (by omega), si_e rfl rfl]
      · rw [if_neg e2, if_neg e2]
        exact ⟨_, rfl, s2, h3.2.2.1⟩
theorem clause_m {m : Mm} {i c : Nat} {codes : List Nat} (h : TM m S f i codes) (hT : LT m) (hW : Wf S) (hf : f < 6) (hcc : c < 60) (hi : i ≤ S 43 0) (hl : codes.length ≤ i) : okM S f c m codes (Mo_takesClause m (nI c)) (cla S i) := by
  have hR : Mo_takesClause m (nI c) = moRest m (nI c) ((Mo_takesWord (si m 11 c (nI (if chr S i = 102 then 1 else if chr S i = 103 then 0 else 2))) (nI (wfr (if chr S i = 102 then 1 else if chr S i = 103 then 0 else 2))) (nI (wl (if chr S i = 102 then 1 else if chr S i = 103 then 0 else 2)).length)).bind fun r6 => some (r6.1, r6.2)) := by
    unfold Mo_takesClause moRest Mo_takesHead
    rw [peek_m h hW hi]
    simp only [Option.bind_some]
    rw [show (102 : Int32) = nI 102 from rfl, show (103 : Int32) = nI 103 from rfl]
    simp only [pk_is hW hi (show 102 < 128 by omega), pk_is hW hi (show 103 < 128 by omega)]
    by_cases e1 : chr S i = 102
    · rw [if_pos e1, if_pos e1, ga_n (by omega) (by omega), n_cl (by omega)]
      rfl
    rw [if_neg e1, if_neg e1]
    by_cases e2 : chr S i = 103
    · rw [if_pos e2, if_pos e2, ga_n (by omega) (by omega), n_cl (by omega)]
      rfl
    rw [if_neg e2, if_neg e2, ga_n (by omega) (by omega), n_cl (by omega)]
    rfl
  rw [hR]
  unfold cla srt
  by_cases e1 : chr S i = 103
  · rw [if_neg (show ¬ chr S i = 102 by omega), if_pos e1, if_pos e1]
    exact cls_m h hT hW hf hcc hi hl (by omega)
  rw [if_neg e1, if_neg e1]
  by_cases e2 : chr S i = 102
  · rw [if_pos e2, if_pos e2]
    exact cls_m h hT hW hf hcc hi hl (by omega)
  rw [if_neg e2, if_neg e2]
  have hc := cls_m (s := 2) (c := c) h hT hW hf hcc hi hl (by omega)
  by_cases e3 : chr S i = 97
  · rw [if_pos e3]
    exact hc
  · rw [if_neg e3]
    have hcls : cls S i 2 = .inl i := by
      unfold cls
      have : wrd S (wds 2) i = .inl i := by
        show (if chr S i = 97 then _ else _) = _
        rw [if_neg e3]
      rw [this]
    rw [hcls] at hc
    exact hc
-- the text
def MH (m : Mm) (f : Nat) (lc : List Cl) : Prop := ∀ (k : Nat) (c : Cl), lc[k]? = some c → m.1 11 (10 * f + k) = nI c.1 ∧ m.1 12 (10 * f + k) = nI c.2.1 ∧ (c.1 ≠ 2 → m.1 13 (10 * f + k) = nI (100 * f + startOf lc k) ∧ m.1 14 (10 * f + k) = nI (100 * f + startOf lc (k + 1)))
def pX (f k i : Nat) : Prop := (k = 0 ∧ (i = 13 ∨ i = 14 ∨ i = 23 ∨ i = 24 ∨ i = 25)) ∨ k = 16 ∨ (k = 15 ∧ 100 * f ≤ i) ∨ (11 ≤ k ∧ k ≤ 14 ∧ 10 * f ≤ i) ∨ (k = 10 ∧ i = f)
def frX (f : Nat) (m m' : Mm) : Prop := (∀ k i, ¬ pX f k i → m'.1 k i = m.1 k i) ∧ m'.2 = m.2
theorem frX_tr {m1 m2 m3 : Mm} (h : frX f m1 m2) (g : frX f m2 m3) : frX f m1 m3 := ⟨fun k i q => (g.1 k i q).trans (h.1 k i q), g.2.trans h.2⟩
theorem frX_rf (m : Mm) : frX f m m := ⟨fun _ _ _ => rfl, rfl⟩
theorem frX_K {c : Nat} {m m' : Mm} (h : frK f c m m') (hc : 10 * f ≤ c) : frX f m m' := ⟨fun k i q => h.1 k i (fun e => q (by unfold pK at e; unfold pX; omega)), h.2⟩
theorem frX_si {a m : Mm} {k i : Nat} (y : Int32) (h : frX f a m) (hP : pX f k i) : frX f a (si m k i y) := by
  refine ⟨fun k' i' q => ?_, ?_⟩
  · rw [si_r]
    by_cases e : k' = k ∧ i' = i
    · rw [e.1, e.2] at q
      exact absurd hP q
    · rw [if_neg e]
      exact h.1 k' i' q
  · rw [si_l]
    exact h.2
theorem LT_X {m m' : Mm} (h : LT m) (hs : frX f m m') : LT m' := fun i hi => (hs.1 17 i (by unfold pX; omega)).trans (h i hi)
theorem MH_K {m m' : Mm} {lc : List Cl} (h : MH m f lc) (hs : frK f (10 * f + lc.length) m m') : MH m' f lc := fun k c hk => by
  obtain ⟨hlt, _⟩ := List.getElem?_eq_some_iff.mp hk
  obtain ⟨g1, g2, g3⟩ := h k c hk
  exact ⟨(hs.1 11 _ (by unfold pK; omega)).trans g1, (hs.1 12 _ (by unfold pK; omega)).trans g2, fun q => ⟨(hs.1 13 _ (by unfold pK; omega)).trans (g3 q).1, (hs.1 14 _ (by unfold pK; omega)).trans (g3 q).2⟩⟩
theorem MH_app {m : Mm} {lc : List Cl} {c : Cl} (h : MH m f lc) (h11 : m.1 11 (10 * f + lc.length) = nI c.1) (h12 : m.1 12 (10 * f + lc.length) = nI c.2.1) (h13 : c.1 ≠ 2 → m.1 13 (10 * f + lc.length) = nI (100 * f + (flatL lc).length) ∧ m.1 14 (10 * f + lc.length) = nI (100 * f + (flatL lc ++ c.2.2).length)) : MH m f (lc ++ [c]) := by
  intro k c' hk
  by_cases e : k < lc.length
  · rw [List.getElem?_append_left e] at hk
    obtain ⟨g1, g2, g3⟩ := h k c' hk
    rw [start_app (by omega), start_app (by omega)]
    exact ⟨g1, g2, g3⟩
  · rw [List.getElem?_append_right (by omega)] at hk
    obtain ⟨hj, _⟩ := List.getElem?_eq_some_iff.mp hk
    have hj' : k - lc.length < 1 := hj
    have e0 : k = lc.length := by omega
    subst e0
    rw [Nat.sub_self] at hk
    have e1 : c = c' := Option.some.inj hk
    subst e1
    refine ⟨h11, h12, fun q => ?_⟩
    obtain ⟨q1, q2⟩ := h13 q
    have e2 : (lc ++ [c]).length = lc.length + 1 := by rw [List.length_append]; rfl
    rw [start_app (Nat.le_refl _), ← flat_len lc, ← e2, ← flat_len (lc ++ [c]), flat_app]
    exact ⟨q1, q2⟩
theorem ML_of {m : Mm} {lc : List Cl} {i : Nat} (h : MH m f lc) (hT : TM m S f i (flatL lc)) (h10 : m.1 10 f = nI lc.length) : ML m f lc := by
  refine ⟨h10, fun k c hk => ?_⟩
  obtain ⟨g1, g2, g3⟩ := h k c hk
  refine ⟨g1, g2, g3, fun i v hv => ?_⟩
  rw [Nat.add_assoc]
  exact hT.2.2.2.2 _ v (flat_get lc k c hk i v hv)
theorem text_m (hW : Wf S) (hf : f < 6) : ∀ K i lc (m : Mm), lc.length + (K + 1) = 10 → TM m S f i (flatL lc) → MH m f lc → LT m → i ≤ S 43 0 → (flatL lc).length ≤ i → match txt S (K + 1) i with
    | .inl e => ∃ m', (iter (Mo_goesText_l15 (nI f)) (nI lc.length, m)).bind (Sum.elim (fun e2 => some (false, e2)) (fun v10 => some v10)) = some (false, m') ∧ frX f m m' ∧ m'.1 0 13 = nI e
    | .inr L => ∃ m', (iter (Mo_goesText_l15 (nI f)) (nI lc.length, m)).bind (Sum.elim (fun e2 => some (false, e2)) (fun v10 => some v10)) = some (true, m') ∧ frX f m m' ∧ ML m' f (lc ++ L) := by
  have b := Wf_43 hW
  intro K
  induction K with
  | zero =>
    intro i lc m hK hT hH hL hi hcc
    have hc := clause_m (c := 10 * f + lc.length) hT hL hW hf (by omega) hi hcc
    have hb := cla_bd (S := S) hi
    have hst : Mo_goesText_l15 (nI f) (nI lc.length, m) = ((Mo_takesClause m (nI (10 * f + lc.length))).bind fun r3 => if r3.1 = true then (if (si r3.2 10 f (nI (lc.length + 1))).1 0 13 = (si r3.2 10 f (nI (lc.length + 1))).1 0 12 then some (.inr (.inr (true, si r3.2 10 f (nI (lc.length + 1))))) else if nI (lc.length + 1) = 10 then some (.inr (.inl (si r3.2 10 f (nI (lc.length + 1))))) else (Mo_takes (si r3.2 10 f (nI (lc.length + 1))) 59).bind fun r5 => if r5.1 = true then some (.inl (nI (lc.length + 1), r5.2)) else some (.inr (.inl r5.2))) else some (.inr (.inr (false, r3.2)))) := by
      unfold Mo_goesText_l15
      dsimp only
      rw [i_1, i_10, n_mul, n_add, n_add, n_cl (by omega)]
      simp (disch := omega) only [ga_n]
    unfold txt
    match h1 : cla S i with
    | .inl e =>
      rw [h1] at hc
      obtain ⟨m1, q1, q2, q3⟩ := hc
      rw [q1] at hst
      refine ⟨m1, ?_, frX_K q2 (by omega), q3⟩
      rw [iter_inr hst]
      rfl
    | .inr (j, c) =>
      rw [h1] at hc hb
      obtain ⟨m1, q1, q2, q3, q4, q5, q6⟩ := hc
      obtain ⟨b1, b2, b3, b4⟩ := hb
      have t1 := TM_si (c := f) q3 (nI (lc.length + 1)) (k := 10) (by omega)
      have fx : frX f m (si m1 10 f (nI (lc.length + 1))) := frX_si _ (frX_K q2 (by omega)) (by unfold pX; omega)
      have hH1 : MH (si m1 10 f (nI (lc.length + 1))) f (lc ++ [c]) := MH_app (fun k c hk => by
        obtain ⟨g1, g2, g3⟩ := MH_K hH q2 k c hk
        exact ⟨(si_ne (by omega)).trans g1, (si_ne (by omega)).trans g2, fun q => ⟨(si_ne (by omega)).trans (g3 q).1, (si_ne (by omega)).trans (g3 q).2⟩⟩) ((si_ne (by omega)).trans q4) ((si_ne (by omega)).trans q5) (fun q => ⟨(si_ne (by omega)).trans (q6 q).1, (si_ne (by omega)).trans (q6 q).2⟩)
      rw [q1] at hst
      simp only [Option.bind_some, ↓reduceIte] at hst
      rw [t1.2.2.1, t1.1] at hst
      simp (disch := omega) only [n_eq] at hst
      dsimp only
      have hlen : (lc ++ [c]).length = lc.length + 1 := by rw [List.length_append]; rfl
      by_cases e1 : j = S 43 0
      · rw [if_pos e1] at hst ⊢
        refine ⟨_, ?_, fx, ML_of hH1 (by rw [flat_app]; exact t1) (by rw [hlen]; exact si_e rfl rfl)⟩
        rw [iter_inr hst]
        rfl
      · rw [if_neg e1, if_pos (show nI (lc.length + 1) = 10 by rw [show lc.length = 9 by omega]; rfl)] at hst
        rw [if_neg e1, if_pos rfl]
        refine ⟨_, ?_, fx, t1.2.2.1⟩
        rw [iter_inr hst]
        rfl
  | succ K ih =>
    intro i lc m hK hT hH hL hi hcc
    have hc := clause_m (c := 10 * f + lc.length) hT hL hW hf (by omega) hi hcc
    have hb := cla_bd (S := S) hi
    have hst : Mo_goesText_l15 (nI f) (nI lc.length, m) = ((Mo_takesClause m (nI (10 * f + lc.length))).bind fun r3 => if r3.1 = true then (if (si r3.2 10 f (nI (lc.length + 1))).1 0 13 = (si r3.2 10 f (nI (lc.length + 1))).1 0 12 then some (.inr (.inr (true, si r3.2 10 f (nI (lc.length + 1))))) else if nI (lc.length + 1) = 10 then some (.inr (.inl (si r3.2 10 f (nI (lc.length + 1))))) else (Mo_takes (si r3.2 10 f (nI (lc.length + 1))) 59).bind fun r5 => if r5.1 = true then some (.inl (nI (lc.length + 1), r5.2)) else some (.inr (.inl r5.2))) else some (.inr (.inr (false, r3.2)))) := by
      unfold Mo_goesText_l15
      dsimp only
      rw [i_1, i_10, n_mul, n_add, n_add, n_cl (by omega)]
      simp (disch := omega) only [ga_n]
    unfold txt
    match h1 : cla S i with
    | .inl e =>
      rw [h1] at hc
      obtain ⟨m1, q1, q2, q3⟩ := hc
      rw [q1] at hst
      refine ⟨m1, ?_, frX_K q2 (by omega), q3⟩
      rw [iter_inr hst]
      rfl
    | .inr (j, c) =>
      rw [h1] at hc hb
      obtain ⟨m1, q1, q2, q3, q4, q5, q6⟩ := hc
      obtain ⟨b1, b2, b3, b4⟩ := hb
      have t1 := TM_si (c := f) q3 (nI (lc.length + 1)) (k := 10) (by omega)
      have fx : frX f m (si m1 10 f (nI (lc.length + 1))) := frX_si _ (frX_K q2 (by omega)) (by unfold pX; omega)
      have hH1 : MH (si m1 10 f (nI (lc.length + 1))) f (lc ++ [c]) := MH_app (fun k c hk => by
        obtain ⟨g1, g2, g3⟩ := MH_K hH q2 k c hk
        exact ⟨(si_ne (by omega)).trans g1, (si_ne (by omega)).trans g2, fun q => ⟨(si_ne (by omega)).trans (g3 q).1, (si_ne (by omega)).trans (g3 q).2⟩⟩) ((si_ne (by omega)).trans q4) ((si_ne (by omega)).trans q5) (fun q => ⟨(si_ne (by omega)).trans (q6 q).1, (si_ne (by omega)).trans (q6 q).2⟩)
      rw [q1] at hst
      simp only [Option.bind_some, ↓reduceIte] at hst
      rw [t1.2.2.1, t1.1] at hst
      simp (disch := omega) only [n_eq] at hst
      dsimp only
      have hlen : (lc ++ [c]).length = lc.length + 1 := by rw [List.length_append]; rfl
      have hfl : (flatL (lc ++ [c])).length = (flatL lc).length + c.2.2.length := by rw [flat_app, List.length_append]
      by_cases e1 : j = S 43 0
      · rw [if_pos e1] at hst ⊢
        refine ⟨_, ?_, fx, ML_of hH1 (by rw [flat_app]; exact t1) (by rw [hlen]; exact si_e rfl rfl)⟩
        rw [iter_inr hst]
        rfl
      rw [if_neg e1, if_neg (show ¬ nI (lc.length + 1) = 10 by rw [i_10, n_eq (by omega) (by omega)]; omega), show Mo_takes (si m1 10 f (nI (lc.length + 1))) 59 = _ from takes_m t1 hW (by omega) (c := 59) (by omega)] at hst
      rw [if_neg e1, if_neg (show ¬ K + 1 = 0 by omega)]
      by_cases e3 : chr S j = 59
      · have g1 := chr_lt (S := S) (i := j) (by omega)
        have t2 := TM_at t1 (j + 1)
        have fx2 : frX f m (si (si m1 10 f (nI (lc.length + 1))) 0 13 (nI (j + 1))) := frX_si _ fx (by unfold pX; omega)
        rw [if_pos e3] at hst ⊢
        have hr := ih (j + 1) (lc ++ [c]) (si (si m1 10 f (nI (lc.length + 1))) 0 13 (nI (j + 1))) (by omega) (by rw [flat_app]; exact t2) (fun k c hk => by
          obtain ⟨g1, g2, g3⟩ := hH1 k c hk
          exact ⟨(si_ne (by omega)).trans g1, (si_ne (by omega)).trans g2, fun q => ⟨(si_ne (by omega)).trans (g3 q).1, (si_ne (by omega)).trans (g3 q).2⟩⟩) (LT_X hL fx2) (by omega) (by omega)
        rw [hlen] at hr
        rw [iter_inl hst]
        match h2 : txt S (K + 1) (j + 1) with
        | .inl e =>
          rw [h2] at hr
          obtain ⟨m', r1, r2, r3⟩ := hr
          exact ⟨m', r1, frX_tr fx2 r2, r3⟩
        | .inr L =>
          rw [h2] at hr
          obtain ⟨m', r1, r2, r3⟩ := hr
          refine ⟨m', r1, frX_tr fx2 r2, ?_⟩
          have e4 : lc ++ [c] ++ L = lc ++ c :: L := by rw [List.append_assoc]; rfl
          rw [← e4]
          exact r3
      · rw [if_neg e3] at hst ⊢
        refine ⟨_, ?_, fx, t1.2.2.1⟩
        rw [iter_inr hst]
        rfl
end
