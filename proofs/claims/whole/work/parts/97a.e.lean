-- ===== the reference's walk is the recursive descent =====
section
variable {S : Sn} {f c : Nat}
theorem bangs_W {W : List Nat} (h : W = [] ∨ ∃ w W2, W = w :: W2 ∧ w ≠ 33) : bangs W = [] ∧ strip W = W := by
  rcases h with rfl | ⟨w, W2, rfl, e⟩
  · exact ⟨rfl, rfl⟩
  · unfold bangs strip
    rw [if_neg e, if_neg e]
    exact ⟨rfl, rfl⟩
theorem ops_top {a o : Bool} {W1 : List Nat} (hw : okW W1) : oA a ++ (oO o ++ W1) = [] ∨ ∃ w W2, oA a ++ (oO o ++ W1) = w :: W2 ∧ w ≠ 33 := by
  cases a with
  | true => exact Or.inr ⟨38, _, rfl, by decide⟩
  | false =>
    cases o with
    | true => exact Or.inr ⟨124, _, rfl, by decide⟩
    | false => exact hw.elim Or.inl (fun ⟨W2, q⟩ => Or.inr ⟨40, W2, q, by decide⟩)
theorem ops_opn {a o : Bool} {W1 : List Nat} : opn (oA a ++ (oO o ++ W1)) = opn W1 := by
  cases a <;> cases o <;> rfl
theorem ops_S {a o : Bool} {W1 : List Nat} (h : okWs W1) : okWs (oA a ++ (oO o ++ W1)) := by
  intro w hw
  rcases List.mem_append.mp hw with q | q
  · cases a with
    | false => cases q
    | true => rw [List.mem_singleton.mp q]; decide
  · rcases List.mem_append.mp q with q | q
    · cases o with
      | false => cases q
      | true => rw [List.mem_singleton.mp q]; decide
    · exact h w q
theorem strip_S {W : List Nat} (h : okWs W) : okWs (strip W) := by
  induction W with
  | nil => exact h
  | cons w W ih =>
    unfold strip
    split
    · exact ih (fun x hx => h x (List.mem_cons_of_mem _ hx))
    · exact h
/-- a part is read: as the recursive descent does -/
def okAr (S : Sn) (f c : Nat) (m : Mm) (codes W : List Nat) : Rs → Prop
  | .inl e => ∃ m', iter (Mo_takesE_l22 (nI c)) (1, m) = some (false, m') ∧ frT f c m m' ∧ m'.1 0 13 = nI e
  | .inr (j, l) => ∃ m', iter (Mo_takesE_l22 (nI c)) (1, m) = iter (Mo_takesE_l22 (nI c)) (0, m') ∧ frT f c m m' ∧ MS m' S f j (codes ++ l ++ bangs W) (strip W)
def okBr (S : Sn) (f c : Nat) (m : Mm) (codes W1 : List Nat) : Rs → Prop
  | .inl e => ∃ m', iter (Mo_takesE_l22 (nI c)) (1, m) = some (false, m') ∧ frT f c m m' ∧ m'.1 0 13 = nI e
  | .inr (j, l) => ∃ m' a o cs, iter (Mo_takesE_l22 (nI c)) (1, m) = iter (Mo_takesE_l22 (nI c)) (0, m') ∧ frT f c m m' ∧ chr S j ≠ 38 ∧ chr S j ≠ 124 ∧ MS m' S f j cs (oA a ++ (oO o ++ W1)) ∧ cs ++ pA a ++ pO o = codes ++ l ∧ cs.length + (onB a + onB o + W1.length) ≤ j
theorem okBr_pre {m m1 : Mm} {codes l W1 : List Nat} {res : Rs} (hs : frT f c m m1) (hi : iter (Mo_takesE_l22 (nI c)) (1, m) = iter (Mo_takesE_l22 (nI c)) (1, m1)) (h : okBr S f c m1 (codes ++ l) W1 res) : okBr S f c m codes W1 (pre l res) := by
  match res, h with
  | .inl e, h =>
    obtain ⟨m', h1, h2, h3⟩ := h
    exact ⟨m', hi.trans h1, frT_tr hs h2, h3⟩
  | .inr (j, l2), h =>
    obtain ⟨m', a, o, cs, h1, h2, h3, h4, h5, h6, h7⟩ := h
    exact ⟨m', a, o, cs, hi.trans h1, frT_tr hs h2, h3, h4, h5, by rw [h6, List.append_assoc], h7⟩
theorem eloop_m {pt : Nat → Rs} (hW : Wf S) (hf : f < 6) (hpt : ∀ i, i ≤ S 43 0 → bdR S i 0 (pt i)) (W1 : List Nat) (hw : okW W1) (hS : okWs W1) (hA : ∀ W i codes m, opn W = opn W1 → MS m S f i codes W → i ≤ S 43 0 → codes.length + W.length ≤ i → okWs W → okAr S f c m codes W (pt i)) : ∀ k a o i codes m, MS m S f i codes (oA a ++ (oO o ++ W1)) → i ≤ S 43 0 → codes.length + (onB a + onB o + W1.length) ≤ i → k ≤ 100 → 2 * (100 - k) ≤ i → okBr S f c m codes W1 (eloop S pt k a o i) := by
  have b := Wf_43 hW
  intro k
  induction k with
  | zero =>
    intro a o i codes m h hi hl hk h2
    exfalso
    omega
  | succ k ih =>
    intro a o i codes m h hi hl hk h2
    have h0 := hA _ i codes m ops_opn h hi (by rw [ops_len]; exact hl) (ops_S hS)
    have hb := hpt i hi
    unfold eloop
    match hh : pt i with
    | .inl e =>
      rw [hh] at h0
      exact h0
    | .inr (j, l) =>
      rw [hh] at h0 hb
      obtain ⟨m1, q1, q2, q3⟩ := h0
      obtain ⟨b1, b2, b3⟩ := hb
      obtain ⟨z1, z2⟩ := bangs_W (ops_top (a := a) (o := o) hw)
      rw [z1, z2, List.append_nil] at q3
      have hcl : (codes ++ l).length = codes.length + l.length := List.length_append
      dsimp only
      by_cases e1 : chr S j = 38
      · have g := chr_lt (S := S) (i := j) (by omega)
        obtain ⟨m2, r1, r2, r3⟩ := stO1 (c := c) q3 hW hf hw b2 (by omega) e1
        rw [if_pos e1]
        have t1 : onB true = 1 := rfl
        refine okBr_pre (frT_tr q2 r2) (q1.trans (iter_inl r1)) (ih true o (j + 1) _ m2 ?_ (by omega) ?_ (by omega) (by omega))
        · rw [← List.append_assoc]
          exact r3
        · rw [List.length_append, List.length_append, pA_len]
          omega
      rw [if_neg e1]
      by_cases e2 : chr S j = 124
      · have g := chr_lt (S := S) (i := j) (by omega)
        obtain ⟨m2, r1, r2, r3⟩ := stO2 (c := c) q3 hW hf hw b2 (by omega) e2
        rw [if_pos e2]
        have t1 : onB true = 1 := rfl
        have t0 : onB false = 0 := rfl
        refine okBr_pre (frT_tr q2 r2) (q1.trans (iter_inl r1)) (ih false true (j + 1) _ m2 ?_ (by omega) ?_ (by omega) (by omega))
        · have e3 : codes ++ (l ++ pA a ++ pO o) = codes ++ l ++ pA a ++ pO o := by simp only [List.append_assoc]
          rw [e3]
          exact r3
        · rw [List.length_append, List.length_append, List.length_append, pA_len, pO_len]
          omega
      · rw [if_neg e2]
        refine ⟨m1, a, o, codes ++ l, q1, q2, e1, e2, q3, ?_, by omega⟩
        simp only [List.append_assoc]
theorem part_m (hW : Wf S) (hf : f < 6) (hcc : c < 60) : ∀ h, h ≤ 4 → ∀ W i codes m, opn W + h = 4 → MS m S f i codes W → i ≤ S 43 0 → codes.length + W.length ≤ i → okWs W → okAr S f c m codes W (prt S h i) := by
  have b := Wf_43 hW
  have htest : ∀ W i codes m, MS m S f i codes W → i ≤ S 43 0 → codes.length + W.length ≤ i → okWs W → ¬ (chr S i = 33 ∨ chr S i = 40) → okAr S f c m codes W (tst S i) := by
    intro W i codes m hM hi hl hS hn
    have ht := stW2 (c := c) hM hW hf hi hl hS hn
    match hh : tst S i with
    | .inl e =>
      rw [hh] at ht
      obtain ⟨m', q1, q2, q3⟩ := ht
      exact ⟨m', iter_inr q1, q2, q3⟩
    | .inr (j, l) =>
      rw [hh] at ht
      obtain ⟨m', q1, q2, q3⟩ := ht
      exact ⟨m', iter_inl q1, q2, q3⟩
  intro h
  induction h with
  | zero =>
    intro h4 W i codes m ho hM hi hl hS
    unfold prt
    by_cases e : chr S i = 33 ∨ chr S i = 40
    · have hs := stW1 (c := c) hM hW hi (by omega) e (by omega)
      rw [if_pos (show opn W = 4 by omega)] at hs
      rw [if_pos e]
      exact ⟨m, iter_inr hs, frT_rf _ _ _, hM.1.2.2.1⟩
    · rw [if_neg e]
      exact htest W i codes m hM hi hl hS e
  | succ h ih =>
    intro h4 W i codes m ho hM hi hl hS
    unfold prt
    by_cases e1 : chr S i = 40
    · have g := chr_lt (S := S) (i := i) (by omega)
      have hs := stW1 (c := c) hM hW hi (by omega) (Or.inr e1) (by omega)
      rw [if_neg (show ¬ opn W = 4 by omega)] at hs
      obtain ⟨m1, q1, q2, q3⟩ := hs
      rw [e1] at q3
      have hop : opn (40 :: W) = opn W + 1 := rfl
      have hS1 : okWs (40 :: W) := fun w hw => by
        rcases List.mem_cons.mp hw with q | q
        · rw [q]; decide
        · exact hS w q
      have t0 : onB false = 0 := rfl
      have hlW : (40 :: W).length = W.length + 1 := rfl
      have hE := eloop_m (c := c) (pt := prt S h) hW hf (fun i hi => prt_bd h i hi) (40 :: W) (Or.inr ⟨W, rfl⟩) hS1 (fun W2 i codes m ho2 hM hi hl hS => ih (by omega) W2 i codes m (by omega) hM hi hl hS) 100 false false (i + 1) codes m1 q3 (by omega) (by omega) (by omega) (by omega)
      have hbd := eloop_bd (S := S) (pt := prt S h) (fun i hi => prt_bd h i hi) 100 false false (i + 1) (by omega)
      rw [if_pos e1]
      match hh : eloop S (prt S h) 100 false false (i + 1) with
      | .inl e =>
        rw [hh] at hE
        obtain ⟨m', r1, r2, r3⟩ := hE
        exact ⟨m', (iter_inl q1).trans r1, frT_tr q2 r2, r3⟩
      | .inr (j, l) =>
        rw [hh] at hE hbd
        obtain ⟨m2, a, o, cs, r1, r2, r3, r4, r5, r6, r7⟩ := hE
        obtain ⟨b1, b2, b3⟩ := hbd
        have h3 := stO3 (c := c) r5 hW hf hcc (Or.inr ⟨W, rfl⟩) b2 (by omega) hS1 (by omega) r3 r4
        rw [r6] at h3
        have h3' : if chr S j = 41 then ∃ m', Mo_takesE_l22 (nI c) (0, m2) = some (.inl (0, m')) ∧ frT f c m2 m' ∧ MS m' S f (j + 1) (codes ++ l ++ bangs W) (strip W) else ∃ m', Mo_takesE_l22 (nI c) (0, m2) = some (.inr (false, m')) ∧ frT f c m2 m' ∧ m'.1 0 13 = nI j := h3
        dsimp only
        by_cases e2 : chr S j = 41
        · rw [if_pos e2] at h3' ⊢
          obtain ⟨m', s1, s2, s3⟩ := h3'
          exact ⟨m', (iter_inl q1).trans (r1.trans (iter_inl s1)), frT_tr q2 (frT_tr r2 s2), s3⟩
        · rw [if_neg e2] at h3' ⊢
          obtain ⟨m', s1, s2, s3⟩ := h3'
          exact ⟨m', (iter_inl q1).trans (r1.trans (iter_inr s1)), frT_tr q2 (frT_tr r2 s2), s3⟩
    rw [if_neg e1]
    by_cases e2 : chr S i = 33
    · have g := chr_lt (S := S) (i := i) (by omega)
      have hs := stW1 (c := c) hM hW hi (by omega) (Or.inl e2) (by omega)
      rw [if_neg (show ¬ opn W = 4 by omega)] at hs
      obtain ⟨m1, q1, q2, q3⟩ := hs
      rw [e2] at q3
      have hop : opn (33 :: W) = opn W + 1 := rfl
      have hS1 : okWs (33 :: W) := fun w hw => by
        rcases List.mem_cons.mp hw with q | q
        · rw [q]; decide
        · exact hS w q
      have hlW : (33 :: W).length = W.length + 1 := rfl
      have hP := ih (by omega) (33 :: W) (i + 1) codes m1 (by omega) q3 (by omega) (by omega) hS1
      rw [if_pos e2]
      match hh : prt S h (i + 1) with
      | .inl e =>
        rw [hh] at hP
        obtain ⟨m', r1, r2, r3⟩ := hP
        exact ⟨m', (iter_inl q1).trans r1, frT_tr q2 r2, r3⟩
      | .inr (j, l) =>
        rw [hh] at hP
        obtain ⟨m', r1, r2, r3⟩ := hP
        refine ⟨m', (iter_inl q1).trans r1, frT_tr q2 r2, ?_⟩
        have e3 : codes ++ (l ++ [0]) ++ bangs W = codes ++ l ++ (0 :: bangs W) := by simp only [List.append_assoc, List.singleton_append]
        rw [e3]
        exact r3
    · rw [if_neg e2]
      exact htest W i codes m hM hi hl hS (fun q => q.elim e2 e1)
def frT2 (f c : Nat) (m m' : Mm) : Prop := (∀ k i, ¬ (pTx f c k i ∨ (k = 13 ∧ i = c)) → m'.1 k i = m.1 k i) ∧ m'.2 = m.2
theorem frT2_of {m m' : Mm} (h : frT f c m m') : frT2 f c m m' := ⟨fun k i q => h.1 k i (fun e => q (Or.inl e)), h.2⟩
theorem frT2_tr {m1 m2 m3 : Mm} (h : frT2 f c m1 m2) (g : frT2 f c m2 m3) : frT2 f c m1 m3 := ⟨fun k i q => (g.1 k i q).trans (h.1 k i q), g.2.trans h.2⟩
theorem takesE_m {m : Mm} {i : Nat} {codes : List Nat} (h : TM m S f i codes) (hW : Wf S) (hf : f < 6) (hcc : c < 60) (hi : i ≤ S 43 0) (hl : codes.length ≤ i) : match eloop S (prt S 4) 100 false false i with
    | .inl e => ∃ m', Mo_takesE m (nI c) = some (false, m') ∧ frT2 f c m m' ∧ m'.1 0 13 = nI e
    | .inr (j, l) => ∃ m', Mo_takesE m (nI c) = some (true, m') ∧ frT2 f c m m' ∧ TM m' S f j (codes ++ l) ∧ m'.1 13 c = nI (100 * f + codes.length) ∧ m'.1 14 c = nI (100 * f + (codes ++ l).length) := by
  have b := Wf_43 hW
  have t0 : onB false = 0 := rfl
  have hM : MS (si (si (si m 0 24 0) 0 25 0) 13 c (nI (100 * f + codes.length))) S f i codes (oA false ++ (oO false ++ [])) := by
    refine ⟨TM_T h (by rw [si_ne (by omega), si_nj (by omega), si_nj (by omega)]) (by rw [si_ne (by omega), si_nj (by omega), si_nj (by omega)]) (fun k j q => ?_), ?_, trivial, ?_⟩
    · by_cases hk : k = 0
      · rw [si_ne (by omega), si_nj (by omega), si_nj (by omega)]
      · rw [si_ne (by omega), si_ne hk, si_ne hk]
    · rw [si_ne (by omega), si_nj (by omega), si_e rfl rfl]
      rfl
    · rw [si_ne (by omega), si_e rfl rfl]
      rfl
  have hF0 : frT f c m (si (si m 0 24 0) 0 25 0) := frT_si _ (frT_si _ (frT_rf _ _ _) (pT0 (by omega))) (pT0 (by omega))
  have hF : frT2 f c m (si (si (si m 0 24 0) 0 25 0) 13 c (nI (100 * f + codes.length))) := frT2_tr (frT2_of hF0) ⟨fun k i q => by rw [si_r, if_neg (fun e => q (Or.inr e))], rfl⟩
  have hE := eloop_m (c := c) (pt := prt S 4) hW hf (fun i hi => prt_bd 4 i hi) [] (Or.inl rfl) (fun w hw => by cases hw) (fun W2 i codes m ho2 hM hi hl hS => part_m hW hf hcc 4 (by omega) W2 i codes m (by rw [ho2]; rfl) hM hi hl hS) 100 false false i codes _ hM hi (by show codes.length + (onB false + onB false + 0) ≤ i; omega) (by omega) (by omega)
  have hbd := eloop_bd (S := S) (pt := prt S 4) (fun i hi => prt_bd 4 i hi) 100 false false i hi
  have hE0 : Mo_takesE m (nI c) = iter (Mo_takesE_l22 (nI c)) (1, si (si (si m 0 24 0) 0 25 0) 13 c (nI (100 * f + codes.length))) := by
    unfold Mo_takesE
    rw [ga_n (by omega) (by omega), n_cl (by omega), si_nj (by omega), si_nj (by omega), h.2.2.2.1, bind_oI]
  match hh : eloop S (prt S 4) 100 false false i with
  | .inl e =>
    rw [hh] at hE
    obtain ⟨m', r1, r2, r3⟩ := hE
    exact ⟨m', hE0.trans r1, frT2_tr hF (frT2_of r2), r3⟩
  | .inr (j, l) =>
    rw [hh] at hE hbd
    obtain ⟨m2, a, o, cs, r1, r2, r3, r4, r5, r6, r7⟩ := hE
    obtain ⟨b1, b2, b3⟩ := hbd
    have h3 := stO3 (c := c) r5 hW hf hcc (Or.inl rfl) b2 r7 (fun w hw => by cases hw) (by show 0 < 100; omega) r3 r4
    rw [r6] at h3
    obtain ⟨m', s1, s2, s3, s4⟩ := h3
    refine ⟨m', (hE0.trans r1).trans (iter_inr s1), frT2_tr hF (frT2_of (frT_tr r2 s2)), s3, ?_, s4⟩
    rw [(frT_tr r2 s2).1 13 c (by unfold pTx; omega), si_e rfl rfl]
end
