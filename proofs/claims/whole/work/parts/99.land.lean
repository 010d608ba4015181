-- ===== land =====
def landF (S : Sn) : Sn := su S 43 0 0
def landS (S : Sn) : Sn := su (su (su S 43 0 0) 12 0 (S 41 0 + 1)) 41 0 (S 41 0 + 1)
def ldU (ld : Nat → List Cl) (f : Nat) (L : List Cl) : Nat → List Cl := fun j => if j = f then L else ld j
theorem landF_Wf {S : Sn} (hW : Wf S) : Wf (landF S) := by
  obtain ⟨a0, a1, a2, a3, a4, a5, a6, a7, a8⟩ := hW
  unfold landF
  unfold WfW at a0 a1
  unfold Wf WfW
  simp (disch := omega) only [su_ne, su_e]
  exact ⟨a0, a1, a2, a3, a4, by omega, a6, a7, a8⟩
theorem landS_Wf {S : Sn} (hW : Wf S) (hf : S 41 0 < 6) : Wf (landS S) := by
  obtain ⟨a0, a1, a2, a3, a4, a5, a6, a7, a8⟩ := hW
  unfold landS
  unfold WfW at a0 a1
  unfold Wf WfW
  simp (disch := omega) only [su_ne, su_e]
  obtain ⟨b1, b2, b3, b4, b5, b6, b7, b8, b9⟩ := a0
  obtain ⟨c1, c2, c3, c4, c5, c6, c7, c8, c9⟩ := a1
  refine ⟨⟨b1, b2, b3, b4, b5, b6, b7, b8, ?_⟩, ⟨c1, c2, c3, c4, c5, c6, c7, c8, by omega⟩, a2, by omega, a4, by omega, a6, a7, a8⟩
  first
    | exact Nat.le_refl _
    | omega
theorem txt_WL {S : Sn} {L : List Cl} (hW : Wf S) (h : txt S 10 0 = .inr L) : WL L := by
  have b := Wf_43 hW
  have h1 := txt_bd (S := S) 10 0 (Nat.zero_le _)
  rw [h] at h1
  obtain ⟨x1, x2, x3⟩ := h1
  exact ⟨x1, by omega, x3⟩
theorem RelC_C {m m' : Mm} {S : Sn} {x : Nat} (h : RelC m S) (hx : Lx x) (hs : ∀ k i, ¬ pC x k i → m'.1 k i = m.1 k i) : RelC m' S := by
  intro f i hi
  refine (hs _ _ (fun p => ?_)).trans (h f i hi)
  obtain ⟨x1, x2, _⟩ := hx
  unfold pC at p
  rcases p with p | p
  · exact keepC i f hi (by unfold scrC; omega)
  · exact locC_land i f hi (by omega) (by omega)
theorem land_c {m : Mm} {S : Sn} {ld : Nat → List Cl} {it : Nat → Nat → Int64} (h : StC m S ld it) (hW : Wf S) (hf : S 41 0 < 6) : match txt S 10 0 with
    | .inl e => ∃ m', NB_land m = some ((-10) - nI e, m') ∧ StC m' (landF S) ld it
    | .inr L => ∃ m', NB_land m = some (nI (S 41 0), m') ∧ StC m' (landS S) (ldU ld (S 41 0) L) it := by
  have b := Wf_43 hW
  obtain ⟨hR, hIt, hC0, hCL⟩ := id h
  generalize hx0 : 37 + 5 * S 41 0 = x
  have hx : Lx x := by
    refine ⟨by omega, by omega, ?_⟩
    have H : ∀ k : Fin 6, isL (37 + 5 * k.val) = true := by decide
    rw [← hx0]
    exact H ⟨S 41 0, hf⟩
  obtain ⟨x1, x2, x3⟩ := id hx
  -- the memory at the start
  have hm0 : ∃ m0, m0 = La_clear x (sr (si m 67 2 0) 67 3 x) := ⟨_, rfl⟩
  obtain ⟨m0, hm0⟩ := hm0
  have hr1 : (sr (si m 67 2 0) 67 3 x).1 = (si m 67 2 0).1 := rfl
  have hr2 : (sr (si m 67 2 0) 67 3 x).2.2 67 3 = x := by
    unfold sr
    simp only [↓reduceIte]
  have s0 : ∀ k i, ¬ pC x k i → m0.1 k i = m.1 k i := by
    intro k i q
    unfold pC at q
    rw [hm0]
    unfold La_clear
    rw [si_r, if_neg (by omega), si_r, if_neg (by omega), si_r, if_neg (by omega), hr1, si_r, if_neg (by omega)]
  have l0 : m0.2.1 = m.2.1 := by
    rw [hm0]
    rfl
  have hT0 : TS m0 S x 0 [] := by
    refine ⟨⟨⟨?_, fun i hi => ?_, ?_⟩, ?_, ?_, fun j v hv => by cases hv⟩, ?_, ?_, fun k c hk => by cases hk⟩
    · rw [s0 67 1 (by unfold pC; omega)]
      exact cF43 hR
    · rw [s0 68 i (by unfold pC; omega)]
      exact cF42 hR hi
    · rw [hm0]
      exact hr2
    · rw [hm0]
      unfold La_clear
      rw [si_ne (by omega), si_ne (by omega), si_ne (by omega), hr1, si_e rfl rfl]
      rfl
    · rw [hm0]
      unfold La_clear
      rw [si_nj (by omega), si_nj (by omega), si_e rfl rfl]
      rfl
    · rw [hm0]
      unfold La_clear
      rw [si_nj (by omega), si_e rfl rfl]
      rfl
    · rw [hm0]
      unfold La_clear
      rw [si_e rfl rfl]
      rfl
  have hst : Re_faultOf_l19 (0, m0) = txBody ([] : List Cl).length m0 := by
    unfold Re_faultOf_l19 txBody jn
    dsimp only
    rw [if_neg (show ¬ (10 : Int32) ≤ 0 by decide), if_pos (show (0 : Int32) ≤ 0 by decide)]
    rfl
  have ht := text_c hx hW 9 0 [] m0 (0, m0) rfl hT0 (Nat.zero_le _) (Nat.le_refl _) hst
  have hfl : Re_faultOf m x = (iter Re_faultOf_l19 (0, m0)).bind (Sum.elim (fun e3 => some (e3.1 67 2, e3)) (fun v13 => some v13)) := by
    unfold Re_faultOf
    rw [hr2, x3, gq_t, hm0]
  have hNB : NB_land m = (Re_faultOf m x).bind fun r2 => if r2.1 < 0 then (some ((si (si (Re_empty (r2.2)) 11 12 ((Re_empty (r2.2)).1 0 6)) 0 6 (((si (Re_empty (r2.2)) 11 12 ((Re_empty (r2.2)).1 0 6)).1 0 6) + 1)).1 11 12, si (si (Re_empty (r2.2)) 11 12 ((Re_empty (r2.2)).1 0 6)) 0 6 (((si (Re_empty (r2.2)) 11 12 ((Re_empty (r2.2)).1 0 6)).1 0 6) + 1))) else (some ((-10) - (r2.1), (Re_empty (r2.2)))) := by
    unfold NB_land
    rw [cF41 hR, i_6, if_pos (by rw [n_lt (by omega) (by omega)]; omega), ga_n (by omega) (by omega), n_cl (by omega), hx0]
  -- what stays
  have keep : ∀ m', frC x m0 m' → RelC (Re_empty m') (landF S) ∧ (∀ t i, t < 6 → i < 60 → (Re_empty m').2.1 (78 + 2 * t) i = it t i) ∧ CL (Re_empty m') 31 [] ∧ ∀ j, j < S 41 0 → CL (Re_empty m') (37 + 5 * j) (ld j) := by
    intro m' hs
    have sk : ∀ k i, ¬ pC x k i → m'.1 k i = m.1 k i := fun k i q => (hs.1 k i q).trans (s0 k i q)
    have hR' := RelC_C hR hx sk
    have sk2 : ∀ k i, k ≠ 67 → ¬ pC x k i → (Re_empty m').1 k i = m.1 k i := fun k i hk q => by
      unfold Re_empty
      rw [si_ne hk]
      exact sk k i q
    refine ⟨RelC_set (f := 43) (i := 0) (v := 0) hR' (by decide) rfl, fun t i ht hi => ?_, CL_keep hC0 (fun k i a b => sk2 k i (by omega) (by unfold pC; omega)), fun j hj => CL_keep (hCL j hj) (fun k i a b => sk2 k i (by omega) (by unfold pC; omega))⟩
    show m'.2.1 (78 + 2 * t) i = it t i
    rw [hs.2, l0]
    exact hIt t i ht hi
  match hh : txt S 10 0 with
  | .inl e =>
    have ht' : ∃ m', (iter Re_faultOf_l19 (0, m0)).bind (Sum.elim (fun e3 => some (e3.1 67 2, e3)) (fun v13 => some v13)) = some (nI e, m') ∧ frC x m0 m' := by
      rw [show txt S (9 + 1) 0 = .inl e from hh] at ht
      exact ht
    have he := txt_bd (S := S) 10 0 (Nat.zero_le _)
    rw [hh] at he
    have he' : e ≤ S 43 0 := he
    obtain ⟨m', q1, q2⟩ := ht'
    obtain ⟨k1, k2, k3, k4⟩ := keep m' q2
    refine ⟨Re_empty m', ?_, k1, k2, k3, ?_⟩
    · rw [hNB, hfl, q1]
      simp only [Option.bind_some]
      rw [if_neg (nI_pos (by omega))]
    · unfold landF
      rw [su_ne (by decide)]
      exact k4
  | .inr L =>
    have ht' : ∃ m', (iter Re_faultOf_l19 (0, m0)).bind (Sum.elim (fun e3 => some (e3.1 67 2, e3)) (fun v13 => some v13)) = some (-1, m') ∧ frC x m0 m' ∧ CL m' x ([] ++ L) := by
      rw [show txt S (9 + 1) 0 = .inr L from hh] at ht
      exact ht
    obtain ⟨m', q1, q2, q3⟩ := ht'
    rw [List.nil_append] at q3
    obtain ⟨k1, k2, k3, k4⟩ := keep m' q2
    have v6 : (Re_empty m').1 0 6 = nI (S 41 0) := (cF41 k1).trans (by unfold landF; rw [su_ne (by decide)])
    have e1 : nI (S 41 0) = vS 12 (S 41 0 + 1) := by
      unfold vS
      rw [if_pos (Or.inl rfl), nI_pred]
    refine ⟨si (si (Re_empty m') 11 12 (nI (S 41 0))) 0 6 (nI (S 41 0 + 1)), ?_, RelC_set (f := 41) (i := 0) (v := S 41 0 + 1) (RelC_set (f := 12) (i := 0) (v := S 41 0 + 1) k1 (by decide) e1) (by decide) rfl, k2, CL_keep k3 (fun k i a b => by rw [si_ne (by omega), si_ne (by omega)]), fun j hj => ?_⟩
    · rw [hNB, hfl, q1]
      simp only [Option.bind_some]
      rw [if_pos (show (-1 : Int32) < 0 by decide), v6, si_ne (show 0 ≠ 11 by omega), v6, i_1, n_add, si_ne (show 11 ≠ 0 by omega), si_e rfl rfl]
    · have hj' : j < S 41 0 + 1 := by
        have hj2 : j < landS S 41 0 := hj
        unfold landS at hj2
        rw [su_e rfl rfl] at hj2
        exact hj2
      unfold ldU
      by_cases e : j = S 41 0
      · rw [if_pos e, e, hx0]
        refine CL_keep q3 (fun k i a b => ?_)
        unfold Re_empty
        rw [si_ne (by omega), si_ne (by omega), si_ne (by omega)]
      · rw [if_neg e]
        exact CL_keep (k4 j (by omega)) (fun k i a b => by rw [si_ne (by omega), si_ne (by omega)])
theorem RelM_X {m m' : Mm} {S : Sn} {f : Nat} (h : RelM m S) (hs : ∀ k i, ¬ pX f k i → m'.1 k i = m.1 k i) : RelM m' S := by
  intro g i hi
  refine (hs _ _ (fun p => ?_)).trans (h g i hi)
  unfold pX at p
  have h1 := keepM i g hi
  unfold scrM at h1
  by_cases e : 10 ≤ (locM g i).1 ∧ (locM g i).1 ≤ 15
  · exact locM_land i g hi e.1 e.2
  · omega
theorem ML_X {m m' : Mm} {f j : Nat} {lc : List Cl} (h : ML m j lc) (hw : WL lc) (hj : j < f) (hs : ∀ k i, ¬ pX f k i → m'.1 k i = m.1 k i) : ML m' j lc := by
  obtain ⟨h1, h2⟩ := h
  have hlen := hw.1
  refine ⟨(hs 10 j (by unfold pX; omega)).trans h1, fun k c hk => ?_⟩
  obtain ⟨hlt, _⟩ := List.getElem?_eq_some_iff.mp hk
  obtain ⟨g1, g2, g3, g4⟩ := h2 k c hk
  refine ⟨(hs 11 _ (by unfold pX; omega)).trans g1, (hs 12 _ (by unfold pX; omega)).trans g2, fun q => ⟨(hs 13 _ (by unfold pX; omega)).trans (g3 q).1, (hs 14 _ (by unfold pX; omega)).trans (g3 q).2⟩, fun i v hv => ?_⟩
  obtain ⟨hi, _⟩ := List.getElem?_eq_some_iff.mp hv
  have h5 := startOf_succ hk
  have h6 := startOf_le hw (k := k + 1) (by omega)
  exact (hs 15 _ (by unfold pX; omega)).trans (g4 i v hv)
theorem land_m {m : Mm} {S : Sn} {ld : Nat → List Cl} {it : Nat → Nat → Int64} (h : StM m S ld it) (hW : Wf S) (hL : ∀ j, j < S 41 0 → WL (ld j)) (hf : S 41 0 < 6) : match txt S 10 0 with
    | .inl e => ∃ m', Mo_land m = some ((-10) - nI e, m') ∧ StM m' (landF S) ld it
    | .inr L => ∃ m', Mo_land m = some (nI (S 41 0), m') ∧ StM m' (landS S) (ldU ld (S 41 0) L) it := by
  have b := Wf_43 hW
  obtain ⟨hR, hIt, hML⟩ := id h
  have hm0 : ∃ m0, m0 = si (si m 0 13 0) 0 23 (nI (100 * S 41 0)) := ⟨_, rfl⟩
  obtain ⟨m0, hm0⟩ := hm0
  have s0 : ∀ k i, ¬ pX (S 41 0) k i → m0.1 k i = m.1 k i := by
    intro k i q
    unfold pX at q
    rw [hm0, si_r, if_neg (by omega), si_r, if_neg (by omega)]
  have l0 : m0.2.1 = m.2.1 := by
    rw [hm0]
    rfl
  have hT0 : TM m0 S (S 41 0) 0 (flatL []) := by
    refine ⟨?_, fun i hi => ?_, ?_, ?_, fun j v hv => by cases hv⟩
    · rw [s0 0 12 (by unfold pX; omega)]
      exact rF43 hR
    · rw [s0 9 i (by unfold pX; omega)]
      exact rF42 hR hi
    · rw [hm0, si_nj (by omega), si_e rfl rfl]
      rfl
    · rw [hm0, si_e rfl rfl]
      rfl
  have hLT : LT m0 := fun i hi => by
    rw [s0 17 i (by unfold pX; omega), rF50 hR hi]
    exact (hW.2.2.2.2.2.2.2.2.2.2 i hi).symm
  have ht := text_m hW hf 9 0 [] m0 rfl hT0 (fun k c hk => by cases hk) hLT (Nat.zero_le _) (Nat.le_refl _)
  have hgo : Mo_goesText m (nI (S 41 0)) = (iter (Mo_goesText_l15 (nI (S 41 0))) (nI ([] : List Cl).length, m0)).bind (Sum.elim (fun e2 => some (false, e2)) (fun v10 => some v10)) := by
    unfold Mo_goesText
    rw [i_100, n_mul, hm0]
    rfl
  have hMo : Mo_land m = (Mo_goesText m (nI (S 41 0))).bind fun r1 => if r1.1 = true then (some ((si (si (si (r1.2) 0 12 0) 0 11 ((si (r1.2) 0 12 0).1 0 10)) 0 10 (((si (si (r1.2) 0 12 0) 0 11 ((si (r1.2) 0 12 0).1 0 10)).1 0 10) + 1)).1 0 11, si (si (si (r1.2) 0 12 0) 0 11 ((si (r1.2) 0 12 0).1 0 10)) 0 10 (((si (si (r1.2) 0 12 0) 0 11 ((si (r1.2) 0 12 0).1 0 10)).1 0 10) + 1))) else (some ((-10) - ((si (r1.2) 0 12 0).1 0 13), si (r1.2) 0 12 0)) := by
    unfold Mo_land
    rw [rF41 hR, i_6, if_neg (by rw [n_eq (by omega) (by omega)]; omega)]
  have keep : ∀ m', frX (S 41 0) m0 m' → RelM (si m' 0 12 0) (landF S) ∧ (∀ t i, t < 6 → i < 60 → (si m' 0 12 0).2.1 38 (60 * t + i) = it t i) ∧ ∀ j, j < S 41 0 → ML (si m' 0 12 0) j (ld j) := by
    intro m' hs
    have sk : ∀ k i, ¬ pX (S 41 0) k i → m'.1 k i = m.1 k i := fun k i q => (hs.1 k i q).trans (s0 k i q)
    refine ⟨RelM_set (f := 43) (i := 0) (v := 0) (RelM_X hR sk) (by decide) rfl, fun t i ht hi => ?_, fun j hj => ML_keep (ML_X (hML j hj) (hL j hj) hj sk) (fun k i a b => si_ne (by omega))⟩
    show m'.2.1 38 (60 * t + i) = it t i
    rw [hs.2, l0]
    exact hIt t i ht hi
  match hh : txt S 10 0 with
  | .inl e =>
    have ht' : ∃ m', (iter (Mo_goesText_l15 (nI (S 41 0))) (nI ([] : List Cl).length, m0)).bind (Sum.elim (fun e2 => some (false, e2)) (fun v10 => some v10)) = some (false, m') ∧ frX (S 41 0) m0 m' ∧ m'.1 0 13 = nI e := by
      rw [show txt S (9 + 1) 0 = .inl e from hh] at ht
      exact ht
    obtain ⟨m', q1, q2, q3⟩ := ht'
    obtain ⟨k1, k2, k4⟩ := keep m' q2
    refine ⟨si m' 0 12 0, ?_, k1, k2, ?_⟩
    · rw [hMo, hgo, q1]
      simp only [Option.bind_some, Bool.false_eq_true, ↓reduceIte]
      rw [si_nj (show 13 ≠ 12 by omega), q3]
    · unfold landF
      rw [su_ne (by decide)]
      exact k4
  | .inr L =>
    have ht' : ∃ m', (iter (Mo_goesText_l15 (nI (S 41 0))) (nI ([] : List Cl).length, m0)).bind (Sum.elim (fun e2 => some (false, e2)) (fun v10 => some v10)) = some (true, m') ∧ frX (S 41 0) m0 m' ∧ ML m' (S 41 0) ([] ++ L) := by
      rw [show txt S (9 + 1) 0 = .inr L from hh] at ht
      exact ht
    obtain ⟨m', q1, q2, q3⟩ := ht'
    rw [List.nil_append] at q3
    obtain ⟨k1, k2, k4⟩ := keep m' q2
    have v10 : (si m' 0 12 0).1 0 10 = nI (S 41 0) := (rF41 k1).trans (by unfold landF; rw [su_ne (by decide)])
    have e1 : nI (S 41 0) = vS 12 (S 41 0 + 1) := by
      unfold vS
      rw [if_pos (Or.inl rfl), nI_pred]
    refine ⟨si (si (si m' 0 12 0) 0 11 (nI (S 41 0))) 0 10 (nI (S 41 0 + 1)), ?_, RelM_set (f := 41) (i := 0) (v := S 41 0 + 1) (RelM_set (f := 12) (i := 0) (v := S 41 0 + 1) k1 (by decide) e1) (by decide) rfl, k2, fun j hj => ?_⟩
    · rw [hMo, hgo, q1]
      simp only [Option.bind_some, ↓reduceIte]
      rw [v10, si_nj (show 10 ≠ 11 by omega), v10, i_1, n_add, si_nj (show 11 ≠ 10 by omega), si_e rfl rfl]
    · have hj' : j < S 41 0 + 1 := by
        have hj2 : j < landS S 41 0 := hj
        unfold landS at hj2
        rw [su_e rfl rfl] at hj2
        exact hj2
      unfold ldU
      by_cases e : j = S 41 0
      · rw [if_pos e, e]
        exact ML_keep q3 (fun k i a b => by rw [si_ne (by omega), si_ne (by omega), si_ne (by omega)])
      · rw [if_neg e]
        exact ML_keep (k4 j (by omega)) (fun k i a b => by rw [si_ne (by omega), si_ne (by omega)])
theorem H8 : lwH8 Inv := by
  intro m1 m2 hI
  obtain ⟨S, ld, it, hC, hM, hW, hL⟩ := id hI
  have h41 := Wf_41 hW
  by_cases hf : S 41 0 < 6
  · have h1 := land_c hC hW hf
    have h2 := land_m hM hW hL hf
    match hh : txt S 10 0 with
    | .inl e =>
      rw [hh] at h1 h2
      obtain ⟨m1', a1, a2⟩ := h1
      obtain ⟨m2', b1, b2⟩ := h2
      refine ⟨_, m1', m2', a1, b1, landF S, ld, it, a2, b2, landF_Wf hW, ?_⟩
      unfold landF
      rw [su_ne (by decide)]
      exact hL
    | .inr L =>
      rw [hh] at h1 h2
      obtain ⟨m1', a1, a2⟩ := h1
      obtain ⟨m2', b1, b2⟩ := h2
      refine ⟨_, m1', m2', a1, b1, landS S, ldU ld (S 41 0) L, it, a2, b2, landS_Wf hW hf, fun j hj => ?_⟩
      have hj' : j < S 41 0 + 1 := by
        unfold landS at hj
        rw [su_e rfl rfl] at hj
        exact hj
      unfold ldU
      by_cases e : j = S 41 0
      · rw [if_pos e]
        exact txt_WL hW hh
      · rw [if_neg e]
        exact hL j (by omega)
  · have e6 : S 41 0 = 6 := by omega
    refine ⟨-4, m1, m2, ?_, ?_, hI⟩
    · unfold NB_land
      rw [cF41 hC.1, e6, if_neg (show ¬ nI 6 < 6 by decide)]
    · unfold Mo_land
      rw [rF41 hM.1, e6, if_pos (show nI 6 = 6 from rfl)]
