-- ===== taken, tapes =====
def underN (k j : Nat) : Bool := j == 0 || k == j || (j == 1 && k == 4) || (j == 2 && k == 5) || (j == 3 && k == 6)
theorem isUnder_n (m : Mm) {k j : Nat} (hk : k < 7) (hj : j < 7) : NB_isUnder m (nI k) (nI j) = some (underN k j) := by
  have H : ∀ k j : Fin 7, (itN (NB_isUnder_l4 (nI j.val)) 8 (nI k.val, 0)).bind (Sum.elim (fun _ => some false) (fun v => some v)) = some (underN k.val j.val) := by decide +kernel
  have h1 := H ⟨k, hk⟩ ⟨j, hj⟩
  unfold NB_isUnder
  cases h2 : itN (NB_isUnder_l4 (nI j)) 8 (nI k, 0) with
  | none =>
    replace h1 : (itN (NB_isUnder_l4 (nI j)) 8 (nI k, 0)).bind (Sum.elim (fun _ => some false) (fun v => some v)) = some (underN k j) := h1
    rw [h2] at h1
    exact absurd h1 (by intro q; cases q)
  | some r =>
    replace h1 : (itN (NB_isUnder_l4 (nI j)) 8 (nI k, 0)).bind (Sum.elim (fun _ => some false) (fun v => some v)) = some (underN k j) := h1
    rw [h2] at h1
    rw [iter_of h2]
    exact h1
theorem H33 : lwH33 Inv := by
  intro m1 m2 a1 a2 hI
  obtain ⟨S, ld, it, hC, hM, hW, hL⟩ := id hI
  have b0 := Wf_0 hW
  unfold NB_taken Mo_taken
  rw [in6, Wo_has_eq (cF0 hC.1) (by omega), Mo_isPlace_eq (rF0 hM.1) (by omega)]
  rcases arg3 a2 7 (by omega) with ⟨g1, h2⟩ | ⟨g1, h2, h3⟩ | ⟨j, g1, rfl, h3⟩
  · exact ⟨-2, by rw [if_pos g1], by rw [h2]; rfl, hI⟩
  · exact ⟨-2, by rw [if_neg h2, i_6, if_neg (n_nle g1 (by omega))], by rw [h3]; rfl, hI⟩
  rw [if_neg (nI_pos (by omega)), i_6, if_pos (by rw [n_le (by omega) (by omega)]; omega), h3, if_pos rfl]
  cases e1 : inR a1 (S 0 0) with
  | false => exact ⟨-11, rfl, rfl, hI⟩
  | true =>
  obtain ⟨p, hp, rfl⟩ := inR_ex e1 (by omega)
  have hp7 : p < 7 := by omega
  have hk := Wf_1 hW hp7
  have q1 : m1.1 (11 + 1) p = nI (S 1 p) := cF1 hC.1 hp7
  simp (disch := omega) only [si_e, si_ne, si_nj, sl_r, si_l, ga_n, n_cl, n_lt, n_le, n_eq, n_add, n_mul, n_sub, n_eqm, n_meq, n_mm, n_mlt, n_mle, n_ltm, Option.bind_some, if_pos, if_neg, q1, rF1 hM.1 hp7, isUnder_n, ↓reduceIte]
  unfold jn underN
  refine ⟨if underN (S 1 p) j = true then nI (S 1 p) else -12, ?_, ?_, hI⟩
  · unfold underN
    split <;> rfl
  · simp (disch := omega) only [si_e, si_ne, si_nj, sl_r, si_l, ga_n, n_cl, n_lt, n_le, n_eq, n_add, n_mul, n_sub, n_eqm, n_meq, n_mm, n_mlt, n_mle, n_ltm, Option.bind_some, if_pos, if_neg, i_0, i_1, i_2, i_3, i_4, i_5, i_6]
    have H : ∀ (k j : Fin 7) (x y : Int32), (if j.val = 0 then some x else if k.val = j.val then some x else if j.val = 1 then if k.val = 4 then some x else some y else if j.val = 2 then if k.val = 5 then some x else some y else if j.val = 3 then if k.val = 6 then some x else some y else some y) = some (if underN k.val j.val = true then x else y) := by
      intro k j x y
      match k, j with
      | ⟨0, _⟩, ⟨0, _⟩ | ⟨0, _⟩, ⟨1, _⟩ | ⟨0, _⟩, ⟨2, _⟩ | ⟨0, _⟩, ⟨3, _⟩ | ⟨0, _⟩, ⟨4, _⟩ | ⟨0, _⟩, ⟨5, _⟩ | ⟨0, _⟩, ⟨6, _⟩ => rfl
      | ⟨1, _⟩, ⟨0, _⟩ | ⟨1, _⟩, ⟨1, _⟩ | ⟨1, _⟩, ⟨2, _⟩ | ⟨1, _⟩, ⟨3, _⟩ | ⟨1, _⟩, ⟨4, _⟩ | ⟨1, _⟩, ⟨5, _⟩ | ⟨1, _⟩, ⟨6, _⟩ => rfl
      | ⟨2, _⟩, ⟨0, _⟩ | ⟨2, _⟩, ⟨1, _⟩ | ⟨2, _⟩, ⟨2, _⟩ | ⟨2, _⟩, ⟨3, _⟩ | ⟨2, _⟩, ⟨4, _⟩ | ⟨2, _⟩, ⟨5, _⟩ | ⟨2, _⟩, ⟨6, _⟩ => rfl
      | ⟨3, _⟩, ⟨0, _⟩ | ⟨3, _⟩, ⟨1, _⟩ | ⟨3, _⟩, ⟨2, _⟩ | ⟨3, _⟩, ⟨3, _⟩ | ⟨3, _⟩, ⟨4, _⟩ | ⟨3, _⟩, ⟨5, _⟩ | ⟨3, _⟩, ⟨6, _⟩ => rfl
      | ⟨4, _⟩, ⟨0, _⟩ | ⟨4, _⟩, ⟨1, _⟩ | ⟨4, _⟩, ⟨2, _⟩ | ⟨4, _⟩, ⟨3, _⟩ | ⟨4, _⟩, ⟨4, _⟩ | ⟨4, _⟩, ⟨5, _⟩ | ⟨4, _⟩, ⟨6, _⟩ => rfl
      | ⟨5, _⟩, ⟨0, _⟩ | ⟨5, _⟩, ⟨1, _⟩ | ⟨5, _⟩, ⟨2, _⟩ | ⟨5, _⟩, ⟨3, _⟩ | ⟨5, _⟩, ⟨4, _⟩ | ⟨5, _⟩, ⟨5, _⟩ | ⟨5, _⟩, ⟨6, _⟩ => rfl
      | ⟨6, _⟩, ⟨0, _⟩ | ⟨6, _⟩, ⟨1, _⟩ | ⟨6, _⟩, ⟨2, _⟩ | ⟨6, _⟩, ⟨3, _⟩ | ⟨6, _⟩, ⟨4, _⟩ | ⟨6, _⟩, ⟨5, _⟩ | ⟨6, _⟩, ⟨6, _⟩ => rfl
    exact H ⟨S 1 p, by omega⟩ ⟨j, g1⟩ (nI (S 1 p)) (-12)
def spansN (a n : Int32) (len : Nat) : Bool := decide (0 ≤ a.toInt ∧ 0 ≤ n.toInt ∧ a.toInt + n.toInt ≤ len)
theorem sub_toInt {k : Nat} {n : Int32} (hk : k < 2 ^ 30) (hn : 0 ≤ n.toInt) : (nI k - n).toInt = (k : Int) - n.toInt := by
  have h1 := Int32.toInt_lt n
  rw [Int32.toInt_sub, nI_toInt (by omega), Int.bmod_eq_of_le (by omega) (by omega)]
theorem lt0 {a : Int32} : (a < 0) = (a.toInt < 0) := by
  apply propext
  rw [Int32.lt_iff_toInt_lt]
  rfl
theorem Ta_spans_eq {x : Nat} {m : Mm} {a n : Int32} {len : Nat} (h : m.1 x 1 = nI len) (hl : len < 2 ^ 30) : Ta_spans x m a n = spansN a n len := by
  unfold Ta_spans spansN
  rw [h]
  by_cases h1 : a < 0
  · rw [if_pos h1]
    rw [lt0] at h1
    exact (decide_eq_false (by omega)).symm
  rw [if_neg h1]
  rw [lt0] at h1
  by_cases h2 : n < 0
  · rw [if_pos h2]
    rw [lt0] at h2
    exact (decide_eq_false (by omega)).symm
  rw [if_neg h2]
  rw [lt0] at h2
  by_cases h3 : nI len - n < a
  · rw [if_pos h3]
    rw [Int32.lt_iff_toInt_lt, sub_toInt hl (by omega)] at h3
    exact (decide_eq_false (by omega)).symm
  · rw [if_neg h3]
    rw [Int32.lt_iff_toInt_lt, sub_toInt hl (by omega)] at h3
    exact (decide_eq_true (by omega)).symm
theorem isTape_c (a : Int32) : NB_isTape a = inR a 6 := by
  unfold NB_isTape
  rcases arg3 a 6 (by omega) with ⟨h1, h2⟩ | ⟨h1, h2, h3⟩ | ⟨p, h1, rfl, h3⟩
  · rw [if_pos h1, h2]
  · rw [if_neg h2, i_6, if_pos h1, h3]
  · rw [if_neg (nI_pos (by omega)), i_6, if_neg (by rw [n_le (by omega) (by omega)]; omega), h3]
theorem isTape_m (a : Int32) : Mo_isTape a = inR a 6 := by
  unfold Mo_isTape
  exact in5 a
theorem spans1 {a : Int32} {len : Nat} : spansN a 1 len = inR a len := by
  unfold spansN inR
  have h1 : (1 : Int32).toInt = 1 := rfl
  rw [h1]
  congr 1
  apply propext
  omega
theorem in_len {a : Int32} {len : Nat} (hl : len < 2 ^ 30) : Mo_in a 0 (nI len - 1) = inR a len := by
  apply Mo_in_0
  have h1 := pk_sub_toInt (a := len) (b := 1) hl (by omega)
  show (nI len - nI 1).toInt + 1 = _
  rw [h1]
  omega
def iu (it : Nat → Nat → Int64) (t i : Nat) (x : Int64) : Nat → Nat → Int64 := fun a b => if a = t ∧ b = i then x else it a b
theorem StC_longs {m m' : Mm} {S : Sn} {ld : Nat → List Cl} {it it' : Nat → Nat → Int64} (h : StC m S ld it) (h1 : m'.1 = m.1) (h2 : ∀ t i, t < 6 → i < 60 → m'.2.1 (78 + 2 * t) i = it' t i) : StC m' S ld it' := by
  obtain ⟨a1, a2, a3, a4⟩ := h
  unfold StC RelC CL
  rw [h1]
  exact ⟨a1, h2, a3, a4⟩
theorem StM_longs {m m' : Mm} {S : Sn} {ld : Nat → List Cl} {it it' : Nat → Nat → Int64} (h : StM m S ld it) (h1 : m'.1 = m.1) (h2 : ∀ t i, t < 6 → i < 60 → m'.2.1 38 (60 * t + i) = it' t i) : StM m' S ld it' := by
  obtain ⟨a1, a2, a4⟩ := h
  unfold StM RelM ML
  rw [h1]
  exact ⟨a1, h2, a4⟩
theorem StC_item {m : Mm} {S : Sn} {ld : Nat → List Cl} {it : Nat → Nat → Int64} {t i : Nat} {x : Int64} (h : StC m S ld it) : StC (sl m (77 + 2 * t + 1) i x) S ld (iu it t i x) := by
  refine StC_longs h rfl (fun a b ha hb => ?_)
  rw [sl_l, h.2.1 a b ha hb]
  unfold iu
  by_cases e : a = t ∧ b = i
  · rw [if_pos e, if_pos (by omega)]
  · rw [if_neg e, if_neg (by omega)]
theorem ix60 {x y p o : Nat} (hy : y < 60) (ho : o < 60) : (60 * x + y = 60 * p + o) = (x = p ∧ y = o) := by
  apply propext
  omega
theorem StM_item {m : Mm} {S : Sn} {ld : Nat → List Cl} {it : Nat → Nat → Int64} {t i : Nat} {x : Int64} (h : StM m S ld it) (hi : i < 60) : StM (sl m 38 (60 * t + i) x) S ld (iu it t i x) := by
  refine StM_longs h rfl (fun a b ha hb => ?_)
  rw [sl_l, h.2.1 a b ha hb]
  unfold iu
  by_cases e : a = t ∧ b = i
  · rw [if_pos e, if_pos (by omega)]
  · rw [if_neg e, if_neg (fun q => e (by have q1 := q.2; rw [ix60 hb hi] at q1; exact q1))]
theorem sort_m1 {k : Nat} (h : k ≤ 5) : (nI k - 1 = -1) = (k = 0) := by
  have H : ∀ k : Fin 6, (nI k.val - 1 = -1) = (k.val = 0) := by decide +kernel
  exact H ⟨k, by omega⟩
theorem sort_nn {k : Nat} (h : k ≤ 5) : (0 ≤ nI k - 1) = (k ≠ 0) := by
  have H : ∀ k : Fin 6, (0 ≤ nI k.val - 1) ↔ (k.val ≠ 0) := by decide +kernel
  exact propext (H ⟨k, by omega⟩)
theorem sort_lt {k : Nat} (h : k ≤ 5) : (nI k - 1 < 0) = (k = 0) := by
  have H : ∀ k : Fin 6, (nI k.val - 1 < 0) ↔ (k.val = 0) := by decide +kernel
  exact propext (H ⟨k, by omega⟩)
theorem sort_eq {k j : Nat} (h : k ≤ 5) (h' : j ≤ 5) : (nI k - 1 = nI j - 1) = (k = j) := by
  have H : ∀ k j : Fin 6, (nI k.val - 1 = nI j.val - 1) ↔ (k.val = j.val) := by decide +kernel
  exact propext (H ⟨k, by omega⟩ ⟨j, by omega⟩)
theorem H37 : lwH37 Inv := by
  intro m1 m2 a1 a2 hI
  obtain ⟨S, ld, it, hC, hM, hW, hL⟩ := id hI
  unfold NB_read Mo_read
  rw [isTape_c, isTape_m]
  cases e1 : inR a1 6 with
  | false => exact ⟨_, rfl, rfl, hI⟩
  | true =>
  obtain ⟨t, ht, rfl⟩ := inR_ex e1 (by omega)
  have hw := Wf_46 hW ht
  simp (disch := omega) only [si_e, si_ne, si_nj, sl_r, si_l, ga_n, n_cl, n_lt, n_le, n_eq, n_add, n_mul, n_sub, n_eqm, n_meq, n_mm, n_mlt, n_mle, n_ltm, Option.bind_some, if_pos, if_neg, ↓reduceIte]
  rw [Ta_spans_eq (cF47 hC.1 ht) (by omega), spans1, rF46 hM.1 ht, rF47 hM.1 ht, in_len (by omega)]
  simp only [sort_lt hw.1]
  by_cases h0 : S 46 t = 0
  · rw [if_pos h0, hw.2.2 h0]
    have h1 : inR a2 0 = false := decide_eq_false (by omega)
    rw [h1]
    exact ⟨_, rfl, rfl, hI⟩
  rw [if_neg h0]
  cases e2 : inR a2 (S 47 t) with
  | false => exact ⟨_, rfl, rfl, hI⟩
  | true =>
  obtain ⟨i, hi, rfl⟩ := inR_ex e2 (by omega)
  simp (disch := omega) only [si_e, si_ne, si_nj, sl_r, si_l, ga_n, n_cl, n_lt, n_le, n_eq, n_add, n_mul, n_sub, n_eqm, n_meq, n_mm, n_mlt, n_mle, n_ltm, Option.bind_some, if_pos, if_neg, ↓reduceIte, i_60]
  have q1 : m1.2.1 (77 + 2 * t + 1) i = it t i := by
    rw [show 77 + 2 * t + 1 = 78 + 2 * t by omega]
    exact hC.2.1 t i ht (by omega)
  rw [q1, hM.2.1 t i ht (by omega)]
  exact ⟨_, rfl, rfl, hI⟩
theorem item_n {k : Nat} (h : k ≤ 5) (h0 : k ≠ 0) (x : Nat) (m : Mm) (v : Int64) (hm : m.1 x 0 = nI k - 1) : Ta_asItem x m v = Mo_narrow (nI k - 1) v := by
  unfold Ta_asItem Mo_narrow
  rw [hm]
  have e : k = 1 ∨ k = 2 ∨ k = 3 ∨ k = 4 ∨ k = 5 := by omega
  rcases e with rfl | rfl | rfl | rfl | rfl
  · rfl
  · rfl
  · rfl
  · rfl
  · rfl
theorem H36 : lwH36 Inv := by
  intro m1 m2 a1 a2 a3 hI
  obtain ⟨S, ld, it, hC, hM, hW, hL⟩ := id hI
  unfold NB_item Mo_item
  rw [isTape_c, isTape_m]
  cases e1 : inR a1 6 with
  | false => exact ⟨_, _, _, rfl, rfl, hI⟩
  | true =>
  obtain ⟨t, ht, rfl⟩ := inR_ex e1 (by omega)
  have hw := Wf_46 hW ht
  simp (disch := omega) only [si_e, si_ne, si_nj, sl_r, si_l, ga_n, n_cl, n_lt, n_le, n_eq, n_add, n_mul, n_sub, n_eqm, n_meq, n_mm, n_mlt, n_mle, n_ltm, Option.bind_some, if_pos, if_neg, ↓reduceIte]
  rw [Ta_spans_eq (cF47 hC.1 ht) (by omega), spans1, cF46 hC.1 ht, rF46 hM.1 ht, rF47 hM.1 ht, in_len (by omega)]
  simp only [sort_nn hw.1, sort_m1 hw.1]
  by_cases h0 : S 46 t = 0
  · rw [if_pos h0, if_neg (fun q => q h0)]
    exact ⟨_, _, _, rfl, rfl, hI⟩
  rw [if_neg h0, if_pos h0]
  cases e2 : inR a2 (S 47 t) with
  | false => exact ⟨_, _, _, rfl, rfl, hI⟩
  | true =>
  obtain ⟨i, hi, rfl⟩ := inR_ex e2 (by omega)
  simp (disch := omega) only [si_e, si_ne, si_nj, sl_r, si_l, ga_n, n_cl, n_lt, n_le, n_eq, n_add, n_mul, n_sub, n_eqm, n_meq, n_mm, n_mlt, n_mle, n_ltm, Option.bind_some, if_pos, if_neg, ↓reduceIte, i_60]
  rw [item_n hw.1 h0 _ m1 a3 (cF46 hC.1 ht)]
  exact ⟨_, _, _, rfl, rfl, S, ld, iu it t i _, StC_item hC, StM_item hM (by omega), hW, hL⟩
