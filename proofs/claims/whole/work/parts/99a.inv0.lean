-- ===== the start =====
def let0N (i : Nat) : Nat := ([103, 114, 101, 97, 116, 102, 97, 114, 97, 114, 109, 115] : List Nat).getD i 0
def S0 : Sn := fun f i => if f = 50 then let0N i else 0
theorem S0_0 {f i : Nat} (h : f ≠ 50) : S0 f i = 0 := if_neg h
theorem let0 (i : Nat) (hi : i < 12) : letters0 i = nI (let0N i) := by
  have H : ∀ i : Fin 12, letters0 i.val = nI (let0N i.val) := by decide +kernel
  exact H ⟨i, hi⟩
theorem sort0_m (i : Nat) (hi : i < 6) : sort0 i = -1 := by
  have H : ∀ i : Fin 6, sort0 i.val = -1 := by decide +kernel
  exact H ⟨i, hi⟩
theorem RelC_0 : RelC m0_X6 S0
  | 0, i, h => by show m0_X6.1 11 0 = 0; simp [m0_X6]
  | 1, i, h => by show m0_X6.1 12 i = 0; simp [m0_X6]
  | 2, i, h => by show m0_X6.1 13 i = 0; simp [m0_X6]
  | 3, i, h => by show m0_X6.1 14 i = 0; simp [m0_X6]
  | 4, i, h => by show m0_X6.1 15 i = 0; simp [m0_X6]
  | 5, i, h => by show m0_X6.1 16 i = 0; simp [m0_X6]
  | 6, i, h => by show m0_X6.1 11 6 = 0; simp [m0_X6]
  | 7, i, h => by show m0_X6.1 17 i = 0; simp [m0_X6]
  | 8, i, h => by show m0_X6.1 18 i = 0; simp [m0_X6]
  | 9, i, h => by show m0_X6.1 19 i = 0; simp [m0_X6]
  | 10, i, h => by show m0_X6.1 11 10 = 0; simp [m0_X6]
  | 11, i, h => by show m0_X6.1 20 i = 0; simp [m0_X6]
  | 12, i, h => by show m0_X6.1 11 12 = -1; simp [m0_X6]
  | 20, i, h => by show m0_X6.1 21 0 = 0; simp [m0_X6]
  | 21, i, h => by show m0_X6.1 22 i = 0; simp [m0_X6]
  | 22, i, h => by show m0_X6.1 23 i = 0; simp [m0_X6]
  | 23, i, h => by show m0_X6.1 24 i = 0; simp [m0_X6]
  | 24, i, h => by show m0_X6.1 25 i = 0; simp [m0_X6]
  | 25, i, h => by show m0_X6.1 26 i = 0; simp [m0_X6]
  | 26, i, h => by show m0_X6.1 21 6 = 0; simp [m0_X6]
  | 27, i, h => by show m0_X6.1 27 i = 0; simp [m0_X6]
  | 28, i, h => by show m0_X6.1 28 i = 0; simp [m0_X6]
  | 29, i, h => by show m0_X6.1 29 i = 0; simp [m0_X6]
  | 30, i, h => by show m0_X6.1 21 10 = 0; simp [m0_X6]
  | 31, i, h => by show m0_X6.1 30 i = 0; simp [m0_X6]
  | 32, i, h => by show m0_X6.1 21 12 = -1; simp [m0_X6]
  | 40, i, h => by show m0_X6.1 0 3 = 0; simp [m0_X6]
  | 41, i, h => by show m0_X6.1 0 6 = 0; simp [m0_X6]
  | 42, i, h => by show m0_X6.1 68 i = 0; simp [m0_X6]
  | 43, i, h => by show m0_X6.1 67 1 = 0; simp [m0_X6]
  | 44, i, h => by show m0_X6.1 74 1 = 0; simp [m0_X6]
  | 45, i, h => by show m0_X6.1 75 i = 0; simp [m0_X6]
  | 48, i, h => by show m0_X6.1 1 10 = -1; simp [m0_X6]
  | 46, i, h => by
    have H : ∀ i : Fin 6, m0_X6.1 (77 + 2 * i.val) 0 = -1 := by decide +kernel
    exact H ⟨i, h⟩
  | 47, i, h => by
    have H : ∀ i : Fin 6, m0_X6.1 (77 + 2 * i.val) 1 = 0 := by decide +kernel
    exact H ⟨i, h⟩
  | 13, i, h => absurd h (Nat.not_lt_zero i)
  | 14, i, h => absurd h (Nat.not_lt_zero i)
  | 15, i, h => absurd h (Nat.not_lt_zero i)
  | 16, i, h => absurd h (Nat.not_lt_zero i)
  | 17, i, h => absurd h (Nat.not_lt_zero i)
  | 18, i, h => absurd h (Nat.not_lt_zero i)
  | 19, i, h => absurd h (Nat.not_lt_zero i)
  | 33, i, h => absurd h (Nat.not_lt_zero i)
  | 34, i, h => absurd h (Nat.not_lt_zero i)
  | 35, i, h => absurd h (Nat.not_lt_zero i)
  | 36, i, h => absurd h (Nat.not_lt_zero i)
  | 37, i, h => absurd h (Nat.not_lt_zero i)
  | 38, i, h => absurd h (Nat.not_lt_zero i)
  | 39, i, h => absurd h (Nat.not_lt_zero i)
  | f + 49, i, h => absurd h (Nat.not_lt_zero i)
theorem RelM_0 : RelM m0_X7 S0
  | 0, i, h => by show m0_X7.1 0 0 = 0; simp [m0_X7]
  | 1, i, h => by show m0_X7.1 1 i = 0; simp [m0_X7]
  | 2, i, h => by show m0_X7.1 2 i = 0; simp [m0_X7]
  | 3, i, h => by show m0_X7.1 3 i = 0; simp [m0_X7]
  | 4, i, h => by show m0_X7.1 5 i = 0; simp [m0_X7]
  | 5, i, h => by show m0_X7.1 4 i = 0; simp [m0_X7]
  | 6, i, h => by show m0_X7.1 0 1 = 0; simp [m0_X7]
  | 7, i, h => by show m0_X7.1 6 i = 0; simp [m0_X7]
  | 8, i, h => by show m0_X7.1 7 i = 0; simp [m0_X7]
  | 9, i, h => by show m0_X7.1 8 i = 0; simp [m0_X7]
  | 10, i, h => by show m0_X7.1 0 39 = 0; simp [m0_X7]
  | 11, i, h => by show m0_X7.1 25 i = 0; simp [m0_X7]
  | 12, i, h => by show m0_X7.1 0 11 = -1; simp [m0_X7]
  | 20, i, h => by show m0_X7.1 0 43 = 0; simp [m0_X7]
  | 21, i, h => by show m0_X7.1 26 i = 0; simp [m0_X7]
  | 22, i, h => by show m0_X7.1 27 i = 0; simp [m0_X7]
  | 23, i, h => by show m0_X7.1 28 i = 0; simp [m0_X7]
  | 24, i, h => by show m0_X7.1 30 i = 0; simp [m0_X7]
  | 25, i, h => by show m0_X7.1 29 i = 0; simp [m0_X7]
  | 26, i, h => by show m0_X7.1 0 44 = 0; simp [m0_X7]
  | 27, i, h => by show m0_X7.1 31 i = 0; simp [m0_X7]
  | 28, i, h => by show m0_X7.1 32 i = 0; simp [m0_X7]
  | 29, i, h => by show m0_X7.1 33 i = 0; simp [m0_X7]
  | 30, i, h => by show m0_X7.1 0 45 = 0; simp [m0_X7]
  | 31, i, h => by show m0_X7.1 34 i = 0; simp [m0_X7]
  | 32, i, h => by show m0_X7.1 0 42 = -1; simp [m0_X7]
  | 40, i, h => by show m0_X7.1 0 41 = 0; simp [m0_X7]
  | 41, i, h => by show m0_X7.1 0 10 = 0; simp [m0_X7]
  | 42, i, h => by show m0_X7.1 9 i = 0; simp [m0_X7]
  | 43, i, h => by show m0_X7.1 0 12 = 0; simp [m0_X7]
  | 44, i, h => by show m0_X7.1 0 55 = 0; simp [m0_X7]
  | 45, i, h => by show m0_X7.1 35 i = 0; simp [m0_X7]
  | 47, i, h => by show m0_X7.1 37 i = 0; simp [m0_X7]
  | 48, i, h => by show m0_X7.1 0 32 = -1; simp [m0_X7]
  | 49, i, h => by show m0_X7.1 0 33 = -1; simp [m0_X7]
  | 46, i, h => by show m0_X7.1 36 i = -1; exact sort0_m i h
  | 50, i, h => by show m0_X7.1 17 i = nI (let0N i); exact let0 i h
  | 13, i, h => absurd h (Nat.not_lt_zero i)
  | 14, i, h => absurd h (Nat.not_lt_zero i)
  | 15, i, h => absurd h (Nat.not_lt_zero i)
  | 16, i, h => absurd h (Nat.not_lt_zero i)
  | 17, i, h => absurd h (Nat.not_lt_zero i)
  | 18, i, h => absurd h (Nat.not_lt_zero i)
  | 19, i, h => absurd h (Nat.not_lt_zero i)
  | 33, i, h => absurd h (Nat.not_lt_zero i)
  | 34, i, h => absurd h (Nat.not_lt_zero i)
  | 35, i, h => absurd h (Nat.not_lt_zero i)
  | 36, i, h => absurd h (Nat.not_lt_zero i)
  | 37, i, h => absurd h (Nat.not_lt_zero i)
  | 38, i, h => absurd h (Nat.not_lt_zero i)
  | 39, i, h => absurd h (Nat.not_lt_zero i)
  | f + 51, i, h => absurd h (Nat.not_lt_zero i)
theorem WfW_0 (b : Nat) (hb : b = 0 ∨ b = 20) (nl : Nat) : WfW S0 b nl := by
  unfold WfW
  simp (disch := omega) only [S0_0, Nat.zero_testBit]
  refine ⟨by omega, fun i hi => ⟨by omega, by omega, by omega, by omega⟩, fun p o hp ho => ⟨by omega, trivial, trivial, fun _ => trivial⟩, fun p o hp ho => ⟨trivial, trivial, fun _ => trivial⟩, by omega, fun t ht => absurd ht (Nat.not_lt_zero t), by omega, fun t ht => absurd ht (Nat.not_lt_zero t), by omega⟩
theorem Wf_S0 : Wf S0 := by
  refine ⟨WfW_0 0 (Or.inl rfl) _, WfW_0 20 (Or.inr rfl) _, ?_⟩
  simp (disch := omega) only [S0_0]
  exact ⟨by omega, by omega, fun i _ => by omega, by omega, by omega, fun t _ => ⟨by omega, by omega, fun _ => trivial⟩, trivial, trivial, fun i hi => let0 i hi⟩
theorem Inv_0 : Inv m0_X6 m0_X7 := by
  refine ⟨S0, fun _ => [], fun _ _ => 0, ⟨RelC_0, fun t i _ _ => rfl, ⟨by decide +kernel, by decide +kernel, fun k c hk => by cases hk⟩, fun j hj => absurd hj (Nat.not_lt_zero j)⟩, ⟨RelM_0, fun t i _ _ => rfl, fun j hj => absurd hj (Nat.not_lt_zero j)⟩, Wf_S0, fun j hj => absurd hj (Nat.not_lt_zero j)⟩
