-- ===== the truths as bits =====
theorem nI_bit (a i : Nat) (hi : i < 32) : (nI a).toBitVec.getLsbD i = a.testBit i := by
  show (BitVec.ofNat 32 a).getLsbD i = _
  rw [BitVec.getLsbD_ofNat, decide_eq_true hi, Bool.true_and]
theorem m2_bit (i : Nat) (hi : i < 32) : (-2 : Int32).toBitVec.getLsbD i = decide (0 < i) := by
  have H : ∀ i : Fin 32, (-2 : Int32).toBitVec.getLsbD i.val = decide (0 < i.val) := by decide
  exact H ⟨i, hi⟩
theorem m1_bit (i : Nat) (hi : i < 32) : (-1 : Int32).toBitVec.getLsbD i = true := by
  have H : ∀ i : Fin 32, (-1 : Int32).toBitVec.getLsbD i.val = true := by decide
  exact H ⟨i, hi⟩
theorem odd_or {x : Nat} (h : x % 2 = 1) : nI x ||| (-2) = -1 := by
  apply Int32.toBitVec_inj.mp
  apply BitVec.eq_of_getLsbD_eq
  intro i hi
  rw [Int32.toBitVec_or, BitVec.getLsbD_or, nI_bit x i hi, m2_bit i hi, m1_bit i hi]
  cases i with
  | zero => rw [Nat.testBit_zero, decide_eq_true h]; rfl
  | succ i => rw [decide_eq_true (Nat.succ_pos i), Bool.or_true]
theorem even_or {x : Nat} (h : x % 2 = 0) : nI x ||| (-2) = (-2) ||| nI (x / 2 * 2) := by
  have e : x / 2 * 2 = x := by omega
  rw [e]
  apply Int32.toBitVec_inj.mp
  apply BitVec.eq_of_getLsbD_eq
  intro i hi
  rw [Int32.toBitVec_or, Int32.toBitVec_or, BitVec.getLsbD_or, BitVec.getLsbD_or, Bool.or_comm]
theorem and_or_n {x y : Nat} : nI y &&& (nI x ||| (-2)) = nI (if x % 2 = 1 then y else y / 2 * 2) := by
  apply Int32.toBitVec_inj.mp
  apply BitVec.eq_of_getLsbD_eq
  intro i hi
  rw [Int32.toBitVec_and, Int32.toBitVec_or, BitVec.getLsbD_and, BitVec.getLsbD_or, nI_bit x i hi, nI_bit y i hi, m2_bit i hi, nI_bit _ i hi]
  cases i with
  | zero =>
    rw [Nat.testBit_zero, Nat.testBit_zero, Nat.testBit_zero]
    by_cases h : x % 2 = 1
    · rw [if_pos h, decide_eq_true h, Bool.true_or, Bool.and_true]
    · rw [if_neg h, decide_eq_false h, decide_eq_false (show ¬ y / 2 * 2 % 2 = 1 by omega)]
      exact Bool.and_false _
  | succ i =>
    rw [decide_eq_true (Nat.succ_pos i), Bool.or_true, Bool.and_true]
    by_cases h : x % 2 = 1
    · rw [if_pos h]
    · rw [if_neg h, Nat.testBit_succ, Nat.testBit_succ, show y / 2 * 2 / 2 = y / 2 by omega]
theorem sh1 : (((1 : Int32) &&& 31).toBitVec.smod 32).toNat = 1 := by decide
theorem not_n {b r : Nat} (hb : b < 2) : nI (2 * r + b) ^^^ 1 = nI (2 * r + (1 - b)) := by
  apply Int32.toBitVec_inj.mp
  apply BitVec.eq_of_getLsbD_eq
  intro i hi
  rw [Int32.toBitVec_xor, BitVec.getLsbD_xor, i_1, nI_bit _ i hi, nI_bit _ i hi, nI_bit _ i hi]
  cases i with
  | zero =>
    rw [Nat.testBit_zero, Nat.testBit_zero, Nat.testBit_zero]
    have h : b = 0 ∨ b = 1 := by omega
    rcases h with rfl | rfl
    · rw [decide_eq_false (by omega), decide_eq_true (by omega), decide_eq_true (by omega)]
      rfl
    · rw [decide_eq_true (by omega), decide_eq_true (by omega), decide_eq_false (by omega)]
      rfl
  | succ i =>
    rw [Nat.testBit_succ, Nat.testBit_succ, Nat.testBit_succ, show (2 * r + b) / 2 = r by omega, show (2 * r + (1 - b)) / 2 = r by omega]
    show (r.testBit i ^^ (0 : Nat).testBit i) = _
    rw [Nat.zero_testBit, Bool.xor_false]
theorem and_n2 {a b r : Nat} (ha : a < 2) (hb : b < 2) (hr : r < 2 ^ 20) : (nI (2 * (2 * r + a) + b) >>> ((1 : Int32) &&& 31)) &&& (nI (2 * (2 * r + a) + b) ||| (-2)) = nI (2 * r + a * b) := by
  rw [pk_shrN (by omega) _ 1 sh1, and_or_n]
  congr 1
  have h : b = 0 ∨ b = 1 := by omega
  rcases h with rfl | rfl
  · rw [if_neg (by omega)]
    omega
  · rw [if_pos (by omega)]
    omega
theorem or_n2 {a b r : Nat} (ha : a < 2) (hb : b < 2) (hr : r < 2 ^ 20) : (nI (2 * (2 * r + a) + b) >>> ((1 : Int32) &&& 31)) ||| (nI (2 * (2 * r + a) + b) &&& 1) = nI (2 * r + (if a = 1 then 1 else b)) := by
  rw [pk_shrN (by omega) _ 1 sh1, pk_andN (by omega) 1 rfl, show (2 * (2 * r + a) + b) / 2 ^ 1 = 2 * r + a by omega, show (2 * (2 * r + a) + b) % 2 ^ 1 = b by omega]
  apply Int32.toBitVec_inj.mp
  apply BitVec.eq_of_getLsbD_eq
  intro i hi
  rw [Int32.toBitVec_or, BitVec.getLsbD_or, nI_bit _ i hi, nI_bit _ i hi, nI_bit _ i hi]
  have h : (a = 0 ∨ a = 1) ∧ (b = 0 ∨ b = 1) := by omega
  cases i with
  | zero =>
    rw [Nat.testBit_zero, Nat.testBit_zero, Nat.testBit_zero]
    rcases h with ⟨rfl | rfl, rfl | rfl⟩
    · rw [decide_eq_false (by omega), decide_eq_false (by omega), decide_eq_false (by split <;> omega)]
      rfl
    · rw [decide_eq_false (by omega), decide_eq_true (by omega), decide_eq_true (by split <;> omega)]
      rfl
    · rw [decide_eq_true (by omega), decide_eq_false (by omega), decide_eq_true (by split <;> omega)]
      rfl
    · rw [decide_eq_true (by omega), decide_eq_true (by omega), decide_eq_true (by split <;> omega)]
      rfl
  | succ i =>
    rw [Nat.testBit_succ, Nat.testBit_succ, Nat.testBit_succ, show (2 * r + a) / 2 = r by omega, show b / 2 = 0 by omega, show (2 * r + (if a = 1 then 1 else b)) / 2 = r by split <;> omega, Nat.zero_testBit, Bool.or_false]
theorem push_n {b X : Nat} (hb : b < 2) (hX : X < 2 ^ 20) : (nI X <<< ((1 : Int32) &&& 31)) ||| nI b = nI (2 * X + b) := by
  rw [pk_shlN _ 1 sh1 (by omega)]
  apply Int32.toBitVec_inj.mp
  apply BitVec.eq_of_getLsbD_eq
  intro i hi
  rw [Int32.toBitVec_or, BitVec.getLsbD_or, nI_bit _ i hi, nI_bit _ i hi, nI_bit _ i hi]
  cases i with
  | zero =>
    rw [Nat.testBit_zero, Nat.testBit_zero, Nat.testBit_zero, decide_eq_false (show ¬ X * 2 ^ 1 % 2 = 1 by omega), Bool.false_or]
    congr 1
    apply propext
    omega
  | succ i =>
    rw [Nat.testBit_succ, Nat.testBit_succ, Nat.testBit_succ, show X * 2 ^ 1 / 2 = X by omega, show b / 2 = 0 by omega, show (2 * X + b) / 2 = X by omega, Nat.zero_testBit, Bool.or_false]
