def lenC (f : Nat) : Nat := match f with
  | 0 => 1
  | 1 => 7
  | 2 => 7
  | 3 => 7
  | 4 => 49
  | 5 => 7
  | 6 => 1
  | 7 => 8
  | 8 => 8
  | 9 => 8
  | 10 => 1
  | 11 => 12
  | 12 => 1
  | 20 => 1
  | 21 => 7
  | 22 => 7
  | 23 => 7
  | 24 => 49
  | 25 => 7
  | 26 => 1
  | 27 => 8
  | 28 => 8
  | 29 => 8
  | 30 => 1
  | 31 => 12
  | 32 => 1
  | 40 => 1
  | 41 => 1
  | 42 => 100
  | 43 => 1
  | 44 => 1
  | 45 => 20
  | 46 => 6
  | 47 => 6
  | 48 => 1
  | _ => 0
def locC (f i : Nat) : Nat × Nat := match f with
  | 0 => (11, 0)
  | 1 => (12, i)
  | 2 => (13, i)
  | 3 => (14, i)
  | 4 => (15, i)
  | 5 => (16, i)
  | 6 => (11, 6)
  | 7 => (17, i)
  | 8 => (18, i)
  | 9 => (19, i)
  | 10 => (11, 10)
  | 11 => (20, i)
  | 12 => (11, 12)
  | 20 => (21, 0)
  | 21 => (22, i)
  | 22 => (23, i)
  | 23 => (24, i)
  | 24 => (25, i)
  | 25 => (26, i)
  | 26 => (21, 6)
  | 27 => (27, i)
  | 28 => (28, i)
  | 29 => (29, i)
  | 30 => (21, 10)
  | 31 => (30, i)
  | 32 => (21, 12)
  | 40 => (0, 3)
  | 41 => (0, 6)
  | 42 => (68, i)
  | 43 => (67, 1)
  | 44 => (74, 1)
  | 45 => (75, i)
  | 46 => (77 + 2 * i, 0)
  | 47 => (77 + 2 * i, 1)
  | 48 => (1, 10)
  | _ => (1000, i)
def invC (c j : Nat) : Nat × Nat := if 77 ≤ c then (if j = 0 then (46, (c - 77) / 2) else (47, (c - 77) / 2)) else if c = 0 then (if j = 6 then (41, 0) else if j = 3 then (40, 0) else (99, 0)) else if c = 1 then (if j = 10 then (48, 0) else (99, 0)) else if c = 11 then (if j = 12 then (12, 0) else if j = 10 then (10, 0) else if j = 6 then (6, 0) else if j = 0 then (0, 0) else (99, 0)) else if c = 12 then ((1, j)) else if c = 13 then ((2, j)) else if c = 14 then ((3, j)) else if c = 15 then ((4, j)) else if c = 16 then ((5, j)) else if c = 17 then ((7, j)) else if c = 18 then ((8, j)) else if c = 19 then ((9, j)) else if c = 20 then ((11, j)) else if c = 21 then (if j = 12 then (32, 0) else if j = 10 then (30, 0) else if j = 6 then (26, 0) else if j = 0 then (20, 0) else (99, 0)) else if c = 22 then ((21, j)) else if c = 23 then ((22, j)) else if c = 24 then ((23, j)) else if c = 25 then ((24, j)) else if c = 26 then ((25, j)) else if c = 27 then ((27, j)) else if c = 28 then ((28, j)) else if c = 29 then ((29, j)) else if c = 30 then ((31, j)) else if c = 67 then (if j = 1 then (43, 0) else (99, 0)) else if c = 68 then ((42, j)) else if c = 74 then (if j = 1 then (44, 0) else (99, 0)) else if c = 75 then ((45, j)) else (99, 0)
theorem invC_loc (i : Nat) : ∀ (f : Nat), i < lenC f → invC (locC f i).1 (locC f i).2 = (f, i)
  | 0, h => by
    have h0 : i = 0 := by have h1 : i < 1 := h; omega
    subst h0
    rfl
  | 1, h => rfl
  | 2, h => rfl
  | 3, h => rfl
  | 4, h => rfl
  | 5, h => rfl
  | 6, h => by
    have h0 : i = 0 := by have h1 : i < 1 := h; omega
    subst h0
    rfl
  | 7, h => rfl
  | 8, h => rfl
  | 9, h => rfl
  | 10, h => by
    have h0 : i = 0 := by have h1 : i < 1 := h; omega
    subst h0
    rfl
  | 11, h => rfl
  | 12, h => by
    have h0 : i = 0 := by have h1 : i < 1 := h; omega
    subst h0
    rfl
  | 20, h => by
    have h0 : i = 0 := by have h1 : i < 1 := h; omega
    subst h0
    rfl
  | 21, h => rfl
  | 22, h => rfl
  | 23, h => rfl
  | 24, h => rfl
  | 25, h => rfl
  | 26, h => by
    have h0 : i = 0 := by have h1 : i < 1 := h; omega
    subst h0
    rfl
  | 27, h => rfl
  | 28, h => rfl
  | 29, h => rfl
  | 30, h => by
    have h0 : i = 0 := by have h1 : i < 1 := h; omega
    subst h0
    rfl
  | 31, h => rfl
  | 32, h => by
    have h0 : i = 0 := by have h1 : i < 1 := h; omega
    subst h0
    rfl
  | 40, h => by
    have h0 : i = 0 := by have h1 : i < 1 := h; omega
    subst h0
    rfl
  | 41, h => by
    have h0 : i = 0 := by have h1 : i < 1 := h; omega
    subst h0
    rfl
  | 42, h => rfl
  | 43, h => by
    have h0 : i = 0 := by have h1 : i < 1 := h; omega
    subst h0
    rfl
  | 44, h => by
    have h0 : i = 0 := by have h1 : i < 1 := h; omega
    subst h0
    rfl
  | 45, h => rfl
  | 46, h => by
    have h1 : i < 6 := h
    show invC (77 + 2 * i) 0 = (46, i)
    unfold invC
    rw [if_pos (by omega)]
    simp
  | 47, h => by
    have h1 : i < 6 := h
    show invC (77 + 2 * i) 1 = (47, i)
    unfold invC
    rw [if_pos (by omega)]
    simp
  | 48, h => by
    have h0 : i = 0 := by have h1 : i < 1 := h; omega
    subst h0
    rfl
  | 13, h => absurd h (Nat.not_lt_zero i)
  | 14, h => absurd h (Nat.not_lt_zero i)
  | 15, h => absurd h (Nat.not_lt_zero i)
  | 16, h => absurd h (Nat.not_lt_zero i)
  | 17, h => absurd h (Nat.not_lt_zero i)
  | 18, h => absurd h (Nat.not_lt_zero i)
  | 19, h => absurd h (Nat.not_lt_zero i)
  | 33, h => absurd h (Nat.not_lt_zero i)
  | 34, h => absurd h (Nat.not_lt_zero i)
  | 35, h => absurd h (Nat.not_lt_zero i)
  | 36, h => absurd h (Nat.not_lt_zero i)
  | 37, h => absurd h (Nat.not_lt_zero i)
  | 38, h => absurd h (Nat.not_lt_zero i)
  | 39, h => absurd h (Nat.not_lt_zero i)
  | f + 49, h => absurd h (Nat.not_lt_zero i)
def lenM (f : Nat) : Nat := match f with
  | 0 => 1
  | 1 => 7
  | 2 => 7
  | 3 => 7
  | 4 => 49
  | 5 => 7
  | 6 => 1
  | 7 => 8
  | 8 => 8
  | 9 => 8
  | 10 => 1
  | 11 => 12
  | 12 => 1
  | 20 => 1
  | 21 => 7
  | 22 => 7
  | 23 => 7
  | 24 => 49
  | 25 => 7
  | 26 => 1
  | 27 => 8
  | 28 => 8
  | 29 => 8
  | 30 => 1
  | 31 => 12
  | 32 => 1
  | 40 => 1
  | 41 => 1
  | 42 => 100
  | 43 => 1
  | 44 => 1
  | 45 => 20
  | 46 => 6
  | 47 => 6
  | 48 => 1
  | 49 => 1
  | 50 => 12
  | _ => 0
def locM (f i : Nat) : Nat × Nat := match f with
  | 0 => (0, 0)
  | 1 => (1, i)
  | 2 => (2, i)
  | 3 => (3, i)
  | 4 => (5, i)
  | 5 => (4, i)
  | 6 => (0, 1)
  | 7 => (6, i)
  | 8 => (7, i)
  | 9 => (8, i)
  | 10 => (0, 39)
  | 11 => (25, i)
  | 12 => (0, 11)
  | 20 => (0, 43)
  | 21 => (26, i)
  | 22 => (27, i)
  | 23 => (28, i)
  | 24 => (30, i)
  | 25 => (29, i)
  | 26 => (0, 44)
  | 27 => (31, i)
  | 28 => (32, i)
  | 29 => (33, i)
  | 30 => (0, 45)
  | 31 => (34, i)
  | 32 => (0, 42)
  | 40 => (0, 41)
  | 41 => (0, 10)
  | 42 => (9, i)
  | 43 => (0, 12)
  | 44 => (0, 55)
  | 45 => (35, i)
  | 46 => (36, i)
  | 47 => (37, i)
  | 48 => (0, 32)
  | 49 => (0, 33)
  | 50 => (17, i)
  | _ => (1000, i)
def invM (c j : Nat) : Nat × Nat := if c = 0 then (if j = 33 then (49, 0) else if j = 32 then (48, 0) else if j = 55 then (44, 0) else if j = 12 then (43, 0) else if j = 10 then (41, 0) else if j = 41 then (40, 0) else if j = 42 then (32, 0) else if j = 45 then (30, 0) else if j = 44 then (26, 0) else if j = 43 then (20, 0) else if j = 11 then (12, 0) else if j = 39 then (10, 0) else if j = 1 then (6, 0) else if j = 0 then (0, 0) else (99, 0)) else if c = 1 then ((1, j)) else if c = 2 then ((2, j)) else if c = 3 then ((3, j)) else if c = 4 then ((5, j)) else if c = 5 then ((4, j)) else if c = 6 then ((7, j)) else if c = 7 then ((8, j)) else if c = 8 then ((9, j)) else if c = 9 then ((42, j)) else if c = 17 then ((50, j)) else if c = 25 then ((11, j)) else if c = 26 then ((21, j)) else if c = 27 then ((22, j)) else if c = 28 then ((23, j)) else if c = 29 then ((25, j)) else if c = 30 then ((24, j)) else if c = 31 then ((27, j)) else if c = 32 then ((28, j)) else if c = 33 then ((29, j)) else if c = 34 then ((31, j)) else if c = 35 then ((45, j)) else if c = 36 then ((46, j)) else if c = 37 then ((47, j)) else (99, 0)
theorem invM_loc (i : Nat) : ∀ (f : Nat), i < lenM f → invM (locM f i).1 (locM f i).2 = (f, i)
  | 0, h => by
    have h0 : i = 0 := by have h1 : i < 1 := h; omega
    subst h0
    rfl
  | 1, h => rfl
  | 2, h => rfl
  | 3, h => rfl
  | 4, h => rfl
  | 5, h => rfl
  | 6, h => by
    have h0 : i = 0 := by have h1 : i < 1 := h; omega
    subst h0
    rfl
  | 7, h => rfl
  | 8, h => rfl
  | 9, h => rfl
  | 10, h => by
    have h0 : i = 0 := by have h1 : i < 1 := h; omega
    subst h0
    rfl
  | 11, h => rfl
  | 12, h => by
    have h0 : i = 0 := by have h1 : i < 1 := h; omega
    subst h0
    rfl
  | 20, h => by
    have h0 : i = 0 := by have h1 : i < 1 := h; omega
    subst h0
    rfl
  | 21, h => rfl
  | 22, h => rfl
  | 23, h => rfl
  | 24, h => rfl
  | 25, h => rfl
  | 26, h => by
    have h0 : i = 0 := by have h1 : i < 1 := h; omega
    subst h0
    rfl
  | 27, h => rfl
  | 28, h => rfl
  | 29, h => rfl
  | 30, h => by
    have h0 : i = 0 := by have h1 : i < 1 := h; omega
    subst h0
    rfl
  | 31, h => rfl
  | 32, h => by
    have h0 : i = 0 := by have h1 : i < 1 := h; omega
    subst h0
    rfl
  | 40, h => by
    have h0 : i = 0 := by have h1 : i < 1 := h; omega
    subst h0
    rfl
  | 41, h => by
    have h0 : i = 0 := by have h1 : i < 1 := h; omega
    subst h0
    rfl
  | 42, h => rfl
  | 43, h => by
    have h0 : i = 0 := by have h1 : i < 1 := h; omega
    subst h0
    rfl
  | 44, h => by
    have h0 : i = 0 := by have h1 : i < 1 := h; omega
    subst h0
    rfl
  | 45, h => rfl
  | 46, h => rfl
  | 47, h => rfl
  | 48, h => by
    have h0 : i = 0 := by have h1 : i < 1 := h; omega
    subst h0
    rfl
  | 49, h => by
    have h0 : i = 0 := by have h1 : i < 1 := h; omega
    subst h0
    rfl
  | 50, h => rfl
  | 13, h => absurd h (Nat.not_lt_zero i)
  | 14, h => absurd h (Nat.not_lt_zero i)
  | 15, h => absurd h (Nat.not_lt_zero i)
  | 16, h => absurd h (Nat.not_lt_zero i)
  | 17, h => absurd h (Nat.not_lt_zero i)
  | 18, h => absurd h (Nat.not_lt_zero i)
  | 19, h => absurd h (Nat.not_lt_zero i)
  | 33, h => absurd h (Nat.not_lt_zero i)
  | 34, h => absurd h (Nat.not_lt_zero i)
  | 35, h => absurd h (Nat.not_lt_zero i)
  | 36, h => absurd h (Nat.not_lt_zero i)
  | 37, h => absurd h (Nat.not_lt_zero i)
  | 38, h => absurd h (Nat.not_lt_zero i)
  | 39, h => absurd h (Nat.not_lt_zero i)
  | f + 51, h => absurd h (Nat.not_lt_zero i)
theorem locC_inj {f i g j : Nat} (hf : i < lenC f) (hg : j < lenC g) (h : locC f i = locC g j) : f = g ∧ i = j := by
  have h1 := invC_loc i f hf
  have h2 := invC_loc j g hg
  rw [h, h2] at h1
  exact ⟨(congrArg Prod.fst h1).symm, (congrArg Prod.snd h1).symm⟩
theorem locM_inj {f i g j : Nat} (hf : i < lenM f) (hg : j < lenM g) (h : locM f i = locM g j) : f = g ∧ i = j := by
  have h1 := invM_loc i f hf
  have h2 := invM_loc j g hg
  rw [h, h2] at h1
  exact ⟨(congrArg Prod.fst h1).symm, (congrArg Prod.snd h1).symm⟩
abbrev Sn : Type := Nat → Nat → Nat
/-- how a number stands in memory -/
def vS (f v : Nat) : Int32 := if f = 12 ∨ f = 32 ∨ f = 46 ∨ f = 48 ∨ f = 49 then nI v - 1 else nI v
def su (S : Sn) (f i v : Nat) : Sn := fun a b => if a = f ∧ b = i then v else S a b
theorem su_r (S : Sn) (f i v a b : Nat) : su S f i v a b = if a = f ∧ b = i then v else S a b := rfl
def RelC (m : Mm) (S : Sn) : Prop := ∀ f i, i < lenC f → m.1 (locC f i).1 (locC f i).2 = vS f (S f i)
def RelM (m : Mm) (S : Sn) : Prop := ∀ f i, i < lenM f → m.1 (locM f i).1 (locM f i).2 = vS f (S f i)
theorem RelC_set {m : Mm} {S : Sn} {f i v : Nat} {x : Int32} (h : RelC m S) (hi : i < lenC f) (hx : x = vS f v) : RelC (si m (locC f i).1 (locC f i).2 x) (su S f i v) := by
  intro g j hj
  rw [si_r, su_r]
  by_cases e : g = f ∧ j = i
  · obtain ⟨rfl, rfl⟩ := e
    rw [if_pos ⟨rfl, rfl⟩, if_pos ⟨rfl, rfl⟩, hx]
  · rw [if_neg e, if_neg (fun q => e (locC_inj hj hi (Prod.ext q.1 q.2)))]
    exact h g j hj
theorem RelM_set {m : Mm} {S : Sn} {f i v : Nat} {x : Int32} (h : RelM m S) (hi : i < lenM f) (hx : x = vS f v) : RelM (si m (locM f i).1 (locM f i).2 x) (su S f i v) := by
  intro g j hj
  rw [si_r, su_r]
  by_cases e : g = f ∧ j = i
  · obtain ⟨rfl, rfl⟩ := e
    rw [if_pos ⟨rfl, rfl⟩, if_pos ⟨rfl, rfl⟩, hx]
  · rw [if_neg e, if_neg (fun q => e (locM_inj hj hi (Prod.ext q.1 q.2)))]
    exact h g j hj
theorem su_same {S : Sn} {f i v : Nat} (h : S f i = v) : su S f i v = S := by
  funext a b
  rw [su_r]
  by_cases e : a = f ∧ b = i
  · rw [if_pos e, e.1, e.2, h]
  · rw [if_neg e]
theorem RelM_same {m : Mm} {S : Sn} {f i : Nat} {x : Int32} (h : RelM m S) (hi : i < lenM f) (hx : x = vS f (S f i)) : RelM (si m (locM f i).1 (locM f i).2 x) S := by
  have h1 := RelM_set (v := S f i) h hi hx
  rwa [su_same rfl] at h1
theorem RelC_same {m : Mm} {S : Sn} {f i : Nat} {x : Int32} (h : RelC m S) (hi : i < lenC f) (hx : x = vS f (S f i)) : RelC (si m (locC f i).1 (locC f i).2 x) S := by
  have h1 := RelC_set (v := S f i) h hi hx
  rwa [su_same rfl] at h1
-- ===== lands =====
/-- a clause: 0 great, 1 far, 2 arms; its n; its codes: 0 not, 1 and, 2 or, 3 + a test -/
abbrev Cl : Type := Nat × Nat × List Nat
def startOf (lc : List Cl) (k : Nat) : Nat := ((lc.take k).map (fun c => c.2.2.length)).sum
def cCode (c : Nat) : Int32 := if c = 0 then -1 else if c = 1 then -2 else if c = 2 then -3 else nI (c - 3)
def rCode (c : Nat) : Int32 := if c = 0 then -33 else if c = 1 then -38 else if c = 2 then -124 else nI (1000 * ((c - 3) / 300) + 100 * ((c - 3) / 100 % 3) + (c - 3) % 100)
def armsOf (lc : List Cl) : Nat := lc.foldl (fun a c => if c.1 = 2 then c.2.1 else a) 4
def dep : List Nat → Nat → Option Nat
  | [], d => some d
  | 0 :: l, d => if 1 ≤ d then dep l d else none
  | 1 :: l, d => if 2 ≤ d then dep l (d - 1) else none
  | 2 :: l, d => if 2 ≤ d then dep l (d - 1) else none
  | (c + 3) :: l, d => if c < 1800 ∧ d < 20 then dep l (d + 1) else none
def WL (lc : List Cl) : Prop := lc.length ≤ 10 ∧ startOf lc lc.length ≤ 100 ∧ ∀ c ∈ lc, c.1 ≤ 2 ∧ c.2.1 ≤ 99 ∧ (c.1 = 2 → c.2.2 = []) ∧ (c.1 ≠ 2 → dep c.2.2 0 = some 1)
def CL (m : Mm) (x : Nat) (lc : List Cl) : Prop := m.1 x 5 = nI lc.length ∧ m.1 x 6 = nI (armsOf lc) ∧ ∀ (k : Nat) (c : Cl), lc[k]? = some c → m.1 (x + 2) k = nI c.1 ∧ m.1 (x + 3) k = nI c.2.1 ∧ m.1 (x + 4) k = nI (startOf lc (k + 1)) ∧ ∀ (i v : Nat), c.2.2[i]? = some v → m.1 (x + 1) (startOf lc k + i) = cCode v
def ML (m : Mm) (f : Nat) (lc : List Cl) : Prop := m.1 10 f = nI lc.length ∧ ∀ (k : Nat) (c : Cl), lc[k]? = some c → m.1 11 (10 * f + k) = nI c.1 ∧ m.1 12 (10 * f + k) = nI c.2.1 ∧ (c.1 ≠ 2 → m.1 13 (10 * f + k) = nI (100 * f + startOf lc k) ∧ m.1 14 (10 * f + k) = nI (100 * f + startOf lc (k + 1))) ∧ ∀ (i v : Nat), c.2.2[i]? = some v → m.1 15 (100 * f + startOf lc k + i) = rCode v
-- ===== the state =====
/-- a world's fields, from b on, are in their bounds -/
def WfW (S : Sn) (b nl : Nat) : Prop :=
  S (b + 0) 0 ≤ 7 ∧ (∀ i, i < 7 → S (b + 1) i ≤ 6 ∧ S (b + 2) i ≤ 9 ∧ S (b + 3) i ≤ 99 ∧ S (b + 5) i < 128) ∧
  (∀ p o, p < 7 → o < 7 → S (b + 4) (7 * p + o) ≤ 99 ∧ S (b + 4) (7 * p + o) = S (b + 4) (7 * o + p) ∧ S (b + 4) (7 * p + p) = 0 ∧ (S (b + 0) 0 ≤ p → S (b + 4) (7 * p + o) = 0)) ∧
  (∀ p o, p < 7 → o < 7 → (S (b + 5) p).testBit o = (S (b + 5) o).testBit p ∧ (S (b + 5) p).testBit p = false ∧ (S (b + 0) 0 ≤ p → S (b + 5) p = 0)) ∧
  S (b + 6) 0 ≤ 8 ∧ (∀ t, t < S (b + 6) 0 → S (b + 7) t < S (b + 0) 0 ∧ S (b + 8) t < S (b + 0) 0 ∧ S (b + 9) t ≤ 99) ∧
  S (b + 10) 0 ≤ 12 ∧ (∀ k, k < S (b + 10) 0 → S (b + 11) k < S (b + 0) 0) ∧ S (b + 12) 0 ≤ nl
def Wf (S : Sn) : Prop := WfW S 0 (S 41 0) ∧ WfW S 20 (S 41 0) ∧ S 40 0 ≤ 1 ∧ S 41 0 ≤ 6 ∧ (∀ i, i < 100 → S 42 i < 128) ∧ S 43 0 ≤ 100 ∧ S 44 0 ≤ 1000 ∧ (∀ t, t < 6 → S 46 t ≤ 5 ∧ S 47 t ≤ 60 ∧ (S 46 t = 0 → S 47 t = 0)) ∧ S 48 0 = 0 ∧ S 49 0 = 0 ∧ ∀ i, i < 12 → letters0 i = nI (S 50 i)
def StC (m : Mm) (S : Sn) (ld : Nat → List Cl) (it : Nat → Nat → Int64) : Prop := RelC m S ∧ (∀ t i, t < 6 → i < 60 → m.2.1 (78 + 2 * t) i = it t i) ∧ CL m 31 [] ∧ ∀ j, j < S 41 0 → CL m (37 + 5 * j) (ld j)
def StM (m : Mm) (S : Sn) (ld : Nat → List Cl) (it : Nat → Nat → Int64) : Prop := RelM m S ∧ (∀ t i, t < 6 → i < 60 → m.2.1 38 (60 * t + i) = it t i) ∧ ∀ j, j < S 41 0 → ML m j (ld j)
def Inv (mc mr : Mm) : Prop := ∃ (S : Sn) (ld : Nat → List Cl) (it : Nat → Nat → Int64), StC mc S ld it ∧ StM mr S ld it ∧ Wf S ∧ ∀ j, j < S 41 0 → WL (ld j)
/-- cells that hold nothing from call to call -/
def scrC (k i : Nat) : Prop := (k = 1 ∧ i ≠ 10) ∨ (2 ≤ k ∧ k ≤ 10) ∨ (k = 67 ∧ i = 2) ∨ (69 ≤ k ∧ k ≤ 73) ∨ (k = 74 ∧ 2 ≤ i)
def scrM (k i : Nat) : Prop := (k = 0 ∧ (i = 13 ∨ i = 14 ∨ i = 23 ∨ i = 24 ∨ i = 25 ∨ i = 34 ∨ i = 35 ∨ i = 36)) ∨ k = 16 ∨ k = 18 ∨ (19 ≤ k ∧ k ≤ 24) ∨ k = 39
def sameC (m m' : Mm) : Prop := (∀ k i, ¬ scrC k i → m'.1 k i = m.1 k i) ∧ ∀ k i, 10 < k → m'.2.1 k i = m.2.1 k i
def sameM (m m' : Mm) : Prop := (∀ k i, ¬ scrM k i → m'.1 k i = m.1 k i) ∧ ∀ k i, k = 38 → m'.2.1 k i = m.2.1 k i
theorem sameC.rf (m : Mm) : sameC m m := ⟨fun _ _ _ => rfl, fun _ _ _ => rfl⟩
theorem sameM.rf (m : Mm) : sameM m m := ⟨fun _ _ _ => rfl, fun _ _ _ => rfl⟩
theorem sameC.tr {a b c : Mm} (h : sameC a b) (g : sameC b c) : sameC a c := ⟨fun k i q => (g.1 k i q).trans (h.1 k i q), fun k i q => (g.2 k i q).trans (h.2 k i q)⟩
theorem sameM.tr {a b c : Mm} (h : sameM a b) (g : sameM b c) : sameM a c := ⟨fun k i q => (g.1 k i q).trans (h.1 k i q), fun k i q => (g.2 k i q).trans (h.2 k i q)⟩

theorem keepC (i : Nat) : ∀ (f : Nat), i < lenC f → ¬ scrC (locC f i).1 (locC f i).2
  | 0, h => by show ¬ scrC 11 0; unfold scrC; omega
  | 1, h => by show ¬ scrC 12 i; unfold scrC; omega
  | 2, h => by show ¬ scrC 13 i; unfold scrC; omega
  | 3, h => by show ¬ scrC 14 i; unfold scrC; omega
  | 4, h => by show ¬ scrC 15 i; unfold scrC; omega
  | 5, h => by show ¬ scrC 16 i; unfold scrC; omega
  | 6, h => by show ¬ scrC 11 6; unfold scrC; omega
  | 7, h => by show ¬ scrC 17 i; unfold scrC; omega
  | 8, h => by show ¬ scrC 18 i; unfold scrC; omega
  | 9, h => by show ¬ scrC 19 i; unfold scrC; omega
  | 10, h => by show ¬ scrC 11 10; unfold scrC; omega
  | 11, h => by show ¬ scrC 20 i; unfold scrC; omega
  | 12, h => by show ¬ scrC 11 12; unfold scrC; omega
  | 20, h => by show ¬ scrC 21 0; unfold scrC; omega
  | 21, h => by show ¬ scrC 22 i; unfold scrC; omega
  | 22, h => by show ¬ scrC 23 i; unfold scrC; omega
  | 23, h => by show ¬ scrC 24 i; unfold scrC; omega
  | 24, h => by show ¬ scrC 25 i; unfold scrC; omega
  | 25, h => by show ¬ scrC 26 i; unfold scrC; omega
  | 26, h => by show ¬ scrC 21 6; unfold scrC; omega
  | 27, h => by show ¬ scrC 27 i; unfold scrC; omega
  | 28, h => by show ¬ scrC 28 i; unfold scrC; omega
  | 29, h => by show ¬ scrC 29 i; unfold scrC; omega
  | 30, h => by show ¬ scrC 21 10; unfold scrC; omega
  | 31, h => by show ¬ scrC 30 i; unfold scrC; omega
  | 32, h => by show ¬ scrC 21 12; unfold scrC; omega
  | 40, h => by show ¬ scrC 0 3; unfold scrC; omega
  | 41, h => by show ¬ scrC 0 6; unfold scrC; omega
  | 42, h => by show ¬ scrC 68 i; unfold scrC; omega
  | 43, h => by show ¬ scrC 67 1; unfold scrC; omega
  | 44, h => by show ¬ scrC 74 1; unfold scrC; omega
  | 45, h => by show ¬ scrC 75 i; unfold scrC; omega
  | 46, h => by show ¬ scrC (77 + 2 * i) 0; unfold scrC; omega
  | 47, h => by show ¬ scrC (77 + 2 * i) 1; unfold scrC; omega
  | 48, h => by show ¬ scrC 1 10; unfold scrC; omega
  | 13, h => absurd h (Nat.not_lt_zero i)
  | 14, h => absurd h (Nat.not_lt_zero i)
  | 15, h => absurd h (Nat.not_lt_zero i)
  | 16, h => absurd h (Nat.not_lt_zero i)
  | 17, h => absurd h (Nat.not_lt_zero i)
  | 18, h => absurd h (Nat.not_lt_zero i)
  | 19, h => absurd h (Nat.not_lt_zero i)
  | 33, h => absurd h (Nat.not_lt_zero i)
  | 34, h => absurd h (Nat.not_lt_zero i)
  | 35, h => absurd h (Nat.not_lt_zero i)
  | 36, h => absurd h (Nat.not_lt_zero i)
  | 37, h => absurd h (Nat.not_lt_zero i)
  | 38, h => absurd h (Nat.not_lt_zero i)
  | 39, h => absurd h (Nat.not_lt_zero i)
  | f + 49, h => absurd h (Nat.not_lt_zero i)
theorem keepM (i : Nat) : ∀ (f : Nat), i < lenM f → ¬ scrM (locM f i).1 (locM f i).2
  | 0, h => by show ¬ scrM 0 0; unfold scrM; omega
  | 1, h => by show ¬ scrM 1 i; unfold scrM; omega
  | 2, h => by show ¬ scrM 2 i; unfold scrM; omega
  | 3, h => by show ¬ scrM 3 i; unfold scrM; omega
  | 4, h => by show ¬ scrM 5 i; unfold scrM; omega
  | 5, h => by show ¬ scrM 4 i; unfold scrM; omega
  | 6, h => by show ¬ scrM 0 1; unfold scrM; omega
  | 7, h => by show ¬ scrM 6 i; unfold scrM; omega
  | 8, h => by show ¬ scrM 7 i; unfold scrM; omega
  | 9, h => by show ¬ scrM 8 i; unfold scrM; omega
  | 10, h => by show ¬ scrM 0 39; unfold scrM; omega
  | 11, h => by show ¬ scrM 25 i; unfold scrM; omega
  | 12, h => by show ¬ scrM 0 11; unfold scrM; omega
  | 20, h => by show ¬ scrM 0 43; unfold scrM; omega
  | 21, h => by show ¬ scrM 26 i; unfold scrM; omega
  | 22, h => by show ¬ scrM 27 i; unfold scrM; omega
  | 23, h => by show ¬ scrM 28 i; unfold scrM; omega
  | 24, h => by show ¬ scrM 30 i; unfold scrM; omega
  | 25, h => by show ¬ scrM 29 i; unfold scrM; omega
  | 26, h => by show ¬ scrM 0 44; unfold scrM; omega
  | 27, h => by show ¬ scrM 31 i; unfold scrM; omega
  | 28, h => by show ¬ scrM 32 i; unfold scrM; omega
  | 29, h => by show ¬ scrM 33 i; unfold scrM; omega
  | 30, h => by show ¬ scrM 0 45; unfold scrM; omega
  | 31, h => by show ¬ scrM 34 i; unfold scrM; omega
  | 32, h => by show ¬ scrM 0 42; unfold scrM; omega
  | 40, h => by show ¬ scrM 0 41; unfold scrM; omega
  | 41, h => by show ¬ scrM 0 10; unfold scrM; omega
  | 42, h => by show ¬ scrM 9 i; unfold scrM; omega
  | 43, h => by show ¬ scrM 0 12; unfold scrM; omega
  | 44, h => by show ¬ scrM 0 55; unfold scrM; omega
  | 45, h => by show ¬ scrM 35 i; unfold scrM; omega
  | 46, h => by show ¬ scrM 36 i; unfold scrM; omega
  | 47, h => by show ¬ scrM 37 i; unfold scrM; omega
  | 48, h => by show ¬ scrM 0 32; unfold scrM; omega
  | 49, h => by show ¬ scrM 0 33; unfold scrM; omega
  | 50, h => by show ¬ scrM 17 i; unfold scrM; omega
  | 13, h => absurd h (Nat.not_lt_zero i)
  | 14, h => absurd h (Nat.not_lt_zero i)
  | 15, h => absurd h (Nat.not_lt_zero i)
  | 16, h => absurd h (Nat.not_lt_zero i)
  | 17, h => absurd h (Nat.not_lt_zero i)
  | 18, h => absurd h (Nat.not_lt_zero i)
  | 19, h => absurd h (Nat.not_lt_zero i)
  | 33, h => absurd h (Nat.not_lt_zero i)
  | 34, h => absurd h (Nat.not_lt_zero i)
  | 35, h => absurd h (Nat.not_lt_zero i)
  | 36, h => absurd h (Nat.not_lt_zero i)
  | 37, h => absurd h (Nat.not_lt_zero i)
  | 38, h => absurd h (Nat.not_lt_zero i)
  | 39, h => absurd h (Nat.not_lt_zero i)
  | f + 51, h => absurd h (Nat.not_lt_zero i)
theorem CL_keep {m m' : Mm} {x : Nat} {lc : List Cl} (h : CL m x lc) (hk : ∀ k i, x ≤ k → k ≤ x + 4 → m'.1 k i = m.1 k i) : CL m' x lc := by
  obtain ⟨h1, h2, h3⟩ := h
  refine ⟨(hk x 5 (by omega) (by omega)).trans h1, (hk x 6 (by omega) (by omega)).trans h2, fun k c hc => ?_⟩
  obtain ⟨g1, g2, g3, g4⟩ := h3 k c hc
  exact ⟨(hk _ _ (by omega) (by omega)).trans g1, (hk _ _ (by omega) (by omega)).trans g2, (hk _ _ (by omega) (by omega)).trans g3, fun i v hv => (hk _ _ (by omega) (by omega)).trans (g4 i v hv)⟩
theorem ML_keep {m m' : Mm} {f : Nat} {lc : List Cl} (h : ML m f lc) (hk : ∀ k i, 10 ≤ k → k ≤ 15 → m'.1 k i = m.1 k i) : ML m' f lc := by
  obtain ⟨h1, h3⟩ := h
  refine ⟨(hk 10 f (by omega) (by omega)).trans h1, fun k c hc => ?_⟩
  obtain ⟨g1, g2, g3, g4⟩ := h3 k c hc
  exact ⟨(hk _ _ (by omega) (by omega)).trans g1, (hk _ _ (by omega) (by omega)).trans g2, fun q => ⟨(hk _ _ (by omega) (by omega)).trans (g3 q).1, (hk _ _ (by omega) (by omega)).trans (g3 q).2⟩, fun i v hv => (hk _ _ (by omega) (by omega)).trans (g4 i v hv)⟩
theorem StC_same {m m' : Mm} {S : Sn} {ld : Nat → List Cl} {it : Nat → Nat → Int64} (h : StC m S ld it) (hs : sameC m m') (hn : S 41 0 ≤ 6) : StC m' S ld it := by
  obtain ⟨h1, h2, h3, h4⟩ := h
  refine ⟨fun f i hi => (hs.1 _ _ (keepC i f hi)).trans (h1 f i hi), fun t i ht hi => (hs.2 _ _ (by omega)).trans (h2 t i ht hi), CL_keep h3 (fun k i a b => hs.1 k i (by unfold scrC; omega)), fun j hj => CL_keep (h4 j hj) (fun k i a b => hs.1 k i (by unfold scrC; omega))⟩
theorem StM_same {m m' : Mm} {S : Sn} {ld : Nat → List Cl} {it : Nat → Nat → Int64} (h : StM m S ld it) (hs : sameM m m') : StM m' S ld it := by
  obtain ⟨h1, h2, h4⟩ := h
  refine ⟨fun f i hi => (hs.1 _ _ (keepM i f hi)).trans (h1 f i hi), fun t i ht hi => (hs.2 _ _ rfl).trans (h2 t i ht hi), fun j hj => ML_keep (h4 j hj) (fun k i a b => hs.1 k i (by unfold scrM; omega))⟩
