-- ===== literals, accessors =====
theorem i_0 : (0 : Int32) = nI 0 := rfl
theorem i_1 : (1 : Int32) = nI 1 := rfl
theorem i_2 : (2 : Int32) = nI 2 := rfl
theorem i_3 : (3 : Int32) = nI 3 := rfl
theorem i_4 : (4 : Int32) = nI 4 := rfl
theorem i_5 : (5 : Int32) = nI 5 := rfl
theorem i_6 : (6 : Int32) = nI 6 := rfl
theorem i_7 : (7 : Int32) = nI 7 := rfl
theorem i_8 : (8 : Int32) = nI 8 := rfl
theorem i_9 : (9 : Int32) = nI 9 := rfl
theorem i_10 : (10 : Int32) = nI 10 := rfl
theorem i_11 : (11 : Int32) = nI 11 := rfl
theorem i_12 : (12 : Int32) = nI 12 := rfl
theorem i_13 : (13 : Int32) = nI 13 := rfl
theorem i_14 : (14 : Int32) = nI 14 := rfl
theorem i_15 : (15 : Int32) = nI 15 := rfl
theorem i_16 : (16 : Int32) = nI 16 := rfl
theorem i_17 : (17 : Int32) = nI 17 := rfl
theorem i_18 : (18 : Int32) = nI 18 := rfl
theorem i_19 : (19 : Int32) = nI 19 := rfl
theorem i_20 : (20 : Int32) = nI 20 := rfl
theorem i_30 : (30 : Int32) = nI 30 := rfl
theorem i_50 : (50 : Int32) = nI 50 := rfl
theorem i_51 : (51 : Int32) = nI 51 := rfl
theorem i_70 : (70 : Int32) = nI 70 := rfl
theorem i_71 : (71 : Int32) = nI 71 := rfl
theorem i_24 : (24 : Int32) = nI 24 := rfl
theorem i_28 : (28 : Int32) = nI 28 := rfl
theorem i_31 : (31 : Int32) = nI 31 := rfl
theorem i_32 : (32 : Int32) = nI 32 := rfl
theorem i_33 : (33 : Int32) = nI 33 := rfl
theorem i_38 : (38 : Int32) = nI 38 := rfl
theorem i_40 : (40 : Int32) = nI 40 := rfl
theorem i_41 : (41 : Int32) = nI 41 := rfl
theorem i_48 : (48 : Int32) = nI 48 := rfl
theorem i_49 : (49 : Int32) = nI 49 := rfl
theorem i_57 : (57 : Int32) = nI 57 := rfl
theorem i_59 : (59 : Int32) = nI 59 := rfl
theorem i_60 : (60 : Int32) = nI 60 := rfl
theorem i_99 : (99 : Int32) = nI 99 := rfl
theorem i_100 : (100 : Int32) = nI 100 := rfl
theorem i_124 : (124 : Int32) = nI 124 := rfl
theorem i_127 : (127 : Int32) = nI 127 := rfl
theorem i_128 : (128 : Int32) = nI 128 := rfl
theorem i_300 : (300 : Int32) = nI 300 := rfl
theorem i_360 : (360 : Int32) = nI 360 := rfl
theorem i_400 : (400 : Int32) = nI 400 := rfl
theorem i_500 : (500 : Int32) = nI 500 := rfl
theorem i_700 : (700 : Int32) = nI 700 := rfl
theorem i_1000 : (1000 : Int32) = nI 1000 := rfl
theorem cF0 {m : Mm} {S : Sn} (h : RelC m S) : m.1 11 0 = nI (S 0 0) := h 0 0 (by decide)
theorem cF1 {m : Mm} {S : Sn} (h : RelC m S) {i : Nat} (hi : i < 7) : m.1 12 i = nI (S 1 i) := h 1 i hi
theorem cF2 {m : Mm} {S : Sn} (h : RelC m S) {i : Nat} (hi : i < 7) : m.1 13 i = nI (S 2 i) := h 2 i hi
theorem cF3 {m : Mm} {S : Sn} (h : RelC m S) {i : Nat} (hi : i < 7) : m.1 14 i = nI (S 3 i) := h 3 i hi
theorem cF4 {m : Mm} {S : Sn} (h : RelC m S) {i : Nat} (hi : i < 49) : m.1 15 i = nI (S 4 i) := h 4 i hi
theorem cF5 {m : Mm} {S : Sn} (h : RelC m S) {i : Nat} (hi : i < 7) : m.1 16 i = nI (S 5 i) := h 5 i hi
theorem cF6 {m : Mm} {S : Sn} (h : RelC m S) : m.1 11 6 = nI (S 6 0) := h 6 0 (by decide)
theorem cF7 {m : Mm} {S : Sn} (h : RelC m S) {i : Nat} (hi : i < 8) : m.1 17 i = nI (S 7 i) := h 7 i hi
theorem cF8 {m : Mm} {S : Sn} (h : RelC m S) {i : Nat} (hi : i < 8) : m.1 18 i = nI (S 8 i) := h 8 i hi
theorem cF9 {m : Mm} {S : Sn} (h : RelC m S) {i : Nat} (hi : i < 8) : m.1 19 i = nI (S 9 i) := h 9 i hi
theorem cF10 {m : Mm} {S : Sn} (h : RelC m S) : m.1 11 10 = nI (S 10 0) := h 10 0 (by decide)
theorem cF11 {m : Mm} {S : Sn} (h : RelC m S) {i : Nat} (hi : i < 12) : m.1 20 i = nI (S 11 i) := h 11 i hi
theorem cF12 {m : Mm} {S : Sn} (h : RelC m S) : m.1 11 12 = nI (S 12 0) - 1 := h 12 0 (by decide)
theorem cF20 {m : Mm} {S : Sn} (h : RelC m S) : m.1 21 0 = nI (S 20 0) := h 20 0 (by decide)
theorem cF21 {m : Mm} {S : Sn} (h : RelC m S) {i : Nat} (hi : i < 7) : m.1 22 i = nI (S 21 i) := h 21 i hi
theorem cF22 {m : Mm} {S : Sn} (h : RelC m S) {i : Nat} (hi : i < 7) : m.1 23 i = nI (S 22 i) := h 22 i hi
theorem cF23 {m : Mm} {S : Sn} (h : RelC m S) {i : Nat} (hi : i < 7) : m.1 24 i = nI (S 23 i) := h 23 i hi
theorem cF24 {m : Mm} {S : Sn} (h : RelC m S) {i : Nat} (hi : i < 49) : m.1 25 i = nI (S 24 i) := h 24 i hi
theorem cF25 {m : Mm} {S : Sn} (h : RelC m S) {i : Nat} (hi : i < 7) : m.1 26 i = nI (S 25 i) := h 25 i hi
theorem cF26 {m : Mm} {S : Sn} (h : RelC m S) : m.1 21 6 = nI (S 26 0) := h 26 0 (by decide)
theorem cF27 {m : Mm} {S : Sn} (h : RelC m S) {i : Nat} (hi : i < 8) : m.1 27 i = nI (S 27 i) := h 27 i hi
theorem cF28 {m : Mm} {S : Sn} (h : RelC m S) {i : Nat} (hi : i < 8) : m.1 28 i = nI (S 28 i) := h 28 i hi
theorem cF29 {m : Mm} {S : Sn} (h : RelC m S) {i : Nat} (hi : i < 8) : m.1 29 i = nI (S 29 i) := h 29 i hi
theorem cF30 {m : Mm} {S : Sn} (h : RelC m S) : m.1 21 10 = nI (S 30 0) := h 30 0 (by decide)
theorem cF31 {m : Mm} {S : Sn} (h : RelC m S) {i : Nat} (hi : i < 12) : m.1 30 i = nI (S 31 i) := h 31 i hi
theorem cF32 {m : Mm} {S : Sn} (h : RelC m S) : m.1 21 12 = nI (S 32 0) - 1 := h 32 0 (by decide)
theorem cF40 {m : Mm} {S : Sn} (h : RelC m S) : m.1 0 3 = nI (S 40 0) := h 40 0 (by decide)
theorem cF41 {m : Mm} {S : Sn} (h : RelC m S) : m.1 0 6 = nI (S 41 0) := h 41 0 (by decide)
theorem cF42 {m : Mm} {S : Sn} (h : RelC m S) {i : Nat} (hi : i < 100) : m.1 68 i = nI (S 42 i) := h 42 i hi
theorem cF43 {m : Mm} {S : Sn} (h : RelC m S) : m.1 67 1 = nI (S 43 0) := h 43 0 (by decide)
theorem cF44 {m : Mm} {S : Sn} (h : RelC m S) : m.1 74 1 = nI (S 44 0) := h 44 0 (by decide)
theorem cF45 {m : Mm} {S : Sn} (h : RelC m S) {i : Nat} (hi : i < 20) : m.1 75 i = nI (S 45 i) := h 45 i hi
theorem cF46 {m : Mm} {S : Sn} (h : RelC m S) {i : Nat} (hi : i < 6) : m.1 (77 + 2 * i) 0 = nI (S 46 i) - 1 := h 46 i hi
theorem cF47 {m : Mm} {S : Sn} (h : RelC m S) {i : Nat} (hi : i < 6) : m.1 (77 + 2 * i) 1 = nI (S 47 i) := h 47 i hi
theorem cF48 {m : Mm} {S : Sn} (h : RelC m S) : m.1 1 10 = nI (S 48 0) - 1 := h 48 0 (by decide)
theorem rF0 {m : Mm} {S : Sn} (h : RelM m S) : m.1 0 0 = nI (S 0 0) := h 0 0 (by decide)
theorem rF1 {m : Mm} {S : Sn} (h : RelM m S) {i : Nat} (hi : i < 7) : m.1 1 i = nI (S 1 i) := h 1 i hi
theorem rF2 {m : Mm} {S : Sn} (h : RelM m S) {i : Nat} (hi : i < 7) : m.1 2 i = nI (S 2 i) := h 2 i hi
theorem rF3 {m : Mm} {S : Sn} (h : RelM m S) {i : Nat} (hi : i < 7) : m.1 3 i = nI (S 3 i) := h 3 i hi
theorem rF4 {m : Mm} {S : Sn} (h : RelM m S) {i : Nat} (hi : i < 49) : m.1 5 i = nI (S 4 i) := h 4 i hi
theorem rF5 {m : Mm} {S : Sn} (h : RelM m S) {i : Nat} (hi : i < 7) : m.1 4 i = nI (S 5 i) := h 5 i hi
theorem rF6 {m : Mm} {S : Sn} (h : RelM m S) : m.1 0 1 = nI (S 6 0) := h 6 0 (by decide)
theorem rF7 {m : Mm} {S : Sn} (h : RelM m S) {i : Nat} (hi : i < 8) : m.1 6 i = nI (S 7 i) := h 7 i hi
theorem rF8 {m : Mm} {S : Sn} (h : RelM m S) {i : Nat} (hi : i < 8) : m.1 7 i = nI (S 8 i) := h 8 i hi
theorem rF9 {m : Mm} {S : Sn} (h : RelM m S) {i : Nat} (hi : i < 8) : m.1 8 i = nI (S 9 i) := h 9 i hi
theorem rF10 {m : Mm} {S : Sn} (h : RelM m S) : m.1 0 39 = nI (S 10 0) := h 10 0 (by decide)
theorem rF11 {m : Mm} {S : Sn} (h : RelM m S) {i : Nat} (hi : i < 12) : m.1 25 i = nI (S 11 i) := h 11 i hi
theorem rF12 {m : Mm} {S : Sn} (h : RelM m S) : m.1 0 11 = nI (S 12 0) - 1 := h 12 0 (by decide)
theorem rF20 {m : Mm} {S : Sn} (h : RelM m S) : m.1 0 43 = nI (S 20 0) := h 20 0 (by decide)
theorem rF21 {m : Mm} {S : Sn} (h : RelM m S) {i : Nat} (hi : i < 7) : m.1 26 i = nI (S 21 i) := h 21 i hi
theorem rF22 {m : Mm} {S : Sn} (h : RelM m S) {i : Nat} (hi : i < 7) : m.1 27 i = nI (S 22 i) := h 22 i hi
theorem rF23 {m : Mm} {S : Sn} (h : RelM m S) {i : Nat} (hi : i < 7) : m.1 28 i = nI (S 23 i) := h 23 i hi
theorem rF24 {m : Mm} {S : Sn} (h : RelM m S) {i : Nat} (hi : i < 49) : m.1 30 i = nI (S 24 i) := h 24 i hi
theorem rF25 {m : Mm} {S : Sn} (h : RelM m S) {i : Nat} (hi : i < 7) : m.1 29 i = nI (S 25 i) := h 25 i hi
theorem rF26 {m : Mm} {S : Sn} (h : RelM m S) : m.1 0 44 = nI (S 26 0) := h 26 0 (by decide)
theorem rF27 {m : Mm} {S : Sn} (h : RelM m S) {i : Nat} (hi : i < 8) : m.1 31 i = nI (S 27 i) := h 27 i hi
theorem rF28 {m : Mm} {S : Sn} (h : RelM m S) {i : Nat} (hi : i < 8) : m.1 32 i = nI (S 28 i) := h 28 i hi
theorem rF29 {m : Mm} {S : Sn} (h : RelM m S) {i : Nat} (hi : i < 8) : m.1 33 i = nI (S 29 i) := h 29 i hi
theorem rF30 {m : Mm} {S : Sn} (h : RelM m S) : m.1 0 45 = nI (S 30 0) := h 30 0 (by decide)
theorem rF31 {m : Mm} {S : Sn} (h : RelM m S) {i : Nat} (hi : i < 12) : m.1 34 i = nI (S 31 i) := h 31 i hi
theorem rF32 {m : Mm} {S : Sn} (h : RelM m S) : m.1 0 42 = nI (S 32 0) - 1 := h 32 0 (by decide)
theorem rF40 {m : Mm} {S : Sn} (h : RelM m S) : m.1 0 41 = nI (S 40 0) := h 40 0 (by decide)
theorem rF41 {m : Mm} {S : Sn} (h : RelM m S) : m.1 0 10 = nI (S 41 0) := h 41 0 (by decide)
theorem rF42 {m : Mm} {S : Sn} (h : RelM m S) {i : Nat} (hi : i < 100) : m.1 9 i = nI (S 42 i) := h 42 i hi
theorem rF43 {m : Mm} {S : Sn} (h : RelM m S) : m.1 0 12 = nI (S 43 0) := h 43 0 (by decide)
theorem rF44 {m : Mm} {S : Sn} (h : RelM m S) : m.1 0 55 = nI (S 44 0) := h 44 0 (by decide)
theorem rF45 {m : Mm} {S : Sn} (h : RelM m S) {i : Nat} (hi : i < 20) : m.1 35 i = nI (S 45 i) := h 45 i hi
theorem rF46 {m : Mm} {S : Sn} (h : RelM m S) {i : Nat} (hi : i < 6) : m.1 36 i = nI (S 46 i) - 1 := h 46 i hi
theorem rF47 {m : Mm} {S : Sn} (h : RelM m S) {i : Nat} (hi : i < 6) : m.1 37 i = nI (S 47 i) := h 47 i hi
theorem rF48 {m : Mm} {S : Sn} (h : RelM m S) : m.1 0 32 = nI (S 48 0) - 1 := h 48 0 (by decide)
theorem rF49 {m : Mm} {S : Sn} (h : RelM m S) : m.1 0 33 = nI (S 49 0) - 1 := h 49 0 (by decide)
theorem rF50 {m : Mm} {S : Sn} (h : RelM m S) {i : Nat} (hi : i < 12) : m.1 17 i = nI (S 50 i) := h 50 i hi
theorem in6 (a : Int32) : Mo_in a 0 6 = inR a 7 := Mo_in_0 (by decide)
theorem in5 (a : Int32) : Mo_in a 0 5 = inR a 6 := Mo_in_0 (by decide)
theorem in9 (a : Int32) : Mo_in a 0 9 = inR a 10 := Mo_in_0 (by decide)
theorem in19 (a : Int32) : Mo_in a 0 19 = inR a 20 := Mo_in_0 (by decide)
theorem in99 (a : Int32) : Mo_in a 0 99 = inR a 100 := Mo_in_0 (by decide)
theorem in1 (a : Int32) : Mo_in a 0 1 = inR a 2 := Mo_in_0 (by decide)
theorem in2 (a : Int32) : Mo_in a 0 2 = inR a 3 := Mo_in_0 (by decide)
theorem in4 (a : Int32) : Mo_in a 0 4 = inR a 5 := Mo_in_0 (by decide)
theorem in127 (a : Int32) : Mo_in a 0 127 = inR a 128 := Mo_in_0 (by decide)
theorem Wf_0 {S : Sn} (h : Wf S) : S 0 0 ≤ 7 := h.1.1
theorem Wf_1 {S : Sn} (h : Wf S) {i : Nat} (hi : i < 7) : S 1 i ≤ 6 := (h.1.2.1 i hi).1
theorem Wf_2 {S : Sn} (h : Wf S) {i : Nat} (hi : i < 7) : S 2 i ≤ 9 := (h.1.2.1 i hi).2.1
theorem Wf_3 {S : Sn} (h : Wf S) {i : Nat} (hi : i < 7) : S 3 i ≤ 99 := (h.1.2.1 i hi).2.2.1
theorem Wf_5 {S : Sn} (h : Wf S) {i : Nat} (hi : i < 7) : S 5 i < 128 := (h.1.2.1 i hi).2.2.2
theorem Wf_6 {S : Sn} (h : Wf S) : S 6 0 ≤ 8 := h.1.2.2.2.2.1
theorem Wf_10 {S : Sn} (h : Wf S) : S 10 0 ≤ 12 := h.1.2.2.2.2.2.2.1
theorem Wf_12 {S : Sn} (h : Wf S) : S 12 0 ≤ S 41 0 := h.1.2.2.2.2.2.2.2.2
theorem Wf_4 {S : Sn} (h : Wf S) {p o : Nat} (hp : p < 7) (ho : o < 7) : S 4 (7 * p + o) ≤ 99 := (h.1.2.2.1 p o hp ho).1
theorem Wf_4s {S : Sn} (h : Wf S) {p o : Nat} (hp : p < 7) (ho : o < 7) : S 4 (7 * p + o) = S 4 (7 * o + p) := (h.1.2.2.1 p o hp ho).2.1
theorem Wf_4d {S : Sn} (h : Wf S) {p : Nat} (hp : p < 7) : S 4 (7 * p + p) = 0 := (h.1.2.2.1 p p hp hp).2.2.1
theorem Wf_4z {S : Sn} (h : Wf S) {p o : Nat} (hp : p < 7) (ho : o < 7) (hn : S 0 0 ≤ p) : S 4 (7 * p + o) = 0 := (h.1.2.2.1 p o hp ho).2.2.2 hn
theorem Wf_5s {S : Sn} (h : Wf S) {p o : Nat} (hp : p < 7) (ho : o < 7) : (S 5 p).testBit o = (S 5 o).testBit p := (h.1.2.2.2.1 p o hp ho).1
theorem Wf_5d {S : Sn} (h : Wf S) {p : Nat} (hp : p < 7) : (S 5 p).testBit p = false := (h.1.2.2.2.1 p p hp hp).2.1
theorem Wf_5z {S : Sn} (h : Wf S) {p : Nat} (hp : p < 7) (hn : S 0 0 ≤ p) : S 5 p = 0 := (h.1.2.2.2.1 p p hp hp).2.2 hn
theorem Wf_7 {S : Sn} (h : Wf S) {t : Nat} (ht : t < S 6 0) : S 7 t < S 0 0 ∧ S 8 t < S 0 0 ∧ S 9 t ≤ 99 := h.1.2.2.2.2.2.1 t ht
theorem Wf_11 {S : Sn} (h : Wf S) {t : Nat} (ht : t < S 10 0) : S 11 t < S 0 0 := h.1.2.2.2.2.2.2.2.1 t ht
theorem Wf_40 {S : Sn} (h : Wf S) : S 40 0 ≤ 1 := h.2.2.1
theorem Wf_41 {S : Sn} (h : Wf S) : S 41 0 ≤ 6 := h.2.2.2.1
theorem Wf_42 {S : Sn} (h : Wf S) {i : Nat} (hi : i < 100) : S 42 i < 128 := h.2.2.2.2.1 i hi
theorem Wf_43 {S : Sn} (h : Wf S) : S 43 0 ≤ 100 := h.2.2.2.2.2.1
theorem Wf_44 {S : Sn} (h : Wf S) : S 44 0 ≤ 1000 := h.2.2.2.2.2.2.1
theorem Wf_46 {S : Sn} (h : Wf S) {t : Nat} (ht : t < 6) : S 46 t ≤ 5 ∧ S 47 t ≤ 60 ∧ (S 46 t = 0 → S 47 t = 0) := h.2.2.2.2.2.2.2.1 t ht
theorem Wf_48 {S : Sn} (h : Wf S) : S 48 0 = 0 := h.2.2.2.2.2.2.2.2.1
theorem Wf_49 {S : Sn} (h : Wf S) : S 49 0 = 0 := h.2.2.2.2.2.2.2.2.2.1
theorem locC_land (i : Nat) : ∀ (f : Nat), i < lenC f → 31 ≤ (locC f i).1 → (locC f i).1 ≤ 66 → False
  | 0, h, a, b => by
    have a1 : 31 ≤ 11 := a
    have b1 : 11 ≤ 66 := b
    omega
  | 1, h, a, b => by
    have a1 : 31 ≤ 12 := a
    have b1 : 12 ≤ 66 := b
    omega
  | 2, h, a, b => by
    have a1 : 31 ≤ 13 := a
    have b1 : 13 ≤ 66 := b
    omega
  | 3, h, a, b => by
    have a1 : 31 ≤ 14 := a
    have b1 : 14 ≤ 66 := b
    omega
  | 4, h, a, b => by
    have a1 : 31 ≤ 15 := a
    have b1 : 15 ≤ 66 := b
    omega
  | 5, h, a, b => by
    have a1 : 31 ≤ 16 := a
    have b1 : 16 ≤ 66 := b
    omega
  | 6, h, a, b => by
    have a1 : 31 ≤ 11 := a
    have b1 : 11 ≤ 66 := b
    omega
  | 7, h, a, b => by
    have a1 : 31 ≤ 17 := a
    have b1 : 17 ≤ 66 := b
    omega
  | 8, h, a, b => by
    have a1 : 31 ≤ 18 := a
    have b1 : 18 ≤ 66 := b
    omega
  | 9, h, a, b => by
    have a1 : 31 ≤ 19 := a
    have b1 : 19 ≤ 66 := b
    omega
  | 10, h, a, b => by
    have a1 : 31 ≤ 11 := a
    have b1 : 11 ≤ 66 := b
    omega
  | 11, h, a, b => by
    have a1 : 31 ≤ 20 := a
    have b1 : 20 ≤ 66 := b
    omega
  | 12, h, a, b => by
    have a1 : 31 ≤ 11 := a
    have b1 : 11 ≤ 66 := b
    omega
  | 20, h, a, b => by
    have a1 : 31 ≤ 21 := a
    have b1 : 21 ≤ 66 := b
    omega
  | 21, h, a, b => by
    have a1 : 31 ≤ 22 := a
    have b1 : 22 ≤ 66 := b
    omega
  | 22, h, a, b => by
    have a1 : 31 ≤ 23 := a
    have b1 : 23 ≤ 66 := b
    omega
  | 23, h, a, b => by
    have a1 : 31 ≤ 24 := a
    have b1 : 24 ≤ 66 := b
    omega
  | 24, h, a, b => by
    have a1 : 31 ≤ 25 := a
    have b1 : 25 ≤ 66 := b
    omega
  | 25, h, a, b => by
    have a1 : 31 ≤ 26 := a
    have b1 : 26 ≤ 66 := b
    omega
  | 26, h, a, b => by
    have a1 : 31 ≤ 21 := a
    have b1 : 21 ≤ 66 := b
    omega
  | 27, h, a, b => by
    have a1 : 31 ≤ 27 := a
    have b1 : 27 ≤ 66 := b
    omega
  | 28, h, a, b => by
    have a1 : 31 ≤ 28 := a
    have b1 : 28 ≤ 66 := b
    omega
  | 29, h, a, b => by
    have a1 : 31 ≤ 29 := a
    have b1 : 29 ≤ 66 := b
    omega
  | 30, h, a, b => by
    have a1 : 31 ≤ 21 := a
    have b1 : 21 ≤ 66 := b
    omega
  | 31, h, a, b => by
    have a1 : 31 ≤ 30 := a
    have b1 : 30 ≤ 66 := b
    omega
  | 32, h, a, b => by
    have a1 : 31 ≤ 21 := a
    have b1 : 21 ≤ 66 := b
    omega
  | 40, h, a, b => by
    have a1 : 31 ≤ 0 := a
    have b1 : 0 ≤ 66 := b
    omega
  | 41, h, a, b => by
    have a1 : 31 ≤ 0 := a
    have b1 : 0 ≤ 66 := b
    omega
  | 42, h, a, b => by
    have a1 : 31 ≤ 68 := a
    have b1 : 68 ≤ 66 := b
    omega
  | 43, h, a, b => by
    have a1 : 31 ≤ 67 := a
    have b1 : 67 ≤ 66 := b
    omega
  | 44, h, a, b => by
    have a1 : 31 ≤ 74 := a
    have b1 : 74 ≤ 66 := b
    omega
  | 45, h, a, b => by
    have a1 : 31 ≤ 75 := a
    have b1 : 75 ≤ 66 := b
    omega
  | 46, h, a, b => by
    have b1 : 77 + 2 * i ≤ 66 := b
    omega
  | 47, h, a, b => by
    have b1 : 77 + 2 * i ≤ 66 := b
    omega
  | 48, h, a, b => by
    have a1 : 31 ≤ 1 := a
    have b1 : 1 ≤ 66 := b
    omega
  | 13, h, _, _ => absurd h (Nat.not_lt_zero i)
  | 14, h, _, _ => absurd h (Nat.not_lt_zero i)
  | 15, h, _, _ => absurd h (Nat.not_lt_zero i)
  | 16, h, _, _ => absurd h (Nat.not_lt_zero i)
  | 17, h, _, _ => absurd h (Nat.not_lt_zero i)
  | 18, h, _, _ => absurd h (Nat.not_lt_zero i)
  | 19, h, _, _ => absurd h (Nat.not_lt_zero i)
  | 33, h, _, _ => absurd h (Nat.not_lt_zero i)
  | 34, h, _, _ => absurd h (Nat.not_lt_zero i)
  | 35, h, _, _ => absurd h (Nat.not_lt_zero i)
  | 36, h, _, _ => absurd h (Nat.not_lt_zero i)
  | 37, h, _, _ => absurd h (Nat.not_lt_zero i)
  | 38, h, _, _ => absurd h (Nat.not_lt_zero i)
  | 39, h, _, _ => absurd h (Nat.not_lt_zero i)
  | f + 49, h, _, _ => absurd h (Nat.not_lt_zero i)
theorem locM_land (i : Nat) : ∀ (f : Nat), i < lenM f → 10 ≤ (locM f i).1 → (locM f i).1 ≤ 15 → False
  | 0, h, a, b => by
    have a1 : 10 ≤ 0 := a
    have b1 : 0 ≤ 15 := b
    omega
  | 1, h, a, b => by
    have a1 : 10 ≤ 1 := a
    have b1 : 1 ≤ 15 := b
    omega
  | 2, h, a, b => by
    have a1 : 10 ≤ 2 := a
    have b1 : 2 ≤ 15 := b
    omega
  | 3, h, a, b => by
    have a1 : 10 ≤ 3 := a
    have b1 : 3 ≤ 15 := b
    omega
  | 4, h, a, b => by
    have a1 : 10 ≤ 5 := a
    have b1 : 5 ≤ 15 := b
    omega
  | 5, h, a, b => by
    have a1 : 10 ≤ 4 := a
    have b1 : 4 ≤ 15 := b
    omega
  | 6, h, a, b => by
    have a1 : 10 ≤ 0 := a
    have b1 : 0 ≤ 15 := b
    omega
  | 7, h, a, b => by
    have a1 : 10 ≤ 6 := a
    have b1 : 6 ≤ 15 := b
    omega
  | 8, h, a, b => by
    have a1 : 10 ≤ 7 := a
    have b1 : 7 ≤ 15 := b
    omega
  | 9, h, a, b => by
    have a1 : 10 ≤ 8 := a
    have b1 : 8 ≤ 15 := b
    omega
  | 10, h, a, b => by
    have a1 : 10 ≤ 0 := a
    have b1 : 0 ≤ 15 := b
    omega
  | 11, h, a, b => by
    have a1 : 10 ≤ 25 := a
    have b1 : 25 ≤ 15 := b
    omega
  | 12, h, a, b => by
    have a1 : 10 ≤ 0 := a
    have b1 : 0 ≤ 15 := b
    omega
  | 20, h, a, b => by
    have a1 : 10 ≤ 0 := a
    have b1 : 0 ≤ 15 := b
    omega
  | 21, h, a, b => by
    have a1 : 10 ≤ 26 := a
    have b1 : 26 ≤ 15 := b
    omega
  | 22, h, a, b => by
    have a1 : 10 ≤ 27 := a
    have b1 : 27 ≤ 15 := b
    omega
  | 23, h, a, b => by
    have a1 : 10 ≤ 28 := a
    have b1 : 28 ≤ 15 := b
    omega
  | 24, h, a, b => by
    have a1 : 10 ≤ 30 := a
    have b1 : 30 ≤ 15 := b
    omega
  | 25, h, a, b => by
    have a1 : 10 ≤ 29 := a
    have b1 : 29 ≤ 15 := b
    omega
  | 26, h, a, b => by
    have a1 : 10 ≤ 0 := a
    have b1 : 0 ≤ 15 := b
    omega
  | 27, h, a, b => by
    have a1 : 10 ≤ 31 := a
    have b1 : 31 ≤ 15 := b
    omega
  | 28, h, a, b => by
    have a1 : 10 ≤ 32 := a
    have b1 : 32 ≤ 15 := b
    omega
  | 29, h, a, b => by
    have a1 : 10 ≤ 33 := a
    have b1 : 33 ≤ 15 := b
    omega
  | 30, h, a, b => by
    have a1 : 10 ≤ 0 := a
    have b1 : 0 ≤ 15 := b
    omega
  | 31, h, a, b => by
    have a1 : 10 ≤ 34 := a
    have b1 : 34 ≤ 15 := b
    omega
  | 32, h, a, b => by
    have a1 : 10 ≤ 0 := a
    have b1 : 0 ≤ 15 := b
    omega
  | 40, h, a, b => by
    have a1 : 10 ≤ 0 := a
    have b1 : 0 ≤ 15 := b
    omega
  | 41, h, a, b => by
    have a1 : 10 ≤ 0 := a
    have b1 : 0 ≤ 15 := b
    omega
  | 42, h, a, b => by
    have a1 : 10 ≤ 9 := a
    have b1 : 9 ≤ 15 := b
    omega
  | 43, h, a, b => by
    have a1 : 10 ≤ 0 := a
    have b1 : 0 ≤ 15 := b
    omega
  | 44, h, a, b => by
    have a1 : 10 ≤ 0 := a
    have b1 : 0 ≤ 15 := b
    omega
  | 45, h, a, b => by
    have a1 : 10 ≤ 35 := a
    have b1 : 35 ≤ 15 := b
    omega
  | 46, h, a, b => by
    have a1 : 10 ≤ 36 := a
    have b1 : 36 ≤ 15 := b
    omega
  | 47, h, a, b => by
    have a1 : 10 ≤ 37 := a
    have b1 : 37 ≤ 15 := b
    omega
  | 48, h, a, b => by
    have a1 : 10 ≤ 0 := a
    have b1 : 0 ≤ 15 := b
    omega
  | 49, h, a, b => by
    have a1 : 10 ≤ 0 := a
    have b1 : 0 ≤ 15 := b
    omega
  | 50, h, a, b => by
    have a1 : 10 ≤ 17 := a
    have b1 : 17 ≤ 15 := b
    omega
  | 13, h, _, _ => absurd h (Nat.not_lt_zero i)
  | 14, h, _, _ => absurd h (Nat.not_lt_zero i)
  | 15, h, _, _ => absurd h (Nat.not_lt_zero i)
  | 16, h, _, _ => absurd h (Nat.not_lt_zero i)
  | 17, h, _, _ => absurd h (Nat.not_lt_zero i)
  | 18, h, _, _ => absurd h (Nat.not_lt_zero i)
  | 19, h, _, _ => absurd h (Nat.not_lt_zero i)
  | 33, h, _, _ => absurd h (Nat.not_lt_zero i)
  | 34, h, _, _ => absurd h (Nat.not_lt_zero i)
  | 35, h, _, _ => absurd h (Nat.not_lt_zero i)
  | 36, h, _, _ => absurd h (Nat.not_lt_zero i)
  | 37, h, _, _ => absurd h (Nat.not_lt_zero i)
  | 38, h, _, _ => absurd h (Nat.not_lt_zero i)
  | 39, h, _, _ => absurd h (Nat.not_lt_zero i)
  | f + 51, h, _, _ => absurd h (Nat.not_lt_zero i)
theorem StC_set {m : Mm} {S : Sn} {ld : Nat → List Cl} {it : Nat → Nat → Int64} {f i v : Nat} {x : Int32} (h : StC m S ld it) (h6 : S 41 0 ≤ 6) (hi : i < lenC f) (hf : f ≠ 41) (hx : x = vS f v) : StC (si m (locC f i).1 (locC f i).2 x) (su S f i v) ld it := by
  obtain ⟨h1, h2, h3, h4⟩ := h
  have hn : su S f i v 41 0 = S 41 0 := by rw [su_r, if_neg (fun q => hf q.1.symm)]
  refine ⟨RelC_set h1 hi hx, h2, CL_keep h3 (fun k j a b => ?_), fun j hj => ?_⟩
  · rw [si_r, if_neg]
    intro q
    exact locC_land i f hi (by rw [← q.1]; omega) (by rw [← q.1]; omega)
  · rw [hn] at hj
    refine CL_keep (h4 j hj) (fun k j' a b => ?_)
    rw [si_r, if_neg]
    intro q
    exact locC_land i f hi (by rw [← q.1]; omega) (by rw [← q.1]; omega)
theorem StM_set {m : Mm} {S : Sn} {ld : Nat → List Cl} {it : Nat → Nat → Int64} {f i v : Nat} {x : Int32} (h : StM m S ld it) (hi : i < lenM f) (hf : f ≠ 41) (hx : x = vS f v) : StM (si m (locM f i).1 (locM f i).2 x) (su S f i v) ld it := by
  obtain ⟨h1, h2, h4⟩ := h
  have hn : su S f i v 41 0 = S 41 0 := by rw [su_r, if_neg (fun q => hf q.1.symm)]
  refine ⟨RelM_set h1 hi hx, h2, fun j hj => ?_⟩
  rw [hn] at hj
  refine ML_keep (h4 j hj) (fun k j' a b => ?_)
  rw [si_r, if_neg]
  intro q
  exact locM_land i f hi (by rw [← q.1]; omega) (by rw [← q.1]; omega)
theorem si_e {m : Mm} {k i : Nat} {x : Int32} {a j : Nat} (h : a = k) (h' : j = i) : (si m k i x).1 a j = x := by rw [si_r, if_pos ⟨h, h'⟩]
theorem si_ne {m : Mm} {k i : Nat} {x : Int32} {a j : Nat} (h : a ≠ k) : (si m k i x).1 a j = m.1 a j := by rw [si_r, if_neg (fun q => h q.1)]
theorem si_nj {m : Mm} {k i : Nat} {x : Int32} {a j : Nat} (h : j ≠ i) : (si m k i x).1 a j = m.1 a j := by rw [si_r, if_neg (fun q => h q.2)]
theorem su_e {S : Sn} {f i v a b : Nat} (h : a = f) (h' : b = i) : su S f i v a b = v := by rw [su_r, if_pos ⟨h, h'⟩]
theorem su_ne {S : Sn} {f i v a b : Nat} (h : a ≠ f) : su S f i v a b = S a b := by rw [su_r, if_neg (fun q => h q.1)]
theorem su_nj {S : Sn} {f i v a b : Nat} (h : b ≠ i) : su S f i v a b = S a b := by rw [su_r, if_neg (fun q => h q.2)]
theorem StM_id {m : Mm} {S : Sn} {ld : Nat → List Cl} {it : Nat → Nat → Int64} {f i : Nat} {x : Int32} (h : StM m S ld it) (hi : i < lenM f) (hf : f ≠ 41) (hx : x = vS f (S f i)) : StM (si m (locM f i).1 (locM f i).2 x) S ld it := by
  have h1 := StM_set (v := S f i) h hi hf hx
  rwa [su_same rfl] at h1
theorem StC_id {m : Mm} {S : Sn} {ld : Nat → List Cl} {it : Nat → Nat → Int64} {f i : Nat} {x : Int32} (h : StC m S ld it) (h6 : S 41 0 ≤ 6) (hi : i < lenC f) (hf : f ≠ 41) (hx : x = vS f (S f i)) : StC (si m (locC f i).1 (locC f i).2 x) S ld it := by
  have h1 := StC_set (v := S f i) h h6 hi hf hx
  rwa [su_same rfl] at h1
theorem Wf_up {S S' : Sn} (hW : Wf S) (h0 : WfW S' 0 (S 41 0)) (h : ∀ f, 13 ≤ f → S' f = S f) : Wf S' := by
  obtain ⟨a0, a⟩ := hW
  unfold Wf
  rw [h 41 (by omega)]
  refine ⟨h0, ?_⟩
  unfold WfW at a ⊢
  simp (disch := omega) only [h]
  exact a
