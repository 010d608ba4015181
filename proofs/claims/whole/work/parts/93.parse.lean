-- ===== reading a land: what is read =====
def chr (S : Sn) (i : Nat) : Nat := if i < S 43 0 then S 42 i else 255
abbrev Rs : Type := Nat ⊕ (Nat × List Nat)
def isD (c : Nat) : Bool := decide (48 ≤ c ∧ c ≤ 57)
def num (S : Sn) (i : Nat) : Option (Nat × Nat) :=
  if isD (chr S i) = true then (if isD (chr S (i + 1)) = true then some (10 * (chr S i - 48) + (chr S (i + 1) - 48), i + 2) else some (chr S i - 48, i + 1)) else none
def ltr (c : Nat) : Option Nat := if c = 112 then some 0 else if c = 107 then some 1 else if c = 118 then some 2 else if c = 99 then some 3 else if c = 110 then some 4 else if c = 114 then some 5 else none
def tst (S : Sn) (i : Nat) : Rs := match ltr (chr S i) with
  | none => .inl i
  | some l => if 60 ≤ chr S (i + 1) ∧ chr S (i + 1) ≤ 62 then (match num S (i + 2) with
    | none => .inl (i + 2)
    | some q => .inr (q.2, [l * 300 + (chr S (i + 1) - 60) * 100 + q.1 + 3])) else .inl (i + 1)
def pA (a : Bool) : List Nat := if a = true then [1] else []
def pO (o : Bool) : List Nat := if o = true then [2] else []
def pre (l : List Nat) : Rs → Rs
  | .inl a => .inl a
  | .inr (a, l2) => .inr (a, l ++ l2)
def eloop (S : Sn) (pt : Nat → Rs) : Nat → Bool → Bool → Nat → Rs
  | 0, _, _, i => .inl i
  | k + 1, a, o, i => match pt i with
    | .inl e => .inl e
    | .inr (j, l) => if chr S j = 38 then pre (l ++ pA a) (eloop S pt k true o (j + 1)) else if chr S j = 124 then pre (l ++ pA a ++ pO o) (eloop S pt k false true (j + 1)) else .inr (j, l ++ pA a ++ pO o)
def prt (S : Sn) : Nat → Nat → Rs
  | 0, i => if chr S i = 33 ∨ chr S i = 40 then .inl i else tst S i
  | h + 1, i => if chr S i = 40 then (match eloop S (prt S h) 100 false false (i + 1) with
      | .inl e => .inl e
      | .inr (j, l) => if chr S j = 41 then .inr (j + 1, l) else .inl j)
    else if chr S i = 33 then (match prt S h (i + 1) with
      | .inl e => .inl e
      | .inr (j, l) => .inr (j, l ++ [0]))
    else tst S i
def wrd (S : Sn) : List Nat → Nat → Nat ⊕ Nat
  | [], i => .inr i
  | c :: w, i => if chr S i = c then wrd S w (i + 1) else .inl i
def wds (s : Nat) : List Nat := if s = 0 then [103, 114, 101, 97, 116, 32] else if s = 1 then [102, 97, 114, 32] else [97, 114, 109, 115, 32]
def cls (S : Sn) (i : Nat) (s : Nat) : Nat ⊕ (Nat × Cl) := match wrd S (wds s) i with
  | .inl e => .inl e
  | .inr j => match num S j with
    | none => .inl j
    | some q => if s = 2 then .inr (q.2, (2, q.1, [])) else if chr S q.2 = 32 then (match eloop S (prt S 4) 100 false false (q.2 + 1) with
      | .inl e => .inl e
      | .inr (k, l) => .inr (k, (s, q.1, l))) else .inl q.2
def srt (c : Nat) : Option Nat := if c = 103 then some 0 else if c = 102 then some 1 else if c = 97 then some 2 else none
def cla (S : Sn) (i : Nat) : Nat ⊕ (Nat × Cl) := match srt (chr S i) with
  | none => .inl i
  | some s => cls S i s
def txt (S : Sn) : Nat → Nat → Nat ⊕ List Cl
  | 0, i => .inl i
  | k + 1, i => match cla S i with
    | .inl e => .inl e
    | .inr (j, c) => if j = S 43 0 then .inr [c] else if k = 0 then .inl j else if chr S j = 59 then (match txt S k (j + 1) with
      | .inl e => .inl e
      | .inr L => .inr (c :: L)) else .inl j
-- bounds
theorem chr_lt {S : Sn} {i : Nat} (h : chr S i ≠ 255) : i < S 43 0 := by
  unfold chr at h
  split at h
  · assumption
  · exact absurd rfl h
theorem chr_le (S : Sn) (hW : Wf S) (i : Nat) : chr S i = 255 ∨ chr S i < 128 := by
  have b := Wf_43 hW
  unfold chr
  split
  · exact Or.inr (Wf_42 hW (by omega))
  · exact Or.inl rfl
theorem isD_lt {S : Sn} {i : Nat} (h : isD (chr S i) = true) : i < S 43 0 ∧ 48 ≤ chr S i ∧ chr S i ≤ 57 := by
  have h1 := of_decide_eq_true h
  exact ⟨chr_lt (by omega), h1⟩
theorem num_bd {S : Sn} {i : Nat} {q : Nat × Nat} (h : num S i = some q) : i < q.2 ∧ q.2 ≤ S 43 0 ∧ q.1 ≤ 99 := by
  unfold num at h
  split at h
  · rename_i e1
    have h1 := isD_lt e1
    split at h
    · rename_i e2
      have h2 := isD_lt e2
      cases h
      dsimp only
      omega
    · cases h
      dsimp only
      omega
  · cases h
theorem ltr_lt {c l : Nat} (h : ltr c = some l) : l ≤ 5 ∧ c ≠ 255 := by
  unfold ltr at h
  repeat' split at h
  all_goals first
    | (cases h; omega)
    | (cases h; done)
/-- how far a reading goes, and how many codes it gives -/
def bdR (S : Sn) (i e : Nat) : Rs → Prop
  | .inl a => i ≤ a ∧ a ≤ S 43 0
  | .inr (j, l) => i < j ∧ j ≤ S 43 0 ∧ l.length + i ≤ j + e
theorem tst_bd {S : Sn} {i : Nat} (hi : i ≤ S 43 0) : bdR S i 0 (tst S i) := by
  unfold tst
  match h1 : ltr (chr S i) with
  | none => exact ⟨Nat.le_refl _, hi⟩
  | some l =>
    have g1 := chr_lt (ltr_lt h1).2
    dsimp only
    by_cases e : 60 ≤ chr S (i + 1) ∧ chr S (i + 1) ≤ 62
    · have g2 := chr_lt (S := S) (i := i + 1) (by omega)
      rw [if_pos e]
      match h2 : num S (i + 2) with
      | none => exact ⟨by omega, by omega⟩
      | some q =>
        have g3 := num_bd h2
        exact ⟨by omega, by omega, by show 1 + i ≤ q.2 + 0; omega⟩
    · rw [if_neg e]
      exact ⟨by omega, by omega⟩
def onB (a : Bool) : Nat := if a = true then 1 else 0
theorem pA_len (a : Bool) : (pA a).length = onB a := by cases a <;> rfl
theorem pO_len (a : Bool) : (pO a).length = onB a := by cases a <;> rfl
theorem eloop_bd {S : Sn} {pt : Nat → Rs} (hpt : ∀ i, i ≤ S 43 0 → bdR S i 0 (pt i)) : ∀ k a o i, i ≤ S 43 0 → bdR S i (onB a + onB o) (eloop S pt k a o i)
  | 0, a, o, i, hi => ⟨Nat.le_refl _, hi⟩
  | k + 1, a, o, i, hi => by
    have h := hpt i hi
    unfold eloop
    match hh : pt i with
    | .inl e =>
      rw [hh] at h
      exact h
    | .inr (j, l) =>
      rw [hh] at h
      obtain ⟨h1, h2, h3⟩ := h
      dsimp only
      have la := pA_len a
      have lo := pO_len o
      by_cases e1 : chr S j = 38
      · have g1 := chr_lt (S := S) (i := j) (by omega)
        have ih := eloop_bd hpt k true o (j + 1) (by omega)
        rw [if_pos e1]
        match h5 : eloop S pt k true o (j + 1) with
        | .inl e =>
          rw [h5] at ih
          exact ⟨by have := ih.1; omega, ih.2⟩
        | .inr (j2, l2) =>
          rw [h5] at ih
          obtain ⟨i1, i2, i3⟩ := ih
          refine ⟨by omega, i2, ?_⟩
          rw [List.length_append, List.length_append, la]
          have : onB true = 1 := rfl
          omega
      rw [if_neg e1]
      by_cases e2 : chr S j = 124
      · have g1 := chr_lt (S := S) (i := j) (by omega)
        have ih := eloop_bd hpt k false true (j + 1) (by omega)
        rw [if_pos e2]
        match h5 : eloop S pt k false true (j + 1) with
        | .inl e =>
          rw [h5] at ih
          exact ⟨by have := ih.1; omega, ih.2⟩
        | .inr (j2, l2) =>
          rw [h5] at ih
          obtain ⟨i1, i2, i3⟩ := ih
          refine ⟨by omega, i2, ?_⟩
          rw [List.length_append, List.length_append, List.length_append, la, lo]
          have : onB true = 1 := rfl
          have : onB false = 0 := rfl
          omega
      rw [if_neg e2]
      refine ⟨h1, h2, ?_⟩
      rw [List.length_append, List.length_append, la, lo]
      omega
theorem prt_bd {S : Sn} : ∀ h i, i ≤ S 43 0 → bdR S i 0 (prt S h i)
  | 0, i, hi => by
    unfold prt
    split
    · exact ⟨Nat.le_refl _, hi⟩
    · exact tst_bd hi
  | h + 1, i, hi => by
    unfold prt
    by_cases e1 : chr S i = 40
    · have g1 := chr_lt (S := S) (i := i) (by omega)
      have ih := eloop_bd (S := S) (pt := prt S h) (fun i hi => prt_bd h i hi) 100 false false (i + 1) (by omega)
      rw [if_pos e1]
      match hh : eloop S (prt S h) 100 false false (i + 1) with
      | .inl e =>
        rw [hh] at ih
        exact ⟨by have := ih.1; omega, ih.2⟩
      | .inr (j, l) =>
        rw [hh] at ih
        obtain ⟨i1, i2, i3⟩ := ih
        dsimp only
        have : onB false = 0 := rfl
        by_cases e2 : chr S j = 41
        · have g2 := chr_lt (S := S) (i := j) (by omega)
          rw [if_pos e2]
          exact ⟨by omega, by omega, by omega⟩
        · rw [if_neg e2]
          exact ⟨by omega, by omega⟩
    rw [if_neg e1]
    by_cases e2 : chr S i = 33
    · have g1 := chr_lt (S := S) (i := i) (by omega)
      have ih := prt_bd (S := S) h (i + 1) (by omega)
      rw [if_pos e2]
      match hh : prt S h (i + 1) with
      | .inl e =>
        rw [hh] at ih
        exact ⟨by have := ih.1; omega, ih.2⟩
      | .inr (j, l) =>
        rw [hh] at ih
        obtain ⟨i1, i2, i3⟩ := ih
        refine ⟨by omega, i2, ?_⟩
        rw [List.length_append]
        show l.length + 1 + i ≤ j + 0
        omega
    · rw [if_neg e2]
      exact tst_bd hi
-- the codes make one truth
theorem dep_A {d : Nat} (hd : 1 ≤ d) (a : Bool) (r : List Nat) : dep (pA a ++ r) (d + onB a) = dep r d := by
  cases a with
  | false => rfl
  | true =>
    show (if 2 ≤ d + 1 then dep r (d + 1 - 1) else none) = dep r d
    rw [if_pos (by omega)]
    rfl
theorem dep_O {d : Nat} (hd : 1 ≤ d) (a : Bool) (r : List Nat) : dep (pO a ++ r) (d + onB a) = dep r d := by
  cases a with
  | false => rfl
  | true =>
    show (if 2 ≤ d + 1 then dep r (d + 1 - 1) else none) = dep r d
    rw [if_pos (by omega)]
    rfl
def depR (d : Nat) (r : List Nat) (p : Nat) : Rs → Prop
  | .inl _ => True
  | .inr (_, l) => dep (l ++ r) (d + p) = dep r (d + 1)
theorem tst_dep {S : Sn} {i d : Nat} {r : List Nat} (hd : d < 20) : depR d r 0 (tst S i) := by
  unfold tst
  match h1 : ltr (chr S i) with
  | none => trivial
  | some l =>
    have g1 := (ltr_lt h1).1
    dsimp only
    by_cases e : 60 ≤ chr S (i + 1) ∧ chr S (i + 1) ≤ 62
    · rw [if_pos e]
      match h2 : num S (i + 2) with
      | none => trivial
      | some q =>
        have g3 := num_bd h2
        show (if l * 300 + (chr S (i + 1) - 60) * 100 + q.1 < 1800 ∧ d < 20 then dep r (d + 1) else none) = dep r (d + 1)
        rw [if_pos ⟨by omega, hd⟩]
    · rw [if_neg e]
      trivial
theorem onB_le (a : Bool) : onB a ≤ 1 := by cases a <;> decide
theorem eloop_dep {S : Sn} {pt : Nat → Rs} {c : Nat} (hpt : ∀ i d r, d < c → depR d r 0 (pt i)) : ∀ k a o i d r, d + 2 < c → depR d r (onB a + onB o) (eloop S pt k a o i)
  | 0, a, o, i, d, r, hd => trivial
  | k + 1, a, o, i, d, r, hd => by
    have ba := onB_le a
    have bo := onB_le o
    unfold eloop
    match hh : pt i with
    | .inl e => trivial
    | .inr (j, l) =>
      dsimp only
      by_cases e1 : chr S j = 38
      · rw [if_pos e1]
        have ih := eloop_dep (S := S) hpt k true o (j + 1) d r hd
        match h5 : eloop S pt k true o (j + 1) with
        | .inl e => trivial
        | .inr (j2, l2) =>
          rw [h5] at ih
          have h := hpt i (d + (onB a + onB o)) (pA a ++ (l2 ++ r)) (by omega)
          rw [hh] at h
          have h' : dep (l ++ (pA a ++ (l2 ++ r))) (d + (onB a + onB o) + 0) = dep (pA a ++ (l2 ++ r)) (d + (onB a + onB o) + 1) := h
          show dep (l ++ pA a ++ l2 ++ r) (d + (onB a + onB o)) = dep r (d + 1)
          have ih' : dep (l2 ++ r) (d + (onB true + onB o)) = dep r (d + 1) := ih
          rw [Nat.add_zero] at h'
          rw [List.append_assoc, List.append_assoc, h', show d + (onB a + onB o) + 1 = d + (onB true + onB o) + onB a by have : onB true = 1 := rfl; omega, dep_A (by have : onB true = 1 := rfl; omega), ih']
      rw [if_neg e1]
      by_cases e2 : chr S j = 124
      · rw [if_pos e2]
        have ih := eloop_dep (S := S) hpt k false true (j + 1) d r hd
        match h5 : eloop S pt k false true (j + 1) with
        | .inl e => trivial
        | .inr (j2, l2) =>
          rw [h5] at ih
          have h := hpt i (d + (onB a + onB o)) (pA a ++ (pO o ++ (l2 ++ r))) (by omega)
          rw [hh] at h
          have h' : dep (l ++ (pA a ++ (pO o ++ (l2 ++ r)))) (d + (onB a + onB o) + 0) = dep (pA a ++ (pO o ++ (l2 ++ r))) (d + (onB a + onB o) + 1) := h
          show dep (l ++ pA a ++ pO o ++ l2 ++ r) (d + (onB a + onB o)) = dep r (d + 1)
          have ih' : dep (l2 ++ r) (d + (onB false + onB true)) = dep r (d + 1) := ih
          have t1 : onB true = 1 := rfl
          have t0 : onB false = 0 := rfl
          rw [Nat.add_zero] at h'
          rw [List.append_assoc, List.append_assoc, List.append_assoc, h', show d + (onB a + onB o) + 1 = d + 1 + onB o + onB a by omega, dep_A (by omega), dep_O (by omega), show d + 1 = d + (onB false + onB true) by omega, ih', t1, t0]
      rw [if_neg e2]
      have h := hpt i (d + (onB a + onB o)) (pA a ++ (pO o ++ r)) (by omega)
      rw [hh] at h
      have h' : dep (l ++ (pA a ++ (pO o ++ r))) (d + (onB a + onB o) + 0) = dep (pA a ++ (pO o ++ r)) (d + (onB a + onB o) + 1) := h
      show dep (l ++ pA a ++ pO o ++ r) (d + (onB a + onB o)) = dep r (d + 1)
      rw [Nat.add_zero] at h'
      rw [List.append_assoc, List.append_assoc, h', show d + (onB a + onB o) + 1 = d + 1 + onB o + onB a by omega, dep_A (by omega), dep_O (by omega)]
theorem prt_dep {S : Sn} : ∀ h i d r, d < 20 - 2 * h → depR d r 0 (prt S h i)
  | 0, i, d, r, hd => by
    unfold prt
    split
    · trivial
    · exact tst_dep (by omega)
  | h + 1, i, d, r, hd => by
    unfold prt
    by_cases e1 : chr S i = 40
    · have ih := eloop_dep (S := S) (pt := prt S h) (c := 20 - 2 * h) (fun i d r hd => prt_dep h i d r hd) 100 false false (i + 1) d r (by omega)
      rw [if_pos e1]
      match hh : eloop S (prt S h) 100 false false (i + 1) with
      | .inl e => trivial
      | .inr (j, l) =>
        rw [hh] at ih
        dsimp only
        by_cases e2 : chr S j = 41
        · rw [if_pos e2]
          exact ih
        · rw [if_neg e2]
          trivial
    rw [if_neg e1]
    by_cases e2 : chr S i = 33
    · have ih := prt_dep (S := S) h (i + 1) d (0 :: r) (by omega)
      rw [if_pos e2]
      match hh : prt S h (i + 1) with
      | .inl e => trivial
      | .inr (j, l) =>
        rw [hh] at ih
        have ih' : dep (l ++ 0 :: r) (d + 0) = dep (0 :: r) (d + 1) := ih
        show dep (l ++ [0] ++ r) (d + 0) = dep r (d + 1)
        rw [List.append_assoc]
        show dep (l ++ 0 :: r) (d + 0) = dep r (d + 1)
        rw [ih']
        show (if 1 ≤ d + 1 then dep r (d + 1) else none) = dep r (d + 1)
        rw [if_pos (by omega)]
    · rw [if_neg e2]
      exact tst_dep (by omega)
theorem E_dep {S : Sn} {i j : Nat} {l : List Nat} (h : eloop S (prt S 4) 100 false false i = .inr (j, l)) : dep l 0 = some 1 := by
  have h1 := eloop_dep (S := S) (pt := prt S 4) (c := 12) (fun i d r hd => prt_dep 4 i d r (by omega)) 100 false false i 0 [] (by omega)
  rw [h] at h1
  have h2 : dep (l ++ []) 0 = dep [] 1 := h1
  rw [List.append_nil] at h2
  exact h2
theorem wrd_bd {S : Sn} : ∀ (w : List Nat) i, i ≤ S 43 0 → (∀ c ∈ w, c ≠ 255) → match wrd S w i with
    | .inl e => i ≤ e ∧ e ≤ S 43 0
    | .inr j => j = i + w.length ∧ j ≤ S 43 0
  | [], i, hi, _ => ⟨rfl, hi⟩
  | c :: w, i, hi, hc => by
    unfold wrd
    by_cases e : chr S i = c
    · have g1 := chr_lt (S := S) (i := i) (by rw [e]; exact hc c List.mem_cons_self)
      rw [if_pos e]
      have ih := wrd_bd (S := S) w (i + 1) (by omega) (fun c h => hc c (List.mem_cons_of_mem _ h))
      match hh : wrd S w (i + 1) with
      | .inl e2 =>
        rw [hh] at ih
        exact ⟨by have := ih.1; omega, ih.2⟩
      | .inr j =>
        rw [hh] at ih
        exact ⟨by rw [List.length_cons]; have := ih.1; omega, ih.2⟩
    · rw [if_neg e]
      exact ⟨Nat.le_refl _, hi⟩
def clOk (c : Cl) : Prop := c.1 ≤ 2 ∧ c.2.1 ≤ 99 ∧ (c.1 = 2 → c.2.2 = []) ∧ (c.1 ≠ 2 → dep c.2.2 0 = some 1)
def bdC (S : Sn) (i : Nat) : Nat ⊕ (Nat × Cl) → Prop
  | .inl a => i ≤ a ∧ a ≤ S 43 0
  | .inr (j, c) => i < j ∧ j ≤ S 43 0 ∧ c.2.2.length + i ≤ j ∧ clOk c
theorem cls_bd {S : Sn} {i s : Nat} (hi : i ≤ S 43 0) (hs : s ≤ 2) : bdC S i (cls S i s) := by
  have hw := wrd_bd (S := S) (wds s) i hi (by
    have h : s = 0 ∨ s = 1 ∨ s = 2 := by omega
    rcases h with rfl | rfl | rfl <;> decide)
  unfold cls
  match h1 : wrd S (wds s) i with
  | .inl e =>
    rw [h1] at hw
    exact hw
  | .inr j =>
    rw [h1] at hw
    dsimp only
    match h2 : num S j with
    | none => exact ⟨by omega, by omega⟩
    | some q =>
      have g := num_bd h2
      dsimp only
      by_cases e : s = 2
      · rw [if_pos e]
        exact ⟨by omega, by omega, by show 0 + i ≤ q.2; omega, by show (2 : Nat) ≤ 2; omega, g.2.2, fun _ => rfl, fun q => absurd rfl q⟩
      rw [if_neg e]
      by_cases e2 : chr S q.2 = 32
      · have g2 := chr_lt (S := S) (i := q.2) (by omega)
        rw [if_pos e2]
        have hb := eloop_bd (S := S) (pt := prt S 4) (fun i hi => prt_bd 4 i hi) 100 false false (q.2 + 1) (by omega)
        match h3 : eloop S (prt S 4) 100 false false (q.2 + 1) with
        | .inl e3 =>
          rw [h3] at hb
          exact ⟨by have := hb.1; omega, hb.2⟩
        | .inr (k, l) =>
          rw [h3] at hb
          obtain ⟨x1, x2, x3⟩ := hb
          have : onB false = 0 := rfl
          exact ⟨by omega, x2, by show l.length + i ≤ k; omega, hs, g.2.2, fun q => absurd q e, fun _ => E_dep h3⟩
      · rw [if_neg e2]
        exact ⟨by omega, by omega⟩
theorem srt_le {c s : Nat} (h : srt c = some s) : s ≤ 2 := by
  unfold srt at h
  repeat' split at h
  all_goals first
    | (cases h; omega)
    | (cases h; done)
theorem cla_bd {S : Sn} {i : Nat} (hi : i ≤ S 43 0) : bdC S i (cla S i) := by
  unfold cla
  match h : srt (chr S i) with
  | none => exact ⟨Nat.le_refl _, hi⟩
  | some s => exact cls_bd hi (srt_le h)
def bdT (S : Sn) (k i : Nat) : Nat ⊕ List Cl → Prop
  | .inl a => a ≤ S 43 0
  | .inr L => L.length ≤ k ∧ startOf L L.length + i ≤ S 43 0 ∧ ∀ c ∈ L, clOk c
theorem startOf_cons (c : Cl) (L : List Cl) (k : Nat) : startOf (c :: L) (k + 1) = c.2.2.length + startOf L k := by
  unfold startOf
  rw [List.take_succ_cons, List.map_cons, List.sum_cons]
theorem txt_bd {S : Sn} : ∀ k i, i ≤ S 43 0 → bdT S k i (txt S k i)
  | 0, i, hi => hi
  | k + 1, i, hi => by
    have hc := cla_bd hi
    unfold txt
    match h1 : cla S i with
    | .inl e =>
      rw [h1] at hc
      exact hc.2
    | .inr (j, c) =>
      rw [h1] at hc
      obtain ⟨x1, x2, x3, x4⟩ := hc
      dsimp only
      by_cases e1 : j = S 43 0
      · rw [if_pos e1]
        refine ⟨by show 1 ≤ k + 1; omega, ?_, fun c' hc' => ?_⟩
        · show startOf [c] (0 + 1) + i ≤ S 43 0
          rw [startOf_cons]
          show c.2.2.length + 0 + i ≤ S 43 0
          omega
        · rw [List.mem_singleton] at hc'
          rw [hc']
          exact x4
      rw [if_neg e1]
      by_cases e2 : k = 0
      · rw [if_pos e2]
        exact x2
      rw [if_neg e2]
      by_cases e3 : chr S j = 59
      · have g1 := chr_lt (S := S) (i := j) (by omega)
        rw [if_pos e3]
        have ih := txt_bd (S := S) k (j + 1) (by omega)
        match h2 : txt S k (j + 1) with
        | .inl e =>
          rw [h2] at ih
          exact ih
        | .inr L =>
          rw [h2] at ih
          obtain ⟨y1, y2, y3⟩ := ih
          refine ⟨by show L.length + 1 ≤ k + 1; omega, ?_, fun c' hc' => ?_⟩
          · show startOf (c :: L) (L.length + 1) + i ≤ S 43 0
            rw [startOf_cons]
            omega
          · rcases List.mem_cons.mp hc' with rfl | h
            · exact x4
            · exact y3 c' h
      · rw [if_neg e3]
        exact x2
