-- ===== the truth of an E =====
def roadN (S : Sn) (p : Nat) : Nat := bitsN (fun o => decide (0 < S 4 (7 * p + o))) (S 0 0)
def factN (S : Sn) (p k : Nat) : Nat := if k = 0 then p else if k = 1 then S 1 p else if k = 2 then S 2 p else if k = 3 then S 3 p / 10 else if k = 4 then onesN (S 5 p) else onesN (roadN S p)
theorem roadN_lt {S : Sn} (hW : Wf S) (p : Nat) : roadN S p < 128 := bitsN_lt _ _ (Wf_0 hW)
theorem factN_le {S : Sn} (hW : Wf S) {p k : Nat} (hp : p < 7) : factN S p k ≤ 9 := by
  have h1 := Wf_1 hW hp
  have h2 := Wf_2 hW hp
  have h3 := Wf_3 hW hp
  have h4 := onesN_le (S 5 p)
  have h5 := onesN_le (roadN S p)
  unfold factN
  repeat' split
  all_goals omega
def tstB (S : Sn) (p t : Nat) : Bool := if t / 100 % 3 = 0 then decide (factN S p (t / 300) < t % 100) else if t / 100 % 3 = 1 then decide (factN S p (t / 300) = t % 100) else decide (t % 100 < factN S p (t / 300))
def stk (S : Sn) (p : Nat) : Nat → List Bool → List Bool
  | 0, b :: s => (!b) :: s
  | 1, b :: a :: s => (a && b) :: s
  | 2, b :: a :: s => (a || b) :: s
  | c + 3, s => tstB S p c :: s
  | _, s => s
def evS (S : Sn) (p : Nat) : List Nat → List Bool → List Bool
  | [], s => s
  | c :: l, s => evS S p l (stk S p c s)
def vlB : List Bool → Nat
  | [] => 0
  | b :: s => 2 * vlB s + (if b = true then 1 else 0)
theorem vlB_lt : ∀ s : List Bool, vlB s < 2 ^ s.length
  | [] => by decide
  | b :: s => by
    have ih := vlB_lt s
    show 2 * vlB s + (if b = true then 1 else 0) < 2 ^ (s.length + 1)
    rw [Nat.pow_succ]
    split <;> omega
theorem p20 {k : Nat} (h : k ≤ 20) : 2 ^ k ≤ 2 ^ 20 := Nat.pow_le_pow_right (by omega) h
theorem b01 (b : Bool) : (if b = true then 1 else 0) < 2 := by cases b <;> decide
theorem roads_c {m : Mm} {S : Sn} (h : WC m S) (hW : Wf S) {p : Nat} (hp : p < 7) : Wo_roadsOf 11 m (nI p) = some (nI (roadN S p)) := by
  have b0 := Wf_0 hW
  unfold Wo_roadsOf
  have h1 := iter_all (step := Wo_roadsOf_l4 11 m (nI p)) (fun k => (nI (bitsN (fun o => decide (0 < S 4 (7 * p + o))) k), nI k)) (S 0 0) (r := nI (roadN S p))
    (fun k hk => by
      have q1 := w4 h (i := 7 * p + k) (by omega)
      have q2 := Wf_4 hW hp (show k < 7 by omega)
      unfold Wo_roadsOf_l4
      show (if m.1 11 0 ≤ nI k then _ else _) = some (Sum.inl (nI (if decide (0 < S 4 (7 * p + k)) = true then bitsN (fun o => decide (0 < S 4 (7 * p + o))) k ||| 2 ^ k else bitsN (fun o => decide (0 < S 4 (7 * p + o))) k), nI (k + 1)))
      dsimp only
      rw [w0 h, if_neg (by rw [n_le (by omega) (by omega)]; omega), NB_index_n (7 * p + k) (by omega), ga_n (by omega) (by omega), n_cl (by omega), q1]
      by_cases e : 0 < S 4 (7 * p + k)
      · rw [if_neg (by rw [i_0]; exact (by rw [n_le (by omega) (by omega)]; omega)), decide_eq_true e, if_pos rfl, or_n (bitsN_lt _ k (by omega)) (by omega), i_1, n_add]
      · rw [if_pos (by rw [i_0]; exact (by rw [n_le (by omega) (by omega)]; omega)), decide_eq_false e, if_neg (by decide), i_1, n_add])
    (by
      unfold Wo_roadsOf_l4
      dsimp only
      rw [w0 h, if_pos (by rw [n_le (by omega) (by omega)]; omega)]
      rfl)
  rw [show iter (Wo_roadsOf_l4 11 m (nI p)) (0, 0) = _ from h1]
  rfl
theorem roads_m {m : Mm} {S : Sn} (h : WM m S) (hW : Wf S) {p : Nat} (hp : p < 7) : Mo_roadsOf m (nI p) = some (nI (roadN S p)) := by
  have b0 := Wf_0 hW
  unfold Mo_roadsOf
  have h1 := iter_all (step := Mo_roadsOf_l4 m (nI p)) (fun k => (nI (bitsN (fun o => decide (0 < S 4 (7 * p + o))) k), nI k)) (S 0 0) (r := nI (roadN S p))
    (fun k hk => by
      have q1 := r4 h (i := 7 * p + k) (by omega)
      have q2 := Wf_4 hW hp (show k < 7 by omega)
      unfold Mo_roadsOf_l4
      show (if m.1 0 0 ≤ nI k then _ else _) = some (Sum.inl (nI (if decide (0 < S 4 (7 * p + k)) = true then bitsN (fun o => decide (0 < S 4 (7 * p + o))) k ||| 2 ^ k else bitsN (fun o => decide (0 < S 4 (7 * p + o))) k), nI (k + 1)))
      dsimp only
      rw [r0 h, if_neg (by rw [n_le (by omega) (by omega)]; omega), i_7, n_mul, n_add, ga_n (by omega) (by omega), n_cl (by omega), q1]
      by_cases e : 0 < S 4 (7 * p + k)
      · rw [if_neg (by rw [i_0]; exact (by rw [n_le (by omega) (by omega)]; omega)), decide_eq_true e, if_pos rfl, or_n (bitsN_lt _ k (by omega)) (by omega), i_1, n_add]
      · rw [if_pos (by rw [i_0]; exact (by rw [n_le (by omega) (by omega)]; omega)), decide_eq_false e, if_neg (by decide), i_1, n_add, Int32.or_zero])
    (by
      unfold Mo_roadsOf_l4
      dsimp only
      rw [r0 h, if_pos (by rw [n_le (by omega) (by omega)]; omega)]
      rfl)
  rw [show iter (Mo_roadsOf_l4 m (nI p)) (0, 0) = _ from h1]
  rfl
theorem fact_m {m : Mm} {S : Sn} (h : WM m S) (hW : Wf S) {p k : Nat} (hp : p < 7) (hk : k < 6) : Mo_factOf m (nI k) (nI p) = some (nI (factN S p k)) := by
  have b3 := Wf_3 hW hp
  unfold Mo_factOf factN
  simp (disch := omega) only [i_0, i_1, i_2, i_3, i_4, i_10, n_eq, ga_n, n_cl]
  rw [r1 h hp, r2 h hp, r3 h hp, r5 h hp, ones_n (Wf_5 hW hp), roads_m h hW hp]
  dsimp only [Option.bind_some]
  rw [ones_n (roadN_lt hW p), pk_div (by omega) (by omega) (by omega)]
  dsimp only [Option.bind_some]
  repeat' split
  all_goals rfl
/-- the facts that the class tells -/
def FT (m : Mm) (S : Sn) (p : Nat) : Prop := ∀ k, k < 6 → m.1 2 k = nI (factN S p k)
theorem facts_c {m : Mm} {S : Sn} (h : WC m S) (hW : Wf S) {p : Nat} (hp : p < 7) : ∃ m', Wo_tellFacts 11 m (nI p) 2 = some m' ∧ fr pF m m' ∧ FT m' S p := by
  have b3 := Wf_3 hW hp
  unfold Wo_tellFacts
  simp (disch := omega) only [i_0, i_1, i_2, i_3, i_4, i_5, i_10, ga_n, n_cl, si_ne]
  rw [w1 h hp, w2 h hp, w3 h hp, w5 h hp, bc_n (Wf_5 hW hp), pk_div (by omega) (by omega) (by omega), roads_c (WC_keep h (fun k i a b => by simp (disch := omega) only [si_ne])) hW hp]
  dsimp only [Option.bind_some]
  rw [bc_n (roadN_lt hW p)]
  refine ⟨_, rfl, ?_, ?_⟩
  · exact fr_si _ (fr_si _ (fr_si _ (fr_si _ (fr_si _ (fr_si _ (fr_rf _ _) rfl) rfl) rfl) rfl) rfl) rfl
  · intro k hk
    simp only [si_r, true_and]
    unfold factN
    have hc : k = 0 ∨ k = 1 ∨ k = 2 ∨ k = 3 ∨ k = 4 ∨ k = 5 := by omega
    rcases hc with rfl | rfl | rfl | rfl | rfl | rfl <;> rfl
theorem pass_c {m : Mm} {S : Sn} {p t : Nat} (hF : FT m S p) (hW : Wf S) (hp : p < 7) (ht : t < 1800) : La_passes m (nI t) 2 = some (tstB S p t) := by
  have hf := factN_le hW (k := t / 300) hp
  have e1 : t - t / 100 * 100 = t % 100 := by omega
  have e2 : t / 100 - t / 100 / 3 * 3 = t / 100 % 3 := by omega
  unfold La_passes tstB
  simp (disch := omega) only [i_0, i_1, i_3, i_100, i_300, pk_div, n_mul, n_sub, ga_n, n_cl, n_eq, e1, e2]
  rw [hF (t / 300) (by omega)]
  simp (disch := omega) only [n_eq, n_le]
  by_cases g0 : t / 100 % 3 = 0
  · rw [if_pos g0, if_pos g0]
    by_cases g : t % 100 ≤ factN S p (t / 300)
    · rw [if_pos g, decide_eq_false (by omega)]
    · rw [if_neg g, decide_eq_true (by omega)]
  rw [if_neg g0, if_neg g0]
  by_cases g1 : t / 100 % 3 = 1
  · rw [if_pos g1, if_pos g1]
    by_cases g : factN S p (t / 300) = t % 100
    · rw [if_pos g, decide_eq_true g]
    · rw [if_neg g, decide_eq_false g]
  rw [if_neg g1, if_neg g1]
  by_cases g : factN S p (t / 300) ≤ t % 100
  · rw [if_pos g, decide_eq_false (by omega)]
  · rw [if_neg g, decide_eq_true (by omega)]
theorem cne {c k : Nat} (hc : c < 2 ^ 31) (h0 : 0 < k) (hk : k < 2 ^ 30) : ¬ nI c = -nI k := fun h => cast (n_eqm hc h0 hk) h
theorem cne1 {c : Nat} (hc : c < 2 ^ 31) : ¬ nI c = -1 := cne (k := 1) hc (by decide) (by decide)
theorem cne2 {c : Nat} (hc : c < 2 ^ 31) : ¬ nI c = -2 := cne (k := 2) hc (by decide) (by decide)
theorem cne3 {c : Nat} (hc : c < 2 ^ 31) : ¬ nI c = -3 := cne (k := 3) hc (by decide) (by decide)
theorem cne33 {c : Nat} (hc : c < 2 ^ 31) : ¬ nI c = -33 := cne (k := 33) hc (by decide) (by decide)
theorem holds_c {m : Mm} {S : Sn} {p x e : Nat} (hF : FT m S p) (hW : Wf S) (hp : p < 7) (he : e ≤ 100) : ∀ (l : List Nat) (s : List Bool) (i : Nat), s.length ≤ 20 → dep l s.length = some 1 → (∀ j v, l[j]? = some v → m.1 (x + 1) (i + j) = cCode v) → i + l.length = e → iter (La_holds_l6 x m (nI e) 2) (nI (vlB s), nI i) = some (nI (vlB (evS S p l s))) := by
  intro l
  induction l with
  | nil =>
    intro s i hsl hd hc hi
    rw [List.length_nil] at hi
    rw [iter_inr (r := nI (vlB s))]
    · rfl
    · unfold La_holds_l6
      dsimp only
      rw [if_pos (by rw [n_le (by omega) (by omega)]; omega)]
  | cons c l ih =>
    intro s i hsl hd hc hi
    rw [List.length_cons] at hi
    have hc0 : m.1 (x + 1) i = cCode c := hc 0 c rfl
    have hcs : ∀ j v, l[j]? = some v → m.1 (x + 1) (i + 1 + j) = cCode v := fun j v hv => by
      rw [show i + 1 + j = i + (j + 1) by omega]
      exact hc (j + 1) v hv
    have key : ∀ s', s'.length ≤ 20 → dep l s'.length = some 1 → La_holds_l6 x m (nI e) 2 (nI (vlB s), nI i) = some (.inl (nI (vlB s'), nI (i + 1))) → s' = stk S p c s → iter (La_holds_l6 x m (nI e) 2) (nI (vlB s), nI i) = some (nI (vlB (evS S p (c :: l) s))) := by
      intro s' q0 q1 q2 q3
      rw [iter_inl q2, ih s' (i + 1) q0 q1 hcs (by omega), q3]
      rfl
    have hst : La_holds_l6 x m (nI e) 2 (nI (vlB s), nI i) = (if cCode c = (-1) then some (.inl (nI (vlB s) ^^^ 1, nI (i + 1))) else if cCode c = (-2) then some (.inl ((nI (vlB s) >>> (1 &&& 31)) &&& (nI (vlB s) ||| (-2)), nI (i + 1))) else if cCode c = (-3) then some (.inl ((nI (vlB s) >>> (1 &&& 31)) ||| (nI (vlB s) &&& 1), nI (i + 1))) else (La_passes m (cCode c) 2).bind fun r4 => if r4 = true then some (.inl ((nI (vlB s) <<< (1 &&& 31)) ||| 1, nI (i + 1))) else some (.inl ((nI (vlB s) <<< (1 &&& 31)) ||| 0, nI (i + 1)))) := by
      unfold La_holds_l6
      dsimp only
      rw [if_neg (by rw [n_le (by omega) (by omega)]; omega), ga_n (by omega) (by omega), n_cl (by omega), hc0, ← nI_succ]
    match c, s, hsl, hd, hst, key with
    | 0, s, hsl, hd, hst, key =>
      have hd' : (if 1 ≤ s.length then dep l s.length else none) = some 1 := hd
      by_cases g : 1 ≤ s.length
      case neg => rw [if_neg g] at hd'; cases hd'
      rw [if_pos g] at hd'
      match s, hsl, g, hd', hst, key with
      | b :: s, hsl, _, hd', hst, key =>
        refine key ((!b) :: s) hsl hd' ?_ rfl
        rw [hst, if_pos (show cCode 0 = -1 from rfl)]
        show some (Sum.inl (nI (2 * vlB s + (if b = true then 1 else 0)) ^^^ 1, nI (i + 1))) = some (Sum.inl (nI (2 * vlB s + (if (!b) = true then 1 else 0)), nI (i + 1)))
        rw [not_n (b01 b)]
        cases b <;> rfl
    | 1, s, hsl, hd, hst, key =>
      have hd' : (if 2 ≤ s.length then dep l (s.length - 1) else none) = some 1 := hd
      by_cases g : 2 ≤ s.length
      case neg => rw [if_neg g] at hd'; cases hd'
      rw [if_pos g] at hd'
      match s, hsl, g, hd', hst, key with
      | b :: a :: s, hsl, g, hd', hst, key =>
        have hb := vlB_lt s
        have hlen : s.length + 1 + 1 ≤ 20 := hsl
        have hp2 := p20 (k := s.length) (by omega)
        refine key ((a && b) :: s) (show s.length + 1 ≤ 20 by omega) hd' ?_ rfl
        rw [hst, if_neg (show ¬ cCode 1 = -1 by decide), if_pos (show cCode 1 = -2 from rfl)]
        show some (Sum.inl ((nI (2 * (2 * vlB s + (if a = true then 1 else 0)) + (if b = true then 1 else 0)) >>> (1 &&& 31)) &&& (nI (2 * (2 * vlB s + (if a = true then 1 else 0)) + (if b = true then 1 else 0)) ||| (-2)), nI (i + 1))) = some (Sum.inl (nI (2 * vlB s + (if (a && b) = true then 1 else 0)), nI (i + 1)))
        rw [and_n2 (b01 a) (b01 b) (by omega)]
        cases a <;> cases b <;> rfl
    | 2, s, hsl, hd, hst, key =>
      have hd' : (if 2 ≤ s.length then dep l (s.length - 1) else none) = some 1 := hd
      by_cases g : 2 ≤ s.length
      case neg => rw [if_neg g] at hd'; cases hd'
      rw [if_pos g] at hd'
      match s, hsl, g, hd', hst, key with
      | b :: a :: s, hsl, g, hd', hst, key =>
        have hb := vlB_lt s
        have hlen : s.length + 1 + 1 ≤ 20 := hsl
        have hp2 := p20 (k := s.length) (by omega)
        refine key ((a || b) :: s) (show s.length + 1 ≤ 20 by omega) hd' ?_ rfl
        rw [hst, if_neg (show ¬ cCode 2 = -1 by decide), if_neg (show ¬ cCode 2 = -2 by decide), if_pos (show cCode 2 = -3 from rfl)]
        show some (Sum.inl ((nI (2 * (2 * vlB s + (if a = true then 1 else 0)) + (if b = true then 1 else 0)) >>> (1 &&& 31)) ||| (nI (2 * (2 * vlB s + (if a = true then 1 else 0)) + (if b = true then 1 else 0)) &&& 1), nI (i + 1))) = some (Sum.inl (nI (2 * vlB s + (if (a || b) = true then 1 else 0)), nI (i + 1)))
        rw [or_n2 (b01 a) (b01 b) (by omega)]
        cases a <;> cases b <;> rfl
    | c + 3, s, hsl, hd, hst, key =>
      have hd' : (if c < 1800 ∧ s.length < 20 then dep l (s.length + 1) else none) = some 1 := hd
      by_cases g : c < 1800 ∧ s.length < 20
      case neg => rw [if_neg g] at hd'; cases hd'
      rw [if_pos g] at hd'
      have hb := vlB_lt s
      have hp2 := p20 (k := s.length) (by omega)
      have hcc : cCode (c + 3) = nI c := by
        unfold cCode
        rw [if_neg (by omega), if_neg (by omega), if_neg (by omega)]
        rfl
      refine key (tstB S p c :: s) (show s.length + 1 ≤ 20 by omega) hd' ?_ rfl
      rw [hst, hcc, if_neg (cne1 (c := c) (by omega)), if_neg (cne2 (c := c) (by omega)), if_neg (cne3 (c := c) (by omega)), pass_c hF hW hp g.1]
      dsimp only [Option.bind_some]
      have hpu := push_n (b := if tstB S p c = true then 1 else 0) (X := vlB s) (b01 _) (by omega)
      show _ = some (Sum.inl (nI (2 * vlB s + (if tstB S p c = true then 1 else 0)), nI (i + 1)))
      rw [← hpu]
      cases tstB S p c <;> rfl
