-- ===== the truth of an E: the reference; the sums =====
def PL (m : Mm) : List Bool → Prop
  | [] => True
  | b :: s => m.1 18 s.length = bI b ∧ PL m s
theorem PL_si {m : Mm} {j : Nat} {x : Int32} : ∀ {s : List Bool}, s.length ≤ j → PL m s → PL (si m 18 j x) s
  | [], _, _ => trivial
  | b :: s, hj, h => by
    have hj' : s.length + 1 ≤ j := hj
    refine ⟨?_, PL_si (by omega) h.2⟩
    rw [si_nj (by omega)]
    exact h.1
theorem PL_push {m : Mm} {s : List Bool} (b : Bool) (h : PL m s) : PL (si m 18 s.length (bI b)) (b :: s) := ⟨si_e rfl rfl, PL_si (Nat.le_refl _) h⟩
theorem bIz (b : Bool) : (bI b = 0) = (b = false) := by
  apply propext
  cases b <;> decide
def rTest (c : Nat) : Nat := 1000 * (c / 300) + 100 * (c / 100 % 3) + c % 100
theorem rCode_t (c : Nat) : rCode (c + 3) = nI (rTest c) := by
  unfold rCode rTest
  rw [if_neg (by omega), if_neg (by omega), if_neg (by omega)]
  rfl
theorem rstep_t {m : Mm} {S : Sn} {p c d i e cc : Nat} (h : WM m S) (hW : Wf S) (hp : p < 7) (hc : c < 1800) (hcc : cc < 60) (he : m.1 14 cc = nI e) (hi : i < e) (he6 : e ≤ 600) (hd : d < 20) (hco : m.1 15 i = rCode (c + 3)) : Mo_holds_l10 (nI cc) (nI p) (nI d, nI i, m) = some (.inl (nI (d + 1), nI (i + 1), si m 18 d (bI (tstB S p c)))) := by
  have e1 : rTest c / 1000 = c / 300 := by unfold rTest; omega
  have e2 : rTest c / 100 - rTest c / 100 / 10 * 10 = c / 100 % 3 := by unfold rTest; omega
  have e3 : rTest c - rTest c / 100 * 100 = c % 100 := by unfold rTest; omega
  have e4 : rTest c < 6000 := by unfold rTest; omega
  have hf := factN_le hW (k := c / 300) hp
  unfold Mo_holds_l10
  dsimp only
  rw [ga_n hcc (by omega), n_cl (by omega), he, if_neg (by rw [n_le (by omega) (by omega)]; omega), ga_n (by omega) (by omega), n_cl (by omega), hco, rCode_t, if_neg (cne33 (c := rTest c) (by omega)), if_pos (nI_pos' (by omega))]
  simp (disch := omega) only [i_0, i_1, i_100, i_1000, i_10, pk_div, n_mul, n_sub, ga_n, n_cl, n_eq, n_add, e1, e2, e3]
  rw [fact_m h hW hp (by omega)]
  simp (disch := omega) only [Option.bind_some, n_eq, n_le]
  unfold tstB
  by_cases g0 : c / 100 % 3 = 0
  · rw [if_pos g0, if_pos g0]
    by_cases g : c % 100 ≤ factN S p (c / 300)
    · rw [if_pos g, decide_eq_false (by omega)]
      rfl
    · rw [if_neg g, decide_eq_true (by omega)]
      rfl
  rw [if_neg g0, if_neg g0]
  by_cases g1 : c / 100 % 3 = 1
  · rw [if_pos g1, if_pos g1]
    by_cases g : factN S p (c / 300) = c % 100
    · rw [if_pos g, decide_eq_true g]
      rfl
    · rw [if_neg g, decide_eq_false g]
      rfl
  rw [if_neg g1, if_neg g1]
  by_cases g : factN S p (c / 300) ≤ c % 100
  · rw [if_pos g, decide_eq_false (by omega)]
    rfl
  · rw [if_neg g, decide_eq_true (by omega)]
    rfl
theorem rstep_0 {m : Mm} {d i e cc : Nat} {b : Bool} (p : Int32) (hcc : cc < 60) (he : m.1 14 cc = nI e) (hi : i < e) (he6 : e ≤ 600) (hd : d < 20) (hco : m.1 15 i = rCode 0) (hb : m.1 18 d = bI b) : Mo_holds_l10 (nI cc) p (nI (d + 1), nI i, m) = some (.inl (nI (d + 1), nI (i + 1), si m 18 d (bI (!b)))) := by
  have hr : rCode 0 = -33 := rfl
  unfold Mo_holds_l10
  dsimp only
  rw [ga_n hcc (by omega), n_cl (by omega), he, if_neg (by rw [n_le (by omega) (by omega)]; omega), ga_n (by omega) (by omega), n_cl (by omega), hco, hr, if_pos rfl, nI_pred, ga_n (by omega) (by omega), n_cl (by omega), hb, nI_succ i]
  simp (disch := omega) only [ga_n]
  cases b <;> rfl
theorem rstep_1 {m : Mm} {d i e cc : Nat} {a b : Bool} (p : Int32) (hcc : cc < 60) (he : m.1 14 cc = nI e) (hi : i < e) (he6 : e ≤ 600) (hd : d < 20) (hco : m.1 15 i = rCode 1) (hb : m.1 18 (d + 1) = bI b) (ha : m.1 18 d = bI a) : Mo_holds_l10 (nI cc) p (nI (d + 2), nI i, m) = some (.inl (nI (d + 1), nI (i + 1), si m 18 d (bI (a && b)))) := by
  have hr : rCode 1 = -38 := rfl
  have h1 : ¬ (-38 : Int32) = -33 := by decide
  have h2 : ¬ (0 : Int32) ≤ -38 := by decide
  unfold Mo_holds_l10
  dsimp only
  rw [ga_n hcc (by omega), n_cl (by omega), he, if_neg (by rw [n_le (by omega) (by omega)]; omega), ga_n (by omega) (by omega), n_cl (by omega), hco, hr, if_neg h1, if_neg h2, if_pos rfl, show nI (d + 2) + (-1) = nI (d + 1) from pk_m1 (d + 1), nI_pred, ga_n (by omega) (by omega), ga_n (by omega) (by omega), n_cl (by omega), n_cl (by omega), ha, hb, nI_succ i]
  simp (disch := omega) only [ga_n]
  cases a <;> cases b <;> rfl
theorem rstep_2 {m : Mm} {d i e cc : Nat} {a b : Bool} (p : Int32) (hcc : cc < 60) (he : m.1 14 cc = nI e) (hi : i < e) (he6 : e ≤ 600) (hd : d < 20) (hco : m.1 15 i = rCode 2) (hb : m.1 18 (d + 1) = bI b) (ha : m.1 18 d = bI a) : Mo_holds_l10 (nI cc) p (nI (d + 2), nI i, m) = some (.inl (nI (d + 1), nI (i + 1), si m 18 d (bI (a || b)))) := by
  have hr : rCode 2 = -124 := rfl
  have h1 : ¬ (-124 : Int32) = -33 := by decide
  have h2 : ¬ (0 : Int32) ≤ -124 := by decide
  have h3 : ¬ (-124 : Int32) = -38 := by decide
  unfold Mo_holds_l10
  dsimp only
  rw [ga_n hcc (by omega), n_cl (by omega), he, if_neg (by rw [n_le (by omega) (by omega)]; omega), ga_n (by omega) (by omega), n_cl (by omega), hco, hr, if_neg h1, if_neg h2, if_neg h3, show nI (d + 2) + (-1) = nI (d + 1) from pk_m1 (d + 1), nI_pred, ga_n (by omega) (by omega), ga_n (by omega) (by omega), n_cl (by omega), n_cl (by omega), ha, hb, nI_succ i]
  simp (disch := omega) only [ga_n]
  cases a <;> cases b <;> rfl
theorem pH_si {m : Mm} (j : Nat) (x : Int32) : fr pH m (si m 18 j x) := fr_si x (fr_rf _ _) rfl
theorem dep_cases {c : Nat} {l : List Nat} {s : List Bool} {r : Nat} (hd : dep (c :: l) s.length = some r) : (c = 0 ∧ ∃ b s', s = b :: s' ∧ dep l (s'.length + 1) = some r) ∨ (c = 1 ∧ ∃ b a s', s = b :: a :: s' ∧ dep l (s'.length + 1) = some r) ∨ (c = 2 ∧ ∃ b a s', s = b :: a :: s' ∧ dep l (s'.length + 1) = some r) ∨ ∃ t, c = t + 3 ∧ t < 1800 ∧ s.length < 20 ∧ dep l (s.length + 1) = some r := by
  match c, s, hd with
  | 0, s, hd =>
    have hd' : (if 1 ≤ s.length then dep l s.length else none) = some r := hd
    by_cases g : 1 ≤ s.length
    case neg => rw [if_neg g] at hd'; cases hd'
    rw [if_pos g] at hd'
    match s, g, hd' with
    | b :: s, _, hd' => exact Or.inl ⟨rfl, b, s, rfl, hd'⟩
  | 1, s, hd =>
    have hd' : (if 2 ≤ s.length then dep l (s.length - 1) else none) = some r := hd
    by_cases g : 2 ≤ s.length
    case neg => rw [if_neg g] at hd'; cases hd'
    rw [if_pos g] at hd'
    match s, g, hd' with
    | b :: a :: s, g, hd' => exact Or.inr (Or.inl ⟨rfl, b, a, s, rfl, hd'⟩)
  | 2, s, hd =>
    have hd' : (if 2 ≤ s.length then dep l (s.length - 1) else none) = some r := hd
    by_cases g : 2 ≤ s.length
    case neg => rw [if_neg g] at hd'; cases hd'
    rw [if_pos g] at hd'
    match s, g, hd' with
    | b :: a :: s, g, hd' => exact Or.inr (Or.inr (Or.inl ⟨rfl, b, a, s, rfl, hd'⟩))
  | c + 3, s, hd =>
    have hd' : (if c < 1800 ∧ s.length < 20 then dep l (s.length + 1) else none) = some r := hd
    by_cases g : c < 1800 ∧ s.length < 20
    case neg => rw [if_neg g] at hd'; cases hd'
    rw [if_pos g] at hd'
    exact Or.inr (Or.inr (Or.inr ⟨c, rfl, g.1, g.2, hd'⟩))
theorem holds_m {S : Sn} {p e cc : Nat} (hW : Wf S) (hp : p < 7) (hcc : cc < 60) (he6 : e ≤ 600) : ∀ (l : List Nat) (s : List Bool) (i : Nat) (m : Mm), WM m S → m.1 14 cc = nI e → s.length ≤ 20 → dep l s.length = some 1 → (∀ j v, l[j]? = some v → m.1 15 (i + j) = rCode v) → i + l.length = e → PL m s → ∃ m', iter (Mo_holds_l10 (nI cc) (nI p)) (nI s.length, nI i, m) = some m' ∧ fr pH m m' ∧ PL m' (evS S p l s) := by
  intro l
  induction l with
  | nil =>
    intro s i m h he hsl hd hc hi hP
    rw [List.length_nil] at hi
    refine ⟨m, iter_inr ?_, fr_rf _ _, hP⟩
    unfold Mo_holds_l10
    dsimp only
    rw [ga_n hcc (by omega), n_cl (by omega), he, if_pos (by rw [n_le (by omega) (by omega)]; omega)]
  | cons c l ih =>
    intro s i m h he hsl hd hc hi hP
    rw [List.length_cons] at hi
    have hc0 : m.1 15 i = rCode c := hc 0 c rfl
    have key : ∀ s' j x, s'.length ≤ 20 → dep l s'.length = some 1 → Mo_holds_l10 (nI cc) (nI p) (nI s.length, nI i, m) = some (.inl (nI s'.length, nI (i + 1), si m 18 j x)) → PL (si m 18 j x) s' → s' = stk S p c s → ∃ m', iter (Mo_holds_l10 (nI cc) (nI p)) (nI s.length, nI i, m) = some m' ∧ fr pH m m' ∧ PL m' (evS S p (c :: l) s) := by
      intro s' j x q0 q1 q2 q3 q4
      obtain ⟨m', g1, g2, g3⟩ := ih s' (i + 1) (si m 18 j x) (WM_H h (pH_si j x)) ((si_ne (by omega)).trans he) q0 q1 (fun j' v hv => by
        rw [si_ne (by omega), show i + 1 + j' = i + (j' + 1) by omega]
        exact hc (j' + 1) v hv) (by omega) q3
      refine ⟨m', by rw [iter_inl q2, g1], fr_tr (pH_si j x) g2, ?_⟩
      rw [q4] at g3
      exact g3
    rcases dep_cases hd with ⟨rfl, b, s', rfl, hd'⟩ | ⟨rfl, b, a, s', rfl, hd'⟩ | ⟨rfl, b, a, s', rfl, hd'⟩ | ⟨t, rfl, g1, g2, hd'⟩
    · have hdl : s'.length + 1 ≤ 20 := hsl
      exact key ((!b) :: s') s'.length (bI (!b)) hsl hd' (rstep_0 _ hcc he (by omega) he6 (by omega) hc0 hP.1) (PL_push _ hP.2) rfl
    · have hdl : s'.length + 1 + 1 ≤ 20 := hsl
      exact key ((a && b) :: s') s'.length (bI (a && b)) (show s'.length + 1 ≤ 20 by omega) hd' (rstep_1 _ hcc he (by omega) he6 (by omega) hc0 hP.1 hP.2.1) (PL_push _ hP.2.2) rfl
    · have hdl : s'.length + 1 + 1 ≤ 20 := hsl
      exact key ((a || b) :: s') s'.length (bI (a || b)) (show s'.length + 1 ≤ 20 by omega) hd' (rstep_2 _ hcc he (by omega) he6 (by omega) hc0 hP.1 hP.2.1) (PL_push _ hP.2.2) rfl
    · exact key (tstB S p t :: s) s.length (bI (tstB S p t)) (show s.length + 1 ≤ 20 by omega) hd' (rstep_t h hW hp g1 hcc he (by omega) he6 (by omega) hc0) (PL_push _ hP) rfl
theorem stk_len {S : Sn} {p c : Nat} {l : List Nat} {s : List Bool} {r : Nat} (hd : dep (c :: l) s.length = some r) : dep l (stk S p c s).length = some r := by
  rcases dep_cases hd with ⟨rfl, b, s', rfl, hd'⟩ | ⟨rfl, b, a, s', rfl, hd'⟩ | ⟨rfl, b, a, s', rfl, hd'⟩ | ⟨t, rfl, g1, g2, hd'⟩
  · exact hd'
  · exact hd'
  · exact hd'
  · exact hd'
theorem evS_len {S : Sn} {p r : Nat} : ∀ (l : List Nat) (s : List Bool), dep l s.length = some r → (evS S p l s).length = r
  | [], s, h => by
    have h' : some s.length = some r := h
    cases h'
    rfl
  | c :: l, s, h => evS_len l (stk S p c s) (stk_len h)
def holdB (S : Sn) (p : Nat) (l : List Nat) : Bool := (evS S p l []).head? == some true
theorem evS_one {S : Sn} {p : Nat} {l : List Nat} (h : dep l 0 = some 1) : evS S p l [] = [holdB S p l] := by
  have h1 := evS_len (S := S) (p := p) l [] h
  unfold holdB
  match hh : evS S p l [], h1 with
  | [b], _ => cases b <;> rfl
def clN (S : Sn) (p w : Nat) (L : List Cl) (k : Nat) : Nat := match L[k]? with
  | some c => if c.1 = w ∧ holdB S p c.2.2 = true then c.2.1 else 0
  | none => 0
theorem clN_le {S : Sn} {p w : Nat} {L : List Cl} (h : WL L) (k : Nat) : clN S p w L k ≤ 99 := by
  unfold clN
  match hh : L[k]? with
  | none => exact Nat.zero_le _
  | some c =>
    dsimp only
    split
    · exact (h.2.2 c (List.mem_of_getElem? hh)).2.1
    · exact Nat.zero_le _
def sumL (S : Sn) (L : List Cl) (w p : Nat) : Nat := sumN (clN S p w L) L.length
theorem sumL_le {S : Sn} {L : List Cl} (h : WL L) (w p : Nat) : sumL S L w p ≤ 990 := by
  have h1 := sumN_le (f := clN S p w L) (b := 99) (fun k => clN_le h k) L.length
  have h2 := h.1
  unfold sumL
  omega
theorem startOf_succ {L : List Cl} {k : Nat} {c : Cl} (h : L[k]? = some c) : startOf L (k + 1) = startOf L k + c.2.2.length := by
  obtain ⟨hk, e⟩ := List.getElem?_eq_some_iff.mp h
  unfold startOf
  rw [List.take_succ_eq_append_getElem hk, List.map_append, List.sum_append, e]
  rfl
theorem startOf_mono (L : List Cl) (k : Nat) : ∀ d, startOf L k ≤ startOf L (k + d)
  | 0 => Nat.le_refl _
  | d + 1 => by
    have ih := startOf_mono L k d
    match hh : L[k + d]? with
    | some c =>
      have h1 := startOf_succ hh
      show startOf L k ≤ startOf L (k + d + 1)
      omega
    | none =>
      have h1 := List.getElem?_eq_none_iff.mp hh
      have h2 : startOf L (k + d + 1) = startOf L (k + d) := by
        unfold startOf
        rw [List.take_of_length_le (by omega), List.take_of_length_le (by omega)]
      show startOf L k ≤ startOf L (k + d + 1)
      omega
theorem startOf_le {L : List Cl} (h : WL L) {k : Nat} (hk : k ≤ L.length) : startOf L k ≤ 100 := by
  have h1 := startOf_mono L k (L.length - k)
  rw [show k + (L.length - k) = L.length by omega] at h1
  have h2 := h.2.1
  omega
theorem clHolds_c {m : Mm} {S : Sn} {L : List Cl} {p x k : Nat} {c : Cl} (hF : FT m S p) (hW : Wf S) (hp : p < 7) (hL : WL L) (hC : CL m x L) (hk : L[k]? = some c) (h2 : c.1 ≠ 2) : La_holds x m (nI (startOf L k)) (nI (startOf L (k + 1))) 2 = some (holdB S p c.2.2) := by
  obtain ⟨hk', _⟩ := List.getElem?_eq_some_iff.mp hk
  obtain ⟨g1, g2, g3, g4⟩ := hC.2.2 k c hk
  have hd := (hL.2.2 c (List.mem_of_getElem? hk)).2.2.2 h2
  have h1 := holds_c (x := x) hF hW hp (startOf_le hL (k := k + 1) (by omega)) c.2.2 [] (startOf L k) (Nat.zero_le _) hd (fun j v hv => g4 j v hv) (startOf_succ hk).symm
  unfold La_holds
  rw [show iter (La_holds_l6 x m (nI (startOf L (k + 1))) 2) (0, nI (startOf L k)) = _ from h1, evS_one hd]
  dsimp only [Option.bind_some]
  cases holdB S p c.2.2 <;> rfl
theorem together_c {m : Mm} {S : Sn} {L : List Cl} {p x w : Nat} (hF : FT m S p) (hW : Wf S) (hp : p < 7) (hL : WL L) (hC : CL m x L) (hw : w < 2) : La_together x m (nI w) 2 = some (nI (sumL S L w p)) := by
  have hl := hL.1
  unfold La_together
  have h1 := iter_all (step := La_together_l8 x m (nI w) 2) (fun k => (nI (sumN (clN S p w L) k), nI (startOf L k), nI k)) L.length (r := nI (sumL S L w p))
    (fun k hk => by
      have hc := List.getElem?_eq_getElem hk
      obtain ⟨g1, g2, g3, g4⟩ := hC.2.2 k _ hc
      have hmem := hL.2.2 _ (List.getElem_mem hk)
      have hcl : clN S p w L k = if L[k].1 = w ∧ holdB S p L[k].2.2 = true then L[k].2.1 else 0 := by
        unfold clN
        rw [hc]
      unfold La_together_l8 jn
      dsimp only
      rw [hC.1, if_neg (by rw [n_le (by omega) (by omega)]; omega), ga_n (by omega) (by omega), n_cl (by omega), g1, g2, g3]
      show _ = some (Sum.inl (nI (sumN (clN S p w L) k + clN S p w L k), nI (startOf L (k + 1)), nI (k + 1)))
      rw [hcl]
      simp (disch := omega) only [ga_n, i_1, n_add]
      by_cases e : L[k].1 = w
      · rw [if_pos (by rw [e]), clHolds_c hF hW hp hL hC hc (by omega)]
        dsimp only [Option.bind_some]
        cases hb : holdB S p L[k].2.2 with
        | true => rw [if_pos rfl, if_pos ⟨e, rfl⟩]
        | false => rw [if_neg (by decide), if_neg (fun q => absurd q.2 (by decide))]; rfl
      · rw [if_neg (by rw [n_eq (by omega) (by omega)]; exact e), if_neg (fun q => e q.1)]
        rfl)
    (by
      unfold La_together_l8
      dsimp only
      rw [hC.1, if_pos (by rw [n_le (by omega) (by omega)]; omega)]
      rfl)
  rw [show iter (La_together_l8 x m (nI w) 2) (0, 0, 0) = _ from h1]
  rfl
theorem clHolds_m {m : Mm} {S : Sn} {L : List Cl} {p f k : Nat} {c : Cl} (h : WM m S) (hW : Wf S) (hp : p < 7) (hf : f < 6) (hL : WL L) (hM : ML m f L) (hk : L[k]? = some c) (h2 : c.1 ≠ 2) : ∃ m', Mo_holds m (nI (10 * f + k)) (nI p) = some (holdB S p c.2.2, m') ∧ fr pH m m' := by
  obtain ⟨hk', _⟩ := List.getElem?_eq_some_iff.mp hk
  have hl := hL.1
  obtain ⟨g1, g2, g3, g4⟩ := hM.2 k c hk
  have hd := (hL.2.2 c (List.mem_of_getElem? hk)).2.2.2 h2
  have hs := startOf_succ hk
  have hle := startOf_le hL (k := k + 1) (by omega)
  obtain ⟨m', q1, q2, q3⟩ := holds_m hW hp (show 10 * f + k < 60 by omega) (e := 100 * f + startOf L (k + 1)) (by omega) c.2.2 [] (100 * f + startOf L k) m h (g3 h2).2 (Nat.zero_le _) hd (fun j v hv => g4 j v hv) (by omega) trivial
  refine ⟨m', ?_, q2⟩
  unfold Mo_holds
  rw [ga_n (by omega) (by omega), n_cl (by omega), (g3 h2).1, show iter (Mo_holds_l10 (nI (10 * f + k)) (nI p)) (0, nI (100 * f + startOf L k), m) = _ from q1]
  rw [evS_one hd] at q3
  have q4 : m'.1 18 0 = bI (holdB S p c.2.2) := q3.1
  simp (disch := omega) only [Option.bind_some, i_0, ga_n, n_cl]
  rw [q4]
  cases holdB S p c.2.2 <;> rfl
theorem sumOf_m {m : Mm} {S : Sn} {L : List Cl} {p w : Nat} (h : KM m S L) (hW : Wf S) (hp : p < 7) (hL : WL L) (hw : w < 2) : ∃ m', Mo_sumOf m (nI w) (nI p) = some (nI (sumL S L w p), m') ∧ fr pH m m' := by
  have hl := hL.1
  have h12 := Wf_12 hW
  have h41 := Wf_41 hW
  unfold Mo_sumOf
  rw [h.2.1]
  obtain ⟨r, h1, h2⟩ := iter_for (step := Mo_sumOf_l8 (nI w) (nI p)) (fun k s => ∃ m', s = (nI (sumN (clN S p w L) k), nI (10 * (S 12 0 - 1) + k), m') ∧ fr pH m m') L.length (fun r => ∃ m', r = (nI (sumL S L w p), m') ∧ fr pH m m')
    (by
      rintro k s hk ⟨m', rfl, hs⟩
      have hK := KM_H h hs
      have h0 : S 12 0 ≠ 0 := by
        intro q
        rw [h.2.2.2.2 q] at hk
        exact absurd hk (Nat.not_lt_zero _)
      have hM := hK.2.2.2.1 h0
      have hc := List.getElem?_eq_getElem hk
      obtain ⟨g1, g2, g3, g4⟩ := hM.2 k _ hc
      have hmem := hL.2.2 _ (List.getElem_mem hk)
      have hcl : clN S p w L k = if L[k].1 = w ∧ holdB S p L[k].2.2 = true then L[k].2.1 else 0 := by
        unfold clN
        rw [hc]
      unfold Mo_sumOf_l8
      dsimp only
      rw [hK.2.2.1]
      simp (disch := omega) only [Option.bind_some, ga_n, n_cl]
      rw [if_neg (by rw [n_le (by omega) (by omega)]; omega), g1]
      by_cases e : L[k].1 = w
      · obtain ⟨m2, q1, q2⟩ := clHolds_m hK.1 hW hp (show S 12 0 - 1 < 6 by omega) hL hM hc (by omega)
        rw [if_pos (by rw [e]), q1]
        simp (disch := omega) only [Option.bind_some, ga_n, n_cl]
        have g2' : m2.1 12 (10 * (S 12 0 - 1) + k) = nI L[k].2.1 := (q2.1 12 _ (by unfold pH; omega)).trans g2
        rw [g2', n_add, i_1, n_add, i_0, n_add]
        cases hb : holdB S p L[k].2.2 with
        | true =>
          rw [if_pos rfl]
          refine ⟨_, rfl, m2, ?_, fr_tr hs q2⟩
          show (nI (sumN (clN S p w L) k + L[k].2.1), _, _) = (nI (sumN (clN S p w L) k + clN S p w L k), _, _)
          rw [hcl, if_pos ⟨e, hb⟩]
          rfl
        | false =>
          rw [if_neg (by decide)]
          refine ⟨_, rfl, m2, ?_, fr_tr hs q2⟩
          show (nI (sumN (clN S p w L) k + 0), _, _) = (nI (sumN (clN S p w L) k + clN S p w L k), _, _)
          rw [hcl, if_neg (fun q => absurd (hb.symm.trans q.2) (by decide))]
          rfl
      · rw [if_neg (by rw [n_eq (by omega) (by omega)]; exact e), i_1, n_add, i_0, n_add]
        refine ⟨_, rfl, m', ?_, hs⟩
        show (nI (sumN (clN S p w L) k + 0), _, _) = (nI (sumN (clN S p w L) k + clN S p w L k), _, _)
        rw [hcl, if_neg (fun q => e q.1)]
        rfl)
    (by
      rintro s ⟨m', rfl, hs⟩
      have hK := KM_H h hs
      unfold Mo_sumOf_l8
      dsimp only
      rw [hK.2.2.1]
      dsimp only [Option.bind_some]
      rw [if_pos (by rw [n_le (by omega) (by omega)]; omega)]
      exact ⟨_, rfl, m', rfl, hs⟩) 0 (0, nI (10 * (S 12 0 - 1)), m) (by omega) ⟨m, rfl, fr_rf _ _⟩
  obtain ⟨m', rfl, hs⟩ := h2
  rw [h1]
  exact ⟨m', rfl, hs⟩
