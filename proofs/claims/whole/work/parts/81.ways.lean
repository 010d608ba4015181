-- ===== sizes, longs, ways =====
def SZ (S : Sn) (L : List Cl) (p : Nat) : Nat := S 3 p + sumL S L 0 p
def EX (S : Sn) (L : List Cl) (p : Nat) : Nat := sumL S L 1 p
def LG (S : Sn) (L : List Cl) (p o : Nat) : Nat := if S 4 (7 * p + o) = 0 then 0 else S 4 (7 * p + o) + EX S L (if o < p then o else p)
def EN : Nat := 1000000
def W0 (S : Sn) (L : List Cl) (p o : Nat) : Nat := if p = o then 0 else if LG S L p o = 0 then EN else LG S L p o
abbrev Ws : Type := Nat → Nat → Nat
def fs (w : Ws) (b p o : Nat) : Ws := fun a c => if a = p ∧ c = o then (if w p b + w b o < w p o then w p b + w b o else w p o) else w a c
def fl1 (w : Ws) (b p : Nat) : Nat → Ws
  | 0 => w
  | o + 1 => fs (fl1 w b p o) b p o
def fl2 (n : Nat) (w : Ws) (b : Nat) : Nat → Ws
  | 0 => w
  | p + 1 => fl1 (fl2 n w b p) b p n
def fl3 (n : Nat) (w : Ws) : Nat → Ws
  | 0 => w
  | b + 1 => fl2 n (fl3 n w b) b n
def WY (S : Sn) (L : List Cl) : Ws := fl3 (S 0 0) (W0 S L) (S 0 0)
/-- all but what has no way are short -/
def FB (w : Ws) (b T : Nat) : Prop := (∀ a c, a < 7 → c < 7 → w a c = EN ∨ w a c ≤ 2 * T) ∧ (∀ a, a < 7 → w a b = EN ∨ w a b ≤ T) ∧ (∀ c, c < 7 → w b c = EN ∨ w b c ≤ T) ∧ ∀ a, w a a = 0
theorem fs_FB {w : Ws} {b p o T : Nat} (h : FB w b T) (hb : b < 7) (hp : p < 7) (ho : o < 7) (hT : 2 * T < EN) : FB (fs w b p o) b T := by
  obtain ⟨h1, h2, h3, h4⟩ := h
  have g1 := h1 p o hp ho
  have g2 := h2 p hp
  have g3 := h3 o ho
  have g4 := h4 b
  refine ⟨fun a c ha hc => ?_, fun a ha => ?_, fun c hc => ?_, fun a => ?_⟩
  · have q := h1 a c ha hc
    unfold fs
    split
    · split <;> omega
    · exact q
  · have q := h2 a ha
    unfold fs
    split
    · rename_i e
      obtain ⟨rfl, rfl⟩ := e
      rw [g4]
      split <;> omega
    · exact q
  · have q := h3 c hc
    unfold fs
    split
    · rename_i e
      obtain ⟨rfl, rfl⟩ := e
      rw [g4]
      split <;> omega
    · exact q
  · have q := h4 a
    unfold fs
    split
    · rename_i e
      obtain ⟨rfl, rfl⟩ := e
      rw [q]
      split <;> omega
    · exact q
theorem fl1_FB {w : Ws} {b p T : Nat} (h : FB w b T) (hb : b < 7) (hp : p < 7) (hT : 2 * T < EN) : ∀ o, o ≤ 7 → FB (fl1 w b p o) b T
  | 0, _ => h
  | o + 1, ho => fs_FB (fl1_FB h hb hp hT o (by omega)) hb hp (by omega) hT
theorem fl2_FB {w : Ws} {b T n : Nat} (h : FB w b T) (hb : b < 7) (hn : n ≤ 7) (hT : 2 * T < EN) : ∀ p, p ≤ 7 → FB (fl2 n w b p) b T
  | 0, _ => h
  | p + 1, hp => fl1_FB (fl2_FB h hb hn hT p (by omega)) hb (by omega) hT n hn
theorem FB_next {w : Ws} {b b' T : Nat} (h : FB w b T) (hb : b' < 7) : FB w b' (2 * T) := by
  obtain ⟨h1, h2, h3, h4⟩ := h
  refine ⟨fun a c ha hc => ?_, fun a ha => ?_, fun c hc => ?_, h4⟩
  · have q := h1 a c ha hc
    omega
  · exact h1 a b' ha hb
  · exact h1 b' c hb hc
theorem LG_le {S : Sn} {L : List Cl} (hW : Wf S) (hL : WL L) {p o : Nat} (hp : p < 7) (ho : o < 7) : LG S L p o ≤ 1089 := by
  have h1 := Wf_4 hW hp ho
  have h2 := sumL_le (S := S) hL 1 (if o < p then o else p)
  unfold LG EX
  split <;> omega
theorem LG_0 {S : Sn} {L : List Cl} {p o : Nat} : (LG S L p o = 0) = (S 4 (7 * p + o) = 0) := by
  apply propext
  unfold LG
  split <;> omega
theorem SZ_le {S : Sn} {L : List Cl} (hW : Wf S) (hL : WL L) {p : Nat} (hp : p < 7) : SZ S L p ≤ 1089 := by
  have h1 := Wf_3 hW hp
  have h2 := sumL_le (S := S) hL 0 p
  unfold SZ
  omega
theorem W0_FB {S : Sn} {L : List Cl} (hW : Wf S) (hL : WL L) : FB (W0 S L) 0 1089 := by
  have key : ∀ a c, a < 7 → c < 7 → W0 S L a c = EN ∨ W0 S L a c ≤ 1089 := by
    intro a c ha hc
    have h := LG_le hW hL ha hc
    unfold W0
    split
    · omega
    · split
      · exact Or.inl rfl
      · exact Or.inr h
  refine ⟨fun a c ha hc => ?_, fun a ha => key a 0 ha (by omega), fun c hc => key 0 c (by omega) hc, fun a => ?_⟩
  · have := key a c ha hc
    omega
  · unfold W0
    rw [if_pos rfl]
theorem fl3_FB {S : Sn} {L : List Cl} (hW : Wf S) (hL : WL L) {n : Nat} (hn : n ≤ 7) : ∀ b, b < 7 → FB (fl3 n (W0 S L) b) b (1089 * 2 ^ b)
  | 0, _ => W0_FB hW hL
  | b + 1, hb => by
    have h0 := fl3_FB hW hL hn b (by omega)
    have hT : 2 * (1089 * 2 ^ b) < EN := by
      have : 2 ^ b ≤ 2 ^ 6 := Nat.pow_le_pow_right (by omega) (by omega)
      unfold EN
      omega
    have h1 := FB_next (b' := b + 1) (fl2_FB h0 (by omega) hn hT n hn) hb
    rw [show 1089 * 2 ^ (b + 1) = 2 * (1089 * 2 ^ b) by rw [Nat.pow_succ]; omega]
    exact h1
theorem pT {b : Nat} (hb : b < 7) : 2 * (1089 * 2 ^ b) < EN := by
  have : 2 ^ b ≤ 2 ^ 6 := Nat.pow_le_pow_right (by omega) (by omega)
  unfold EN
  omega
/-- a way is ENDLESS or short -/
theorem WY_le {S : Sn} {L : List Cl} (hW : Wf S) (hL : WL L) {p o : Nat} (hp : p < 7) (ho : o < 7) : WY S L p o = EN ∨ WY S L p o ≤ 139392 := by
  have b0 := Wf_0 hW
  unfold WY
  rcases Nat.eq_zero_or_pos (S 0 0) with e | e
  · rw [e]
    have h := (W0_FB hW hL).1 p o hp ho
    show W0 S L p o = EN ∨ W0 S L p o ≤ 139392
    omega
  · obtain ⟨b, hb⟩ : ∃ b, S 0 0 = b + 1 := ⟨S 0 0 - 1, by omega⟩
    have h0 := fl3_FB hW hL b0 b (by omega)
    have h1 := (fl2_FB h0 (by omega) b0 (pT (by omega)) (S 0 0) b0).1 p o hp ho
    have h2 : 2 ^ b ≤ 2 ^ 6 := Nat.pow_le_pow_right (by omega) (by omega)
    have h3 : fl3 (S 0 0) (W0 S L) (S 0 0) = fl2 (S 0 0) (fl3 (S 0 0) (W0 S L) b) b (S 0 0) := by
      rw [show fl3 (S 0 0) (W0 S L) (S 0 0) = fl3 (S 0 0) (W0 S L) (b + 1) by rw [← hb]]
      rfl
    rw [h3]
    omega
-- loops
theorem imin_n {a b : Nat} (ha : a < 2 ^ 31) (hb : b < 2 ^ 31) : imin (nI a) (nI b) = nI (if b < a then b else a) := by
  unfold imin
  by_cases e : b < a
  · rw [if_pos (by rw [n_lt hb ha]; exact e), if_pos e]
  · rw [if_neg (by rw [n_lt hb ha]; exact e), if_neg e]
def pc (c k _i : Nat) : Prop := k = c
theorem fr_pc {c : Nat} {m m' : Mm} (h : fr (pc c) m m') (hc : 2 ≤ c ∧ c ≤ 8) : fr pL m m' := fr_mono h (fun k i p => by unfold pc at p; unfold pL; omega)
theorem fr_pcS {c : Nat} {m m' : Mm} (h : fr (pc c) m m') (hc : 18 ≤ c ∧ c ≤ 22) : fr pS m m' := fr_mono h (fun k i p => by unfold pc at p; unfold pS; omega)
def done2 (f : Nat → Nat → Int32) (m : Mm) (c n p o : Nat) : Prop := ∀ a b, b < n → (a < p ∨ (a = p ∧ b < o)) → m.1 c (7 * a + b) = f a b
theorem done2_si {f : Nat → Nat → Int32} {m : Mm} {c n p o : Nat} {x : Int32} (h : done2 f m c n p o) (ho : o < n) (hn : n ≤ 7) (hx : x = f p o) : done2 f (si m c (7 * p + o) x) c n p (o + 1) := by
  intro a b hb hab
  by_cases e : a = p ∧ b = o
  · obtain ⟨rfl, rfl⟩ := e
    rw [si_e rfl rfl, hx]
  · rw [si_nj (by omega)]
    exact h a b hb (by omega)
theorem done2_other {f : Nat → Nat → Int32} {m : Mm} {c c' n p o i : Nat} {x : Int32} (h : done2 f m c n p o) (hc : c ≠ c') : done2 f (si m c' i x) c n p o := by
  intro a b hb hab
  rw [si_ne hc]
  exact h a b hb hab
theorem done2_row {f : Nat → Nat → Int32} {m : Mm} {c n p : Nat} (h : done2 f m c n p n) : done2 f m c n (p + 1) 0 := fun a b hb hab => h a b hb (by omega)
theorem done2_all {f : Nat → Nat → Int32} {m : Mm} {c n : Nat} (h : done2 f m c n n 0) {a b : Nat} (ha : a < n) (hb : b < n) : m.1 c (7 * a + b) = f a b := h a b hb (Or.inl ha)
theorem loop2 {st1 : Int32 × Mm → Option ((Int32 × Mm) ⊕ Mm)} {st2 : Int32 × Mm → Int32 × Mm → Option ((Int32 × Mm) ⊕ Mm)} {n : Nat} (Q : Nat → Nat → Mm → Prop)
    (h1 : ∀ p m, p < n → Q p 0 m → st1 (nI p, m) = (iter (st2 (nI p, m)) (0, m)).bind fun e => some (.inl (nI p + 1, e)))
    (h1e : ∀ m, Q n 0 m → st1 (nI n, m) = some (.inr m))
    (h2 : ∀ p o m0 m, p < n → o < n → Q p o m → ∃ m', st2 (nI p, m0) (nI o, m) = some (.inl (nI (o + 1), m')) ∧ Q p (o + 1) m')
    (h2e : ∀ p m0 m, p < n → Q p n m → st2 (nI p, m0) (nI n, m) = some (.inr m))
    (hrow : ∀ p m, p < n → Q p n m → Q (p + 1) 0 m) {m : Mm} (h0 : Q 0 0 m) : ∃ m', iter st1 (0, m) = some m' ∧ Q n 0 m' := by
  obtain ⟨r, q1, q2⟩ := iter_for (step := st1) (fun p s => ∃ m', s = (nI p, m') ∧ Q p 0 m') n (fun r => Q n 0 r)
    (by
      rintro p s hp ⟨m', rfl, hQ⟩
      obtain ⟨r, g1, g2⟩ := iter_for (step := st2 (nI p, m')) (fun o s => ∃ m2, s = (nI o, m2) ∧ Q p o m2) n (fun r => Q p n r)
        (by
          rintro o s ho ⟨m2, rfl, hQ2⟩
          obtain ⟨m3, k1, k2⟩ := h2 p o m' m2 hp ho hQ2
          exact ⟨_, k1, m3, rfl, k2⟩)
        (by
          rintro s ⟨m2, rfl, hQ2⟩
          exact ⟨m2, h2e p m' m2 hp hQ2, hQ2⟩) 0 (0, m') (by omega) ⟨m', rfl, hQ⟩
      rw [h1 p m' hp hQ, g1]
      exact ⟨_, rfl, r, by rw [nI_succ], hrow p r hp g2⟩)
    (by
      rintro s ⟨m', rfl, hQ⟩
      exact ⟨m', h1e m' hQ, hQ⟩) 0 (0, m) (by omega) ⟨m, rfl, h0⟩
  exact ⟨r, q1, q2⟩
theorem sizes_c {m : Mm} {S : Sn} {L : List Cl} {x : Nat} (h : WC m S) (hW : Wf S) (hL : WL L) (hx : 31 ≤ x) (hC : CL m x L) : ∃ m', Jo_findSizes m x = some m' ∧ fr pL m m' ∧ (∀ p, p < S 0 0 → m'.1 3 p = nI (SZ S L p)) ∧ ∀ p, p < S 0 0 → m'.1 4 p = nI (EX S L p) := by
  have b0 := Wf_0 hW
  unfold Jo_findSizes
  obtain ⟨r, h1, h2⟩ := iter_for (step := Jo_findSizes_l2 x) (fun k s => ∃ m', s = (nI k, m') ∧ fr pL m m' ∧ (∀ p, p < k → m'.1 3 p = nI (SZ S L p)) ∧ ∀ p, p < k → m'.1 4 p = nI (EX S L p)) (S 0 0) (fun m' => fr pL m m' ∧ (∀ p, p < S 0 0 → m'.1 3 p = nI (SZ S L p)) ∧ ∀ p, p < S 0 0 → m'.1 4 p = nI (EX S L p))
    (by
      rintro k s hk ⟨m', rfl, hs, a1, a2⟩
      have hw := WC_L h hs
      have hp : k < 7 := by omega
      obtain ⟨m2, q1, q2, q3⟩ := facts_c hw hW hp
      have s2 : fr pL m m2 := fr_tr hs (fr_mono q2 (fun k i p => by unfold pF at p; unfold pL; omega))
      have c2 : CL m2 x L := CL_keep hC (fun k i a b => s2.1 k i (by unfold pL; omega))
      have t1 := together_c (x := x) (w := 0) q3 hW hp hL c2 (by omega)
      have w3 : m2.1 (11 + 3) k = nI (S 3 k) := w3 (WC_L h s2) hp
      have F3 : FT (si m2 3 k (nI (S 3 k) + nI (sumL S L 0 k))) S k := fun j hj => by
        rw [si_ne (by omega)]
        exact q3 j hj
      have c3 : CL (si m2 3 k (nI (S 3 k) + nI (sumL S L 0 k))) x L := CL_keep c2 (fun k i a b => by rw [si_ne (by omega)])
      have t2 := together_c (x := x) (w := 1) F3 hW hp hL c3 (by omega)
      unfold Jo_findSizes_l2
      dsimp only
      rw [w0 hw, if_neg (by rw [n_le (by omega) (by omega)]; omega), q1]
      simp (disch := omega) only [Option.bind_some, ga_n, n_cl]
      rw [show La_together x m2 0 2 = _ from t1, w3]
      simp only [Option.bind_some]
      rw [show La_together x (si m2 3 k (nI (S 3 k) + nI (sumL S L 0 k))) 1 2 = _ from t2, ← nI_succ, n_add]
      simp only [Option.bind_some]
      refine ⟨_, rfl, _, rfl, fr_si _ (fr_si _ s2 (by unfold pL; omega)) (by unfold pL; omega), fun p hpk => ?_, fun p hpk => ?_⟩
      · rw [si_ne (by omega)]
        by_cases e : p = k
        · rw [si_e rfl e, e]
          rfl
        · rw [si_nj e, q2.1 3 p (by unfold pF; omega)]
          exact a1 p (by omega)
      · by_cases e : p = k
        · rw [si_e rfl e, e]
          rfl
        · rw [si_nj e, si_ne (by omega), q2.1 4 p (by unfold pF; omega)]
          exact a2 p (by omega))
    (by
      rintro s ⟨m', rfl, hs, a1, a2⟩
      unfold Jo_findSizes_l2
      dsimp only
      rw [w0 (WC_L h hs), if_pos (by rw [n_le (by omega) (by omega)]; omega)]
      exact ⟨_, rfl, hs, a1, a2⟩) 0 (0, m) (by omega) ⟨m, rfl, fr_rf _ _, fun p hp => absurd hp (Nat.not_lt_zero p), fun p hp => absurd hp (Nat.not_lt_zero p)⟩
  exact ⟨r, by rw [h1]; rfl, h2⟩
theorem longs_c {m : Mm} {S : Sn} {L : List Cl} (h : WC m S) (hW : Wf S) (hE : ∀ p, p < S 0 0 → m.1 4 p = nI (EX S L p)) : ∃ m', Jo_findLongs m = some m' ∧ fr (pc 5) m m' ∧ done2 (fun p o => nI (LG S L p o)) m' 5 (S 0 0) (S 0 0) 0 := by
  have b0 := Wf_0 hW
  have hw : ∀ {m'}, fr (pc 5) m m' → WC m' S := fun hs => WC_L h (fr_pc hs (by omega))
  unfold Jo_findLongs
  obtain ⟨r, q1, q2, q3⟩ := loop2 (st1 := Jo_findLongs_l2) (st2 := Jo_findLongs_l15) (n := S 0 0) (fun p o m' => fr (pc 5) m m' ∧ done2 (fun p o => nI (LG S L p o)) m' 5 (S 0 0) p o)
    (fun p m' hp hQ => by
      unfold Jo_findLongs_l2
      dsimp only
      rw [w0 (hw hQ.1), if_neg (by rw [n_le (by omega) (by omega)]; omega)])
    (fun m' hQ => by
      unfold Jo_findLongs_l2
      dsimp only
      rw [w0 (hw hQ.1), if_pos (by rw [n_le (by omega) (by omega)]; omega)])
    (fun p o m0 m' hp ho hQ => by
      have g1 : m'.1 (11 + 4) (7 * p + o) = nI (S 4 (7 * p + o)) := w4 (hw hQ.1) (by omega)
      have g2 := Wf_4 hW (show p < 7 by omega) (show o < 7 by omega)
      have g3 : imin (nI p) (nI o) = nI (if o < p then o else p) := imin_n (by omega) (by omega)
      have g4 : m'.1 4 (if o < p then o else p) = nI (EX S L (if o < p then o else p)) := (hQ.1.1 4 _ (by unfold pc; omega)).trans (hE _ (by split <;> omega))
      have g5 : (if o < p then o else p) < 7 := by split <;> omega
      unfold Jo_findLongs_l15
      dsimp only
      rw [w0 (hw hQ.1), if_neg (by rw [n_le (by omega) (by omega)]; omega), NB_index_n (7 * p + o) (by omega), ga_n (by omega) (by omega), n_cl (by omega), g1, g3, i_0]
      simp (disch := omega) only [n_eq, ga_n, n_cl, g4, n_add, i_1]
      by_cases e : S 4 (7 * p + o) = 0
      · rw [if_pos e]
        refine ⟨_, rfl, fr_si _ hQ.1 rfl, done2_si hQ.2 ho b0 ?_⟩
        show nI 0 = nI (LG S L p o)
        rw [LG_0.mpr e]
      · rw [if_neg e]
        refine ⟨_, rfl, fr_si _ hQ.1 rfl, done2_si hQ.2 ho b0 ?_⟩
        show nI _ = nI (LG S L p o)
        unfold LG
        rw [if_neg e])
    (fun p m0 m' hp hQ => by
      unfold Jo_findLongs_l15
      dsimp only
      rw [w0 (hw hQ.1), if_pos (by rw [n_le (by omega) (by omega)]; omega)])
    (fun p m' hp hQ => ⟨hQ.1, done2_row hQ.2⟩) (m := m) ⟨fr_rf _ _, fun a b hb hab => by omega⟩
  exact ⟨r, by rw [q1]; rfl, q2, q3⟩
theorem ways0_c {m : Mm} {S : Sn} {L : List Cl} (h : WC m S) (hW : Wf S) (hL : WL L) (hG : done2 (fun p o => nI (LG S L p o)) m 5 (S 0 0) (S 0 0) 0) : ∃ m', iter Jo_findWays_l2 (0, m) = some m' ∧ fr (pc 6) m m' ∧ done2 (fun p o => nI (W0 S L p o)) m' 6 (S 0 0) (S 0 0) 0 := by
  have b0 := Wf_0 hW
  have hw : ∀ {m'}, fr (pc 6) m m' → WC m' S := fun hs => WC_L h (fr_pc hs (by omega))
  obtain ⟨r, q1, q2, q3⟩ := loop2 (st1 := Jo_findWays_l2) (st2 := Jo_findWays_l15) (n := S 0 0) (fun p o m' => fr (pc 6) m m' ∧ done2 (fun p o => nI (W0 S L p o)) m' 6 (S 0 0) p o)
    (fun p m' hp hQ => by
      unfold Jo_findWays_l2
      dsimp only
      rw [w0 (hw hQ.1), if_neg (by rw [n_le (by omega) (by omega)]; omega)])
    (fun m' hQ => by
      unfold Jo_findWays_l2
      dsimp only
      rw [w0 (hw hQ.1), if_pos (by rw [n_le (by omega) (by omega)]; omega)])
    (fun p o m0 m' hp ho hQ => by
      have g2 := LG_le hW hL (show p < 7 by omega) (show o < 7 by omega)
      have g1 : m'.1 5 (7 * p + o) = nI (LG S L p o) := (hQ.1.1 5 _ (by unfold pc; omega)).trans (done2_all hG hp ho)
      have g3 : (1000000 : Int32) = nI EN := rfl
      unfold Jo_findWays_l15
      dsimp only
      rw [w0 (hw hQ.1), if_neg (by rw [n_le (by omega) (by omega)]; omega), NB_index_n (7 * p + o) (by omega), ga_n (by omega) (by omega), n_cl (by omega), g1, i_0, g3]
      simp (disch := omega) only [ga_n, n_cl, n_eq, n_le, n_add, i_1]
      by_cases e : p = o
      · rw [if_pos e]
        refine ⟨_, rfl, fr_si _ hQ.1 rfl, done2_si hQ.2 ho b0 ?_⟩
        show nI 0 = nI (W0 S L p o)
        unfold W0
        rw [if_pos e]
      · rw [if_neg e]
        by_cases e2 : LG S L p o ≤ 0
        · rw [if_pos e2]
          refine ⟨_, rfl, fr_si _ hQ.1 rfl, done2_si hQ.2 ho b0 ?_⟩
          show nI EN = nI (W0 S L p o)
          unfold W0
          rw [if_neg e, if_pos (by omega)]
        · rw [if_neg e2]
          refine ⟨_, rfl, fr_si _ hQ.1 rfl, done2_si hQ.2 ho b0 ?_⟩
          show nI _ = nI (W0 S L p o)
          unfold W0
          rw [if_neg e, if_neg (by omega)])
    (fun p m0 m' hp hQ => by
      unfold Jo_findWays_l15
      dsimp only
      rw [w0 (hw hQ.1), if_pos (by rw [n_le (by omega) (by omega)]; omega)])
    (fun p m' hp hQ => ⟨hQ.1, done2_row hQ.2⟩) (m := m) ⟨fr_rf _ _, fun a b hb hab => by omega⟩
  exact ⟨r, q1, q2, q3⟩
/-- all cells of a square -/
def all2 (f : Nat → Nat → Int32) (m : Mm) (c n : Nat) : Prop := ∀ a b, a < n → b < n → m.1 c (7 * a + b) = f a b
theorem floyd_c {m : Mm} {S : Sn} {L : List Cl} (h : WC m S) (hW : Wf S) (hL : WL L) (hG : all2 (fun p o => nI (W0 S L p o)) m 6 (S 0 0)) : ∃ m', iter Jo_findWays_l80 (0, m) = some m' ∧ fr (pc 6) m m' ∧ all2 (fun p o => nI (WY S L p o)) m' 6 (S 0 0) := by
  have b0 := Wf_0 hW
  have hw : ∀ {m'}, fr (pc 6) m m' → WC m' S := fun hs => WC_L h (fr_pc hs (by omega))
  obtain ⟨r, h1, h2⟩ := iter_for (step := Jo_findWays_l80) (fun b s => ∃ m', s = (nI b, m') ∧ fr (pc 6) m m' ∧ all2 (fun p o => nI (fl3 (S 0 0) (W0 S L) b p o)) m' 6 (S 0 0)) (S 0 0) (fun m' => fr (pc 6) m m' ∧ all2 (fun p o => nI (WY S L p o)) m' 6 (S 0 0))
    (by
      rintro b s hb ⟨mb, rfl, hsb, hab⟩
      have hFB := fl3_FB hW hL b0 b (by omega)
      obtain ⟨r, q1, q2, q3⟩ := loop2 (st1 := Jo_findWays_l93 (nI b, mb)) (st2 := Jo_findWays_l106 (nI b, mb)) (n := S 0 0) (fun p o m' => fr (pc 6) m m' ∧ all2 (fun x y => nI (fl1 (fl2 (S 0 0) (fl3 (S 0 0) (W0 S L) b) b p) b p o x y)) m' 6 (S 0 0))
        (fun p m' hp hQ => by
          unfold Jo_findWays_l93
          dsimp only
          rw [w0 (hw hQ.1), if_neg (by rw [n_le (by omega) (by omega)]; omega)])
        (fun m' hQ => by
          unfold Jo_findWays_l93
          dsimp only
          rw [w0 (hw hQ.1), if_pos (by rw [n_le (by omega) (by omega)]; omega)])
        (fun p o m0 m' hp ho hQ => by
          have hF := fl1_FB (fl2_FB hFB (by omega) b0 (pT (by omega)) p (by omega)) (by omega) (show p < 7 by omega) (pT (by omega)) o (by omega)
          have hT := pT (b := b) (by omega)
          have f1 := hQ.2 p b hp hb
          have f2 := hQ.2 b o hb ho
          have f3 := hQ.2 p o hp ho
          have k1 := hF.2.1 p (by omega)
          have k2 := hF.2.2.1 o (by omega)
          have k3 := hF.1 p o (by omega) (by omega)
          have hnext : all2 (fun x y => nI (fl1 (fl2 (S 0 0) (fl3 (S 0 0) (W0 S L) b) b p) b p (o + 1) x y)) (si m' 6 (7 * p + o) (nI (if fl1 (fl2 (S 0 0) (fl3 (S 0 0) (W0 S L) b) b p) b p o p b + fl1 (fl2 (S 0 0) (fl3 (S 0 0) (W0 S L) b) b p) b p o b o < fl1 (fl2 (S 0 0) (fl3 (S 0 0) (W0 S L) b) b p) b p o p o then fl1 (fl2 (S 0 0) (fl3 (S 0 0) (W0 S L) b) b p) b p o p b + fl1 (fl2 (S 0 0) (fl3 (S 0 0) (W0 S L) b) b p) b p o b o else fl1 (fl2 (S 0 0) (fl3 (S 0 0) (W0 S L) b) b p) b p o p o))) 6 (S 0 0) := by
            intro x y hx hy
            show _ = nI (fs (fl1 (fl2 (S 0 0) (fl3 (S 0 0) (W0 S L) b) b p) b p o) b p o x y)
            unfold fs
            by_cases e : x = p ∧ y = o
            · rw [if_pos e, si_e rfl (by omega)]
            · rw [if_neg e, si_nj (by omega)]
              exact hQ.2 x y hx hy
          generalize hw1 : fl1 (fl2 (S 0 0) (fl3 (S 0 0) (W0 S L) b) b p) b p o = w at *
          unfold EN at hT
          have hE : EN = 1000000 := rfl
          unfold Jo_findWays_l106
          dsimp only
          rw [w0 (hw hQ.1), if_neg (by rw [n_le (by omega) (by omega)]; omega), NB_index_n (7 * p + b) (by omega), NB_index_n (7 * b + o) (by omega), NB_index_n (7 * p + o) (by omega)]
          simp (disch := omega) only [ga_n, n_cl]
          rw [f1, f2, f3, n_add]
          have g3 : imin (nI (w p o)) (nI (w p b + w b o)) = nI (if w p b + w b o < w p o then w p b + w b o else w p o) := imin_n (by omega) (by omega)
          rw [g3, i_1, n_add]
          exact ⟨_, rfl, fr_si _ hQ.1 rfl, hnext⟩)
        (fun p m0 m' hp hQ => by
          unfold Jo_findWays_l106
          dsimp only
          rw [w0 (hw hQ.1), if_pos (by rw [n_le (by omega) (by omega)]; omega)])
        (fun p m' hp hQ => hQ) (m := mb) ⟨hsb, hab⟩
      unfold Jo_findWays_l80
      dsimp only
      rw [w0 (hw hsb), if_neg (by rw [n_le (by omega) (by omega)]; omega), q1]
      exact ⟨_, rfl, r, by rw [nI_succ], q2, q3⟩)
    (by
      rintro s ⟨m', rfl, hs, ha⟩
      unfold Jo_findWays_l80
      dsimp only
      rw [w0 (hw hs), if_pos (by rw [n_le (by omega) (by omega)]; omega)]
      exact ⟨_, rfl, hs, ha⟩) 0 (0, m) (by omega) ⟨m, rfl, fr_rf _ _, hG⟩
  exact ⟨r, h1, h2⟩
theorem ways_c {m : Mm} {S : Sn} {L : List Cl} (h : WC m S) (hW : Wf S) (hL : WL L) (hG : done2 (fun p o => nI (LG S L p o)) m 5 (S 0 0) (S 0 0) 0) : ∃ m', Jo_findWays m = some m' ∧ fr (pc 6) m m' ∧ all2 (fun p o => nI (WY S L p o)) m' 6 (S 0 0) := by
  obtain ⟨m1, q1, q2, q3⟩ := ways0_c h hW hL hG
  obtain ⟨m2, g1, g2, g3⟩ := floyd_c (WC_L h (fr_pc q2 (by omega))) hW hL (fun a b ha hb => done2_all q3 ha hb)
  refine ⟨m2, ?_, fr_tr q2 g2, g3⟩
  unfold Jo_findWays
  rw [q1]
  dsimp only [Option.bind_some]
  rw [g1]
  rfl
