-- ===== the reference's land =====
def wI (w : Nat) : Int32 := if w = EN then -1 else nI w
theorem wI_neg {w : Nat} (h : w < 2 ^ 31) : (wI w < 0) = (w = EN) := by
  unfold wI
  by_cases e : w = EN
  · rw [if_pos e]
    apply propext
    exact ⟨fun _ => e, fun _ => by decide⟩
  · rw [if_neg e]
    apply propext
    exact ⟨fun q => absurd q (nI_pos (by omega)), fun q => absurd q e⟩
theorem wI_ge {w : Nat} (h : w < 2 ^ 31) : (0 ≤ wI w) = (w ≠ EN) := by
  unfold wI
  by_cases e : w = EN
  · rw [if_pos e]
    apply propext
    exact ⟨fun q => absurd q (by decide), fun q => absurd e q⟩
  · rw [if_neg e]
    apply propext
    exact ⟨fun _ => e, fun _ => nI_pos' (by omega)⟩
theorem wI_n {w : Nat} (h : w ≠ EN) : wI w = nI w := by
  unfold wI
  rw [if_neg h]
theorem lay1_m {m : Mm} {S : Sn} {L : List Cl} (h : KM m S L) (hW : Wf S) (hL : WL L) : ∃ m', iter Mo_layLand_l2 (0, m) = some m' ∧ fr pS m m' ∧ (∀ p, p < S 0 0 → m'.1 21 p = nI (SZ S L p)) ∧ ∀ p, p < S 0 0 → m'.1 22 p = nI (EX S L p) := by
  have b0 := Wf_0 hW
  obtain ⟨r, h1, h2⟩ := iter_for (step := Mo_layLand_l2) (fun k s => ∃ m', s = (nI k, m') ∧ fr pS m m' ∧ (∀ p, p < k → m'.1 21 p = nI (SZ S L p)) ∧ ∀ p, p < k → m'.1 22 p = nI (EX S L p)) (S 0 0) (fun m' => fr pS m m' ∧ (∀ p, p < S 0 0 → m'.1 21 p = nI (SZ S L p)) ∧ ∀ p, p < S 0 0 → m'.1 22 p = nI (EX S L p))
    (by
      rintro k s hk ⟨m', rfl, hs, a1, a2⟩
      have hw := KM_S h hs
      have hp : k < 7 := by omega
      obtain ⟨m2, q1, q2⟩ := sumOf_m (w := 0) hw hW hp hL (by omega)
      have s2 : fr pS m m2 := fr_tr hs (fr_HM q2)
      have s3 : fr pS m (si m2 21 k (nI (S 3 k) + nI (sumL S L 0 k))) := fr_si _ s2 (by unfold pS; omega)
      obtain ⟨m3, g1, g2⟩ := sumOf_m (w := 1) (KM_S h s3) hW hp hL (by omega)
      have s4 : fr pS m m3 := fr_tr s3 (fr_HM g2)
      unfold Mo_layLand_l2
      dsimp only
      rw [r0 hw.1, if_neg (by rw [n_le (by omega) (by omega)]; omega), ga_n (by omega) (by omega), show Mo_sumOf m' 0 (nI k) = _ from q1]
      simp (disch := omega) only [Option.bind_some, ga_n, n_cl]
      rw [r3 hw.1 hp, show Mo_sumOf (si m2 21 k (nI (S 3 k) + nI (sumL S L 0 k))) 1 (nI k) = _ from g1, ← nI_succ]
      simp only [Option.bind_some]
      refine ⟨_, rfl, _, rfl, fr_si _ s4 (by unfold pS; omega), fun p hpk => ?_, fun p hpk => ?_⟩
      · rw [si_ne (by omega), g2.1 21 p (by unfold pH; omega)]
        by_cases e : p = k
        · rw [si_e rfl e, e, n_add]
          rfl
        · rw [si_nj e, q2.1 21 p (by unfold pH; omega)]
          exact a1 p (by omega)
      · by_cases e : p = k
        · rw [si_e rfl e, e]
          rfl
        · rw [si_nj e, g2.1 22 p (by unfold pH; omega), si_ne (by omega), q2.1 22 p (by unfold pH; omega)]
          exact a2 p (by omega))
    (by
      rintro s ⟨m', rfl, hs, a1, a2⟩
      unfold Mo_layLand_l2
      dsimp only
      rw [r0 (KM_S h hs).1, if_pos (by rw [n_le (by omega) (by omega)]; omega)]
      exact ⟨_, rfl, hs, a1, a2⟩) 0 (0, m) (by omega) ⟨m, rfl, fr_rf _ _, fun p hp => absurd hp (Nat.not_lt_zero p), fun p hp => absurd hp (Nat.not_lt_zero p)⟩
  exact ⟨r, h1, h2⟩
def pLW (k _i : Nat) : Prop := k = 19 ∨ k = 20
theorem fr_pLW {m m' : Mm} (h : fr pLW m m') : fr pS m m' := fr_mono h (fun k i p => by unfold pLW at p; unfold pS; omega)
theorem lay2_m {m : Mm} {S : Sn} {L : List Cl} (h : WM m S) (hW : Wf S) (hL : WL L) (hE : ∀ p, p < S 0 0 → m.1 22 p = nI (EX S L p)) : ∃ m', iter Mo_layLand_l49 (0, m) = some m' ∧ fr pLW m m' ∧ done2 (fun p o => nI (LG S L p o)) m' 19 (S 0 0) (S 0 0) 0 ∧ done2 (fun p o => wI (W0 S L p o)) m' 20 (S 0 0) (S 0 0) 0 := by
  have b0 := Wf_0 hW
  have hw : ∀ {m'}, fr pLW m m' → WM m' S := fun hs => WM_S h (fr_pLW hs)
  obtain ⟨r, q1, q2, q3, q4⟩ := loop2 (st1 := Mo_layLand_l49) (st2 := Mo_layLand_l59) (n := S 0 0) (fun p o m' => fr pLW m m' ∧ done2 (fun p o => nI (LG S L p o)) m' 19 (S 0 0) p o ∧ done2 (fun p o => wI (W0 S L p o)) m' 20 (S 0 0) p o)
    (fun p m' hp hQ => by
      unfold Mo_layLand_l49
      dsimp only
      rw [r0 (hw hQ.1), if_neg (by rw [n_le (by omega) (by omega)]; omega)])
    (fun m' hQ => by
      unfold Mo_layLand_l49
      dsimp only
      rw [r0 (hw hQ.1), if_pos (by rw [n_le (by omega) (by omega)]; omega)])
    (fun p o m0 m' hp ho hQ => by
      have g1 := r4 (hw hQ.1) (show 7 * p + o < 49 by omega)
      have g2 := Wf_4 hW (show p < 7 by omega) (show o < 7 by omega)
      have gd := Wf_4d hW (show p < 7 by omega)
      have hl := LG_le hW hL (show p < 7 by omega) (show o < 7 by omega)
      have e4 : ∀ a, a < S 0 0 → m'.1 22 a = nI (EX S L a) := fun a ha => (hQ.1.1 22 _ (by unfold pLW; omega)).trans (hE a ha)
      have fin : ∀ (x y : Int32), x = nI (LG S L p o) → y = wI (W0 S L p o) → ∃ m2, (some (Sum.inl (nI (o + 1), si (si m' 19 (7 * p + o) x) 20 (7 * p + o) y)) : Option ((Int32 × Mm) ⊕ Mm)) = some (.inl (nI (o + 1), m2)) ∧ fr pLW m m2 ∧ done2 (fun p o => nI (LG S L p o)) m2 19 (S 0 0) p (o + 1) ∧ done2 (fun p o => wI (W0 S L p o)) m2 20 (S 0 0) p (o + 1) := fun x y hx hy => ⟨_, rfl, fr_si _ (fr_si _ hQ.1 (Or.inl rfl)) (Or.inr rfl), done2_other (done2_si hQ.2.1 ho b0 hx) (by omega), done2_si (done2_other hQ.2.2 (by omega)) ho b0 hy⟩
      unfold Mo_layLand_l59
      dsimp only
      rw [r0 (hw hQ.1), if_neg (by rw [n_le (by omega) (by omega)]; omega), i_7, n_mul, n_add, ga_n (by omega) (by omega), n_cl (by omega), g1, i_0, i_1]
      simp (disch := omega) only [ga_n, n_cl, n_add, n_eq, n_le, si_e]
      by_cases e : S 4 (7 * p + o) = 0
      · rw [if_pos e]
        by_cases e2 : p = o
        · rw [if_pos e2]
          refine fin _ _ (by rw [LG_0.mpr e]) ?_
          unfold W0
          rw [if_pos e2]
          rfl
        · rw [if_neg e2, if_pos e]
          refine fin _ _ (by rw [LG_0.mpr e]) ?_
          unfold W0
          rw [if_neg e2, if_pos (LG_0.mpr e)]
          rfl
      · have e2 : ¬ p = o := by
          intro q
          rw [← q] at e
          exact e gd
        have e3 : ¬ LG S L p o = 0 := fun q => e (LG_0.mp q)
        have e5 : W0 S L p o = LG S L p o := by
          unfold W0
          rw [if_neg e2, if_neg e3]
        have e6 : wI (W0 S L p o) = nI (LG S L p o) := by
          rw [e5]
          exact wI_n (by unfold EN; omega)
        rw [if_neg e]
        by_cases e7 : o ≤ p
        · have e8 : LG S L p o = S 4 (7 * p + o) + EX S L o := by
            unfold LG
            rw [if_neg e, if_pos (by omega)]
          rw [if_pos e7, if_neg e2, if_neg e, e4 o ho, n_add, ← e8]
          exact fin _ _ rfl e6.symm
        · have e8 : LG S L p o = S 4 (7 * p + o) + EX S L p := by
            unfold LG
            rw [if_neg e, if_neg (by omega)]
          rw [if_neg e7, if_neg e2, if_neg e, e4 p hp, n_add, ← e8]
          exact fin _ _ rfl e6.symm)
    (fun p m0 m' hp hQ => by
      unfold Mo_layLand_l59
      dsimp only
      rw [r0 (hw hQ.1), if_pos (by rw [n_le (by omega) (by omega)]; omega)])
    (fun p m' hp hQ => ⟨hQ.1, done2_row hQ.2.1, done2_row hQ.2.2⟩) (m := m) ⟨fr_rf _ _, fun a b hb hab => by omega, fun a b hb hab => by omega⟩
  exact ⟨r, q1, q2, q3, q4⟩
theorem fs_wb {w : Ws} {T b : Nat} (h : FB w b T) (hT : 2 * T < EN) {p o : Nat} (hp : p < 7) (ho : o < 7) : w p o = EN ∨ w p o < EN := by
  have := h.1 p o hp ho
  omega
theorem floyd_m {m : Mm} {S : Sn} {L : List Cl} (h : WM m S) (hW : Wf S) (hL : WL L) (hG : all2 (fun p o => wI (W0 S L p o)) m 20 (S 0 0)) : ∃ m', iter Mo_layLand_l168 (0, m) = some m' ∧ fr (pc 20) m m' ∧ all2 (fun p o => wI (WY S L p o)) m' 20 (S 0 0) := by
  have b0 := Wf_0 hW
  have hw : ∀ {m'}, fr (pc 20) m m' → WM m' S := fun hs => WM_S h (fr_pcS hs (by omega))
  obtain ⟨r, h1, h2⟩ := iter_for (step := Mo_layLand_l168) (fun b s => ∃ m', s = (nI b, m') ∧ fr (pc 20) m m' ∧ all2 (fun p o => wI (fl3 (S 0 0) (W0 S L) b p o)) m' 20 (S 0 0)) (S 0 0) (fun m' => fr (pc 20) m m' ∧ all2 (fun p o => wI (WY S L p o)) m' 20 (S 0 0))
    (by
      rintro b s hb ⟨mb, rfl, hsb, hab⟩
      have hFB := fl3_FB hW hL b0 b (by omega)
      obtain ⟨r, q1, q2, q3⟩ := loop2 (st1 := Mo_layLand_l178 (nI b, mb)) (st2 := Mo_layLand_l188 (nI b, mb)) (n := S 0 0) (fun p o m' => fr (pc 20) m m' ∧ all2 (fun x y => wI (fl1 (fl2 (S 0 0) (fl3 (S 0 0) (W0 S L) b) b p) b p o x y)) m' 20 (S 0 0))
        (fun p m' hp hQ => by
          unfold Mo_layLand_l178
          dsimp only
          rw [r0 (hw hQ.1), if_neg (by rw [n_le (by omega) (by omega)]; omega)])
        (fun m' hQ => by
          unfold Mo_layLand_l178
          dsimp only
          rw [r0 (hw hQ.1), if_pos (by rw [n_le (by omega) (by omega)]; omega)])
        (fun p o m0 m' hp ho hQ => by
          have hF := fl1_FB (fl2_FB hFB (by omega) b0 (pT (by omega)) p (by omega)) (by omega) (show p < 7 by omega) (pT (by omega)) o (by omega)
          have hT := pT (b := b) (by omega)
          have f1 := hQ.2 p b hp hb
          have f2 := hQ.2 b o hb ho
          have f3 := hQ.2 p o hp ho
          have k1 := hF.2.1 p (by omega)
          have k2 := hF.2.2.1 o (by omega)
          have k3 := hF.1 p o (by omega) (by omega)
          have hsame : ∀ (hm : (if fl1 (fl2 (S 0 0) (fl3 (S 0 0) (W0 S L) b) b p) b p o p b + fl1 (fl2 (S 0 0) (fl3 (S 0 0) (W0 S L) b) b p) b p o b o < fl1 (fl2 (S 0 0) (fl3 (S 0 0) (W0 S L) b) b p) b p o p o then fl1 (fl2 (S 0 0) (fl3 (S 0 0) (W0 S L) b) b p) b p o p b + fl1 (fl2 (S 0 0) (fl3 (S 0 0) (W0 S L) b) b p) b p o b o else fl1 (fl2 (S 0 0) (fl3 (S 0 0) (W0 S L) b) b p) b p o p o) = fl1 (fl2 (S 0 0) (fl3 (S 0 0) (W0 S L) b) b p) b p o p o), all2 (fun x y => wI (fl1 (fl2 (S 0 0) (fl3 (S 0 0) (W0 S L) b) b p) b p (o + 1) x y)) m' 20 (S 0 0) := by
            intro hm x y hx hy
            show _ = wI (fs (fl1 (fl2 (S 0 0) (fl3 (S 0 0) (W0 S L) b) b p) b p o) b p o x y)
            unfold fs
            by_cases e : x = p ∧ y = o
            · rw [if_pos e, hm, e.1, e.2]
              exact f3
            · rw [if_neg e]
              exact hQ.2 x y hx hy
          have hnext : ∀ z, z = wI (if fl1 (fl2 (S 0 0) (fl3 (S 0 0) (W0 S L) b) b p) b p o p b + fl1 (fl2 (S 0 0) (fl3 (S 0 0) (W0 S L) b) b p) b p o b o < fl1 (fl2 (S 0 0) (fl3 (S 0 0) (W0 S L) b) b p) b p o p o then fl1 (fl2 (S 0 0) (fl3 (S 0 0) (W0 S L) b) b p) b p o p b + fl1 (fl2 (S 0 0) (fl3 (S 0 0) (W0 S L) b) b p) b p o b o else fl1 (fl2 (S 0 0) (fl3 (S 0 0) (W0 S L) b) b p) b p o p o) → all2 (fun x y => wI (fl1 (fl2 (S 0 0) (fl3 (S 0 0) (W0 S L) b) b p) b p (o + 1) x y)) (si m' 20 (7 * p + o) z) 20 (S 0 0) := by
            intro z hz x y hx hy
            show _ = wI (fs (fl1 (fl2 (S 0 0) (fl3 (S 0 0) (W0 S L) b) b p) b p o) b p o x y)
            unfold fs
            by_cases e : x = p ∧ y = o
            · rw [if_pos e, si_e rfl (by omega), hz]
            · rw [if_neg e, si_nj (by omega)]
              exact hQ.2 x y hx hy
          generalize hw1 : fl1 (fl2 (S 0 0) (fl3 (S 0 0) (W0 S L) b) b p) b p o = w at *
          have hE : EN = 1000000 := rfl
          unfold Mo_layLand_l188 Mo_shorten jn
          dsimp only
          rw [r0 (hw hQ.1), if_neg (by rw [n_le (by omega) (by omega)]; omega), i_7]
          simp (disch := omega) only [ga_n, n_cl, n_mul, n_add]
          rw [f1, f2, f3, i_1]
          simp (disch := omega) only [wI_neg, wI_ge]
          by_cases c1 : w p b = EN
          · rw [if_pos c1]
            simp only [Option.bind_some, n_add]
            exact ⟨_, rfl, hQ.1, hsame (by rw [if_neg (by omega)])⟩
          rw [if_neg c1]
          by_cases c2 : w b o = EN
          · rw [if_neg (fun q => q c2)]
            simp only [Option.bind_some, n_add]
            exact ⟨_, rfl, hQ.1, hsame (by rw [if_neg (by omega)])⟩
          rw [if_pos c2, wI_n c1, wI_n c2, n_add]
          by_cases c3 : w p o = EN
          · rw [if_pos c3]
            simp only [Option.bind_some, n_add]
            refine ⟨_, rfl, fr_si _ hQ.1 rfl, hnext _ ?_⟩
            rw [if_pos (by omega), wI_n (by omega)]
          rw [if_neg c3, wI_n c3]
          simp (disch := omega) only [n_le]
          by_cases c4 : w p o ≤ w p b + w b o
          · rw [if_pos c4]
            simp only [Option.bind_some, n_add]
            exact ⟨_, rfl, hQ.1, hsame (by rw [if_neg (by omega)])⟩
          · rw [if_neg c4]
            simp only [Option.bind_some, n_add]
            refine ⟨_, rfl, fr_si _ hQ.1 rfl, hnext _ ?_⟩
            rw [if_pos (by omega), wI_n (by omega)])
        (fun p m0 m' hp hQ => by
          unfold Mo_layLand_l188
          dsimp only
          rw [r0 (hw hQ.1), if_pos (by rw [n_le (by omega) (by omega)]; omega)])
        (fun p m' hp hQ => hQ) (m := mb) ⟨hsb, hab⟩
      unfold Mo_layLand_l168
      dsimp only
      rw [r0 (hw hsb), if_neg (by rw [n_le (by omega) (by omega)]; omega), q1]
      exact ⟨_, rfl, r, by rw [nI_succ], q2, q3⟩)
    (by
      rintro s ⟨m', rfl, hs, ha⟩
      unfold Mo_layLand_l168
      dsimp only
      rw [r0 (hw hs), if_pos (by rw [n_le (by omega) (by omega)]; omega)]
      exact ⟨_, rfl, hs, ha⟩) 0 (0, m) (by omega) ⟨m, rfl, fr_rf _ _, hG⟩
  exact ⟨r, h1, h2⟩
/-- what the reference lays -/
def JM (m : Mm) (S : Sn) (L : List Cl) : Prop := (∀ p, p < S 0 0 → m.1 21 p = nI (SZ S L p)) ∧ all2 (fun p o => nI (LG S L p o)) m 19 (S 0 0) ∧ all2 (fun p o => wI (WY S L p o)) m 20 (S 0 0)
theorem lay_m {m : Mm} {S : Sn} {L : List Cl} (h : KM m S L) (hW : Wf S) (hL : WL L) : ∃ m', Mo_layLand m = some m' ∧ fr pS m m' ∧ JM m' S L := by
  obtain ⟨m1, a1, a2, a3, a4⟩ := lay1_m h hW hL
  obtain ⟨m2, b1, b2, b3, b4⟩ := lay2_m (WM_S h.1 a2) hW hL a4
  have s2 := fr_tr a2 (fr_pLW b2)
  obtain ⟨m3, c1, c2, c3⟩ := floyd_m (WM_S h.1 s2) hW hL (fun a b ha hb => done2_all b4 ha hb)
  refine ⟨m3, ?_, fr_tr s2 (fr_pcS c2 (by omega)), fun p hp => ?_, fun a b ha hb => ?_, c3⟩
  · unfold Mo_layLand
    rw [a1]
    simp only [Option.bind_some]
    rw [b1]
    simp only [Option.bind_some]
    rw [c1]
    rfl
  · rw [c2.1 21 p (by unfold pc; omega), b2.1 21 p (by unfold pLW; omega)]
    exact a3 p hp
  · rw [c2.1 19 _ (by unfold pc; omega)]
    exact done2_all b3 ha hb
