-- ===== a new road =====
theorem WY_self {S : Sn} {L : List Cl} (hW : Wf S) (hL : WL L) {p : Nat} : WY S L p p = 0 := by
  have b0 := Wf_0 hW
  unfold WY
  rcases Nat.eq_zero_or_pos (S 0 0) with e | e
  · rw [e]
    exact (W0_FB hW hL).2.2.2 p
  · obtain ⟨b, hb⟩ : ∃ b, S 0 0 = b + 1 := ⟨S 0 0 - 1, by omega⟩
    have h0 := fl3_FB hW hL b0 b (by omega)
    have h1 := (fl2_FB h0 (by omega) b0 (pT (by omega)) (S 0 0) b0).2.2.2 p
    have h3 : fl3 (S 0 0) (W0 S L) (S 0 0) = fl2 (S 0 0) (fl3 (S 0 0) (W0 S L) b) b (S 0 0) := by
      rw [show fl3 (S 0 0) (W0 S L) (S 0 0) = fl3 (S 0 0) (W0 S L) (b + 1) by rw [← hb]]
      rfl
    rw [h3]
    exact h1
def AWa (S : Sn) (L : List Cl) (p o : Nat) : Nat := if WY S L p o = EN then 999 else WY S L p o
def ALw (S : Sn) (L : List Cl) : Nat := sumN (fun p => sumN (AWa S L p) (S 0 0)) (S 0 0)
theorem sumN_le2 {f : Nat → Nat} {b n : Nat} (h : ∀ p, p < n → f p ≤ b) : ∀ k, k ≤ n → sumN f k ≤ b * k
  | 0, _ => Nat.zero_le _
  | k + 1, hk => by
    have ih := sumN_le2 h k (by omega)
    have h1 := h k (by omega)
    show sumN f k + f k ≤ b * (k + 1)
    rw [Nat.mul_succ]
    omega
theorem ALw_le {S : Sn} {L : List Cl} (hW : Wf S) (hL : WL L) : ALw S L ≤ 6830208 := by
  have b0 := Wf_0 hW
  unfold ALw
  have h1 : ∀ p, p < S 0 0 → sumN (AWa S L p) (S 0 0) ≤ 975744 := fun p hp => by
    have := sumN_le2 (f := AWa S L p) (b := 139392) (n := S 0 0) (fun o ho => by
      have := WY_le hW hL (show p < 7 by omega) (show o < 7 by omega)
      unfold AWa
      split <;> omega) (S 0 0) (Nat.le_refl _)
    omega
  have := sumN_le2 h1 (S 0 0) (Nat.le_refl _)
  omega
theorem all_c {m : Mm} {S : Sn} {L : List Cl} (hw : WC m S) (hJ : JW m S L) (hW : Wf S) (hL : WL L) : Jo_allWays m = some (nI (ALw S L)) := by
  have b0 := Wf_0 hW
  unfold Jo_allWays
  have h1 := iter_all (step := Jo_allWays_l4 m) (fun p => (nI (sumN (fun p => sumN (AWa S L p) (S 0 0)) p), nI p)) (S 0 0) (r := nI (ALw S L))
    (fun p hp => by
      have h2 := iter_all (step := Jo_allWays_l17 m (nI (sumN (fun p => sumN (AWa S L p) (S 0 0)) p), nI p)) (fun o => (nI (sumN (fun p => sumN (AWa S L p) (S 0 0)) p + sumN (AWa S L p) o), nI o)) (S 0 0) (r := nI (sumN (fun p => sumN (AWa S L p) (S 0 0)) p + sumN (AWa S L p) (S 0 0)))
        (fun o ho => by
          show _ = some (Sum.inl (nI (sumN (fun p => sumN (AWa S L p) (S 0 0)) p + (sumN (AWa S L p) o + AWa S L p o)), nI (o + 1)))
          unfold Jo_allWays_l17 AWa
          dsimp only
          rw [w0 hw, if_neg (by rw [n_le (by omega) (by omega)]; omega), leads_c hJ hW hL hp ho, NB_index_n (7 * p + o) (by omega), ga_n (by omega) (by omega), n_cl (by omega), jw6 hJ hp ho, show (999 : Int32) = nI 999 from rfl, i_1]
          simp only [Option.bind_some, n_add]
          by_cases e : WY S L p o = EN
          · rw [decide_eq_false (fun q => q e), if_neg (show ¬ false = true by decide), if_pos e, Nat.add_assoc]
          · rw [decide_eq_true e, if_pos rfl, if_neg e, Nat.add_assoc])
        (by
          unfold Jo_allWays_l17
          dsimp only
          rw [w0 hw, if_pos (by rw [n_le (by omega) (by omega)]; omega)])
      unfold Jo_allWays_l4
      dsimp only
      rw [w0 hw, if_neg (by rw [n_le (by omega) (by omega)]; omega), show iter (Jo_allWays_l17 m (nI (sumN (fun p => sumN (AWa S L p) (S 0 0)) p), nI p)) (nI (sumN (fun p => sumN (AWa S L p) (S 0 0)) p), 0) = _ from h2, ← nI_succ]
      rfl)
    (by
      unfold Jo_allWays_l4
      dsimp only
      rw [w0 hw, if_pos (by rw [n_le (by omega) (by omega)]; omega)]
      rfl)
  rw [show iter (Jo_allWays_l4 m) (0, 0) = _ from h1]
  rfl
theorem all_m {m : Mm} {S : Sn} {L : List Cl} (h : KM m S L) (hW : Wf S) (hL : WL L) : ∃ m', Mo_allWays m = some (nI (ALw S L), m') ∧ fr pS m m' := by
  have b0 := Wf_0 hW
  have hE : EN = 1000000 := rfl
  obtain ⟨m', a1, a2, a3⟩ := lay_m h hW hL
  have hw := WM_S h.1 a2
  refine ⟨m', ?_, a2⟩
  unfold Mo_allWays
  rw [a1]
  simp only [Option.bind_some]
  have h1 := iter_all (step := Mo_allWays_l8 m') (fun p => (nI (sumN (fun p => sumN (AWa S L p) (S 0 0)) p), nI p)) (S 0 0) (r := nI (ALw S L))
    (fun p hp => by
      have h2 := iter_all (step := Mo_allWays_l18 m' (nI (sumN (fun p => sumN (AWa S L p) (S 0 0)) p), nI p)) (fun o => (nI (sumN (fun p => sumN (AWa S L p) (S 0 0)) p + sumN (AWa S L p) o), nI o)) (S 0 0) (r := nI (sumN (fun p => sumN (AWa S L p) (S 0 0)) p + sumN (AWa S L p) (S 0 0)))
        (fun o ho => by
          have hle := WY_le hW hL (show p < 7 by omega) (show o < 7 by omega)
          show _ = some (Sum.inl (nI (sumN (fun p => sumN (AWa S L p) (S 0 0)) p + (sumN (AWa S L p) o + AWa S L p o)), nI (o + 1)))
          unfold Mo_allWays_l18 AWa
          dsimp only
          rw [r0 hw, if_neg (by rw [n_le (by omega) (by omega)]; omega), i_7]
          simp (disch := omega) only [n_mul, n_add, ga_n, n_cl, n_eq]
          rw [jm20 a3 hp ho, show (999 : Int32) = nI 999 from rfl, i_1]
          simp (disch := omega) only [wI_ge]
          by_cases e0 : p = o
          · rw [if_pos e0, ← e0, WY_self hW hL, if_neg (by omega), n_add, i_0, n_add, Nat.add_assoc]
          rw [if_neg e0]
          by_cases e : WY S L p o = EN
          · rw [if_pos e, if_neg (show ¬ WY S L p o ≠ EN from fun q => q e), n_add, n_add, Nat.add_assoc]
          · rw [if_neg e, if_pos (show WY S L p o ≠ EN from e), wI_n e, n_add, n_add, Nat.add_assoc])
        (by
          unfold Mo_allWays_l18
          dsimp only
          rw [r0 hw, if_pos (by rw [n_le (by omega) (by omega)]; omega)])
      unfold Mo_allWays_l8
      dsimp only
      rw [r0 hw, if_neg (by rw [n_le (by omega) (by omega)]; omega), show iter (Mo_allWays_l18 m' (nI (sumN (fun p => sumN (AWa S L p) (S 0 0)) p), nI p)) (nI (sumN (fun p => sumN (AWa S L p) (S 0 0)) p), 0) = _ from h2, ← nI_succ]
      rfl)
    (by
      unfold Mo_allWays_l8
      dsimp only
      rw [r0 hw, if_pos (by rw [n_le (by omega) (by omega)]; omega)]
      rfl)
  rw [show iter (Mo_allWays_l8 m') (0, 0) = _ from h1]
  rfl
def rdS (S : Sn) (p o n : Nat) : Sn := su (su S 4 (7 * p + o) n) 4 (7 * o + p) n
theorem rd_ne {S : Sn} {p o n f i : Nat} (h : f ≠ 4) : rdS S p o n f i = S f i := by
  unfold rdS
  rw [su_ne h, su_ne h]
theorem rd_hold {S : Sn} {ld : Nat → List Cl} {p o n : Nat} : holdL (rdS S p o n) ld = holdL S ld := by
  unfold holdL
  rw [rd_ne (by decide)]
theorem rd_Wf {S : Sn} {p o q : Nat} (hW : Wf S) (hp : p < S 0 0) (ho : o < S 0 0) (e : p ≠ o) (hq : q ≤ 99) : Wf (rdS S p o q) := by
  have b0 := Wf_0 hW
  unfold rdS
  refine Wf_up hW ?_ (fun f hf => by funext i; simp (disch := omega) only [si_e, si_ne, si_nj, sl_r, si_l, ga_n, n_cl, n_lt, n_le, n_eq, n_add, n_mul, n_sub, n_eqm, n_meq, n_mm, n_mlt, n_mle, n_ltm, Option.bind_some, if_pos, if_neg, su_ne])
  have hW0 := hW.1
  unfold WfW at hW0 ⊢
  simp (disch := omega) only [su_ne, su_e]
  obtain ⟨a1, a2, a3, a4, a5, a6, a7, a8, a9⟩ := hW0
  refine ⟨a1, a2, fun x y hx hy => ?_, a4, a5, a6, a7, a8, a9⟩
  have hz : S (0 + 0) 0 = S 0 0 := rfl
  obtain ⟨c1, c2, c3, c4⟩ := a3 x y hx hy
  simp (disch := omega) only [su_r, ix7, true_and]
  refine ⟨?_, ?_, ?_, ?_⟩
  · split
    · omega
    · split
      · omega
      · exact c1
  · split
    · split
      · rfl
      · split
        · rfl
        · omega
    · split
      · split
        · rfl
        · split
          · rfl
          · omega
      · split
        · omega
        · split
          · omega
          · exact c2
  · split
    · omega
    · split
      · omega
      · exact c3
  · intro hn
    split
    · omega
    · split
      · omega
      · exact c4 hn
theorem rd_rd {S : Sn} {p o n : Nat} (hp : p < 7) (ho : o < 7) (e : p ≠ o) (h1 : S 4 (7 * p + o) = 0) (h2 : S 4 (7 * o + p) = 0) : rdS (rdS S p o n) p o 0 = S := by
  funext a b
  unfold rdS
  rw [su_r]
  by_cases q1 : a = 4 ∧ b = 7 * o + p
  · rw [if_pos q1, q1.1, q1.2, h2]
  rw [if_neg q1, su_r]
  by_cases q2 : a = 4 ∧ b = 7 * p + o
  · rw [if_pos q2, q2.1, q2.2, h1]
  rw [if_neg q2, su_r, if_neg q1, su_r, if_neg q2]
theorem rd_c {m : Mm} {S : Sn} {ld : Nat → List Cl} {it : Nat → Nat → Int64} {p o n : Nat} (h : StC m S ld it) (hW : Wf S) (hp : p < 7) (ho : o < 7) : ∃ m', Wo_setMiles 11 m (nI p) (nI o) (nI n) = some m' ∧ StC m' (rdS S p o n) ld it := by
  unfold Wo_setMiles
  rw [NB_index_n (7 * p + o) (by omega), NB_index_n (7 * o + p) (by omega)]
  simp (disch := omega) only [ga_n, n_cl]
  exact ⟨_, rfl, StC_set (f := 4) (i := 7 * o + p) (StC_set (f := 4) (i := 7 * p + o) h (Wf_41 hW) (show 7 * p + o < 49 by omega) (by decide) rfl) (by simp (disch := omega) only [si_e, si_ne, si_nj, sl_r, si_l, ga_n, n_cl, n_lt, n_le, n_eq, n_add, n_mul, n_sub, n_eqm, n_meq, n_mm, n_mlt, n_mle, n_ltm, Option.bind_some, if_pos, if_neg, su_ne]; exact Wf_41 hW) (show 7 * o + p < 49 by omega) (by decide) rfl⟩
theorem rd_m {m : Mm} {S : Sn} {ld : Nat → List Cl} {it : Nat → Nat → Int64} {p o n : Nat} (h : StM m S ld it) (hp : p < 7) (ho : o < 7) : StM (si (si m 5 (7 * p + o) (nI n)) 5 (7 * o + p) (nI n)) (rdS S p o n) ld it :=
  StM_set (f := 4) (i := 7 * o + p) (StM_set (f := 4) (i := 7 * p + o) h (show 7 * p + o < 49 by omega) (by decide) rfl) (show 7 * o + p < 49 by omega) (by decide) rfl
def rcst (S : Sn) (L : List Cl) (n p o : Nat) : Nat := ALw (rdS S p o n) L
theorem with_c {m : Mm} {S : Sn} {ld : Nat → List Cl} {it : Nat → Nat → Int64} {p o n : Nat} (hC : StC m S ld it) (hW : Wf S) (hL : ∀ j, j < S 41 0 → WL (ld j)) (hp : p < S 0 0) (ho : o < S 0 0) (e : p ≠ o) (hn : n ≤ 99) (hz : S 4 (7 * p + o) = 0) : ∃ m', NB_allWaysWith m (nI p) (nI o) (nI n) = some (nI (rcst S (holdL S ld) n p o), m') ∧ StC m' S ld it := by
  have b0 := Wf_0 hW
  have hp7 : p < 7 := by omega
  have ho7 : o < 7 := by omega
  have hW2 := rd_Wf (q := n) hW hp ho e hn
  have hL2 : ∀ j, j < rdS S p o n 41 0 → WL (ld j) := fun j hj => hL j (by rw [rd_ne (by decide)] at hj; exact hj)
  obtain ⟨ma, a1, a2⟩ := rd_c (n := n) hC hW hp7 ho7
  obtain ⟨mb, b1, b2, b3, b4⟩ := look_0 a2 hW2 hL2
  have c1 := all_c b4 b3.1 hW2 (hold_WL hW2 hL2)
  obtain ⟨mc, d1, d2⟩ := rd_c (n := 0) (StC_same a2 (fr_SC b2) (Wf_41 hW2)) hW2 hp7 ho7
  rw [rd_rd hp7 ho7 e hz (by rw [Wf_4s hW ho7 hp7]; exact hz)] at d2
  rw [rd_hold] at c1
  refine ⟨mc, ?_, d2⟩
  unfold NB_allWaysWith
  rw [a1]
  simp only [Option.bind_some]
  rw [b1]
  simp only [Option.bind_some]
  rw [c1]
  simp only [Option.bind_some]
  rw [show Wo_setMiles 11 mb (nI p) (nI o) 0 = _ from d1]
  rfl
def nrI (S : Sn) (L : List Cl) (n : Nat) (s : Bs) (p o : Nat) : Bs := if S 4 (7 * p + o) = 0 ∧ (s.1 = none ∨ rcst S L n p o < s.2) then (some (10 * p + o), rcst S L n p o) else s
def nrE (s : Bs) : Int32 × Int32 := (oI (-5) s.1, nI s.2)
def nrOk (s : Bs) : Prop := (∀ k, s.1 = some k → k < 100) ∧ s.2 ≤ 6830208
theorem newR_c {m : Mm} {S : Sn} {ld : Nat → List Cl} {it : Nat → Nat → Int64} {n : Nat} (hC : StC m S ld it) (hW : Wf S) (hL : ∀ j, j < S 41 0 → WL (ld j)) (hn : n ≤ 99) : ∃ m', iter (NB_newRoad_l41 (nI n)) ((-5), 0, 0, m) = some ((nrE (tr2 (nrI S (holdL S ld) n) (S 0 0) (none, 0) (S 0 0))).1, (nrE (tr2 (nrI S (holdL S ld) n) (S 0 0) (none, 0) (S 0 0))).2, m') ∧ StC m' S ld it ∧ nrOk (tr2 (nrI S (holdL S ld) n) (S 0 0) (none, 0) (S 0 0)) := by
  have b0 := Wf_0 hW
  refine tri (st1 := NB_newRoad_l41 (nI n)) (st2 := NB_newRoad_l59 (nI n)) (n := S 0 0) (fun m => StC m S ld it) nrE (nrI S (holdL S ld) n) nrOk (s0 := (none, 0)) ?_ ?_ ?_ ?_ hC ⟨fun k h => (by cases h), Nat.zero_le _⟩
  · intro a b p m hp hP
    unfold NB_newRoad_l41
    dsimp only
    rw [cF0 hP.1, if_neg (by rw [n_le (by omega) (by omega)]; omega)]
  · intro a b m hP
    unfold NB_newRoad_l41
    dsimp only
    rw [cF0 hP.1, if_pos (by rw [n_le (by omega) (by omega)]; omega)]
  · intro a b m0 s p o m hpo ho hP hk
    have hle : rcst S (holdL S ld) n p o ≤ 6830208 := ALw_le (rd_Wf hW (show p < S 0 0 by omega) ho (by omega) hn) (hold_WL hW hL)
    have hk10 : 10 * p + o < 100 := by omega
    have hnew : nrOk (some (10 * p + o), rcst S (holdL S ld) n p o) := ⟨fun k h => (by cases h; exact hk10), hle⟩
    have q1 : m.1 (11 + 4) (7 * p + o) = nI (S 4 (7 * p + o)) := cF4 hP.1 (by omega)
    have q2 := Wf_4 hW (show p < 7 by omega) (show o < 7 by omega)
    unfold NB_newRoad_l59 jn nrI
    dsimp only
    rw [cF0 hP.1, if_neg (by rw [n_le (by omega) (by omega)]; omega), NB_index_n (7 * p + o) (by omega), ga_n (by omega) (by omega), n_cl (by omega), q1]
    by_cases hz : S 4 (7 * p + o) = 0
    case neg =>
      rw [if_neg (nI_ne0 (by omega) (by omega)), if_neg (fun q => hz q.1)]
      exact ⟨m, by rw [i_1, n_add], hP, hk⟩
    obtain ⟨m', c1, c2⟩ := with_c hP hW hL (show p < S 0 0 by omega) ho (by omega) hn hz
    rw [if_pos (by rw [hz]; rfl), c1]
    simp only [Option.bind_some, i_10, i_1, n_mul, n_add]
    obtain ⟨s1, s2⟩ := s
    match s1, hk with
    | none, hk =>
      rw [if_pos (show (nrE (none, s2)).1 = -5 from rfl), if_pos ⟨hz, Or.inl rfl⟩]
      exact ⟨m', rfl, c2, hnew⟩
    | some k, hk =>
      have hk1 := hk.1 k rfl
      have hk2 : s2 ≤ 6830208 := hk.2
      rw [if_neg (show ¬ (nrE (some k, s2)).1 = -5 from cneg5 (by omega))]
      by_cases g : rcst S (holdL S ld) n p o < s2
      · rw [if_neg (show ¬ (nrE (some k, s2)).2 ≤ nI (rcst S (holdL S ld) n p o) from (show ¬ nI s2 ≤ nI (rcst S (holdL S ld) n p o) from (by rw [n_le (by omega) (by omega)]; omega))), if_pos ⟨hz, Or.inr g⟩]
        exact ⟨m', rfl, c2, hnew⟩
      · rw [if_pos (show (nrE (some k, s2)).2 ≤ nI (rcst S (holdL S ld) n p o) from (show nI s2 ≤ nI (rcst S (holdL S ld) n p o) from (by rw [n_le (by omega) (by omega)]; omega))), if_neg (fun q => q.2.elim (fun q => by cases q) g)]
        exact ⟨m', rfl, c2, hk⟩
  · intro a b m0 a' b' p m hP
    unfold NB_newRoad_l59
    dsimp only
    rw [cF0 hP.1, if_pos (by rw [n_le (by omega) (by omega)]; omega)]
theorem newR_m {m : Mm} {S : Sn} {ld : Nat → List Cl} {it : Nat → Nat → Int64} {n : Nat} (hM : StM m S ld it) (hW : Wf S) (hL : ∀ j, j < S 41 0 → WL (ld j)) (hn : n ≤ 99) : ∃ m', iter (Mo_newRoad_l41 (nI n)) ((-5), 0, 0, m) = some ((nrE (tr2 (nrI S (holdL S ld) n) (S 0 0) (none, 0) (S 0 0))).1, (nrE (tr2 (nrI S (holdL S ld) n) (S 0 0) (none, 0) (S 0 0))).2, m') ∧ StM m' S ld it ∧ nrOk (tr2 (nrI S (holdL S ld) n) (S 0 0) (none, 0) (S 0 0)) := by
  have b0 := Wf_0 hW
  refine tri (st1 := Mo_newRoad_l41 (nI n)) (st2 := Mo_newRoad_l56 (nI n)) (n := S 0 0) (fun m => StM m S ld it) nrE (nrI S (holdL S ld) n) nrOk (s0 := (none, 0)) ?_ ?_ ?_ ?_ hM ⟨fun k h => (by cases h), Nat.zero_le _⟩
  · intro a b p m hp hP
    unfold Mo_newRoad_l41
    dsimp only
    rw [rF0 hP.1, if_neg (by rw [n_le (by omega) (by omega)]; omega)]
  · intro a b m hP
    unfold Mo_newRoad_l41
    dsimp only
    rw [rF0 hP.1, if_pos (by rw [n_le (by omega) (by omega)]; omega)]
  · intro a b m0 s p o m hpo ho hP hk
    have hW2 := rd_Wf (q := n) hW (show p < S 0 0 by omega) ho (by omega) hn
    have hL2 : ∀ j, j < rdS S p o n 41 0 → WL (ld j) := fun j hj => hL j (by rw [rd_ne (by decide)] at hj; exact hj)
    have hle : rcst S (holdL S ld) n p o ≤ 6830208 := ALw_le hW2 (hold_WL hW hL)
    have hk10 : 10 * p + o < 100 := by omega
    have hnew : nrOk (some (10 * p + o), rcst S (holdL S ld) n p o) := ⟨fun k h => (by cases h; exact hk10), hle⟩
    have q1 := rF4 hP.1 (show 7 * p + o < 49 by omega)
    have q2 := Wf_4 hW (show p < 7 by omega) (show o < 7 by omega)
    unfold Mo_newRoad_l56 jn nrI
    dsimp only
    rw [rF0 hP.1, if_neg (by rw [n_le (by omega) (by omega)]; omega), i_7]
    simp (disch := omega) only [n_mul, n_add, ga_n, n_cl]
    rw [q1]
    by_cases hz : S 4 (7 * p + o) = 0
    case neg =>
      rw [if_neg (by rw [i_0, n_le (by omega) (by omega)]; omega), if_neg (fun q => hz q.1)]
      exact ⟨m, by rw [i_1, n_add], hP, hk⟩
    have sM := rd_m (n := n) hP (show p < 7 by omega) (show o < 7 by omega)
    obtain ⟨mb, c1, c2⟩ := all_m (KM_of sM hW2) hW2 (hold_WL hW2 hL2)
    have sM2 := rd_m (n := 0) (StM_same sM (fr_SM c2)) (show p < 7 by omega) (show o < 7 by omega)
    rw [rd_rd (by omega) (by omega) (by omega) hz (by rw [Wf_4s hW (show o < 7 by omega) (show p < 7 by omega)]; exact hz)] at sM2
    rw [rd_hold] at c1
    rw [if_pos (by rw [hz]; decide), c1]
    simp (disch := omega) only [Option.bind_some, i_10, i_1, i_0, n_mul, n_add, ga_n]
    obtain ⟨s1, s2⟩ := s
    match s1, hk with
    | none, hk =>
      rw [if_pos (show (nrE (none, s2)).1 < nI 0 by show (-5 : Int32) < 0; decide), if_pos ⟨hz, Or.inl rfl⟩]
      exact ⟨_, rfl, sM2, hnew⟩
    | some k, hk =>
      have hk1 := hk.1 k rfl
      have hk2 : s2 ≤ 6830208 := hk.2
      rw [if_neg (show ¬ (nrE (some k, s2)).1 < nI 0 from nI_pos (by omega))]
      by_cases g : rcst S (holdL S ld) n p o < s2
      · rw [if_pos (show nI (ALw (rdS S p o n) (holdL S ld)) < (nrE (some k, s2)).2 from (show nI (rcst S (holdL S ld) n p o) < nI s2 from (by rw [n_lt (by omega) (by omega)]; omega))), if_pos ⟨hz, Or.inr g⟩]
        exact ⟨_, rfl, sM2, hnew⟩
      · rw [if_neg (show ¬ nI (ALw (rdS S p o n) (holdL S ld)) < (nrE (some k, s2)).2 from (show ¬ nI (rcst S (holdL S ld) n p o) < nI s2 from (by rw [n_lt (by omega) (by omega)]; omega))), if_neg (fun q => q.2.elim (fun q => by cases q) g)]
        exact ⟨_, rfl, sM2, hk⟩
  · intro a b m0 a' b' p m hP
    unfold Mo_newRoad_l56
    dsimp only
    rw [rF0 hP.1, if_pos (by rw [n_le (by omega) (by omega)]; omega)]
theorem H22 : lwH22 Inv := by
  intro m1 m2 a1 a2 hI
  obtain ⟨S, ld, it, hC, hM, hW, hL⟩ := id hI
  unfold NB_newRoad Mo_newRoad
  rw [part_c, in1, Mo_in_eq]
  cases e1 : inR a2 2 with
  | false => exact ⟨_, _, _, rfl, rfl, hI⟩
  | true =>
  simp only [↓reduceIte]
  have h1i : (1 : Int32).toInt = 1 := by decide
  have h99 : (99 : Int32).toInt = 99 := by decide
  rw [h1i, h99]
  by_cases c1 : a1 < 1
  · rw [if_pos c1]
    rw [Int32.lt_iff_toInt_lt, h1i] at c1
    rw [decide_eq_false (fun q => by omega)]
    exact ⟨_, _, _, rfl, rfl, hI⟩
  rw [if_neg c1]
  rw [Int32.lt_iff_toInt_lt, h1i] at c1
  by_cases c2 : a1 ≤ 99
  case neg =>
    rw [if_neg c2]
    rw [Int32.le_iff_toInt_le, h99] at c2
    rw [decide_eq_false (fun q => by omega)]
    exact ⟨_, _, _, rfl, rfl, hI⟩
  rw [if_pos c2]
  rw [Int32.le_iff_toInt_le, h99] at c2
  rw [decide_eq_true ⟨by omega, by omega⟩]
  obtain ⟨n, hn, rfl⟩ := nI_of2 (x := a1) (M := 99) (n := 99) h99 (by rw [Int32.lt_iff_toInt_lt]; show ¬ a1.toInt < 0; omega) (by rw [Int32.le_iff_toInt_le, h99]; exact c2)
  obtain ⟨m1', x1, x2, x3, x4⟩ := look_0 hC hW hL
  obtain ⟨m2', y1, y2⟩ := all_m (KM_of hM hW) hW (hold_WL hW hL)
  obtain ⟨m1'', u1, u2, u3⟩ := newR_c (n := n) (StC_same hC (fr_SC x2) (Wf_41 hW)) hW hL hn
  obtain ⟨m2'', v1, v2, v3⟩ := newR_m (n := n) (StM_same hM (fr_SM y2)) hW hL hn
  simp only [↓reduceIte]
  rw [x1, y1]
  simp only [Option.bind_some]
  rw [all_c x4 x3.1 hW (hold_WL hW hL), v1]
  simp only [Option.bind_some]
  rw [u1]
  simp only [Option.bind_some]
  have hInv : Inv m1'' m2'' := ⟨S, ld, it, u2, v2, hW, hL⟩
  generalize tr2 (nrI S (holdL S ld) n) (S 0 0) (none, 0) (S 0 0) = s at u3 ⊢
  obtain ⟨s1, s2⟩ := s
  match s1, u3 with
  | none, u3 =>
    rw [if_pos (show (nrE (none, s2)).1 < 0 by show (-5 : Int32) < 0; decide), if_pos (show (nrE (none, s2)).1 = -5 from rfl), ite_self]
    exact ⟨_, _, _, rfl, rfl, hInv⟩
  | some k, u3 =>
    have hk1 := u3.1 k rfl
    rw [if_neg (show ¬ (nrE (some k, s2)).1 < 0 from nI_pos (by omega)), if_neg (show ¬ (nrE (some k, s2)).1 = -5 from cneg5 (by omega))]
    by_cases e : a2 = 0
    · rw [if_pos e, if_pos e]
      exact ⟨_, _, _, rfl, rfl, hInv⟩
    · rw [if_neg e, if_neg e]
      exact ⟨_, _, _, rfl, rfl, hInv⟩
