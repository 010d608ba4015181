-- ===== aims, steps, the look =====
def AIM (S : Sn) (L : List Cl) (p t : Nat) : Option Nat :=
  if nmd S p t = true then some t else if 0 < S 4 (7 * p + t) then some t else
  if S 1 p = 1 then nearF S L p (S 0 0) else if S 1 p = 2 then greatF S L p (S 0 0) else if S 1 p = 3 then lastF S p else if S 1 p = 4 then some t else
  if S 1 p = 5 then (if S 2 p % S 0 0 = p then greatF S L p (S 0 0) else some (S 2 p % S 0 0)) else
  if S 1 p = 6 then (if S 2 p ≤ 4 then none else lastF S p) else leastF S p
theorem AIM_lt {S : Sn} {L : List Cl} {p t g : Nat} (ht : t < S 0 0) (h : AIM S L p t = some g) : g < S 0 0 := by
  unfold AIM at h
  repeat' split at h
  all_goals first
    | (cases h; exact ht)
    | (cases h; done)
    | exact nearF_lt _ _ h
    | exact greatF_lt _ _ h
    | exact lastF_lt h
    | (cases h; exact Nat.mod_lt _ (by omega))
    | (unfold leastF at h; have := fstN_some _ _ _ h; omega)
theorem cap_c2 {m : Mm} {S : Sn} (hw : WC m S) (hW : Wf S) {p : Nat} (hp : p < S 0 0) : Jo_capitalOf m (nI p) = some (nI (S 2 p % S 0 0)) := by
  have b0 := Wf_0 hW
  have b2 := Wf_2 hW (show p < 7 by omega)
  unfold Jo_capitalOf
  rw [w0 hw, if_neg (by rw [i_0]; exact (by rw [n_le (by omega) (by omega)]; omega)), ga_n (by omega) (by omega), n_cl (by omega), w2 hw (by omega), pk_rem (by omega) (by omega) (by omega)]
  unfold gz
  rw [if_neg (nI_ne0 (by omega) (by omega))]
theorem bind_oI {α : Type} (x : Option α) : (x.bind fun r => some r) = x := by cases x <;> rfl
theorem aim_c {m : Mm} {S : Sn} {L : List Cl} (hw : WC m S) (hJ : JW m S L) (hW : Wf S) (hL : WL L) {p t : Nat} (hp : p < S 0 0) (ht : t < S 0 0) : Jo_aimAt m (nI p) (nI t) = some (oI (-1) (AIM S L p t)) := by
  have b0 := Wf_0 hW
  have b1 := Wf_1 hW (show p < 7 by omega)
  have b2 := Wf_2 hW (show p < 7 by omega)
  have b3 := LG_le hW hL (show p < 7 by omega) (show t < 7 by omega)
  have hmod := Nat.mod_lt (S 2 p) (show S 0 0 > 0 by omega)
  have hLG := LG_0 (S := S) (L := L) (p := p) (o := t)
  unfold Jo_aimAt AIM jn
  rw [namesW hw hW (by omega) (by omega), NB_index_n (7 * p + t) (by omega), cap_c2 hw hW hp, least_c hw hW (by omega), nearest_c hw hJ hW hL hp, great_c hw hJ hW hL hp, last_c hw hW (by omega)]
  cases hb : nmd S p t with
  | true => rfl
  | false =>
  simp only [Option.bind_some, Bool.false_eq_true, ↓reduceIte]
  simp (maxSteps := 1000000) (disch := omega) only [ga_n, n_cl]
  rw [w1 hw (by omega), w2 hw (by omega), jw5 hJ hp ht]
  by_cases e : S 4 (7 * p + t) = 0
  case neg =>
    rw [if_neg (by rw [i_0, n_le (by omega) (by omega)]; intro q; exact e (hLG.mp (by omega))), if_pos (show 0 < S 4 (7 * p + t) by omega)]
    rfl
  have e' : LG S L p t = 0 := hLG.mpr e
  rw [if_neg (show ¬ 0 < S 4 (7 * p + t) by omega), e', if_pos (by rw [i_0, n_le (by omega) (by omega)]; omega)]
  simp (disch := omega) only [i_0, i_1, i_2, i_3, i_4, i_5, n_eq, n_le]
  have hk : S 1 p = 0 ∨ S 1 p = 1 ∨ S 1 p = 2 ∨ S 1 p = 3 ∨ S 1 p = 4 ∨ S 1 p = 5 ∨ S 1 p = 6 := by omega
  rcases hk with k | k | k | k | k | k | k
  all_goals by_cases g : S 2 p % S 0 0 = p
  all_goals by_cases g2 : S 2 p ≤ 4
  all_goals simp (disch := omega) only [if_pos, if_neg]
  all_goals rfl
theorem goal_m {m : Mm} {S : Sn} {L : List Cl} (hw : WM m S) (hJ : JM m S L) (hW : Wf S) (hL : WL L) {p t : Nat} (hp : p < S 0 0) (ht : t < S 0 0) : Mo_goalOf m (nI p) (nI t) = some (oI (-5) (AIM S L p t)) := by
  have b0 := Wf_0 hW
  have b1 := Wf_1 hW (show p < 7 by omega)
  have b2 := Wf_2 hW (show p < 7 by omega)
  have b4 := Wf_4 hW (show p < 7 by omega) (show t < 7 by omega)
  have hmod := Nat.mod_lt (S 2 p) (show S 0 0 > 0 by omega)
  have hnz : ¬ nI (S 0 0) = 0 := nI_ne0 (by omega) (by omega)
  unfold Mo_goalOf AIM
  rw [i_7, n_mul, n_add, least_m hw hW (by omega), nearest_m hw hJ hW hL hp, great_m hw hJ hW hL hp, last_m hw hW (by omega)]
  simp (disch := omega) only [Option.bind_some, ga_n, n_cl]
  rw [r1 hw (by omega), r2 hw (by omega), r0 hw, r4 hw (by omega), r5 hw (by omega), has_n (Wf_5 hW (by omega)) (by omega), show (S 5 p).testBit t = nmd S p t from rfl, pk_rem (by omega) (by omega) (by omega)]
  unfold gz
  rw [if_neg hnz, if_neg hnz]
  cases hb : nmd S p t with
  | true => rfl
  | false =>
  simp only [Bool.false_eq_true, ↓reduceIte]
  by_cases e : S 4 (7 * p + t) = 0
  case neg =>
    rw [if_neg (by rw [i_0, n_le (by omega) (by omega)]; omega), if_pos (show 0 < S 4 (7 * p + t) by omega)]
    rfl
  rw [if_neg (show ¬ 0 < S 4 (7 * p + t) by omega), e, if_pos (by rw [i_0, n_le (by omega) (by omega)]; omega)]
  simp (disch := omega) only [i_1, i_2, i_3, i_4, i_5, i_6, n_eq, n_le]
  have hk : S 1 p = 0 ∨ S 1 p = 1 ∨ S 1 p = 2 ∨ S 1 p = 3 ∨ S 1 p = 4 ∨ S 1 p = 5 ∨ S 1 p = 6 := by omega
  rcases hk with k | k | k | k | k | k | k
  all_goals by_cases g : S 2 p % S 0 0 = p
  all_goals by_cases g2 : S 2 p ≤ 4
  all_goals simp (disch := omega) only [if_pos, if_neg]
  all_goals rfl
/-- a false arm: where, to which, to which instead -/
abbrev Fa : Type := Option (Nat × Nat × Nat)
def faG (fa : Fa) (p g : Nat) : Nat := match fa with
  | none => g
  | some (a, b, c) => if p = a ∧ g = b then c else g
def faB (fa : Fa) (n : Nat) : Prop := match fa with
  | none => True
  | some (a, b, c) => a < n ∧ b < n ∧ c < n
def faC (m : Mm) (fa : Fa) : Prop := match fa with
  | none => m.1 1 10 = -1
  | some (a, b, c) => m.1 1 10 = nI a ∧ m.1 1 11 = nI b ∧ m.1 1 12 = nI c
theorem faG_lt {fa : Fa} {p g n : Nat} (h : faB fa n) (hg : g < n) : faG fa p g < n := by
  match fa, h with
  | none, _ => exact hg
  | some (a, b, c), h =>
    show (if p = a ∧ g = b then c else g) < n
    split
    · exact h.2.2
    · exact hg
def STo (S : Sn) (L : List Cl) (fa : Fa) (p t : Nat) : Option Nat := if p = t then none else (AIM S L p t).bind (fun g => TWo S L p (faG fa p g))
theorem STo_lt {S : Sn} {L : List Cl} {fa : Fa} {p t g : Nat} (h : STo S L fa p t = some g) : g < S 0 0 := by
  unfold STo at h
  split at h
  · cases h
  · match hh : AIM S L p t with
    | none => rw [hh] at h; cases h
    | some k =>
      rw [hh] at h
      exact TWo_lt h
theorem towards_c {m : Mm} {S : Sn} {L : List Cl} (h : WC m S) (hJ : JW m S L) (hW : Wf S) (hL : WL L) : ∃ m', Jo_findTowards m = some m' ∧ fr (pc 7) m m' ∧ done2 (fun p o => oI (-5) (TWo S L p o)) m' 7 (S 0 0) (S 0 0) 0 := by
  have b0 := Wf_0 hW
  have hw : ∀ {m'}, fr (pc 7) m m' → WC m' S := fun hs => WC_L h (fr_pc hs (by omega))
  have hj : ∀ {m'}, fr (pc 7) m m' → JW m' S L := fun hs => JW_keep hJ (fun k i a => hs.1 k i (by unfold pc; omega))
  unfold Jo_findTowards
  obtain ⟨r, q1, q2, q3⟩ := loop2 (st1 := Jo_findTowards_l2) (st2 := Jo_findTowards_l15) (n := S 0 0) (fun p o m' => fr (pc 7) m m' ∧ done2 (fun p o => oI (-5) (TWo S L p o)) m' 7 (S 0 0) p o)
    (fun p m' hp hQ => by
      unfold Jo_findTowards_l2
      dsimp only
      rw [w0 (hw hQ.1), if_neg (by rw [n_le (by omega) (by omega)]; omega)])
    (fun m' hQ => by
      unfold Jo_findTowards_l2
      dsimp only
      rw [w0 (hw hQ.1), if_pos (by rw [n_le (by omega) (by omega)]; omega)])
    (fun p o m0 m' hp ho hQ => by
      unfold Jo_findTowards_l15
      dsimp only
      rw [w0 (hw hQ.1), if_neg (by rw [n_le (by omega) (by omega)]; omega), first_c (hw hQ.1) (hj hQ.1) hW hL hp ho, NB_index_n (7 * p + o) (by omega)]
      simp (disch := omega) only [Option.bind_some, ga_n, n_cl, i_1, n_add]
      exact ⟨_, rfl, fr_si _ hQ.1 rfl, done2_si hQ.2 ho b0 rfl⟩)
    (fun p m0 m' hp hQ => by
      unfold Jo_findTowards_l15
      dsimp only
      rw [w0 (hw hQ.1), if_pos (by rw [n_le (by omega) (by omega)]; omega)])
    (fun p m' hp hQ => ⟨hQ.1, done2_row hQ.2⟩) (m := m) ⟨fr_rf _ _, fun a b hb hab => by omega⟩
  exact ⟨r, by rw [q1]; rfl, q2, q3⟩
theorem steps_c {m : Mm} {S : Sn} {L : List Cl} {fa : Fa} (h : WC m S) (hJ : JW m S L) (hW : Wf S) (hL : WL L) (hT : done2 (fun p o => oI (-5) (TWo S L p o)) m 7 (S 0 0) (S 0 0) 0) (hB : faB fa (S 0 0)) (hF : faC m fa) : ∃ m', Jo_findSteps m = some m' ∧ fr (pc 8) m m' ∧ done2 (fun p o => oI (-5) (STo S L fa p o)) m' 8 (S 0 0) (S 0 0) 0 := by
  have b0 := Wf_0 hW
  have hw : ∀ {m'}, fr (pc 8) m m' → WC m' S := fun hs => WC_L h (fr_pc hs (by omega))
  have hj : ∀ {m'}, fr (pc 8) m m' → JW m' S L := fun hs => JW_keep hJ (fun k i a => hs.1 k i (by unfold pc; omega))
  unfold Jo_findSteps
  obtain ⟨r, q1, q2, q3⟩ := loop2 (st1 := Jo_findSteps_l2) (st2 := Jo_findSteps_l15) (n := S 0 0) (fun p o m' => fr (pc 8) m m' ∧ done2 (fun p o => oI (-5) (STo S L fa p o)) m' 8 (S 0 0) p o)
    (fun p m' hp hQ => by
      unfold Jo_findSteps_l2
      dsimp only
      rw [w0 (hw hQ.1), if_neg (by rw [n_le (by omega) (by omega)]; omega)])
    (fun m' hQ => by
      unfold Jo_findSteps_l2
      dsimp only
      rw [w0 (hw hQ.1), if_pos (by rw [n_le (by omega) (by omega)]; omega)])
    (fun p o m0 m' hp ho hQ => by
      have c10 : m'.1 1 10 = m.1 1 10 := hQ.1.1 1 10 (by unfold pc; omega)
      have c11 : m'.1 1 11 = m.1 1 11 := hQ.1.1 1 11 (by unfold pc; omega)
      have c12 : m'.1 1 12 = m.1 1 12 := hQ.1.1 1 12 (by unfold pc; omega)
      have tw : ∀ g, g < S 0 0 → m'.1 7 (7 * p + g) = oI (-5) (TWo S L p g) := fun g hg => (hQ.1.1 7 _ (by unfold pc; omega)).trans (done2_all hT hp hg)
      have fin : ∀ (x : Int32), x = oI (-5) (STo S L fa p o) → ∃ m2, (some (Sum.inl (nI o + 1, si m' 8 (7 * p + o) x)) : Option ((Int32 × Mm) ⊕ Mm)) = some (.inl (nI (o + 1), m2)) ∧ fr (pc 8) m m2 ∧ done2 (fun p o => oI (-5) (STo S L fa p o)) m2 8 (S 0 0) p (o + 1) := fun x hx => ⟨_, by rw [nI_succ], fr_si _ hQ.1 rfl, done2_si hQ.2 ho b0 hx⟩
      have goS : ∀ g, g < S 0 0 → p ≠ o → AIM S L p o = some g → ∀ z, z = nI (faG fa p g) → ∃ m2, (if 0 ≤ z then ga (NB_index (nI p) z) 49 (ga (nI (7 * p + o)) 49 (some (Sum.inl (nI o + 1, si m' 8 (nI (7 * p + o)).toNatClampNeg (m'.1 7 (NB_index (nI p) z).toNatClampNeg))))) else ga (nI (7 * p + o)) 49 (some (Sum.inl (nI o + 1, si m' 8 (nI (7 * p + o)).toNatClampNeg (-5)))) : Option ((Int32 × Mm) ⊕ Mm)) = some (.inl (nI (o + 1), m2)) ∧ fr (pc 8) m m2 ∧ done2 (fun p o => oI (-5) (STo S L fa p o)) m2 8 (S 0 0) p (o + 1) := by
        intro g hg hne hA z hz
        have hlt := faG_lt (p := p) hB hg
        rw [hz, if_pos (nI_pos' (by omega)), NB_index_n (7 * p + faG fa p g) (by omega)]
        simp (disch := omega) only [ga_n, n_cl]
        rw [tw _ hlt]
        refine fin _ ?_
        unfold STo
        rw [if_neg hne, hA]
        rfl
      have nowh : ∀ z, ¬ 0 ≤ z → STo S L fa p o = none → ∃ m2, (if 0 ≤ z then ga (NB_index (nI p) z) 49 (ga (nI (7 * p + o)) 49 (some (Sum.inl (nI o + 1, si m' 8 (nI (7 * p + o)).toNatClampNeg (m'.1 7 (NB_index (nI p) z).toNatClampNeg))))) else ga (nI (7 * p + o)) 49 (some (Sum.inl (nI o + 1, si m' 8 (nI (7 * p + o)).toNatClampNeg (-5)))) : Option ((Int32 × Mm) ⊕ Mm)) = some (.inl (nI (o + 1), m2)) ∧ fr (pc 8) m m2 ∧ done2 (fun p o => oI (-5) (STo S L fa p o)) m2 8 (S 0 0) p (o + 1) := by
        intro z hz hS
        rw [if_neg hz]
        simp (disch := omega) only [ga_n, n_cl]
        exact fin _ (by rw [hS]; rfl)
      unfold Jo_findSteps_l15 jn
      dsimp only
      rw [w0 (hw hQ.1), if_neg (by rw [n_le (by omega) (by omega)]; omega), aim_c (hw hQ.1) (hj hQ.1) hW hL hp ho, NB_index_n (7 * p + o) (by omega), c10, c11, c12]
      simp only [Option.bind_some]
      have hm1 : ¬ (0 : Int32) ≤ -1 := by decide
      by_cases e : p = o
      · have hS : STo S L fa p o = none := by unfold STo; rw [if_pos e]
        rw [if_pos (by rw [e])]
        match fa, hF, hB, hS, nowh with
        | none, hF, _, hS, nowh =>
          rw [show m.1 1 10 = -1 from hF, if_neg (cne1 (by omega))]
          exact nowh _ hm1 hS
        | some (a, b, c), hF, hB, hS, nowh =>
          have hm2 : ¬ (-1 : Int32) = nI b := fun q => cne1 (c := b) (by have := hB.2.1; omega) q.symm
          rw [hF.1, hF.2.1, if_neg hm2, ite_self]
          exact nowh _ hm1 hS
      · rw [if_neg (by rw [n_eq (by omega) (by omega)]; exact e)]
        match hA : AIM S L p o with
        | none =>
          have hS : STo S L fa p o = none := by unfold STo; rw [if_neg e, hA]; rfl
          show ∃ m2, (if nI p = m.1 1 10 then (if (-1 : Int32) = m.1 1 11 then _ else _) else _) = _ ∧ _
          match fa, hF, hB, hS, nowh with
          | none, hF, _, hS, nowh =>
            rw [show m.1 1 10 = -1 from hF, if_neg (cne1 (by omega))]
            exact nowh _ hm1 hS
          | some (a, b, c), hF, hB, hS, nowh =>
            have hm2 : ¬ (-1 : Int32) = nI b := fun q => cne1 (c := b) (by have := hB.2.1; omega) q.symm
            rw [hF.1, hF.2.1, if_neg hm2, ite_self]
            exact nowh _ hm1 hS
        | some g =>
          have hg := AIM_lt ho hA
          show ∃ m2, (if nI p = m.1 1 10 then (if nI g = m.1 1 11 then _ else _) else _) = _ ∧ _
          match fa, hF, hB, goS with
          | none, hF, _, goS =>
            rw [show m.1 1 10 = -1 from hF, if_neg (cne1 (by omega))]
            exact goS g hg e hA _ rfl
          | some (a, b, c), hF, hB, goS =>
            have ha := hB.1
            have hb := hB.2.1
            rw [hF.1, hF.2.1, hF.2.2]
            simp (disch := omega) only [n_eq]
            by_cases e1 : p = a
            · rw [if_pos e1]
              by_cases e2 : g = b
              · rw [if_pos e2]
                refine goS g hg e hA _ ?_
                show _ = nI (if p = a ∧ g = b then c else g)
                rw [if_pos ⟨e1, e2⟩]
              · rw [if_neg e2]
                refine goS g hg e hA _ ?_
                show _ = nI (if p = a ∧ g = b then c else g)
                rw [if_neg (fun q => e2 q.2)]
                rfl
            · rw [if_neg e1]
              refine goS g hg e hA _ ?_
              show _ = nI (if p = a ∧ g = b then c else g)
              rw [if_neg (fun q => e1 q.1)]
              rfl)
    (fun p m0 m' hp hQ => by
      unfold Jo_findSteps_l15
      dsimp only
      rw [w0 (hw hQ.1), if_pos (by rw [n_le (by omega) (by omega)]; omega)])
    (fun p m' hp hQ => ⟨hQ.1, done2_row hQ.2⟩) (m := m) ⟨fr_rf _ _, fun a b hb hab => by omega⟩
  exact ⟨r, by rw [q1]; rfl, q2, q3⟩
/-- what the class has looked at -/
def JC (m : Mm) (S : Sn) (L : List Cl) (fa : Fa) : Prop := JW m S L ∧ all2 (fun p o => oI (-5) (TWo S L p o)) m 7 (S 0 0) ∧ all2 (fun p o => oI (-5) (STo S L fa p o)) m 8 (S 0 0)
theorem look_c {m : Mm} {S : Sn} {L : List Cl} {fa : Fa} (h : KC m S L) (hW : Wf S) (hL : WL L) (hB : faB fa (S 0 0)) (hF : faC m fa) : ∃ m', NB_look m = some m' ∧ fr pL m m' ∧ JC m' S L fa := by
  obtain ⟨hw, x, h1, h2, h3, h4, h5⟩ := h
  obtain ⟨m1, a1, a2, a3, a4⟩ := sizes_c hw hW hL h3 h5
  obtain ⟨m2, b1, b2, b3⟩ := longs_c (WC_L hw a2) hW a4
  have s2 := fr_tr a2 (fr_pc b2 (by omega))
  obtain ⟨m3, c1, c2, c3⟩ := ways_c (WC_L hw s2) hW hL b3
  have s3 := fr_tr s2 (fr_pc c2 (by omega))
  have hJ : JW m3 S L := ⟨fun p hp => by rw [c2.1 3 p (by unfold pc; omega), b2.1 3 p (by unfold pc; omega)]; exact a3 p hp, fun a b ha hb => by rw [c2.1 5 _ (by unfold pc; omega)]; exact done2_all b3 ha hb, c3⟩
  obtain ⟨m4, d1, d2, d3⟩ := towards_c (WC_L hw s3) hJ hW hL
  have s4 := fr_tr s3 (fr_pc d2 (by omega))
  have hJ4 : JW m4 S L := JW_keep hJ (fun k i a => d2.1 k i (by unfold pc; omega))
  have hF4 : faC m4 fa := by
    unfold faC at hF ⊢
    rw [s4.1 1 10 (by unfold pL; omega), s4.1 1 11 (by unfold pL; omega), s4.1 1 12 (by unfold pL; omega)]
    exact hF
  obtain ⟨m5, e1, e2, e3⟩ := steps_c (WC_L hw s4) hJ4 hW hL d3 hB hF4
  refine ⟨m5, ?_, fr_tr s4 (fr_pc e2 (by omega)), JW_keep hJ4 (fun k i a => e2.1 k i (by unfold pc; omega)), fun a b ha hb => ?_, fun a b ha hb => done2_all e3 ha hb⟩
  · unfold NB_look
    rw [h1]
    simp only [Option.bind_some]
    rw [h2, gq_t, a1]
    simp only [Option.bind_some]
    rw [b1]
    simp only [Option.bind_some]
    rw [c1]
    simp only [Option.bind_some]
    rw [d1]
    simp only [Option.bind_some]
    rw [e1]
    rfl
  · rw [e2.1 7 _ (by unfold pc; omega)]
    exact done2_all d3 ha hb
