-- ===== toward, aims =====
def oI (d : Int32) : Option Nat → Int32
  | none => d
  | some k => nI k
def TWo (S : Sn) (L : List Cl) (p o : Nat) : Option Nat := if p = o then none else if WY S L p o = EN then none else fstN (fun c => decide (0 < LG S L p c ∧ LG S L p c + WY S L c o = WY S L p o)) 0 (S 0 0)
theorem TWo_lt {S : Sn} {L : List Cl} {p o k : Nat} (h : TWo S L p o = some k) : k < S 0 0 := by
  unfold TWo at h
  split at h
  · cases h
  · split at h
    · cases h
    · have := fstN_some _ _ _ h
      omega
/-- what the class has found -/
def JW (m : Mm) (S : Sn) (L : List Cl) : Prop := (∀ p, p < S 0 0 → m.1 3 p = nI (SZ S L p)) ∧ all2 (fun p o => nI (LG S L p o)) m 5 (S 0 0) ∧ all2 (fun p o => nI (WY S L p o)) m 6 (S 0 0)
theorem JW_keep {m m' : Mm} {S : Sn} {L : List Cl} (h : JW m S L) (hk : ∀ k i, k = 3 ∨ k = 5 ∨ k = 6 → m'.1 k i = m.1 k i) : JW m' S L := by
  obtain ⟨h1, h2, h3⟩ := h
  exact ⟨fun p hp => (hk 3 p (by omega)).trans (h1 p hp), fun a b ha hb => (hk 5 _ (by omega)).trans (h2 a b ha hb), fun a b ha hb => (hk 6 _ (by omega)).trans (h3 a b ha hb)⟩
theorem JM_keep {m m' : Mm} {S : Sn} {L : List Cl} (h : JM m S L) (hk : ∀ k i, 19 ≤ k → k ≤ 21 → m'.1 k i = m.1 k i) : JM m' S L := by
  obtain ⟨h1, h2, h3⟩ := h
  exact ⟨fun p hp => (hk 21 p (by omega) (by omega)).trans (h1 p hp), fun a b ha hb => (hk 19 _ (by omega) (by omega)).trans (h2 a b ha hb), fun a b ha hb => (hk 20 _ (by omega) (by omega)).trans (h3 a b ha hb)⟩
theorem jw5 {m : Mm} {S : Sn} {L : List Cl} (hJ : JW m S L) {p o : Nat} (hp : p < S 0 0) (ho : o < S 0 0) : m.1 5 (7 * p + o) = nI (LG S L p o) := hJ.2.1 p o hp ho
theorem jw6 {m : Mm} {S : Sn} {L : List Cl} (hJ : JW m S L) {p o : Nat} (hp : p < S 0 0) (ho : o < S 0 0) : m.1 6 (7 * p + o) = nI (WY S L p o) := hJ.2.2 p o hp ho
theorem jm19 {m : Mm} {S : Sn} {L : List Cl} (hJ : JM m S L) {p o : Nat} (hp : p < S 0 0) (ho : o < S 0 0) : m.1 19 (7 * p + o) = nI (LG S L p o) := hJ.2.1 p o hp ho
theorem jm20 {m : Mm} {S : Sn} {L : List Cl} (hJ : JM m S L) {p o : Nat} (hp : p < S 0 0) (ho : o < S 0 0) : m.1 20 (7 * p + o) = wI (WY S L p o) := hJ.2.2 p o hp ho
theorem leads_c {m : Mm} {S : Sn} {L : List Cl} (hJ : JW m S L) (hW : Wf S) (hL : WL L) {p o : Nat} (hp : p < S 0 0) (ho : o < S 0 0) : Jo_leads m (nI p) (nI o) = some (decide (WY S L p o ≠ EN)) := by
  have b0 := Wf_0 hW
  have h1 := WY_le hW hL (show p < 7 by omega) (show o < 7 by omega)
  have hE : EN = 1000000 := rfl
  have g3 : (1000000 : Int32) = nI EN := rfl
  unfold Jo_leads
  rw [NB_index_n (7 * p + o) (by omega), ga_n (by omega) (by omega), n_cl (by omega), jw6 hJ hp ho, g3]
  simp (disch := omega) only [n_le]
  by_cases e : WY S L p o = EN
  · rw [if_pos (by omega), decide_eq_false (fun q => q e)]
  · rw [if_neg (by omega), decide_eq_true e]
theorem fstR_b (d : Int32) (o : Option Nat) : (some (fstR (fun i => nI i) o) : Option (Unit ⊕ Int32)).bind (Sum.elim (fun _ => some d) (fun v => some v)) = some (oI d o) := by
  cases o <;> rfl
theorem first_c {m : Mm} {S : Sn} {L : List Cl} (hw : WC m S) (hJ : JW m S L) (hW : Wf S) (hL : WL L) {p o : Nat} (hp : p < S 0 0) (ho : o < S 0 0) : Jo_firstOfWay m (nI p) (nI o) = some (oI (-5) (TWo S L p o)) := by
  have b0 := Wf_0 hW
  have h1 := WY_le hW hL (show p < 7 by omega) (show o < 7 by omega)
  have hE : EN = 1000000 := rfl
  unfold Jo_firstOfWay TWo
  rw [leads_c hJ hW hL hp ho]
  simp (disch := omega) only [n_eq]
  by_cases e : p = o
  · rw [if_pos e, if_pos e]
    rfl
  rw [if_neg e, if_neg e]
  simp only [Option.bind_some]
  by_cases e2 : WY S L p o = EN
  · rw [if_pos e2, decide_eq_false (fun q => q e2), if_neg (by decide)]
    rfl
  rw [if_neg e2, decide_eq_true e2, if_pos rfl]
  have key := iter_find (step := Jo_firstOfWay_l19 m (nI p) (nI o)) (fun i => nI i) (fun c => decide (0 < LG S L p c ∧ LG S L p c + WY S L c o = WY S L p o)) (fun i => nI i) 0 (S 0 0)
    (fun c _ hc hP => by
      have k1 := WY_le hW hL (show c < 7 by omega) (show o < 7 by omega)
      have k2 := LG_le hW hL (show p < 7 by omega) (show c < 7 by omega)
      have hP' := of_decide_eq_false hP
      unfold Jo_firstOfWay_l19
      try dsimp only
      rw [w0 hw, if_neg (by rw [n_le (by omega) (by omega)]; omega), NB_index_n (7 * p + c) (by omega), NB_index_n (7 * c + o) (by omega), NB_index_n (7 * p + o) (by omega), i_0, i_1]
      simp (disch := omega) only [ga_n, n_cl]
      rw [jw5 hJ hp hc, jw6 hJ hc ho, jw6 hJ hp ho]
      simp (disch := omega) only [n_le, n_add, n_eq]
      by_cases q : LG S L p c ≤ 0
      · rw [if_pos q]
      · rw [if_neg q, if_neg (fun q2 => hP' ⟨by omega, q2⟩)])
    (fun c _ hc hP => by
      have k1 := WY_le hW hL (show c < 7 by omega) (show o < 7 by omega)
      have k2 := LG_le hW hL (show p < 7 by omega) (show c < 7 by omega)
      have hP' := of_decide_eq_true hP
      unfold Jo_firstOfWay_l19
      try dsimp only
      rw [w0 hw, if_neg (by rw [n_le (by omega) (by omega)]; omega), NB_index_n (7 * p + c) (by omega), NB_index_n (7 * c + o) (by omega), NB_index_n (7 * p + o) (by omega), i_0, i_1]
      simp (disch := omega) only [ga_n, n_cl]
      rw [jw5 hJ hp hc, jw6 hJ hc ho, jw6 hJ hp ho]
      simp (disch := omega) only [n_le, n_add, n_eq]
      rw [if_neg (by omega), if_pos hP'.2])
    (by
      unfold Jo_firstOfWay_l19
      try dsimp only
      rw [w0 hw, if_pos (by rw [n_le (by omega) (by omega)]; omega)]) (S 0 0) 0 (by omega) (by omega)
  rw [show iter (Jo_firstOfWay_l19 m (nI p) (nI o)) 0 = _ from key]
  exact fstR_b (-5) _
theorem toward_m {m : Mm} {S : Sn} {L : List Cl} (hw : WM m S) (hJ : JM m S L) (hW : Wf S) (hL : WL L) {p o : Nat} (hp : p < S 0 0) (ho : o < S 0 0) : Mo_towardOf m (nI p) (nI o) = some (oI (-5) (TWo S L p o)) := by
  have b0 := Wf_0 hW
  have h1 := WY_le hW hL (show p < 7 by omega) (show o < 7 by omega)
  have hE : EN = 1000000 := rfl
  unfold Mo_towardOf TWo
  rw [i_7, n_mul, n_add, ga_n (by omega) (by omega), n_cl (by omega), jm20 hJ hp ho]
  simp (disch := omega) only [n_eq, wI_ge]
  by_cases e : p = o
  · rw [if_pos e, if_pos e]
    rfl
  rw [if_neg e, if_neg e]
  by_cases e2 : WY S L p o = EN
  · rw [if_pos e2, if_neg (fun q => q e2)]
    rfl
  rw [if_neg e2, if_pos e2]
  have key := iter_find (step := Mo_towardOf_l24 m (nI p) (nI o)) (fun i => nI i) (fun c => decide (0 < LG S L p c ∧ LG S L p c + WY S L c o = WY S L p o)) (fun i => nI i) 0 (S 0 0)
    (fun c _ hc hP => by
      have k1 := WY_le hW hL (show c < 7 by omega) (show o < 7 by omega)
      have k2 := LG_le hW hL (show p < 7 by omega) (show c < 7 by omega)
      have hP' := of_decide_eq_false hP
      unfold Mo_towardOf_l24
      try dsimp only
      rw [r0 hw, if_neg (by rw [n_le (by omega) (by omega)]; omega), i_7, i_0, i_1]
      simp (disch := omega) only [n_mul, n_add, ga_n, n_cl]
      rw [jm19 hJ hp hc, jm20 hJ hc ho, jm20 hJ hp ho, wI_n e2]
      simp (disch := omega) only [n_le]
      by_cases q : LG S L p c ≤ 0
      · rw [if_pos q]
      · rw [if_neg q]
        by_cases q3 : WY S L c o = EN
        · rw [if_pos (by rw [← i_0, wI_neg (by omega)]; exact q3)]
        · rw [if_neg (by rw [← i_0, wI_neg (by omega)]; exact q3), wI_n q3, n_add, if_neg (by rw [n_eq (by omega) (by omega)]; exact fun q2 => hP' ⟨by omega, q2⟩)])
    (fun c _ hc hP => by
      have k1 := WY_le hW hL (show c < 7 by omega) (show o < 7 by omega)
      have k2 := LG_le hW hL (show p < 7 by omega) (show c < 7 by omega)
      have hP' := of_decide_eq_true hP
      have q3 : WY S L c o ≠ EN := by omega
      unfold Mo_towardOf_l24
      try dsimp only
      rw [r0 hw, if_neg (by rw [n_le (by omega) (by omega)]; omega), i_7, i_0, i_1]
      simp (disch := omega) only [n_mul, n_add, ga_n, n_cl]
      rw [jm19 hJ hp hc, jm20 hJ hc ho, jm20 hJ hp ho, wI_n e2]
      simp (disch := omega) only [n_le]
      rw [if_neg (by omega), if_neg (by rw [← i_0, wI_neg (by omega)]; exact q3), wI_n q3, n_add, if_pos (by rw [n_eq (by omega) (by omega)]; exact hP'.2)])
    (by
      unfold Mo_towardOf_l24
      try dsimp only
      rw [r0 hw, if_pos (by rw [n_le (by omega) (by omega)]; omega)]) (S 0 0) 0 (by omega) (by omega)
  rw [show iter (Mo_towardOf_l24 m (nI p) (nI o)) 0 = _ from key]
  exact fstR_b (-5) _
-- the places named
def nmd (S : Sn) (p k : Nat) : Bool := (S 5 p).testBit k
def leastF (S : Sn) (p : Nat) : Option Nat := fstN (nmd S p) 0 (S 0 0)
def lastF (S : Sn) (p : Nat) : Option Nat := (fstN (fun i => nmd S p (S 0 0 - 1 - i)) 0 (S 0 0)).map (fun i => S 0 0 - 1 - i)
def nrv (S : Sn) (L : List Cl) (p : Nat) : Option Nat → Nat
  | none => EN
  | some b => WY S L p b
def nearF (S : Sn) (L : List Cl) (p : Nat) : Nat → Option Nat
  | 0 => none
  | k + 1 => if nmd S p k = true ∧ WY S L p k < nrv S L p (nearF S L p k) then some k else nearF S L p k
def grv (S : Sn) (L : List Cl) (k : Nat) : Option Nat → Bool
  | none => true
  | some b => decide (SZ S L b < SZ S L k)
def greatF (S : Sn) (L : List Cl) (p : Nat) : Nat → Option Nat
  | 0 => none
  | k + 1 => if nmd S p k = true ∧ grv S L k (greatF S L p k) = true then some k else greatF S L p k
theorem nearF_lt {S : Sn} {L : List Cl} {p : Nat} : ∀ k b, nearF S L p k = some b → b < k
  | 0, b, h => by cases h
  | k + 1, b, h => by
    have h' : (if nmd S p k = true ∧ WY S L p k < nrv S L p (nearF S L p k) then some k else nearF S L p k) = some b := h
    split at h'
    · cases h'
      omega
    · have := nearF_lt k b h'
      omega
theorem greatF_lt {S : Sn} {L : List Cl} {p : Nat} : ∀ k b, greatF S L p k = some b → b < k
  | 0, b, h => by cases h
  | k + 1, b, h => by
    have h' : (if nmd S p k = true ∧ grv S L k (greatF S L p k) = true then some k else greatF S L p k) = some b := h
    split at h'
    · cases h'
      omega
    · have := greatF_lt k b h'
      omega
theorem nearF_fin {S : Sn} {L : List Cl} {p : Nat} (hle : ∀ k, k < S 0 0 → WY S L p k ≤ EN) : ∀ k b, k ≤ S 0 0 → nearF S L p k = some b → WY S L p b < EN
  | 0, b, _, h => by cases h
  | k + 1, b, hk, h => by
    have h' : (if nmd S p k = true ∧ WY S L p k < nrv S L p (nearF S L p k) then some k else nearF S L p k) = some b := h
    split at h'
    · rename_i e
      cases h'
      have e2 := e.2
      match hh : nearF S L p k with
      | none =>
        rw [hh] at e2
        exact e2
      | some c =>
        rw [hh] at e2
        have h3 := nearF_fin hle k c (by omega) hh
        have e3 : WY S L p k < WY S L p c := e2
        omega
    · exact nearF_fin hle k b (by omega) h'
theorem lastF_lt {S : Sn} {p b : Nat} (h : lastF S p = some b) : b < S 0 0 := by
  unfold lastF at h
  match hh : fstN (fun i => nmd S p (S 0 0 - 1 - i)) 0 (S 0 0) with
  | none => rw [hh] at h; cases h
  | some i =>
    rw [hh] at h
    have h1 := fstN_some _ _ _ hh
    have h2 : S 0 0 - 1 - i = b := by
      have h3 : some (S 0 0 - 1 - i) = some b := h
      exact Option.some.inj h3
    omega
theorem namesW {m : Mm} {S : Sn} (h : WC m S) (hW : Wf S) {p o : Nat} (hp : p < 7) (ho : o < 7) : Wo_names 11 m (nI p) (nI o) = some (nmd S p o) := by
  unfold Wo_names nmd
  rw [ga_n hp (by omega), n_cl (by omega), w5 h hp]
  simp only [and_n (Wf_5 hW hp) ho]
  cases (S 5 p).testBit o with
  | false => rfl
  | true => rfl
theorem least_c {m : Mm} {S : Sn} (hw : WC m S) (hW : Wf S) {p : Nat} (hp : p < 7) : Jo_leastNamed m (nI p) = some (oI (-1) (leastF S p)) := by
  have b0 := Wf_0 hW
  unfold Jo_leastNamed leastF
  have key := iter_find (step := Jo_leastNamed_l2 m (nI p)) (fun i => nI i) (nmd S p) (fun i => nI i) 0 (S 0 0)
    (fun c _ hc hP => by
      unfold Jo_leastNamed_l2
      try dsimp only
      rw [w0 hw, if_neg (by rw [n_le (by omega) (by omega)]; omega), namesW hw hW hp (by omega), hP, i_1, n_add]
      rfl)
    (fun c _ hc hP => by
      unfold Jo_leastNamed_l2
      try dsimp only
      rw [w0 hw, if_neg (by rw [n_le (by omega) (by omega)]; omega), namesW hw hW hp (by omega), hP]
      rfl)
    (by
      unfold Jo_leastNamed_l2
      try dsimp only
      rw [w0 hw, if_pos (by rw [n_le (by omega) (by omega)]; omega)]) (S 0 0) 0 (by omega) (by omega)
  rw [show iter (Jo_leastNamed_l2 m (nI p)) 0 = _ from key]
  exact fstR_b (-1) _
theorem least_m {m : Mm} {S : Sn} (hw : WM m S) (hW : Wf S) {p : Nat} (hp : p < 7) : Mo_leastNamed m (nI p) = some (oI (-5) (leastF S p)) := by
  have b0 := Wf_0 hW
  unfold Mo_leastNamed leastF
  have key := iter_find (step := Mo_leastNamed_l2 m (nI p)) (fun i => nI i) (nmd S p) (fun i => nI i) 0 (S 0 0)
    (fun c _ hc hP => by
      unfold Mo_leastNamed_l2
      try dsimp only
      rw [r0 hw, if_neg (by rw [n_le (by omega) (by omega)]; omega), ga_n hp (by omega), n_cl (by omega), r5 hw hp, has_n (Wf_5 hW hp) (by omega), show (S 5 p).testBit c = false from hP, i_1, n_add]
      rfl)
    (fun c _ hc hP => by
      unfold Mo_leastNamed_l2
      try dsimp only
      rw [r0 hw, if_neg (by rw [n_le (by omega) (by omega)]; omega), ga_n hp (by omega), n_cl (by omega), r5 hw hp, has_n (Wf_5 hW hp) (by omega), show (S 5 p).testBit c = true from hP]
      rfl)
    (by
      unfold Mo_leastNamed_l2
      try dsimp only
      rw [r0 hw, if_pos (by rw [n_le (by omega) (by omega)]; omega)]) (S 0 0) 0 (by omega) (by omega)
  rw [show iter (Mo_leastNamed_l2 m (nI p)) 0 = _ from key]
  exact fstR_b (-5) _
theorem dn_1 {n i : Nat} (hi : i < n) : nI (n - i) - 1 = nI (n - 1 - i) := by
  rw [show n - i = (n - 1 - i) + 1 by omega, nI_pred]
theorem dn_2 {n i : Nat} (hi : i < n) : nI (n - 1 - i) + -1 = nI (n - (i + 1)) - 1 := by
  rw [← Int32.sub_eq_add_neg, show n - (i + 1) = n - 1 - i by omega]
theorem lastR_b {S : Sn} {p : Nat} (d : Int32) : (some (fstR (fun i => nI (S 0 0 - 1 - i)) (fstN (fun i => nmd S p (S 0 0 - 1 - i)) 0 (S 0 0))) : Option (Unit ⊕ Int32)).bind (Sum.elim (fun _ => some d) (fun v => some v)) = some (oI d (lastF S p)) := by
  unfold lastF
  cases fstN (fun i => nmd S p (S 0 0 - 1 - i)) 0 (S 0 0) <;> rfl
theorem dn_neg {n : Nat} : nI (n - n) - 1 < 0 := by
  rw [Nat.sub_self]
  decide
theorem last_c {m : Mm} {S : Sn} (hw : WC m S) (hW : Wf S) {p : Nat} (hp : p < 7) : Jo_lastNamed m (nI p) = some (oI (-1) (lastF S p)) := by
  have b0 := Wf_0 hW
  unfold Jo_lastNamed
  have key := iter_find (step := Jo_lastNamed_l10 m (nI p)) (fun i => nI (S 0 0 - i) - 1) (fun i => nmd S p (S 0 0 - 1 - i)) (fun i => nI (S 0 0 - 1 - i)) 0 (S 0 0)
    (fun c _ hc hP => by
      unfold Jo_lastNamed_l10
      try dsimp only
      rw [dn_1 hc, if_neg (nI_pos (by omega)), namesW hw hW hp (by omega), hP, dn_2 hc]
      rfl)
    (fun c _ hc hP => by
      unfold Jo_lastNamed_l10
      try dsimp only
      rw [dn_1 hc, if_neg (nI_pos (by omega)), namesW hw hW hp (by omega), hP]
      rfl)
    (by
      unfold Jo_lastNamed_l10
      try dsimp only
      rw [if_pos dn_neg]) (S 0 0) 0 (by omega) (by omega)
  rw [w0 hw, show iter (Jo_lastNamed_l10 m (nI p)) (nI (S 0 0) - 1) = _ from key]
  exact lastR_b (-1)
theorem last_m {m : Mm} {S : Sn} (hw : WM m S) (hW : Wf S) {p : Nat} (hp : p < 7) : Mo_lastNamed m (nI p) = some (oI (-5) (lastF S p)) := by
  have b0 := Wf_0 hW
  unfold Mo_lastNamed
  have key := iter_find (step := Mo_lastNamed_l7 m (nI p)) (fun i => nI (S 0 0 - i) - 1) (fun i => nmd S p (S 0 0 - 1 - i)) (fun i => nI (S 0 0 - 1 - i)) 0 (S 0 0)
    (fun c _ hc hP => by
      unfold Mo_lastNamed_l7
      try dsimp only
      rw [dn_1 hc, if_neg (nI_pos (by omega)), ga_n hp (by omega), n_cl (by omega), r5 hw hp, has_n (Wf_5 hW hp) (by omega), show (S 5 p).testBit (S 0 0 - 1 - c) = false from hP, dn_2 hc]
      rfl)
    (fun c _ hc hP => by
      unfold Mo_lastNamed_l7
      try dsimp only
      rw [dn_1 hc, if_neg (nI_pos (by omega)), ga_n hp (by omega), n_cl (by omega), r5 hw hp, has_n (Wf_5 hW hp) (by omega), show (S 5 p).testBit (S 0 0 - 1 - c) = true from hP]
      rfl)
    (by
      unfold Mo_lastNamed_l7
      try dsimp only
      rw [if_pos dn_neg]) (S 0 0) 0 (by omega) (by omega)
  rw [r0 hw, show iter (Mo_lastNamed_l7 m (nI p)) (nI (S 0 0) - 1) = _ from key]
  exact lastR_b (-5)
theorem nearest_c {m : Mm} {S : Sn} {L : List Cl} (hw : WC m S) (hJ : JW m S L) (hW : Wf S) (hL : WL L) {p : Nat} (hp : p < S 0 0) : Jo_nearestNamed m (nI p) = some (oI (-1) (nearF S L p (S 0 0))) := by
  have b0 := Wf_0 hW
  have hE : EN = 1000000 := rfl
  have hle : ∀ k, k < S 0 0 → WY S L p k ≤ EN := fun k hk => by
    have := WY_le hW hL (show p < 7 by omega) (show k < 7 by omega)
    omega
  unfold Jo_nearestNamed
  have h1 := iter_all (step := Jo_nearestNamed_l8 m (nI p)) (fun k => (oI (-1) (nearF S L p k), nI (nrv S L p (nearF S L p k)), nI k)) (S 0 0) (r := oI (-1) (nearF S L p (S 0 0)))
    (fun k hk => by
      have k1 := hle k hk
      have k2 : nrv S L p (nearF S L p k) ≤ EN := by
        match hh : nearF S L p k with
        | none => exact Nat.le_refl _
        | some b => exact hle b (by have := nearF_lt k b hh; omega)
      have hn : nearF S L p (k + 1) = if nmd S p k = true ∧ WY S L p k < nrv S L p (nearF S L p k) then some k else nearF S L p k := rfl
      unfold Jo_nearestNamed_l8
      try dsimp only
      rw [w0 hw, if_neg (by rw [n_le (by omega) (by omega)]; omega), namesW hw hW (by omega) (by omega), NB_index_n (7 * p + k) (by omega), i_1]
      simp (disch := omega) only [Option.bind_some, ga_n, n_cl, n_add]
      rw [jw6 hJ hp hk, hn]
      simp (disch := omega) only [n_le]
      cases hb : nmd S p k with
      | false =>
        rw [if_neg (by decide), if_neg (fun q => absurd q.1 (by decide))]
      | true =>
        rw [if_pos rfl]
        by_cases e : nrv S L p (nearF S L p k) ≤ WY S L p k
        · rw [if_pos e, if_neg (fun q => by omega)]
        · rw [if_neg e, if_pos ⟨rfl, by omega⟩]
          rfl)
    (by
      unfold Jo_nearestNamed_l8
      try dsimp only
      rw [w0 hw, if_pos (by rw [n_le (by omega) (by omega)]; omega)])
  rw [show iter (Jo_nearestNamed_l8 m (nI p)) (-1, 1000000, 0) = _ from h1]
  rfl
theorem nearest_m {m : Mm} {S : Sn} {L : List Cl} (hw : WM m S) (hJ : JM m S L) (hW : Wf S) (hL : WL L) {p : Nat} (hp : p < S 0 0) : Mo_nearestNamed m (nI p) = some (oI (-5) (nearF S L p (S 0 0))) := by
  have b0 := Wf_0 hW
  have hE : EN = 1000000 := rfl
  have hle : ∀ k, k < S 0 0 → WY S L p k ≤ EN := fun k hk => by
    have := WY_le hW hL (show p < 7 by omega) (show k < 7 by omega)
    omega
  unfold Mo_nearestNamed
  have h1 := iter_all (step := Mo_nearestNamed_l5 m (nI p)) (fun k => (oI (-5) (nearF S L p k), nI k)) (S 0 0) (r := oI (-5) (nearF S L p (S 0 0)))
    (fun k hk => by
      have k1 := WY_le hW hL (show p < 7 by omega) (show k < 7 by omega)
      have hn : nearF S L p (k + 1) = if nmd S p k = true ∧ WY S L p k < nrv S L p (nearF S L p k) then some k else nearF S L p k := rfl
      unfold Mo_nearestNamed_l5
      try dsimp only
      rw [r0 hw, if_neg (by rw [n_le (by omega) (by omega)]; omega), ga_n (by omega) (by omega), n_cl (by omega), r5 hw (by omega), has_n (Wf_5 hW (by omega)) (by omega), hn, i_7, i_1]
      simp (disch := omega) only [ga_n, n_cl, n_add, n_mul]
      rw [jm20 hJ hp hk]
      simp (disch := omega) only [wI_neg]
      have hnm : (S 5 p).testBit k = nmd S p k := rfl
      rw [hnm]
      cases hb : nmd S p k with
      | false =>
        rw [if_neg (by decide), if_neg (fun q => absurd q.1 (by decide))]
      | true =>
        rw [if_pos rfl]
        match hh : nearF S L p k with
        | none =>
          by_cases e : WY S L p k = EN
          · rw [if_pos e, if_neg (fun q => by have q2 : WY S L p k < EN := q.2; omega)]
          · rw [if_neg e, if_pos (show oI (-5) none < 0 by decide), if_pos ⟨rfl, by show WY S L p k < EN; omega⟩]
            rfl
        | some b =>
          have g1 := nearF_lt k b hh
          have g2 := nearF_fin hle k b (by omega) hh
          by_cases e : WY S L p k = EN
          · rw [if_pos e, if_neg (fun q => by have q2 : WY S L p k < WY S L p b := q.2; omega)]
          · rw [if_neg e, show oI (-5) (some b) = nI b from rfl, if_neg (nI_pos (by omega))]
            simp (disch := omega) only [ga_n, n_cl, n_add, n_mul]
            rw [jm20 hJ (o := b) hp (by omega), wI_n e, wI_n (by omega)]
            simp (disch := omega) only [n_le]
            by_cases e2 : WY S L p b ≤ WY S L p k
            · rw [if_pos e2, if_neg (fun q => by have q2 : WY S L p k < WY S L p b := q.2; omega)]
              rfl
            · rw [if_neg e2, if_pos ⟨by first | rfl | trivial, by show WY S L p k < WY S L p b; omega⟩]
              rfl)
    (by
      unfold Mo_nearestNamed_l5
      try dsimp only
      rw [r0 hw, if_pos (by rw [n_le (by omega) (by omega)]; omega)])
  rw [show iter (Mo_nearestNamed_l5 m (nI p)) (-5, 0) = _ from h1]
  rfl
def gri (S : Sn) (L : List Cl) : Option Nat → Int32
  | none => -1
  | some b => nI (SZ S L b)
theorem great_c {m : Mm} {S : Sn} {L : List Cl} (hw : WC m S) (hJ : JW m S L) (hW : Wf S) (hL : WL L) {p : Nat} (hp : p < S 0 0) : Jo_greatestNamed m (nI p) = some (oI (-1) (greatF S L p (S 0 0))) := by
  have b0 := Wf_0 hW
  unfold Jo_greatestNamed
  have h1 := iter_all (step := Jo_greatestNamed_l7 m (nI p)) (fun k => (oI (-1) (greatF S L p k), gri S L (greatF S L p k), nI k)) (S 0 0) (r := oI (-1) (greatF S L p (S 0 0)))
    (fun k hk => by
      have k1 := SZ_le hW hL (show k < 7 by omega)
      have hn : greatF S L p (k + 1) = if nmd S p k = true ∧ grv S L k (greatF S L p k) = true then some k else greatF S L p k := rfl
      unfold Jo_greatestNamed_l7
      try dsimp only
      rw [w0 hw, if_neg (by rw [n_le (by omega) (by omega)]; omega), namesW hw hW (by omega) (by omega), i_1]
      simp (disch := omega) only [Option.bind_some, ga_n, n_cl, n_add]
      rw [hJ.1 k hk, hn]
      cases hb : nmd S p k with
      | false =>
        rw [if_neg (by decide), if_neg (fun q => absurd q.1 (by decide))]
      | true =>
        rw [if_pos rfl]
        match hh : greatF S L p k with
        | none =>
          rw [if_neg (by rw [show gri S L none = -nI 1 from rfl, n_mle (by omega) (by omega) (by omega)]; exact id), if_pos ⟨rfl, rfl⟩]
          rfl
        | some b =>
          have g1 := greatF_lt k b hh
          have k2 := SZ_le hW hL (show b < 7 by omega)
          rw [show gri S L (some b) = nI (SZ S L b) from rfl]
          simp (disch := omega) only [n_le]
          by_cases e : SZ S L k ≤ SZ S L b
          · rw [if_pos e, if_neg (fun q => by have q2 := of_decide_eq_true q.2; omega)]
            rfl
          · rw [if_neg e, if_pos ⟨by first | rfl | trivial, decide_eq_true (by omega)⟩]
            rfl)
    (by
      unfold Jo_greatestNamed_l7
      try dsimp only
      rw [w0 hw, if_pos (by rw [n_le (by omega) (by omega)]; omega)])
  rw [show iter (Jo_greatestNamed_l7 m (nI p)) (-1, -1, 0) = _ from h1]
  rfl
theorem great_m {m : Mm} {S : Sn} {L : List Cl} (hw : WM m S) (hJ : JM m S L) (hW : Wf S) (hL : WL L) {p : Nat} (hp : p < S 0 0) : Mo_greatestNamed m (nI p) = some (oI (-5) (greatF S L p (S 0 0))) := by
  have b0 := Wf_0 hW
  unfold Mo_greatestNamed
  have h1 := iter_all (step := Mo_greatestNamed_l5 m (nI p)) (fun k => (oI (-5) (greatF S L p k), nI k)) (S 0 0) (r := oI (-5) (greatF S L p (S 0 0)))
    (fun k hk => by
      have k1 := SZ_le hW hL (show k < 7 by omega)
      have hn : greatF S L p (k + 1) = if nmd S p k = true ∧ grv S L k (greatF S L p k) = true then some k else greatF S L p k := rfl
      unfold Mo_greatestNamed_l5
      try dsimp only
      rw [r0 hw, if_neg (by rw [n_le (by omega) (by omega)]; omega), ga_n (by omega) (by omega), n_cl (by omega), r5 hw (by omega), has_n (Wf_5 hW (by omega)) (by omega), hn, i_1]
      simp (disch := omega) only [ga_n, n_cl, n_add, n_mul]
      rw [hJ.1 k hk]
      have hnm : (S 5 p).testBit k = nmd S p k := rfl
      rw [hnm]
      cases hb : nmd S p k with
      | false =>
        rw [if_neg (by decide), if_neg (fun q => absurd q.1 (by decide))]
      | true =>
        rw [if_pos rfl]
        match hh : greatF S L p k with
        | none =>
          rw [if_pos (show oI (-5) none < 0 by decide), if_pos ⟨rfl, rfl⟩]
          rfl
        | some b =>
          have g1 := greatF_lt k b hh
          have k2 := SZ_le hW hL (show b < 7 by omega)
          rw [show oI (-5) (some b) = nI b from rfl, if_neg (nI_pos (by omega))]
          simp (disch := omega) only [ga_n, n_cl]
          rw [hJ.1 b (by omega)]
          simp (disch := omega) only [n_le]
          by_cases e : SZ S L k ≤ SZ S L b
          · rw [if_pos e, if_neg (fun q => by have q2 := of_decide_eq_true q.2; omega)]
            rfl
          · rw [if_neg e, if_pos ⟨by first | rfl | trivial, decide_eq_true (by omega)⟩]
            rfl)
    (by
      unfold Mo_greatestNamed_l5
      try dsimp only
      rw [r0 hw, if_pos (by rw [n_le (by omega) (by omega)]; omega)])
  rw [show iter (Mo_greatestNamed_l5 m (nI p)) (-5, 0) = _ from h1]
  rfl
