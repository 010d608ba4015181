-- ===== the mini machine: memory by cells, one judgement V over W =====
abbrev Mm : Type := (Nat → Nat → Int32) × (Nat → Nat → Int64) × (Nat → Nat → Nat)
abbrev Shp : Type := Nat × Nat × List Nat
/-- field tables of the kit, type names of arrays, addresses, shapes, the start, the launch -/
abbrev Gw : Type := va_G × (Nat → ClassId) × (Nat → Nat) × List Shp × State × Launch
abbrev gD (G : Gw) : va_G := G.1
abbrev gc (G : Gw) : Nat → ClassId := G.2.1
abbrev gr (G : Gw) : Nat → Nat := G.2.2.1
abbrev gsh (G : Gw) : List Shp := G.2.2.2.1
abbrev gs0 (G : Gw) : State := G.2.2.2.2.1
abbrev gl (G : Gw) : Launch := G.2.2.2.2.2
def gty (G : Gw) : List (ClassId × FieldType) := [(gc G 0, .int), (gc G 1, .long), (gc G 2, .char), (gc G 3, .boolean), (gc G 4, .object "NamesBack$Land"), (gc G 5, .object "NamesBack$Tape")]
def si (m : Mm) (k i : Nat) (x : Int32) : Mm := (fun a => if a = k then upd (m.1 k) i x else m.1 a, m.2.1, m.2.2)
def sl (m : Mm) (k i : Nat) (x : Int64) : Mm := (m.1, fun a => if a = k then vp_updL (m.2.1 k) i x else m.2.1 a, m.2.2)
def sr (m : Mm) (k i : Nat) (x : Nat) : Mm := (m.1, m.2.1, fun a => if a = k then (fun j => if j = i then x else m.2.2 k j) else m.2.2 a)
def sia (m : Mm) (k : Nat) (f : Nat → Int32) : Mm := (fun a => if a = k then f else m.1 a, m.2.1, m.2.2)
def sla (m : Mm) (k : Nat) (f : Nat → Int64) : Mm := (m.1, fun a => if a = k then f else m.2.1 a, m.2.2)
def mfv (G : Gw) (m : Mm) (k j t : Nat) : Value := if t = 0 then .int (m.1 k j) else if t = 1 then .ref (gr G (m.2.2 k j)) else .ref (gr G (t - 2))
def mcell (G : Gw) (m : Mm) (k : Nat) (s : Shp) : va_E := match s.1 with
  | 0 => .inl (gc G 0, s.2.1, .inl (m.1 k))
  | 1 => .inl (gc G 1, s.2.1, .inr (.inl (m.2.1 k)))
  | 2 => .inl (gc G 2, s.2.1, .inl (m.1 k))
  | 3 => .inl (gc G 3, s.2.1, .inl (m.1 k))
  | 4 => .inl (gc G 4, s.2.1, .inr (.inr (.inr (.inr (fun j => some (gr G (s.2.2.getD 0 0 + s.2.2.getD 1 0 * j)))))))
  | 5 => .inl (gc G 5, s.2.1, .inr (.inr (.inr (.inr (fun j => some (gr G (s.2.2.getD 0 0 + s.2.2.getD 1 0 * j)))))))
  | _ => .inr (s.2.1, s.2.2.mapIdx fun j t => mfv G m k j t)
def mw (G : Gw) (m : Mm) : va_W := (gsh G).mapIdx fun k s => (gr G k, mcell G m k s)
theorem mw_at {G : Gw} {m : Mm} {k : Nat} {s : Shp} (h : (gsh G)[k]? = some s) : (mw G m)[k]? = some (gr G k, mcell G m k s) := by
  unfold mw
  rw [List.getElem?_mapIdx, h]
  rfl
theorem mw_set {G : Gw} {m m' : Mm} {k : Nat} {s : Shp} (h : (gsh G)[k]? = some s) {e : va_E} (he : mcell G m' k s = e) (ho : ∀ j t, j ≠ k → mcell G m' j t = mcell G m j t) : (mw G m).set k (gr G k, e) = mw G m' := by
  have hl : k < (mw G m).length := (List.getElem?_eq_some_iff.mp (mw_at (m := m) h)).1
  apply List.ext_getElem?
  intro j
  by_cases hj : j = k
  · subst hj
    rw [List.getElem?_set_self hl, mw_at h, he]
  · rw [List.getElem?_set_ne (Ne.symm hj)]
    unfold mw
    rw [List.getElem?_mapIdx, List.getElem?_mapIdx]
    cases (gsh G)[j]? with
    | none => rfl
    | some t => show some (gr G j, mcell G m j t) = some (gr G j, mcell G m' j t); rw [ho j t hj]
theorem mfv_si {G : Gw} {m : Mm} {k i : Nat} {x : Int32} {j u t : Nat} (hj : j ≠ k) : mfv G (si m k i x) j u t = mfv G m j u t := by
  simp only [mfv, si]
  rw [if_neg hj]
theorem mfv_sl {G : Gw} {m : Mm} {k i : Nat} {x : Int64} {j u t : Nat} : mfv G (sl m k i x) j u t = mfv G m j u t := rfl
theorem mcell_si {G : Gw} {m : Mm} {k i : Nat} {x : Int32} (j : Nat) (t : Shp) (hj : j ≠ k) : mcell G (si m k i x) j t = mcell G m j t := by
  have e : (si m k i x).1 j = m.1 j := by simp only [si]; rw [if_neg hj]
  unfold mcell
  simp only [e, mfv_si hj]
  rfl
theorem mcell_sia {G : Gw} {m : Mm} {k : Nat} {f : Nat → Int32} (j : Nat) (t : Shp) (hj : j ≠ k) : mcell G (sia m k f) j t = mcell G m j t := by
  have e : (sia m k f).1 j = m.1 j := by simp only [sia]; rw [if_neg hj]
  unfold mcell
  simp only [mfv, e]
  rfl
theorem mcell_sl {G : Gw} {m : Mm} {k i : Nat} {x : Int64} (j : Nat) (t : Shp) (hj : j ≠ k) : mcell G (sl m k i x) j t = mcell G m j t := by
  have e : (sl m k i x).2.1 j = m.2.1 j := by simp only [sl]; rw [if_neg hj]
  unfold mcell
  simp only [mfv_sl, e]
  rfl
theorem mcell_sla {G : Gw} {m : Mm} {k : Nat} {f : Nat → Int64} (j : Nat) (t : Shp) (hj : j ≠ k) : mcell G (sla m k f) j t = mcell G m j t := by
  have e : (sla m k f).2.1 j = m.2.1 j := by simp only [sla]; rw [if_neg hj]
  unfold mcell
  simp only [mfv, e]
  rfl
theorem mcell_sr {G : Gw} {m : Mm} {k i x : Nat} (j : Nat) (t : Shp) (hj : j ≠ k) : mcell G (sr m k i x) j t = mcell G m j t := by
  have e : (sr m k i x).2.2 j = m.2.2 j := by simp only [sr]; rw [if_neg hj]
  unfold mcell
  simp only [mfv, e]
  rfl
theorem mfs_si {G : Gw} {m : Mm} {k i : Nat} {x : Int32} {fl : List Nat} (hf : fl[i]? = some 0) : (fl.mapIdx fun j t => mfv G (si m k i x) k j t) = (fl.mapIdx fun j t => mfv G m k j t).set i (.int x) := by
  have hl : i < (fl.mapIdx fun j t => mfv G m k j t).length := by rw [List.length_mapIdx]; exact (List.getElem?_eq_some_iff.mp hf).1
  apply List.ext_getElem?
  intro j
  by_cases hj : j = i
  · subst hj
    rw [List.getElem?_set_self hl, List.getElem?_mapIdx, hf]
    simp [mfv, si, upd]
  · rw [List.getElem?_set_ne (Ne.symm hj), List.getElem?_mapIdx, List.getElem?_mapIdx]
    cases fl[j]? with
    | none => rfl
    | some t => simp [mfv, si, upd, hj]
theorem mfs_sr {G : Gw} {m : Mm} {k i x : Nat} {fl : List Nat} (hf : fl[i]? = some 1) : (fl.mapIdx fun j t => mfv G (sr m k i x) k j t) = (fl.mapIdx fun j t => mfv G m k j t).set i (.ref (gr G x)) := by
  have hl : i < (fl.mapIdx fun j t => mfv G m k j t).length := by rw [List.length_mapIdx]; exact (List.getElem?_eq_some_iff.mp hf).1
  apply List.ext_getElem?
  intro j
  by_cases hj : j = i
  · subst hj
    rw [List.getElem?_set_self hl, List.getElem?_mapIdx, hf]
    simp [mfv, sr]
  · rw [List.getElem?_set_ne (Ne.symm hj), List.getElem?_mapIdx, List.getElem?_mapIdx]
    cases fl[j]? with
    | none => rfl
    | some t => simp [mfv, sr, hj]
/-- the words that go with every call -/
def gw_tbl : List Cond := lw_tbl.filter goodWord
theorem gw_mem {w : Cond} (h : w ∈ lw_tbl) (hg : goodWord w = true) : w ∈ gw_tbl := List.mem_filter.mpr ⟨h, hg⟩
theorem gw_tab {w : Cond} {i : Nat} (h : tables_1[i]? = some w) (hg : goodWord w = true) : w ∈ gw_tbl := gw_mem (List.mem_append_right _ (List.mem_of_getElem? h)) hg
theorem lw_tab {w : Cond} {i : Nat} (h : tables_1[i]? = some w) : w ∈ lw_tbl := List.mem_append_right _ (List.mem_of_getElem? h)
theorem gw_sel {y : MethodName} {n i : Nat} (h : lw_privs[i]? = some (y, n)) : Cond.selects y.cls y y ∈ gw_tbl := gw_mem (List.mem_append_left _ (List.mem_map.mpr ⟨(y, n), List.mem_of_getElem? h, rfl⟩)) rfl
theorem gw_lst {ws : List Cond} (ps : List Nat) (hp : ws = ps.filterMap (fun i => tables_1[i]?)) (hg : ws.all goodWord = true) : ∀ w ∈ ws, w ∈ gw_tbl := by
  intro w hw
  have h1 := List.all_eq_true.mp hg w hw
  rw [hp] at hw
  obtain ⟨i, -, hi⟩ := List.mem_filterMap.mp hw
  exact gw_tab hi h1
theorem gw_good : GoodIn gw_tbl gw_tbl := fun w h => ⟨h, good_of_word (List.mem_filter.mp h).2⟩
def gA (G : Gw) : Nat → Prop := fun q => ∃ k, k < (gsh G).length ∧ gr G k = q
def gOk (G : Gw) : Prop := (∃ a0, (∀ w ∈ lw_tbl, w.before a0 (gs0 G) = true) ∧ (Jvm.Cond.and given_1 narrow_1).before a0 (gs0 G) = true) ∧ (∀ i j, i < (gsh G).length → j < (gsh G).length → gr G i = gr G j → i = j) ∧ ∀ i, i < (gsh G).length → (gs0 G).heap.size ≤ gr G i
def gK (G : Gw) (U : State) : Prop := va_K (gD G) vwCl (gty G) U ∧ (gs0 G).WarmedH U.vm ∧ (gs0 G).heap.size ≤ U.heap.size ∧ ∀ q : Nat, q < (gs0 G).heap.size → U.heap[q]? = (gs0 G).heap[q]?
def gP (G : Gw) (m : Mm) (H : Heap) : Prop := va_P (gD G) vwCl (mw G m) H
theorem mw_len {G : Gw} {m : Mm} : (mw G m).length = (gsh G).length := by unfold mw; exact List.length_mapIdx
theorem mw_adr {G : Gw} {m : Mm} {k : Nat} {q : Nat × va_E} (h : (mw G m)[k]? = some q) : k < (gsh G).length ∧ gr G k = q.1 := by
  have hl := (List.getElem?_eq_some_iff.mp h).1
  rw [mw_len] at hl
  refine ⟨hl, ?_⟩
  have e := mw_at (G := G) (m := m) (List.getElem?_eq_getElem hl)
  rw [h] at e
  exact (congrArg Prod.fst (Option.some.inj e)).symm
theorem mw_D {G : Gw} (hG : gOk G) (m : Mm) : va_D (gA G) (mw G m) := by
  refine ⟨fun i j p q hi hj hpq => ?_, fun k q hk => ?_⟩
  · obtain ⟨a1, a2⟩ := mw_adr hi
    obtain ⟨b1, b2⟩ := mw_adr hj
    exact hG.2.1 i j a1 b1 (a2.trans (hpq.trans b2.symm))
  · obtain ⟨a1, a2⟩ := mw_adr hk
    exact ⟨k, a1, a2⟩
theorem gA_low {G : Gw} (hG : gOk G) {q : Nat} (h : q < (gs0 G).heap.size) : ¬ gA G q := by
  rintro ⟨k, h1, h2⟩
  have := hG.2.2 k h1
  omega
def rmd (d : Nat) : Room := { frames := d + 1, cells := 0, slots := 0, locals := 60 * d + 100 }
/-- what a method leaves -/
def mjQ (G : Gw) (P : Option Value → Mm → Prop) : Array Value → State → Outcome → State → Prop := fun _ st oc t => (∃ (v : Option Value) (m' : Mm), oc = .returned v ∧ P v m' ∧ gP G m' t.heap) ∧ va_F (gA G) st t
/-- a method's contract -/
def mjR (G : Gw) (d : Nat) (y : MethodName) (bytes : ByteArray) (maxL : Nat) (ret : Option FieldType) (av : List Value) (m : Mm) (P : Option Value → Mm → Prop) : Prop :=
  Met (gl G) y (.code y bytes maxL ret :: gw_tbl) (rmd d) (va_Pc av (fun U => gP G m U.heap ∧ gK G U)) (mjQ G P) 0 0 (gA G)
abbrev Cx : Type := Program × Launch × Env × Room × State × MethodId × Array Value × List Frame × Method × Code
def mjF (G : Gw) (X : Cx) (b : ByteArray) (own : String) (nL d : Nat) (ret : Option FieldType) : Prop :=
  X.1.tables.exec = Jvm.exec ∧ X.2.2.2.2.2.2.2.2.2.code = b ∧ X.2.2.2.2.2.2.2.2.2.maxLocals = nL ∧ X.2.2.2.2.1.vm.findClass own = some X.2.2.2.2.2.1.cls ∧ (∀ w ∈ gw_tbl, w.before X.2.2.2.2.2.2.1 X.2.2.2.2.1 = true) ∧ gK G X.2.2.2.2.1 ∧ gOk G ∧ X.2.2.2.1 = rmd d ∧ X.2.2.2.2.2.2.2.2.1.sig.returnType = ret ∧ X.2.2.2.2.2.2.2.2.1.locks = false ∧ X.2.1 = gl G
def mjV (G : Gw) (X : Cx) (nL pc : Nat) (L : List (Nat × Value)) (st : List Value) (m : Mm) (P : Option Value → Mm → Prop) : Prop :=
  ∀ (H : Heap) (locs : List Loc) (ls : Array Slot), gP G m H → va_S (gA G) X.2.2.2.2.1.heap H locs → lv_has ls nL L →
    W X.1 X.2.1 X.2.2.1 X.2.2.2.1 X.2.2.2.2.1 X.2.2.2.2.2.1 X.2.2.2.2.2.2.1 X.2.2.2.2.2.2.2.1 X.2.2.2.2.2.2.2.2.1 X.2.2.2.2.2.2.2.2.2 H locs 0 0 (MQ X.2.2.2.2.2.2.2.1 (mjQ G P) X.2.2.2.2.2.2.1 X.2.2.2.2.1 0 0 (gA G)) (F0 X.2.2.2.2.2.1 pc ls st)
theorem mjR_of {G : Gw} (hG : gOk G) {d : Nat} {y : MethodName} {bytes : ByteArray} {maxL : Nat} {ret : Option FieldType} {av : List Value} {m : Mm} {P : Option Value → Mm → Prop} (hy : plainName y.cls = true) (hn : (lg_sl av).length ≤ maxL)
    (k : ∀ X : Cx, mjF G X bytes y.cls maxL d ret → mjV G X maxL 0 (lv_args 0 av) [] m P) : mjR G d y bytes maxL ret av m P := by
  refine Met.ofW (cc := bytes) (maxL := maxL) (ret := ret) hy rfl ?_
  intro p e s mm args below meth c s₁ B hml hv
  obtain ⟨rfl, hP, hK⟩ := hv
  have hts := atoms_spec (ws := .code y bytes maxL ret :: gw_tbl) B.pre
  have hl := lv_entry av hn
  rw [lg_entry_eq]
  exact k (p, gl G, e, rmd d, s, mm, av.toArray, below, meth, c) ⟨B.exec, B.bytes, hml, findClass_of_methodNamed B.named, fun w h => hts w (List.mem_cons_of_mem _ h), hK, hG, rfl, B.returns, B.notSynchronized, rfl⟩ s.heap [] _ hP va_S.rf hl
-- ===== options, loops =====
def mjO {α : Type} (x : Option α) (k : α → Prop) : Prop := ∃ a, x = some a ∧ k a
theorem okS {α : Type} {a : α} {k : α → Prop} (h : mjO (some a) k) : k a := by
  obtain ⟨b, e, h⟩ := h
  cases e
  exact h
theorem okB {α β : Type} {x : Option α} {g : α → Option β} {k : β → Prop} (h : mjO (x.bind g) k) {P' : α → Prop} (hk : ∀ a, mjO (g a) k → P' a) : mjO x P' := by
  obtain ⟨b, e, h⟩ := h
  cases x with
  | none => cases e
  | some a => exact ⟨a, rfl, hk a ⟨b, e, h⟩⟩
theorem okT {α : Type} {c : Prop} [Decidable c] {x y : Option α} {k : α → Prop} (h : mjO (if c then x else y) k) (hc : c) : mjO x k := by rwa [if_pos hc] at h
theorem okF {α : Type} {c : Prop} [Decidable c] {x y : Option α} {k : α → Prop} (h : mjO (if c then x else y) k) (hc : ¬ c) : mjO y k := by rwa [if_neg hc] at h
def ga {α : Type} (i : Int32) (n : Nat) (x : Option α) : Option α := if i < 0 ∨ n ≤ i.toNatClampNeg then none else x
def gz {α : Type} (y : Int32) (x : Option α) : Option α := if y = 0 then none else x
def gzl {α : Type} (y : Int64) (x : Option α) : Option α := if y = 0 then none else x
def gq {α : Type} (c : Bool) (x : Option α) : Option α := if c = true then x else none
theorem okga {α : Type} {i : Int32} {n : Nat} {x : Option α} {k : α → Prop} (h : mjO (ga i n x) k) : vp_in i n ∧ mjO x k := by
  unfold ga at h
  by_cases hc : i < 0 ∨ n ≤ i.toNatClampNeg
  · rw [if_pos hc] at h
    obtain ⟨b, e, -⟩ := h
    cases e
  · rw [if_neg hc] at h
    exact ⟨hc, h⟩
theorem okgz {α : Type} {y : Int32} {x : Option α} {k : α → Prop} (h : mjO (gz y x) k) : ¬ y = 0 ∧ mjO x k := by
  unfold gz at h
  by_cases hc : y = 0
  · rw [if_pos hc] at h
    obtain ⟨b, e, -⟩ := h
    cases e
  · rw [if_neg hc] at h
    exact ⟨hc, h⟩
theorem okgzl {α : Type} {y : Int64} {x : Option α} {k : α → Prop} (h : mjO (gzl y x) k) : ¬ y = 0 ∧ mjO x k := by
  unfold gzl at h
  by_cases hc : y = 0
  · rw [if_pos hc] at h
    obtain ⟨b, e, -⟩ := h
    cases e
  · rw [if_neg hc] at h
    exact ⟨hc, h⟩
theorem okgq {α : Type} {c : Bool} {x : Option α} {k : α → Prop} (h : mjO (gq c x) k) : c = true ∧ mjO x k := by
  unfold gq at h
  by_cases hc : c = true
  · rw [if_pos hc] at h
    exact ⟨hc, h⟩
  · rw [if_neg hc] at h
    obtain ⟨b, e, -⟩ := h
    cases e
def itN {σ ρ : Type} (step : σ → Option (σ ⊕ ρ)) : Nat → σ → Option ρ
  | 0, _ => none
  | n + 1, s => match step s with
    | none => none
    | some (.inr r) => some r
    | some (.inl s') => itN step n s'
theorem itN_succ {σ ρ : Type} {step : σ → Option (σ ⊕ ρ)} : ∀ {n : Nat} {s : σ} {r : ρ}, itN step n s = some r → itN step (n + 1) s = some r
  | 0, _, _, h => by cases h
  | n + 1, s, r, h => by
    unfold itN at h ⊢
    cases hs : step s with
    | none => rw [hs] at h; cases h
    | some x =>
      rw [hs] at h
      cases x with
      | inr r' => exact h
      | inl s' => exact itN_succ h
theorem itN_mono {σ ρ : Type} {step : σ → Option (σ ⊕ ρ)} {n k : Nat} {s : σ} {r : ρ} (h : itN step n s = some r) (hk : n ≤ k) : itN step k s = some r := by
  induction hk with
  | refl => exact h
  | step _ ih => exact itN_succ ih
noncomputable def iter {σ ρ : Type} (step : σ → Option (σ ⊕ ρ)) (s : σ) : Option ρ :=
  have := Classical.propDecidable (∃ (n : Nat) (r : ρ), itN step n s = some r)
  if h : ∃ (n : Nat) (r : ρ), itN step n s = some r then some (Classical.choose (Classical.choose_spec h)) else none
theorem iter_of {σ ρ : Type} {step : σ → Option (σ ⊕ ρ)} {n : Nat} {s : σ} {r : ρ} (h : itN step n s = some r) : iter step s = some r := by
  have hx : ∃ (n : Nat) (r : ρ), itN step n s = some r := ⟨n, r, h⟩
  unfold iter
  rw [dif_pos hx]
  have h2 := Classical.choose_spec (Classical.choose_spec hx)
  have h3 := itN_mono h (Nat.le_max_left n (Classical.choose hx))
  have h4 := itN_mono h2 (Nat.le_max_right n (Classical.choose hx))
  exact h4.symm.trans h3
theorem iter_ex {σ ρ : Type} {step : σ → Option (σ ⊕ ρ)} {s : σ} {r : ρ} (h : iter step s = some r) : ∃ n, itN step n s = some r := by
  unfold iter at h
  by_cases hx : ∃ (n : Nat) (r : ρ), itN step n s = some r
  · rw [dif_pos hx] at h
    have h2 := Classical.choose_spec (Classical.choose_spec hx)
    rw [← Option.some.inj h]
    exact ⟨_, h2⟩
  · rw [dif_neg hx] at h
    cases h
theorem okI {σ ρ : Type} {step : σ → Option (σ ⊕ ρ)} {s0 : σ} {k : ρ → Prop} (T : σ → Prop) (h : mjO (iter step s0) k) (hs : ∀ s, mjO (step s) (Sum.elim T k) → T s) : T s0 := by
  obtain ⟨r, e, hk⟩ := h
  obtain ⟨n, hn⟩ := iter_ex e
  clear e
  induction n generalizing s0 with
  | zero => cases hn
  | succ n ih =>
    unfold itN at hn
    cases h1 : step s0 with
    | none => rw [h1] at hn; cases hn
    | some x =>
      rw [h1] at hn
      cases x with
      | inr r' =>
        cases hn
        exact hs s0 ⟨_, h1, hk⟩
      | inl s' => exact hs s0 ⟨_, h1, ih hn⟩
/-- a loop by the states that it goes through -/
theorem iter_eq {σ ρ : Type} {step : σ → Option (σ ⊕ ρ)} (s : σ) : iter step s = match step s with
    | none => none
    | some (.inr r) => some r
    | some (.inl s') => iter step s' := by
  cases h : step s with
  | none =>
    cases hi : iter step s with
    | none => rfl
    | some r =>
      obtain ⟨n, hn⟩ := iter_ex hi
      cases n with
      | zero => cases hn
      | succ n => unfold itN at hn; rw [h] at hn; cases hn
  | some x =>
    cases x with
    | inr r => exact iter_of (n := 1) (by unfold itN; rw [h])
    | inl s' =>
      show iter step s = iter step s'
      cases hi : iter step s' with
      | some r =>
        obtain ⟨n, hn⟩ := iter_ex hi
        exact iter_of (n := n + 1) (by unfold itN; rw [h]; exact hn)
      | none =>
        cases hj : iter step s with
        | none => rfl
        | some r =>
          obtain ⟨n, hn⟩ := iter_ex hj
          cases n with
          | zero => cases hn
          | succ n =>
            unfold itN at hn
            rw [h] at hn
            rw [iter_of hn] at hi
            cases hi
theorem iter_inr {σ ρ : Type} {step : σ → Option (σ ⊕ ρ)} {s : σ} {r : ρ} (h : step s = some (.inr r)) : iter step s = some r := by rw [iter_eq, h]
theorem iter_inl {σ ρ : Type} {step : σ → Option (σ ⊕ ρ)} {s s' : σ} (h : step s = some (.inl s')) : iter step s = iter step s' := by rw [iter_eq, h]
theorem iter_seq {σ ρ : Type} {step : σ → Option (σ ⊕ ρ)} (t : Nat → σ) (n : Nat) {r : ρ} (hs : ∀ i, i < n → step (t i) = some (.inl (t (i + 1)))) (he : step (t n) = some (.inr r)) : iter step (t 0) = some r := by
  have key : ∀ k, k ≤ n → iter step (t (n - k)) = some r := by
    intro k
    induction k with
    | zero => intro _; exact iter_inr he
    | succ k ih =>
      intro hk
      have h1 := hs (n - (k + 1)) (by omega)
      rw [show n - (k + 1) + 1 = n - k by omega] at h1
      rw [iter_inl h1]
      exact ih (by omega)
  have := key n (Nat.le_refl n)
  rwa [Nat.sub_self] at this
def jn {α β : Type} (j : α → β) (body : (α → β) → β) : β := body j
def bI (b : Bool) : Int32 := if b = true then 1 else 0
