-- ===== constructors: worlds written out =====
def tyl (c : Nat → ClassId) : List (ClassId × FieldType) := [(c 0, .int), (c 1, .long), (c 2, .char), (c 3, .boolean), (c 4, .object "NamesBack$Land"), (c 5, .object "NamesBack$Tape")]
/-- cells: rows of zeros -/
abbrev aI (c : Nat → ClassId) (n q : Nat) : Nat × va_E := (q, .inl (c 0, n, .inl (fun _ => 0)))
abbrev aJ (c : Nat → ClassId) (n q : Nat) : Nat × va_E := (q, .inl (c 1, n, .inr (.inl (fun _ => 0))))
abbrev aC (c : Nat → ClassId) (n q : Nat) : Nat × va_E := (q, .inl (c 2, n, .inl (fun _ => 0)))
abbrev aZ (c : Nat → ClassId) (n q : Nat) : Nat × va_E := (q, .inl (c 3, n, .inl (fun _ => 0)))
abbrev aQ (c : Nat → ClassId) (k n : Nat) (f : Nat → Option Nat) (q : Nat) : Nat × va_E := (q, .inl (c k, n, .inr (.inr (.inr (.inr f)))))
def cK (D : va_G) (c : Nat → ClassId) (s0 U : State) : Prop := va_K D vwCl (tyl c) U ∧ s0.WarmedH U.vm
/-- what holds at the start -/
def cS (s0 : State) : Prop := ∃ a0, ∀ w ∈ lw_tbl, w.before a0 s0 = true
/-- a constructor's contract: from one blank object to the whole tree under it -/
def cR (D : va_G) (c : Nat → ClassId) (s0 : State) (l : Launch) (f mc ms lo : Nat) (y : MethodName) (bytes : ByteArray) (maxL ci : Nat) (dfl : List Value) (sh : List Shp) (m0 : Mm) : Prop :=
  ∀ (q0 sz : Nat), Met l y (.code y bytes maxL none :: gw_tbl) { frames := f, cells := mc, slots := ms, locals := lo } (va_Pc [.ref q0] (fun U => U.heap.size = sz ∧ va_P D vwCl [(q0, .inr (ci, dfl))] U.heap ∧ cK D c s0 U))
    (va_Qv (fun ρ : Nat → Nat => ρ 0 = q0) (fun ρ t => va_P D vwCl (mw (D, c, ρ, sh, s0, l) m0) t.heap ∧ va_D (va_A [(q0, .inr (ci, dfl))] sz) (mw (D, c, ρ, sh, s0, l) m0)) (va_A [(q0, .inr (ci, dfl))] sz)) mc ms (va_A [(q0, .inr (ci, dfl))] sz)
/-- the context of a walk that makes cells -/
def cF (D : va_G) (A : Nat → Prop) (c : Nat → ClassId) (s0 : State) (X : Cx) (b : ByteArray) (own : String) (nL : Nat) : Prop :=
  X.1.tables.exec = Jvm.exec ∧ X.2.2.2.2.2.2.2.2.2.code = b ∧ X.2.2.2.2.2.2.2.2.2.maxLocals = nL ∧ X.2.2.2.2.1.vm.findClass own = some X.2.2.2.2.2.1.cls ∧ (∀ w ∈ gw_tbl, w.before X.2.2.2.2.2.2.1 X.2.2.2.2.1 = true) ∧ va_K D vwCl (tyl c) X.2.2.2.2.1 ∧ s0.WarmedH X.2.2.2.2.1.vm ∧ cS s0 ∧ ∀ q, X.2.2.2.2.1.heap.size ≤ q → A q
def cV (D : va_G) (A : Nat → Prop) (X : Cx) (Qf : State → Prop) (nL pc : Nat) (L : List (Nat × Value)) (st : List Value) (ws : va_W) (cells slots : Nat) : Prop :=
  ∀ (H : Heap) (locs : List Loc) (ls : Array Slot), va_P D vwCl ws H → va_D A ws → va_S A X.2.2.2.2.1.heap H locs → lv_has ls nL L →
    W X.1 X.2.1 X.2.2.1 X.2.2.2.1 X.2.2.2.2.1 X.2.2.2.2.2.1 X.2.2.2.2.2.2.1 X.2.2.2.2.2.2.2.1 X.2.2.2.2.2.2.2.2.1 X.2.2.2.2.2.2.2.2.2 H locs cells slots Qf (F0 X.2.2.2.2.2.1 pc ls st)
section
variable {D : va_G} {A : Nat → Prop} {c : Nat → ClassId} {s0 : State} {X : Cx} {b : ByteArray} {own : String} {nL pc cells slots : Nat} {L : List (Nat × Value)} {st : List Value} {ws : va_W} {Qf : State → Prop}
theorem cAload (F : cF D A c s0 X b own nL) {i : Fin 4} {k x : Nat} (hd : decode b pc = .ok (.aload_n i, 1)) (hl : L[k]? = some ((i : Nat), .ref x)) (kk : cV D A X Qf nL (pc + 1) L (.ref x :: st) ws cells slots) : cV D A X Qf nL pc L st ws cells slots :=
  fun H locs ls hP hD hS hL => lv_aload_n F.1 F.2.1 hd rfl (lv_at hL k hl) (kk H locs ls hP hD hS hL)
theorem cIload (F : cF D A c s0 X b own nL) {i : Fin 4} {k : Nat} {x : Int32} (hd : decode b pc = .ok (.iload_n i, 1)) (hl : L[k]? = some ((i : Nat), .int x)) (kk : cV D A X Qf nL (pc + 1) L (.int x :: st) ws cells slots) : cV D A X Qf nL pc L st ws cells slots :=
  fun H locs ls hP hD hS hL => lv_iload_n F.1 F.2.1 hd rfl (lv_at hL k hl) (kk H locs ls hP hD hS hL)
theorem cIstore (F : cF D A c s0 X b own nL) {k : Fin 4} {i : Nat} {x : Int32} {L' : List (Nat × Value)} (hd : decode b pc = .ok (.istore_n k, 1)) (hi : (k : Nat) = i) (hn : i < nL) (hl : (i, Value.int x) :: L.filter (fun q => !(q.1 == i) && !(q.1 + 1 == i && q.2.category == 2)) = L') (kk : cV D A X Qf nL (pc + 1) L' st ws cells slots) : cV D A X Qf nL pc L (.int x :: st) ws cells slots :=
  fun H locs ls hP hD hS hL => lv_istore_n F.1 F.2.1 hd hi hL hn hl (fun ls' hL' => kk H locs ls' hP hD hS hL')
theorem cAstore (F : cF D A c s0 X b own nL) {k : Fin 4} {i : Nat} {x : Nat} {L' : List (Nat × Value)} (hd : decode b pc = .ok (.astore_n k, 1)) (hi : (k : Nat) = i) (hn : i < nL) (hl : (i, Value.ref x) :: L.filter (fun q => !(q.1 == i) && !(q.1 + 1 == i && q.2.category == 2)) = L') (kk : cV D A X Qf nL (pc + 1) L' st ws cells slots) : cV D A X Qf nL pc L (.ref x :: st) ws cells slots :=
  fun H locs ls hP hD hS hL => lv_astore_n F.1 F.2.1 hd hi hL hn hl (fun ls' hL' => kk H locs ls' hP hD hS hL')
theorem cIinc (F : cF D A c s0 X b own nL) {i k : Nat} {n : Int} {x v : Int32} {L' : List (Nat × Value)} (hd : decode b pc = .ok (.iinc i n, 3)) (hk : L[k]? = some (i, .int x)) (hv : x + Int32.ofInt n = v) (hn : i < nL) (hl : (i, Value.int v) :: L.filter (fun q => !(q.1 == i) && !(q.1 + 1 == i && q.2.category == 2)) = L') (kk : cV D A X Qf nL (pc + 3) L' st ws cells slots) : cV D A X Qf nL pc L st ws cells slots :=
  fun H locs ls hP hD hS hL => lv_iinc F.1 F.2.1 hd hL hk hv hn hl (fun ls' hL' => kk H locs ls' hP hD hS hL')
theorem cIconst (F : cF D A c s0 X b own nL) {n : Int} {v : Int32} (hd : decode b pc = .ok (.iconst n, 1)) (hv : Int32.ofInt n = v) (kk : cV D A X Qf nL (pc + 1) L (.int v :: st) ws cells slots) : cV D A X Qf nL pc L st ws cells slots :=
  fun H locs ls hP hD hS hL => lv_iconst F.1 F.2.1 hd hv (kk H locs ls hP hD hS hL)
theorem cBipush (F : cF D A c s0 X b own nL) {n : Int} {v : Int32} (hd : decode b pc = .ok (.bipush n, 2)) (hv : (Int8.ofInt n).toInt32 = v) (kk : cV D A X Qf nL (pc + 2) L (.int v :: st) ws cells slots) : cV D A X Qf nL pc L st ws cells slots :=
  fun H locs ls hP hD hS hL => lv_bipush F.1 F.2.1 hd hv (kk H locs ls hP hD hS hL)
theorem cSipush (F : cF D A c s0 X b own nL) {n : Int} {v : Int32} (hd : decode b pc = .ok (.sipush n, 3)) (hv : (Int16.ofInt n).toInt32 = v) (kk : cV D A X Qf nL (pc + 3) L (.int v :: st) ws cells slots) : cV D A X Qf nL pc L st ws cells slots :=
  fun H locs ls hP hD hS hL => lv_sipush F.1 F.2.1 hd hv (kk H locs ls hP hD hS hL)
theorem cDup (F : cF D A c s0 X b own nL) {v : Value} (hd : decode b pc = .ok (.dup, 1)) (hv : v.category = 1) (kk : cV D A X Qf nL (pc + 1) L (v :: v :: st) ws cells slots) : cV D A X Qf nL pc L (v :: st) ws cells slots :=
  fun H locs ls hP hD hS hL => lv_dup F.1 F.2.1 hd hv (kk H locs ls hP hD hS hL)
theorem cGoto (F : cF D A c s0 X b own nL) {off : Int} {tgt : Nat} (hd : decode b pc = .ok (.goto off, 3)) (ht : (pc : Int) + off = (tgt : Int)) (kk : cV D A X Qf nL tgt L st ws cells slots) : cV D A X Qf nL pc L st ws cells slots :=
  fun H locs ls hP hD hS hL => lv_goto F.1 F.2.1 hd ht (kk H locs ls hP hD hS hL)
theorem cGeT (F : cF D A c s0 X b own nL) {x y : Int32} {off : Int} {tgt : Nat} (hd : decode b pc = .ok (.if_icmp .ge off, 3)) (ht : (pc : Int) + off = (tgt : Int)) (hc : y ≤ x) (kk : cV D A X Qf nL tgt L st ws cells slots) : cV D A X Qf nL pc L (.int y :: .int x :: st) ws cells slots :=
  fun H locs ls hP hD hS hL => lv_icmp_ge F.1 F.2.1 hd ht (fun _ => kk H locs ls hP hD hS hL) (fun q => absurd hc q)
theorem cGeF (F : cF D A c s0 X b own nL) {x y : Int32} {off : Int} {tgt : Nat} (hd : decode b pc = .ok (.if_icmp .ge off, 3)) (ht : (pc : Int) + off = (tgt : Int)) (hc : ¬ y ≤ x) (kk : cV D A X Qf nL (pc + 3) L st ws cells slots) : cV D A X Qf nL pc L (.int y :: .int x :: st) ws cells slots :=
  fun H locs ls hP hD hS hL => lv_icmp_ge F.1 F.2.1 hd ht (fun q => absurd q hc) (fun _ => kk H locs ls hP hD hS hL)
theorem cEq {ws' : va_W} (h : ws = ws') (kk : cV D A X Qf nL pc L st ws' cells slots) : cV D A X Qf nL pc L st ws cells slots := by subst h; exact kk
theorem obj_in : Cond.instanceMethod objectInit ∈ gw_tbl := gw_tab (i := 24) (by decide +kernel) rfl
theorem obj_cd : Cond.code objectInit ⟨#[0xb1]⟩ 1 none ∈ gw_tbl := gw_tab (i := 25) (by decide +kernel) rfl
theorem cObj (F : cF D A c s0 X b own nL) {idx a : Nat} (hd : decode b pc = .ok (.invokespecial idx, 3)) (hw : Cond.methodLink own idx objectInit ∈ gw_tbl) (hf : 1 ≤ X.2.2.2.1.frames) (hlo : (st.map fun v => v.category).sum + 12 ≤ X.2.2.2.1.locals) (kk : cV D A X Qf nL (pc + 3) L st ws cells slots) : cV D A X Qf nL pc L (.ref a :: st) ws cells slots := by
  intro H locs ls hP hD hS hL
  refine W.objInit F.1 F.2.1 F.2.2.2.1 (F.2.2.2.2.1 _ hw) (F.2.2.2.2.1 _ obj_in) (F.2.2.2.2.1 _ obj_cd) rfl (hL.1.trans F.2.2.1.symm) rfl hd hf ?_ ?_
  · show 2 * 0 + _ + 12 ≤ _
    omega
  · exact kk H locs ls hP hD hS hL
theorem cNewa (F : cF D A c s0 X b own nL) {atype : ArrayType} {ty : FieldType} {k0 : Nat} {n : Int32} {N' : Nat} {a0 : vp_A} (hd : decode b pc = .ok (.newarray atype, 2)) (harr : Cond.arrayClass (newarray.typeOf atype) ∈ gw_tbl) (hty : newarray.typeOf atype = ty) (hk0 : (tyl c)[k0]? = some (c k0, ty)) (hpr : ∀ C, ty ≠ .object C) (ha : ∀ cA : ClassId, vp_cell cA a0 = arrV cA N' (fun _ => defaultValue ty)) (hn : ¬ n < 0) (hN : n.toNatClampNeg = N') (hbytes : N' * componentBytes ty ≤ 536870912) (hc : cells + 1 ≤ X.2.2.2.1.cells) (hs : slots + N' ≤ X.2.2.2.1.slots)
    (kk : ∀ q : Nat, cV D A X Qf nL (pc + 2) L (.ref q :: st) (ws ++ [(q, .inl (c k0, a0))]) (cells + 1) (slots + N')) : cV D A X Qf nL pc L (.int n :: st) ws cells slots := by
  intro H locs ls hP hD hS hL
  refine va_newa F.1 F.2.1 (F.2.2.2.2.1 _ harr) hty F.2.2.2.2.2.1 hP hD hS F.2.2.2.2.2.2.2.2 ha hn hN hbytes hc hs hd (fun q cA H1 hK1 hP1 hD1 hS1 => ?_)
  have e : cA = c k0 := by
    have h1 := (hK1.2 6 (cA, ty) rfl).2
    have h2 := (F.2.2.2.2.2.1.2 k0 (c k0, ty) hk0).2
    cases ty with
    | object C => exact absurd rfl (hpr C)
    | _ => exact Option.some.inj (h1.symm.trans h2)
  subst e
  exact kk q H1 locs ls hP1 hD1 hS1 hL
theorem cPutF (F : cF D A c s0 X b own nL) {ci j idx a : Nat} {fs : List Value} {ty : FieldType} {v : Value} {C : String} {T : u_T} {N : Nat} (ty0 : Nat → FieldType) (hd : decode b pc = .ok (.putfield idx, 3)) (hc : vwCl[ci]? = some (C, T, N)) (hin : ∀ w ∈ u_ws C T N, w ∈ gw_tbl) (hj : j < N) (hw : Cond.fieldLink own idx (T j).1 (T j).2.1 (T j).2.2.1 ∈ gw_tbl) (hty : ∀ k, k < N → parseFieldDescriptor (T k).2.2.1 = some (ty0 k)) (hnm : ∀ a, a < N → ∀ b, b < N → a ≠ b → (T a).2.1 ≠ (T b).2.1) (hfin : (T j).2.2.2 = true) (hini : X.2.2.2.2.2.2.2.2.1.name = "<init>") (hdecl : (T j).1 = own) (hpd : parseFieldDescriptor (T j).2.2.1 = some ty) (hn : narrow ty v = v ∧ fits ty v = true) (q0 : Nat) (he : ws[q0]? = some (a, .inr (ci, fs))) (hl : j < fs.length)
    (kk : cV D A X Qf nL (pc + 3) L st (ws.set q0 (a, .inr (ci, fs.set j v))) cells slots) : cV D A X Qf nL pc L (v :: .ref a :: st) ws cells slots := by
  intro H locs ls hP hD hS hL
  exact va_putF (ref := (T j).1) F.1 F.2.1 F.2.2.2.2.1 hin ty0 hty hnm F.2.2.2.1 F.2.2.2.2.2.1 hP hD hS q0 he hc j hj (F.2.2.2.2.1 _ hw) (fun _ h => h) hfin hini hdecl hpd hn.1 hn.2 hl hd (fun H1 locs1 hP1 hD1 hS1 => kk H1 locs1 ls hP1 hD1 hS1 hL)
theorem cPut (F : cF D A c s0 X b own nL) {ci j idx a : Nat} {fs : List Value} {ty : FieldType} {v : Value} {C : String} {T : u_T} {N : Nat} (ty0 : Nat → FieldType) (hd : decode b pc = .ok (.putfield idx, 3)) (hc : vwCl[ci]? = some (C, T, N)) (hin : ∀ w ∈ u_ws C T N, w ∈ gw_tbl) (hj : j < N) (hw : Cond.fieldLink own idx (T j).1 (T j).2.1 (T j).2.2.1 ∈ gw_tbl) (hty : ∀ k, k < N → parseFieldDescriptor (T k).2.2.1 = some (ty0 k)) (hnm : ∀ a, a < N → ∀ b, b < N → a ≠ b → (T a).2.1 ≠ (T b).2.1) (hfin : (T j).2.2.2 = false) (hpd : parseFieldDescriptor (T j).2.2.1 = some ty) (hn : narrow ty v = v ∧ fits ty v = true) (q0 : Nat) (he : ws[q0]? = some (a, .inr (ci, fs))) (hl : j < fs.length)
    (kk : cV D A X Qf nL (pc + 3) L st (ws.set q0 (a, .inr (ci, fs.set j v))) cells slots) : cV D A X Qf nL pc L (v :: .ref a :: st) ws cells slots := by
  intro H locs ls hP hD hS hL
  exact va_put (ref := (T j).1) F.1 F.2.1 F.2.2.2.2.1 hin ty0 hty hnm F.2.2.2.1 F.2.2.2.2.2.1 hP hD hS q0 he hc j hj (F.2.2.2.2.1 _ hw) (fun _ h => h) hfin hpd hn.1 hn.2 hl hd (fun H1 locs1 hP1 hD1 hS1 => kk H1 locs1 ls hP1 hD1 hS1 hL)
theorem cF_nestF (F : cF D A c s0 X b own nL) {own' : String} {idx : Nat} {r n t h : String} (hw : Cond.fieldLinkNest own' idx r n t h ∈ lw_tbl) : (Cond.fieldLinkNest own' idx r n t h).before X.2.2.2.2.2.2.1 X.2.2.2.2.1 = true := by
  obtain ⟨a0, h0⟩ := F.2.2.2.2.2.2.2.1
  exact va_Nw.use rfl (va_Nw.warmF F.2.2.2.2.2.2.1 (va_Nw.of rfl (h0 _ hw)))
theorem cF_nestM (F : cF D A c s0 X b own nL) {own' : String} {idx : Nat} {y : MethodName} {h : String} (hw : Cond.methodLinkNest own' idx y h ∈ lw_tbl) : va_Nw (.methodLinkNest own' idx y h) X.2.2.2.2.1 := by
  obtain ⟨a0, h0⟩ := F.2.2.2.2.2.2.2.1
  exact va_Nw.warmM F.2.2.2.2.2.2.1 (va_Nw.of rfl (h0 _ hw))
theorem cGet (F : cF D A c s0 X b own nL) {ci j idx a : Nat} {fs : List Value} {v : Value} (hd : decode b pc = .ok (.getfield idx, 3)) (fa : mjFA own idx ci j) (q0 : Nat) (he : ws[q0]? = some (a, .inr (ci, fs))) (hv : fs[j]? = some v) (kk : cV D A X Qf nL (pc + 3) L (v :: st) ws cells slots) : cV D A X Qf nL pc L (.ref a :: st) ws cells slots := by
  obtain ⟨C, T, N, hc, hin, hk, hw⟩ := fa
  intro H locs ls hP hD hS hL
  rcases hw with hw | ⟨host, hw⟩
  · exact va_get (ref := (T j).1) F.1 F.2.1 F.2.2.2.2.1 hin F.2.2.2.1 F.2.2.2.2.2.1 hP q0 he hc j hk (F.2.2.2.2.1 _ hw) (fun _ h => h) hv hd (kk H locs ls hP hD hS hL)
  · exact va_getN (ref := (T j).1) F.1 F.2.1 F.2.2.2.2.1 hin F.2.2.2.1 F.2.2.2.2.2.1 hP q0 he hc j hk (cF_nestF F hw) (fun _ h => h) hv hd (kk H locs ls hP hD hS hL)
theorem cIast (F : cF D A c s0 X b own nL) {a n : Nat} {f : Nat → Int32} {i x : Int32} (hd : decode b pc = .ok (.iastore, 1)) (q0 : Nat) (he : ws[q0]? = some (a, .inl (c 0, n, .inl f))) (hin : vp_in i n) (kk : cV D A X Qf nL (pc + 1) L st (ws.set q0 (a, .inl (c 0, n, .inl (upd f i.toNatClampNeg x)))) cells slots) : cV D A X Qf nL pc L (.int x :: .int i :: .ref a :: st) ws cells slots := by
  intro H locs ls hP hD hS hL
  exact va_iast F.1 F.2.1 F.2.2.2.2.2.1 hP hD hS q0 0 he rfl hin hd (fun H1 locs1 hP1 hD1 hS1 => kk H1 locs1 ls hP1 hD1 hS1 hL)
theorem ao_warm {C : String} {i : Nat} (F : cF D A c s0 X b own nL) (hw : tables_1[i]? = some (Cond.arrayOver (.object C))) : va_AO C X.2.2.2.2.1 := by
  obtain ⟨a0, h0⟩ := F.2.2.2.2.2.2.2.1
  exact va_AO.moved F.2.2.2.2.2.2.1.alike (va_AO.of (h0 _ (lw_tab hw)))
theorem cAnew (F : cF D A c s0 X b own nL) {C : String} {idx i k0 : Nat} {n : Int32} {N' : Nat} (hd : decode b pc = .ok (.anewarray idx, 3)) (hw : Cond.classLink own idx C ∈ gw_tbl) (ho : tables_1[i]? = some (Cond.arrayOver (.object C))) (hk0 : (tyl c)[k0]? = some (c k0, .object C)) (hn : ¬ n < 0) (hN : n.toNatClampNeg = N') (hbytes : N' * 4 ≤ 536870912) (hc : cells + 1 ≤ X.2.2.2.1.cells) (hs : slots + N' ≤ X.2.2.2.1.slots)
    (kk : ∀ q : Nat, cV D A X Qf nL (pc + 3) L (.ref q :: st) (ws ++ [aQ c k0 N' (fun _ => none) q]) (cells + 1) (slots + N')) : cV D A X Qf nL pc L (.int n :: st) ws cells slots := by
  intro H locs ls hP hD hS hL
  refine va_newq F.1 F.2.1 F.2.2.2.1 (F.2.2.2.2.1 _ hw) (ao_warm F ho) F.2.2.2.2.2.1 hP hD hS F.2.2.2.2.2.2.2.2 hn hN hbytes hc hs hd (fun q cA H1 hK1 hP1 hD1 hS1 => ?_)
  have e : cA = c k0 := by
    obtain ⟨_, _, _, _, _, h1⟩ := (hK1.2 6 (cA, .object C) rfl).2
    obtain ⟨_, _, _, _, _, h2⟩ := (F.2.2.2.2.2.1.2 k0 (c k0, .object C) hk0).2
    exact Option.some.inj (h1.symm.trans h2)
  subst e
  exact kk q H1 locs ls hP1 hD1 hS1 hL
theorem cAast (F : cF D A c s0 X b own nL) {a n k0 v ci : Nat} {vs : List Value} {C : String} {T : u_T} {N : Nat} {f : Nat → Option Nat} {i : Int32} (hd : decode b pc = .ok (.aastore, 1)) (q0 qk : Nat) (he : ws[q0]? = some (aQ c k0 n f a)) (hk0 : (tyl c)[k0]? = some (c k0, .object C)) (hv : ws[qk]? = some (v, .inr (ci, vs))) (hc : vwCl[ci]? = some (C, T, N)) (hin : vp_in i n) (kk : cV D A X Qf nL (pc + 1) L st (ws.set q0 (aQ c k0 n (va_up f i.toNatClampNeg (some v)) a)) cells slots) : cV D A X Qf nL pc L (.ref v :: .int i :: .ref a :: st) ws cells slots := by
  intro H locs ls hP hD hS hL
  exact va_astq (r := (C, T, N)) F.1 F.2.1 F.2.2.2.2.2.1 hP hD hS q0 k0 qk ci he hk0 hv hc hin hd (fun H1 locs1 hP1 hD1 hS1 => kk H1 locs1 ls hP1 hD1 hS1 hL)
theorem cNew (F : cF D A c s0 X b own nL) {idx ci : Nat} {C : String} {T : u_T} {N : Nat} {fs : List Value} (ty : Nat → FieldType) (hd : decode b pc = .ok (.new idx, 3)) (hc : vwCl[ci]? = some (C, T, N)) (hin : ∀ w ∈ u_ws C T N, w ∈ gw_tbl) (hty : ∀ k, k < N → parseFieldDescriptor (T k).2.2.1 = some (ty k)) (h1 : Cond.classLink own idx C ∈ gw_tbl) (h2 : Cond.instantiable C N ∈ gw_tbl) (h3 : Cond.initialized C ∈ gw_tbl) (hfs : ∀ j, j < N → defaultValue (ty j) = vp_V fs j) (hcl : cells + 1 ≤ X.2.2.2.1.cells) (hsl : slots + N ≤ X.2.2.2.1.slots)
    (kk : ∀ q : Nat, cV D A X Qf nL (pc + 3) L (.ref q :: st) (ws ++ [(q, .inr (ci, fs))]) (cells + 1) (slots + N)) : cV D A X Qf nL pc L st ws cells slots := by
  intro H locs ls hP hD hS hL
  exact va_new F.1 F.2.1 F.2.2.2.2.1 hin ty hty F.2.2.2.1 (F.2.2.2.2.1 _ h1) (F.2.2.2.2.1 _ h2) (F.2.2.2.2.1 _ h3) F.2.2.2.2.2.1 hP hD hS F.2.2.2.2.2.2.2.2 hc hfs hcl hsl hd (fun q H1 hP1 hD1 hS1 => kk q H1 locs ls hP1 hD1 hS1 hL)
theorem va_P_app {cl : List vw_C} {w1 w2 : va_W} {H : Heap} (h : va_P D cl (w1 ++ w2) H) : va_P D cl w1 H ∧ va_P D cl w2 H := by
  refine ⟨fun k q hk => h k q ?_, fun k q hk => h (w1.length + k) q ?_⟩
  · rw [List.getElem?_append_left (List.getElem?_eq_some_iff.mp hk).1]
    exact hk
  · rw [List.getElem?_append_right (by omega), Nat.add_sub_cancel_left]
    exact hk
/-- the last cell is a blank object: its constructor makes its tree, in its place -/
theorem cInit (F : cF D A c s0 X b own nL) {f mc ms lo idx ci maxL : Nat} {dfl : List Value} {sh : List Shp} {m0 : Mm} {y : MethodName} {bytes : ByteArray} {q : Nat} (hd : decode b pc = .ok (.invokespecial idx, 3)) (hR : cR D c s0 X.2.1 f mc ms lo y bytes maxL ci dfl sh m0) (hw : Cond.methodLink own idx y ∈ gw_tbl ∨ ∃ host, Cond.methodLinkNest own idx y host ∈ lw_tbl) (hcd : Cond.code y bytes maxL none ∈ gw_tbl) (hini : Cond.initialized y.cls ∈ gw_tbl) (hin : Cond.instanceMethod y ∈ gw_tbl) (hyn : y.name = "<init>") (hyc : y.cls ≠ "java/lang/invoke/MethodHandle" ∧ y.cls ≠ "java/lang/invoke/VarHandle") (hpd : (parseMethodDescriptor y.desc).map (fun d => d.parameters.length) = some 0)
    (hf : f + 1 ≤ X.2.2.2.1.frames) (hlo : 8 + (maxL + 11) + lo ≤ X.2.2.2.1.locals) (hcl : cells + mc ≤ X.2.2.2.1.cells) (hsl : slots + ms ≤ X.2.2.2.1.slots) (hcat : (st.map fun v => v.category).sum ≤ 8)
    (kk : ∀ ρ : Nat → Nat, ρ 0 = q → cV D A X Qf nL (pc + 3) L st (ws ++ mw (D, c, ρ, sh, s0, X.2.1) m0) (cells + mc) (slots + ms)) : cV D A X Qf nL pc L (.ref q :: st) (ws ++ [(q, .inr (ci, dfl))]) cells slots := by
  intro H locs ls hP hD hS hL
  obtain ⟨p, l, e, R, s, mm, args, below, meth, cd⟩ := X
  obtain ⟨f1, f2, f3, f4, f5, f6, f7, f8, f9⟩ := F
  have hl : ws.length < (ws ++ [(q, (Sum.inr (ci, dfl) : va_E))]).length := by simp
  have hPc := (va_P_app hP).2
  have hD0 : va_D A [(q, .inr (ci, dfl))] := ⟨fun i j p1 q1 h1 h2 _ => by
      have a1 := (List.getElem?_eq_some_iff.mp h1).1
      have a2 := (List.getElem?_eq_some_iff.mp h2).1
      simp at a1 a2
      omega, fun k q1 hk => hD.2 (ws.length + k) q1 (by rw [List.getElem?_append_right (by omega), Nat.add_sub_cancel_left]; exact hk)⟩
  have hFc : ∀ z, va_A [(q, .inr (ci, dfl))] H.size z → A z := by
    intro z h
    rcases h with ⟨k, e1, h⟩ | h
    · exact hD0.2 k (z, e1) h
    · exact f9 z (Nat.le_trans hS.1 h)
  have hgood := mj_good hcd
  have hlen : ∀ sig, parseMethodDescriptor y.desc = some sig → 0 = sig.parameters.length := fun sig h => by
    rw [h] at hpd
    exact (Option.some.inj hpd).symm
  have hblind : FrameBlind (va_Pc [.ref q] (fun U => U.heap.size = H.size ∧ va_P D vwCl [(q, .inr (ci, dfl))] U.heap ∧ cK D c s0 U)) := by
    intro a U g mk h
    obtain ⟨h1, h2, h3, h4, h5⟩ := h
    exact ⟨h1, h2, h3, va_K.moved (u := U) (U := U.calling g mk a) (Vm.Alike.refl U.vm) h4, h5⟩
  have hpre : PreS s H (va_Pc [.ref q] (fun U => U.heap.size = H.size ∧ va_P D vwCl [(q, .inr (ci, dfl))] U.heap ∧ cK D c s0 U)) [.ref q] :=
    ⟨hblind, fun U hU hW => ⟨rfl, by rw [hU], by rw [hU]; exact hPc, va_K.moved hW.alike f6, State.WarmedH.trans f7 hW⟩⟩
  have fin : ∀ (u : Nat → Nat) (t : State) (H1 : Heap) (locs1 : List Loc), t.heap = H1 → u 0 = q → (va_P D vwCl (mw (D, c, u, sh, s0, l) m0) t.heap ∧ va_D (va_A [(q, .inr (ci, dfl))] H.size) (mw (D, c, u, sh, s0, l) m0)) → (∀ z : Nat, z < H.size → ¬ va_A [(q, .inr (ci, dfl))] H.size z → H1[z]? = H[z]?) → va_S A s.heap H1 locs1 → W p l e R s mm args below meth cd H1 locs1 (cells + mc) (slots + ms) Qf (F0 mm (pc + 3) ls st) := by
    intro u t H1 locs1 ht hu hB hk1 hS1
    obtain ⟨hP1, hD1⟩ := hB
    rw [ht] at hP1
    have hPw := (va_P_app hP).1
    have apart : ∀ (k : Nat) (x : Nat × va_E), ws[k]? = some x → x.1 < H.size ∧ ¬ va_A [(q, .inr (ci, dfl))] H.size x.1 := by
      intro k x hx
      have hlt := (hPw k x hx).lt
      refine ⟨hlt, fun h => ?_⟩
      rcases h with ⟨k2, e1, h⟩ | h
      · have b1 := (List.getElem?_eq_some_iff.mp h).1
        have b2 : k2 = 0 := by simp at b1; omega
        subst b2
        cases h
        have kl := (List.getElem?_eq_some_iff.mp hx).1
        have := hD.1 k ws.length x (x.1, .inr (ci, dfl)) (by rw [List.getElem?_append_left kl]; exact hx) (by rw [List.getElem?_append_right (by omega), Nat.sub_self]; rfl) rfl
        omega
      · omega
    refine kk u hu H1 locs1 ls ?_ ?_ hS1 hL
    · exact va_P.app (hPw.kept (fun k x hx => hk1 x.1 (apart k x hx).1 (apart k x hx).2)) hP1
    · refine va_D.app ?_ (hD1.weaken (fun k x _ h => hFc x.1 h)) (fun i j x1 x2 h1 h2 h3 => (apart i x1 h1).2 (by rw [h3]; exact hD1.2 j x2 h2))
      refine ⟨fun i j p1 q1 h1 h2 h3 => ?_, fun k q1 hk => ?_⟩
      · exact hD.1 i j p1 q1 (by rw [List.getElem?_append_left (List.getElem?_eq_some_iff.mp h1).1]; exact h1) (by rw [List.getElem?_append_left (List.getElem?_eq_some_iff.mp h2).1]; exact h2) h3
      · exact hD.2 k q1 (by rw [List.getElem?_append_left (List.getElem?_eq_some_iff.mp hk).1]; exact hk)
  rcases hw with hw | ⟨host, hw⟩
  · exact va_callv (va_runI (As := []) (rest := st) ⟨f1, f2, f3, f4, f5⟩ (hR q H.size) ⟨⟨rfl, rfl, hf, hlo, pay_in f5 hgood, List.mem_cons_self, f5 _ hcd, f5 _ hini, hyc, hlen, f5 _ hw⟩, hyn, f5 _ hin⟩ hpre rfl rfl hL.1 rfl (lv_room hcat) hd ⟨hcl, hsl⟩) hS (fun z _ h => hFc z h) hFc (fun u t H1 locs1 ht hvm hw1 hB hz1 hk1 hS1 => fin u t H1 locs1 ht hw1 hB hk1 hS1)
  · exact va_callv (va_runIN (As := []) (rest := st) ⟨f1, f2, f3, f4, f5⟩ (hR q H.size) ⟨⟨⟨rfl, rfl, hf, hlo, pay_in f5 hgood, List.mem_cons_self⟩, f5 _ hcd, f5 _ hini, hyc, hlen, va_Nw.use rfl (cF_nestM ⟨f1, f2, f3, f4, f5, f6, f7, f8, f9⟩ hw)⟩, hyn, f5 _ hin⟩ hpre rfl rfl hL.1 rfl (lv_room hcat) hd ⟨hcl, hsl⟩) hS (fun z _ h => hFc z h) hFc (fun u t H1 locs1 ht hvm hw1 hB hz1 hk1 hS1 => fin u t H1 locs1 ht hw1 hB hk1 hS1)
end
/-- a constructor's contract by its walk -/
theorem cR_of {D : va_G} {c : Nat → ClassId} {s0 : State} {l : Launch} {f mc ms lo maxL ci : Nat} {y : MethodName} {bytes : ByteArray} {dfl : List Value} {sh : List Shp} {m0 : Mm} (hs0 : cS s0) (hy : plainName y.cls = true) (hyn : y.name = "<init>") (hn : (lg_sl [Value.ref 0]).length ≤ maxL)
    (k : ∀ (q0 : Nat) (A : Nat → Prop) (X : Cx), cF D A c s0 X bytes y.cls maxL → X.2.1 = l → X.2.2.2.1 = { frames := f, cells := mc, slots := ms, locals := lo } → X.2.2.2.2.2.2.2.2.1.name = "<init>" →
      (∀ {pc : Nat} {L : List (Nat × Value)} {ws : va_W} {cells slots : Nat} (ρ : Nat → Nat), decode bytes pc = .ok (.return_, 1) → cells ≤ mc → slots ≤ ms → ρ 0 = q0 → (∀ H, va_P D vwCl ws H → va_P D vwCl (mw (D, c, ρ, sh, s0, l) m0) H) → (va_D A ws → va_D A (mw (D, c, ρ, sh, s0, l) m0)) → cV D A X (MQ X.2.2.2.2.2.2.2.1 (va_Qv (fun ρ : Nat → Nat => ρ 0 = q0) (fun ρ t => va_P D vwCl (mw (D, c, ρ, sh, s0, l) m0) t.heap ∧ va_D A (mw (D, c, ρ, sh, s0, l) m0)) A) X.2.2.2.2.2.2.1 X.2.2.2.2.1 mc ms A) maxL pc L [] ws cells slots) →
      cV D A X (MQ X.2.2.2.2.2.2.2.1 (va_Qv (fun ρ : Nat → Nat => ρ 0 = q0) (fun ρ t => va_P D vwCl (mw (D, c, ρ, sh, s0, l) m0) t.heap ∧ va_D A (mw (D, c, ρ, sh, s0, l) m0)) A) X.2.2.2.2.2.2.1 X.2.2.2.2.1 mc ms A) maxL 0 [(0, .ref q0)] [] [(q0, .inr (ci, dfl))] 0 0) : cR D c s0 l f mc ms lo y bytes maxL ci dfl sh m0 := by
  intro q0 sz
  refine Met.ofW (cc := bytes) (maxL := maxL) (ret := none) hy rfl ?_
  intro p e s mm args below meth cd s₁ B hml hv
  obtain ⟨rfl, hsz, hP, hK, hK2⟩ := hv
  have hts := atoms_spec (ws := .code y bytes maxL none :: gw_tbl) B.pre
  have hin : meth.name = "<init>" := (name_of_methodNamed B.named B.method).1.trans hyn
  subst hsz
  have hl := lv_entry [Value.ref q0] (n := maxL) hn
  rw [lg_entry_eq]
  have hD : va_D (va_A [(q0, .inr (ci, dfl))] s.heap.size) [(q0, .inr (ci, dfl))] := ⟨fun i j p1 q1 h1 h2 _ => by
      have a1 := (List.getElem?_eq_some_iff.mp h1).1
      have a2 := (List.getElem?_eq_some_iff.mp h2).1
      simp at a1 a2
      omega, fun k q1 hk => va_A.in hk⟩
  generalize hAe : va_A [(q0, (Sum.inr (ci, dfl) : va_E))] s.heap.size = A at hD ⊢
  have hA : ∀ q : Nat, s.heap.size ≤ q → A q := fun q h => by rw [← hAe]; exact Or.inr h
  refine k q0 A (p, l, e, { frames := f, cells := mc, slots := ms, locals := lo }, s, mm, _, below, meth, cd) ⟨B.exec, B.bytes, hml, findClass_of_methodNamed B.named, fun w h => hts w (List.mem_cons_of_mem _ h), hK, hK2, hs0, hA⟩ rfl rfl hin ?_ s.heap [] _ hP hD va_S.rf hl
  intro pc L ws cells slots ρ hd h1 h2 h3 h4 h5 H locs ls hP1 hD1 hS1 hL1
  refine W.widen (k := mc) (n := ms) h1 h2 ?_
  exact W.vret B.exec B.bytes B.returns (fun t ht hW => ⟨⟨ρ, rfl, h3, by rw [ht]; exact h4 H hP1, h5 hD1⟩, hS1.F ht⟩) hS1.2.2 hd B.notSynchronized
theorem arrV_same {cI : ClassId} {n : Nat} {f g : Nat → Value} (h : ∀ j, j < n → f j = g j) : arrV cI n f = arrV cI n g := by
  unfold arrV
  congr 1
  apply Array.ext_getElem?
  intro i
  by_cases hi : i < n
  · simp [hi, h i hi]
  · simp [hi]
theorem va_P_q {D : va_G} {cl : List vw_C} {ws : va_W} {H : Heap} {c : Nat → ClassId} {k k0 n q : Nat} {f g : Nat → Option Nat} (h : ws[k]? = some (aQ c k0 n f q)) (hfg : ∀ j, j < n → f j = g j) (hP : va_P D cl ws H) : va_P D cl (ws.set k (aQ c k0 n g q)) H := by
  have hl := (List.getElem?_eq_some_iff.mp h).1
  intro i x hx
  by_cases hi : i = k
  · subst hi
    rw [List.getElem?_set_self hl] at hx
    cases hx
    have h1 := hP i _ h
    show H[q]? = some (vp_cell (c k0) (n, .inr (.inr (.inr (.inr g)))))
    have h2 : H[q]? = some (vp_cell (c k0) (n, .inr (.inr (.inr (.inr f))))) := h1
    rw [h2, vp_cell_q, vp_cell_q]
    exact congrArg some (arrV_same (fun j hj => by rw [hfg j hj]))
  · rw [List.getElem?_set_ne (Ne.symm hi)] at hx
    exact hP i x hx
