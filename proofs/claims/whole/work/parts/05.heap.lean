section
variable {G : Gw} {X : Cx} {b : ByteArray} {own : String} {nL d pc : Nat} {ret : Option FieldType} {L : List (Nat × Value)} {st : List Value} {m : Mm} {P : Option Value → Mm → Prop}
-- ===== fields =====
def mjNest (own : String) (idx : Nat) (q : String × String × String × Bool) : Prop := ∃ host : String, Cond.fieldLinkNest own idx q.1 q.2.1 q.2.2.1 host ∈ lw_tbl
/-- entry idx of own's pool is field j of class ci -/
def mjFA (own : String) (idx ci j : Nat) : Prop := ∃ (C : String) (T : u_T) (N : Nat), vwCl[ci]? = some (C, T, N) ∧ (∀ w ∈ u_ws C T N, w ∈ gw_tbl) ∧ j < N ∧ (Cond.fieldLink own idx (T j).1 (T j).2.1 (T j).2.2.1 ∈ gw_tbl ∨ mjNest own idx (T j))
/-- and may be written: its type -/
def mjFW (own : String) (idx ci j : Nat) (ty : FieldType) : Prop := ∃ (C : String) (T : u_T) (N : Nat) (ty0 : Nat → FieldType), vwCl[ci]? = some (C, T, N) ∧ (∀ w ∈ u_ws C T N, w ∈ gw_tbl) ∧ j < N ∧ (Cond.fieldLink own idx (T j).1 (T j).2.1 (T j).2.2.1 ∈ gw_tbl ∨ mjNest own idx (T j)) ∧
  (∀ k, k < N → parseFieldDescriptor (T k).2.2.1 = some (ty0 k)) ∧ (∀ a, a < N → ∀ b, b < N → a ≠ b → (T a).2.1 ≠ (T b).2.1) ∧ (T j).2.2.2 = false ∧ parseFieldDescriptor (T j).2.2.1 = some ty
theorem mjF_nestF (F : mjF G X b own nL d ret) {own' : String} {idx : Nat} {r n t h : String} (hw : Cond.fieldLinkNest own' idx r n t h ∈ lw_tbl) : (Cond.fieldLinkNest own' idx r n t h).before X.2.2.2.2.2.2.1 X.2.2.2.2.1 = true := by
  obtain ⟨a0, h0, -⟩ := F.2.2.2.2.2.2.1.1
  exact va_Nw.use rfl (va_Nw.warmF F.2.2.2.2.2.1.2.1 (va_Nw.of rfl (h0 _ hw)))
theorem mjF_nestM (F : mjF G X b own nL d ret) {own' : String} {idx : Nat} {y : MethodName} {h : String} (hw : Cond.methodLinkNest own' idx y h ∈ lw_tbl) : va_Nw (.methodLinkNest own' idx y h) X.2.2.2.2.1 := by
  obtain ⟨a0, h0, -⟩ := F.2.2.2.2.2.2.1.1
  exact va_Nw.warmM F.2.2.2.2.2.1.2.1 (va_Nw.of rfl (h0 _ hw))
theorem mw_obj {k ci : Nat} {fl : List Nat} (h : (gsh G)[k]? = some (6, ci, fl)) : (mw G m)[k]? = some (gr G k, .inr (ci, fl.mapIdx fun j t => mfv G m k j t)) := mw_at h
theorem vGet (F : mjF G X b own nL d ret) {x ci j idx t : Nat} {fl : List Nat} {v : Value} (hd : decode b pc = .ok (.getfield idx, 3)) (fa : mjFA own idx ci j) (hx : (gsh G)[x]? = some (6, ci, fl)) (hf : fl[j]? = some t) (hv : mfv G m x j t = v) (kk : mjV G X nL (pc + 3) L (v :: st) m P) : mjV G X nL pc L (.ref (gr G x) :: st) m P := by
  obtain ⟨C, T, N, hc, hin, hk, hw⟩ := fa
  intro H locs ls hP hS hL
  have hv' : (fl.mapIdx fun j t => mfv G m x j t)[j]? = some v := by rw [List.getElem?_mapIdx, hf, ← hv]; rfl
  rcases hw with hw | ⟨host, hw⟩
  · exact va_get (ref := (T j).1) F.1 F.2.1 F.2.2.2.2.1 hin F.2.2.2.1 F.2.2.2.2.2.1.1 hP x (mw_obj hx) hc j hk (F.2.2.2.2.1 _ hw) (fun _ h => h) hv' hd (kk H locs ls hP hS hL)
  · exact va_getN (ref := (T j).1) F.1 F.2.1 F.2.2.2.2.1 hin F.2.2.2.1 F.2.2.2.2.2.1.1 hP x (mw_obj hx) hc j hk (mjF_nestF F hw) (fun _ h => h) hv' hd (kk H locs ls hP hS hL)
theorem vGetI (F : mjF G X b own nL d ret) {x ci j idx : Nat} {fl : List Nat} (hd : decode b pc = .ok (.getfield idx, 3)) (fa : mjFA own idx ci j) (hx : (gsh G)[x]? = some (6, ci, fl)) (hf : fl[j]? = some 0) (kk : mjV G X nL (pc + 3) L (.int (m.1 x j) :: st) m P) : mjV G X nL pc L (.ref (gr G x) :: st) m P := vGet F hd fa hx hf rfl kk
theorem vGetM (F : mjF G X b own nL d ret) {x ci j idx : Nat} {fl : List Nat} (hd : decode b pc = .ok (.getfield idx, 3)) (fa : mjFA own idx ci j) (hx : (gsh G)[x]? = some (6, ci, fl)) (hf : fl[j]? = some 1) (kk : mjV G X nL (pc + 3) L (.ref (gr G (m.2.2 x j)) :: st) m P) : mjV G X nL pc L (.ref (gr G x) :: st) m P := vGet F hd fa hx hf rfl kk
theorem vGetR (F : mjF G X b own nL d ret) {x ci j idx t : Nat} {fl : List Nat} (hd : decode b pc = .ok (.getfield idx, 3)) (fa : mjFA own idx ci j) (hx : (gsh G)[x]? = some (6, ci, fl)) (hf : fl[j]? = some (t + 2)) (kk : mjV G X nL (pc + 3) L (.ref (gr G t) :: st) m P) : mjV G X nL pc L (.ref (gr G x) :: st) m P := vGet F hd fa hx hf rfl kk
theorem mw_put {x ci j : Nat} {fl : List Nat} {v : Int32} (hx : (gsh G)[x]? = some (6, ci, fl)) (hf : fl[j]? = some 0) : (mw G m).set x (gr G x, .inr (ci, (fl.mapIdx fun j t => mfv G m x j t).set j (.int v))) = mw G (si m x j v) :=
  mw_set hx (by rw [← mfs_si hf]; rfl) (fun a t ha => mcell_si a t ha)
theorem mw_putr {x ci j t : Nat} {fl : List Nat} (hx : (gsh G)[x]? = some (6, ci, fl)) (hf : fl[j]? = some 1) : (mw G m).set x (gr G x, .inr (ci, (fl.mapIdx fun j t => mfv G m x j t).set j (.ref (gr G t)))) = mw G (sr m x j t) :=
  mw_set hx (by rw [← mfs_sr hf]; rfl) (fun a t ha => mcell_sr a t ha)
theorem vPut (F : mjF G X b own nL d ret) {x ci j idx t : Nat} {fl : List Nat} {ty : FieldType} {v : Value} {m' : Mm} (hd : decode b pc = .ok (.putfield idx, 3)) (fa : mjFW own idx ci j ty) (hx : (gsh G)[x]? = some (6, ci, fl)) (hf : fl[j]? = some t) (hn : narrow ty v = v ∧ fits ty v = true)
    (hm : (mw G m).set x (gr G x, .inr (ci, (fl.mapIdx fun j t => mfv G m x j t).set j v)) = mw G m') (kk : mjV G X nL (pc + 3) L st m' P) : mjV G X nL pc L (v :: .ref (gr G x) :: st) m P := by
  obtain ⟨C, T, N, ty0, hc, hin, hk, hw, hty, hnm, hfin, hpd⟩ := fa
  intro H locs ls hP hS hL
  have hl : j < (fl.mapIdx fun j t => mfv G m x j t).length := by rw [List.length_mapIdx]; exact (List.getElem?_eq_some_iff.mp hf).1
  rcases hw with hw | ⟨host, hw⟩
  · refine va_put (ref := (T j).1) F.1 F.2.1 F.2.2.2.2.1 hin ty0 hty hnm F.2.2.2.1 F.2.2.2.2.2.1.1 hP (mw_D F.2.2.2.2.2.2.1 m) hS x (mw_obj hx) hc j hk (F.2.2.2.2.1 _ hw) (fun _ h => h) hfin hpd hn.1 hn.2 hl hd (fun H1 locs1 hP1 hD1 hS1 => ?_)
    rw [hm] at hP1
    exact kk H1 locs1 ls hP1 hS1 hL
  · refine va_putN (ref := (T j).1) F.1 F.2.1 F.2.2.2.2.1 hin ty0 hty hnm F.2.2.2.1 F.2.2.2.2.2.1.1 hP (mw_D F.2.2.2.2.2.2.1 m) hS x (mw_obj hx) hc j hk (mjF_nestF F hw) (fun _ h => h) hfin hpd hn.1 hn.2 hl hd (fun H1 locs1 hP1 hD1 hS1 => ?_)
    rw [hm] at hP1
    exact kk H1 locs1 ls hP1 hS1 hL
theorem vPutI (F : mjF G X b own nL d ret) {x ci j idx : Nat} {fl : List Nat} {ty : FieldType} {v : Int32} (hd : decode b pc = .ok (.putfield idx, 3)) (fa : mjFW own idx ci j ty) (hx : (gsh G)[x]? = some (6, ci, fl)) (hf : fl[j]? = some 0) (hn : narrow ty (.int v) = .int v ∧ fits ty (.int v) = true) (kk : mjV G X nL (pc + 3) L st (si m x j v) P) : mjV G X nL pc L (.int v :: .ref (gr G x) :: st) m P :=
  vPut F hd fa hx hf hn (mw_put hx hf) kk
theorem vPutM (F : mjF G X b own nL d ret) {x ci j idx t : Nat} {fl : List Nat} {ty : FieldType} (hd : decode b pc = .ok (.putfield idx, 3)) (fa : mjFW own idx ci j ty) (hx : (gsh G)[x]? = some (6, ci, fl)) (hf : fl[j]? = some 1) (hn : narrow ty (.ref (gr G t)) = .ref (gr G t) ∧ fits ty (.ref (gr G t)) = true) (kk : mjV G X nL (pc + 3) L st (sr m x j t) P) : mjV G X nL pc L (.ref (gr G t) :: .ref (gr G x) :: st) m P :=
  vPut F hd fa hx hf hn (mw_putr hx hf) kk
-- ===== arrays =====
theorem vIald (F : mjF G X b own nL d ret) {x n : Nat} {fl : List Nat} {i : Int32} (hd : decode b pc = .ok (.iaload, 1)) (hx : (gsh G)[x]? = some (0, n, fl)) (hin : vp_in i n) (kk : mjV G X nL (pc + 1) L (.int (m.1 x i.toNatClampNeg) :: st) m P) : mjV G X nL pc L (.int i :: .ref (gr G x) :: st) m P :=
  fun H locs ls hP hS hL => va_iald F.1 F.2.1 F.2.2.2.2.2.1.1 hP x 0 (mw_at hx) rfl hin hd (kk H locs ls hP hS hL)
theorem vLald (F : mjF G X b own nL d ret) {x n : Nat} {fl : List Nat} {i : Int32} (hd : decode b pc = .ok (.laload, 1)) (hx : (gsh G)[x]? = some (1, n, fl)) (hin : vp_in i n) (kk : mjV G X nL (pc + 1) L (.long (m.2.1 x i.toNatClampNeg) :: st) m P) : mjV G X nL pc L (.int i :: .ref (gr G x) :: st) m P :=
  fun H locs ls hP hS hL => va_lald F.1 F.2.1 F.2.2.2.2.2.1.1 hP x 1 (mw_at hx) rfl hin hd (kk H locs ls hP hS hL)
theorem vCald (F : mjF G X b own nL d ret) {x n : Nat} {fl : List Nat} {i : Int32} (hd : decode b pc = .ok (.caload, 1)) (hx : (gsh G)[x]? = some (2, n, fl)) (hin : vp_in i n) (kk : mjV G X nL (pc + 1) L (.int (m.1 x i.toNatClampNeg) :: st) m P) : mjV G X nL pc L (.int i :: .ref (gr G x) :: st) m P :=
  fun H locs ls hP hS hL => va_cald F.1 F.2.1 F.2.2.2.2.2.1.1 hP x 2 (mw_at hx) rfl hin hd (kk H locs ls hP hS hL)
theorem vZald (F : mjF G X b own nL d ret) {x n : Nat} {fl : List Nat} {i : Int32} (hd : decode b pc = .ok (.baload, 1)) (hx : (gsh G)[x]? = some (3, n, fl)) (hin : vp_in i n) (kk : mjV G X nL (pc + 1) L (.int (m.1 x i.toNatClampNeg) :: st) m P) : mjV G X nL pc L (.int i :: .ref (gr G x) :: st) m P :=
  fun H locs ls hP hS hL => va_zald F.1 F.2.1 F.2.2.2.2.2.1.1 hP x 3 (mw_at hx) rfl hin hd (kk H locs ls hP hS hL)
theorem vIast (F : mjF G X b own nL d ret) {x n : Nat} {fl : List Nat} {i v : Int32} (hd : decode b pc = .ok (.iastore, 1)) (hx : (gsh G)[x]? = some (0, n, fl)) (hin : vp_in i n) (kk : mjV G X nL (pc + 1) L st (si m x i.toNatClampNeg v) P) : mjV G X nL pc L (.int v :: .int i :: .ref (gr G x) :: st) m P := by
  intro H locs ls hP hS hL
  refine va_iast F.1 F.2.1 F.2.2.2.2.2.1.1 hP (mw_D F.2.2.2.2.2.2.1 m) hS x 0 (mw_at hx) rfl hin hd (fun H1 locs1 hP1 hD1 hS1 => ?_)
  rw [mw_set (m' := si m x i.toNatClampNeg v) hx (by simp [mcell, si]) (fun a t ha => mcell_si a t ha)] at hP1
  exact kk H1 locs1 ls hP1 hS1 hL
theorem vCast (F : mjF G X b own nL d ret) {x n : Nat} {fl : List Nat} {i v : Int32} (hd : decode b pc = .ok (.castore, 1)) (hx : (gsh G)[x]? = some (2, n, fl)) (hin : vp_in i n) (kk : mjV G X nL (pc + 1) L st (si m x i.toNatClampNeg (vp_nar .char v)) P) : mjV G X nL pc L (.int v :: .int i :: .ref (gr G x) :: st) m P := by
  intro H locs ls hP hS hL
  refine va_cast F.1 F.2.1 F.2.2.2.2.2.1.1 hP (mw_D F.2.2.2.2.2.2.1 m) hS x 2 (mw_at hx) rfl hin hd (fun H1 locs1 hP1 hD1 hS1 => ?_)
  rw [mw_set (m' := si m x i.toNatClampNeg (vp_nar .char v)) hx (by simp [mcell, si]) (fun a t ha => mcell_si a t ha)] at hP1
  exact kk H1 locs1 ls hP1 hS1 hL
theorem vZast (F : mjF G X b own nL d ret) {x n : Nat} {fl : List Nat} {i v : Int32} (hd : decode b pc = .ok (.bastore, 1)) (hx : (gsh G)[x]? = some (3, n, fl)) (hin : vp_in i n) (hv : vp_nar .boolean v = v) (kk : mjV G X nL (pc + 1) L st (si m x i.toNatClampNeg v) P) : mjV G X nL pc L (.int v :: .int i :: .ref (gr G x) :: st) m P := by
  intro H locs ls hP hS hL
  refine va_zast F.1 F.2.1 F.2.2.2.2.2.1.1 hP (mw_D F.2.2.2.2.2.2.1 m) hS x 3 (mw_at hx) rfl hin hd (fun H1 locs1 hP1 hD1 hS1 => ?_)
  rw [hv] at hP1
  rw [mw_set (m' := si m x i.toNatClampNeg v) hx (by simp [mcell, si]) (fun a t ha => mcell_si a t ha)] at hP1
  exact kk H1 locs1 ls hP1 hS1 hL
theorem vLast (F : mjF G X b own nL d ret) {x n : Nat} {fl : List Nat} {i : Int32} {v : Int64} (hd : decode b pc = .ok (.lastore, 1)) (hx : (gsh G)[x]? = some (1, n, fl)) (hin : vp_in i n) (kk : mjV G X nL (pc + 1) L st (sl m x i.toNatClampNeg v) P) : mjV G X nL pc L (.long v :: .int i :: .ref (gr G x) :: st) m P := by
  intro H locs ls hP hS hL
  refine va_last F.1 F.2.1 F.2.2.2.2.2.1.1 hP (mw_D F.2.2.2.2.2.2.1 m) hS x 1 (mw_at hx) rfl hin hd (fun H1 locs1 hP1 hD1 hS1 => ?_)
  rw [mw_set (m' := sl m x i.toNatClampNeg v) hx (by simp [mcell, sl]) (fun a t ha => mcell_sl a t ha)] at hP1
  exact kk H1 locs1 ls hP1 hS1 hL
theorem vAald4 (F : mjF G X b own nL d ret) {x n : Nat} {fl : List Nat} {i : Int32} (hd : decode b pc = .ok (.aaload, 1)) (hx : (gsh G)[x]? = some (4, n, fl)) (hin : vp_in i n) (kk : mjV G X nL (pc + 1) L (.ref (gr G (fl.getD 0 0 + fl.getD 1 0 * i.toNatClampNeg)) :: st) m P) : mjV G X nL pc L (.int i :: .ref (gr G x) :: st) m P :=
  fun H locs ls hP hS hL => va_aldq F.1 F.2.1 F.2.2.2.2.2.1.1 hP x 4 (mw_at hx) rfl hin hd (kk H locs ls hP hS hL)
theorem vAald5 (F : mjF G X b own nL d ret) {x n : Nat} {fl : List Nat} {i : Int32} (hd : decode b pc = .ok (.aaload, 1)) (hx : (gsh G)[x]? = some (5, n, fl)) (hin : vp_in i n) (kk : mjV G X nL (pc + 1) L (.ref (gr G (fl.getD 0 0 + fl.getD 1 0 * i.toNatClampNeg)) :: st) m P) : mjV G X nL pc L (.int i :: .ref (gr G x) :: st) m P :=
  fun H locs ls hP hS hL => va_aldq F.1 F.2.1 F.2.2.2.2.2.1.1 hP x 5 (mw_at hx) rfl hin hd (kk H locs ls hP hS hL)
theorem vAlen0 (F : mjF G X b own nL d ret) {x n : Nat} {fl : List Nat} {v : Int32} (hd : decode b pc = .ok (.arraylength, 1)) (hx : (gsh G)[x]? = some (0, n, fl)) (hv : Int32.ofNat n = v) (kk : mjV G X nL (pc + 1) L (.int v :: st) m P) : mjV G X nL pc L (.ref (gr G x) :: st) m P :=
  fun H locs ls hP hS hL => va_alen F.1 F.2.1 F.2.2.2.2.2.1.1 hP x 0 (mw_at hx) rfl hv hd (kk H locs ls hP hS hL)
theorem vAlen1 (F : mjF G X b own nL d ret) {x n : Nat} {fl : List Nat} {v : Int32} (hd : decode b pc = .ok (.arraylength, 1)) (hx : (gsh G)[x]? = some (1, n, fl)) (hv : Int32.ofNat n = v) (kk : mjV G X nL (pc + 1) L (.int v :: st) m P) : mjV G X nL pc L (.ref (gr G x) :: st) m P :=
  fun H locs ls hP hS hL => va_alen F.1 F.2.1 F.2.2.2.2.2.1.1 hP x 1 (mw_at hx) rfl hv hd (kk H locs ls hP hS hL)
-- ===== calls =====
/-- the words of a method that is called -/
def mjY (y : MethodName) (bytes : ByteArray) (maxL : Nat) (ret : Option FieldType) (n : Nat) : Prop := Cond.code y bytes maxL ret ∈ gw_tbl ∧ Cond.initialized y.cls ∈ gw_tbl ∧ (y.cls ≠ "java/lang/invoke/MethodHandle" ∧ y.cls ≠ "java/lang/invoke/VarHandle") ∧ (parseMethodDescriptor y.desc).map (fun d => d.parameters.length) = some n ∧ maxL ≤ 41
def mjYV (y : MethodName) : Prop := Cond.instanceMethod y ∈ gw_tbl ∧ Cond.selects y.cls y y ∈ gw_tbl
theorem mj_blind {av : List Value} : FrameBlind (va_Pc av (fun U => gP G m U.heap ∧ gK G U)) := by
  intro a U g mk h
  obtain ⟨h1, h2, h3, h4, h5, h6⟩ := h
  exact ⟨h1, h2, va_K.moved (u := U) (U := U.calling g mk a) (Vm.Alike.refl U.vm) h3, h4, h5, h6⟩
theorem gK_at {U : State} {s : State} {H : Heap} {locs : List Loc} (hG : gOk G) (hK : gK G s) (hS : va_S (gA G) s.heap H locs) (hU : U.heap = H) (hW : s.WarmedH U.vm) : gK G U := by
  obtain ⟨h1, h2, h3, h4⟩ := hK
  refine ⟨va_K.moved hW.alike h1, State.WarmedH.trans h2 hW, ?_, fun q hq => ?_⟩
  · rw [hU]; exact Nat.le_trans h3 hS.1
  · rw [hU, hS.2.1 q (Nat.lt_of_lt_of_le hq h3) (gA_low hG hq)]
    exact h4 q hq
theorem mj_go {p : Program} {l : Launch} {e : Env} {R : Room} {s : State} {mm : MethodId} {args : Array Value} {below : List Frame} {meth : Method} {cd : Code} {H : Heap} {locs : List Loc} {ls : Array Slot} {st0 rest : List Value} {Q : State → Prop} {a : Array Value} {P' : Option Value → Mm → Prop}
    (hr : va_Run p l e R s mm args below meth cd H locs 0 0 0 0 (F0 mm pc ls st0) rest (mjQ G P' a) (gA G)) (hS : va_S (gA G) s.heap H locs)
    (kk : ∀ (v : Option Value) (m' : Mm) (H1 : Heap) (locs1 : List Loc), P' v m' → gP G m' H1 → va_S (gA G) s.heap H1 locs1 → W p l e R s mm args below meth cd H1 locs1 0 0 Q (F0 mm (pc + 3) ls (v.toList ++ rest))) : W p l e R s mm args below meth cd H locs 0 0 Q (F0 mm pc ls st0) := by
  intro T hT Y
  obtain ⟨v, st₀, t, T', L, h0, X', hL, e1, e2, ⟨⟨v', m', hv, hp, hb⟩, hz, hk⟩, st⟩ := hr T hT Y
  cases hv
  rw [h0] at hz hk
  obtain ⟨t2, a1, b1⟩ := kk v m' T'.heap (locs ++ L) hp (by rw [e1]; exact hb)
    ⟨Nat.le_trans hS.1 (by rw [e1]; exact hz), fun q h1 h2 => by rw [e1, hk q (Nat.lt_of_lt_of_le h1 hS.1) h2]; exact hS.2.1 q h1 h2, fun q hq => by
      rcases List.mem_append.mp hq with h | h
      · exact hS.2.2 q h
      · exact hL q h⟩ T' rfl X'
  exact ⟨t2, st t2 a1, b1⟩
theorem mj_room {R : Room} {d d' : Nat} (hR : R = rmd d) (hd : d' + 1 ≤ d) {maxL : Nat} (hm : maxL ≤ 41) : (rmd d').frames + 1 ≤ R.frames ∧ 8 + (maxL + 11) + (rmd d').locals ≤ R.locals := by
  subst hR
  refine ⟨?_, ?_⟩
  · show d' + 1 + 1 ≤ d + 1
    omega
  · show 8 + (maxL + 11) + (60 * d' + 100) ≤ 60 * d + 100
    omega
theorem mj_good {y : MethodName} {bytes : ByteArray} {maxL : Nat} {ret : Option FieldType} (h : Cond.code y bytes maxL ret ∈ gw_tbl) : GoodIn gw_tbl (.code y bytes maxL ret :: gw_tbl) := fun w hw => by
  rcases List.mem_cons.mp hw with rfl | hw
  · exact gw_good _ h
  · exact gw_good _ hw
theorem vCallV (F : mjF G X b own nL d ret) {x ci idx d' maxL n : Nat} {fl : List Nat} {y : MethodName} {bytes : ByteArray} {rt : Option FieldType} {As : List Value} {st0 : List Value} {T : u_T} {N : Nat} (hd : decode b pc = .ok (.invokevirtual idx, 3)) (hw : Cond.methodLink own idx y ∈ gw_tbl ∨ ∃ host, Cond.methodLinkNest own idx y host ∈ lw_tbl) (hy : mjY y bytes maxL rt n) (hv : mjYV y) (hx : (gsh G)[x]? = some (6, ci, fl)) (hc : vwCl[ci]? = some (y.cls, T, N)) (hdd : d' + 1 ≤ d) (hn : As.length = n) (hst : st0 = As.reverse ++ .ref (gr G x) :: st) (hcat : (st.map fun v => v.category).sum ≤ 8)
    (hR : mjR G d' y bytes maxL rt (.ref (gr G x) :: As) m (fun v m' => mjV G X nL (pc + 3) L (v.toList ++ st) m' P)) : mjV G X nL pc L st0 m P := by
  subst hst
  obtain ⟨p, l, e, R, s, mm, args, below, meth, cd⟩ := X
  intro H locs ls hP hS hL
  obtain ⟨w1, w2, w3, w4, w5⟩ := hy
  have hl : l = gl G := F.2.2.2.2.2.2.2.2.2.2
  subst hl
  have hrm := mj_room F.2.2.2.2.2.2.2.1 hdd w5
  have hrecv := va_recv F.2.2.2.2.2.1.1 hP hc (mw_obj (m := m) hx)
  have pre : PreV s H y.cls (gr G x) (va_Pc (.ref (gr G x) :: As) (fun U => gP G m U.heap ∧ gK G U)) As :=
    ⟨mj_blind, hrecv, fun U hU hW => ⟨rfl, by rw [hU]; exact hP, gK_at F.2.2.2.2.2.2.1 F.2.2.2.2.2.1 hS hU hW⟩⟩
  have hgood := mj_good w1
  have hlen : ∀ sig, parseMethodDescriptor y.desc = some sig → n = sig.parameters.length := fun sig h => by
    rw [h] at w4
    exact (Option.some.inj w4).symm
  rcases hw with hw | ⟨host, hw⟩
  · refine mj_go (va_runV ⟨F.1, F.2.1, F.2.2.1, F.2.2.2.1, F.2.2.2.2.1⟩ hR ⟨⟨rfl, rfl, hrm.1, hrm.2, pay_in F.2.2.2.2.1 hgood, List.mem_cons_self, F.2.2.2.2.1 _ w1, F.2.2.2.2.1 _ w2, w3, hlen, F.2.2.2.2.1 _ hw⟩, F.2.2.2.2.1 _ hv.1, F.2.2.2.2.1 _ hv.2⟩ pre rfl hn hL.1 rfl (lv_room hcat) hd ⟨Nat.zero_le _, Nat.zero_le _⟩) hS (fun v m' H1 locs1 h hP1 hS1 => h H1 locs1 ls hP1 hS1 hL)
  · refine mj_go (va_runVN ⟨F.1, F.2.1, F.2.2.1, F.2.2.2.1, F.2.2.2.2.1⟩ hR ⟨⟨⟨rfl, rfl, hrm.1, hrm.2, pay_in F.2.2.2.2.1 hgood, List.mem_cons_self⟩, F.2.2.2.2.1 _ w1, F.2.2.2.2.1 _ w2, w3, hlen, va_Nw.use rfl (mjF_nestM F hw)⟩, F.2.2.2.2.1 _ hv.1, F.2.2.2.2.1 _ hv.2⟩ pre rfl hn hL.1 rfl (lv_room hcat) hd ⟨Nat.zero_le _, Nat.zero_le _⟩) hS (fun v m' H1 locs1 h hP1 hS1 => h H1 locs1 ls hP1 hS1 hL)
theorem vCallS (F : mjF G X b own nL d ret) {idx d' maxL n : Nat} {y : MethodName} {bytes : ByteArray} {rt : Option FieldType} {As : List Value} {st0 : List Value} (hd : decode b pc = .ok (.invokestatic idx, 3)) (hw : Cond.methodLink own idx y ∈ gw_tbl ∨ ∃ host, Cond.methodLinkNest own idx y host ∈ lw_tbl) (hy : mjY y bytes maxL rt n) (hv : Cond.static y ∈ gw_tbl) (hdd : d' + 1 ≤ d) (hn : As.length = n) (hst : st0 = As.reverse ++ st) (hcat : (st.map fun v => v.category).sum ≤ 8)
    (hR : mjR G d' y bytes maxL rt As m (fun v m' => mjV G X nL (pc + 3) L (v.toList ++ st) m' P)) : mjV G X nL pc L st0 m P := by
  subst hst
  obtain ⟨p, l, e, R, s, mm, args, below, meth, cd⟩ := X
  intro H locs ls hP hS hL
  obtain ⟨w1, w2, w3, w4, w5⟩ := hy
  have hl : l = gl G := F.2.2.2.2.2.2.2.2.2.2
  subst hl
  have hrm := mj_room F.2.2.2.2.2.2.2.1 hdd w5
  have pre : PreS s H (va_Pc As (fun U => gP G m U.heap ∧ gK G U)) As :=
    ⟨mj_blind, fun U hU hW => ⟨rfl, by rw [hU]; exact hP, gK_at F.2.2.2.2.2.2.1 F.2.2.2.2.2.1 hS hU hW⟩⟩
  have hgood := mj_good w1
  have hlen : ∀ sig, parseMethodDescriptor y.desc = some sig → n = sig.parameters.length := fun sig h => by
    rw [h] at w4
    exact (Option.some.inj w4).symm
  rcases hw with hw | ⟨host, hw⟩
  · refine mj_go (va_runS ⟨F.1, F.2.1, F.2.2.1, F.2.2.2.1, F.2.2.2.2.1⟩ hR ⟨⟨rfl, rfl, hrm.1, hrm.2, pay_in F.2.2.2.2.1 hgood, List.mem_cons_self, F.2.2.2.2.1 _ w1, F.2.2.2.2.1 _ w2, w3, hlen, F.2.2.2.2.1 _ hw⟩, F.2.2.2.2.1 _ hv⟩ pre rfl hn hL.1 rfl (lv_room hcat) hd ⟨Nat.zero_le _, Nat.zero_le _⟩) hS (fun v m' H1 locs1 h hP1 hS1 => h H1 locs1 ls hP1 hS1 hL)
  · refine mj_go (va_runSN ⟨F.1, F.2.1, F.2.2.1, F.2.2.2.1, F.2.2.2.2.1⟩ hR ⟨⟨⟨rfl, rfl, hrm.1, hrm.2, pay_in F.2.2.2.2.1 hgood, List.mem_cons_self⟩, F.2.2.2.2.1 _ w1, F.2.2.2.2.1 _ w2, w3, hlen, va_Nw.use rfl (mjF_nestM F hw)⟩, F.2.2.2.2.1 _ hv, trivial⟩ pre rfl hn hL.1 rfl (lv_room hcat) hd ⟨Nat.zero_le _, Nat.zero_le _⟩) hS (fun v m' H1 locs1 h hP1 hS1 => h H1 locs1 ls hP1 hS1 hL)
end
