theorem okLoop {σ ρ α : Type} {step : σ → Option (σ ⊕ ρ)} {s0 : σ} {g : ρ → Option α} {K : α → Prop} {T : σ → Prop} {Ve : ρ → Prop} (h : mjO ((iter step s0).bind g) K) (J : ∀ e, mjO (g e) K → Ve e) (hs : ∀ s, mjO (step s) (Sum.elim T Ve) → T s) : T s0 := okI T (okB h J) hs
theorem okL {σ ρ : Type} {s : σ} {T : σ → Prop} {k : ρ → Prop} (h : mjO (some (Sum.inl s)) (Sum.elim T k)) : T s := by have z := okS h; exact z
theorem okR {σ ρ : Type} {r : ρ} {T : σ → Prop} {k : ρ → Prop} (h : mjO (some (Sum.inr r)) (Sum.elim T k)) : k r := by have z := okS h; exact z
theorem okTT {α : Type} {c : Prop} [Decidable c] {x y : α} {k : α → Prop} (h : mjO (some (if c then x else y)) k) (hc : c) : mjO (some x) k := by rwa [if_pos hc] at h
theorem okFT {α : Type} {c : Prop} [Decidable c] {x y : α} {k : α → Prop} (h : mjO (some (if c then x else y)) k) (hc : ¬ c) : mjO (some y) k := by rwa [if_neg hc] at h
theorem okJ {α ρ : Type} {A : α → Option ρ} {B : (α → Option ρ) → Option ρ} {K : ρ → Prop} {Vj : α → Prop} {V : Prop} (h : mjO (jn A B) K) (h1 : ∀ e, mjO (A e) K → Vj e) (h2 : ∀ (A' : α → Option ρ), (∀ e, mjO (A' e) K → Vj e) → mjO (B A') K → V) : V := h2 A h1 h
theorem nzI (r : Bool) : narrow .boolean (.int (bI r)) = .int (bI r) := by cases r <;> rfl
theorem nbI (r : Bool) : narrow .boolean (.int (bI r)) = .int (bI r) ∧ fits .boolean (.int (bI r)) = true := by cases r <;> exact ⟨rfl, rfl⟩
theorem nzB (r : Bool) : vp_nar .boolean (bI r) = bI r := by cases r <;> rfl
theorem nchr {x : Int32} (h : (x.toUInt32 % 65536).toInt32 = x) : narrow .char (.int x) = .int x := by
  have e := pk_nc x
  rwa [h] at e
def iushr (x y : Int32) : Int32 := (x.toUInt32 >>> (y.toUInt32 &&& Int32.toUInt32 31)).toInt32
def imin (x y : Int32) : Int32 := if y < x then y else x
def imax (x y : Int32) : Int32 := if x < y then y else x
def cpi (m : Mm) (a b : Nat) (sp dp n : Int32) : Mm := sia m b (va_cpy (m.1 a) (m.1 b) sp.toNatClampNeg dp.toNatClampNeg n.toNatClampNeg)
def cpl (m : Mm) (a b : Nat) (sp dp n : Int32) : Mm := sla m b (va_cpy (m.2.1 a) (m.2.1 b) sp.toNatClampNeg dp.toNatClampNeg n.toNatClampNeg)
def cpOk (sp dp n : Int32) (n0 n1 : Nat) : Bool := decide (¬ sp < 0 ∧ ¬ dp < 0 ∧ ¬ n < 0 ∧ sp.toNatClampNeg + n.toNatClampNeg ≤ n0 ∧ dp.toNatClampNeg + n.toNatClampNeg ≤ n1)
section
variable {G : Gw} {X : Cx} {b : ByteArray} {own : String} {nL d pc : Nat} {ret : Option FieldType} {L : List (Nat × Value)} {st : List Value} {m : Mm} {P : Option Value → Mm → Prop}
theorem vZretE (F : mjF G X b own nL d (some .boolean)) {x : Int32} {r : Bool} (hd : decode b pc = .ok (.ireturn, 1)) (e : x = bI r) (h : P (some (.int (bI r))) m) : mjV G X nL pc L [.int x] m P := by
  subst e
  exact vZret F hd (nzI _) h
theorem mth_ini : Cond.initialized "java/lang/Math" ∈ gw_tbl := gw_tab (i := 10) (by decide +kernel) rfl
theorem min_st : Cond.static Lib.Math.min.name ∈ gw_tbl := gw_tab (i := 349) (by decide +kernel) rfl
theorem min_cd : Cond.code Lib.Math.min.name Lib.Math.min.code 2 (some .int) ∈ gw_tbl := gw_tab (i := 350) (by decide +kernel) rfl
theorem max_st : Cond.static Lib.Math.max.name ∈ gw_tbl := gw_tab (i := 502) (by decide +kernel) rfl
theorem max_cd : Cond.code Lib.Math.max.name Lib.Math.max.code 2 (some .int) ∈ gw_tbl := gw_tab (i := 503) (by decide +kernel) rfl
theorem vMin (F : mjF G X b own nL d ret) {i : Nat} {x y : Int32} (hd : decode b pc = .ok (.invokestatic i, 3)) (hw : Cond.methodLink own i Lib.Math.min.name ∈ gw_tbl) (hcat : (st.map fun v => v.category).sum ≤ 8) (kk : mjV G X nL (pc + 3) L (.int (imin x y) :: st) m P) : mjV G X nL pc L (.int y :: .int x :: st) m P := by
  obtain ⟨p, l, e, R, s, mm, args, below, meth, cd⟩ := X
  intro H locs ls hP hS hL
  have hR : R = rmd d := F.2.2.2.2.2.2.2.1
  subst hR
  exact va_mmin F.1 F.2.1 (F.2.2.1.trans hL.1.symm) F.2.2.2.1 (F.2.2.2.2.1 _ hw) (F.2.2.2.2.1 _ min_st) (F.2.2.2.2.1 _ mth_ini) (F.2.2.2.2.1 _ min_cd) (show 1 ≤ d + 1 by omega) (show _ + 13 ≤ 60 * d + 100 by omega) (Nat.zero_le _) (Nat.zero_le _) hd (kk H locs ls hP hS hL)
theorem vMax (F : mjF G X b own nL d ret) {i : Nat} {x y : Int32} (hd : decode b pc = .ok (.invokestatic i, 3)) (hw : Cond.methodLink own i Lib.Math.max.name ∈ gw_tbl) (hcat : (st.map fun v => v.category).sum ≤ 8) (kk : mjV G X nL (pc + 3) L (.int (imax x y) :: st) m P) : mjV G X nL pc L (.int y :: .int x :: st) m P := by
  obtain ⟨p, l, e, R, s, mm, args, below, meth, cd⟩ := X
  intro H locs ls hP hS hL
  have hR : R = rmd d := F.2.2.2.2.2.2.2.1
  subst hR
  exact va_mmax F.1 F.2.1 (F.2.2.1.trans hL.1.symm) F.2.2.2.1 (F.2.2.2.2.1 _ hw) (F.2.2.2.2.1 _ max_st) (F.2.2.2.2.1 _ mth_ini) (F.2.2.2.2.1 _ max_cd) (show 1 ≤ d + 1 by omega) (show _ + 13 ≤ 60 * d + 100 by omega) (Nat.zero_le _) (Nat.zero_le _) hd (kk H locs ls hP hS hL)
theorem cp_nat : Cond.native arraycopyName ∈ lw_tbl := lw_tab (i := 759) (by decide +kernel)
theorem cp_natg : Cond.native arraycopyName ∈ gw_tbl := gw_tab (i := 759) (by decide +kernel) rfl
theorem cp_st : Cond.static arraycopyName ∈ gw_tbl := gw_tab (i := 758) (by decide +kernel) rfl
theorem cp_ini : Cond.initialized "java/lang/System" ∈ gw_tbl := gw_tab (i := 17) (by decide +kernel) rfl
theorem cp_words : nativeFrameWords "java/lang/System" "arraycopy" 5 + 11 ≤ 90 := by decide +kernel
theorem vCopyI (F : mjF G X b own nL d ret) {i x y nx ny : Nat} {fx fy : List Nat} {sp dp n : Int32} (hd : decode b pc = .ok (.invokestatic i, 3)) (hw : Cond.methodLink own i arraycopyName ∈ gw_tbl) (hx : (gsh G)[x]? = some (0, nx, fx)) (hy : (gsh G)[y]? = some (0, ny, fy)) (hok : cpOk sp dp n nx ny = true) (hcat : (st.map fun v => v.category).sum ≤ 8) (kk : mjV G X nL (pc + 3) L st (cpi m x y sp dp n) P) : mjV G X nL pc L (.int n :: .int dp :: .ref (gr G y) :: .int sp :: .ref (gr G x) :: st) m P := by
  obtain ⟨p, l, e, R, s, mm, args, below, meth, cd⟩ := X
  intro H locs ls hP hS hL
  have hR : R = rmd d := F.2.2.2.2.2.2.2.1
  subst hR
  obtain ⟨h1, h2, h3, h4, h5⟩ := of_decide_eq_true hok
  have hwd := cp_words
  refine va_copyi F.1 F.2.1 (F.2.2.1.trans hL.1.symm) F.2.2.2.1 (F.2.2.2.2.1 _ hw) (F.2.2.2.2.1 _ cp_natg) (F.2.2.2.2.1 _ cp_st) (F.2.2.2.2.1 _ cp_ini) F.2.2.2.2.2.1.1 hP (mw_D F.2.2.2.2.2.2.1 m) hS x y 0 0 (mw_at hx) (mw_at hy) rfl rfl rfl h1 h2 h3 h4 h5 (fun _ _ => rfl) (show 1 ≤ d + 1 by omega) (show _ + _ ≤ 60 * d + 100 by omega) hd (fun H1 locs1 hP1 hD1 hS1 => ?_)
  rw [mw_set (m' := cpi m x y sp dp n) hy (by simp [mcell, cpi, sia]) (fun a t ha => mcell_sia a t ha)] at hP1
  exact kk H1 locs1 ls hP1 hS1 hL
theorem vCopyL (F : mjF G X b own nL d ret) {i x y nx ny : Nat} {fx fy : List Nat} {sp dp n : Int32} (hd : decode b pc = .ok (.invokestatic i, 3)) (hw : Cond.methodLink own i arraycopyName ∈ gw_tbl) (hx : (gsh G)[x]? = some (1, nx, fx)) (hy : (gsh G)[y]? = some (1, ny, fy)) (hok : cpOk sp dp n nx ny = true) (hcat : (st.map fun v => v.category).sum ≤ 8) (kk : mjV G X nL (pc + 3) L st (cpl m x y sp dp n) P) : mjV G X nL pc L (.int n :: .int dp :: .ref (gr G y) :: .int sp :: .ref (gr G x) :: st) m P := by
  obtain ⟨p, l, e, R, s, mm, args, below, meth, cd⟩ := X
  intro H locs ls hP hS hL
  have hR : R = rmd d := F.2.2.2.2.2.2.2.1
  subst hR
  obtain ⟨h1, h2, h3, h4, h5⟩ := of_decide_eq_true hok
  have hwd := cp_words
  refine va_copyl F.1 F.2.1 (F.2.2.1.trans hL.1.symm) F.2.2.2.1 (F.2.2.2.2.1 _ hw) (F.2.2.2.2.1 _ cp_natg) (F.2.2.2.2.1 _ cp_st) (F.2.2.2.2.1 _ cp_ini) F.2.2.2.2.2.1.1 hP (mw_D F.2.2.2.2.2.2.1 m) hS x y 1 1 (mw_at hx) (mw_at hy) rfl rfl rfl h1 h2 h3 h4 h5 (fun _ _ => rfl) (show 1 ≤ d + 1 by omega) (show _ + _ ≤ 60 * d + 100 by omega) hd (fun H1 locs1 hP1 hD1 hS1 => ?_)
  rw [mw_set (m' := cpl m x y sp dp n) hy (by simp [mcell, cpl, sla]) (fun a t ha => mcell_sla a t ha)] at hP1
  exact kk H1 locs1 ls hP1 hS1 hL
end
