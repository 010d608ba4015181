section
variable {G : Gw} {X : Cx} {b : ByteArray} {own : String} {nL d pc : Nat} {ret : Option FieldType} {L : List (Nat × Value)} {st : List Value} {m : Mm} {P : Option Value → Mm → Prop}
theorem vIload (F : mjF G X b own nL d ret) {i k : Nat} {x : Int32} (hd : decode b pc = .ok (.iload i, 2)) (hl : L[k]? = some (i, .int x)) (kk : mjV G X nL (pc + 2) L (.int x :: st) m P) : mjV G X nL pc L (st) m P := by
  obtain ⟨p, l, e, R, s, mm, args, below, meth, cd⟩ := X
  intro H locs ls hP hS hL
  exact lv_iload F.1 F.2.1 hd (lv_at hL k hl) (kk H locs ls hP hS hL)
theorem vIloadN (F : mjF G X b own nL d ret) {i : Fin 4} {k : Nat} {x : Int32} (hd : decode b pc = .ok (.iload_n i, 1)) (hl : L[k]? = some ((i : Nat), .int x)) (kk : mjV G X nL (pc + 1) L (.int x :: st) m P) : mjV G X nL pc L (st) m P := by
  obtain ⟨p, l, e, R, s, mm, args, below, meth, cd⟩ := X
  intro H locs ls hP hS hL
  exact lv_iload_n F.1 F.2.1 hd rfl (lv_at hL k hl) (kk H locs ls hP hS hL)
theorem vAload (F : mjF G X b own nL d ret) {i k : Nat} {x : Nat} (hd : decode b pc = .ok (.aload i, 2)) (hl : L[k]? = some (i, .ref x)) (kk : mjV G X nL (pc + 2) L (.ref x :: st) m P) : mjV G X nL pc L (st) m P := by
  obtain ⟨p, l, e, R, s, mm, args, below, meth, cd⟩ := X
  intro H locs ls hP hS hL
  exact lv_aload F.1 F.2.1 hd (lv_at hL k hl) (kk H locs ls hP hS hL)
theorem vAloadN (F : mjF G X b own nL d ret) {i : Fin 4} {k : Nat} {x : Nat} (hd : decode b pc = .ok (.aload_n i, 1)) (hl : L[k]? = some ((i : Nat), .ref x)) (kk : mjV G X nL (pc + 1) L (.ref x :: st) m P) : mjV G X nL pc L (st) m P := by
  obtain ⟨p, l, e, R, s, mm, args, below, meth, cd⟩ := X
  intro H locs ls hP hS hL
  exact lv_aload_n F.1 F.2.1 hd rfl (lv_at hL k hl) (kk H locs ls hP hS hL)
theorem vLload (F : mjF G X b own nL d ret) {i k : Nat} {x : Int64} (hd : decode b pc = .ok (.lload i, 2)) (hl : L[k]? = some (i, .long x)) (kk : mjV G X nL (pc + 2) L (.long x :: st) m P) : mjV G X nL pc L (st) m P := by
  obtain ⟨p, l, e, R, s, mm, args, below, meth, cd⟩ := X
  intro H locs ls hP hS hL
  exact lv_lload F.1 F.2.1 hd (lv_at hL k hl) (kk H locs ls hP hS hL)
theorem vLloadN (F : mjF G X b own nL d ret) {i : Fin 4} {k : Nat} {x : Int64} (hd : decode b pc = .ok (.lload_n i, 1)) (hl : L[k]? = some ((i : Nat), .long x)) (kk : mjV G X nL (pc + 1) L (.long x :: st) m P) : mjV G X nL pc L (st) m P := by
  obtain ⟨p, l, e, R, s, mm, args, below, meth, cd⟩ := X
  intro H locs ls hP hS hL
  exact lv_lload_n F.1 F.2.1 hd rfl (lv_at hL k hl) (kk H locs ls hP hS hL)
theorem vIstore (F : mjF G X b own nL d ret) {i : Nat} {x : Int32} {L' : List (Nat × Value)} (hd : decode b pc = .ok (.istore i, 2)) (hn : i < nL) (hl : (i, Value.int x) :: L.filter (fun q => !(q.1 == i) && !(q.1 + 1 == i && q.2.category == 2)) = L') (kk : mjV G X nL (pc + 2) L' st m P) : mjV G X nL pc L (.int x :: st) m P := by
  obtain ⟨p, l, e, R, s, mm, args, below, meth, cd⟩ := X
  intro H locs ls hP hS hL
  exact lv_istore F.1 F.2.1 hd hL hn hl (fun ls' hL' => kk H locs ls' hP hS hL')
theorem vIstoreN (F : mjF G X b own nL d ret) {k : Fin 4} {i : Nat} {x : Int32} {L' : List (Nat × Value)} (hd : decode b pc = .ok (.istore_n k, 1)) (hi : (k : Nat) = i) (hn : i < nL) (hl : (i, Value.int x) :: L.filter (fun q => !(q.1 == i) && !(q.1 + 1 == i && q.2.category == 2)) = L') (kk : mjV G X nL (pc + 1) L' st m P) : mjV G X nL pc L (.int x :: st) m P := by
  obtain ⟨p, l, e, R, s, mm, args, below, meth, cd⟩ := X
  intro H locs ls hP hS hL
  exact lv_istore_n F.1 F.2.1 hd hi hL hn hl (fun ls' hL' => kk H locs ls' hP hS hL')
theorem vAstore (F : mjF G X b own nL d ret) {i : Nat} {x : Nat} {L' : List (Nat × Value)} (hd : decode b pc = .ok (.astore i, 2)) (hn : i < nL) (hl : (i, Value.ref x) :: L.filter (fun q => !(q.1 == i) && !(q.1 + 1 == i && q.2.category == 2)) = L') (kk : mjV G X nL (pc + 2) L' st m P) : mjV G X nL pc L (.ref x :: st) m P := by
  obtain ⟨p, l, e, R, s, mm, args, below, meth, cd⟩ := X
  intro H locs ls hP hS hL
  exact lv_astore F.1 F.2.1 hd hL hn hl (fun ls' hL' => kk H locs ls' hP hS hL')
theorem vAstoreN (F : mjF G X b own nL d ret) {k : Fin 4} {i : Nat} {x : Nat} {L' : List (Nat × Value)} (hd : decode b pc = .ok (.astore_n k, 1)) (hi : (k : Nat) = i) (hn : i < nL) (hl : (i, Value.ref x) :: L.filter (fun q => !(q.1 == i) && !(q.1 + 1 == i && q.2.category == 2)) = L') (kk : mjV G X nL (pc + 1) L' st m P) : mjV G X nL pc L (.ref x :: st) m P := by
  obtain ⟨p, l, e, R, s, mm, args, below, meth, cd⟩ := X
  intro H locs ls hP hS hL
  exact lv_astore_n F.1 F.2.1 hd hi hL hn hl (fun ls' hL' => kk H locs ls' hP hS hL')
theorem vLstore (F : mjF G X b own nL d ret) {i : Nat} {x : Int64} {L' : List (Nat × Value)} (hd : decode b pc = .ok (.lstore i, 2)) (hn : i + 1 < nL) (hl : (i, Value.long x) :: L.filter (fun q => !(q.1 == i) && (!(q.1 == i + 1) && !(q.1 + 1 == i && q.2.category == 2))) = L') (kk : mjV G X nL (pc + 2) L' st m P) : mjV G X nL pc L (.long x :: st) m P := by
  obtain ⟨p, l, e, R, s, mm, args, below, meth, cd⟩ := X
  intro H locs ls hP hS hL
  exact lv_lstore F.1 F.2.1 hd hL hn hl (fun ls' hL' => kk H locs ls' hP hS hL')
theorem vLstoreN (F : mjF G X b own nL d ret) {k : Fin 4} {i : Nat} {x : Int64} {L' : List (Nat × Value)} (hd : decode b pc = .ok (.lstore_n k, 1)) (hi : (k : Nat) = i) (hn : i + 1 < nL) (hl : (i, Value.long x) :: L.filter (fun q => !(q.1 == i) && (!(q.1 == i + 1) && !(q.1 + 1 == i && q.2.category == 2))) = L') (kk : mjV G X nL (pc + 1) L' st m P) : mjV G X nL pc L (.long x :: st) m P := by
  obtain ⟨p, l, e, R, s, mm, args, below, meth, cd⟩ := X
  intro H locs ls hP hS hL
  exact lv_lstore_n F.1 F.2.1 hd hi hL hn hl (fun ls' hL' => kk H locs ls' hP hS hL')
theorem vIinc (F : mjF G X b own nL d ret) {i k : Nat} {n : Int} {x v : Int32} {L' : List (Nat × Value)} (hd : decode b pc = .ok (.iinc i n, 3)) (hk : L[k]? = some (i, .int x)) (hv : Int32.ofInt n = v) (hn : i < nL) (hl : (i, Value.int (x + v)) :: L.filter (fun q => !(q.1 == i) && !(q.1 + 1 == i && q.2.category == 2)) = L') (kk : mjV G X nL (pc + 3) L' st m P) : mjV G X nL pc L st m P := by
  obtain ⟨p, l, e, R, s, mm, args, below, meth, cd⟩ := X
  intro H locs ls hP hS hL
  exact lv_iinc F.1 F.2.1 hd hL hk (by rw [hv]) hn hl (fun ls' hL' => kk H locs ls' hP hS hL')
theorem vIconst (F : mjF G X b own nL d ret) {n : Int} {v : Int32} (hd : decode b pc = .ok (.iconst n, 1)) (hv : Int32.ofInt n = v) (kk : mjV G X nL (pc + 1) L (.int v :: st) m P) : mjV G X nL pc L (st) m P := by
  obtain ⟨p, l, e, R, s, mm, args, below, meth, cd⟩ := X
  intro H locs ls hP hS hL
  exact lv_iconst F.1 F.2.1 hd hv (kk H locs ls hP hS hL)
theorem vBipush (F : mjF G X b own nL d ret) {n : Int} {v : Int32} (hd : decode b pc = .ok (.bipush n, 2)) (hv : (Int8.ofInt n).toInt32 = v) (kk : mjV G X nL (pc + 2) L (.int v :: st) m P) : mjV G X nL pc L (st) m P := by
  obtain ⟨p, l, e, R, s, mm, args, below, meth, cd⟩ := X
  intro H locs ls hP hS hL
  exact lv_bipush F.1 F.2.1 hd hv (kk H locs ls hP hS hL)
theorem vSipush (F : mjF G X b own nL d ret) {n : Int} {v : Int32} (hd : decode b pc = .ok (.sipush n, 3)) (hv : (Int16.ofInt n).toInt32 = v) (kk : mjV G X nL (pc + 3) L (.int v :: st) m P) : mjV G X nL pc L (st) m P := by
  obtain ⟨p, l, e, R, s, mm, args, below, meth, cd⟩ := X
  intro H locs ls hP hS hL
  exact lv_sipush F.1 F.2.1 hd hv (kk H locs ls hP hS hL)
theorem vLconst (F : mjF G X b own nL d ret) {n : Fin 2} {v : Int64} (hd : decode b pc = .ok (.lconst n, 1)) (hv : Int64.ofNat (n : Nat) = v) (kk : mjV G X nL (pc + 1) L (.long v :: st) m P) : mjV G X nL pc L (st) m P := by
  obtain ⟨p, l, e, R, s, mm, args, below, meth, cd⟩ := X
  intro H locs ls hP hS hL
  exact lv_lconst F.1 F.2.1 hd hv (kk H locs ls hP hS hL)
theorem vLdc (F : mjF G X b own nL d ret) {i : Nat} {v : Int32} (hd : decode b pc = .ok (.ldc i, 2)) (hw : Cond.constant own i v ∈ gw_tbl) (kk : mjV G X nL (pc + 2) L (.int v :: st) m P) : mjV G X nL pc L (st) m P := by
  obtain ⟨p, l, e, R, s, mm, args, below, meth, cd⟩ := X
  intro H locs ls hP hS hL
  exact lv_ldc F.1 F.2.1 F.2.2.2.1 (F.2.2.2.2.1 _ hw) hd (kk H locs ls hP hS hL)
theorem vLdcW (F : mjF G X b own nL d ret) {i : Nat} {v : Int32} (hd : decode b pc = .ok (.ldc_w i, 3)) (hw : Cond.constant own i v ∈ gw_tbl) (kk : mjV G X nL (pc + 3) L (.int v :: st) m P) : mjV G X nL pc L (st) m P := by
  obtain ⟨p, l, e, R, s, mm, args, below, meth, cd⟩ := X
  intro H locs ls hP hS hL
  exact lv_ldcw F.1 F.2.1 F.2.2.2.1 (F.2.2.2.2.1 _ hw) hd (kk H locs ls hP hS hL)
theorem vLdc2 (F : mjF G X b own nL d ret) {i : Nat} {v : Int64} (hd : decode b pc = .ok (.ldc2_w i, 3)) (hw : Cond.constantLong own i v ∈ gw_tbl) (kk : mjV G X nL (pc + 3) L (.long v :: st) m P) : mjV G X nL pc L (st) m P := by
  obtain ⟨p, l, e, R, s, mm, args, below, meth, cd⟩ := X
  intro H locs ls hP hS hL
  exact lv_ldc2 F.1 F.2.1 F.2.2.2.1 (F.2.2.2.2.1 _ hw) hd (kk H locs ls hP hS hL)
theorem vIadd (F : mjF G X b own nL d ret) {x y : Int32} (hd : decode b pc = .ok (.iadd, 1)) (kk : mjV G X nL (pc + 1) L (.int (x + y) :: st) m P) : mjV G X nL pc L (.int y :: .int x :: st) m P := by
  obtain ⟨p, l, e, R, s, mm, args, below, meth, cd⟩ := X
  intro H locs ls hP hS hL
  exact lv_iadd F.1 F.2.1 hd (kk H locs ls hP hS hL)
theorem vIsub (F : mjF G X b own nL d ret) {x y : Int32} (hd : decode b pc = .ok (.isub, 1)) (kk : mjV G X nL (pc + 1) L (.int (x - y) :: st) m P) : mjV G X nL pc L (.int y :: .int x :: st) m P := by
  obtain ⟨p, l, e, R, s, mm, args, below, meth, cd⟩ := X
  intro H locs ls hP hS hL
  exact lv_isub F.1 F.2.1 hd (kk H locs ls hP hS hL)
theorem vImul (F : mjF G X b own nL d ret) {x y : Int32} (hd : decode b pc = .ok (.imul, 1)) (kk : mjV G X nL (pc + 1) L (.int (x * y) :: st) m P) : mjV G X nL pc L (.int y :: .int x :: st) m P := by
  obtain ⟨p, l, e, R, s, mm, args, below, meth, cd⟩ := X
  intro H locs ls hP hS hL
  exact lv_imul F.1 F.2.1 hd (kk H locs ls hP hS hL)
theorem vIand (F : mjF G X b own nL d ret) {x y : Int32} (hd : decode b pc = .ok (.iand, 1)) (kk : mjV G X nL (pc + 1) L (.int (x &&& y) :: st) m P) : mjV G X nL pc L (.int y :: .int x :: st) m P := by
  obtain ⟨p, l, e, R, s, mm, args, below, meth, cd⟩ := X
  intro H locs ls hP hS hL
  exact lv_iand F.1 F.2.1 hd (kk H locs ls hP hS hL)
theorem vIor (F : mjF G X b own nL d ret) {x y : Int32} (hd : decode b pc = .ok (.ior, 1)) (kk : mjV G X nL (pc + 1) L (.int (x ||| y) :: st) m P) : mjV G X nL pc L (.int y :: .int x :: st) m P := by
  obtain ⟨p, l, e, R, s, mm, args, below, meth, cd⟩ := X
  intro H locs ls hP hS hL
  exact lv_ior F.1 F.2.1 hd (kk H locs ls hP hS hL)
theorem vIxor (F : mjF G X b own nL d ret) {x y : Int32} (hd : decode b pc = .ok (.ixor, 1)) (kk : mjV G X nL (pc + 1) L (.int (x ^^^ y) :: st) m P) : mjV G X nL pc L (.int y :: .int x :: st) m P := by
  obtain ⟨p, l, e, R, s, mm, args, below, meth, cd⟩ := X
  intro H locs ls hP hS hL
  exact lv_ixor F.1 F.2.1 hd (kk H locs ls hP hS hL)
theorem vIshl (F : mjF G X b own nL d ret) {x y : Int32} (hd : decode b pc = .ok (.ishl, 1)) (kk : mjV G X nL (pc + 1) L (.int (x <<< (y &&& 31)) :: st) m P) : mjV G X nL pc L (.int y :: .int x :: st) m P := by
  obtain ⟨p, l, e, R, s, mm, args, below, meth, cd⟩ := X
  intro H locs ls hP hS hL
  exact lv_ishl F.1 F.2.1 hd (kk H locs ls hP hS hL)
theorem vIshr (F : mjF G X b own nL d ret) {x y : Int32} (hd : decode b pc = .ok (.ishr, 1)) (kk : mjV G X nL (pc + 1) L (.int (x >>> (y &&& 31)) :: st) m P) : mjV G X nL pc L (.int y :: .int x :: st) m P := by
  obtain ⟨p, l, e, R, s, mm, args, below, meth, cd⟩ := X
  intro H locs ls hP hS hL
  exact lv_ishr F.1 F.2.1 hd (kk H locs ls hP hS hL)
theorem vIushr (F : mjF G X b own nL d ret) {x y v : Int32} (hd : decode b pc = .ok (.iushr, 1)) (hv : (x.toUInt32 >>> (y.toUInt32 &&& Int32.toUInt32 31)).toInt32 = v) (kk : mjV G X nL (pc + 1) L (.int v :: st) m P) : mjV G X nL pc L (.int y :: .int x :: st) m P := by
  obtain ⟨p, l, e, R, s, mm, args, below, meth, cd⟩ := X
  intro H locs ls hP hS hL
  exact lv_iushr F.1 F.2.1 hd hv (kk H locs ls hP hS hL)
theorem vIdiv (F : mjF G X b own nL d ret) {x y : Int32} (hd : decode b pc = .ok (.idiv, 1)) (hne : ¬ y = 0) (kk : mjV G X nL (pc + 1) L (.int (x / y) :: st) m P) : mjV G X nL pc L (.int y :: .int x :: st) m P := by
  obtain ⟨p, l, e, R, s, mm, args, below, meth, cd⟩ := X
  intro H locs ls hP hS hL
  exact lv_idiv F.1 F.2.1 hd hne (kk H locs ls hP hS hL)
theorem vIrem (F : mjF G X b own nL d ret) {x y : Int32} (hd : decode b pc = .ok (.irem, 1)) (hne : ¬ y = 0) (kk : mjV G X nL (pc + 1) L (.int (x - x / y * y) :: st) m P) : mjV G X nL pc L (.int y :: .int x :: st) m P := by
  obtain ⟨p, l, e, R, s, mm, args, below, meth, cd⟩ := X
  intro H locs ls hP hS hL
  exact lv_irem F.1 F.2.1 hd hne (kk H locs ls hP hS hL)
theorem vLdiv (F : mjF G X b own nL d ret) {x y : Int64} (hd : decode b pc = .ok (.ldiv, 1)) (hne : ¬ y = 0) (kk : mjV G X nL (pc + 1) L (.long (x / y) :: st) m P) : mjV G X nL pc L (.long y :: .long x :: st) m P := by
  obtain ⟨p, l, e, R, s, mm, args, below, meth, cd⟩ := X
  intro H locs ls hP hS hL
  exact lv_ldiv F.1 F.2.1 hd hne (kk H locs ls hP hS hL)
theorem vLrem (F : mjF G X b own nL d ret) {x y : Int64} (hd : decode b pc = .ok (.lrem, 1)) (hne : ¬ y = 0) (kk : mjV G X nL (pc + 1) L (.long (x - x / y * y) :: st) m P) : mjV G X nL pc L (.long y :: .long x :: st) m P := by
  obtain ⟨p, l, e, R, s, mm, args, below, meth, cd⟩ := X
  intro H locs ls hP hS hL
  exact lv_lrem F.1 F.2.1 hd hne (kk H locs ls hP hS hL)
theorem vLadd (F : mjF G X b own nL d ret) {x y : Int64} (hd : decode b pc = .ok (.ladd, 1)) (kk : mjV G X nL (pc + 1) L (.long (x + y) :: st) m P) : mjV G X nL pc L (.long y :: .long x :: st) m P := by
  obtain ⟨p, l, e, R, s, mm, args, below, meth, cd⟩ := X
  intro H locs ls hP hS hL
  exact lv_ladd F.1 F.2.1 hd (kk H locs ls hP hS hL)
theorem vLmul (F : mjF G X b own nL d ret) {x y : Int64} (hd : decode b pc = .ok (.lmul, 1)) (kk : mjV G X nL (pc + 1) L (.long (x * y) :: st) m P) : mjV G X nL pc L (.long y :: .long x :: st) m P := by
  obtain ⟨p, l, e, R, s, mm, args, below, meth, cd⟩ := X
  intro H locs ls hP hS hL
  exact lv_lmul F.1 F.2.1 hd (kk H locs ls hP hS hL)
theorem vLcmp (F : mjF G X b own nL d ret) {x y : Int64} (hd : decode b pc = .ok (.lcmp, 1)) (kk : mjV G X nL (pc + 1) L (.int (lg_cmp x y) :: st) m P) : mjV G X nL pc L (.long y :: .long x :: st) m P := by
  obtain ⟨p, l, e, R, s, mm, args, below, meth, cd⟩ := X
  intro H locs ls hP hS hL
  exact W.lcmp F.1 F.2.1 hd (kk H locs ls hP hS hL)
theorem vIneg (F : mjF G X b own nL d ret) {x : Int32} (hd : decode b pc = .ok (.ineg, 1)) (kk : mjV G X nL (pc + 1) L (.int (-x) :: st) m P) : mjV G X nL pc L (.int x :: st) m P := by
  obtain ⟨p, l, e, R, s, mm, args, below, meth, cd⟩ := X
  intro H locs ls hP hS hL
  exact lv_ineg F.1 F.2.1 hd (kk H locs ls hP hS hL)
theorem vI2l (F : mjF G X b own nL d ret) {x : Int32} (hd : decode b pc = .ok (.i2l, 1)) (kk : mjV G X nL (pc + 1) L (.long x.toInt64 :: st) m P) : mjV G X nL pc L (.int x :: st) m P := by
  obtain ⟨p, l, e, R, s, mm, args, below, meth, cd⟩ := X
  intro H locs ls hP hS hL
  exact lv_i2l F.1 F.2.1 hd rfl (kk H locs ls hP hS hL)
theorem vL2i (F : mjF G X b own nL d ret) {x : Int64} (hd : decode b pc = .ok (.l2i, 1)) (kk : mjV G X nL (pc + 1) L (.int x.toInt32 :: st) m P) : mjV G X nL pc L (.long x :: st) m P := by
  obtain ⟨p, l, e, R, s, mm, args, below, meth, cd⟩ := X
  intro H locs ls hP hS hL
  exact lv_l2i F.1 F.2.1 hd rfl (kk H locs ls hP hS hL)
theorem vI2b (F : mjF G X b own nL d ret) {x : Int32} (hd : decode b pc = .ok (.i2b, 1)) (kk : mjV G X nL (pc + 1) L (.int x.toInt8.toInt32 :: st) m P) : mjV G X nL pc L (.int x :: st) m P := by
  obtain ⟨p, l, e, R, s, mm, args, below, meth, cd⟩ := X
  intro H locs ls hP hS hL
  exact lv_i2b F.1 F.2.1 hd rfl (kk H locs ls hP hS hL)
theorem vI2s (F : mjF G X b own nL d ret) {x : Int32} (hd : decode b pc = .ok (.i2s, 1)) (kk : mjV G X nL (pc + 1) L (.int x.toInt16.toInt32 :: st) m P) : mjV G X nL pc L (.int x :: st) m P := by
  obtain ⟨p, l, e, R, s, mm, args, below, meth, cd⟩ := X
  intro H locs ls hP hS hL
  exact lv_i2s F.1 F.2.1 hd rfl (kk H locs ls hP hS hL)
theorem vI2c (F : mjF G X b own nL d ret) {x : Int32} (hd : decode b pc = .ok (.i2c, 1)) (kk : mjV G X nL (pc + 1) L (.int (x.toUInt32 % 65536).toInt32 :: st) m P) : mjV G X nL pc L (.int x :: st) m P := by
  obtain ⟨p, l, e, R, s, mm, args, below, meth, cd⟩ := X
  intro H locs ls hP hS hL
  exact lv_i2c F.1 F.2.1 hd rfl (kk H locs ls hP hS hL)
theorem vDup (F : mjF G X b own nL d ret) {v : Value} (hd : decode b pc = .ok (.dup, 1)) (hv : v.category = 1) (kk : mjV G X nL (pc + 1) L (v :: v :: st) m P) : mjV G X nL pc L (v :: st) m P := by
  obtain ⟨p, l, e, R, s, mm, args, below, meth, cd⟩ := X
  intro H locs ls hP hS hL
  exact lv_dup F.1 F.2.1 hd hv (kk H locs ls hP hS hL)
theorem vPop (F : mjF G X b own nL d ret) {v : Value} (hd : decode b pc = .ok (.pop, 1)) (hv : v.category = 1) (kk : mjV G X nL (pc + 1) L (st) m P) : mjV G X nL pc L (v :: st) m P := by
  obtain ⟨p, l, e, R, s, mm, args, below, meth, cd⟩ := X
  intro H locs ls hP hS hL
  exact lv_pop F.1 F.2.1 hd hv (kk H locs ls hP hS hL)
theorem vDup2 (F : mjF G X b own nL d ret) {v u : Value} (hd : decode b pc = .ok (.dup2, 1)) (hv : v.category = 1) (hu : u.category = 1) (kk : mjV G X nL (pc + 1) L (v :: u :: v :: u :: st) m P) : mjV G X nL pc L (v :: u :: st) m P := by
  obtain ⟨p, l, e, R, s, mm, args, below, meth, cd⟩ := X
  intro H locs ls hP hS hL
  exact lv_dup2_11 F.1 F.2.1 hd hv hu (kk H locs ls hP hS hL)
theorem vIfEq (F : mjF G X b own nL d ret) {x : Int32} {off : Int} {tgt : Nat} (hd : decode b pc = .ok (.ifCond .eq off, 3)) (ht : (pc : Int) + off = (tgt : Int)) (kt : x = 0 → mjV G X nL tgt L st m P) (kf : ¬ x = 0 → mjV G X nL (pc + 3) L st m P) : mjV G X nL pc L (.int x :: st) m P := by
  obtain ⟨p, l, e, R, s, mm, args, below, meth, cd⟩ := X
  intro H locs ls hP hS hL
  exact lv_if_eq F.1 F.2.1 hd ht (fun c => kt c H locs ls hP hS hL) (fun c => kf c H locs ls hP hS hL)
theorem vIfNe (F : mjF G X b own nL d ret) {x : Int32} {off : Int} {tgt : Nat} (hd : decode b pc = .ok (.ifCond .ne off, 3)) (ht : (pc : Int) + off = (tgt : Int)) (kt : ¬ x = 0 → mjV G X nL tgt L st m P) (kf : x = 0 → mjV G X nL (pc + 3) L st m P) : mjV G X nL pc L (.int x :: st) m P := by
  obtain ⟨p, l, e, R, s, mm, args, below, meth, cd⟩ := X
  intro H locs ls hP hS hL
  exact lv_if_ne F.1 F.2.1 hd ht (fun c => kt c H locs ls hP hS hL) (fun c => kf c H locs ls hP hS hL)
theorem vIfLt (F : mjF G X b own nL d ret) {x : Int32} {off : Int} {tgt : Nat} (hd : decode b pc = .ok (.ifCond .lt off, 3)) (ht : (pc : Int) + off = (tgt : Int)) (kt : x < 0 → mjV G X nL tgt L st m P) (kf : ¬ x < 0 → mjV G X nL (pc + 3) L st m P) : mjV G X nL pc L (.int x :: st) m P := by
  obtain ⟨p, l, e, R, s, mm, args, below, meth, cd⟩ := X
  intro H locs ls hP hS hL
  exact lv_if_lt F.1 F.2.1 hd ht (fun c => kt c H locs ls hP hS hL) (fun c => kf c H locs ls hP hS hL)
theorem vIfGe (F : mjF G X b own nL d ret) {x : Int32} {off : Int} {tgt : Nat} (hd : decode b pc = .ok (.ifCond .ge off, 3)) (ht : (pc : Int) + off = (tgt : Int)) (kt : 0 ≤ x → mjV G X nL tgt L st m P) (kf : ¬ 0 ≤ x → mjV G X nL (pc + 3) L st m P) : mjV G X nL pc L (.int x :: st) m P := by
  obtain ⟨p, l, e, R, s, mm, args, below, meth, cd⟩ := X
  intro H locs ls hP hS hL
  exact lv_if_ge F.1 F.2.1 hd ht (fun c => kt c H locs ls hP hS hL) (fun c => kf c H locs ls hP hS hL)
theorem vIfGt (F : mjF G X b own nL d ret) {x : Int32} {off : Int} {tgt : Nat} (hd : decode b pc = .ok (.ifCond .gt off, 3)) (ht : (pc : Int) + off = (tgt : Int)) (kt : 0 < x → mjV G X nL tgt L st m P) (kf : ¬ 0 < x → mjV G X nL (pc + 3) L st m P) : mjV G X nL pc L (.int x :: st) m P := by
  obtain ⟨p, l, e, R, s, mm, args, below, meth, cd⟩ := X
  intro H locs ls hP hS hL
  exact lv_if_gt F.1 F.2.1 hd ht (fun c => kt c H locs ls hP hS hL) (fun c => kf c H locs ls hP hS hL)
theorem vIfLe (F : mjF G X b own nL d ret) {x : Int32} {off : Int} {tgt : Nat} (hd : decode b pc = .ok (.ifCond .le off, 3)) (ht : (pc : Int) + off = (tgt : Int)) (kt : x ≤ 0 → mjV G X nL tgt L st m P) (kf : ¬ x ≤ 0 → mjV G X nL (pc + 3) L st m P) : mjV G X nL pc L (.int x :: st) m P := by
  obtain ⟨p, l, e, R, s, mm, args, below, meth, cd⟩ := X
  intro H locs ls hP hS hL
  exact lv_if_le F.1 F.2.1 hd ht (fun c => kt c H locs ls hP hS hL) (fun c => kf c H locs ls hP hS hL)
theorem vIcmpEq (F : mjF G X b own nL d ret) {x y : Int32} {off : Int} {tgt : Nat} (hd : decode b pc = .ok (.if_icmp .eq off, 3)) (ht : (pc : Int) + off = (tgt : Int)) (kt : x = y → mjV G X nL tgt L st m P) (kf : ¬ x = y → mjV G X nL (pc + 3) L st m P) : mjV G X nL pc L (.int y :: .int x :: st) m P := by
  obtain ⟨p, l, e, R, s, mm, args, below, meth, cd⟩ := X
  intro H locs ls hP hS hL
  exact lv_icmp_eq F.1 F.2.1 hd ht (fun c => kt c H locs ls hP hS hL) (fun c => kf c H locs ls hP hS hL)
theorem vIcmpNe (F : mjF G X b own nL d ret) {x y : Int32} {off : Int} {tgt : Nat} (hd : decode b pc = .ok (.if_icmp .ne off, 3)) (ht : (pc : Int) + off = (tgt : Int)) (kt : ¬ x = y → mjV G X nL tgt L st m P) (kf : x = y → mjV G X nL (pc + 3) L st m P) : mjV G X nL pc L (.int y :: .int x :: st) m P := by
  obtain ⟨p, l, e, R, s, mm, args, below, meth, cd⟩ := X
  intro H locs ls hP hS hL
  exact lv_icmp_ne F.1 F.2.1 hd ht (fun c => kt c H locs ls hP hS hL) (fun c => kf c H locs ls hP hS hL)
theorem vIcmpLt (F : mjF G X b own nL d ret) {x y : Int32} {off : Int} {tgt : Nat} (hd : decode b pc = .ok (.if_icmp .lt off, 3)) (ht : (pc : Int) + off = (tgt : Int)) (kt : x < y → mjV G X nL tgt L st m P) (kf : ¬ x < y → mjV G X nL (pc + 3) L st m P) : mjV G X nL pc L (.int y :: .int x :: st) m P := by
  obtain ⟨p, l, e, R, s, mm, args, below, meth, cd⟩ := X
  intro H locs ls hP hS hL
  exact lv_icmp_lt F.1 F.2.1 hd ht (fun c => kt c H locs ls hP hS hL) (fun c => kf c H locs ls hP hS hL)
theorem vIcmpGe (F : mjF G X b own nL d ret) {x y : Int32} {off : Int} {tgt : Nat} (hd : decode b pc = .ok (.if_icmp .ge off, 3)) (ht : (pc : Int) + off = (tgt : Int)) (kt : y ≤ x → mjV G X nL tgt L st m P) (kf : ¬ y ≤ x → mjV G X nL (pc + 3) L st m P) : mjV G X nL pc L (.int y :: .int x :: st) m P := by
  obtain ⟨p, l, e, R, s, mm, args, below, meth, cd⟩ := X
  intro H locs ls hP hS hL
  exact lv_icmp_ge F.1 F.2.1 hd ht (fun c => kt c H locs ls hP hS hL) (fun c => kf c H locs ls hP hS hL)
theorem vIcmpGt (F : mjF G X b own nL d ret) {x y : Int32} {off : Int} {tgt : Nat} (hd : decode b pc = .ok (.if_icmp .gt off, 3)) (ht : (pc : Int) + off = (tgt : Int)) (kt : y < x → mjV G X nL tgt L st m P) (kf : ¬ y < x → mjV G X nL (pc + 3) L st m P) : mjV G X nL pc L (.int y :: .int x :: st) m P := by
  obtain ⟨p, l, e, R, s, mm, args, below, meth, cd⟩ := X
  intro H locs ls hP hS hL
  exact lv_icmp_gt F.1 F.2.1 hd ht (fun c => kt c H locs ls hP hS hL) (fun c => kf c H locs ls hP hS hL)
theorem vIcmpLe (F : mjF G X b own nL d ret) {x y : Int32} {off : Int} {tgt : Nat} (hd : decode b pc = .ok (.if_icmp .le off, 3)) (ht : (pc : Int) + off = (tgt : Int)) (kt : x ≤ y → mjV G X nL tgt L st m P) (kf : ¬ x ≤ y → mjV G X nL (pc + 3) L st m P) : mjV G X nL pc L (.int y :: .int x :: st) m P := by
  obtain ⟨p, l, e, R, s, mm, args, below, meth, cd⟩ := X
  intro H locs ls hP hS hL
  exact lv_icmp_le F.1 F.2.1 hd ht (fun c => kt c H locs ls hP hS hL) (fun c => kf c H locs ls hP hS hL)
theorem bI_0 {r : Bool} (h : bI r = 0) : ¬ r = true := by
  intro e
  rw [e] at h
  exact absurd h (by decide)
theorem bI_1 {r : Bool} (h : ¬ bI r = 0) : r = true := by
  cases r with
  | true => rfl
  | false => exact absurd rfl h
theorem vIfEqB (F : mjF G X b own nL d ret) {r : Bool} {off : Int} {tgt : Nat} (hd : decode b pc = .ok (.ifCond .eq off, 3)) (ht : (pc : Int) + off = (tgt : Int)) (kt : ¬ r = true → mjV G X nL tgt L st m P) (kf : r = true → mjV G X nL (pc + 3) L st m P) : mjV G X nL pc L (.int (bI r) :: st) m P :=
  vIfEq F hd ht (fun c => kt (bI_0 c)) (fun c => kf (bI_1 c))
theorem vIfNeB (F : mjF G X b own nL d ret) {r : Bool} {off : Int} {tgt : Nat} (hd : decode b pc = .ok (.ifCond .ne off, 3)) (ht : (pc : Int) + off = (tgt : Int)) (kt : r = true → mjV G X nL tgt L st m P) (kf : ¬ r = true → mjV G X nL (pc + 3) L st m P) : mjV G X nL pc L (.int (bI r) :: st) m P :=
  vIfNe F hd ht (fun c => kt (bI_1 c)) (fun c => kf (bI_0 c))
theorem vGoto (F : mjF G X b own nL d ret) {off : Int} {tgt : Nat} (hd : decode b pc = .ok (.goto off, 3)) (ht : (pc : Int) + off = (tgt : Int)) (kk : mjV G X nL tgt L st m P) : mjV G X nL pc L st m P := by
  obtain ⟨p, l, e, R, s, mm, args, below, meth, cd⟩ := X
  intro H locs ls hP hS hL
  exact lv_goto F.1 F.2.1 hd ht (kk H locs ls hP hS hL)
theorem vTabIn (F : mjF G X b own nL d ret) {dflt lo hi : Int} {offs : Array Int} {len : Nat} {x : Int32} {z : Int32} {off : Int} {tgt : Nat} (hd : decode b pc = .ok (.tableswitch dflt lo hi offs, len)) (hx : x = z) (h1 : ¬ z.toInt < lo) (h2 : ¬ hi < z.toInt) (ho : offs[(z.toInt - lo).toNat]? = some off) (ht : (pc : Int) + off = (tgt : Int)) (kk : mjV G X nL tgt L st m P) : mjV G X nL pc L (.int x :: st) m P := by
  subst hx
  obtain ⟨p, l, e, R, s, mm, args, below, meth, cd⟩ := X
  intro H locs ls hP hS hL
  exact lv_tableIn F.1 F.2.1 hd h1 h2 ho ht (kk H locs ls hP hS hL)
theorem vTabOut (F : mjF G X b own nL d ret) {dflt lo hi : Int} {offs : Array Int} {len : Nat} {x : Int32} {tgt : Nat} (hd : decode b pc = .ok (.tableswitch dflt lo hi offs, len)) (h : x.toInt < lo ∨ hi < x.toInt) (ht : (pc : Int) + dflt = (tgt : Int)) (kk : mjV G X nL tgt L st m P) : mjV G X nL pc L (.int x :: st) m P := by
  obtain ⟨p, l, e, R, s, mm, args, below, meth, cd⟩ := X
  intro H locs ls hP hS hL
  exact lv_tableOut F.1 F.2.1 hd h ht (kk H locs ls hP hS hL)
theorem vLook (F : mjF G X b own nL d ret) {dflt : Int} {ps : Array (Int × Int)} {len : Nat} {x : Int32} {off : Int} {tgt : Nat} (hd : decode b pc = .ok (.lookupswitch dflt ps, len)) (hp : (ps.toList.zip (ps.toList.drop 1)).all (fun (a, next) => a.1 < next.1) = true) (ho : Op.lookupswitch.offset ps.toList dflt x.toInt = off) (ht : (pc : Int) + off = (tgt : Int)) (kk : mjV G X nL tgt L st m P) : mjV G X nL pc L (.int x :: st) m P := by
  obtain ⟨p, l, e, R, s, mm, args, below, meth, cd⟩ := X
  intro H locs ls hP hS hL
  exact lv_lookup F.1 F.2.1 hd hp ho ht (kk H locs ls hP hS hL)
theorem lk_in {x : Int32} {a o d : Int} {r : List (Int × Int)} (z : Int32) (h : x = z) (hz : z.toInt = a) : Op.lookupswitch.offset ((a, o) :: r) d x.toInt = o := by
  rw [Op.lookupswitch.offset_cons, if_pos]
  rw [h, hz]
theorem lk_nil {x : Int32} {d : Int} : Op.lookupswitch.offset [] d x.toInt = d := rfl
/-- fewer locals -/
theorem vSub {L' : List (Nat × Value)} (ks : List Nat) (hl : lv_pick L ks = L') (kk : mjV G X nL pc L' st m P) : mjV G X nL pc L st m P :=
  fun H locs ls hP hS hL => kk H locs ls hP hS (lv_sub hL ks hl)
/-- the same at a written place -/
theorem vAt {pc' : Nat} (h : pc = pc') (kk : mjV G X nL pc' L st m P) : mjV G X nL pc L st m P := by subst h; exact kk
-- ends
theorem vIret (F : mjF G X b own nL d (some .int)) {x : Int32} (hd : decode b pc = .ok (.ireturn, 1)) (h : P (some (.int x)) m) : mjV G X nL pc L [.int x] m P := by
  obtain ⟨p, l, e, R, s, mm, args, below, meth, cd⟩ := X
  intro H locs ls hP hS hL
  exact W.iret F.1 F.2.1 F.2.2.2.2.2.2.2.2.1 (fun t ht hW => ⟨⟨_, m, rfl, h, by rw [ht]; exact hP⟩, hS.F ht⟩) hS.2.2 hd F.2.2.2.2.2.2.2.2.2.1
theorem vZret {ty : FieldType} (F : mjF G X b own nL d (some ty)) {x : Int32} (hd : decode b pc = .ok (.ireturn, 1)) (hn : narrow ty (.int x) = .int x) (h : P (some (.int x)) m) : mjV G X nL pc L [.int x] m P := by
  obtain ⟨p, l, e, R, s, mm, args, below, meth, cd⟩ := X
  intro H locs ls hP hS hL
  exact W.zret (ty := ty) F.1 F.2.1 F.2.2.2.2.2.2.2.2.1 hn (fun t ht hW => ⟨⟨_, m, rfl, h, by rw [ht]; exact hP⟩, hS.F ht⟩) hS.2.2 hd F.2.2.2.2.2.2.2.2.2.1
theorem vLret (F : mjF G X b own nL d (some .long)) {x : Int64} (hd : decode b pc = .ok (.lreturn, 1)) (h : P (some (.long x)) m) : mjV G X nL pc L [.long x] m P := by
  obtain ⟨p, l, e, R, s, mm, args, below, meth, cd⟩ := X
  intro H locs ls hP hS hL
  exact W.lret F.1 F.2.1 F.2.2.2.2.2.2.2.2.1 (fun t ht hW => ⟨⟨_, m, rfl, h, by rw [ht]; exact hP⟩, hS.F ht⟩) hS.2.2 hd F.2.2.2.2.2.2.2.2.2.1
theorem vVret (F : mjF G X b own nL d none) (hd : decode b pc = .ok (.return_, 1)) (h : P none m) : mjV G X nL pc L [] m P := by
  obtain ⟨p, l, e, R, s, mm, args, below, meth, cd⟩ := X
  intro H locs ls hP hS hL
  exact W.vret F.1 F.2.1 F.2.2.2.2.2.2.2.2.1 (fun t ht hW => ⟨⟨_, m, rfl, h, by rw [ht]; exact hP⟩, hS.F ht⟩) hS.2.2 hd F.2.2.2.2.2.2.2.2.2.1
theorem vAret {rt : FieldType} (F : mjF G X b own nL d (some rt)) {x : Nat} (hd : decode b pc = .ok (.areturn, 1)) (hn : (∃ n, rt = .object n) ∨ ∃ t, rt = .array t) (h : P (some (.ref x)) m) : mjV G X nL pc L [.ref x] m P := by
  obtain ⟨p, l, e, R, s, mm, args, below, meth, cd⟩ := X
  intro H locs ls hP hS hL
  exact W.aret F.1 F.2.1 F.2.2.2.2.2.2.2.2.1 hn (Or.inr ⟨_, rfl⟩) (fun t ht hW => ⟨⟨_, m, rfl, h, by rw [ht]; exact hP⟩, hS.F ht⟩) hS.2.2 hd F.2.2.2.2.2.2.2.2.2.1
end
