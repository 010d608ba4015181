theorem gOk_low {G : Gw} (hG : gOk G) : ∀ a : Nat, a < (gs0 G).heap.size → ¬ gA G a := fun a h => gA_low hG h
section
variable {G : Gw} {X : Cx} {b : ByteArray} {own : String} {nL d pc : Nat} {ret : Option FieldType} {L : List (Nat × Value)} {st : List Value} {m : Mm} {P : Option Value → Mm → Prop}
theorem old_T (F : mjF G X b own nL d ret) {ty : FieldType} {t N : Nat} {f : Nat → Value} (h : va_T ty t N f (gA G) (gs0 G) (gs0 G).heap) : va_T ty t N f (gA G) X.2.2.2.2.1 X.2.2.2.2.1.heap := by
  obtain ⟨-, h2, h3, h4⟩ := F.2.2.2.2.2.1
  exact va_T.moved h2.alike (h.kept (fun a h1 _ => h4 a h1))
theorem old_Z (F : mjF G X b own nL d ret) {C n t : String} {v : Value} (h : va_Z C n t v (gA G) (gs0 G) (gs0 G).heap) : va_Z C n t v (gA G) X.2.2.2.2.1 X.2.2.2.2.1.heap := by
  obtain ⟨-, h2, h3, h4⟩ := F.2.2.2.2.2.1
  exact va_Z.moved h2.alike (h.kept (fun a h1 _ => h4 a h1))
theorem old_O (F : mjF G X b own nL d ret) {C : String} {t : Nat} (h : va_O C t (gA G) (gs0 G) (gs0 G).heap) : va_O C t (gA G) X.2.2.2.2.1 X.2.2.2.2.1.heap := by
  obtain ⟨-, h2, h3, h4⟩ := F.2.2.2.2.2.1
  exact va_O.moved h2.alike (h.kept (fun a h1 _ => h4 a h1))
theorem old_OF (F : mjF G X b own nL d ret) {C n t : String} {v : Value} {a : Nat} (h : va_OF C n t v a (gA G) (gs0 G) (gs0 G).heap) : va_OF C n t v a (gA G) X.2.2.2.2.1 X.2.2.2.2.1.heap := by
  obtain ⟨-, h2, h3, h4⟩ := F.2.2.2.2.2.1
  exact va_OF.moved h2.alike (h.kept (fun a h1 _ => h4 a h1))
theorem old_w (hG : gOk G) {w : Cond} (hw : w ∈ lw_tbl) : ∃ a0, w.before a0 (gs0 G) = true := by
  obtain ⟨⟨a0, h0, -⟩, -⟩ := hG
  exact ⟨a0, h0 w hw⟩
-- the table of the kinds above
theorem tab_at (hG : gOk G) : ∃ t : Nat, va_Z "NamesBack" "ABOVE" "[I" (.ref t) (gA G) (gs0 G) (gs0 G).heap ∧ mjTab G t := by
  obtain ⟨a0, h0, h1⟩ := hG.1
  have hs := flat_of_before _ h1
  obtain ⟨t, ht, hT⟩ := va_Tof (s := gs0 G) (args := a0) (tm := .static "NamesBack" "ABOVE" "[I") (ty := .int) (N := 7) (f := fun j => .int (tabL.getD j 0)) (A := gA G) (by decide) (hs _ (by decide +kernel)) (va_eqt (hs (.eq (.length (.static "NamesBack" "ABOVE" "[I")) (.int 7)) (by decide +kernel)))
    (fun j hj => by
      match j, hj with
      | 0, _ => exact va_eqt (hs (.eq (.elem (.static "NamesBack" "ABOVE" "[I") (.int 0)) (.int (-1))) (by decide +kernel))
      | 1, _ => exact va_eqt (hs (.eq (.elem (.static "NamesBack" "ABOVE" "[I") (.int 1)) (.int 0)) (by decide +kernel))
      | 2, _ => exact va_eqt (hs (.eq (.elem (.static "NamesBack" "ABOVE" "[I") (.int 2)) (.int 0)) (by decide +kernel))
      | 3, _ => exact va_eqt (hs (.eq (.elem (.static "NamesBack" "ABOVE" "[I") (.int 3)) (.int 0)) (by decide +kernel))
      | 4, _ => exact va_eqt (hs (.eq (.elem (.static "NamesBack" "ABOVE" "[I") (.int 4)) (.int 1)) (by decide +kernel))
      | 5, _ => exact va_eqt (hs (.eq (.elem (.static "NamesBack" "ABOVE" "[I") (.int 5)) (.int 2)) (by decide +kernel))
      | 6, _ => exact va_eqt (hs (.eq (.elem (.static "NamesBack" "ABOVE" "[I") (.int 6)) (.int 3)) (by decide +kernel))
      | j + 7, h => exact absurd h (by omega)) (gOk_low hG)
  exact ⟨t, va_Zof (h0 _ (lw_tab (i := 839) (by decide +kernel))) (h0 _ (lw_tab (i := 1) (by decide +kernel))) ht (gOk_low hG), hT⟩
theorem fl_301 : Cond.fieldLink "NamesBack" 301 "NamesBack" "ABOVE" "[I" ∈ gw_tbl := gw_tab (i := 838) (by decide +kernel) rfl
theorem vGetA (F : mjF G X b RX6 nL d ret) (hd : decode b pc = .ok (.getstatic 301, 3)) (kk : ∀ t : Nat, mjTab G t → mjV G X nL (pc + 3) L (.ref t :: st) m P) : mjV G X nL pc L st m P := by
  obtain ⟨t, hZ, hT⟩ := tab_at F.2.2.2.2.2.2.1
  intro H locs ls hP hS hL
  exact va_gets F.1 F.2.1 (old_Z F hZ) hS F.2.2.2.1 (F.2.2.2.2.1 _ fl_301) (fun _ h => h) hd (kk t hT H locs ls hP hS hL)
theorem vTabA (F : mjF G X b own nL d ret) {t : Nat} {i : Int32} (hd : decode b pc = .ok (.iaload, 1)) (hT : mjTab G t) (hin : vp_in i 7) (kk : mjV G X nL (pc + 1) L (.int (tabA i) :: st) m P) : mjV G X nL pc L (.int i :: .ref t :: st) m P :=
  fun H locs ls hP hS hL => va_ti F.1 F.2.1 (old_T F hT) hS hin rfl hd (kk H locs ls hP hS hL)
-- Strings
theorem cs_at (hG : gOk G) : va_Z "java/lang/String" "COMPACT_STRINGS" "Z" (.int 1) (gA G) (gs0 G) (gs0 G).heap := by
  obtain ⟨a0, h0, h1⟩ := hG.1
  have hs := flat_of_before _ h1
  exact va_Zof (h0 _ (lw_tab (i := 486) (by decide +kernel))) (h0 _ (lw_tab (i := 11) (by decide +kernel))) (va_eqi (hs (.eq (.static "java/lang/String" "COMPACT_STRINGS" "Z") (.int 1)) (by decide +kernel))) (gOk_low hG)
theorem fl_38 : Cond.fieldLink "java/lang/String" 38 "java/lang/String" "COMPACT_STRINGS" "Z" ∈ gw_tbl := gw_tab (i := 485) (by decide +kernel) rfl
theorem vGetCS (F : mjF G X b RJ0 nL d ret) (hd : decode b pc = .ok (.getstatic 38, 3)) (kk : mjV G X nL (pc + 3) L (.int 1 :: st) m P) : mjV G X nL pc L st m P :=
  fun H locs ls hP hS hL => va_gets F.1 F.2.1 (old_Z F (cs_at F.2.2.2.2.2.2.1)) hS F.2.2.2.1 (F.2.2.2.2.1 _ fl_38) (fun _ h => h) hd (kk H locs ls hP hS hL)
theorem fm_at (hG : gOk G) : ∃ u : Value, u.category = 1 ∧ va_Z "jdk/internal/util/Preconditions" "SIOOBE_FORMATTER" "Ljava/util/function/BiFunction;" u (gA G) (gs0 G) (gs0 G).heap := by
  obtain ⟨a0, h0, h1⟩ := hG.1
  have hs := flat_of_before _ h1
  rcases va_Zqof (h0 _ (lw_tab (i := 527) (by decide +kernel))) (h0 _ (lw_tab (i := 14) (by decide +kernel))) (hs (.isRef (.static "jdk/internal/util/Preconditions" "SIOOBE_FORMATTER" "Ljava/util/function/BiFunction;")) (by decide +kernel)) (gOk_low hG) with h | ⟨t, h⟩
  · exact ⟨_, rfl, h⟩
  · exact ⟨_, rfl, h⟩
theorem fl_1053 : Cond.fieldLink "java/lang/String" 1053 "jdk/internal/util/Preconditions" "SIOOBE_FORMATTER" "Ljava/util/function/BiFunction;" ∈ gw_tbl := gw_tab (i := 526) (by decide +kernel) rfl
theorem vGetU (F : mjF G X b RJ0 nL d ret) (hd : decode b pc = .ok (.getstatic 1053, 3)) (kk : ∀ u : Value, u.category = 1 → mjV G X nL (pc + 3) L (u :: st) m P) : mjV G X nL pc L st m P := by
  obtain ⟨u, hu, hZ⟩ := fm_at F.2.2.2.2.2.2.1
  exact fun H locs ls hP hS hL => va_gets F.1 F.2.1 (old_Z F hZ) hS F.2.2.2.1 (F.2.2.2.2.1 _ fl_1053) (fun _ h => h) hd (kk u hu H locs ls hP hS hL)
theorem fl_9 : Cond.fieldLink "java/lang/String" 9 "java/lang/String" "value" "[B" ∈ gw_tbl := gw_tab (i := 1449) (by decide +kernel) rfl
theorem fl_15 : Cond.fieldLink "java/lang/String" 15 "java/lang/String" "coder" "B" ∈ gw_tbl := gw_tab (i := 1448) (by decide +kernel) rfl
theorem vStrVal (F : mjF G X b RJ0 nL d ret) {a : Nat} {x : List Int32} (hd : decode b pc = .ok (.getfield 9, 3)) (hx : mjStr G a x) (kk : ∀ v : Nat, mjByt G v x → mjV G X nL (pc + 3) L (.ref v :: st) m P) : mjV G X nL pc L (.ref a :: st) m P := by
  obtain ⟨-, -, -, v, hv, hb⟩ := hx
  exact fun H locs ls hP hS hL => vk_getf F.1 F.2.1 (old_OF F hv) hS F.2.2.2.1 (F.2.2.2.2.1 _ fl_9) (fun _ h => h) hd (kk v hb H locs ls hP hS hL)
theorem vStrCod (F : mjF G X b RJ0 nL d ret) {a : Nat} {x : List Int32} (hd : decode b pc = .ok (.getfield 15, 3)) (hx : mjStr G a x) (kk : mjV G X nL (pc + 3) L (.int 0 :: st) m P) : mjV G X nL pc L (.ref a :: st) m P :=
  fun H locs ls hP hS hL => vk_getf F.1 F.2.1 (old_OF F hx.2.2.1) hS F.2.2.2.1 (F.2.2.2.2.1 _ fl_15) (fun _ h => h) hd (kk H locs ls hP hS hL)
theorem vBytLen (F : mjF G X b own nL d ret) {a : Nat} {x : List Int32} (hd : decode b pc = .ok (.arraylength, 1)) (hx : mjByt G a x) (kk : mjV G X nL (pc + 1) L (.int (Int32.ofNat x.length) :: st) m P) : mjV G X nL pc L (.ref a :: st) m P :=
  fun H locs ls hP hS hL => va_tlen F.1 F.2.1 (old_T F hx) hS rfl hd (kk H locs ls hP hS hL)
theorem vBytLd (F : mjF G X b own nL d ret) {a : Nat} {x : List Int32} {i : Int32} (hd : decode b pc = .ok (.baload, 1)) (hx : mjByt G a x) (hin : vp_in i x.length) (kk : mjV G X nL (pc + 1) L (.int (x.getD i.toNatClampNeg 0) :: st) m P) : mjV G X nL pc L (.int i :: .ref a :: st) m P :=
  fun H locs ls hP hS hL => va_tb F.1 F.2.1 (old_T F hx) hS hin rfl hd (kk H locs ls hP hS hL)
theorem str_at_53 (hG : gOk G) : ∃ a : Nat, vk_R "NamesBack$LandReader" 53 "gfa" a (gs0 G) ∧ mjStr G a str_53 := by
  obtain ⟨a0, h0, h1⟩ := hG.1
  have hs := flat_of_before _ h1
  obtain ⟨adK, adV, hS, he⟩ := vk_Sof (s := gs0 G) (args := a0) (N := 1) (tm := fun _ => .string "NamesBack$LandReader" 53) (len := [3]) (byt := [str_53]) (A := gA G) (fun i hi => by match i, hi with | 0, _ => decide) (fun i _ => hs (.exactly (.string "NamesBack$LandReader" 53) "java/lang/String") (by decide +kernel)) (fun i _ => hs (.eq (.field (.string "NamesBack$LandReader" 53) "java/lang/String" "coder" "B") (.int 0)) (by decide +kernel))
    (fun i _ => hs (.arrayOf (.field (.string "NamesBack$LandReader" 53) "java/lang/String" "value" "[B") .byte) (by decide +kernel)) (fun i hi => by match i, hi with | 0, _ => exact hs (.eq (.length (.field (.string "NamesBack$LandReader" 53) "java/lang/String" "value" "[B")) (.int 3)) (by decide +kernel))
    (fun i hi j hj => by
      match i, hi with
      | 0, _ =>
        match j, hj with
        | 0, _ => exact hs (.eq (.elem (.field (.string "NamesBack$LandReader" 53) "java/lang/String" "value" "[B") (.int 0)) (.int 103)) (by decide +kernel)
        | 1, _ => exact hs (.eq (.elem (.field (.string "NamesBack$LandReader" 53) "java/lang/String" "value" "[B") (.int 1)) (.int 102)) (by decide +kernel)
        | 2, _ => exact hs (.eq (.elem (.field (.string "NamesBack$LandReader" 53) "java/lang/String" "value" "[B") (.int 2)) (.int 97)) (by decide +kernel)
        | j + 3, h => exact absurd h (by show ¬ j + 3 < 3; omega))
    (fun i j hi hj hij => absurd (by omega) hij) (gOk_low hG)
  obtain ⟨s1, s2, s3, s4⟩ := hS.1 0 (by decide)
  exact ⟨adK 0, vk_R.of (h0 _ (lw_tab (i := 472) (by decide +kernel))) (he 0 (by decide)), by decide, s1, s2, adV 0, s3, s4⟩
theorem vLdcS_53 (F : mjF G X b RX3 nL d ret) (hd : decode b pc = .ok (.ldc 53, 2)) (kk : ∀ a : Nat, mjStr G a str_53 → mjV G X nL (pc + 2) L (.ref a :: st) m P) : mjV G X nL pc L st m P := by
  obtain ⟨a, hR, hx⟩ := str_at_53 F.2.2.2.2.2.2.1
  exact fun H locs ls hP hS hL => va_ldcS F.1 F.2.1 F.2.2.2.1 (vk_R.warm F.2.2.2.2.2.1.2.1 hR) hd (kk a hx H locs ls hP hS hL)
theorem str_at_59 (hG : gOk G) : ∃ a : Nat, vk_R "NamesBack$LandReader" 59 "great " a (gs0 G) ∧ mjStr G a str_59 := by
  obtain ⟨a0, h0, h1⟩ := hG.1
  have hs := flat_of_before _ h1
  obtain ⟨adK, adV, hS, he⟩ := vk_Sof (s := gs0 G) (args := a0) (N := 1) (tm := fun _ => .string "NamesBack$LandReader" 59) (len := [6]) (byt := [str_59]) (A := gA G) (fun i hi => by match i, hi with | 0, _ => decide) (fun i _ => hs (.exactly (.string "NamesBack$LandReader" 59) "java/lang/String") (by decide +kernel)) (fun i _ => hs (.eq (.field (.string "NamesBack$LandReader" 59) "java/lang/String" "coder" "B") (.int 0)) (by decide +kernel))
    (fun i _ => hs (.arrayOf (.field (.string "NamesBack$LandReader" 59) "java/lang/String" "value" "[B") .byte) (by decide +kernel)) (fun i hi => by match i, hi with | 0, _ => exact hs (.eq (.length (.field (.string "NamesBack$LandReader" 59) "java/lang/String" "value" "[B")) (.int 6)) (by decide +kernel))
    (fun i hi j hj => by
      match i, hi with
      | 0, _ =>
        match j, hj with
        | 0, _ => exact hs (.eq (.elem (.field (.string "NamesBack$LandReader" 59) "java/lang/String" "value" "[B") (.int 0)) (.int 103)) (by decide +kernel)
        | 1, _ => exact hs (.eq (.elem (.field (.string "NamesBack$LandReader" 59) "java/lang/String" "value" "[B") (.int 1)) (.int 114)) (by decide +kernel)
        | 2, _ => exact hs (.eq (.elem (.field (.string "NamesBack$LandReader" 59) "java/lang/String" "value" "[B") (.int 2)) (.int 101)) (by decide +kernel)
        | 3, _ => exact hs (.eq (.elem (.field (.string "NamesBack$LandReader" 59) "java/lang/String" "value" "[B") (.int 3)) (.int 97)) (by decide +kernel)
        | 4, _ => exact hs (.eq (.elem (.field (.string "NamesBack$LandReader" 59) "java/lang/String" "value" "[B") (.int 4)) (.int 116)) (by decide +kernel)
        | 5, _ => exact hs (.eq (.elem (.field (.string "NamesBack$LandReader" 59) "java/lang/String" "value" "[B") (.int 5)) (.int 32)) (by decide +kernel)
        | j + 6, h => exact absurd h (by show ¬ j + 6 < 6; omega))
    (fun i j hi hj hij => absurd (by omega) hij) (gOk_low hG)
  obtain ⟨s1, s2, s3, s4⟩ := hS.1 0 (by decide)
  exact ⟨adK 0, vk_R.of (h0 _ (lw_tab (i := 557) (by decide +kernel))) (he 0 (by decide)), by decide, s1, s2, adV 0, s3, s4⟩
theorem vLdcS_59 (F : mjF G X b RX3 nL d ret) (hd : decode b pc = .ok (.ldc 59, 2)) (kk : ∀ a : Nat, mjStr G a str_59 → mjV G X nL (pc + 2) L (.ref a :: st) m P) : mjV G X nL pc L st m P := by
  obtain ⟨a, hR, hx⟩ := str_at_59 F.2.2.2.2.2.2.1
  exact fun H locs ls hP hS hL => va_ldcS F.1 F.2.1 F.2.2.2.1 (vk_R.warm F.2.2.2.2.2.1.2.1 hR) hd (kk a hx H locs ls hP hS hL)
theorem str_at_61 (hG : gOk G) : ∃ a : Nat, vk_R "NamesBack$LandReader" 61 "far " a (gs0 G) ∧ mjStr G a str_61 := by
  obtain ⟨a0, h0, h1⟩ := hG.1
  have hs := flat_of_before _ h1
  obtain ⟨adK, adV, hS, he⟩ := vk_Sof (s := gs0 G) (args := a0) (N := 1) (tm := fun _ => .string "NamesBack$LandReader" 61) (len := [4]) (byt := [str_61]) (A := gA G) (fun i hi => by match i, hi with | 0, _ => decide) (fun i _ => hs (.exactly (.string "NamesBack$LandReader" 61) "java/lang/String") (by decide +kernel)) (fun i _ => hs (.eq (.field (.string "NamesBack$LandReader" 61) "java/lang/String" "coder" "B") (.int 0)) (by decide +kernel))
    (fun i _ => hs (.arrayOf (.field (.string "NamesBack$LandReader" 61) "java/lang/String" "value" "[B") .byte) (by decide +kernel)) (fun i hi => by match i, hi with | 0, _ => exact hs (.eq (.length (.field (.string "NamesBack$LandReader" 61) "java/lang/String" "value" "[B")) (.int 4)) (by decide +kernel))
    (fun i hi j hj => by
      match i, hi with
      | 0, _ =>
        match j, hj with
        | 0, _ => exact hs (.eq (.elem (.field (.string "NamesBack$LandReader" 61) "java/lang/String" "value" "[B") (.int 0)) (.int 102)) (by decide +kernel)
        | 1, _ => exact hs (.eq (.elem (.field (.string "NamesBack$LandReader" 61) "java/lang/String" "value" "[B") (.int 1)) (.int 97)) (by decide +kernel)
        | 2, _ => exact hs (.eq (.elem (.field (.string "NamesBack$LandReader" 61) "java/lang/String" "value" "[B") (.int 2)) (.int 114)) (by decide +kernel)
        | 3, _ => exact hs (.eq (.elem (.field (.string "NamesBack$LandReader" 61) "java/lang/String" "value" "[B") (.int 3)) (.int 32)) (by decide +kernel)
        | j + 4, h => exact absurd h (by show ¬ j + 4 < 4; omega))
    (fun i j hi hj hij => absurd (by omega) hij) (gOk_low hG)
  obtain ⟨s1, s2, s3, s4⟩ := hS.1 0 (by decide)
  exact ⟨adK 0, vk_R.of (h0 _ (lw_tab (i := 558) (by decide +kernel))) (he 0 (by decide)), by decide, s1, s2, adV 0, s3, s4⟩
theorem vLdcS_61 (F : mjF G X b RX3 nL d ret) (hd : decode b pc = .ok (.ldc 61, 2)) (kk : ∀ a : Nat, mjStr G a str_61 → mjV G X nL (pc + 2) L (.ref a :: st) m P) : mjV G X nL pc L st m P := by
  obtain ⟨a, hR, hx⟩ := str_at_61 F.2.2.2.2.2.2.1
  exact fun H locs ls hP hS hL => va_ldcS F.1 F.2.1 F.2.2.2.1 (vk_R.warm F.2.2.2.2.2.1.2.1 hR) hd (kk a hx H locs ls hP hS hL)
theorem str_at_63 (hG : gOk G) : ∃ a : Nat, vk_R "NamesBack$LandReader" 63 "arms " a (gs0 G) ∧ mjStr G a str_63 := by
  obtain ⟨a0, h0, h1⟩ := hG.1
  have hs := flat_of_before _ h1
  obtain ⟨adK, adV, hS, he⟩ := vk_Sof (s := gs0 G) (args := a0) (N := 1) (tm := fun _ => .string "NamesBack$LandReader" 63) (len := [5]) (byt := [str_63]) (A := gA G) (fun i hi => by match i, hi with | 0, _ => decide) (fun i _ => hs (.exactly (.string "NamesBack$LandReader" 63) "java/lang/String") (by decide +kernel)) (fun i _ => hs (.eq (.field (.string "NamesBack$LandReader" 63) "java/lang/String" "coder" "B") (.int 0)) (by decide +kernel))
    (fun i _ => hs (.arrayOf (.field (.string "NamesBack$LandReader" 63) "java/lang/String" "value" "[B") .byte) (by decide +kernel)) (fun i hi => by match i, hi with | 0, _ => exact hs (.eq (.length (.field (.string "NamesBack$LandReader" 63) "java/lang/String" "value" "[B")) (.int 5)) (by decide +kernel))
    (fun i hi j hj => by
      match i, hi with
      | 0, _ =>
        match j, hj with
        | 0, _ => exact hs (.eq (.elem (.field (.string "NamesBack$LandReader" 63) "java/lang/String" "value" "[B") (.int 0)) (.int 97)) (by decide +kernel)
        | 1, _ => exact hs (.eq (.elem (.field (.string "NamesBack$LandReader" 63) "java/lang/String" "value" "[B") (.int 1)) (.int 114)) (by decide +kernel)
        | 2, _ => exact hs (.eq (.elem (.field (.string "NamesBack$LandReader" 63) "java/lang/String" "value" "[B") (.int 2)) (.int 109)) (by decide +kernel)
        | 3, _ => exact hs (.eq (.elem (.field (.string "NamesBack$LandReader" 63) "java/lang/String" "value" "[B") (.int 3)) (.int 115)) (by decide +kernel)
        | 4, _ => exact hs (.eq (.elem (.field (.string "NamesBack$LandReader" 63) "java/lang/String" "value" "[B") (.int 4)) (.int 32)) (by decide +kernel)
        | j + 5, h => exact absurd h (by show ¬ j + 5 < 5; omega))
    (fun i j hi hj hij => absurd (by omega) hij) (gOk_low hG)
  obtain ⟨s1, s2, s3, s4⟩ := hS.1 0 (by decide)
  exact ⟨adK 0, vk_R.of (h0 _ (lw_tab (i := 559) (by decide +kernel))) (he 0 (by decide)), by decide, s1, s2, adV 0, s3, s4⟩
theorem vLdcS_63 (F : mjF G X b RX3 nL d ret) (hd : decode b pc = .ok (.ldc 63, 2)) (kk : ∀ a : Nat, mjStr G a str_63 → mjV G X nL (pc + 2) L (.ref a :: st) m P) : mjV G X nL pc L st m P := by
  obtain ⟨a, hR, hx⟩ := str_at_63 F.2.2.2.2.2.2.1
  exact fun H locs ls hP hS hL => va_ldcS F.1 F.2.1 F.2.2.2.1 (vk_R.warm F.2.2.2.2.2.1.2.1 hR) hd (kk a hx H locs ls hP hS hL)
theorem str_at_96 (hG : gOk G) : ∃ a : Nat, vk_R "NamesBack$LandReader" 96 "pkvcnr" a (gs0 G) ∧ mjStr G a str_96 := by
  obtain ⟨a0, h0, h1⟩ := hG.1
  have hs := flat_of_before _ h1
  obtain ⟨adK, adV, hS, he⟩ := vk_Sof (s := gs0 G) (args := a0) (N := 1) (tm := fun _ => .string "NamesBack$LandReader" 96) (len := [6]) (byt := [str_96]) (A := gA G) (fun i hi => by match i, hi with | 0, _ => decide) (fun i _ => hs (.exactly (.string "NamesBack$LandReader" 96) "java/lang/String") (by decide +kernel)) (fun i _ => hs (.eq (.field (.string "NamesBack$LandReader" 96) "java/lang/String" "coder" "B") (.int 0)) (by decide +kernel))
    (fun i _ => hs (.arrayOf (.field (.string "NamesBack$LandReader" 96) "java/lang/String" "value" "[B") .byte) (by decide +kernel)) (fun i hi => by match i, hi with | 0, _ => exact hs (.eq (.length (.field (.string "NamesBack$LandReader" 96) "java/lang/String" "value" "[B")) (.int 6)) (by decide +kernel))
    (fun i hi j hj => by
      match i, hi with
      | 0, _ =>
        match j, hj with
        | 0, _ => exact hs (.eq (.elem (.field (.string "NamesBack$LandReader" 96) "java/lang/String" "value" "[B") (.int 0)) (.int 112)) (by decide +kernel)
        | 1, _ => exact hs (.eq (.elem (.field (.string "NamesBack$LandReader" 96) "java/lang/String" "value" "[B") (.int 1)) (.int 107)) (by decide +kernel)
        | 2, _ => exact hs (.eq (.elem (.field (.string "NamesBack$LandReader" 96) "java/lang/String" "value" "[B") (.int 2)) (.int 118)) (by decide +kernel)
        | 3, _ => exact hs (.eq (.elem (.field (.string "NamesBack$LandReader" 96) "java/lang/String" "value" "[B") (.int 3)) (.int 99)) (by decide +kernel)
        | 4, _ => exact hs (.eq (.elem (.field (.string "NamesBack$LandReader" 96) "java/lang/String" "value" "[B") (.int 4)) (.int 110)) (by decide +kernel)
        | 5, _ => exact hs (.eq (.elem (.field (.string "NamesBack$LandReader" 96) "java/lang/String" "value" "[B") (.int 5)) (.int 114)) (by decide +kernel)
        | j + 6, h => exact absurd h (by show ¬ j + 6 < 6; omega))
    (fun i j hi hj hij => absurd (by omega) hij) (gOk_low hG)
  obtain ⟨s1, s2, s3, s4⟩ := hS.1 0 (by decide)
  exact ⟨adK 0, vk_R.of (h0 _ (lw_tab (i := 602) (by decide +kernel))) (he 0 (by decide)), by decide, s1, s2, adV 0, s3, s4⟩
theorem vLdcS_96 (F : mjF G X b RX3 nL d ret) (hd : decode b pc = .ok (.ldc 96, 2)) (kk : ∀ a : Nat, mjStr G a str_96 → mjV G X nL (pc + 2) L (.ref a :: st) m P) : mjV G X nL pc L st m P := by
  obtain ⟨a, hR, hx⟩ := str_at_96 F.2.2.2.2.2.2.1
  exact fun H locs ls hP hS hL => va_ldcS F.1 F.2.1 F.2.2.2.1 (vk_R.warm F.2.2.2.2.2.1.2.1 hR) hd (kk a hx H locs ls hP hS hL)
theorem str_at_98 (hG : gOk G) : ∃ a : Nat, vk_R "NamesBack$LandReader" 98 "<=>" a (gs0 G) ∧ mjStr G a str_98 := by
  obtain ⟨a0, h0, h1⟩ := hG.1
  have hs := flat_of_before _ h1
  obtain ⟨adK, adV, hS, he⟩ := vk_Sof (s := gs0 G) (args := a0) (N := 1) (tm := fun _ => .string "NamesBack$LandReader" 98) (len := [3]) (byt := [str_98]) (A := gA G) (fun i hi => by match i, hi with | 0, _ => decide) (fun i _ => hs (.exactly (.string "NamesBack$LandReader" 98) "java/lang/String") (by decide +kernel)) (fun i _ => hs (.eq (.field (.string "NamesBack$LandReader" 98) "java/lang/String" "coder" "B") (.int 0)) (by decide +kernel))
    (fun i _ => hs (.arrayOf (.field (.string "NamesBack$LandReader" 98) "java/lang/String" "value" "[B") .byte) (by decide +kernel)) (fun i hi => by match i, hi with | 0, _ => exact hs (.eq (.length (.field (.string "NamesBack$LandReader" 98) "java/lang/String" "value" "[B")) (.int 3)) (by decide +kernel))
    (fun i hi j hj => by
      match i, hi with
      | 0, _ =>
        match j, hj with
        | 0, _ => exact hs (.eq (.elem (.field (.string "NamesBack$LandReader" 98) "java/lang/String" "value" "[B") (.int 0)) (.int 60)) (by decide +kernel)
        | 1, _ => exact hs (.eq (.elem (.field (.string "NamesBack$LandReader" 98) "java/lang/String" "value" "[B") (.int 1)) (.int 61)) (by decide +kernel)
        | 2, _ => exact hs (.eq (.elem (.field (.string "NamesBack$LandReader" 98) "java/lang/String" "value" "[B") (.int 2)) (.int 62)) (by decide +kernel)
        | j + 3, h => exact absurd h (by show ¬ j + 3 < 3; omega))
    (fun i j hi hj hij => absurd (by omega) hij) (gOk_low hG)
  obtain ⟨s1, s2, s3, s4⟩ := hS.1 0 (by decide)
  exact ⟨adK 0, vk_R.of (h0 _ (lw_tab (i := 603) (by decide +kernel))) (he 0 (by decide)), by decide, s1, s2, adV 0, s3, s4⟩
theorem vLdcS_98 (F : mjF G X b RX3 nL d ret) (hd : decode b pc = .ok (.ldc 98, 2)) (kk : ∀ a : Nat, mjStr G a str_98 → mjV G X nL (pc + 2) L (.ref a :: st) m P) : mjV G X nL pc L st m P := by
  obtain ⟨a, hR, hx⟩ := str_at_98 F.2.2.2.2.2.2.1
  exact fun H locs ls hP hS hL => va_ldcS F.1 F.2.1 F.2.2.2.1 (vk_R.warm F.2.2.2.2.2.1.2.1 hR) hd (kk a hx H locs ls hP hS hL)
theorem vCallVS (F : mjF G X b own nL d ret) {a idx d' maxL n : Nat} {x : List Int32} {y : MethodName} {bytes : ByteArray} {rt : Option FieldType} {As : List Value} {st0 : List Value} (hd : decode b pc = .ok (.invokevirtual idx, 3)) (hw : Cond.methodLink own idx y ∈ gw_tbl ∨ ∃ host, Cond.methodLinkNest own idx y host ∈ lw_tbl) (hy : mjY y bytes maxL rt n) (hv : mjYV y) (hx : mjStr G a x) (hc : y.cls = "java/lang/String") (hdd : d' + 1 ≤ d) (hn : As.length = n) (hst : st0 = As.reverse ++ .ref a :: st) (hcat : (st.map fun v => v.category).sum ≤ 8)
    (hR : mjR G d' y bytes maxL rt (.ref a :: As) m (fun v m' => mjV G X nL (pc + 3) L (v.toList ++ st) m' P)) : mjV G X nL pc L st0 m P := by
  subst hst
  have hO := old_O F hx.2.1
  obtain ⟨p, l, e, R, s, mm, args, below, meth, cd⟩ := X
  intro H locs ls hP hS hL
  obtain ⟨w1, w2, w3, w4, w5⟩ := hy
  have hl : l = gl G := F.2.2.2.2.2.2.2.2.2.2
  subst hl
  have hrm := mj_room F.2.2.2.2.2.2.2.1 hdd w5
  have hrecv : ∃ cell : Cell, H[a]? = some cell ∧ cell.vm.isStatics = false ∧ s.vm.findClass y.cls = some cell.cls := by
    obtain ⟨cell, h1, h2, h3, -⟩ := hO.kept hS.2.1
    exact ⟨cell, h1, h2, by rw [hc]; exact h3⟩
  have pre : PreV s H y.cls a (va_Pc (.ref a :: As) (fun U => gP G m U.heap ∧ gK G U)) As :=
    ⟨mj_blind, hrecv, fun U hU hW => ⟨rfl, by rw [hU]; exact hP, gK_at F.2.2.2.2.2.2.1 F.2.2.2.2.2.1 hS hU hW⟩⟩
  have hgood := mj_good w1
  have hlen : ∀ sig, parseMethodDescriptor y.desc = some sig → n = sig.parameters.length := fun sig h => by
    rw [h] at w4
    exact (Option.some.inj w4).symm
  rcases hw with hw | ⟨host, hw⟩
  · refine mj_go (va_runV ⟨F.1, F.2.1, F.2.2.1, F.2.2.2.1, F.2.2.2.2.1⟩ hR ⟨⟨rfl, rfl, hrm.1, hrm.2, pay_in F.2.2.2.2.1 hgood, List.mem_cons_self, F.2.2.2.2.1 _ w1, F.2.2.2.2.1 _ w2, w3, hlen, F.2.2.2.2.1 _ hw⟩, F.2.2.2.2.1 _ hv.1, F.2.2.2.2.1 _ hv.2⟩ pre rfl hn hL.1 rfl (lv_room hcat) hd ⟨Nat.zero_le _, Nat.zero_le _⟩) hS (fun v m' H1 locs1 h hP1 hS1 => h H1 locs1 ls hP1 hS1 hL)
  · refine mj_go (va_runVN ⟨F.1, F.2.1, F.2.2.1, F.2.2.2.1, F.2.2.2.2.1⟩ hR ⟨⟨⟨rfl, rfl, hrm.1, hrm.2, pay_in F.2.2.2.2.1 hgood, List.mem_cons_self⟩, F.2.2.2.2.1 _ w1, F.2.2.2.2.1 _ w2, w3, hlen, va_Nw.use rfl (mjF_nestM F hw)⟩, F.2.2.2.2.1 _ hv.1, F.2.2.2.2.1 _ hv.2⟩ pre rfl hn hL.1 rfl (lv_room hcat) hd ⟨Nat.zero_le _, Nat.zero_le _⟩) hS (fun v m' H1 locs1 h hP1 hS1 => h H1 locs1 ls hP1 hS1 hL)
end
