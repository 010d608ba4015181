/-! THE CLAIM OUT OF ONE WALK OF THE LAW'S BODY. Your part is whole_start (and what it stands on); all else here is the same for every law, but numbers. -/
def R_law : String := "NamesBackLaw"
def lw_P (b : Addr) (xs : List Int32) (args : Array Value) (s : State) : Prop := args = #[.ref b] ∧ s.IntsAt b xs ∧ xs.length ≤ 3072 ∧ (Jvm.Cond.and given_1 narrow_1).before args s = true
def lw_Q (_ : Array Value) (s : State) (o : Outcome) (t : State) : Prop := o = .returned (some (.int 1)) ∧ Framed s o t [] 600000 7302250
def lw_Z (below : List Frame) (a : Array Value) (s : State) : State → Prop := fun t => ∃ o, t.status = .running ∧ Ended t below o ∧ lw_Q a s o t
/-- the law's own end, with 1 on the stack, nothing written that was there before, its room as the claim has it -/
theorem lw_ret {p : Program} {l : Launch} {e : Env} {s : State} {m : MethodId} {below : List Frame} {meth : Method} {c : Code} {b : Nat} (hx : p.tables.exec = Jvm.exec) (hb : c.code = code) (hr : meth.sig.returnType = ret) (hlocks : meth.locks = false) {pc : Nat} {H : Heap} {ls : Array Slot} (hdg : decode code pc = .ok (.ireturn, 1)) : W p l e room_1 s m #[Value.ref b] below meth c H [] 600000 7302250 (lw_Z below #[Value.ref b] s) (F0 m pc ls [.int 1]) := by
  intro T hT X
  obtain ⟨fs, hret, hrun, hended, hW, hframe⟩ := X.leave (v := some (.int 1)) (hlocks := hlocks) (fun h => by rw [hr] at h; cases h)
  have hmeth' : T.vm.method? m = some meth := X.method'
  refine ⟨T.setFrames fs, ?_, .returned (some (.int 1)), hrun, hended, rfl, ⟨_, rfl⟩, hW, hframe⟩
  jvm_step X.here [X.here.top, hx, hb, hdg, hmeth', hr, ret, narrow_b1]
  (try refine ⟨rfl, ?_⟩); (try refine ⟨rfl, ?_⟩)
  first | (intro acts; rw [hret _ acts rfl rfl rfl]) | rw [hret _ _ rfl rfl rfl]
  exact Steps.refl _
/-- what holds at the law's entry: the machine, the code, the tables' words (any of lw_tbl by 'hts w (by decide +kernel)'), the script of L ints xs at the cell b, what the Statement gives of the start (any of its parts by flat_of_before) -/
def lw_At (p : Program) (s : State) (m : MethodId) (meth : Method) (c : Code) (b L : Nat) (xs : Nat → Int32) : Prop :=
  p.tables.exec = Jvm.exec ∧ c.code = code ∧ meth.sig.returnType = ret ∧ c.maxLocals = 4 ∧ s.vm.findClass R_law = some m.cls ∧ (∀ w ∈ lw_tbl, w.before #[Value.ref b] s = true) ∧ va_X b L xs s s.heap ∧ b < s.heap.size ∧ meth.locks = false ∧ (Jvm.Cond.and given_1 narrow_1).before #[Value.ref b] s = true
theorem lkL_13 : Cond.methodLink R_law 13 yX6_place ∈ lw_tbl := lw_tab (i := 287) (by decide +kernel)
theorem my_X6_place : mjY yX6_place cX6_place 4 (some .int) 3 := ⟨gw_tab (i := 290) (by decide +kernel) rfl, gw_tab (i := 1) (by decide +kernel) rfl, ⟨by decide, by decide⟩, by decide +kernel, by decide⟩
theorem mv_X6_place : mjYV yX6_place := ⟨gw_tab (i := 288) (by decide +kernel) rfl, gw_tab (i := 289) (by decide +kernel) rfl⟩
theorem lkL_17 : Cond.methodLink R_law 17 yX7_place ∈ lw_tbl := lw_tab (i := 1065) (by decide +kernel)
theorem my_X7_place : mjY yX7_place cX7_place 5 (some .int) 3 := ⟨gw_tab (i := 1068) (by decide +kernel) rfl, gw_tab (i := 8) (by decide +kernel) rfl, ⟨by decide, by decide⟩, by decide +kernel, by decide⟩
theorem mv_X7_place : mjYV yX7_place := ⟨gw_tab (i := 1066) (by decide +kernel) rfl, gw_tab (i := 1067) (by decide +kernel) rfl⟩
theorem lkL_18 : Cond.methodLink R_law 18 yX6_of ∈ lw_tbl := lw_tab (i := 295) (by decide +kernel)
theorem my_X6_of : mjY yX6_of cX6_of 3 (some .int) 2 := ⟨gw_tab (i := 298) (by decide +kernel) rfl, gw_tab (i := 1) (by decide +kernel) rfl, ⟨by decide, by decide⟩, by decide +kernel, by decide⟩
theorem mv_X6_of : mjYV yX6_of := ⟨gw_tab (i := 296) (by decide +kernel) rfl, gw_tab (i := 297) (by decide +kernel) rfl⟩
theorem lkL_22 : Cond.methodLink R_law 22 yX7_of ∈ lw_tbl := lw_tab (i := 1185) (by decide +kernel)
theorem my_X7_of : mjY yX7_of cX7_of 3 (some .int) 2 := ⟨gw_tab (i := 1188) (by decide +kernel) rfl, gw_tab (i := 8) (by decide +kernel) rfl, ⟨by decide, by decide⟩, by decide +kernel, by decide⟩
theorem mv_X7_of : mjYV yX7_of := ⟨gw_tab (i := 1186) (by decide +kernel) rfl, gw_tab (i := 1187) (by decide +kernel) rfl⟩
theorem lkL_23 : Cond.methodLink R_law 23 yX6_road ∈ lw_tbl := lw_tab (i := 401) (by decide +kernel)
theorem my_X6_road : mjY yX6_road cX6_road 5 (some .int) 3 := ⟨gw_tab (i := 404) (by decide +kernel) rfl, gw_tab (i := 1) (by decide +kernel) rfl, ⟨by decide, by decide⟩, by decide +kernel, by decide⟩
theorem mv_X6_road : mjYV yX6_road := ⟨gw_tab (i := 402) (by decide +kernel) rfl, gw_tab (i := 403) (by decide +kernel) rfl⟩
theorem lkL_26 : Cond.methodLink R_law 26 yX7_road ∈ lw_tbl := lw_tab (i := 1073) (by decide +kernel)
theorem my_X7_road : mjY yX7_road cX7_road 5 (some .int) 3 := ⟨gw_tab (i := 1076) (by decide +kernel) rfl, gw_tab (i := 8) (by decide +kernel) rfl, ⟨by decide, by decide⟩, by decide +kernel, by decide⟩
theorem mv_X7_road : mjYV yX7_road := ⟨gw_tab (i := 1074) (by decide +kernel) rfl, gw_tab (i := 1075) (by decide +kernel) rfl⟩
theorem lkL_27 : Cond.methodLink R_law 27 yX6_far ∈ lw_tbl := lw_tab (i := 410) (by decide +kernel)
theorem my_X6_far : mjY yX6_far cX6_far 3 (some .int) 2 := ⟨gw_tab (i := 413) (by decide +kernel) rfl, gw_tab (i := 1) (by decide +kernel) rfl, ⟨by decide, by decide⟩, by decide +kernel, by decide⟩
theorem mv_X6_far : mjYV yX6_far := ⟨gw_tab (i := 411) (by decide +kernel) rfl, gw_tab (i := 412) (by decide +kernel) rfl⟩
theorem lkL_30 : Cond.methodLink R_law 30 yX7_far ∈ lw_tbl := lw_tab (i := 1213) (by decide +kernel)
theorem my_X7_far : mjY yX7_far cX7_far 3 (some .int) 2 := ⟨gw_tab (i := 1216) (by decide +kernel) rfl, gw_tab (i := 8) (by decide +kernel) rfl, ⟨by decide, by decide⟩, by decide +kernel, by decide⟩
theorem mv_X7_far : mjYV yX7_far := ⟨gw_tab (i := 1214) (by decide +kernel) rfl, gw_tab (i := 1215) (by decide +kernel) rfl⟩
theorem lkL_31 : Cond.methodLink R_law 31 yX6_name ∈ lw_tbl := lw_tab (i := 414) (by decide +kernel)
theorem my_X6_name : mjY yX6_name cX6_name 3 (some .int) 2 := ⟨gw_tab (i := 417) (by decide +kernel) rfl, gw_tab (i := 1) (by decide +kernel) rfl, ⟨by decide, by decide⟩, by decide +kernel, by decide⟩
theorem mv_X6_name : mjYV yX6_name := ⟨gw_tab (i := 415) (by decide +kernel) rfl, gw_tab (i := 416) (by decide +kernel) rfl⟩
theorem lkL_34 : Cond.methodLink R_law 34 yX7_name ∈ lw_tbl := lw_tab (i := 1085) (by decide +kernel)
theorem my_X7_name : mjY yX7_name cX7_name 3 (some .int) 2 := ⟨gw_tab (i := 1088) (by decide +kernel) rfl, gw_tab (i := 8) (by decide +kernel) rfl, ⟨by decide, by decide⟩, by decide +kernel, by decide⟩
theorem mv_X7_name : mjYV yX7_name := ⟨gw_tab (i := 1086) (by decide +kernel) rfl, gw_tab (i := 1087) (by decide +kernel) rfl⟩
theorem lkL_35 : Cond.methodLink R_law 35 yX6_strike ∈ lw_tbl := lw_tab (i := 428) (by decide +kernel)
theorem my_X6_strike : mjY yX6_strike cX6_strike 3 (some .int) 2 := ⟨gw_tab (i := 431) (by decide +kernel) rfl, gw_tab (i := 1) (by decide +kernel) rfl, ⟨by decide, by decide⟩, by decide +kernel, by decide⟩
theorem mv_X6_strike : mjYV yX6_strike := ⟨gw_tab (i := 429) (by decide +kernel) rfl, gw_tab (i := 430) (by decide +kernel) rfl⟩
theorem lkL_38 : Cond.methodLink R_law 38 yX7_strike ∈ lw_tbl := lw_tab (i := 1113) (by decide +kernel)
theorem my_X7_strike : mjY yX7_strike cX7_strike 3 (some .int) 2 := ⟨gw_tab (i := 1116) (by decide +kernel) rfl, gw_tab (i := 8) (by decide +kernel) rfl, ⟨by decide, by decide⟩, by decide +kernel, by decide⟩
theorem mv_X7_strike : mjYV yX7_strike := ⟨gw_tab (i := 1114) (by decide +kernel) rfl, gw_tab (i := 1115) (by decide +kernel) rfl⟩
theorem lkL_39 : Cond.methodLink R_law 39 yX6_traveller ∈ lw_tbl := lw_tab (i := 432) (by decide +kernel)
theorem my_X6_traveller : mjY yX6_traveller cX6_traveller 4 (some .int) 3 := ⟨gw_tab (i := 435) (by decide +kernel) rfl, gw_tab (i := 1) (by decide +kernel) rfl, ⟨by decide, by decide⟩, by decide +kernel, by decide⟩
theorem mv_X6_traveller : mjYV yX6_traveller := ⟨gw_tab (i := 433) (by decide +kernel) rfl, gw_tab (i := 434) (by decide +kernel) rfl⟩
theorem lkL_42 : Cond.methodLink R_law 42 yX7_traveller ∈ lw_tbl := lw_tab (i := 1117) (by decide +kernel)
theorem my_X7_traveller : mjY yX7_traveller cX7_traveller 4 (some .int) 3 := ⟨gw_tab (i := 1120) (by decide +kernel) rfl, gw_tab (i := 8) (by decide +kernel) rfl, ⟨by decide, by decide⟩, by decide +kernel, by decide⟩
theorem mv_X7_traveller : mjYV yX7_traveller := ⟨gw_tab (i := 1118) (by decide +kernel) rfl, gw_tab (i := 1119) (by decide +kernel) rfl⟩
theorem lkL_43 : Cond.methodLink R_law 43 yX6_feed ∈ lw_tbl := lw_tab (i := 440) (by decide +kernel)
theorem my_X6_feed : mjY yX6_feed cX6_feed 2 (some .int) 1 := ⟨gw_tab (i := 443) (by decide +kernel) rfl, gw_tab (i := 1) (by decide +kernel) rfl, ⟨by decide, by decide⟩, by decide +kernel, by decide⟩
theorem mv_X6_feed : mjYV yX6_feed := ⟨gw_tab (i := 441) (by decide +kernel) rfl, gw_tab (i := 442) (by decide +kernel) rfl⟩
theorem lkL_47 : Cond.methodLink R_law 47 yX7_feed ∈ lw_tbl := lw_tab (i := 1121) (by decide +kernel)
theorem my_X7_feed : mjY yX7_feed cX7_feed 2 (some .int) 1 := ⟨gw_tab (i := 1124) (by decide +kernel) rfl, gw_tab (i := 8) (by decide +kernel) rfl, ⟨by decide, by decide⟩, by decide +kernel, by decide⟩
theorem mv_X7_feed : mjYV yX7_feed := ⟨gw_tab (i := 1122) (by decide +kernel) rfl, gw_tab (i := 1123) (by decide +kernel) rfl⟩
theorem lkL_48 : Cond.methodLink R_law 48 yX6_land ∈ lw_tbl := lw_tab (i := 448) (by decide +kernel)
theorem my_X6_land : mjY yX6_land cX6_land 2 (some .int) 0 := ⟨gw_tab (i := 451) (by decide +kernel) rfl, gw_tab (i := 1) (by decide +kernel) rfl, ⟨by decide, by decide⟩, by decide +kernel, by decide⟩
theorem mv_X6_land : mjYV yX6_land := ⟨gw_tab (i := 449) (by decide +kernel) rfl, gw_tab (i := 450) (by decide +kernel) rfl⟩
theorem lkL_52 : Cond.methodLink R_law 52 yX7_land ∈ lw_tbl := lw_tab (i := 1125) (by decide +kernel)
theorem my_X7_land : mjY yX7_land cX7_land 2 (some .int) 0 := ⟨gw_tab (i := 1128) (by decide +kernel) rfl, gw_tab (i := 8) (by decide +kernel) rfl, ⟨by decide, by decide⟩, by decide +kernel, by decide⟩
theorem mv_X7_land : mjYV yX7_land := ⟨gw_tab (i := 1126) (by decide +kernel) rfl, gw_tab (i := 1127) (by decide +kernel) rfl⟩
theorem lkL_53 : Cond.methodLink R_law 53 yX6_told ∈ lw_tbl := lw_tab (i := 622) (by decide +kernel)
theorem my_X6_told : mjY yX6_told cX6_told 2 (some .int) 1 := ⟨gw_tab (i := 625) (by decide +kernel) rfl, gw_tab (i := 1) (by decide +kernel) rfl, ⟨by decide, by decide⟩, by decide +kernel, by decide⟩
theorem mv_X6_told : mjYV yX6_told := ⟨gw_tab (i := 623) (by decide +kernel) rfl, gw_tab (i := 624) (by decide +kernel) rfl⟩
theorem lkL_56 : Cond.methodLink R_law 56 yX7_told ∈ lw_tbl := lw_tab (i := 1205) (by decide +kernel)
theorem my_X7_told : mjY yX7_told cX7_told 2 (some .int) 1 := ⟨gw_tab (i := 1208) (by decide +kernel) rfl, gw_tab (i := 8) (by decide +kernel) rfl, ⟨by decide, by decide⟩, by decide +kernel, by decide⟩
theorem mv_X7_told : mjYV yX7_told := ⟨gw_tab (i := 1206) (by decide +kernel) rfl, gw_tab (i := 1207) (by decide +kernel) rfl⟩
theorem lkL_57 : Cond.methodLink R_law 57 yX6_way ∈ lw_tbl := lw_tab (i := 630) (by decide +kernel)
theorem my_X6_way : mjY yX6_way cX6_way 3 (some .int) 2 := ⟨gw_tab (i := 633) (by decide +kernel) rfl, gw_tab (i := 1) (by decide +kernel) rfl, ⟨by decide, by decide⟩, by decide +kernel, by decide⟩
theorem mv_X6_way : mjYV yX6_way := ⟨gw_tab (i := 631) (by decide +kernel) rfl, gw_tab (i := 632) (by decide +kernel) rfl⟩
theorem lkL_60 : Cond.methodLink R_law 60 yX7_way ∈ lw_tbl := lw_tab (i := 1225) (by decide +kernel)
theorem my_X7_way : mjY yX7_way cX7_way 3 (some .int) 2 := ⟨gw_tab (i := 1228) (by decide +kernel) rfl, gw_tab (i := 8) (by decide +kernel) rfl, ⟨by decide, by decide⟩, by decide +kernel, by decide⟩
theorem mv_X7_way : mjYV yX7_way := ⟨gw_tab (i := 1226) (by decide +kernel) rfl, gw_tab (i := 1227) (by decide +kernel) rfl⟩
theorem lkL_61 : Cond.methodLink R_law 61 yX6_toward ∈ lw_tbl := lw_tab (i := 635) (by decide +kernel)
theorem my_X6_toward : mjY yX6_toward cX6_toward 3 (some .int) 2 := ⟨gw_tab (i := 638) (by decide +kernel) rfl, gw_tab (i := 1) (by decide +kernel) rfl, ⟨by decide, by decide⟩, by decide +kernel, by decide⟩
theorem mv_X6_toward : mjYV yX6_toward := ⟨gw_tab (i := 636) (by decide +kernel) rfl, gw_tab (i := 637) (by decide +kernel) rfl⟩
theorem lkL_64 : Cond.methodLink R_law 64 yX7_toward ∈ lw_tbl := lw_tab (i := 1229) (by decide +kernel)
theorem my_X7_toward : mjY yX7_toward cX7_toward 3 (some .int) 2 := ⟨gw_tab (i := 1232) (by decide +kernel) rfl, gw_tab (i := 8) (by decide +kernel) rfl, ⟨by decide, by decide⟩, by decide +kernel, by decide⟩
theorem mv_X7_toward : mjYV yX7_toward := ⟨gw_tab (i := 1230) (by decide +kernel) rfl, gw_tab (i := 1231) (by decide +kernel) rfl⟩
theorem lkL_65 : Cond.methodLink R_law 65 yX6_next ∈ lw_tbl := lw_tab (i := 639) (by decide +kernel)
theorem my_X6_next : mjY yX6_next cX6_next 3 (some .int) 2 := ⟨gw_tab (i := 642) (by decide +kernel) rfl, gw_tab (i := 1) (by decide +kernel) rfl, ⟨by decide, by decide⟩, by decide +kernel, by decide⟩
theorem mv_X6_next : mjYV yX6_next := ⟨gw_tab (i := 640) (by decide +kernel) rfl, gw_tab (i := 641) (by decide +kernel) rfl⟩
theorem lkL_68 : Cond.methodLink R_law 68 yX7_next ∈ lw_tbl := lw_tab (i := 1237) (by decide +kernel)
theorem my_X7_next : mjY yX7_next cX7_next 3 (some .int) 2 := ⟨gw_tab (i := 1240) (by decide +kernel) rfl, gw_tab (i := 8) (by decide +kernel) rfl, ⟨by decide, by decide⟩, by decide +kernel, by decide⟩
theorem mv_X7_next : mjYV yX7_next := ⟨gw_tab (i := 1238) (by decide +kernel) rfl, gw_tab (i := 1239) (by decide +kernel) rfl⟩
theorem lkL_69 : Cond.methodLink R_law 69 yX6_gone ∈ lw_tbl := lw_tab (i := 643) (by decide +kernel)
theorem my_X6_gone : mjY yX6_gone cX6_gone 4 (some .int) 3 := ⟨gw_tab (i := 646) (by decide +kernel) rfl, gw_tab (i := 1) (by decide +kernel) rfl, ⟨by decide, by decide⟩, by decide +kernel, by decide⟩
theorem mv_X6_gone : mjYV yX6_gone := ⟨gw_tab (i := 644) (by decide +kernel) rfl, gw_tab (i := 645) (by decide +kernel) rfl⟩
theorem lkL_72 : Cond.methodLink R_law 72 yX7_gone ∈ lw_tbl := lw_tab (i := 1269) (by decide +kernel)
theorem my_X7_gone : mjY yX7_gone cX7_gone 4 (some .int) 3 := ⟨gw_tab (i := 1272) (by decide +kernel) rfl, gw_tab (i := 8) (by decide +kernel) rfl, ⟨by decide, by decide⟩, by decide +kernel, by decide⟩
theorem mv_X7_gone : mjYV yX7_gone := ⟨gw_tab (i := 1270) (by decide +kernel) rfl, gw_tab (i := 1271) (by decide +kernel) rfl⟩
theorem lkL_73 : Cond.methodLink R_law 73 yX6_lost ∈ lw_tbl := lw_tab (i := 654) (by decide +kernel)
theorem my_X6_lost : mjY yX6_lost cX6_lost 2 (some .int) 1 := ⟨gw_tab (i := 657) (by decide +kernel) rfl, gw_tab (i := 1) (by decide +kernel) rfl, ⟨by decide, by decide⟩, by decide +kernel, by decide⟩
theorem mv_X6_lost : mjYV yX6_lost := ⟨gw_tab (i := 655) (by decide +kernel) rfl, gw_tab (i := 656) (by decide +kernel) rfl⟩
theorem lkL_76 : Cond.methodLink R_law 76 yX7_lost ∈ lw_tbl := lw_tab (i := 1277) (by decide +kernel)
theorem my_X7_lost : mjY yX7_lost cX7_lost 2 (some .int) 1 := ⟨gw_tab (i := 1280) (by decide +kernel) rfl, gw_tab (i := 8) (by decide +kernel) rfl, ⟨by decide, by decide⟩, by decide +kernel, by decide⟩
theorem mv_X7_lost : mjYV yX7_lost := ⟨gw_tab (i := 1278) (by decide +kernel) rfl, gw_tab (i := 1279) (by decide +kernel) rfl⟩
theorem lkL_77 : Cond.methodLink R_law 77 yX6_longest ∈ lw_tbl := lw_tab (i := 667) (by decide +kernel)
theorem my_X6_longest : mjY yX6_longest cX6_longest 3 (some .int) 1 := ⟨gw_tab (i := 670) (by decide +kernel) rfl, gw_tab (i := 1) (by decide +kernel) rfl, ⟨by decide, by decide⟩, by decide +kernel, by decide⟩
theorem mv_X6_longest : mjYV yX6_longest := ⟨gw_tab (i := 668) (by decide +kernel) rfl, gw_tab (i := 669) (by decide +kernel) rfl⟩
theorem lkL_80 : Cond.methodLink R_law 80 yX7_longest ∈ lw_tbl := lw_tab (i := 1289) (by decide +kernel)
theorem my_X7_longest : mjY yX7_longest cX7_longest 6 (some .int) 1 := ⟨gw_tab (i := 1292) (by decide +kernel) rfl, gw_tab (i := 8) (by decide +kernel) rfl, ⟨by decide, by decide⟩, by decide +kernel, by decide⟩
theorem mv_X7_longest : mjYV yX7_longest := ⟨gw_tab (i := 1290) (by decide +kernel) rfl, gw_tab (i := 1291) (by decide +kernel) rfl⟩
theorem lkL_81 : Cond.methodLink R_law 81 yX6_put ∈ lw_tbl := lw_tab (i := 675) (by decide +kernel)
theorem my_X6_put : mjY yX6_put cX6_put 2 (some .int) 1 := ⟨gw_tab (i := 678) (by decide +kernel) rfl, gw_tab (i := 1) (by decide +kernel) rfl, ⟨by decide, by decide⟩, by decide +kernel, by decide⟩
theorem mv_X6_put : mjYV yX6_put := ⟨gw_tab (i := 676) (by decide +kernel) rfl, gw_tab (i := 677) (by decide +kernel) rfl⟩
theorem lkL_84 : Cond.methodLink R_law 84 yX7_put ∈ lw_tbl := lw_tab (i := 1293) (by decide +kernel)
theorem my_X7_put : mjY yX7_put cX7_put 7 (some .int) 1 := ⟨gw_tab (i := 1296) (by decide +kernel) rfl, gw_tab (i := 8) (by decide +kernel) rfl, ⟨by decide, by decide⟩, by decide +kernel, by decide⟩
theorem mv_X7_put : mjYV yX7_put := ⟨gw_tab (i := 1294) (by decide +kernel) rfl, gw_tab (i := 1295) (by decide +kernel) rfl⟩
theorem lkL_85 : Cond.methodLink R_law 85 yX6_worst ∈ lw_tbl := lw_tab (i := 687) (by decide +kernel)
theorem my_X6_worst : mjY yX6_worst cX6_worst 2 (some .int) 1 := ⟨gw_tab (i := 690) (by decide +kernel) rfl, gw_tab (i := 1) (by decide +kernel) rfl, ⟨by decide, by decide⟩, by decide +kernel, by decide⟩
theorem mv_X6_worst : mjYV yX6_worst := ⟨gw_tab (i := 688) (by decide +kernel) rfl, gw_tab (i := 689) (by decide +kernel) rfl⟩
theorem lkL_88 : Cond.methodLink R_law 88 yX7_worst ∈ lw_tbl := lw_tab (i := 1297) (by decide +kernel)
theorem my_X7_worst : mjY yX7_worst cX7_worst 7 (some .int) 1 := ⟨gw_tab (i := 1300) (by decide +kernel) rfl, gw_tab (i := 8) (by decide +kernel) rfl, ⟨by decide, by decide⟩, by decide +kernel, by decide⟩
theorem mv_X7_worst : mjYV yX7_worst := ⟨gw_tab (i := 1298) (by decide +kernel) rfl, gw_tab (i := 1299) (by decide +kernel) rfl⟩
theorem lkL_89 : Cond.methodLink R_law 89 yX6_turned ∈ lw_tbl := lw_tab (i := 691) (by decide +kernel)
theorem my_X6_turned : mjY yX6_turned cX6_turned 4 (some .int) 2 := ⟨gw_tab (i := 694) (by decide +kernel) rfl, gw_tab (i := 1) (by decide +kernel) rfl, ⟨by decide, by decide⟩, by decide +kernel, by decide⟩
theorem mv_X6_turned : mjYV yX6_turned := ⟨gw_tab (i := 692) (by decide +kernel) rfl, gw_tab (i := 693) (by decide +kernel) rfl⟩
theorem lkL_92 : Cond.methodLink R_law 92 yX7_turned ∈ lw_tbl := lw_tab (i := 1301) (by decide +kernel)
theorem my_X7_turned : mjY yX7_turned cX7_turned 4 (some .int) 2 := ⟨gw_tab (i := 1304) (by decide +kernel) rfl, gw_tab (i := 8) (by decide +kernel) rfl, ⟨by decide, by decide⟩, by decide +kernel, by decide⟩
theorem mv_X7_turned : mjYV yX7_turned := ⟨gw_tab (i := 1302) (by decide +kernel) rfl, gw_tab (i := 1303) (by decide +kernel) rfl⟩
theorem lkL_93 : Cond.methodLink R_law 93 yX6_chain ∈ lw_tbl := lw_tab (i := 707) (by decide +kernel)
theorem my_X6_chain : mjY yX6_chain cX6_chain 4 (some .int) 2 := ⟨gw_tab (i := 710) (by decide +kernel) rfl, gw_tab (i := 1) (by decide +kernel) rfl, ⟨by decide, by decide⟩, by decide +kernel, by decide⟩
theorem mv_X6_chain : mjYV yX6_chain := ⟨gw_tab (i := 708) (by decide +kernel) rfl, gw_tab (i := 709) (by decide +kernel) rfl⟩
theorem lkL_96 : Cond.methodLink R_law 96 yX7_chain ∈ lw_tbl := lw_tab (i := 1305) (by decide +kernel)
theorem my_X7_chain : mjY yX7_chain cX7_chain 3 (some .int) 2 := ⟨gw_tab (i := 1308) (by decide +kernel) rfl, gw_tab (i := 8) (by decide +kernel) rfl, ⟨by decide, by decide⟩, by decide +kernel, by decide⟩
theorem mv_X7_chain : mjYV yX7_chain := ⟨gw_tab (i := 1306) (by decide +kernel) rfl, gw_tab (i := 1307) (by decide +kernel) rfl⟩
theorem lkL_97 : Cond.methodLink R_law 97 yX6_allIn ∈ lw_tbl := lw_tab (i := 715) (by decide +kernel)
theorem my_X6_allIn : mjY yX6_allIn cX6_allIn 4 (some .int) 1 := ⟨gw_tab (i := 718) (by decide +kernel) rfl, gw_tab (i := 1) (by decide +kernel) rfl, ⟨by decide, by decide⟩, by decide +kernel, by decide⟩
theorem mv_X6_allIn : mjYV yX6_allIn := ⟨gw_tab (i := 716) (by decide +kernel) rfl, gw_tab (i := 717) (by decide +kernel) rfl⟩
theorem lkL_100 : Cond.methodLink R_law 100 yX7_allIn ∈ lw_tbl := lw_tab (i := 1313) (by decide +kernel)
theorem my_X7_allIn : mjY yX7_allIn cX7_allIn 4 (some .int) 1 := ⟨gw_tab (i := 1316) (by decide +kernel) rfl, gw_tab (i := 8) (by decide +kernel) rfl, ⟨by decide, by decide⟩, by decide +kernel, by decide⟩
theorem mv_X7_allIn : mjYV yX7_allIn := ⟨gw_tab (i := 1314) (by decide +kernel) rfl, gw_tab (i := 1315) (by decide +kernel) rfl⟩
theorem lkL_101 : Cond.methodLink R_law 101 yX6_capitals ∈ lw_tbl := lw_tab (i := 719) (by decide +kernel)
theorem my_X6_capitals : mjY yX6_capitals cX6_capitals 5 (some .int) 0 := ⟨gw_tab (i := 722) (by decide +kernel) rfl, gw_tab (i := 1) (by decide +kernel) rfl, ⟨by decide, by decide⟩, by decide +kernel, by decide⟩
theorem mv_X6_capitals : mjYV yX6_capitals := ⟨gw_tab (i := 720) (by decide +kernel) rfl, gw_tab (i := 721) (by decide +kernel) rfl⟩
theorem lkL_104 : Cond.methodLink R_law 104 yX7_capitals ∈ lw_tbl := lw_tab (i := 1317) (by decide +kernel)
theorem my_X7_capitals : mjY yX7_capitals cX7_capitals 4 (some .int) 0 := ⟨gw_tab (i := 1320) (by decide +kernel) rfl, gw_tab (i := 8) (by decide +kernel) rfl, ⟨by decide, by decide⟩, by decide +kernel, by decide⟩
theorem mv_X7_capitals : mjYV yX7_capitals := ⟨gw_tab (i := 1318) (by decide +kernel) rfl, gw_tab (i := 1319) (by decide +kernel) rfl⟩
theorem lkL_105 : Cond.methodLink R_law 105 yX6_newRoad ∈ lw_tbl := lw_tab (i := 723) (by decide +kernel)
theorem my_X6_newRoad : mjY yX6_newRoad cX6_newRoad 9 (some .int) 2 := ⟨gw_tab (i := 726) (by decide +kernel) rfl, gw_tab (i := 1) (by decide +kernel) rfl, ⟨by decide, by decide⟩, by decide +kernel, by decide⟩
theorem mv_X6_newRoad : mjYV yX6_newRoad := ⟨gw_tab (i := 724) (by decide +kernel) rfl, gw_tab (i := 725) (by decide +kernel) rfl⟩
theorem lkL_108 : Cond.methodLink R_law 108 yX7_newRoad ∈ lw_tbl := lw_tab (i := 1321) (by decide +kernel)
theorem my_X7_newRoad : mjY yX7_newRoad cX7_newRoad 9 (some .int) 2 := ⟨gw_tab (i := 1324) (by decide +kernel) rfl, gw_tab (i := 8) (by decide +kernel) rfl, ⟨by decide, by decide⟩, by decide +kernel, by decide⟩
theorem mv_X7_newRoad : mjYV yX7_newRoad := ⟨gw_tab (i := 1322) (by decide +kernel) rfl, gw_tab (i := 1323) (by decide +kernel) rfl⟩
theorem lkL_109 : Cond.methodLink R_law 109 yX6_gets ∈ lw_tbl := lw_tab (i := 735) (by decide +kernel)
theorem my_X6_gets : mjY yX6_gets cX6_gets 5 (some .int) 1 := ⟨gw_tab (i := 738) (by decide +kernel) rfl, gw_tab (i := 1) (by decide +kernel) rfl, ⟨by decide, by decide⟩, by decide +kernel, by decide⟩
theorem mv_X6_gets : mjYV yX6_gets := ⟨gw_tab (i := 736) (by decide +kernel) rfl, gw_tab (i := 737) (by decide +kernel) rfl⟩
theorem lkL_112 : Cond.methodLink R_law 112 yX7_gets ∈ lw_tbl := lw_tab (i := 1329) (by decide +kernel)
theorem my_X7_gets : mjY yX7_gets cX7_gets 4 (some .int) 1 := ⟨gw_tab (i := 1332) (by decide +kernel) rfl, gw_tab (i := 8) (by decide +kernel) rfl, ⟨by decide, by decide⟩, by decide +kernel, by decide⟩
theorem mv_X7_gets : mjYV yX7_gets := ⟨gw_tab (i := 1330) (by decide +kernel) rfl, gw_tab (i := 1331) (by decide +kernel) rfl⟩
theorem lkL_113 : Cond.methodLink R_law 113 yX6_odds ∈ lw_tbl := lw_tab (i := 739) (by decide +kernel)
theorem my_X6_odds : mjY yX6_odds cX6_odds 10 (some .long) 4 := ⟨gw_tab (i := 742) (by decide +kernel) rfl, gw_tab (i := 1) (by decide +kernel) rfl, ⟨by decide, by decide⟩, by decide +kernel, by decide⟩
theorem mv_X6_odds : mjYV yX6_odds := ⟨gw_tab (i := 740) (by decide +kernel) rfl, gw_tab (i := 741) (by decide +kernel) rfl⟩
theorem lkL_117 : Cond.methodLink R_law 117 yX7_odds ∈ lw_tbl := lw_tab (i := 1333) (by decide +kernel)
theorem my_X7_odds : mjY yX7_odds cX7_odds 8 (some .long) 4 := ⟨gw_tab (i := 1336) (by decide +kernel) rfl, gw_tab (i := 8) (by decide +kernel) rfl, ⟨by decide, by decide⟩, by decide +kernel, by decide⟩
theorem mv_X7_odds : mjYV yX7_odds := ⟨gw_tab (i := 1334) (by decide +kernel) rfl, gw_tab (i := 1335) (by decide +kernel) rfl⟩
theorem lkL_118 : Cond.methodLink R_law 118 yX6_mean ∈ lw_tbl := lw_tab (i := 764) (by decide +kernel)
theorem my_X6_mean : mjY yX6_mean cX6_mean 8 (some .long) 1 := ⟨gw_tab (i := 767) (by decide +kernel) rfl, gw_tab (i := 1) (by decide +kernel) rfl, ⟨by decide, by decide⟩, by decide +kernel, by decide⟩
theorem mv_X6_mean : mjYV yX6_mean := ⟨gw_tab (i := 765) (by decide +kernel) rfl, gw_tab (i := 766) (by decide +kernel) rfl⟩
theorem lkL_122 : Cond.methodLink R_law 122 yX7_mean ∈ lw_tbl := lw_tab (i := 1351) (by decide +kernel)
theorem my_X7_mean : mjY yX7_mean cX7_mean 6 (some .long) 1 := ⟨gw_tab (i := 1354) (by decide +kernel) rfl, gw_tab (i := 8) (by decide +kernel) rfl, ⟨by decide, by decide⟩, by decide +kernel, by decide⟩
theorem mv_X7_mean : mjYV yX7_mean := ⟨gw_tab (i := 1352) (by decide +kernel) rfl, gw_tab (i := 1353) (by decide +kernel) rfl⟩
theorem lkL_123 : Cond.methodLink R_law 123 yX6_book ∈ lw_tbl := lw_tab (i := 768) (by decide +kernel)
theorem my_X6_book : mjY yX6_book cX6_book 2 (some .int) 1 := ⟨gw_tab (i := 771) (by decide +kernel) rfl, gw_tab (i := 1) (by decide +kernel) rfl, ⟨by decide, by decide⟩, by decide +kernel, by decide⟩
theorem mv_X6_book : mjYV yX6_book := ⟨gw_tab (i := 769) (by decide +kernel) rfl, gw_tab (i := 770) (by decide +kernel) rfl⟩
theorem lkL_126 : Cond.methodLink R_law 126 yX7_book ∈ lw_tbl := lw_tab (i := 1355) (by decide +kernel)
theorem my_X7_book : mjY yX7_book cX7_book 2 (some .int) 1 := ⟨gw_tab (i := 1358) (by decide +kernel) rfl, gw_tab (i := 8) (by decide +kernel) rfl, ⟨by decide, by decide⟩, by decide +kernel, by decide⟩
theorem mv_X7_book : mjYV yX7_book := ⟨gw_tab (i := 1356) (by decide +kernel) rfl, gw_tab (i := 1357) (by decide +kernel) rfl⟩
theorem lkL_127 : Cond.methodLink R_law 127 yX6_looked ∈ lw_tbl := lw_tab (i := 772) (by decide +kernel)
theorem my_X6_looked : mjY yX6_looked cX6_looked 3 (some .int) 1 := ⟨gw_tab (i := 775) (by decide +kernel) rfl, gw_tab (i := 1) (by decide +kernel) rfl, ⟨by decide, by decide⟩, by decide +kernel, by decide⟩
theorem mv_X6_looked : mjYV yX6_looked := ⟨gw_tab (i := 773) (by decide +kernel) rfl, gw_tab (i := 774) (by decide +kernel) rfl⟩
theorem lkL_130 : Cond.methodLink R_law 130 yX7_looked ∈ lw_tbl := lw_tab (i := 1359) (by decide +kernel)
theorem my_X7_looked : mjY yX7_looked cX7_looked 3 (some .int) 1 := ⟨gw_tab (i := 1362) (by decide +kernel) rfl, gw_tab (i := 8) (by decide +kernel) rfl, ⟨by decide, by decide⟩, by decide +kernel, by decide⟩
theorem mv_X7_looked : mjYV yX7_looked := ⟨gw_tab (i := 1360) (by decide +kernel) rfl, gw_tab (i := 1361) (by decide +kernel) rfl⟩
theorem lkL_131 : Cond.methodLink R_law 131 yX6_judge ∈ lw_tbl := lw_tab (i := 776) (by decide +kernel)
theorem my_X6_judge : mjY yX6_judge cX6_judge 5 (some .int) 2 := ⟨gw_tab (i := 779) (by decide +kernel) rfl, gw_tab (i := 1) (by decide +kernel) rfl, ⟨by decide, by decide⟩, by decide +kernel, by decide⟩
theorem mv_X6_judge : mjYV yX6_judge := ⟨gw_tab (i := 777) (by decide +kernel) rfl, gw_tab (i := 778) (by decide +kernel) rfl⟩
theorem lkL_134 : Cond.methodLink R_law 134 yX7_judge ∈ lw_tbl := lw_tab (i := 1363) (by decide +kernel)
theorem my_X7_judge : mjY yX7_judge cX7_judge 4 (some .int) 2 := ⟨gw_tab (i := 1366) (by decide +kernel) rfl, gw_tab (i := 8) (by decide +kernel) rfl, ⟨by decide, by decide⟩, by decide +kernel, by decide⟩
theorem mv_X7_judge : mjYV yX7_judge := ⟨gw_tab (i := 1364) (by decide +kernel) rfl, gw_tab (i := 1365) (by decide +kernel) rfl⟩
theorem lkL_135 : Cond.methodLink R_law 135 yX6_image ∈ lw_tbl := lw_tab (i := 783) (by decide +kernel)
theorem my_X6_image : mjY yX6_image cX6_image 1 (some .int) 0 := ⟨gw_tab (i := 786) (by decide +kernel) rfl, gw_tab (i := 1) (by decide +kernel) rfl, ⟨by decide, by decide⟩, by decide +kernel, by decide⟩
theorem mv_X6_image : mjYV yX6_image := ⟨gw_tab (i := 784) (by decide +kernel) rfl, gw_tab (i := 785) (by decide +kernel) rfl⟩
theorem lkL_138 : Cond.methodLink R_law 138 yX7_image ∈ lw_tbl := lw_tab (i := 1371) (by decide +kernel)
theorem my_X7_image : mjY yX7_image cX7_image 2 (some .int) 0 := ⟨gw_tab (i := 1374) (by decide +kernel) rfl, gw_tab (i := 8) (by decide +kernel) rfl, ⟨by decide, by decide⟩, by decide +kernel, by decide⟩
theorem mv_X7_image : mjYV yX7_image := ⟨gw_tab (i := 1372) (by decide +kernel) rfl, gw_tab (i := 1373) (by decide +kernel) rfl⟩
theorem lkL_139 : Cond.methodLink R_law 139 yX6_undo ∈ lw_tbl := lw_tab (i := 792) (by decide +kernel)
theorem my_X6_undo : mjY yX6_undo cX6_undo 1 (some .int) 0 := ⟨gw_tab (i := 795) (by decide +kernel) rfl, gw_tab (i := 1) (by decide +kernel) rfl, ⟨by decide, by decide⟩, by decide +kernel, by decide⟩
theorem mv_X6_undo : mjYV yX6_undo := ⟨gw_tab (i := 793) (by decide +kernel) rfl, gw_tab (i := 794) (by decide +kernel) rfl⟩
theorem lkL_142 : Cond.methodLink R_law 142 yX7_undo ∈ lw_tbl := lw_tab (i := 1375) (by decide +kernel)
theorem my_X7_undo : mjY yX7_undo cX7_undo 2 (some .int) 0 := ⟨gw_tab (i := 1378) (by decide +kernel) rfl, gw_tab (i := 8) (by decide +kernel) rfl, ⟨by decide, by decide⟩, by decide +kernel, by decide⟩
theorem mv_X7_undo : mjYV yX7_undo := ⟨gw_tab (i := 1376) (by decide +kernel) rfl, gw_tab (i := 1377) (by decide +kernel) rfl⟩
theorem lkL_143 : Cond.methodLink R_law 143 yX6_act ∈ lw_tbl := lw_tab (i := 796) (by decide +kernel)
theorem my_X6_act : mjY yX6_act cX6_act 4 (some .int) 3 := ⟨gw_tab (i := 799) (by decide +kernel) rfl, gw_tab (i := 1) (by decide +kernel) rfl, ⟨by decide, by decide⟩, by decide +kernel, by decide⟩
theorem mv_X6_act : mjYV yX6_act := ⟨gw_tab (i := 797) (by decide +kernel) rfl, gw_tab (i := 798) (by decide +kernel) rfl⟩
theorem lkL_146 : Cond.methodLink R_law 146 yX7_act ∈ lw_tbl := lw_tab (i := 1379) (by decide +kernel)
theorem my_X7_act : mjY yX7_act cX7_act 4 (some .int) 3 := ⟨gw_tab (i := 1382) (by decide +kernel) rfl, gw_tab (i := 8) (by decide +kernel) rfl, ⟨by decide, by decide⟩, by decide +kernel, by decide⟩
theorem mv_X7_act : mjYV yX7_act := ⟨gw_tab (i := 1380) (by decide +kernel) rfl, gw_tab (i := 1381) (by decide +kernel) rfl⟩
theorem lkL_147 : Cond.methodLink R_law 147 yX6_trace ∈ lw_tbl := lw_tab (i := 827) (by decide +kernel)
theorem my_X6_trace : mjY yX6_trace cX6_trace 2 (some .int) 1 := ⟨gw_tab (i := 830) (by decide +kernel) rfl, gw_tab (i := 1) (by decide +kernel) rfl, ⟨by decide, by decide⟩, by decide +kernel, by decide⟩
theorem mv_X6_trace : mjYV yX6_trace := ⟨gw_tab (i := 828) (by decide +kernel) rfl, gw_tab (i := 829) (by decide +kernel) rfl⟩
theorem lkL_150 : Cond.methodLink R_law 150 yX7_trace ∈ lw_tbl := lw_tab (i := 1415) (by decide +kernel)
theorem my_X7_trace : mjY yX7_trace cX7_trace 2 (some .int) 1 := ⟨gw_tab (i := 1418) (by decide +kernel) rfl, gw_tab (i := 8) (by decide +kernel) rfl, ⟨by decide, by decide⟩, by decide +kernel, by decide⟩
theorem mv_X7_trace : mjYV yX7_trace := ⟨gw_tab (i := 1416) (by decide +kernel) rfl, gw_tab (i := 1417) (by decide +kernel) rfl⟩
theorem lkL_151 : Cond.methodLink R_law 151 yX6_taken ∈ lw_tbl := lw_tab (i := 831) (by decide +kernel)
theorem my_X6_taken : mjY yX6_taken cX6_taken 3 (some .int) 2 := ⟨gw_tab (i := 834) (by decide +kernel) rfl, gw_tab (i := 1) (by decide +kernel) rfl, ⟨by decide, by decide⟩, by decide +kernel, by decide⟩
theorem mv_X6_taken : mjYV yX6_taken := ⟨gw_tab (i := 832) (by decide +kernel) rfl, gw_tab (i := 833) (by decide +kernel) rfl⟩
theorem lkL_154 : Cond.methodLink R_law 154 yX7_taken ∈ lw_tbl := lw_tab (i := 1419) (by decide +kernel)
theorem my_X7_taken : mjY yX7_taken cX7_taken 4 (some .int) 2 := ⟨gw_tab (i := 1422) (by decide +kernel) rfl, gw_tab (i := 8) (by decide +kernel) rfl, ⟨by decide, by decide⟩, by decide +kernel, by decide⟩
theorem mv_X7_taken : mjYV yX7_taken := ⟨gw_tab (i := 1420) (by decide +kernel) rfl, gw_tab (i := 1421) (by decide +kernel) rfl⟩
theorem lkL_155 : Cond.methodLink R_law 155 yX6_count ∈ lw_tbl := lw_tab (i := 840) (by decide +kernel)
theorem my_X6_count : mjY yX6_count cX6_count 2 (some .int) 1 := ⟨gw_tab (i := 843) (by decide +kernel) rfl, gw_tab (i := 1) (by decide +kernel) rfl, ⟨by decide, by decide⟩, by decide +kernel, by decide⟩
theorem mv_X6_count : mjYV yX6_count := ⟨gw_tab (i := 841) (by decide +kernel) rfl, gw_tab (i := 842) (by decide +kernel) rfl⟩
theorem lkL_158 : Cond.methodLink R_law 158 yX7_count ∈ lw_tbl := lw_tab (i := 1423) (by decide +kernel)
theorem my_X7_count : mjY yX7_count cX7_count 2 (some .int) 1 := ⟨gw_tab (i := 1426) (by decide +kernel) rfl, gw_tab (i := 8) (by decide +kernel) rfl, ⟨by decide, by decide⟩, by decide +kernel, by decide⟩
theorem mv_X7_count : mjYV yX7_count := ⟨gw_tab (i := 1424) (by decide +kernel) rfl, gw_tab (i := 1425) (by decide +kernel) rfl⟩
theorem lkL_159 : Cond.methodLink R_law 159 yX6_tape ∈ lw_tbl := lw_tab (i := 844) (by decide +kernel)
theorem my_X6_tape : mjY yX6_tape cX6_tape 4 (some .int) 3 := ⟨gw_tab (i := 847) (by decide +kernel) rfl, gw_tab (i := 1) (by decide +kernel) rfl, ⟨by decide, by decide⟩, by decide +kernel, by decide⟩
theorem mv_X6_tape : mjYV yX6_tape := ⟨gw_tab (i := 845) (by decide +kernel) rfl, gw_tab (i := 846) (by decide +kernel) rfl⟩
theorem lkL_162 : Cond.methodLink R_law 162 yX7_tape ∈ lw_tbl := lw_tab (i := 1427) (by decide +kernel)
theorem my_X7_tape : mjY yX7_tape cX7_tape 5 (some .int) 3 := ⟨gw_tab (i := 1430) (by decide +kernel) rfl, gw_tab (i := 8) (by decide +kernel) rfl, ⟨by decide, by decide⟩, by decide +kernel, by decide⟩
theorem mv_X7_tape : mjYV yX7_tape := ⟨gw_tab (i := 1428) (by decide +kernel) rfl, gw_tab (i := 1429) (by decide +kernel) rfl⟩
theorem lkL_165 : Cond.methodLink R_law 165 yX6_item ∈ lw_tbl := lw_tab (i := 853) (by decide +kernel)
theorem my_X6_item : mjY yX6_item cX6_item 6 (some .int) 3 := ⟨gw_tab (i := 856) (by decide +kernel) rfl, gw_tab (i := 1) (by decide +kernel) rfl, ⟨by decide, by decide⟩, by decide +kernel, by decide⟩
theorem mv_X6_item : mjYV yX6_item := ⟨gw_tab (i := 854) (by decide +kernel) rfl, gw_tab (i := 855) (by decide +kernel) rfl⟩
theorem lkL_169 : Cond.methodLink R_law 169 yX7_item ∈ lw_tbl := lw_tab (i := 1431) (by decide +kernel)
theorem my_X7_item : mjY yX7_item cX7_item 5 (some .int) 3 := ⟨gw_tab (i := 1434) (by decide +kernel) rfl, gw_tab (i := 8) (by decide +kernel) rfl, ⟨by decide, by decide⟩, by decide +kernel, by decide⟩
theorem mv_X7_item : mjYV yX7_item := ⟨gw_tab (i := 1432) (by decide +kernel) rfl, gw_tab (i := 1433) (by decide +kernel) rfl⟩
theorem lkL_170 : Cond.methodLink R_law 170 yX6_read ∈ lw_tbl := lw_tab (i := 865) (by decide +kernel)
theorem my_X6_read : mjY yX6_read cX6_read 3 (some .long) 2 := ⟨gw_tab (i := 868) (by decide +kernel) rfl, gw_tab (i := 1) (by decide +kernel) rfl, ⟨by decide, by decide⟩, by decide +kernel, by decide⟩
theorem mv_X6_read : mjYV yX6_read := ⟨gw_tab (i := 866) (by decide +kernel) rfl, gw_tab (i := 867) (by decide +kernel) rfl⟩
theorem lkL_174 : Cond.methodLink R_law 174 yX7_read ∈ lw_tbl := lw_tab (i := 1439) (by decide +kernel)
theorem my_X7_read : mjY yX7_read cX7_read 3 (some .long) 2 := ⟨gw_tab (i := 1442) (by decide +kernel) rfl, gw_tab (i := 8) (by decide +kernel) rfl, ⟨by decide, by decide⟩, by decide +kernel, by decide⟩
theorem mv_X7_read : mjYV yX7_read := ⟨gw_tab (i := 1440) (by decide +kernel) rfl, gw_tab (i := 1441) (by decide +kernel) rfl⟩
theorem lkL_175 : Cond.methodLink R_law 175 yX6_shift ∈ lw_tbl := lw_tab (i := 869) (by decide +kernel)
theorem my_X6_shift : mjY yX6_shift cX6_shift 8 (some .int) 5 := ⟨gw_tab (i := 872) (by decide +kernel) rfl, gw_tab (i := 1) (by decide +kernel) rfl, ⟨by decide, by decide⟩, by decide +kernel, by decide⟩
theorem mv_X6_shift : mjYV yX6_shift := ⟨gw_tab (i := 870) (by decide +kernel) rfl, gw_tab (i := 871) (by decide +kernel) rfl⟩
theorem lkL_179 : Cond.methodLink R_law 179 yX7_shift ∈ lw_tbl := lw_tab (i := 1443) (by decide +kernel)
theorem my_X7_shift : mjY yX7_shift cX7_shift 7 (some .int) 5 := ⟨gw_tab (i := 1446) (by decide +kernel) rfl, gw_tab (i := 8) (by decide +kernel) rfl, ⟨by decide, by decide⟩, by decide +kernel, by decide⟩
theorem mv_X7_shift : mjYV yX7_shift := ⟨gw_tab (i := 1444) (by decide +kernel) rfl, gw_tab (i := 1445) (by decide +kernel) rfl⟩
theorem kcL_163 : Cond.constantLong R_law 163 4294967295 ∈ lw_tbl := lw_tab (i := 1447) (by decide +kernel)
section
variable {Gc Gr : Gw} {X : Cx} {bA LN nc ns pc : Nat} {xs : Nat → Int32} {L : List (Nat × Value)} {st : List Value} {m1 m2 : Mm}
def lwA (s : State) : Nat → Prop := fun q => s.heap.size ≤ q
def lwV (Gc Gr : Gw) (X : Cx) (bA nc ns pc : Nat) (L : List (Nat × Value)) (st : List Value) (m1 m2 : Mm) : Prop :=
  ∀ (H : Heap) (locs : List Loc) (ls : Array Slot), gP Gc m1 H → gP Gr m2 H → va_S (lwA X.2.2.2.2.1) X.2.2.2.2.1.heap H locs → lv_has ls 4 L →
    W X.1 X.2.1 X.2.2.1 room_1 X.2.2.2.2.1 X.2.2.2.2.2.1 #[Value.ref bA] X.2.2.2.2.2.2.2.1 X.2.2.2.2.2.2.2.2.1 X.2.2.2.2.2.2.2.2.2 H locs nc ns (lw_Z X.2.2.2.2.2.2.2.1 #[Value.ref bA] X.2.2.2.2.1) (F0 X.2.2.2.2.2.1 pc ls st)
/-- one side's world at the law's start -/
def lwG (G : Gw) (X : Cx) : Prop := gOk G ∧ gs0 G = X.2.2.2.2.1 ∧ gl G = X.2.1 ∧ va_K (gD G) vwCl (gty G) X.2.2.2.2.1
def lwF (Gc Gr : Gw) (X : Cx) (bA LN nc ns : Nat) (xs : Nat → Int32) : Prop :=
  lw_At X.1 X.2.2.2.2.1 X.2.2.2.2.2.1 X.2.2.2.2.2.2.2.2.1 X.2.2.2.2.2.2.2.2.2 bA LN xs ∧ lwG Gc X ∧ lwG Gr X ∧ (∀ q, gA Gc q → ¬ gA Gr q) ∧ nc ≤ 600000 ∧ ns ≤ 7302250
theorem lIloadN (F : lwF Gc Gr X bA LN nc ns xs) {i : Fin 4} {k : Nat} {x : Int32} (hd : decode code pc = .ok (.iload_n i, 1)) (hl : L[k]? = some ((i : Nat), .int x)) (kk : lwV Gc Gr X bA nc ns (pc + 1) L (.int x :: st) m1 m2) : lwV Gc Gr X bA nc ns pc L (st) m1 m2 := by
  obtain ⟨p, l, e, R, s, mm, args, below, meth, cd⟩ := X
  intro H locs ls hP hQ hS hL
  exact lv_iload_n F.1.1 F.1.2.1 hd rfl (lv_at hL k hl) (kk H locs ls hP hQ hS hL)
theorem lAloadN (F : lwF Gc Gr X bA LN nc ns xs) {i : Fin 4} {k : Nat} {x : Nat} (hd : decode code pc = .ok (.aload_n i, 1)) (hl : L[k]? = some ((i : Nat), .ref x)) (kk : lwV Gc Gr X bA nc ns (pc + 1) L (.ref x :: st) m1 m2) : lwV Gc Gr X bA nc ns pc L (st) m1 m2 := by
  obtain ⟨p, l, e, R, s, mm, args, below, meth, cd⟩ := X
  intro H locs ls hP hQ hS hL
  exact lv_aload_n F.1.1 F.1.2.1 hd rfl (lv_at hL k hl) (kk H locs ls hP hQ hS hL)
theorem lIconst (F : lwF Gc Gr X bA LN nc ns xs) {n : Int} {v : Int32} (hd : decode code pc = .ok (.iconst n, 1)) (hv : Int32.ofInt n = v) (kk : lwV Gc Gr X bA nc ns (pc + 1) L (.int v :: st) m1 m2) : lwV Gc Gr X bA nc ns pc L (st) m1 m2 := by
  obtain ⟨p, l, e, R, s, mm, args, below, meth, cd⟩ := X
  intro H locs ls hP hQ hS hL
  exact lv_iconst F.1.1 F.1.2.1 hd hv (kk H locs ls hP hQ hS hL)
theorem lBipush (F : lwF Gc Gr X bA LN nc ns xs) {n : Int} {v : Int32} (hd : decode code pc = .ok (.bipush n, 2)) (hv : (Int8.ofInt n).toInt32 = v) (kk : lwV Gc Gr X bA nc ns (pc + 2) L (.int v :: st) m1 m2) : lwV Gc Gr X bA nc ns pc L (st) m1 m2 := by
  obtain ⟨p, l, e, R, s, mm, args, below, meth, cd⟩ := X
  intro H locs ls hP hQ hS hL
  exact lv_bipush F.1.1 F.1.2.1 hd hv (kk H locs ls hP hQ hS hL)
theorem lIadd (F : lwF Gc Gr X bA LN nc ns xs) {x y : Int32} (hd : decode code pc = .ok (.iadd, 1)) (kk : lwV Gc Gr X bA nc ns (pc + 1) L (.int (x + y) :: st) m1 m2) : lwV Gc Gr X bA nc ns pc L (.int y :: .int x :: st) m1 m2 := by
  obtain ⟨p, l, e, R, s, mm, args, below, meth, cd⟩ := X
  intro H locs ls hP hQ hS hL
  exact lv_iadd F.1.1 F.1.2.1 hd (kk H locs ls hP hQ hS hL)
theorem lIsub (F : lwF Gc Gr X bA LN nc ns xs) {x y : Int32} (hd : decode code pc = .ok (.isub, 1)) (kk : lwV Gc Gr X bA nc ns (pc + 1) L (.int (x - y) :: st) m1 m2) : lwV Gc Gr X bA nc ns pc L (.int y :: .int x :: st) m1 m2 := by
  obtain ⟨p, l, e, R, s, mm, args, below, meth, cd⟩ := X
  intro H locs ls hP hQ hS hL
  exact lv_isub F.1.1 F.1.2.1 hd (kk H locs ls hP hQ hS hL)
theorem lIand (F : lwF Gc Gr X bA LN nc ns xs) {x y : Int32} (hd : decode code pc = .ok (.iand, 1)) (kk : lwV Gc Gr X bA nc ns (pc + 1) L (.int (x &&& y) :: st) m1 m2) : lwV Gc Gr X bA nc ns pc L (.int y :: .int x :: st) m1 m2 := by
  obtain ⟨p, l, e, R, s, mm, args, below, meth, cd⟩ := X
  intro H locs ls hP hQ hS hL
  exact lv_iand F.1.1 F.1.2.1 hd (kk H locs ls hP hQ hS hL)
theorem lI2l (F : lwF Gc Gr X bA LN nc ns xs) {x : Int32} (hd : decode code pc = .ok (.i2l, 1)) (kk : lwV Gc Gr X bA nc ns (pc + 1) L (.long x.toInt64 :: st) m1 m2) : lwV Gc Gr X bA nc ns pc L (.int x :: st) m1 m2 := by
  obtain ⟨p, l, e, R, s, mm, args, below, meth, cd⟩ := X
  intro H locs ls hP hQ hS hL
  exact lv_i2l F.1.1 F.1.2.1 hd rfl (kk H locs ls hP hQ hS hL)
theorem lLand (F : lwF Gc Gr X bA LN nc ns xs) {x y : Int64} (hd : decode code pc = .ok (.land, 1)) (kk : lwV Gc Gr X bA nc ns (pc + 1) L (.long (x &&& y) :: st) m1 m2) : lwV Gc Gr X bA nc ns pc L (.long y :: .long x :: st) m1 m2 := by
  obtain ⟨p, l, e, R, s, mm, args, below, meth, cd⟩ := X
  intro H locs ls hP hQ hS hL
  exact lv_land F.1.1 F.1.2.1 hd (kk H locs ls hP hQ hS hL)
theorem lLor (F : lwF Gc Gr X bA LN nc ns xs) {x y : Int64} (hd : decode code pc = .ok (.lor, 1)) (kk : lwV Gc Gr X bA nc ns (pc + 1) L (.long (x ||| y) :: st) m1 m2) : lwV Gc Gr X bA nc ns pc L (.long y :: .long x :: st) m1 m2 := by
  obtain ⟨p, l, e, R, s, mm, args, below, meth, cd⟩ := X
  intro H locs ls hP hQ hS hL
  exact lv_lor F.1.1 F.1.2.1 hd (kk H locs ls hP hQ hS hL)
theorem lLshl (F : lwF Gc Gr X bA LN nc ns xs) {x v : Int64} {y : Int32} (hd : decode code pc = .ok (.lshl, 1)) (hv : x <<< (y.toInt64 &&& 63) = v) (kk : lwV Gc Gr X bA nc ns (pc + 1) L (.long v :: st) m1 m2) : lwV Gc Gr X bA nc ns pc L (.int y :: .long x :: st) m1 m2 := by
  obtain ⟨p, l, e, R, s, mm, args, below, meth, cd⟩ := X
  intro H locs ls hP hQ hS hL
  exact lv_lshl F.1.1 F.1.2.1 hd hv (kk H locs ls hP hQ hS hL)
theorem lLcmp (F : lwF Gc Gr X bA LN nc ns xs) {x y : Int64} (hd : decode code pc = .ok (.lcmp, 1)) (kk : lwV Gc Gr X bA nc ns (pc + 1) L (.int (lg_cmp x y) :: st) m1 m2) : lwV Gc Gr X bA nc ns pc L (.long y :: .long x :: st) m1 m2 := by
  obtain ⟨p, l, e, R, s, mm, args, below, meth, cd⟩ := X
  intro H locs ls hP hQ hS hL
  exact W.lcmp F.1.1 F.1.2.1 hd (kk H locs ls hP hQ hS hL)
theorem lLdc2 (F : lwF Gc Gr X bA LN nc ns xs) {i : Nat} {v : Int64} (hd : decode code pc = .ok (.ldc2_w i, 3)) (hw : Cond.constantLong R_law i v ∈ lw_tbl) (kk : lwV Gc Gr X bA nc ns (pc + 3) L (.long v :: st) m1 m2) : lwV Gc Gr X bA nc ns pc L (st) m1 m2 := by
  obtain ⟨p, l, e, R, s, mm, args, below, meth, cd⟩ := X
  intro H locs ls hP hQ hS hL
  exact lv_ldc2 F.1.1 F.1.2.1 F.1.2.2.2.2.1 (F.1.2.2.2.2.2.1 _ hw) hd (kk H locs ls hP hQ hS hL)
theorem lScr (F : lwF Gc Gr X bA LN nc ns xs) {i : Int32} (hd : decode code pc = .ok (.iaload, 1)) (hin : vp_in i LN) (kk : lwV Gc Gr X bA nc ns (pc + 1) L (.int (xs i.toNatClampNeg) :: st) m1 m2) : lwV Gc Gr X bA nc ns pc L (.int i :: .ref bA :: st) m1 m2 := by
  obtain ⟨p, l, e, R, s, mm, args, below, meth, cd⟩ := X
  intro H locs ls hP hQ hS hL
  exact va_sld F.1.1 F.1.2.1 F.1.2.2.2.2.2.2.1 F.1.2.2.2.2.2.2.2.1 (Nat.not_le.mpr F.1.2.2.2.2.2.2.2.1) hS hin hd (kk H locs ls hP hQ hS hL)
theorem lLen (F : lwF Gc Gr X bA LN nc ns xs) (hd : decode code pc = .ok (.arraylength, 1)) (kk : lwV Gc Gr X bA nc ns (pc + 1) L (.int (Int32.ofNat LN) :: st) m1 m2) : lwV Gc Gr X bA nc ns pc L (.ref bA :: st) m1 m2 := by
  obtain ⟨p, l, e, R, s, mm, args, below, meth, cd⟩ := X
  intro H locs ls hP hQ hS hL
  exact va_slen F.1.1 F.1.2.1 F.1.2.2.2.2.2.2.1 F.1.2.2.2.2.2.2.2.1 (Nat.not_le.mpr F.1.2.2.2.2.2.2.2.1) hS hd (kk H locs ls hP hQ hS hL)
theorem lGoto (F : lwF Gc Gr X bA LN nc ns xs) {off : Int} {tgt : Nat} (hd : decode code pc = .ok (.goto off, 3)) (ht : (pc : Int) + off = (tgt : Int)) (kk : lwV Gc Gr X bA nc ns tgt L st m1 m2) : lwV Gc Gr X bA nc ns pc L st m1 m2 := by
  obtain ⟨p, l, e, R, s, mm, args, below, meth, cd⟩ := X
  intro H locs ls hP hQ hS hL
  exact lv_goto F.1.1 F.1.2.1 hd ht (kk H locs ls hP hQ hS hL)
theorem lIcmpGt (F : lwF Gc Gr X bA LN nc ns xs) {x y : Int32} {off : Int} {tgt : Nat} (hd : decode code pc = .ok (.if_icmp .gt off, 3)) (ht : (pc : Int) + off = (tgt : Int)) (kt : y < x → lwV Gc Gr X bA nc ns tgt L st m1 m2) (kf : ¬ y < x → lwV Gc Gr X bA nc ns (pc + 3) L st m1 m2) : lwV Gc Gr X bA nc ns pc L (.int y :: .int x :: st) m1 m2 := by
  obtain ⟨p, l, e, R, s, mm, args, below, meth, cd⟩ := X
  intro H locs ls hP hQ hS hL
  exact lv_icmp_gt F.1.1 F.1.2.1 hd ht (fun c => kt c H locs ls hP hQ hS hL) (fun c => kf c H locs ls hP hQ hS hL)
/-- the two answers are one: on to the end of the case -/
theorem lSame (F : lwF Gc Gr X bA LN nc ns xs) {x : Int32} {off : Int} {tgt : Nat} (hd : decode code pc = .ok (.if_icmp .eq off, 3)) (ht : (pc : Int) + off = (tgt : Int)) (kt : lwV Gc Gr X bA nc ns tgt L st m1 m2) : lwV Gc Gr X bA nc ns pc L (.int x :: .int x :: st) m1 m2 := by
  obtain ⟨p, l, e, R, s, mm, args, below, meth, cd⟩ := X
  intro H locs ls hP hQ hS hL
  exact lv_icmp_eq F.1.1 F.1.2.1 hd ht (fun c => kt H locs ls hP hQ hS hL) (fun c => absurd rfl c)
theorem lg_self (x : Int64) : lg_cmp x x = 0 := by
  unfold lg_cmp
  simp
theorem lSameL (F : lwF Gc Gr X bA LN nc ns xs) {x : Int64} {off : Int} {tgt : Nat} (hd : decode code pc = .ok (.ifCond .eq off, 3)) (ht : (pc : Int) + off = (tgt : Int)) (kt : lwV Gc Gr X bA nc ns tgt L st m1 m2) : lwV Gc Gr X bA nc ns pc L (.int (lg_cmp x x) :: st) m1 m2 := by
  obtain ⟨p, l, e, R, s, mm, args, below, meth, cd⟩ := X
  intro H locs ls hP hQ hS hL
  exact lv_if_eq F.1.1 F.1.2.1 hd ht (fun c => kt H locs ls hP hQ hS hL) (fun c => absurd (lg_self x) c)
theorem lTabIn (F : lwF Gc Gr X bA LN nc ns xs) {dflt lo hi : Int} {offs : Array Int} {len : Nat} {x : Int32} {z : Int32} {off : Int} {tgt : Nat} (hd : decode code pc = .ok (.tableswitch dflt lo hi offs, len)) (hx : x = z) (h1 : ¬ z.toInt < lo) (h2 : ¬ hi < z.toInt) (ho : offs[(z.toInt - lo).toNat]? = some off) (ht : (pc : Int) + off = (tgt : Int)) (kk : lwV Gc Gr X bA nc ns tgt L st m1 m2) : lwV Gc Gr X bA nc ns pc L (.int x :: st) m1 m2 := by
  subst hx
  obtain ⟨p, l, e, R, s, mm, args, below, meth, cd⟩ := X
  intro H locs ls hP hQ hS hL
  exact lv_tableIn F.1.1 F.1.2.1 hd h1 h2 ho ht (kk H locs ls hP hQ hS hL)
theorem lTabOut (F : lwF Gc Gr X bA LN nc ns xs) {dflt lo hi : Int} {offs : Array Int} {len : Nat} {x : Int32} {tgt : Nat} (hd : decode code pc = .ok (.tableswitch dflt lo hi offs, len)) (h : x.toInt < lo ∨ hi < x.toInt) (ht : (pc : Int) + dflt = (tgt : Int)) (kk : lwV Gc Gr X bA nc ns tgt L st m1 m2) : lwV Gc Gr X bA nc ns pc L (.int x :: st) m1 m2 := by
  obtain ⟨p, l, e, R, s, mm, args, below, meth, cd⟩ := X
  intro H locs ls hP hQ hS hL
  exact lv_tableOut F.1.1 F.1.2.1 hd h ht (kk H locs ls hP hQ hS hL)
theorem lIinc (F : lwF Gc Gr X bA LN nc ns xs) {i k : Nat} {n : Int} {x v : Int32} {L' : List (Nat × Value)} (hd : decode code pc = .ok (.iinc i n, 3)) (hk : L[k]? = some (i, .int x)) (hv : x + Int32.ofInt n = v) (hn : i < 4) (hl : (i, Value.int v) :: L.filter (fun q => !(q.1 == i) && !(q.1 + 1 == i && q.2.category == 2)) = L') (kk : lwV Gc Gr X bA nc ns (pc + 3) L' st m1 m2) : lwV Gc Gr X bA nc ns pc L st m1 m2 := by
  obtain ⟨p, l, e, R, s, mm, args, below, meth, cd⟩ := X
  intro H locs ls hP hQ hS hL
  exact lv_iinc F.1.1 F.1.2.1 hd hL hk hv hn hl (fun ls' hL' => kk H locs ls' hP hQ hS hL')
theorem lSub {L' : List (Nat × Value)} (ks : List Nat) (hl : lv_pick L ks = L') (kk : lwV Gc Gr X bA nc ns pc L' st m1 m2) : lwV Gc Gr X bA nc ns pc L st m1 m2 :=
  fun H locs ls hP hQ hS hL => kk H locs ls hP hQ hS (lv_sub hL ks hl)
theorem lRet (F : lwF Gc Gr X bA LN nc ns xs) (hd : decode code pc = .ok (.ireturn, 1)) : lwV Gc Gr X bA nc ns pc L [.int 1] m1 m2 := by
  obtain ⟨p, l, e, R, s, mm, args, below, meth, cd⟩ := X
  intro H locs ls hP hQ hS hL
  exact va_forget (fun q hq => hS.2.2 q hq) (W.widen F.2.2.2.2.1 F.2.2.2.2.2 (lw_ret F.1.1 F.1.2.1 F.1.2.2.1 F.1.2.2.2.2.2.2.2.2.1 hd))
theorem lw_gK {G : Gw} (hG : lwG G X) {U : State} {H : Heap} {locs : List Loc} (hS : va_S (lwA X.2.2.2.2.1) X.2.2.2.2.1.heap H locs) (hU : U.heap = H) (hW : X.2.2.2.2.1.WarmedH U.vm) : gK G U := by
  obtain ⟨h1, h2, h3, h4⟩ := hG
  refine ⟨va_K.moved hW.alike h4, by rw [h2]; exact hW, ?_, fun q hq => ?_⟩
  · rw [hU, h2]; exact hS.1
  · rw [h2] at hq ⊢
    rw [hU]
    exact hS.2.1 q hq (Nat.not_le.mpr hq)
theorem lw_A {G : Gw} (hG : lwG G X) {q : Nat} (h : gA G q) : lwA X.2.2.2.2.1 q := by
  obtain ⟨k, h1, h2⟩ := h
  have h3 := hG.1.2.2 k h1
  rw [hG.2.1, h2] at h3
  exact h3
theorem lw_kept {G G' : Gw} (hd : ∀ q, gA G q → ¬ gA G' q) {m' : Mm} {H H1 : Heap} (hQ : gP G m' H) (hk : ∀ q : Nat, q < H.size → ¬ gA G' q → H1[q]? = H[q]?) : gP G m' H1 := by
  refine va_P.kept hQ (fun k q hq => ?_)
  obtain ⟨a1, a2⟩ := mw_adr hq
  exact hk q.1 ((hQ k q hq).lt) (hd q.1 ⟨k, a1, a2⟩)
theorem lw_call {G : Gw} (F : lwF Gc Gr X bA LN nc ns xs) (hG : lwG G X) {x ci idx d' maxL n : Nat} {fl : List Nat} {y : MethodName} {bytes : ByteArray} {rt : Option FieldType} {As : List Value} {st0 : List Value} {T : u_T} {N : Nat} {m m' : Mm} {rv : Value} (hd : decode code pc = .ok (.invokevirtual idx, 3)) (hw : Cond.methodLink R_law idx y ∈ lw_tbl) (hy : mjY y bytes maxL rt n) (hv : mjYV y) (hx : (gsh G)[x]? = some (6, ci, fl)) (hc : vwCl[ci]? = some (y.cls, T, N)) (hdd : d' ≤ 100) (hn : As.length = n) (hst : st0 = As.reverse ++ .ref (gr G x) :: st) (hcat : (st.map fun v => v.category).sum ≤ 8)
    (hR : mjR G d' y bytes maxL rt (.ref (gr G x) :: As) m (fun v u => v = some rv ∧ u = m')) {H : Heap} {locs : List Loc} {ls : Array Slot} (hP : gP G m H) (hS : va_S (lwA X.2.2.2.2.1) X.2.2.2.2.1.heap H locs) (hL : lv_has ls 4 L) {Q : State → Prop}
    (kk : ∀ (H1 : Heap) (locs1 : List Loc), gP G m' H1 → (∀ q : Nat, q < H.size → ¬ gA G q → H1[q]? = H[q]?) → va_S (lwA X.2.2.2.2.1) X.2.2.2.2.1.heap H1 locs1 → W X.1 X.2.1 X.2.2.1 room_1 X.2.2.2.2.1 X.2.2.2.2.2.1 #[Value.ref bA] X.2.2.2.2.2.2.2.1 X.2.2.2.2.2.2.2.2.1 X.2.2.2.2.2.2.2.2.2 H1 locs1 nc ns Q (F0 X.2.2.2.2.2.1 (pc + 3) ls (rv :: st))) : W X.1 X.2.1 X.2.2.1 room_1 X.2.2.2.2.1 X.2.2.2.2.2.1 #[Value.ref bA] X.2.2.2.2.2.2.2.1 X.2.2.2.2.2.2.2.2.1 X.2.2.2.2.2.2.2.2.2 H locs nc ns Q (F0 X.2.2.2.2.2.1 pc ls st0) := by
  subst hst
  obtain ⟨p, l, e, R, s, mm, args, below, meth, cd⟩ := X
  obtain ⟨w1, w2, w3, w4, w5⟩ := hy
  have hl : gl G = l := hG.2.2.1
  subst hl
  obtain ⟨f1, f2, f3, f4, f5, f6, f7, f8, f9, f10⟩ := F.1
  have hts : ∀ w ∈ gw_tbl, w.before #[Value.ref bA] s = true := fun w h => f6 w (List.mem_filter.mp h).1
  have hrecv := va_recv hG.2.2.2 hP hc (mw_obj (m := m) hx)
  have pre : PreV s H y.cls (gr G x) (va_Pc (.ref (gr G x) :: As) (fun U => gP G m U.heap ∧ gK G U)) As :=
    ⟨mj_blind, hrecv, fun U hU hW => ⟨rfl, by rw [hU]; exact hP, lw_gK hG hS hU hW⟩⟩
  have hgood := mj_good w1
  have hlen : ∀ sig, parseMethodDescriptor y.desc = some sig → n = sig.parameters.length := fun sig h => by
    rw [h] at w4
    exact (Option.some.inj w4).symm
  have hr := va_runV (cells := nc) (slots := ns) (R := room_1) (H := H) (locs := locs) (below := below) (meth := meth) (e := e) (cc := code) (nL := 4) (g := F0 mm pc ls (As.reverse ++ .ref (gr G x) :: st)) (rest := st) ⟨f1, f2, f4, f5, hts⟩ hR ⟨⟨rfl, rfl, (show d' + 1 + 1 ≤ 2048 by omega), (show 8 + (maxL + 11) + (60 * d' + 100) ≤ 84000 by omega), pay_in hts hgood, List.mem_cons_self, hts _ w1, hts _ w2, w3, hlen, f6 _ hw⟩, hts _ hv.1, hts _ hv.2⟩ pre rfl hn hL.1 rfl (lv_room hcat) hd ⟨F.2.2.2.2.1, F.2.2.2.2.2⟩
  intro T0 hT0 Y
  obtain ⟨v, st₀, t, T', L0, h0, X', hL0, e1, e2, ⟨⟨v', u, hv', ⟨hp1, hp2⟩, hb⟩, hz, hk⟩, stp⟩ := hr T0 hT0 Y
  cases hv'
  subst hp1
  subst hp2
  rw [h0] at hz hk
  obtain ⟨t2, a1, b1⟩ := kk T'.heap (locs ++ L0) (by rw [e1]; exact hb) (fun q h1 h2 => by rw [e1]; exact hk q h1 h2)
    ⟨Nat.le_trans hS.1 (by rw [e1]; exact hz), fun q h1 h2 => by rw [e1, hk q (Nat.lt_of_lt_of_le h1 hS.1) (fun z => h2 (lw_A hG z))]; exact hS.2.1 q h1 h2, fun q hq => by
      rcases List.mem_append.mp hq with h | h
      · exact hS.2.2 q h
      · exact lw_A hG (hL0 q h)⟩ T' rfl X'
  exact ⟨t2, stp t2 a1, b1⟩
theorem lCallC (F : lwF Gc Gr X bA LN nc ns xs) {x ci idx d' maxL n : Nat} {fl : List Nat} {y : MethodName} {bytes : ByteArray} {rt : Option FieldType} {As : List Value} {st0 : List Value} {T : u_T} {N : Nat} {m' : Mm} {rv : Value} (hd : decode code pc = .ok (.invokevirtual idx, 3)) (hw : Cond.methodLink R_law idx y ∈ lw_tbl) (hy : mjY y bytes maxL rt n) (hv : mjYV y) (hx : (gsh Gc)[x]? = some (6, ci, fl)) (hc : vwCl[ci]? = some (y.cls, T, N)) (hdd : d' ≤ 100) (hn : As.length = n) (hst : st0 = As.reverse ++ .ref (gr Gc x) :: st) (hcat : (st.map fun v => v.category).sum ≤ 8)
    (hR : mjR Gc d' y bytes maxL rt (.ref (gr Gc x) :: As) m1 (fun v u => v = some rv ∧ u = m')) (kk : lwV Gc Gr X bA nc ns (pc + 3) L (rv :: st) m' m2) : lwV Gc Gr X bA nc ns pc L st0 m1 m2 := by
  intro H locs ls hP hQ hS hL
  exact lw_call F F.2.1 hd hw hy hv hx hc hdd hn hst hcat hR hP hS hL (fun H1 locs1 hP1 hk1 hS1 => kk H1 locs1 ls hP1 (lw_kept (fun q h1 h2 => F.2.2.2.1 q h2 h1) hQ hk1) hS1 hL)
theorem lCallM (F : lwF Gc Gr X bA LN nc ns xs) {x ci idx d' maxL n : Nat} {fl : List Nat} {y : MethodName} {bytes : ByteArray} {rt : Option FieldType} {As : List Value} {st0 : List Value} {T : u_T} {N : Nat} {m' : Mm} {rv : Value} (hd : decode code pc = .ok (.invokevirtual idx, 3)) (hw : Cond.methodLink R_law idx y ∈ lw_tbl) (hy : mjY y bytes maxL rt n) (hv : mjYV y) (hx : (gsh Gr)[x]? = some (6, ci, fl)) (hc : vwCl[ci]? = some (y.cls, T, N)) (hdd : d' ≤ 100) (hn : As.length = n) (hst : st0 = As.reverse ++ .ref (gr Gr x) :: st) (hcat : (st.map fun v => v.category).sum ≤ 8)
    (hR : mjR Gr d' y bytes maxL rt (.ref (gr Gr x) :: As) m2 (fun v u => v = some rv ∧ u = m')) (kk : lwV Gc Gr X bA nc ns (pc + 3) L (rv :: st) m1 m') : lwV Gc Gr X bA nc ns pc L st0 m1 m2 := by
  intro H locs ls hP hQ hS hL
  exact lw_call F F.2.2.1 hd hw hy hv hx hc hdd hn hst hcat hR hQ hS hL (fun H1 locs1 hP1 hk1 hS1 => kk H1 locs1 ls (lw_kept F.2.2.2.1 hP hk1) hP1 hS1 hL)
end
def lwH0 (Inv : Mm → Mm → Prop) : Prop := ∀ (m1 m2 : Mm) (a1 : Int32) (a2 : Int32) (a3 : Int32), Inv m1 m2 → ∃ (r : Int32) (m1' : Mm) (m2' : Mm), NB_place m1 a1 a2 a3 = some (r, m1') ∧ Mo_place m2 a1 a2 a3 = some (r, m2') ∧ Inv m1' m2'
def lwH1 (Inv : Mm → Mm → Prop) : Prop := ∀ (m1 m2 : Mm) (a1 : Int32) (a2 : Int32), Inv m1 m2 → ∃ (r : Int32) (m1' : Mm) (m2' : Mm), NB_of m1 a1 a2 = some (r, m1') ∧ Mo_of m2 a1 a2 = some (r, m2') ∧ Inv m1' m2'
def lwH2 (Inv : Mm → Mm → Prop) : Prop := ∀ (m1 m2 : Mm) (a1 : Int32) (a2 : Int32) (a3 : Int32), Inv m1 m2 → ∃ (r : Int32) (m1' : Mm) (m2' : Mm), NB_road m1 a1 a2 a3 = some (r, m1') ∧ Mo_road m2 a1 a2 a3 = some (r, m2') ∧ Inv m1' m2'
def lwH3 (Inv : Mm → Mm → Prop) : Prop := ∀ (m1 m2 : Mm) (a1 : Int32) (a2 : Int32), Inv m1 m2 → ∃ (r : Int32) (m1' : Mm) (m2' : Mm), NB_far m1 a1 a2 = some (r, m1') ∧ Mo_far m2 a1 a2 = some (r, m2') ∧ Inv m1' m2'
def lwH4 (Inv : Mm → Mm → Prop) : Prop := ∀ (m1 m2 : Mm) (a1 : Int32) (a2 : Int32), Inv m1 m2 → ∃ (r : Int32) (m1' : Mm) (m2' : Mm), NB_name m1 a1 a2 = some (r, m1') ∧ Mo_name m2 a1 a2 = some (r, m2') ∧ Inv m1' m2'
def lwH5 (Inv : Mm → Mm → Prop) : Prop := ∀ (m1 m2 : Mm) (a1 : Int32) (a2 : Int32), Inv m1 m2 → ∃ (r : Int32) (m1' : Mm) (m2' : Mm), NB_strike m1 a1 a2 = some (r, m1') ∧ Mo_strike m2 a1 a2 = some (r, m2') ∧ Inv m1' m2'
def lwH6 (Inv : Mm → Mm → Prop) : Prop := ∀ (m1 m2 : Mm) (a1 : Int32) (a2 : Int32) (a3 : Int32), Inv m1 m2 → ∃ (r : Int32) (m1' : Mm) (m2' : Mm), NB_traveller m1 a1 a2 a3 = some (r, m1') ∧ Mo_traveller m2 a1 a2 a3 = some (r, m2') ∧ Inv m1' m2'
def lwH7 (Inv : Mm → Mm → Prop) : Prop := ∀ (m1 m2 : Mm) (a1 : Int32), Inv m1 m2 → ∃ (r : Int32) (m1' : Mm) (m2' : Mm), NB_feed m1 a1 = some (r, m1') ∧ Mo_feed m2 a1 = some (r, m2') ∧ Inv m1' m2'
def lwH8 (Inv : Mm → Mm → Prop) : Prop := ∀ (m1 m2 : Mm), Inv m1 m2 → ∃ (r : Int32) (m1' : Mm) (m2' : Mm), NB_land m1 = some (r, m1') ∧ Mo_land m2 = some (r, m2') ∧ Inv m1' m2'
def lwH9 (Inv : Mm → Mm → Prop) : Prop := ∀ (m1 m2 : Mm) (a1 : Int32), Inv m1 m2 → ∃ (r : Int32), NB_told m1 a1 = some r ∧ Mo_told m2 a1 = some r ∧ Inv m1 m2
def lwH10 (Inv : Mm → Mm → Prop) : Prop := ∀ (m1 m2 : Mm) (a1 : Int32) (a2 : Int32), Inv m1 m2 → ∃ (r : Int32) (m1' : Mm) (m2' : Mm), NB_way m1 a1 a2 = some (r, m1') ∧ Mo_way m2 a1 a2 = some (r, m2') ∧ Inv m1' m2'
def lwH11 (Inv : Mm → Mm → Prop) : Prop := ∀ (m1 m2 : Mm) (a1 : Int32) (a2 : Int32), Inv m1 m2 → ∃ (r : Int32) (m1' : Mm) (m2' : Mm), NB_toward m1 a1 a2 = some (r, m1') ∧ Mo_toward m2 a1 a2 = some (r, m2') ∧ Inv m1' m2'
def lwH12 (Inv : Mm → Mm → Prop) : Prop := ∀ (m1 m2 : Mm) (a1 : Int32) (a2 : Int32), Inv m1 m2 → ∃ (r : Int32) (m1' : Mm) (m2' : Mm), NB_next m1 a1 a2 = some (r, m1') ∧ Mo_next m2 a1 a2 = some (r, m2') ∧ Inv m1' m2'
def lwH13 (Inv : Mm → Mm → Prop) : Prop := ∀ (m1 m2 : Mm) (a1 : Int32) (a2 : Int32) (a3 : Int32), Inv m1 m2 → ∃ (r : Int32) (m1' : Mm) (m2' : Mm), NB_gone m1 a1 a2 a3 = some (r, m1') ∧ Mo_gone m2 a1 a2 a3 = some (r, m2') ∧ Inv m1' m2'
def lwH14 (Inv : Mm → Mm → Prop) : Prop := ∀ (m1 m2 : Mm) (a1 : Int32), Inv m1 m2 → ∃ (r : Int32) (m1' : Mm) (m2' : Mm), NB_lost m1 a1 = some (r, m1') ∧ Mo_lost m2 a1 = some (r, m2') ∧ Inv m1' m2'
def lwH15 (Inv : Mm → Mm → Prop) : Prop := ∀ (m1 m2 : Mm) (a1 : Int32), Inv m1 m2 → ∃ (r : Int32) (m1' : Mm) (m2' : Mm), NB_longest m1 a1 = some (r, m1') ∧ Mo_longest m2 a1 = some (r, m2') ∧ Inv m1' m2'
def lwH16 (Inv : Mm → Mm → Prop) : Prop := ∀ (m1 m2 : Mm) (a1 : Int32), Inv m1 m2 → ∃ (r : Int32) (m1' : Mm) (m2' : Mm), NB_put m1 a1 = some (r, m1') ∧ Mo_put m2 a1 = some (r, m2') ∧ Inv m1' m2'
def lwH17 (Inv : Mm → Mm → Prop) : Prop := ∀ (m1 m2 : Mm) (a1 : Int32), Inv m1 m2 → ∃ (r : Int32) (m1' : Mm) (m2' : Mm), NB_worst m1 a1 = some (r, m1') ∧ Mo_worst m2 a1 = some (r, m2') ∧ Inv m1' m2'
def lwH18 (Inv : Mm → Mm → Prop) : Prop := ∀ (m1 m2 : Mm) (a1 : Int32) (a2 : Int32), Inv m1 m2 → ∃ (r : Int32) (m1' : Mm) (m2' : Mm), NB_turned m1 a1 a2 = some (r, m1') ∧ Mo_turned m2 a1 a2 = some (r, m2') ∧ Inv m1' m2'
def lwH19 (Inv : Mm → Mm → Prop) : Prop := ∀ (m1 m2 : Mm) (a1 : Int32) (a2 : Int32), Inv m1 m2 → ∃ (r : Int32), NB_chain m1 a1 a2 = some r ∧ Mo_chain m2 a1 a2 = some r ∧ Inv m1 m2
def lwH20 (Inv : Mm → Mm → Prop) : Prop := ∀ (m1 m2 : Mm) (a1 : Int32), Inv m1 m2 → ∃ (r : Int32), NB_allIn m1 a1 = some r ∧ Mo_allIn m2 a1 = some r ∧ Inv m1 m2
def lwH21 (Inv : Mm → Mm → Prop) : Prop := ∀ (m1 m2 : Mm), Inv m1 m2 → ∃ (r : Int32), NB_capitals m1 = some r ∧ Mo_capitals m2 = some r ∧ Inv m1 m2
def lwH22 (Inv : Mm → Mm → Prop) : Prop := ∀ (m1 m2 : Mm) (a1 : Int32) (a2 : Int32), Inv m1 m2 → ∃ (r : Int32) (m1' : Mm) (m2' : Mm), NB_newRoad m1 a1 a2 = some (r, m1') ∧ Mo_newRoad m2 a1 a2 = some (r, m2') ∧ Inv m1' m2'
def lwH23 (Inv : Mm → Mm → Prop) : Prop := ∀ (m1 m2 : Mm) (a1 : Int32), Inv m1 m2 → ∃ (r : Int32) (m1' : Mm) (m2' : Mm), NB_gets m1 a1 = some (r, m1') ∧ Mo_gets m2 a1 = some (r, m2') ∧ Inv m1' m2'
def lwH24 (Inv : Mm → Mm → Prop) : Prop := ∀ (m1 m2 : Mm) (a1 : Int32) (a2 : Int32) (a3 : Int32) (a4 : Int32), Inv m1 m2 → ∃ (r : Int64) (m1' : Mm) (m2' : Mm), NB_odds m1 a1 a2 a3 a4 = some (r, m1') ∧ Mo_odds m2 a1 a2 a3 a4 = some (r, m2') ∧ Inv m1' m2'
def lwH25 (Inv : Mm → Mm → Prop) : Prop := ∀ (m1 m2 : Mm) (a1 : Int32), Inv m1 m2 → ∃ (r : Int64) (m1' : Mm) (m2' : Mm), NB_mean m1 a1 = some (r, m1') ∧ Mo_mean m2 a1 = some (r, m2') ∧ Inv m1' m2'
def lwH26 (Inv : Mm → Mm → Prop) : Prop := ∀ (m1 m2 : Mm) (a1 : Int32), Inv m1 m2 → ∃ (r : Int32) (m1' : Mm) (m2' : Mm), NB_book m1 a1 = some (r, m1') ∧ Mo_book m2 a1 = some (r, m2') ∧ Inv m1' m2'
def lwH27 (Inv : Mm → Mm → Prop) : Prop := ∀ (m1 m2 : Mm) (a1 : Int32), Inv m1 m2 → ∃ (r : Int32) (m1' : Mm) (m2' : Mm), NB_looked m1 a1 = some (r, m1') ∧ Mo_looked m2 a1 = some (r, m2') ∧ Inv m1' m2'
def lwH28 (Inv : Mm → Mm → Prop) : Prop := ∀ (m1 m2 : Mm) (a1 : Int32) (a2 : Int32), Inv m1 m2 → ∃ (r : Int32) (m1' : Mm) (m2' : Mm), NB_judge m1 a1 a2 = some (r, m1') ∧ Mo_judge m2 a1 a2 = some (r, m2') ∧ Inv m1' m2'
def lwH29 (Inv : Mm → Mm → Prop) : Prop := ∀ (m1 m2 : Mm), Inv m1 m2 → ∃ (r : Int32) (m1' : Mm) (m2' : Mm), NB_image m1 = some (r, m1') ∧ Mo_image m2 = some (r, m2') ∧ Inv m1' m2'
def lwH30 (Inv : Mm → Mm → Prop) : Prop := ∀ (m1 m2 : Mm), Inv m1 m2 → ∃ (r : Int32) (m1' : Mm) (m2' : Mm), NB_undo m1 = some (r, m1') ∧ Mo_undo m2 = some (r, m2') ∧ Inv m1' m2'
def lwH31 (Inv : Mm → Mm → Prop) : Prop := ∀ (m1 m2 : Mm) (a1 : Int32) (a2 : Int32) (a3 : Int32), Inv m1 m2 → ∃ (r : Int32) (m1' : Mm) (m2' : Mm), NB_act m1 a1 a2 a3 = some (r, m1') ∧ Mo_act m2 a1 a2 a3 = some (r, m2') ∧ Inv m1' m2'
def lwH32 (Inv : Mm → Mm → Prop) : Prop := ∀ (m1 m2 : Mm) (a1 : Int32), Inv m1 m2 → ∃ (r : Int32), NB_trace m1 a1 = some r ∧ Mo_trace m2 a1 = some r ∧ Inv m1 m2
def lwH33 (Inv : Mm → Mm → Prop) : Prop := ∀ (m1 m2 : Mm) (a1 : Int32) (a2 : Int32), Inv m1 m2 → ∃ (r : Int32), NB_taken m1 a1 a2 = some r ∧ Mo_taken m2 a1 a2 = some r ∧ Inv m1 m2
def lwH34 (Inv : Mm → Mm → Prop) : Prop := ∀ (m1 m2 : Mm) (a1 : Int32), Inv m1 m2 → ∃ (r : Int32), NB_count m1 a1 = r ∧ Mo_count m2 a1 = r ∧ Inv m1 m2
def lwH35 (Inv : Mm → Mm → Prop) : Prop := ∀ (m1 m2 : Mm) (a1 : Int32) (a2 : Int32) (a3 : Int32), Inv m1 m2 → ∃ (r : Int32) (m1' : Mm) (m2' : Mm), NB_tape m1 a1 a2 a3 = some (r, m1') ∧ Mo_tape m2 a1 a2 a3 = some (r, m2') ∧ Inv m1' m2'
def lwH36 (Inv : Mm → Mm → Prop) : Prop := ∀ (m1 m2 : Mm) (a1 : Int32) (a2 : Int32) (a3 : Int64), Inv m1 m2 → ∃ (r : Int32) (m1' : Mm) (m2' : Mm), NB_item m1 a1 a2 a3 = some (r, m1') ∧ Mo_item m2 a1 a2 a3 = some (r, m2') ∧ Inv m1' m2'
def lwH37 (Inv : Mm → Mm → Prop) : Prop := ∀ (m1 m2 : Mm) (a1 : Int32) (a2 : Int32), Inv m1 m2 → ∃ (r : Int64), NB_read m1 a1 a2 = some r ∧ Mo_read m2 a1 a2 = some r ∧ Inv m1 m2
def lwH38 (Inv : Mm → Mm → Prop) : Prop := ∀ (m1 m2 : Mm) (a1 : Int32) (a2 : Int32) (a3 : Int32) (a4 : Int32) (a5 : Int32), Inv m1 m2 → ∃ (r : Int32) (m1' : Mm) (m2' : Mm), NB_shift m1 a1 a2 a3 a4 a5 = some (r, m1') ∧ Mo_shift m2 a1 a2 a3 a4 a5 = some (r, m2') ∧ Inv m1' m2'
set_option maxRecDepth 20000 in
set_option maxHeartbeats 4000000 in
theorem lw_case0 {Gc Gr : Gw} {X : Cx} {bA LN nc ns : Nat} {xs : Nat → Int32} {m1 m2 : Mm} {Inv : Mm → Mm → Prop} (hH0 : lwH0 Inv) (F : lwF Gc Gr X bA LN nc ns xs) (hsc : gsh Gc = shC) (hsr : gsh Gr = shM) {i3 : Int32} (hi1 : vp_in (i3 + 1) LN) (hi2 : vp_in (i3 + 2) LN) (hi3 : vp_in (i3 + 3) LN) (hi4 : vp_in (i3 + 4) LN) (hi5 : vp_in (i3 + 5) LN) (hI0 : Inv m1 m2) (kk : ∀ m1 m2, Inv m1 m2 → lwV Gc Gr X bA nc ns 1434 [(1, .ref (gr Gc 0)), (2, .ref (gr Gr 0)), (0, .ref bA), (3, .int i3)] [] m1 m2) : lwV Gc Gr X bA nc ns 204 [(1, .ref (gr Gc 0)), (2, .ref (gr Gr 0)), (0, .ref bA), (3, .int i3)] [] m1 m2 := by
  obtain ⟨r, m1', m2', e1, e2, hI⟩ := hH0 m1 m2 (xs (i3 + 1).toNatClampNeg) (xs (i3 + 2).toNatClampNeg) (xs (i3 + 3).toNatClampNeg) hI0
  refine lAloadN F dL_law_204 (k := 0) rfl ?_
  refine lAloadN F dL_law_205 (k := 2) rfl ?_
  refine lIloadN F dL_law_206 (k := 3) rfl ?_
  refine lIconst F (v := 1) dL_law_207 k_1 ?_
  refine lIadd F dL_law_208 ?_
  refine lScr F dL_law_209 hi1 ?_
  refine lAloadN F dL_law_210 (k := 2) rfl ?_
  refine lIloadN F dL_law_211 (k := 3) rfl ?_
  refine lIconst F (v := 2) dL_law_212 k_2 ?_
  refine lIadd F dL_law_213 ?_
  refine lScr F dL_law_214 hi2 ?_
  refine lAloadN F dL_law_215 (k := 2) rfl ?_
  refine lIloadN F dL_law_216 (k := 3) rfl ?_
  refine lIconst F (v := 3) dL_law_217 k_3 ?_
  refine lIadd F dL_law_218 ?_
  refine lScr F dL_law_219 hi3 ?_
  refine lCallC F (x := 0) (d' := 1) (T := TX6) (N := 10) (As := [.int (xs (i3 + 1).toNatClampNeg), .int (xs (i3 + 2).toNatClampNeg), .int (xs (i3 + 3).toNatClampNeg)]) (st := []) (rv := .int r) (m' := m1') dL_law_220 lkL_13 my_X6_place mv_X6_place (cqC_0 hsc) rfl (by decide) rfl rfl (Nat.le_of_ble_eq_true rfl) (NB_place_ok F.2.1.1 hsc ⟨_, e1, rfl, rfl⟩) ?_
  refine lAloadN F dL_law_223 (k := 1) rfl ?_
  refine lAloadN F dL_law_224 (k := 2) rfl ?_
  refine lIloadN F dL_law_225 (k := 3) rfl ?_
  refine lIconst F (v := 1) dL_law_226 k_1 ?_
  refine lIadd F dL_law_227 ?_
  refine lScr F dL_law_228 hi1 ?_
  refine lAloadN F dL_law_229 (k := 2) rfl ?_
  refine lIloadN F dL_law_230 (k := 3) rfl ?_
  refine lIconst F (v := 2) dL_law_231 k_2 ?_
  refine lIadd F dL_law_232 ?_
  refine lScr F dL_law_233 hi2 ?_
  refine lAloadN F dL_law_234 (k := 2) rfl ?_
  refine lIloadN F dL_law_235 (k := 3) rfl ?_
  refine lIconst F (v := 3) dL_law_236 k_3 ?_
  refine lIadd F dL_law_237 ?_
  refine lScr F dL_law_238 hi3 ?_
  refine lCallM F (x := 0) (d' := 1) (T := TX7) (N := 61) (As := [.int (xs (i3 + 1).toNatClampNeg), .int (xs (i3 + 2).toNatClampNeg), .int (xs (i3 + 3).toNatClampNeg)]) (st := [.int r]) (rv := .int r) (m' := m2') dL_law_239 lkL_17 my_X7_place mv_X7_place (cqM_0 hsr) rfl (by decide) rfl rfl (Nat.le_of_ble_eq_true rfl) (Mo_place_ok F.2.2.1.1 hsr ⟨_, e2, rfl, rfl⟩) ?_
  refine lSame F (tgt := 1434) dL_law_242 (by decide) ?_
  exact kk m1' m2' hI
set_option maxRecDepth 20000 in
set_option maxHeartbeats 4000000 in
theorem lw_case1 {Gc Gr : Gw} {X : Cx} {bA LN nc ns : Nat} {xs : Nat → Int32} {m1 m2 : Mm} {Inv : Mm → Mm → Prop} (hH1 : lwH1 Inv) (F : lwF Gc Gr X bA LN nc ns xs) (hsc : gsh Gc = shC) (hsr : gsh Gr = shM) {i3 : Int32} (hi1 : vp_in (i3 + 1) LN) (hi2 : vp_in (i3 + 2) LN) (hi3 : vp_in (i3 + 3) LN) (hi4 : vp_in (i3 + 4) LN) (hi5 : vp_in (i3 + 5) LN) (hI0 : Inv m1 m2) (kk : ∀ m1 m2, Inv m1 m2 → lwV Gc Gr X bA nc ns 1434 [(1, .ref (gr Gc 0)), (2, .ref (gr Gr 0)), (0, .ref bA), (3, .int i3)] [] m1 m2) : lwV Gc Gr X bA nc ns 247 [(1, .ref (gr Gc 0)), (2, .ref (gr Gr 0)), (0, .ref bA), (3, .int i3)] [] m1 m2 := by
  obtain ⟨r, m1', m2', e1, e2, hI⟩ := hH1 m1 m2 (xs (i3 + 1).toNatClampNeg) (xs (i3 + 2).toNatClampNeg) hI0
  refine lAloadN F dL_law_247 (k := 0) rfl ?_
  refine lAloadN F dL_law_248 (k := 2) rfl ?_
  refine lIloadN F dL_law_249 (k := 3) rfl ?_
  refine lIconst F (v := 1) dL_law_250 k_1 ?_
  refine lIadd F dL_law_251 ?_
  refine lScr F dL_law_252 hi1 ?_
  refine lAloadN F dL_law_253 (k := 2) rfl ?_
  refine lIloadN F dL_law_254 (k := 3) rfl ?_
  refine lIconst F (v := 2) dL_law_255 k_2 ?_
  refine lIadd F dL_law_256 ?_
  refine lScr F dL_law_257 hi2 ?_
  refine lCallC F (x := 0) (d' := 5) (T := TX6) (N := 10) (As := [.int (xs (i3 + 1).toNatClampNeg), .int (xs (i3 + 2).toNatClampNeg)]) (st := []) (rv := .int r) (m' := m1') dL_law_258 lkL_18 my_X6_of mv_X6_of (cqC_0 hsc) rfl (by decide) rfl rfl (Nat.le_of_ble_eq_true rfl) (NB_of_ok F.2.1.1 hsc ⟨_, e1, rfl, rfl⟩) ?_
  refine lAloadN F dL_law_261 (k := 1) rfl ?_
  refine lAloadN F dL_law_262 (k := 2) rfl ?_
  refine lIloadN F dL_law_263 (k := 3) rfl ?_
  refine lIconst F (v := 1) dL_law_264 k_1 ?_
  refine lIadd F dL_law_265 ?_
  refine lScr F dL_law_266 hi1 ?_
  refine lAloadN F dL_law_267 (k := 2) rfl ?_
  refine lIloadN F dL_law_268 (k := 3) rfl ?_
  refine lIconst F (v := 2) dL_law_269 k_2 ?_
  refine lIadd F dL_law_270 ?_
  refine lScr F dL_law_271 hi2 ?_
  refine lCallM F (x := 0) (d' := 4) (T := TX7) (N := 61) (As := [.int (xs (i3 + 1).toNatClampNeg), .int (xs (i3 + 2).toNatClampNeg)]) (st := [.int r]) (rv := .int r) (m' := m2') dL_law_272 lkL_22 my_X7_of mv_X7_of (cqM_0 hsr) rfl (by decide) rfl rfl (Nat.le_of_ble_eq_true rfl) (Mo_of_ok F.2.2.1.1 hsr ⟨_, e2, rfl, rfl⟩) ?_
  refine lSame F (tgt := 1434) dL_law_275 (by decide) ?_
  exact kk m1' m2' hI
set_option maxRecDepth 20000 in
set_option maxHeartbeats 4000000 in
theorem lw_case2 {Gc Gr : Gw} {X : Cx} {bA LN nc ns : Nat} {xs : Nat → Int32} {m1 m2 : Mm} {Inv : Mm → Mm → Prop} (hH2 : lwH2 Inv) (F : lwF Gc Gr X bA LN nc ns xs) (hsc : gsh Gc = shC) (hsr : gsh Gr = shM) {i3 : Int32} (hi1 : vp_in (i3 + 1) LN) (hi2 : vp_in (i3 + 2) LN) (hi3 : vp_in (i3 + 3) LN) (hi4 : vp_in (i3 + 4) LN) (hi5 : vp_in (i3 + 5) LN) (hI0 : Inv m1 m2) (kk : ∀ m1 m2, Inv m1 m2 → lwV Gc Gr X bA nc ns 1434 [(1, .ref (gr Gc 0)), (2, .ref (gr Gr 0)), (0, .ref bA), (3, .int i3)] [] m1 m2) : lwV Gc Gr X bA nc ns 280 [(1, .ref (gr Gc 0)), (2, .ref (gr Gr 0)), (0, .ref bA), (3, .int i3)] [] m1 m2 := by
  obtain ⟨r, m1', m2', e1, e2, hI⟩ := hH2 m1 m2 (xs (i3 + 1).toNatClampNeg) (xs (i3 + 2).toNatClampNeg) (xs (i3 + 3).toNatClampNeg) hI0
  refine lAloadN F dL_law_280 (k := 0) rfl ?_
  refine lAloadN F dL_law_281 (k := 2) rfl ?_
  refine lIloadN F dL_law_282 (k := 3) rfl ?_
  refine lIconst F (v := 1) dL_law_283 k_1 ?_
  refine lIadd F dL_law_284 ?_
  refine lScr F dL_law_285 hi1 ?_
  refine lAloadN F dL_law_286 (k := 2) rfl ?_
  refine lIloadN F dL_law_287 (k := 3) rfl ?_
  refine lIconst F (v := 2) dL_law_288 k_2 ?_
  refine lIadd F dL_law_289 ?_
  refine lScr F dL_law_290 hi2 ?_
  refine lAloadN F dL_law_291 (k := 2) rfl ?_
  refine lIloadN F dL_law_292 (k := 3) rfl ?_
  refine lIconst F (v := 3) dL_law_293 k_3 ?_
  refine lIadd F dL_law_294 ?_
  refine lScr F dL_law_295 hi3 ?_
  refine lCallC F (x := 0) (d' := 2) (T := TX6) (N := 10) (As := [.int (xs (i3 + 1).toNatClampNeg), .int (xs (i3 + 2).toNatClampNeg), .int (xs (i3 + 3).toNatClampNeg)]) (st := []) (rv := .int r) (m' := m1') dL_law_296 lkL_23 my_X6_road mv_X6_road (cqC_0 hsc) rfl (by decide) rfl rfl (Nat.le_of_ble_eq_true rfl) (NB_road_ok F.2.1.1 hsc ⟨_, e1, rfl, rfl⟩) ?_
  refine lAloadN F dL_law_299 (k := 1) rfl ?_
  refine lAloadN F dL_law_300 (k := 2) rfl ?_
  refine lIloadN F dL_law_301 (k := 3) rfl ?_
  refine lIconst F (v := 1) dL_law_302 k_1 ?_
  refine lIadd F dL_law_303 ?_
  refine lScr F dL_law_304 hi1 ?_
  refine lAloadN F dL_law_305 (k := 2) rfl ?_
  refine lIloadN F dL_law_306 (k := 3) rfl ?_
  refine lIconst F (v := 2) dL_law_307 k_2 ?_
  refine lIadd F dL_law_308 ?_
  refine lScr F dL_law_309 hi2 ?_
  refine lAloadN F dL_law_310 (k := 2) rfl ?_
  refine lIloadN F dL_law_311 (k := 3) rfl ?_
  refine lIconst F (v := 3) dL_law_312 k_3 ?_
  refine lIadd F dL_law_313 ?_
  refine lScr F dL_law_314 hi3 ?_
  refine lCallM F (x := 0) (d' := 3) (T := TX7) (N := 61) (As := [.int (xs (i3 + 1).toNatClampNeg), .int (xs (i3 + 2).toNatClampNeg), .int (xs (i3 + 3).toNatClampNeg)]) (st := [.int r]) (rv := .int r) (m' := m2') dL_law_315 lkL_26 my_X7_road mv_X7_road (cqM_0 hsr) rfl (by decide) rfl rfl (Nat.le_of_ble_eq_true rfl) (Mo_road_ok F.2.2.1.1 hsr ⟨_, e2, rfl, rfl⟩) ?_
  refine lSame F (tgt := 1434) dL_law_318 (by decide) ?_
  exact kk m1' m2' hI
set_option maxRecDepth 20000 in
set_option maxHeartbeats 4000000 in
theorem lw_case3 {Gc Gr : Gw} {X : Cx} {bA LN nc ns : Nat} {xs : Nat → Int32} {m1 m2 : Mm} {Inv : Mm → Mm → Prop} (hH3 : lwH3 Inv) (F : lwF Gc Gr X bA LN nc ns xs) (hsc : gsh Gc = shC) (hsr : gsh Gr = shM) {i3 : Int32} (hi1 : vp_in (i3 + 1) LN) (hi2 : vp_in (i3 + 2) LN) (hi3 : vp_in (i3 + 3) LN) (hi4 : vp_in (i3 + 4) LN) (hi5 : vp_in (i3 + 5) LN) (hI0 : Inv m1 m2) (kk : ∀ m1 m2, Inv m1 m2 → lwV Gc Gr X bA nc ns 1434 [(1, .ref (gr Gc 0)), (2, .ref (gr Gr 0)), (0, .ref bA), (3, .int i3)] [] m1 m2) : lwV Gc Gr X bA nc ns 323 [(1, .ref (gr Gc 0)), (2, .ref (gr Gr 0)), (0, .ref bA), (3, .int i3)] [] m1 m2 := by
  obtain ⟨r, m1', m2', e1, e2, hI⟩ := hH3 m1 m2 (xs (i3 + 1).toNatClampNeg) (xs (i3 + 2).toNatClampNeg) hI0
  refine lAloadN F dL_law_323 (k := 0) rfl ?_
  refine lAloadN F dL_law_324 (k := 2) rfl ?_
  refine lIloadN F dL_law_325 (k := 3) rfl ?_
  refine lIconst F (v := 1) dL_law_326 k_1 ?_
  refine lIadd F dL_law_327 ?_
  refine lScr F dL_law_328 hi1 ?_
  refine lAloadN F dL_law_329 (k := 2) rfl ?_
  refine lIloadN F dL_law_330 (k := 3) rfl ?_
  refine lIconst F (v := 2) dL_law_331 k_2 ?_
  refine lIadd F dL_law_332 ?_
  refine lScr F dL_law_333 hi2 ?_
  refine lCallC F (x := 0) (d' := 5) (T := TX6) (N := 10) (As := [.int (xs (i3 + 1).toNatClampNeg), .int (xs (i3 + 2).toNatClampNeg)]) (st := []) (rv := .int r) (m' := m1') dL_law_334 lkL_27 my_X6_far mv_X6_far (cqC_0 hsc) rfl (by decide) rfl rfl (Nat.le_of_ble_eq_true rfl) (NB_far_ok F.2.1.1 hsc ⟨_, e1, rfl, rfl⟩) ?_
  refine lAloadN F dL_law_337 (k := 1) rfl ?_
  refine lAloadN F dL_law_338 (k := 2) rfl ?_
  refine lIloadN F dL_law_339 (k := 3) rfl ?_
  refine lIconst F (v := 1) dL_law_340 k_1 ?_
  refine lIadd F dL_law_341 ?_
  refine lScr F dL_law_342 hi1 ?_
  refine lAloadN F dL_law_343 (k := 2) rfl ?_
  refine lIloadN F dL_law_344 (k := 3) rfl ?_
  refine lIconst F (v := 2) dL_law_345 k_2 ?_
  refine lIadd F dL_law_346 ?_
  refine lScr F dL_law_347 hi2 ?_
  refine lCallM F (x := 0) (d' := 5) (T := TX7) (N := 61) (As := [.int (xs (i3 + 1).toNatClampNeg), .int (xs (i3 + 2).toNatClampNeg)]) (st := [.int r]) (rv := .int r) (m' := m2') dL_law_348 lkL_30 my_X7_far mv_X7_far (cqM_0 hsr) rfl (by decide) rfl rfl (Nat.le_of_ble_eq_true rfl) (Mo_far_ok F.2.2.1.1 hsr ⟨_, e2, rfl, rfl⟩) ?_
  refine lSame F (tgt := 1434) dL_law_351 (by decide) ?_
  exact kk m1' m2' hI
set_option maxRecDepth 20000 in
set_option maxHeartbeats 4000000 in
theorem lw_case4 {Gc Gr : Gw} {X : Cx} {bA LN nc ns : Nat} {xs : Nat → Int32} {m1 m2 : Mm} {Inv : Mm → Mm → Prop} (hH4 : lwH4 Inv) (F : lwF Gc Gr X bA LN nc ns xs) (hsc : gsh Gc = shC) (hsr : gsh Gr = shM) {i3 : Int32} (hi1 : vp_in (i3 + 1) LN) (hi2 : vp_in (i3 + 2) LN) (hi3 : vp_in (i3 + 3) LN) (hi4 : vp_in (i3 + 4) LN) (hi5 : vp_in (i3 + 5) LN) (hI0 : Inv m1 m2) (kk : ∀ m1 m2, Inv m1 m2 → lwV Gc Gr X bA nc ns 1434 [(1, .ref (gr Gc 0)), (2, .ref (gr Gr 0)), (0, .ref bA), (3, .int i3)] [] m1 m2) : lwV Gc Gr X bA nc ns 356 [(1, .ref (gr Gc 0)), (2, .ref (gr Gr 0)), (0, .ref bA), (3, .int i3)] [] m1 m2 := by
  obtain ⟨r, m1', m2', e1, e2, hI⟩ := hH4 m1 m2 (xs (i3 + 1).toNatClampNeg) (xs (i3 + 2).toNatClampNeg) hI0
  refine lAloadN F dL_law_356 (k := 0) rfl ?_
  refine lAloadN F dL_law_357 (k := 2) rfl ?_
  refine lIloadN F dL_law_358 (k := 3) rfl ?_
  refine lIconst F (v := 1) dL_law_359 k_1 ?_
  refine lIadd F dL_law_360 ?_
  refine lScr F dL_law_361 hi1 ?_
  refine lAloadN F dL_law_362 (k := 2) rfl ?_
  refine lIloadN F dL_law_363 (k := 3) rfl ?_
  refine lIconst F (v := 2) dL_law_364 k_2 ?_
  refine lIadd F dL_law_365 ?_
  refine lScr F dL_law_366 hi2 ?_
  refine lCallC F (x := 0) (d' := 2) (T := TX6) (N := 10) (As := [.int (xs (i3 + 1).toNatClampNeg), .int (xs (i3 + 2).toNatClampNeg)]) (st := []) (rv := .int r) (m' := m1') dL_law_367 lkL_31 my_X6_name mv_X6_name (cqC_0 hsc) rfl (by decide) rfl rfl (Nat.le_of_ble_eq_true rfl) (NB_name_ok F.2.1.1 hsc ⟨_, e1, rfl, rfl⟩) ?_
  refine lAloadN F dL_law_370 (k := 1) rfl ?_
  refine lAloadN F dL_law_371 (k := 2) rfl ?_
  refine lIloadN F dL_law_372 (k := 3) rfl ?_
  refine lIconst F (v := 1) dL_law_373 k_1 ?_
  refine lIadd F dL_law_374 ?_
  refine lScr F dL_law_375 hi1 ?_
  refine lAloadN F dL_law_376 (k := 2) rfl ?_
  refine lIloadN F dL_law_377 (k := 3) rfl ?_
  refine lIconst F (v := 2) dL_law_378 k_2 ?_
  refine lIadd F dL_law_379 ?_
  refine lScr F dL_law_380 hi2 ?_
  refine lCallM F (x := 0) (d' := 3) (T := TX7) (N := 61) (As := [.int (xs (i3 + 1).toNatClampNeg), .int (xs (i3 + 2).toNatClampNeg)]) (st := [.int r]) (rv := .int r) (m' := m2') dL_law_381 lkL_34 my_X7_name mv_X7_name (cqM_0 hsr) rfl (by decide) rfl rfl (Nat.le_of_ble_eq_true rfl) (Mo_name_ok F.2.2.1.1 hsr ⟨_, e2, rfl, rfl⟩) ?_
  refine lSame F (tgt := 1434) dL_law_384 (by decide) ?_
  exact kk m1' m2' hI
set_option maxRecDepth 20000 in
set_option maxHeartbeats 4000000 in
theorem lw_case5 {Gc Gr : Gw} {X : Cx} {bA LN nc ns : Nat} {xs : Nat → Int32} {m1 m2 : Mm} {Inv : Mm → Mm → Prop} (hH5 : lwH5 Inv) (F : lwF Gc Gr X bA LN nc ns xs) (hsc : gsh Gc = shC) (hsr : gsh Gr = shM) {i3 : Int32} (hi1 : vp_in (i3 + 1) LN) (hi2 : vp_in (i3 + 2) LN) (hi3 : vp_in (i3 + 3) LN) (hi4 : vp_in (i3 + 4) LN) (hi5 : vp_in (i3 + 5) LN) (hI0 : Inv m1 m2) (kk : ∀ m1 m2, Inv m1 m2 → lwV Gc Gr X bA nc ns 1434 [(1, .ref (gr Gc 0)), (2, .ref (gr Gr 0)), (0, .ref bA), (3, .int i3)] [] m1 m2) : lwV Gc Gr X bA nc ns 389 [(1, .ref (gr Gc 0)), (2, .ref (gr Gr 0)), (0, .ref bA), (3, .int i3)] [] m1 m2 := by
  obtain ⟨r, m1', m2', e1, e2, hI⟩ := hH5 m1 m2 (xs (i3 + 1).toNatClampNeg) (xs (i3 + 2).toNatClampNeg) hI0
  refine lAloadN F dL_law_389 (k := 0) rfl ?_
  refine lAloadN F dL_law_390 (k := 2) rfl ?_
  refine lIloadN F dL_law_391 (k := 3) rfl ?_
  refine lIconst F (v := 1) dL_law_392 k_1 ?_
  refine lIadd F dL_law_393 ?_
  refine lScr F dL_law_394 hi1 ?_
  refine lAloadN F dL_law_395 (k := 2) rfl ?_
  refine lIloadN F dL_law_396 (k := 3) rfl ?_
  refine lIconst F (v := 2) dL_law_397 k_2 ?_
  refine lIadd F dL_law_398 ?_
  refine lScr F dL_law_399 hi2 ?_
  refine lCallC F (x := 0) (d' := 1) (T := TX6) (N := 10) (As := [.int (xs (i3 + 1).toNatClampNeg), .int (xs (i3 + 2).toNatClampNeg)]) (st := []) (rv := .int r) (m' := m1') dL_law_400 lkL_35 my_X6_strike mv_X6_strike (cqC_0 hsc) rfl (by decide) rfl rfl (Nat.le_of_ble_eq_true rfl) (NB_strike_ok F.2.1.1 hsc ⟨_, e1, rfl, rfl⟩) ?_
  refine lAloadN F dL_law_403 (k := 1) rfl ?_
  refine lAloadN F dL_law_404 (k := 2) rfl ?_
  refine lIloadN F dL_law_405 (k := 3) rfl ?_
  refine lIconst F (v := 1) dL_law_406 k_1 ?_
  refine lIadd F dL_law_407 ?_
  refine lScr F dL_law_408 hi1 ?_
  refine lAloadN F dL_law_409 (k := 2) rfl ?_
  refine lIloadN F dL_law_410 (k := 3) rfl ?_
  refine lIconst F (v := 2) dL_law_411 k_2 ?_
  refine lIadd F dL_law_412 ?_
  refine lScr F dL_law_413 hi2 ?_
  refine lCallM F (x := 0) (d' := 3) (T := TX7) (N := 61) (As := [.int (xs (i3 + 1).toNatClampNeg), .int (xs (i3 + 2).toNatClampNeg)]) (st := [.int r]) (rv := .int r) (m' := m2') dL_law_414 lkL_38 my_X7_strike mv_X7_strike (cqM_0 hsr) rfl (by decide) rfl rfl (Nat.le_of_ble_eq_true rfl) (Mo_strike_ok F.2.2.1.1 hsr ⟨_, e2, rfl, rfl⟩) ?_
  refine lSame F (tgt := 1434) dL_law_417 (by decide) ?_
  exact kk m1' m2' hI
set_option maxRecDepth 20000 in
set_option maxHeartbeats 4000000 in
theorem lw_case6 {Gc Gr : Gw} {X : Cx} {bA LN nc ns : Nat} {xs : Nat → Int32} {m1 m2 : Mm} {Inv : Mm → Mm → Prop} (hH6 : lwH6 Inv) (F : lwF Gc Gr X bA LN nc ns xs) (hsc : gsh Gc = shC) (hsr : gsh Gr = shM) {i3 : Int32} (hi1 : vp_in (i3 + 1) LN) (hi2 : vp_in (i3 + 2) LN) (hi3 : vp_in (i3 + 3) LN) (hi4 : vp_in (i3 + 4) LN) (hi5 : vp_in (i3 + 5) LN) (hI0 : Inv m1 m2) (kk : ∀ m1 m2, Inv m1 m2 → lwV Gc Gr X bA nc ns 1434 [(1, .ref (gr Gc 0)), (2, .ref (gr Gr 0)), (0, .ref bA), (3, .int i3)] [] m1 m2) : lwV Gc Gr X bA nc ns 422 [(1, .ref (gr Gc 0)), (2, .ref (gr Gr 0)), (0, .ref bA), (3, .int i3)] [] m1 m2 := by
  obtain ⟨r, m1', m2', e1, e2, hI⟩ := hH6 m1 m2 (xs (i3 + 1).toNatClampNeg) (xs (i3 + 2).toNatClampNeg) (xs (i3 + 3).toNatClampNeg) hI0
  refine lAloadN F dL_law_422 (k := 0) rfl ?_
  refine lAloadN F dL_law_423 (k := 2) rfl ?_
  refine lIloadN F dL_law_424 (k := 3) rfl ?_
  refine lIconst F (v := 1) dL_law_425 k_1 ?_
  refine lIadd F dL_law_426 ?_
  refine lScr F dL_law_427 hi1 ?_
  refine lAloadN F dL_law_428 (k := 2) rfl ?_
  refine lIloadN F dL_law_429 (k := 3) rfl ?_
  refine lIconst F (v := 2) dL_law_430 k_2 ?_
  refine lIadd F dL_law_431 ?_
  refine lScr F dL_law_432 hi2 ?_
  refine lAloadN F dL_law_433 (k := 2) rfl ?_
  refine lIloadN F dL_law_434 (k := 3) rfl ?_
  refine lIconst F (v := 3) dL_law_435 k_3 ?_
  refine lIadd F dL_law_436 ?_
  refine lScr F dL_law_437 hi3 ?_
  refine lCallC F (x := 0) (d' := 1) (T := TX6) (N := 10) (As := [.int (xs (i3 + 1).toNatClampNeg), .int (xs (i3 + 2).toNatClampNeg), .int (xs (i3 + 3).toNatClampNeg)]) (st := []) (rv := .int r) (m' := m1') dL_law_438 lkL_39 my_X6_traveller mv_X6_traveller (cqC_0 hsc) rfl (by decide) rfl rfl (Nat.le_of_ble_eq_true rfl) (NB_traveller_ok F.2.1.1 hsc ⟨_, e1, rfl, rfl⟩) ?_
  refine lAloadN F dL_law_441 (k := 1) rfl ?_
  refine lAloadN F dL_law_442 (k := 2) rfl ?_
  refine lIloadN F dL_law_443 (k := 3) rfl ?_
  refine lIconst F (v := 1) dL_law_444 k_1 ?_
  refine lIadd F dL_law_445 ?_
  refine lScr F dL_law_446 hi1 ?_
  refine lAloadN F dL_law_447 (k := 2) rfl ?_
  refine lIloadN F dL_law_448 (k := 3) rfl ?_
  refine lIconst F (v := 2) dL_law_449 k_2 ?_
  refine lIadd F dL_law_450 ?_
  refine lScr F dL_law_451 hi2 ?_
  refine lAloadN F dL_law_452 (k := 2) rfl ?_
  refine lIloadN F dL_law_453 (k := 3) rfl ?_
  refine lIconst F (v := 3) dL_law_454 k_3 ?_
  refine lIadd F dL_law_455 ?_
  refine lScr F dL_law_456 hi3 ?_
  refine lCallM F (x := 0) (d' := 3) (T := TX7) (N := 61) (As := [.int (xs (i3 + 1).toNatClampNeg), .int (xs (i3 + 2).toNatClampNeg), .int (xs (i3 + 3).toNatClampNeg)]) (st := [.int r]) (rv := .int r) (m' := m2') dL_law_457 lkL_42 my_X7_traveller mv_X7_traveller (cqM_0 hsr) rfl (by decide) rfl rfl (Nat.le_of_ble_eq_true rfl) (Mo_traveller_ok F.2.2.1.1 hsr ⟨_, e2, rfl, rfl⟩) ?_
  refine lSame F (tgt := 1434) dL_law_460 (by decide) ?_
  exact kk m1' m2' hI
set_option maxRecDepth 20000 in
set_option maxHeartbeats 4000000 in
theorem lw_case7 {Gc Gr : Gw} {X : Cx} {bA LN nc ns : Nat} {xs : Nat → Int32} {m1 m2 : Mm} {Inv : Mm → Mm → Prop} (hH7 : lwH7 Inv) (F : lwF Gc Gr X bA LN nc ns xs) (hsc : gsh Gc = shC) (hsr : gsh Gr = shM) {i3 : Int32} (hi1 : vp_in (i3 + 1) LN) (hi2 : vp_in (i3 + 2) LN) (hi3 : vp_in (i3 + 3) LN) (hi4 : vp_in (i3 + 4) LN) (hi5 : vp_in (i3 + 5) LN) (hI0 : Inv m1 m2) (kk : ∀ m1 m2, Inv m1 m2 → lwV Gc Gr X bA nc ns 1434 [(1, .ref (gr Gc 0)), (2, .ref (gr Gr 0)), (0, .ref bA), (3, .int i3)] [] m1 m2) : lwV Gc Gr X bA nc ns 465 [(1, .ref (gr Gc 0)), (2, .ref (gr Gr 0)), (0, .ref bA), (3, .int i3)] [] m1 m2 := by
  obtain ⟨r, m1', m2', e1, e2, hI⟩ := hH7 m1 m2 (xs (i3 + 1).toNatClampNeg) hI0
  refine lAloadN F dL_law_465 (k := 0) rfl ?_
  refine lAloadN F dL_law_466 (k := 2) rfl ?_
  refine lIloadN F dL_law_467 (k := 3) rfl ?_
  refine lIconst F (v := 1) dL_law_468 k_1 ?_
  refine lIadd F dL_law_469 ?_
  refine lScr F dL_law_470 hi1 ?_
  refine lCallC F (x := 0) (d' := 1) (T := TX6) (N := 10) (As := [.int (xs (i3 + 1).toNatClampNeg)]) (st := []) (rv := .int r) (m' := m1') dL_law_471 lkL_43 my_X6_feed mv_X6_feed (cqC_0 hsc) rfl (by decide) rfl rfl (Nat.le_of_ble_eq_true rfl) (NB_feed_ok F.2.1.1 hsc ⟨_, e1, rfl, rfl⟩) ?_
  refine lAloadN F dL_law_474 (k := 1) rfl ?_
  refine lAloadN F dL_law_475 (k := 2) rfl ?_
  refine lIloadN F dL_law_476 (k := 3) rfl ?_
  refine lIconst F (v := 1) dL_law_477 k_1 ?_
  refine lIadd F dL_law_478 ?_
  refine lScr F dL_law_479 hi1 ?_
  refine lCallM F (x := 0) (d' := 1) (T := TX7) (N := 61) (As := [.int (xs (i3 + 1).toNatClampNeg)]) (st := [.int r]) (rv := .int r) (m' := m2') dL_law_480 lkL_47 my_X7_feed mv_X7_feed (cqM_0 hsr) rfl (by decide) rfl rfl (Nat.le_of_ble_eq_true rfl) (Mo_feed_ok F.2.2.1.1 hsr ⟨_, e2, rfl, rfl⟩) ?_
  refine lSame F (tgt := 1434) dL_law_483 (by decide) ?_
  exact kk m1' m2' hI
set_option maxRecDepth 20000 in
set_option maxHeartbeats 4000000 in
theorem lw_case8 {Gc Gr : Gw} {X : Cx} {bA LN nc ns : Nat} {xs : Nat → Int32} {m1 m2 : Mm} {Inv : Mm → Mm → Prop} (hH8 : lwH8 Inv) (F : lwF Gc Gr X bA LN nc ns xs) (hsc : gsh Gc = shC) (hsr : gsh Gr = shM) {i3 : Int32} (hi1 : vp_in (i3 + 1) LN) (hi2 : vp_in (i3 + 2) LN) (hi3 : vp_in (i3 + 3) LN) (hi4 : vp_in (i3 + 4) LN) (hi5 : vp_in (i3 + 5) LN) (hI0 : Inv m1 m2) (kk : ∀ m1 m2, Inv m1 m2 → lwV Gc Gr X bA nc ns 1434 [(1, .ref (gr Gc 0)), (2, .ref (gr Gr 0)), (0, .ref bA), (3, .int i3)] [] m1 m2) : lwV Gc Gr X bA nc ns 488 [(1, .ref (gr Gc 0)), (2, .ref (gr Gr 0)), (0, .ref bA), (3, .int i3)] [] m1 m2 := by
  obtain ⟨r, m1', m2', e1, e2, hI⟩ := hH8 m1 m2 hI0
  refine lAloadN F dL_law_488 (k := 0) rfl ?_
  refine lCallC F (x := 0) (d' := 24) (T := TX6) (N := 10) (As := []) (st := []) (rv := .int r) (m' := m1') dL_law_489 lkL_48 my_X6_land mv_X6_land (cqC_0 hsc) rfl (by decide) rfl rfl (Nat.le_of_ble_eq_true rfl) (NB_land_ok F.2.1.1 hsc ⟨_, e1, rfl, rfl⟩) ?_
  refine lAloadN F dL_law_492 (k := 1) rfl ?_
  refine lCallM F (x := 0) (d' := 7) (T := TX7) (N := 61) (As := []) (st := [.int r]) (rv := .int r) (m' := m2') dL_law_493 lkL_52 my_X7_land mv_X7_land (cqM_0 hsr) rfl (by decide) rfl rfl (Nat.le_of_ble_eq_true rfl) (Mo_land_ok F.2.2.1.1 hsr ⟨_, e2, rfl, rfl⟩) ?_
  refine lSame F (tgt := 1434) dL_law_496 (by decide) ?_
  exact kk m1' m2' hI
set_option maxRecDepth 20000 in
set_option maxHeartbeats 4000000 in
theorem lw_case9 {Gc Gr : Gw} {X : Cx} {bA LN nc ns : Nat} {xs : Nat → Int32} {m1 m2 : Mm} {Inv : Mm → Mm → Prop} (hH9 : lwH9 Inv) (F : lwF Gc Gr X bA LN nc ns xs) (hsc : gsh Gc = shC) (hsr : gsh Gr = shM) {i3 : Int32} (hi1 : vp_in (i3 + 1) LN) (hi2 : vp_in (i3 + 2) LN) (hi3 : vp_in (i3 + 3) LN) (hi4 : vp_in (i3 + 4) LN) (hi5 : vp_in (i3 + 5) LN) (hI0 : Inv m1 m2) (kk : ∀ m1 m2, Inv m1 m2 → lwV Gc Gr X bA nc ns 1434 [(1, .ref (gr Gc 0)), (2, .ref (gr Gr 0)), (0, .ref bA), (3, .int i3)] [] m1 m2) : lwV Gc Gr X bA nc ns 501 [(1, .ref (gr Gc 0)), (2, .ref (gr Gr 0)), (0, .ref bA), (3, .int i3)] [] m1 m2 := by
  obtain ⟨r, e1, e2, hI⟩ := hH9 m1 m2 (xs (i3 + 1).toNatClampNeg) hI0
  refine lAloadN F dL_law_501 (k := 0) rfl ?_
  refine lAloadN F dL_law_502 (k := 2) rfl ?_
  refine lIloadN F dL_law_503 (k := 3) rfl ?_
  refine lIconst F (v := 1) dL_law_504 k_1 ?_
  refine lIadd F dL_law_505 ?_
  refine lScr F dL_law_506 hi1 ?_
  refine lCallC F (x := 0) (d' := 2) (T := TX6) (N := 10) (As := [.int (xs (i3 + 1).toNatClampNeg)]) (st := []) (rv := .int r) (m' := m1) dL_law_507 lkL_53 my_X6_told mv_X6_told (cqC_0 hsc) rfl (by decide) rfl rfl (Nat.le_of_ble_eq_true rfl) (NB_told_ok F.2.1.1 hsc ⟨_, e1, rfl, rfl⟩) ?_
  refine lAloadN F dL_law_510 (k := 1) rfl ?_
  refine lAloadN F dL_law_511 (k := 2) rfl ?_
  refine lIloadN F dL_law_512 (k := 3) rfl ?_
  refine lIconst F (v := 1) dL_law_513 k_1 ?_
  refine lIadd F dL_law_514 ?_
  refine lScr F dL_law_515 hi1 ?_
  refine lCallM F (x := 0) (d' := 2) (T := TX7) (N := 61) (As := [.int (xs (i3 + 1).toNatClampNeg)]) (st := [.int r]) (rv := .int r) (m' := m2) dL_law_516 lkL_56 my_X7_told mv_X7_told (cqM_0 hsr) rfl (by decide) rfl rfl (Nat.le_of_ble_eq_true rfl) (Mo_told_ok F.2.2.1.1 hsr ⟨_, e2, rfl, rfl⟩) ?_
  refine lSame F (tgt := 1434) dL_law_519 (by decide) ?_
  exact kk m1 m2 hI
set_option maxRecDepth 20000 in
set_option maxHeartbeats 4000000 in
theorem lw_case10 {Gc Gr : Gw} {X : Cx} {bA LN nc ns : Nat} {xs : Nat → Int32} {m1 m2 : Mm} {Inv : Mm → Mm → Prop} (hH10 : lwH10 Inv) (F : lwF Gc Gr X bA LN nc ns xs) (hsc : gsh Gc = shC) (hsr : gsh Gr = shM) {i3 : Int32} (hi1 : vp_in (i3 + 1) LN) (hi2 : vp_in (i3 + 2) LN) (hi3 : vp_in (i3 + 3) LN) (hi4 : vp_in (i3 + 4) LN) (hi5 : vp_in (i3 + 5) LN) (hI0 : Inv m1 m2) (kk : ∀ m1 m2, Inv m1 m2 → lwV Gc Gr X bA nc ns 1434 [(1, .ref (gr Gc 0)), (2, .ref (gr Gr 0)), (0, .ref bA), (3, .int i3)] [] m1 m2) : lwV Gc Gr X bA nc ns 524 [(1, .ref (gr Gc 0)), (2, .ref (gr Gr 0)), (0, .ref bA), (3, .int i3)] [] m1 m2 := by
  obtain ⟨r, m1', m2', e1, e2, hI⟩ := hH10 m1 m2 (xs (i3 + 1).toNatClampNeg) (xs (i3 + 2).toNatClampNeg) hI0
  refine lAloadN F dL_law_524 (k := 0) rfl ?_
  refine lAloadN F dL_law_525 (k := 2) rfl ?_
  refine lIloadN F dL_law_526 (k := 3) rfl ?_
  refine lIconst F (v := 1) dL_law_527 k_1 ?_
  refine lIadd F dL_law_528 ?_
  refine lScr F dL_law_529 hi1 ?_
  refine lAloadN F dL_law_530 (k := 2) rfl ?_
  refine lIloadN F dL_law_531 (k := 3) rfl ?_
  refine lIconst F (v := 2) dL_law_532 k_2 ?_
  refine lIadd F dL_law_533 ?_
  refine lScr F dL_law_534 hi2 ?_
  refine lCallC F (x := 0) (d' := 5) (T := TX6) (N := 10) (As := [.int (xs (i3 + 1).toNatClampNeg), .int (xs (i3 + 2).toNatClampNeg)]) (st := []) (rv := .int r) (m' := m1') dL_law_535 lkL_57 my_X6_way mv_X6_way (cqC_0 hsc) rfl (by decide) rfl rfl (Nat.le_of_ble_eq_true rfl) (NB_way_ok F.2.1.1 hsc ⟨_, e1, rfl, rfl⟩) ?_
  refine lAloadN F dL_law_538 (k := 1) rfl ?_
  refine lAloadN F dL_law_539 (k := 2) rfl ?_
  refine lIloadN F dL_law_540 (k := 3) rfl ?_
  refine lIconst F (v := 1) dL_law_541 k_1 ?_
  refine lIadd F dL_law_542 ?_
  refine lScr F dL_law_543 hi1 ?_
  refine lAloadN F dL_law_544 (k := 2) rfl ?_
  refine lIloadN F dL_law_545 (k := 3) rfl ?_
  refine lIconst F (v := 2) dL_law_546 k_2 ?_
  refine lIadd F dL_law_547 ?_
  refine lScr F dL_law_548 hi2 ?_
  refine lCallM F (x := 0) (d' := 5) (T := TX7) (N := 61) (As := [.int (xs (i3 + 1).toNatClampNeg), .int (xs (i3 + 2).toNatClampNeg)]) (st := [.int r]) (rv := .int r) (m' := m2') dL_law_549 lkL_60 my_X7_way mv_X7_way (cqM_0 hsr) rfl (by decide) rfl rfl (Nat.le_of_ble_eq_true rfl) (Mo_way_ok F.2.2.1.1 hsr ⟨_, e2, rfl, rfl⟩) ?_
  refine lSame F (tgt := 1434) dL_law_552 (by decide) ?_
  exact kk m1' m2' hI
set_option maxRecDepth 20000 in
set_option maxHeartbeats 4000000 in
theorem lw_case11 {Gc Gr : Gw} {X : Cx} {bA LN nc ns : Nat} {xs : Nat → Int32} {m1 m2 : Mm} {Inv : Mm → Mm → Prop} (hH11 : lwH11 Inv) (F : lwF Gc Gr X bA LN nc ns xs) (hsc : gsh Gc = shC) (hsr : gsh Gr = shM) {i3 : Int32} (hi1 : vp_in (i3 + 1) LN) (hi2 : vp_in (i3 + 2) LN) (hi3 : vp_in (i3 + 3) LN) (hi4 : vp_in (i3 + 4) LN) (hi5 : vp_in (i3 + 5) LN) (hI0 : Inv m1 m2) (kk : ∀ m1 m2, Inv m1 m2 → lwV Gc Gr X bA nc ns 1434 [(1, .ref (gr Gc 0)), (2, .ref (gr Gr 0)), (0, .ref bA), (3, .int i3)] [] m1 m2) : lwV Gc Gr X bA nc ns 557 [(1, .ref (gr Gc 0)), (2, .ref (gr Gr 0)), (0, .ref bA), (3, .int i3)] [] m1 m2 := by
  obtain ⟨r, m1', m2', e1, e2, hI⟩ := hH11 m1 m2 (xs (i3 + 1).toNatClampNeg) (xs (i3 + 2).toNatClampNeg) hI0
  refine lAloadN F dL_law_557 (k := 0) rfl ?_
  refine lAloadN F dL_law_558 (k := 2) rfl ?_
  refine lIloadN F dL_law_559 (k := 3) rfl ?_
  refine lIconst F (v := 1) dL_law_560 k_1 ?_
  refine lIadd F dL_law_561 ?_
  refine lScr F dL_law_562 hi1 ?_
  refine lAloadN F dL_law_563 (k := 2) rfl ?_
  refine lIloadN F dL_law_564 (k := 3) rfl ?_
  refine lIconst F (v := 2) dL_law_565 k_2 ?_
  refine lIadd F dL_law_566 ?_
  refine lScr F dL_law_567 hi2 ?_
  refine lCallC F (x := 0) (d' := 5) (T := TX6) (N := 10) (As := [.int (xs (i3 + 1).toNatClampNeg), .int (xs (i3 + 2).toNatClampNeg)]) (st := []) (rv := .int r) (m' := m1') dL_law_568 lkL_61 my_X6_toward mv_X6_toward (cqC_0 hsc) rfl (by decide) rfl rfl (Nat.le_of_ble_eq_true rfl) (NB_toward_ok F.2.1.1 hsc ⟨_, e1, rfl, rfl⟩) ?_
  refine lAloadN F dL_law_571 (k := 1) rfl ?_
  refine lAloadN F dL_law_572 (k := 2) rfl ?_
  refine lIloadN F dL_law_573 (k := 3) rfl ?_
  refine lIconst F (v := 1) dL_law_574 k_1 ?_
  refine lIadd F dL_law_575 ?_
  refine lScr F dL_law_576 hi1 ?_
  refine lAloadN F dL_law_577 (k := 2) rfl ?_
  refine lIloadN F dL_law_578 (k := 3) rfl ?_
  refine lIconst F (v := 2) dL_law_579 k_2 ?_
  refine lIadd F dL_law_580 ?_
  refine lScr F dL_law_581 hi2 ?_
  refine lCallM F (x := 0) (d' := 5) (T := TX7) (N := 61) (As := [.int (xs (i3 + 1).toNatClampNeg), .int (xs (i3 + 2).toNatClampNeg)]) (st := [.int r]) (rv := .int r) (m' := m2') dL_law_582 lkL_64 my_X7_toward mv_X7_toward (cqM_0 hsr) rfl (by decide) rfl rfl (Nat.le_of_ble_eq_true rfl) (Mo_toward_ok F.2.2.1.1 hsr ⟨_, e2, rfl, rfl⟩) ?_
  refine lSame F (tgt := 1434) dL_law_585 (by decide) ?_
  exact kk m1' m2' hI
set_option maxRecDepth 20000 in
set_option maxHeartbeats 4000000 in
theorem lw_case12 {Gc Gr : Gw} {X : Cx} {bA LN nc ns : Nat} {xs : Nat → Int32} {m1 m2 : Mm} {Inv : Mm → Mm → Prop} (hH12 : lwH12 Inv) (F : lwF Gc Gr X bA LN nc ns xs) (hsc : gsh Gc = shC) (hsr : gsh Gr = shM) {i3 : Int32} (hi1 : vp_in (i3 + 1) LN) (hi2 : vp_in (i3 + 2) LN) (hi3 : vp_in (i3 + 3) LN) (hi4 : vp_in (i3 + 4) LN) (hi5 : vp_in (i3 + 5) LN) (hI0 : Inv m1 m2) (kk : ∀ m1 m2, Inv m1 m2 → lwV Gc Gr X bA nc ns 1434 [(1, .ref (gr Gc 0)), (2, .ref (gr Gr 0)), (0, .ref bA), (3, .int i3)] [] m1 m2) : lwV Gc Gr X bA nc ns 590 [(1, .ref (gr Gc 0)), (2, .ref (gr Gr 0)), (0, .ref bA), (3, .int i3)] [] m1 m2 := by
  obtain ⟨r, m1', m2', e1, e2, hI⟩ := hH12 m1 m2 (xs (i3 + 1).toNatClampNeg) (xs (i3 + 2).toNatClampNeg) hI0
  refine lAloadN F dL_law_590 (k := 0) rfl ?_
  refine lAloadN F dL_law_591 (k := 2) rfl ?_
  refine lIloadN F dL_law_592 (k := 3) rfl ?_
  refine lIconst F (v := 1) dL_law_593 k_1 ?_
  refine lIadd F dL_law_594 ?_
  refine lScr F dL_law_595 hi1 ?_
  refine lAloadN F dL_law_596 (k := 2) rfl ?_
  refine lIloadN F dL_law_597 (k := 3) rfl ?_
  refine lIconst F (v := 2) dL_law_598 k_2 ?_
  refine lIadd F dL_law_599 ?_
  refine lScr F dL_law_600 hi2 ?_
  refine lCallC F (x := 0) (d' := 5) (T := TX6) (N := 10) (As := [.int (xs (i3 + 1).toNatClampNeg), .int (xs (i3 + 2).toNatClampNeg)]) (st := []) (rv := .int r) (m' := m1') dL_law_601 lkL_65 my_X6_next mv_X6_next (cqC_0 hsc) rfl (by decide) rfl rfl (Nat.le_of_ble_eq_true rfl) (NB_next_ok F.2.1.1 hsc ⟨_, e1, rfl, rfl⟩) ?_
  refine lAloadN F dL_law_604 (k := 1) rfl ?_
  refine lAloadN F dL_law_605 (k := 2) rfl ?_
  refine lIloadN F dL_law_606 (k := 3) rfl ?_
  refine lIconst F (v := 1) dL_law_607 k_1 ?_
  refine lIadd F dL_law_608 ?_
  refine lScr F dL_law_609 hi1 ?_
  refine lAloadN F dL_law_610 (k := 2) rfl ?_
  refine lIloadN F dL_law_611 (k := 3) rfl ?_
  refine lIconst F (v := 2) dL_law_612 k_2 ?_
  refine lIadd F dL_law_613 ?_
  refine lScr F dL_law_614 hi2 ?_
  refine lCallM F (x := 0) (d' := 5) (T := TX7) (N := 61) (As := [.int (xs (i3 + 1).toNatClampNeg), .int (xs (i3 + 2).toNatClampNeg)]) (st := [.int r]) (rv := .int r) (m' := m2') dL_law_615 lkL_68 my_X7_next mv_X7_next (cqM_0 hsr) rfl (by decide) rfl rfl (Nat.le_of_ble_eq_true rfl) (Mo_next_ok F.2.2.1.1 hsr ⟨_, e2, rfl, rfl⟩) ?_
  refine lSame F (tgt := 1434) dL_law_618 (by decide) ?_
  exact kk m1' m2' hI
set_option maxRecDepth 20000 in
set_option maxHeartbeats 4000000 in
theorem lw_case13 {Gc Gr : Gw} {X : Cx} {bA LN nc ns : Nat} {xs : Nat → Int32} {m1 m2 : Mm} {Inv : Mm → Mm → Prop} (hH13 : lwH13 Inv) (F : lwF Gc Gr X bA LN nc ns xs) (hsc : gsh Gc = shC) (hsr : gsh Gr = shM) {i3 : Int32} (hi1 : vp_in (i3 + 1) LN) (hi2 : vp_in (i3 + 2) LN) (hi3 : vp_in (i3 + 3) LN) (hi4 : vp_in (i3 + 4) LN) (hi5 : vp_in (i3 + 5) LN) (hI0 : Inv m1 m2) (kk : ∀ m1 m2, Inv m1 m2 → lwV Gc Gr X bA nc ns 1434 [(1, .ref (gr Gc 0)), (2, .ref (gr Gr 0)), (0, .ref bA), (3, .int i3)] [] m1 m2) : lwV Gc Gr X bA nc ns 623 [(1, .ref (gr Gc 0)), (2, .ref (gr Gr 0)), (0, .ref bA), (3, .int i3)] [] m1 m2 := by
  obtain ⟨r, m1', m2', e1, e2, hI⟩ := hH13 m1 m2 (xs (i3 + 1).toNatClampNeg) (xs (i3 + 2).toNatClampNeg) (xs (i3 + 3).toNatClampNeg) hI0
  refine lAloadN F dL_law_623 (k := 0) rfl ?_
  refine lAloadN F dL_law_624 (k := 2) rfl ?_
  refine lIloadN F dL_law_625 (k := 3) rfl ?_
  refine lIconst F (v := 1) dL_law_626 k_1 ?_
  refine lIadd F dL_law_627 ?_
  refine lScr F dL_law_628 hi1 ?_
  refine lAloadN F dL_law_629 (k := 2) rfl ?_
  refine lIloadN F dL_law_630 (k := 3) rfl ?_
  refine lIconst F (v := 2) dL_law_631 k_2 ?_
  refine lIadd F dL_law_632 ?_
  refine lScr F dL_law_633 hi2 ?_
  refine lAloadN F dL_law_634 (k := 2) rfl ?_
  refine lIloadN F dL_law_635 (k := 3) rfl ?_
  refine lIconst F (v := 3) dL_law_636 k_3 ?_
  refine lIadd F dL_law_637 ?_
  refine lScr F dL_law_638 hi3 ?_
  refine lCallC F (x := 0) (d' := 5) (T := TX6) (N := 10) (As := [.int (xs (i3 + 1).toNatClampNeg), .int (xs (i3 + 2).toNatClampNeg), .int (xs (i3 + 3).toNatClampNeg)]) (st := []) (rv := .int r) (m' := m1') dL_law_639 lkL_69 my_X6_gone mv_X6_gone (cqC_0 hsc) rfl (by decide) rfl rfl (Nat.le_of_ble_eq_true rfl) (NB_gone_ok F.2.1.1 hsc ⟨_, e1, rfl, rfl⟩) ?_
  refine lAloadN F dL_law_642 (k := 1) rfl ?_
  refine lAloadN F dL_law_643 (k := 2) rfl ?_
  refine lIloadN F dL_law_644 (k := 3) rfl ?_
  refine lIconst F (v := 1) dL_law_645 k_1 ?_
  refine lIadd F dL_law_646 ?_
  refine lScr F dL_law_647 hi1 ?_
  refine lAloadN F dL_law_648 (k := 2) rfl ?_
  refine lIloadN F dL_law_649 (k := 3) rfl ?_
  refine lIconst F (v := 2) dL_law_650 k_2 ?_
  refine lIadd F dL_law_651 ?_
  refine lScr F dL_law_652 hi2 ?_
  refine lAloadN F dL_law_653 (k := 2) rfl ?_
  refine lIloadN F dL_law_654 (k := 3) rfl ?_
  refine lIconst F (v := 3) dL_law_655 k_3 ?_
  refine lIadd F dL_law_656 ?_
  refine lScr F dL_law_657 hi3 ?_
  refine lCallM F (x := 0) (d' := 5) (T := TX7) (N := 61) (As := [.int (xs (i3 + 1).toNatClampNeg), .int (xs (i3 + 2).toNatClampNeg), .int (xs (i3 + 3).toNatClampNeg)]) (st := [.int r]) (rv := .int r) (m' := m2') dL_law_658 lkL_72 my_X7_gone mv_X7_gone (cqM_0 hsr) rfl (by decide) rfl rfl (Nat.le_of_ble_eq_true rfl) (Mo_gone_ok F.2.2.1.1 hsr ⟨_, e2, rfl, rfl⟩) ?_
  refine lSame F (tgt := 1434) dL_law_661 (by decide) ?_
  exact kk m1' m2' hI
set_option maxRecDepth 20000 in
set_option maxHeartbeats 4000000 in
theorem lw_case14 {Gc Gr : Gw} {X : Cx} {bA LN nc ns : Nat} {xs : Nat → Int32} {m1 m2 : Mm} {Inv : Mm → Mm → Prop} (hH14 : lwH14 Inv) (F : lwF Gc Gr X bA LN nc ns xs) (hsc : gsh Gc = shC) (hsr : gsh Gr = shM) {i3 : Int32} (hi1 : vp_in (i3 + 1) LN) (hi2 : vp_in (i3 + 2) LN) (hi3 : vp_in (i3 + 3) LN) (hi4 : vp_in (i3 + 4) LN) (hi5 : vp_in (i3 + 5) LN) (hI0 : Inv m1 m2) (kk : ∀ m1 m2, Inv m1 m2 → lwV Gc Gr X bA nc ns 1434 [(1, .ref (gr Gc 0)), (2, .ref (gr Gr 0)), (0, .ref bA), (3, .int i3)] [] m1 m2) : lwV Gc Gr X bA nc ns 666 [(1, .ref (gr Gc 0)), (2, .ref (gr Gr 0)), (0, .ref bA), (3, .int i3)] [] m1 m2 := by
  obtain ⟨r, m1', m2', e1, e2, hI⟩ := hH14 m1 m2 (xs (i3 + 1).toNatClampNeg) hI0
  refine lAloadN F dL_law_666 (k := 0) rfl ?_
  refine lAloadN F dL_law_667 (k := 2) rfl ?_
  refine lIloadN F dL_law_668 (k := 3) rfl ?_
  refine lIconst F (v := 1) dL_law_669 k_1 ?_
  refine lIadd F dL_law_670 ?_
  refine lScr F dL_law_671 hi1 ?_
  refine lCallC F (x := 0) (d' := 5) (T := TX6) (N := 10) (As := [.int (xs (i3 + 1).toNatClampNeg)]) (st := []) (rv := .int r) (m' := m1') dL_law_672 lkL_73 my_X6_lost mv_X6_lost (cqC_0 hsc) rfl (by decide) rfl rfl (Nat.le_of_ble_eq_true rfl) (NB_lost_ok F.2.1.1 hsc ⟨_, e1, rfl, rfl⟩) ?_
  refine lAloadN F dL_law_675 (k := 1) rfl ?_
  refine lAloadN F dL_law_676 (k := 2) rfl ?_
  refine lIloadN F dL_law_677 (k := 3) rfl ?_
  refine lIconst F (v := 1) dL_law_678 k_1 ?_
  refine lIadd F dL_law_679 ?_
  refine lScr F dL_law_680 hi1 ?_
  refine lCallM F (x := 0) (d' := 6) (T := TX7) (N := 61) (As := [.int (xs (i3 + 1).toNatClampNeg)]) (st := [.int r]) (rv := .int r) (m' := m2') dL_law_681 lkL_76 my_X7_lost mv_X7_lost (cqM_0 hsr) rfl (by decide) rfl rfl (Nat.le_of_ble_eq_true rfl) (Mo_lost_ok F.2.2.1.1 hsr ⟨_, e2, rfl, rfl⟩) ?_
  refine lSame F (tgt := 1434) dL_law_684 (by decide) ?_
  exact kk m1' m2' hI
set_option maxRecDepth 20000 in
set_option maxHeartbeats 4000000 in
theorem lw_case15 {Gc Gr : Gw} {X : Cx} {bA LN nc ns : Nat} {xs : Nat → Int32} {m1 m2 : Mm} {Inv : Mm → Mm → Prop} (hH15 : lwH15 Inv) (F : lwF Gc Gr X bA LN nc ns xs) (hsc : gsh Gc = shC) (hsr : gsh Gr = shM) {i3 : Int32} (hi1 : vp_in (i3 + 1) LN) (hi2 : vp_in (i3 + 2) LN) (hi3 : vp_in (i3 + 3) LN) (hi4 : vp_in (i3 + 4) LN) (hi5 : vp_in (i3 + 5) LN) (hI0 : Inv m1 m2) (kk : ∀ m1 m2, Inv m1 m2 → lwV Gc Gr X bA nc ns 1434 [(1, .ref (gr Gc 0)), (2, .ref (gr Gr 0)), (0, .ref bA), (3, .int i3)] [] m1 m2) : lwV Gc Gr X bA nc ns 689 [(1, .ref (gr Gc 0)), (2, .ref (gr Gr 0)), (0, .ref bA), (3, .int i3)] [] m1 m2 := by
  obtain ⟨r, m1', m2', e1, e2, hI⟩ := hH15 m1 m2 (xs (i3 + 1).toNatClampNeg) hI0
  refine lAloadN F dL_law_689 (k := 0) rfl ?_
  refine lAloadN F dL_law_690 (k := 2) rfl ?_
  refine lIloadN F dL_law_691 (k := 3) rfl ?_
  refine lIconst F (v := 1) dL_law_692 k_1 ?_
  refine lIadd F dL_law_693 ?_
  refine lScr F dL_law_694 hi1 ?_
  refine lCallC F (x := 0) (d' := 5) (T := TX6) (N := 10) (As := [.int (xs (i3 + 1).toNatClampNeg)]) (st := []) (rv := .int r) (m' := m1') dL_law_695 lkL_77 my_X6_longest mv_X6_longest (cqC_0 hsc) rfl (by decide) rfl rfl (Nat.le_of_ble_eq_true rfl) (NB_longest_ok F.2.1.1 hsc ⟨_, e1, rfl, rfl⟩) ?_
  refine lAloadN F dL_law_698 (k := 1) rfl ?_
  refine lAloadN F dL_law_699 (k := 2) rfl ?_
  refine lIloadN F dL_law_700 (k := 3) rfl ?_
  refine lIconst F (v := 1) dL_law_701 k_1 ?_
  refine lIadd F dL_law_702 ?_
  refine lScr F dL_law_703 hi1 ?_
  refine lCallM F (x := 0) (d' := 5) (T := TX7) (N := 61) (As := [.int (xs (i3 + 1).toNatClampNeg)]) (st := [.int r]) (rv := .int r) (m' := m2') dL_law_704 lkL_80 my_X7_longest mv_X7_longest (cqM_0 hsr) rfl (by decide) rfl rfl (Nat.le_of_ble_eq_true rfl) (Mo_longest_ok F.2.2.1.1 hsr ⟨_, e2, rfl, rfl⟩) ?_
  refine lSame F (tgt := 1434) dL_law_707 (by decide) ?_
  exact kk m1' m2' hI
set_option maxRecDepth 20000 in
set_option maxHeartbeats 4000000 in
theorem lw_case16 {Gc Gr : Gw} {X : Cx} {bA LN nc ns : Nat} {xs : Nat → Int32} {m1 m2 : Mm} {Inv : Mm → Mm → Prop} (hH16 : lwH16 Inv) (F : lwF Gc Gr X bA LN nc ns xs) (hsc : gsh Gc = shC) (hsr : gsh Gr = shM) {i3 : Int32} (hi1 : vp_in (i3 + 1) LN) (hi2 : vp_in (i3 + 2) LN) (hi3 : vp_in (i3 + 3) LN) (hi4 : vp_in (i3 + 4) LN) (hi5 : vp_in (i3 + 5) LN) (hI0 : Inv m1 m2) (kk : ∀ m1 m2, Inv m1 m2 → lwV Gc Gr X bA nc ns 1434 [(1, .ref (gr Gc 0)), (2, .ref (gr Gr 0)), (0, .ref bA), (3, .int i3)] [] m1 m2) : lwV Gc Gr X bA nc ns 712 [(1, .ref (gr Gc 0)), (2, .ref (gr Gr 0)), (0, .ref bA), (3, .int i3)] [] m1 m2 := by
  obtain ⟨r, m1', m2', e1, e2, hI⟩ := hH16 m1 m2 (xs (i3 + 1).toNatClampNeg) hI0
  refine lAloadN F dL_law_712 (k := 0) rfl ?_
  refine lAloadN F dL_law_713 (k := 2) rfl ?_
  refine lIloadN F dL_law_714 (k := 3) rfl ?_
  refine lIconst F (v := 1) dL_law_715 k_1 ?_
  refine lIadd F dL_law_716 ?_
  refine lScr F dL_law_717 hi1 ?_
  refine lCallC F (x := 0) (d' := 6) (T := TX6) (N := 10) (As := [.int (xs (i3 + 1).toNatClampNeg)]) (st := []) (rv := .int r) (m' := m1') dL_law_718 lkL_81 my_X6_put mv_X6_put (cqC_0 hsc) rfl (by decide) rfl rfl (Nat.le_of_ble_eq_true rfl) (NB_put_ok F.2.1.1 hsc ⟨_, e1, rfl, rfl⟩) ?_
  refine lAloadN F dL_law_721 (k := 1) rfl ?_
  refine lAloadN F dL_law_722 (k := 2) rfl ?_
  refine lIloadN F dL_law_723 (k := 3) rfl ?_
  refine lIconst F (v := 1) dL_law_724 k_1 ?_
  refine lIadd F dL_law_725 ?_
  refine lScr F dL_law_726 hi1 ?_
  refine lCallM F (x := 0) (d' := 6) (T := TX7) (N := 61) (As := [.int (xs (i3 + 1).toNatClampNeg)]) (st := [.int r]) (rv := .int r) (m' := m2') dL_law_727 lkL_84 my_X7_put mv_X7_put (cqM_0 hsr) rfl (by decide) rfl rfl (Nat.le_of_ble_eq_true rfl) (Mo_put_ok F.2.2.1.1 hsr ⟨_, e2, rfl, rfl⟩) ?_
  refine lSame F (tgt := 1434) dL_law_730 (by decide) ?_
  exact kk m1' m2' hI
set_option maxRecDepth 20000 in
set_option maxHeartbeats 4000000 in
theorem lw_case17 {Gc Gr : Gw} {X : Cx} {bA LN nc ns : Nat} {xs : Nat → Int32} {m1 m2 : Mm} {Inv : Mm → Mm → Prop} (hH17 : lwH17 Inv) (F : lwF Gc Gr X bA LN nc ns xs) (hsc : gsh Gc = shC) (hsr : gsh Gr = shM) {i3 : Int32} (hi1 : vp_in (i3 + 1) LN) (hi2 : vp_in (i3 + 2) LN) (hi3 : vp_in (i3 + 3) LN) (hi4 : vp_in (i3 + 4) LN) (hi5 : vp_in (i3 + 5) LN) (hI0 : Inv m1 m2) (kk : ∀ m1 m2, Inv m1 m2 → lwV Gc Gr X bA nc ns 1434 [(1, .ref (gr Gc 0)), (2, .ref (gr Gr 0)), (0, .ref bA), (3, .int i3)] [] m1 m2) : lwV Gc Gr X bA nc ns 735 [(1, .ref (gr Gc 0)), (2, .ref (gr Gr 0)), (0, .ref bA), (3, .int i3)] [] m1 m2 := by
  obtain ⟨r, m1', m2', e1, e2, hI⟩ := hH17 m1 m2 (xs (i3 + 1).toNatClampNeg) hI0
  refine lAloadN F dL_law_735 (k := 0) rfl ?_
  refine lAloadN F dL_law_736 (k := 2) rfl ?_
  refine lIloadN F dL_law_737 (k := 3) rfl ?_
  refine lIconst F (v := 1) dL_law_738 k_1 ?_
  refine lIadd F dL_law_739 ?_
  refine lScr F dL_law_740 hi1 ?_
  refine lCallC F (x := 0) (d' := 6) (T := TX6) (N := 10) (As := [.int (xs (i3 + 1).toNatClampNeg)]) (st := []) (rv := .int r) (m' := m1') dL_law_741 lkL_85 my_X6_worst mv_X6_worst (cqC_0 hsc) rfl (by decide) rfl rfl (Nat.le_of_ble_eq_true rfl) (NB_worst_ok F.2.1.1 hsc ⟨_, e1, rfl, rfl⟩) ?_
  refine lAloadN F dL_law_744 (k := 1) rfl ?_
  refine lAloadN F dL_law_745 (k := 2) rfl ?_
  refine lIloadN F dL_law_746 (k := 3) rfl ?_
  refine lIconst F (v := 1) dL_law_747 k_1 ?_
  refine lIadd F dL_law_748 ?_
  refine lScr F dL_law_749 hi1 ?_
  refine lCallM F (x := 0) (d' := 6) (T := TX7) (N := 61) (As := [.int (xs (i3 + 1).toNatClampNeg)]) (st := [.int r]) (rv := .int r) (m' := m2') dL_law_750 lkL_88 my_X7_worst mv_X7_worst (cqM_0 hsr) rfl (by decide) rfl rfl (Nat.le_of_ble_eq_true rfl) (Mo_worst_ok F.2.2.1.1 hsr ⟨_, e2, rfl, rfl⟩) ?_
  refine lSame F (tgt := 1434) dL_law_753 (by decide) ?_
  exact kk m1' m2' hI
set_option maxRecDepth 20000 in
set_option maxHeartbeats 4000000 in
theorem lw_case18 {Gc Gr : Gw} {X : Cx} {bA LN nc ns : Nat} {xs : Nat → Int32} {m1 m2 : Mm} {Inv : Mm → Mm → Prop} (hH18 : lwH18 Inv) (F : lwF Gc Gr X bA LN nc ns xs) (hsc : gsh Gc = shC) (hsr : gsh Gr = shM) {i3 : Int32} (hi1 : vp_in (i3 + 1) LN) (hi2 : vp_in (i3 + 2) LN) (hi3 : vp_in (i3 + 3) LN) (hi4 : vp_in (i3 + 4) LN) (hi5 : vp_in (i3 + 5) LN) (hI0 : Inv m1 m2) (kk : ∀ m1 m2, Inv m1 m2 → lwV Gc Gr X bA nc ns 1434 [(1, .ref (gr Gc 0)), (2, .ref (gr Gr 0)), (0, .ref bA), (3, .int i3)] [] m1 m2) : lwV Gc Gr X bA nc ns 758 [(1, .ref (gr Gc 0)), (2, .ref (gr Gr 0)), (0, .ref bA), (3, .int i3)] [] m1 m2 := by
  obtain ⟨r, m1', m2', e1, e2, hI⟩ := hH18 m1 m2 (xs (i3 + 1).toNatClampNeg) (xs (i3 + 2).toNatClampNeg) hI0
  refine lAloadN F dL_law_758 (k := 0) rfl ?_
  refine lAloadN F dL_law_759 (k := 2) rfl ?_
  refine lIloadN F dL_law_760 (k := 3) rfl ?_
  refine lIconst F (v := 1) dL_law_761 k_1 ?_
  refine lIadd F dL_law_762 ?_
  refine lScr F dL_law_763 hi1 ?_
  refine lAloadN F dL_law_764 (k := 2) rfl ?_
  refine lIloadN F dL_law_765 (k := 3) rfl ?_
  refine lIconst F (v := 2) dL_law_766 k_2 ?_
  refine lIadd F dL_law_767 ?_
  refine lScr F dL_law_768 hi2 ?_
  refine lCallC F (x := 0) (d' := 5) (T := TX6) (N := 10) (As := [.int (xs (i3 + 1).toNatClampNeg), .int (xs (i3 + 2).toNatClampNeg)]) (st := []) (rv := .int r) (m' := m1') dL_law_769 lkL_89 my_X6_turned mv_X6_turned (cqC_0 hsc) rfl (by decide) rfl rfl (Nat.le_of_ble_eq_true rfl) (NB_turned_ok F.2.1.1 hsc ⟨_, e1, rfl, rfl⟩) ?_
  refine lAloadN F dL_law_772 (k := 1) rfl ?_
  refine lAloadN F dL_law_773 (k := 2) rfl ?_
  refine lIloadN F dL_law_774 (k := 3) rfl ?_
  refine lIconst F (v := 1) dL_law_775 k_1 ?_
  refine lIadd F dL_law_776 ?_
  refine lScr F dL_law_777 hi1 ?_
  refine lAloadN F dL_law_778 (k := 2) rfl ?_
  refine lIloadN F dL_law_779 (k := 3) rfl ?_
  refine lIconst F (v := 2) dL_law_780 k_2 ?_
  refine lIadd F dL_law_781 ?_
  refine lScr F dL_law_782 hi2 ?_
  refine lCallM F (x := 0) (d' := 6) (T := TX7) (N := 61) (As := [.int (xs (i3 + 1).toNatClampNeg), .int (xs (i3 + 2).toNatClampNeg)]) (st := [.int r]) (rv := .int r) (m' := m2') dL_law_783 lkL_92 my_X7_turned mv_X7_turned (cqM_0 hsr) rfl (by decide) rfl rfl (Nat.le_of_ble_eq_true rfl) (Mo_turned_ok F.2.2.1.1 hsr ⟨_, e2, rfl, rfl⟩) ?_
  refine lSame F (tgt := 1434) dL_law_786 (by decide) ?_
  exact kk m1' m2' hI
set_option maxRecDepth 20000 in
set_option maxHeartbeats 4000000 in
theorem lw_case19 {Gc Gr : Gw} {X : Cx} {bA LN nc ns : Nat} {xs : Nat → Int32} {m1 m2 : Mm} {Inv : Mm → Mm → Prop} (hH19 : lwH19 Inv) (F : lwF Gc Gr X bA LN nc ns xs) (hsc : gsh Gc = shC) (hsr : gsh Gr = shM) {i3 : Int32} (hi1 : vp_in (i3 + 1) LN) (hi2 : vp_in (i3 + 2) LN) (hi3 : vp_in (i3 + 3) LN) (hi4 : vp_in (i3 + 4) LN) (hi5 : vp_in (i3 + 5) LN) (hI0 : Inv m1 m2) (kk : ∀ m1 m2, Inv m1 m2 → lwV Gc Gr X bA nc ns 1434 [(1, .ref (gr Gc 0)), (2, .ref (gr Gr 0)), (0, .ref bA), (3, .int i3)] [] m1 m2) : lwV Gc Gr X bA nc ns 791 [(1, .ref (gr Gc 0)), (2, .ref (gr Gr 0)), (0, .ref bA), (3, .int i3)] [] m1 m2 := by
  obtain ⟨r, e1, e2, hI⟩ := hH19 m1 m2 (xs (i3 + 1).toNatClampNeg) (xs (i3 + 2).toNatClampNeg) hI0
  refine lAloadN F dL_law_791 (k := 0) rfl ?_
  refine lAloadN F dL_law_792 (k := 2) rfl ?_
  refine lIloadN F dL_law_793 (k := 3) rfl ?_
  refine lIconst F (v := 1) dL_law_794 k_1 ?_
  refine lIadd F dL_law_795 ?_
  refine lScr F dL_law_796 hi1 ?_
  refine lAloadN F dL_law_797 (k := 2) rfl ?_
  refine lIloadN F dL_law_798 (k := 3) rfl ?_
  refine lIconst F (v := 2) dL_law_799 k_2 ?_
  refine lIadd F dL_law_800 ?_
  refine lScr F dL_law_801 hi2 ?_
  refine lCallC F (x := 0) (d' := 1) (T := TX6) (N := 10) (As := [.int (xs (i3 + 1).toNatClampNeg), .int (xs (i3 + 2).toNatClampNeg)]) (st := []) (rv := .int r) (m' := m1) dL_law_802 lkL_93 my_X6_chain mv_X6_chain (cqC_0 hsc) rfl (by decide) rfl rfl (Nat.le_of_ble_eq_true rfl) (NB_chain_ok F.2.1.1 hsc ⟨_, e1, rfl, rfl⟩) ?_
  refine lAloadN F dL_law_805 (k := 1) rfl ?_
  refine lAloadN F dL_law_806 (k := 2) rfl ?_
  refine lIloadN F dL_law_807 (k := 3) rfl ?_
  refine lIconst F (v := 1) dL_law_808 k_1 ?_
  refine lIadd F dL_law_809 ?_
  refine lScr F dL_law_810 hi1 ?_
  refine lAloadN F dL_law_811 (k := 2) rfl ?_
  refine lIloadN F dL_law_812 (k := 3) rfl ?_
  refine lIconst F (v := 2) dL_law_813 k_2 ?_
  refine lIadd F dL_law_814 ?_
  refine lScr F dL_law_815 hi2 ?_
  refine lCallM F (x := 0) (d' := 3) (T := TX7) (N := 61) (As := [.int (xs (i3 + 1).toNatClampNeg), .int (xs (i3 + 2).toNatClampNeg)]) (st := [.int r]) (rv := .int r) (m' := m2) dL_law_816 lkL_96 my_X7_chain mv_X7_chain (cqM_0 hsr) rfl (by decide) rfl rfl (Nat.le_of_ble_eq_true rfl) (Mo_chain_ok F.2.2.1.1 hsr ⟨_, e2, rfl, rfl⟩) ?_
  refine lSame F (tgt := 1434) dL_law_819 (by decide) ?_
  exact kk m1 m2 hI
set_option maxRecDepth 20000 in
set_option maxHeartbeats 4000000 in
theorem lw_case20 {Gc Gr : Gw} {X : Cx} {bA LN nc ns : Nat} {xs : Nat → Int32} {m1 m2 : Mm} {Inv : Mm → Mm → Prop} (hH20 : lwH20 Inv) (F : lwF Gc Gr X bA LN nc ns xs) (hsc : gsh Gc = shC) (hsr : gsh Gr = shM) {i3 : Int32} (hi1 : vp_in (i3 + 1) LN) (hi2 : vp_in (i3 + 2) LN) (hi3 : vp_in (i3 + 3) LN) (hi4 : vp_in (i3 + 4) LN) (hi5 : vp_in (i3 + 5) LN) (hI0 : Inv m1 m2) (kk : ∀ m1 m2, Inv m1 m2 → lwV Gc Gr X bA nc ns 1434 [(1, .ref (gr Gc 0)), (2, .ref (gr Gr 0)), (0, .ref bA), (3, .int i3)] [] m1 m2) : lwV Gc Gr X bA nc ns 824 [(1, .ref (gr Gc 0)), (2, .ref (gr Gr 0)), (0, .ref bA), (3, .int i3)] [] m1 m2 := by
  obtain ⟨r, e1, e2, hI⟩ := hH20 m1 m2 (xs (i3 + 1).toNatClampNeg) hI0
  refine lAloadN F dL_law_824 (k := 0) rfl ?_
  refine lAloadN F dL_law_825 (k := 2) rfl ?_
  refine lIloadN F dL_law_826 (k := 3) rfl ?_
  refine lIconst F (v := 1) dL_law_827 k_1 ?_
  refine lIadd F dL_law_828 ?_
  refine lScr F dL_law_829 hi1 ?_
  refine lCallC F (x := 0) (d' := 1) (T := TX6) (N := 10) (As := [.int (xs (i3 + 1).toNatClampNeg)]) (st := []) (rv := .int r) (m' := m1) dL_law_830 lkL_97 my_X6_allIn mv_X6_allIn (cqC_0 hsc) rfl (by decide) rfl rfl (Nat.le_of_ble_eq_true rfl) (NB_allIn_ok F.2.1.1 hsc ⟨_, e1, rfl, rfl⟩) ?_
  refine lAloadN F dL_law_833 (k := 1) rfl ?_
  refine lAloadN F dL_law_834 (k := 2) rfl ?_
  refine lIloadN F dL_law_835 (k := 3) rfl ?_
  refine lIconst F (v := 1) dL_law_836 k_1 ?_
  refine lIadd F dL_law_837 ?_
  refine lScr F dL_law_838 hi1 ?_
  refine lCallM F (x := 0) (d' := 2) (T := TX7) (N := 61) (As := [.int (xs (i3 + 1).toNatClampNeg)]) (st := [.int r]) (rv := .int r) (m' := m2) dL_law_839 lkL_100 my_X7_allIn mv_X7_allIn (cqM_0 hsr) rfl (by decide) rfl rfl (Nat.le_of_ble_eq_true rfl) (Mo_allIn_ok F.2.2.1.1 hsr ⟨_, e2, rfl, rfl⟩) ?_
  refine lSame F (tgt := 1434) dL_law_842 (by decide) ?_
  exact kk m1 m2 hI
set_option maxRecDepth 20000 in
set_option maxHeartbeats 4000000 in
theorem lw_case21 {Gc Gr : Gw} {X : Cx} {bA LN nc ns : Nat} {xs : Nat → Int32} {m1 m2 : Mm} {Inv : Mm → Mm → Prop} (hH21 : lwH21 Inv) (F : lwF Gc Gr X bA LN nc ns xs) (hsc : gsh Gc = shC) (hsr : gsh Gr = shM) {i3 : Int32} (hi1 : vp_in (i3 + 1) LN) (hi2 : vp_in (i3 + 2) LN) (hi3 : vp_in (i3 + 3) LN) (hi4 : vp_in (i3 + 4) LN) (hi5 : vp_in (i3 + 5) LN) (hI0 : Inv m1 m2) (kk : ∀ m1 m2, Inv m1 m2 → lwV Gc Gr X bA nc ns 1434 [(1, .ref (gr Gc 0)), (2, .ref (gr Gr 0)), (0, .ref bA), (3, .int i3)] [] m1 m2) : lwV Gc Gr X bA nc ns 847 [(1, .ref (gr Gc 0)), (2, .ref (gr Gr 0)), (0, .ref bA), (3, .int i3)] [] m1 m2 := by
  obtain ⟨r, e1, e2, hI⟩ := hH21 m1 m2 hI0
  refine lAloadN F dL_law_847 (k := 0) rfl ?_
  refine lCallC F (x := 0) (d' := 1) (T := TX6) (N := 10) (As := []) (st := []) (rv := .int r) (m' := m1) dL_law_848 lkL_101 my_X6_capitals mv_X6_capitals (cqC_0 hsc) rfl (by decide) rfl rfl (Nat.le_of_ble_eq_true rfl) (NB_capitals_ok F.2.1.1 hsc ⟨_, e1, rfl, rfl⟩) ?_
  refine lAloadN F dL_law_851 (k := 1) rfl ?_
  refine lCallM F (x := 0) (d' := 1) (T := TX7) (N := 61) (As := []) (st := [.int r]) (rv := .int r) (m' := m2) dL_law_852 lkL_104 my_X7_capitals mv_X7_capitals (cqM_0 hsr) rfl (by decide) rfl rfl (Nat.le_of_ble_eq_true rfl) (Mo_capitals_ok F.2.2.1.1 hsr ⟨_, e2, rfl, rfl⟩) ?_
  refine lSame F (tgt := 1434) dL_law_855 (by decide) ?_
  exact kk m1 m2 hI
set_option maxRecDepth 20000 in
set_option maxHeartbeats 4000000 in
theorem lw_case22 {Gc Gr : Gw} {X : Cx} {bA LN nc ns : Nat} {xs : Nat → Int32} {m1 m2 : Mm} {Inv : Mm → Mm → Prop} (hH22 : lwH22 Inv) (F : lwF Gc Gr X bA LN nc ns xs) (hsc : gsh Gc = shC) (hsr : gsh Gr = shM) {i3 : Int32} (hi1 : vp_in (i3 + 1) LN) (hi2 : vp_in (i3 + 2) LN) (hi3 : vp_in (i3 + 3) LN) (hi4 : vp_in (i3 + 4) LN) (hi5 : vp_in (i3 + 5) LN) (hI0 : Inv m1 m2) (kk : ∀ m1 m2, Inv m1 m2 → lwV Gc Gr X bA nc ns 1434 [(1, .ref (gr Gc 0)), (2, .ref (gr Gr 0)), (0, .ref bA), (3, .int i3)] [] m1 m2) : lwV Gc Gr X bA nc ns 860 [(1, .ref (gr Gc 0)), (2, .ref (gr Gr 0)), (0, .ref bA), (3, .int i3)] [] m1 m2 := by
  obtain ⟨r, m1', m2', e1, e2, hI⟩ := hH22 m1 m2 (xs (i3 + 1).toNatClampNeg) (xs (i3 + 2).toNatClampNeg) hI0
  refine lAloadN F dL_law_860 (k := 0) rfl ?_
  refine lAloadN F dL_law_861 (k := 2) rfl ?_
  refine lIloadN F dL_law_862 (k := 3) rfl ?_
  refine lIconst F (v := 1) dL_law_863 k_1 ?_
  refine lIadd F dL_law_864 ?_
  refine lScr F dL_law_865 hi1 ?_
  refine lAloadN F dL_law_866 (k := 2) rfl ?_
  refine lIloadN F dL_law_867 (k := 3) rfl ?_
  refine lIconst F (v := 2) dL_law_868 k_2 ?_
  refine lIadd F dL_law_869 ?_
  refine lScr F dL_law_870 hi2 ?_
  refine lCallC F (x := 0) (d' := 6) (T := TX6) (N := 10) (As := [.int (xs (i3 + 1).toNatClampNeg), .int (xs (i3 + 2).toNatClampNeg)]) (st := []) (rv := .int r) (m' := m1') dL_law_871 lkL_105 my_X6_newRoad mv_X6_newRoad (cqC_0 hsc) rfl (by decide) rfl rfl (Nat.le_of_ble_eq_true rfl) (NB_newRoad_ok F.2.1.1 hsc ⟨_, e1, rfl, rfl⟩) ?_
  refine lAloadN F dL_law_874 (k := 1) rfl ?_
  refine lAloadN F dL_law_875 (k := 2) rfl ?_
  refine lIloadN F dL_law_876 (k := 3) rfl ?_
  refine lIconst F (v := 1) dL_law_877 k_1 ?_
  refine lIadd F dL_law_878 ?_
  refine lScr F dL_law_879 hi1 ?_
  refine lAloadN F dL_law_880 (k := 2) rfl ?_
  refine lIloadN F dL_law_881 (k := 3) rfl ?_
  refine lIconst F (v := 2) dL_law_882 k_2 ?_
  refine lIadd F dL_law_883 ?_
  refine lScr F dL_law_884 hi2 ?_
  refine lCallM F (x := 0) (d' := 6) (T := TX7) (N := 61) (As := [.int (xs (i3 + 1).toNatClampNeg), .int (xs (i3 + 2).toNatClampNeg)]) (st := [.int r]) (rv := .int r) (m' := m2') dL_law_885 lkL_108 my_X7_newRoad mv_X7_newRoad (cqM_0 hsr) rfl (by decide) rfl rfl (Nat.le_of_ble_eq_true rfl) (Mo_newRoad_ok F.2.2.1.1 hsr ⟨_, e2, rfl, rfl⟩) ?_
  refine lSame F (tgt := 1434) dL_law_888 (by decide) ?_
  exact kk m1' m2' hI
set_option maxRecDepth 20000 in
set_option maxHeartbeats 4000000 in
theorem lw_case23 {Gc Gr : Gw} {X : Cx} {bA LN nc ns : Nat} {xs : Nat → Int32} {m1 m2 : Mm} {Inv : Mm → Mm → Prop} (hH23 : lwH23 Inv) (F : lwF Gc Gr X bA LN nc ns xs) (hsc : gsh Gc = shC) (hsr : gsh Gr = shM) {i3 : Int32} (hi1 : vp_in (i3 + 1) LN) (hi2 : vp_in (i3 + 2) LN) (hi3 : vp_in (i3 + 3) LN) (hi4 : vp_in (i3 + 4) LN) (hi5 : vp_in (i3 + 5) LN) (hI0 : Inv m1 m2) (kk : ∀ m1 m2, Inv m1 m2 → lwV Gc Gr X bA nc ns 1434 [(1, .ref (gr Gc 0)), (2, .ref (gr Gr 0)), (0, .ref bA), (3, .int i3)] [] m1 m2) : lwV Gc Gr X bA nc ns 893 [(1, .ref (gr Gc 0)), (2, .ref (gr Gr 0)), (0, .ref bA), (3, .int i3)] [] m1 m2 := by
  obtain ⟨r, m1', m2', e1, e2, hI⟩ := hH23 m1 m2 (xs (i3 + 1).toNatClampNeg) hI0
  refine lAloadN F dL_law_893 (k := 0) rfl ?_
  refine lAloadN F dL_law_894 (k := 2) rfl ?_
  refine lIloadN F dL_law_895 (k := 3) rfl ?_
  refine lIconst F (v := 1) dL_law_896 k_1 ?_
  refine lIadd F dL_law_897 ?_
  refine lScr F dL_law_898 hi1 ?_
  refine lCallC F (x := 0) (d' := 5) (T := TX6) (N := 10) (As := [.int (xs (i3 + 1).toNatClampNeg)]) (st := []) (rv := .int r) (m' := m1') dL_law_899 lkL_109 my_X6_gets mv_X6_gets (cqC_0 hsc) rfl (by decide) rfl rfl (Nat.le_of_ble_eq_true rfl) (NB_gets_ok F.2.1.1 hsc ⟨_, e1, rfl, rfl⟩) ?_
  refine lAloadN F dL_law_902 (k := 1) rfl ?_
  refine lAloadN F dL_law_903 (k := 2) rfl ?_
  refine lIloadN F dL_law_904 (k := 3) rfl ?_
  refine lIconst F (v := 1) dL_law_905 k_1 ?_
  refine lIadd F dL_law_906 ?_
  refine lScr F dL_law_907 hi1 ?_
  refine lCallM F (x := 0) (d' := 5) (T := TX7) (N := 61) (As := [.int (xs (i3 + 1).toNatClampNeg)]) (st := [.int r]) (rv := .int r) (m' := m2') dL_law_908 lkL_112 my_X7_gets mv_X7_gets (cqM_0 hsr) rfl (by decide) rfl rfl (Nat.le_of_ble_eq_true rfl) (Mo_gets_ok F.2.2.1.1 hsr ⟨_, e2, rfl, rfl⟩) ?_
  refine lSame F (tgt := 1434) dL_law_911 (by decide) ?_
  exact kk m1' m2' hI
set_option maxRecDepth 20000 in
set_option maxHeartbeats 4000000 in
theorem lw_case24 {Gc Gr : Gw} {X : Cx} {bA LN nc ns : Nat} {xs : Nat → Int32} {m1 m2 : Mm} {Inv : Mm → Mm → Prop} (hH24 : lwH24 Inv) (F : lwF Gc Gr X bA LN nc ns xs) (hsc : gsh Gc = shC) (hsr : gsh Gr = shM) {i3 : Int32} (hi1 : vp_in (i3 + 1) LN) (hi2 : vp_in (i3 + 2) LN) (hi3 : vp_in (i3 + 3) LN) (hi4 : vp_in (i3 + 4) LN) (hi5 : vp_in (i3 + 5) LN) (hI0 : Inv m1 m2) (kk : ∀ m1 m2, Inv m1 m2 → lwV Gc Gr X bA nc ns 1434 [(1, .ref (gr Gc 0)), (2, .ref (gr Gr 0)), (0, .ref bA), (3, .int i3)] [] m1 m2) : lwV Gc Gr X bA nc ns 916 [(1, .ref (gr Gc 0)), (2, .ref (gr Gr 0)), (0, .ref bA), (3, .int i3)] [] m1 m2 := by
  obtain ⟨r, m1', m2', e1, e2, hI⟩ := hH24 m1 m2 (xs (i3 + 1).toNatClampNeg) (xs (i3 + 2).toNatClampNeg) (xs (i3 + 3).toNatClampNeg) (xs (i3 + 4).toNatClampNeg) hI0
  refine lAloadN F dL_law_916 (k := 0) rfl ?_
  refine lAloadN F dL_law_917 (k := 2) rfl ?_
  refine lIloadN F dL_law_918 (k := 3) rfl ?_
  refine lIconst F (v := 1) dL_law_919 k_1 ?_
  refine lIadd F dL_law_920 ?_
  refine lScr F dL_law_921 hi1 ?_
  refine lAloadN F dL_law_922 (k := 2) rfl ?_
  refine lIloadN F dL_law_923 (k := 3) rfl ?_
  refine lIconst F (v := 2) dL_law_924 k_2 ?_
  refine lIadd F dL_law_925 ?_
  refine lScr F dL_law_926 hi2 ?_
  refine lAloadN F dL_law_927 (k := 2) rfl ?_
  refine lIloadN F dL_law_928 (k := 3) rfl ?_
  refine lIconst F (v := 3) dL_law_929 k_3 ?_
  refine lIadd F dL_law_930 ?_
  refine lScr F dL_law_931 hi3 ?_
  refine lAloadN F dL_law_932 (k := 2) rfl ?_
  refine lIloadN F dL_law_933 (k := 3) rfl ?_
  refine lIconst F (v := 4) dL_law_934 k_4 ?_
  refine lIadd F dL_law_935 ?_
  refine lScr F dL_law_936 hi4 ?_
  refine lCallC F (x := 0) (d' := 5) (T := TX6) (N := 10) (As := [.int (xs (i3 + 1).toNatClampNeg), .int (xs (i3 + 2).toNatClampNeg), .int (xs (i3 + 3).toNatClampNeg), .int (xs (i3 + 4).toNatClampNeg)]) (st := []) (rv := .long r) (m' := m1') dL_law_937 lkL_113 my_X6_odds mv_X6_odds (cqC_0 hsc) rfl (by decide) rfl rfl (Nat.le_of_ble_eq_true rfl) (NB_odds_ok F.2.1.1 hsc ⟨_, e1, rfl, rfl⟩) ?_
  refine lAloadN F dL_law_940 (k := 1) rfl ?_
  refine lAloadN F dL_law_941 (k := 2) rfl ?_
  refine lIloadN F dL_law_942 (k := 3) rfl ?_
  refine lIconst F (v := 1) dL_law_943 k_1 ?_
  refine lIadd F dL_law_944 ?_
  refine lScr F dL_law_945 hi1 ?_
  refine lAloadN F dL_law_946 (k := 2) rfl ?_
  refine lIloadN F dL_law_947 (k := 3) rfl ?_
  refine lIconst F (v := 2) dL_law_948 k_2 ?_
  refine lIadd F dL_law_949 ?_
  refine lScr F dL_law_950 hi2 ?_
  refine lAloadN F dL_law_951 (k := 2) rfl ?_
  refine lIloadN F dL_law_952 (k := 3) rfl ?_
  refine lIconst F (v := 3) dL_law_953 k_3 ?_
  refine lIadd F dL_law_954 ?_
  refine lScr F dL_law_955 hi3 ?_
  refine lAloadN F dL_law_956 (k := 2) rfl ?_
  refine lIloadN F dL_law_957 (k := 3) rfl ?_
  refine lIconst F (v := 4) dL_law_958 k_4 ?_
  refine lIadd F dL_law_959 ?_
  refine lScr F dL_law_960 hi4 ?_
  refine lCallM F (x := 0) (d' := 5) (T := TX7) (N := 61) (As := [.int (xs (i3 + 1).toNatClampNeg), .int (xs (i3 + 2).toNatClampNeg), .int (xs (i3 + 3).toNatClampNeg), .int (xs (i3 + 4).toNatClampNeg)]) (st := [.long r]) (rv := .long r) (m' := m2') dL_law_961 lkL_117 my_X7_odds mv_X7_odds (cqM_0 hsr) rfl (by decide) rfl rfl (Nat.le_of_ble_eq_true rfl) (Mo_odds_ok F.2.2.1.1 hsr ⟨_, e2, rfl, rfl⟩) ?_
  refine lLcmp F dL_law_964 ?_
  refine lSameL F (tgt := 1434) dL_law_965 (by decide) ?_
  exact kk m1' m2' hI
set_option maxRecDepth 20000 in
set_option maxHeartbeats 4000000 in
theorem lw_case25 {Gc Gr : Gw} {X : Cx} {bA LN nc ns : Nat} {xs : Nat → Int32} {m1 m2 : Mm} {Inv : Mm → Mm → Prop} (hH25 : lwH25 Inv) (F : lwF Gc Gr X bA LN nc ns xs) (hsc : gsh Gc = shC) (hsr : gsh Gr = shM) {i3 : Int32} (hi1 : vp_in (i3 + 1) LN) (hi2 : vp_in (i3 + 2) LN) (hi3 : vp_in (i3 + 3) LN) (hi4 : vp_in (i3 + 4) LN) (hi5 : vp_in (i3 + 5) LN) (hI0 : Inv m1 m2) (kk : ∀ m1 m2, Inv m1 m2 → lwV Gc Gr X bA nc ns 1434 [(1, .ref (gr Gc 0)), (2, .ref (gr Gr 0)), (0, .ref bA), (3, .int i3)] [] m1 m2) : lwV Gc Gr X bA nc ns 970 [(1, .ref (gr Gc 0)), (2, .ref (gr Gr 0)), (0, .ref bA), (3, .int i3)] [] m1 m2 := by
  obtain ⟨r, m1', m2', e1, e2, hI⟩ := hH25 m1 m2 (xs (i3 + 1).toNatClampNeg) hI0
  refine lAloadN F dL_law_970 (k := 0) rfl ?_
  refine lAloadN F dL_law_971 (k := 2) rfl ?_
  refine lIloadN F dL_law_972 (k := 3) rfl ?_
  refine lIconst F (v := 1) dL_law_973 k_1 ?_
  refine lIadd F dL_law_974 ?_
  refine lScr F dL_law_975 hi1 ?_
  refine lCallC F (x := 0) (d' := 5) (T := TX6) (N := 10) (As := [.int (xs (i3 + 1).toNatClampNeg)]) (st := []) (rv := .long r) (m' := m1') dL_law_976 lkL_118 my_X6_mean mv_X6_mean (cqC_0 hsc) rfl (by decide) rfl rfl (Nat.le_of_ble_eq_true rfl) (NB_mean_ok F.2.1.1 hsc ⟨_, e1, rfl, rfl⟩) ?_
  refine lAloadN F dL_law_979 (k := 1) rfl ?_
  refine lAloadN F dL_law_980 (k := 2) rfl ?_
  refine lIloadN F dL_law_981 (k := 3) rfl ?_
  refine lIconst F (v := 1) dL_law_982 k_1 ?_
  refine lIadd F dL_law_983 ?_
  refine lScr F dL_law_984 hi1 ?_
  refine lCallM F (x := 0) (d' := 5) (T := TX7) (N := 61) (As := [.int (xs (i3 + 1).toNatClampNeg)]) (st := [.long r]) (rv := .long r) (m' := m2') dL_law_985 lkL_122 my_X7_mean mv_X7_mean (cqM_0 hsr) rfl (by decide) rfl rfl (Nat.le_of_ble_eq_true rfl) (Mo_mean_ok F.2.2.1.1 hsr ⟨_, e2, rfl, rfl⟩) ?_
  refine lLcmp F dL_law_988 ?_
  refine lSameL F (tgt := 1434) dL_law_989 (by decide) ?_
  exact kk m1' m2' hI
set_option maxRecDepth 20000 in
set_option maxHeartbeats 4000000 in
theorem lw_case26 {Gc Gr : Gw} {X : Cx} {bA LN nc ns : Nat} {xs : Nat → Int32} {m1 m2 : Mm} {Inv : Mm → Mm → Prop} (hH26 : lwH26 Inv) (F : lwF Gc Gr X bA LN nc ns xs) (hsc : gsh Gc = shC) (hsr : gsh Gr = shM) {i3 : Int32} (hi1 : vp_in (i3 + 1) LN) (hi2 : vp_in (i3 + 2) LN) (hi3 : vp_in (i3 + 3) LN) (hi4 : vp_in (i3 + 4) LN) (hi5 : vp_in (i3 + 5) LN) (hI0 : Inv m1 m2) (kk : ∀ m1 m2, Inv m1 m2 → lwV Gc Gr X bA nc ns 1434 [(1, .ref (gr Gc 0)), (2, .ref (gr Gr 0)), (0, .ref bA), (3, .int i3)] [] m1 m2) : lwV Gc Gr X bA nc ns 994 [(1, .ref (gr Gc 0)), (2, .ref (gr Gr 0)), (0, .ref bA), (3, .int i3)] [] m1 m2 := by
  obtain ⟨r, m1', m2', e1, e2, hI⟩ := hH26 m1 m2 (xs (i3 + 1).toNatClampNeg) hI0
  refine lAloadN F dL_law_994 (k := 0) rfl ?_
  refine lAloadN F dL_law_995 (k := 2) rfl ?_
  refine lIloadN F dL_law_996 (k := 3) rfl ?_
  refine lIconst F (v := 1) dL_law_997 k_1 ?_
  refine lIadd F dL_law_998 ?_
  refine lScr F dL_law_999 hi1 ?_
  refine lCallC F (x := 0) (d' := 1) (T := TX6) (N := 10) (As := [.int (xs (i3 + 1).toNatClampNeg)]) (st := []) (rv := .int r) (m' := m1') dL_law_1000 lkL_123 my_X6_book mv_X6_book (cqC_0 hsc) rfl (by decide) rfl rfl (Nat.le_of_ble_eq_true rfl) (NB_book_ok F.2.1.1 hsc ⟨_, e1, rfl, rfl⟩) ?_
  refine lAloadN F dL_law_1003 (k := 1) rfl ?_
  refine lAloadN F dL_law_1004 (k := 2) rfl ?_
  refine lIloadN F dL_law_1005 (k := 3) rfl ?_
  refine lIconst F (v := 1) dL_law_1006 k_1 ?_
  refine lIadd F dL_law_1007 ?_
  refine lScr F dL_law_1008 hi1 ?_
  refine lCallM F (x := 0) (d' := 2) (T := TX7) (N := 61) (As := [.int (xs (i3 + 1).toNatClampNeg)]) (st := [.int r]) (rv := .int r) (m' := m2') dL_law_1009 lkL_126 my_X7_book mv_X7_book (cqM_0 hsr) rfl (by decide) rfl rfl (Nat.le_of_ble_eq_true rfl) (Mo_book_ok F.2.2.1.1 hsr ⟨_, e2, rfl, rfl⟩) ?_
  refine lSame F (tgt := 1434) dL_law_1012 (by decide) ?_
  exact kk m1' m2' hI
set_option maxRecDepth 20000 in
set_option maxHeartbeats 4000000 in
theorem lw_case27 {Gc Gr : Gw} {X : Cx} {bA LN nc ns : Nat} {xs : Nat → Int32} {m1 m2 : Mm} {Inv : Mm → Mm → Prop} (hH27 : lwH27 Inv) (F : lwF Gc Gr X bA LN nc ns xs) (hsc : gsh Gc = shC) (hsr : gsh Gr = shM) {i3 : Int32} (hi1 : vp_in (i3 + 1) LN) (hi2 : vp_in (i3 + 2) LN) (hi3 : vp_in (i3 + 3) LN) (hi4 : vp_in (i3 + 4) LN) (hi5 : vp_in (i3 + 5) LN) (hI0 : Inv m1 m2) (kk : ∀ m1 m2, Inv m1 m2 → lwV Gc Gr X bA nc ns 1434 [(1, .ref (gr Gc 0)), (2, .ref (gr Gr 0)), (0, .ref bA), (3, .int i3)] [] m1 m2) : lwV Gc Gr X bA nc ns 1017 [(1, .ref (gr Gc 0)), (2, .ref (gr Gr 0)), (0, .ref bA), (3, .int i3)] [] m1 m2 := by
  obtain ⟨r, m1', m2', e1, e2, hI⟩ := hH27 m1 m2 (xs (i3 + 1).toNatClampNeg) hI0
  refine lAloadN F dL_law_1017 (k := 0) rfl ?_
  refine lAloadN F dL_law_1018 (k := 2) rfl ?_
  refine lIloadN F dL_law_1019 (k := 3) rfl ?_
  refine lIconst F (v := 1) dL_law_1020 k_1 ?_
  refine lIadd F dL_law_1021 ?_
  refine lScr F dL_law_1022 hi1 ?_
  refine lCallC F (x := 0) (d' := 5) (T := TX6) (N := 10) (As := [.int (xs (i3 + 1).toNatClampNeg)]) (st := []) (rv := .int r) (m' := m1') dL_law_1023 lkL_127 my_X6_looked mv_X6_looked (cqC_0 hsc) rfl (by decide) rfl rfl (Nat.le_of_ble_eq_true rfl) (NB_looked_ok F.2.1.1 hsc ⟨_, e1, rfl, rfl⟩) ?_
  refine lAloadN F dL_law_1026 (k := 1) rfl ?_
  refine lAloadN F dL_law_1027 (k := 2) rfl ?_
  refine lIloadN F dL_law_1028 (k := 3) rfl ?_
  refine lIconst F (v := 1) dL_law_1029 k_1 ?_
  refine lIadd F dL_law_1030 ?_
  refine lScr F dL_law_1031 hi1 ?_
  refine lCallM F (x := 0) (d' := 5) (T := TX7) (N := 61) (As := [.int (xs (i3 + 1).toNatClampNeg)]) (st := [.int r]) (rv := .int r) (m' := m2') dL_law_1032 lkL_130 my_X7_looked mv_X7_looked (cqM_0 hsr) rfl (by decide) rfl rfl (Nat.le_of_ble_eq_true rfl) (Mo_looked_ok F.2.2.1.1 hsr ⟨_, e2, rfl, rfl⟩) ?_
  refine lSame F (tgt := 1434) dL_law_1035 (by decide) ?_
  exact kk m1' m2' hI
set_option maxRecDepth 20000 in
set_option maxHeartbeats 4000000 in
theorem lw_case28 {Gc Gr : Gw} {X : Cx} {bA LN nc ns : Nat} {xs : Nat → Int32} {m1 m2 : Mm} {Inv : Mm → Mm → Prop} (hH28 : lwH28 Inv) (F : lwF Gc Gr X bA LN nc ns xs) (hsc : gsh Gc = shC) (hsr : gsh Gr = shM) {i3 : Int32} (hi1 : vp_in (i3 + 1) LN) (hi2 : vp_in (i3 + 2) LN) (hi3 : vp_in (i3 + 3) LN) (hi4 : vp_in (i3 + 4) LN) (hi5 : vp_in (i3 + 5) LN) (hI0 : Inv m1 m2) (kk : ∀ m1 m2, Inv m1 m2 → lwV Gc Gr X bA nc ns 1434 [(1, .ref (gr Gc 0)), (2, .ref (gr Gr 0)), (0, .ref bA), (3, .int i3)] [] m1 m2) : lwV Gc Gr X bA nc ns 1040 [(1, .ref (gr Gc 0)), (2, .ref (gr Gr 0)), (0, .ref bA), (3, .int i3)] [] m1 m2 := by
  obtain ⟨r, m1', m2', e1, e2, hI⟩ := hH28 m1 m2 (xs (i3 + 1).toNatClampNeg) (xs (i3 + 2).toNatClampNeg) hI0
  refine lAloadN F dL_law_1040 (k := 0) rfl ?_
  refine lAloadN F dL_law_1041 (k := 2) rfl ?_
  refine lIloadN F dL_law_1042 (k := 3) rfl ?_
  refine lIconst F (v := 1) dL_law_1043 k_1 ?_
  refine lIadd F dL_law_1044 ?_
  refine lScr F dL_law_1045 hi1 ?_
  refine lAloadN F dL_law_1046 (k := 2) rfl ?_
  refine lIloadN F dL_law_1047 (k := 3) rfl ?_
  refine lIconst F (v := 2) dL_law_1048 k_2 ?_
  refine lIadd F dL_law_1049 ?_
  refine lScr F dL_law_1050 hi2 ?_
  refine lCallC F (x := 0) (d' := 5) (T := TX6) (N := 10) (As := [.int (xs (i3 + 1).toNatClampNeg), .int (xs (i3 + 2).toNatClampNeg)]) (st := []) (rv := .int r) (m' := m1') dL_law_1051 lkL_131 my_X6_judge mv_X6_judge (cqC_0 hsc) rfl (by decide) rfl rfl (Nat.le_of_ble_eq_true rfl) (NB_judge_ok F.2.1.1 hsc ⟨_, e1, rfl, rfl⟩) ?_
  refine lAloadN F dL_law_1054 (k := 1) rfl ?_
  refine lAloadN F dL_law_1055 (k := 2) rfl ?_
  refine lIloadN F dL_law_1056 (k := 3) rfl ?_
  refine lIconst F (v := 1) dL_law_1057 k_1 ?_
  refine lIadd F dL_law_1058 ?_
  refine lScr F dL_law_1059 hi1 ?_
  refine lAloadN F dL_law_1060 (k := 2) rfl ?_
  refine lIloadN F dL_law_1061 (k := 3) rfl ?_
  refine lIconst F (v := 2) dL_law_1062 k_2 ?_
  refine lIadd F dL_law_1063 ?_
  refine lScr F dL_law_1064 hi2 ?_
  refine lCallM F (x := 0) (d' := 5) (T := TX7) (N := 61) (As := [.int (xs (i3 + 1).toNatClampNeg), .int (xs (i3 + 2).toNatClampNeg)]) (st := [.int r]) (rv := .int r) (m' := m2') dL_law_1065 lkL_134 my_X7_judge mv_X7_judge (cqM_0 hsr) rfl (by decide) rfl rfl (Nat.le_of_ble_eq_true rfl) (Mo_judge_ok F.2.2.1.1 hsr ⟨_, e2, rfl, rfl⟩) ?_
  refine lSame F (tgt := 1434) dL_law_1068 (by decide) ?_
  exact kk m1' m2' hI
set_option maxRecDepth 20000 in
set_option maxHeartbeats 4000000 in
theorem lw_case29 {Gc Gr : Gw} {X : Cx} {bA LN nc ns : Nat} {xs : Nat → Int32} {m1 m2 : Mm} {Inv : Mm → Mm → Prop} (hH29 : lwH29 Inv) (F : lwF Gc Gr X bA LN nc ns xs) (hsc : gsh Gc = shC) (hsr : gsh Gr = shM) {i3 : Int32} (hi1 : vp_in (i3 + 1) LN) (hi2 : vp_in (i3 + 2) LN) (hi3 : vp_in (i3 + 3) LN) (hi4 : vp_in (i3 + 4) LN) (hi5 : vp_in (i3 + 5) LN) (hI0 : Inv m1 m2) (kk : ∀ m1 m2, Inv m1 m2 → lwV Gc Gr X bA nc ns 1434 [(1, .ref (gr Gc 0)), (2, .ref (gr Gr 0)), (0, .ref bA), (3, .int i3)] [] m1 m2) : lwV Gc Gr X bA nc ns 1073 [(1, .ref (gr Gc 0)), (2, .ref (gr Gr 0)), (0, .ref bA), (3, .int i3)] [] m1 m2 := by
  obtain ⟨r, m1', m2', e1, e2, hI⟩ := hH29 m1 m2 hI0
  refine lAloadN F dL_law_1073 (k := 0) rfl ?_
  refine lCallC F (x := 0) (d' := 1) (T := TX6) (N := 10) (As := []) (st := []) (rv := .int r) (m' := m1') dL_law_1074 lkL_135 my_X6_image mv_X6_image (cqC_0 hsc) rfl (by decide) rfl rfl (Nat.le_of_ble_eq_true rfl) (NB_image_ok F.2.1.1 hsc ⟨_, e1, rfl, rfl⟩) ?_
  refine lAloadN F dL_law_1077 (k := 1) rfl ?_
  refine lCallM F (x := 0) (d' := 0) (T := TX7) (N := 61) (As := []) (st := [.int r]) (rv := .int r) (m' := m2') dL_law_1078 lkL_138 my_X7_image mv_X7_image (cqM_0 hsr) rfl (by decide) rfl rfl (Nat.le_of_ble_eq_true rfl) (Mo_image_ok F.2.2.1.1 hsr ⟨_, e2, rfl, rfl⟩) ?_
  refine lSame F (tgt := 1434) dL_law_1081 (by decide) ?_
  exact kk m1' m2' hI
set_option maxRecDepth 20000 in
set_option maxHeartbeats 4000000 in
theorem lw_case30 {Gc Gr : Gw} {X : Cx} {bA LN nc ns : Nat} {xs : Nat → Int32} {m1 m2 : Mm} {Inv : Mm → Mm → Prop} (hH30 : lwH30 Inv) (F : lwF Gc Gr X bA LN nc ns xs) (hsc : gsh Gc = shC) (hsr : gsh Gr = shM) {i3 : Int32} (hi1 : vp_in (i3 + 1) LN) (hi2 : vp_in (i3 + 2) LN) (hi3 : vp_in (i3 + 3) LN) (hi4 : vp_in (i3 + 4) LN) (hi5 : vp_in (i3 + 5) LN) (hI0 : Inv m1 m2) (kk : ∀ m1 m2, Inv m1 m2 → lwV Gc Gr X bA nc ns 1434 [(1, .ref (gr Gc 0)), (2, .ref (gr Gr 0)), (0, .ref bA), (3, .int i3)] [] m1 m2) : lwV Gc Gr X bA nc ns 1086 [(1, .ref (gr Gc 0)), (2, .ref (gr Gr 0)), (0, .ref bA), (3, .int i3)] [] m1 m2 := by
  obtain ⟨r, m1', m2', e1, e2, hI⟩ := hH30 m1 m2 hI0
  refine lAloadN F dL_law_1086 (k := 0) rfl ?_
  refine lCallC F (x := 0) (d' := 1) (T := TX6) (N := 10) (As := []) (st := []) (rv := .int r) (m' := m1') dL_law_1087 lkL_139 my_X6_undo mv_X6_undo (cqC_0 hsc) rfl (by decide) rfl rfl (Nat.le_of_ble_eq_true rfl) (NB_undo_ok F.2.1.1 hsc ⟨_, e1, rfl, rfl⟩) ?_
  refine lAloadN F dL_law_1090 (k := 1) rfl ?_
  refine lCallM F (x := 0) (d' := 0) (T := TX7) (N := 61) (As := []) (st := [.int r]) (rv := .int r) (m' := m2') dL_law_1091 lkL_142 my_X7_undo mv_X7_undo (cqM_0 hsr) rfl (by decide) rfl rfl (Nat.le_of_ble_eq_true rfl) (Mo_undo_ok F.2.2.1.1 hsr ⟨_, e2, rfl, rfl⟩) ?_
  refine lSame F (tgt := 1434) dL_law_1094 (by decide) ?_
  exact kk m1' m2' hI
set_option maxRecDepth 20000 in
set_option maxHeartbeats 4000000 in
theorem lw_case31 {Gc Gr : Gw} {X : Cx} {bA LN nc ns : Nat} {xs : Nat → Int32} {m1 m2 : Mm} {Inv : Mm → Mm → Prop} (hH31 : lwH31 Inv) (F : lwF Gc Gr X bA LN nc ns xs) (hsc : gsh Gc = shC) (hsr : gsh Gr = shM) {i3 : Int32} (hi1 : vp_in (i3 + 1) LN) (hi2 : vp_in (i3 + 2) LN) (hi3 : vp_in (i3 + 3) LN) (hi4 : vp_in (i3 + 4) LN) (hi5 : vp_in (i3 + 5) LN) (hI0 : Inv m1 m2) (kk : ∀ m1 m2, Inv m1 m2 → lwV Gc Gr X bA nc ns 1434 [(1, .ref (gr Gc 0)), (2, .ref (gr Gr 0)), (0, .ref bA), (3, .int i3)] [] m1 m2) : lwV Gc Gr X bA nc ns 1099 [(1, .ref (gr Gc 0)), (2, .ref (gr Gr 0)), (0, .ref bA), (3, .int i3)] [] m1 m2 := by
  obtain ⟨r, m1', m2', e1, e2, hI⟩ := hH31 m1 m2 (xs (i3 + 1).toNatClampNeg) (xs (i3 + 2).toNatClampNeg) (xs (i3 + 3).toNatClampNeg) hI0
  refine lAloadN F dL_law_1099 (k := 0) rfl ?_
  refine lAloadN F dL_law_1100 (k := 2) rfl ?_
  refine lIloadN F dL_law_1101 (k := 3) rfl ?_
  refine lIconst F (v := 1) dL_law_1102 k_1 ?_
  refine lIadd F dL_law_1103 ?_
  refine lScr F dL_law_1104 hi1 ?_
  refine lAloadN F dL_law_1105 (k := 2) rfl ?_
  refine lIloadN F dL_law_1106 (k := 3) rfl ?_
  refine lIconst F (v := 2) dL_law_1107 k_2 ?_
  refine lIadd F dL_law_1108 ?_
  refine lScr F dL_law_1109 hi2 ?_
  refine lAloadN F dL_law_1110 (k := 2) rfl ?_
  refine lIloadN F dL_law_1111 (k := 3) rfl ?_
  refine lIconst F (v := 3) dL_law_1112 k_3 ?_
  refine lIadd F dL_law_1113 ?_
  refine lScr F dL_law_1114 hi3 ?_
  refine lCallC F (x := 0) (d' := 28) (T := TX6) (N := 10) (As := [.int (xs (i3 + 1).toNatClampNeg), .int (xs (i3 + 2).toNatClampNeg), .int (xs (i3 + 3).toNatClampNeg)]) (st := []) (rv := .int r) (m' := m1') dL_law_1115 lkL_143 my_X6_act mv_X6_act (cqC_0 hsc) rfl (by decide) rfl rfl (Nat.le_of_ble_eq_true rfl) (NB_act_ok F.2.1.1 hsc ⟨_, e1, rfl, rfl⟩) ?_
  refine lAloadN F dL_law_1118 (k := 1) rfl ?_
  refine lAloadN F dL_law_1119 (k := 2) rfl ?_
  refine lIloadN F dL_law_1120 (k := 3) rfl ?_
  refine lIconst F (v := 1) dL_law_1121 k_1 ?_
  refine lIadd F dL_law_1122 ?_
  refine lScr F dL_law_1123 hi1 ?_
  refine lAloadN F dL_law_1124 (k := 2) rfl ?_
  refine lIloadN F dL_law_1125 (k := 3) rfl ?_
  refine lIconst F (v := 2) dL_law_1126 k_2 ?_
  refine lIadd F dL_law_1127 ?_
  refine lScr F dL_law_1128 hi2 ?_
  refine lAloadN F dL_law_1129 (k := 2) rfl ?_
  refine lIloadN F dL_law_1130 (k := 3) rfl ?_
  refine lIconst F (v := 3) dL_law_1131 k_3 ?_
  refine lIadd F dL_law_1132 ?_
  refine lScr F dL_law_1133 hi3 ?_
  refine lCallM F (x := 0) (d' := 8) (T := TX7) (N := 61) (As := [.int (xs (i3 + 1).toNatClampNeg), .int (xs (i3 + 2).toNatClampNeg), .int (xs (i3 + 3).toNatClampNeg)]) (st := [.int r]) (rv := .int r) (m' := m2') dL_law_1134 lkL_146 my_X7_act mv_X7_act (cqM_0 hsr) rfl (by decide) rfl rfl (Nat.le_of_ble_eq_true rfl) (Mo_act_ok F.2.2.1.1 hsr ⟨_, e2, rfl, rfl⟩) ?_
  refine lSame F (tgt := 1434) dL_law_1137 (by decide) ?_
  exact kk m1' m2' hI
set_option maxRecDepth 20000 in
set_option maxHeartbeats 4000000 in
theorem lw_case32 {Gc Gr : Gw} {X : Cx} {bA LN nc ns : Nat} {xs : Nat → Int32} {m1 m2 : Mm} {Inv : Mm → Mm → Prop} (hH32 : lwH32 Inv) (F : lwF Gc Gr X bA LN nc ns xs) (hsc : gsh Gc = shC) (hsr : gsh Gr = shM) {i3 : Int32} (hi1 : vp_in (i3 + 1) LN) (hi2 : vp_in (i3 + 2) LN) (hi3 : vp_in (i3 + 3) LN) (hi4 : vp_in (i3 + 4) LN) (hi5 : vp_in (i3 + 5) LN) (hI0 : Inv m1 m2) (kk : ∀ m1 m2, Inv m1 m2 → lwV Gc Gr X bA nc ns 1434 [(1, .ref (gr Gc 0)), (2, .ref (gr Gr 0)), (0, .ref bA), (3, .int i3)] [] m1 m2) : lwV Gc Gr X bA nc ns 1142 [(1, .ref (gr Gc 0)), (2, .ref (gr Gr 0)), (0, .ref bA), (3, .int i3)] [] m1 m2 := by
  obtain ⟨r, e1, e2, hI⟩ := hH32 m1 m2 (xs (i3 + 1).toNatClampNeg) hI0
  refine lAloadN F dL_law_1142 (k := 0) rfl ?_
  refine lAloadN F dL_law_1143 (k := 2) rfl ?_
  refine lIloadN F dL_law_1144 (k := 3) rfl ?_
  refine lIconst F (v := 1) dL_law_1145 k_1 ?_
  refine lIadd F dL_law_1146 ?_
  refine lScr F dL_law_1147 hi1 ?_
  refine lCallC F (x := 0) (d' := 0) (T := TX6) (N := 10) (As := [.int (xs (i3 + 1).toNatClampNeg)]) (st := []) (rv := .int r) (m' := m1) dL_law_1148 lkL_147 my_X6_trace mv_X6_trace (cqC_0 hsc) rfl (by decide) rfl rfl (Nat.le_of_ble_eq_true rfl) (NB_trace_ok F.2.1.1 hsc ⟨_, e1, rfl, rfl⟩) ?_
  refine lAloadN F dL_law_1151 (k := 1) rfl ?_
  refine lAloadN F dL_law_1152 (k := 2) rfl ?_
  refine lIloadN F dL_law_1153 (k := 3) rfl ?_
  refine lIconst F (v := 1) dL_law_1154 k_1 ?_
  refine lIadd F dL_law_1155 ?_
  refine lScr F dL_law_1156 hi1 ?_
  refine lCallM F (x := 0) (d' := 1) (T := TX7) (N := 61) (As := [.int (xs (i3 + 1).toNatClampNeg)]) (st := [.int r]) (rv := .int r) (m' := m2) dL_law_1157 lkL_150 my_X7_trace mv_X7_trace (cqM_0 hsr) rfl (by decide) rfl rfl (Nat.le_of_ble_eq_true rfl) (Mo_trace_ok F.2.2.1.1 hsr ⟨_, e2, rfl, rfl⟩) ?_
  refine lSame F (tgt := 1434) dL_law_1160 (by decide) ?_
  exact kk m1 m2 hI
set_option maxRecDepth 20000 in
set_option maxHeartbeats 4000000 in
theorem lw_case33 {Gc Gr : Gw} {X : Cx} {bA LN nc ns : Nat} {xs : Nat → Int32} {m1 m2 : Mm} {Inv : Mm → Mm → Prop} (hH33 : lwH33 Inv) (F : lwF Gc Gr X bA LN nc ns xs) (hsc : gsh Gc = shC) (hsr : gsh Gr = shM) {i3 : Int32} (hi1 : vp_in (i3 + 1) LN) (hi2 : vp_in (i3 + 2) LN) (hi3 : vp_in (i3 + 3) LN) (hi4 : vp_in (i3 + 4) LN) (hi5 : vp_in (i3 + 5) LN) (hI0 : Inv m1 m2) (kk : ∀ m1 m2, Inv m1 m2 → lwV Gc Gr X bA nc ns 1434 [(1, .ref (gr Gc 0)), (2, .ref (gr Gr 0)), (0, .ref bA), (3, .int i3)] [] m1 m2) : lwV Gc Gr X bA nc ns 1165 [(1, .ref (gr Gc 0)), (2, .ref (gr Gr 0)), (0, .ref bA), (3, .int i3)] [] m1 m2 := by
  obtain ⟨r, e1, e2, hI⟩ := hH33 m1 m2 (xs (i3 + 1).toNatClampNeg) (xs (i3 + 2).toNatClampNeg) hI0
  refine lAloadN F dL_law_1165 (k := 0) rfl ?_
  refine lAloadN F dL_law_1166 (k := 2) rfl ?_
  refine lIloadN F dL_law_1167 (k := 3) rfl ?_
  refine lIconst F (v := 1) dL_law_1168 k_1 ?_
  refine lIadd F dL_law_1169 ?_
  refine lScr F dL_law_1170 hi1 ?_
  refine lAloadN F dL_law_1171 (k := 2) rfl ?_
  refine lIloadN F dL_law_1172 (k := 3) rfl ?_
  refine lIconst F (v := 2) dL_law_1173 k_2 ?_
  refine lIadd F dL_law_1174 ?_
  refine lScr F dL_law_1175 hi2 ?_
  refine lCallC F (x := 0) (d' := 1) (T := TX6) (N := 10) (As := [.int (xs (i3 + 1).toNatClampNeg), .int (xs (i3 + 2).toNatClampNeg)]) (st := []) (rv := .int r) (m' := m1) dL_law_1176 lkL_151 my_X6_taken mv_X6_taken (cqC_0 hsc) rfl (by decide) rfl rfl (Nat.le_of_ble_eq_true rfl) (NB_taken_ok F.2.1.1 hsc ⟨_, e1, rfl, rfl⟩) ?_
  refine lAloadN F dL_law_1179 (k := 1) rfl ?_
  refine lAloadN F dL_law_1180 (k := 2) rfl ?_
  refine lIloadN F dL_law_1181 (k := 3) rfl ?_
  refine lIconst F (v := 1) dL_law_1182 k_1 ?_
  refine lIadd F dL_law_1183 ?_
  refine lScr F dL_law_1184 hi1 ?_
  refine lAloadN F dL_law_1185 (k := 2) rfl ?_
  refine lIloadN F dL_law_1186 (k := 3) rfl ?_
  refine lIconst F (v := 2) dL_law_1187 k_2 ?_
  refine lIadd F dL_law_1188 ?_
  refine lScr F dL_law_1189 hi2 ?_
  refine lCallM F (x := 0) (d' := 2) (T := TX7) (N := 61) (As := [.int (xs (i3 + 1).toNatClampNeg), .int (xs (i3 + 2).toNatClampNeg)]) (st := [.int r]) (rv := .int r) (m' := m2) dL_law_1190 lkL_154 my_X7_taken mv_X7_taken (cqM_0 hsr) rfl (by decide) rfl rfl (Nat.le_of_ble_eq_true rfl) (Mo_taken_ok F.2.2.1.1 hsr ⟨_, e2, rfl, rfl⟩) ?_
  refine lSame F (tgt := 1434) dL_law_1193 (by decide) ?_
  exact kk m1 m2 hI
set_option maxRecDepth 20000 in
set_option maxHeartbeats 4000000 in
theorem lw_case34 {Gc Gr : Gw} {X : Cx} {bA LN nc ns : Nat} {xs : Nat → Int32} {m1 m2 : Mm} {Inv : Mm → Mm → Prop} (hH34 : lwH34 Inv) (F : lwF Gc Gr X bA LN nc ns xs) (hsc : gsh Gc = shC) (hsr : gsh Gr = shM) {i3 : Int32} (hi1 : vp_in (i3 + 1) LN) (hi2 : vp_in (i3 + 2) LN) (hi3 : vp_in (i3 + 3) LN) (hi4 : vp_in (i3 + 4) LN) (hi5 : vp_in (i3 + 5) LN) (hI0 : Inv m1 m2) (kk : ∀ m1 m2, Inv m1 m2 → lwV Gc Gr X bA nc ns 1434 [(1, .ref (gr Gc 0)), (2, .ref (gr Gr 0)), (0, .ref bA), (3, .int i3)] [] m1 m2) : lwV Gc Gr X bA nc ns 1198 [(1, .ref (gr Gc 0)), (2, .ref (gr Gr 0)), (0, .ref bA), (3, .int i3)] [] m1 m2 := by
  obtain ⟨r, e1, e2, hI⟩ := hH34 m1 m2 (xs (i3 + 1).toNatClampNeg) hI0
  refine lAloadN F dL_law_1198 (k := 0) rfl ?_
  refine lAloadN F dL_law_1199 (k := 2) rfl ?_
  refine lIloadN F dL_law_1200 (k := 3) rfl ?_
  refine lIconst F (v := 1) dL_law_1201 k_1 ?_
  refine lIadd F dL_law_1202 ?_
  refine lScr F dL_law_1203 hi1 ?_
  refine lCallC F (x := 0) (d' := 0) (T := TX6) (N := 10) (As := [.int (xs (i3 + 1).toNatClampNeg)]) (st := []) (rv := .int r) (m' := m1) dL_law_1204 lkL_155 my_X6_count mv_X6_count (cqC_0 hsc) rfl (by decide) rfl rfl (Nat.le_of_ble_eq_true rfl) (NB_count_ok F.2.1.1 hsc (by rw [e1]; exact ⟨rfl, rfl⟩)) ?_
  refine lAloadN F dL_law_1207 (k := 1) rfl ?_
  refine lAloadN F dL_law_1208 (k := 2) rfl ?_
  refine lIloadN F dL_law_1209 (k := 3) rfl ?_
  refine lIconst F (v := 1) dL_law_1210 k_1 ?_
  refine lIadd F dL_law_1211 ?_
  refine lScr F dL_law_1212 hi1 ?_
  refine lCallM F (x := 0) (d' := 0) (T := TX7) (N := 61) (As := [.int (xs (i3 + 1).toNatClampNeg)]) (st := [.int r]) (rv := .int r) (m' := m2) dL_law_1213 lkL_158 my_X7_count mv_X7_count (cqM_0 hsr) rfl (by decide) rfl rfl (Nat.le_of_ble_eq_true rfl) (Mo_count_ok F.2.2.1.1 hsr (by rw [e2]; exact ⟨rfl, rfl⟩)) ?_
  refine lSame F (tgt := 1434) dL_law_1216 (by decide) ?_
  exact kk m1 m2 hI
set_option maxRecDepth 20000 in
set_option maxHeartbeats 4000000 in
theorem lw_case35 {Gc Gr : Gw} {X : Cx} {bA LN nc ns : Nat} {xs : Nat → Int32} {m1 m2 : Mm} {Inv : Mm → Mm → Prop} (hH35 : lwH35 Inv) (F : lwF Gc Gr X bA LN nc ns xs) (hsc : gsh Gc = shC) (hsr : gsh Gr = shM) {i3 : Int32} (hi1 : vp_in (i3 + 1) LN) (hi2 : vp_in (i3 + 2) LN) (hi3 : vp_in (i3 + 3) LN) (hi4 : vp_in (i3 + 4) LN) (hi5 : vp_in (i3 + 5) LN) (hI0 : Inv m1 m2) (kk : ∀ m1 m2, Inv m1 m2 → lwV Gc Gr X bA nc ns 1434 [(1, .ref (gr Gc 0)), (2, .ref (gr Gr 0)), (0, .ref bA), (3, .int i3)] [] m1 m2) : lwV Gc Gr X bA nc ns 1221 [(1, .ref (gr Gc 0)), (2, .ref (gr Gr 0)), (0, .ref bA), (3, .int i3)] [] m1 m2 := by
  obtain ⟨r, m1', m2', e1, e2, hI⟩ := hH35 m1 m2 (xs (i3 + 1).toNatClampNeg) (xs (i3 + 2).toNatClampNeg) (xs (i3 + 3).toNatClampNeg) hI0
  refine lAloadN F dL_law_1221 (k := 0) rfl ?_
  refine lAloadN F dL_law_1222 (k := 2) rfl ?_
  refine lIloadN F dL_law_1223 (k := 3) rfl ?_
  refine lIconst F (v := 1) dL_law_1224 k_1 ?_
  refine lIadd F dL_law_1225 ?_
  refine lScr F dL_law_1226 hi1 ?_
  refine lAloadN F dL_law_1227 (k := 2) rfl ?_
  refine lIloadN F dL_law_1228 (k := 3) rfl ?_
  refine lIconst F (v := 2) dL_law_1229 k_2 ?_
  refine lIadd F dL_law_1230 ?_
  refine lScr F dL_law_1231 hi2 ?_
  refine lAloadN F dL_law_1232 (k := 2) rfl ?_
  refine lIloadN F dL_law_1233 (k := 3) rfl ?_
  refine lIconst F (v := 3) dL_law_1234 k_3 ?_
  refine lIadd F dL_law_1235 ?_
  refine lScr F dL_law_1236 hi3 ?_
  refine lCallC F (x := 0) (d' := 2) (T := TX6) (N := 10) (As := [.int (xs (i3 + 1).toNatClampNeg), .int (xs (i3 + 2).toNatClampNeg), .int (xs (i3 + 3).toNatClampNeg)]) (st := []) (rv := .int r) (m' := m1') dL_law_1237 lkL_159 my_X6_tape mv_X6_tape (cqC_0 hsc) rfl (by decide) rfl rfl (Nat.le_of_ble_eq_true rfl) (NB_tape_ok F.2.1.1 hsc ⟨_, e1, rfl, rfl⟩) ?_
  refine lAloadN F dL_law_1240 (k := 1) rfl ?_
  refine lAloadN F dL_law_1241 (k := 2) rfl ?_
  refine lIloadN F dL_law_1242 (k := 3) rfl ?_
  refine lIconst F (v := 1) dL_law_1243 k_1 ?_
  refine lIadd F dL_law_1244 ?_
  refine lScr F dL_law_1245 hi1 ?_
  refine lAloadN F dL_law_1246 (k := 2) rfl ?_
  refine lIloadN F dL_law_1247 (k := 3) rfl ?_
  refine lIconst F (v := 2) dL_law_1248 k_2 ?_
  refine lIadd F dL_law_1249 ?_
  refine lScr F dL_law_1250 hi2 ?_
  refine lAloadN F dL_law_1251 (k := 2) rfl ?_
  refine lIloadN F dL_law_1252 (k := 3) rfl ?_
  refine lIconst F (v := 3) dL_law_1253 k_3 ?_
  refine lIadd F dL_law_1254 ?_
  refine lScr F dL_law_1255 hi3 ?_
  refine lCallM F (x := 0) (d' := 2) (T := TX7) (N := 61) (As := [.int (xs (i3 + 1).toNatClampNeg), .int (xs (i3 + 2).toNatClampNeg), .int (xs (i3 + 3).toNatClampNeg)]) (st := [.int r]) (rv := .int r) (m' := m2') dL_law_1256 lkL_162 my_X7_tape mv_X7_tape (cqM_0 hsr) rfl (by decide) rfl rfl (Nat.le_of_ble_eq_true rfl) (Mo_tape_ok F.2.2.1.1 hsr ⟨_, e2, rfl, rfl⟩) ?_
  refine lSame F (tgt := 1434) dL_law_1259 (by decide) ?_
  exact kk m1' m2' hI
set_option maxRecDepth 20000 in
set_option maxHeartbeats 4000000 in
theorem lw_case36 {Gc Gr : Gw} {X : Cx} {bA LN nc ns : Nat} {xs : Nat → Int32} {m1 m2 : Mm} {Inv : Mm → Mm → Prop} (hH36 : lwH36 Inv) (F : lwF Gc Gr X bA LN nc ns xs) (hsc : gsh Gc = shC) (hsr : gsh Gr = shM) {i3 : Int32} (hi1 : vp_in (i3 + 1) LN) (hi2 : vp_in (i3 + 2) LN) (hi3 : vp_in (i3 + 3) LN) (hi4 : vp_in (i3 + 4) LN) (hi5 : vp_in (i3 + 5) LN) (hI0 : Inv m1 m2) (kk : ∀ m1 m2, Inv m1 m2 → lwV Gc Gr X bA nc ns 1434 [(1, .ref (gr Gc 0)), (2, .ref (gr Gr 0)), (0, .ref bA), (3, .int i3)] [] m1 m2) : lwV Gc Gr X bA nc ns 1264 [(1, .ref (gr Gc 0)), (2, .ref (gr Gr 0)), (0, .ref bA), (3, .int i3)] [] m1 m2 := by
  obtain ⟨r, m1', m2', e1, e2, hI⟩ := hH36 m1 m2 (xs (i3 + 1).toNatClampNeg) (xs (i3 + 2).toNatClampNeg) (((xs (i3 + 3).toNatClampNeg).toInt64 <<< ((32 : Int32).toInt64 &&& 63)) ||| ((xs (i3 + 4).toNatClampNeg).toInt64 &&& 4294967295)) hI0
  refine lAloadN F dL_law_1264 (k := 0) rfl ?_
  refine lAloadN F dL_law_1265 (k := 2) rfl ?_
  refine lIloadN F dL_law_1266 (k := 3) rfl ?_
  refine lIconst F (v := 1) dL_law_1267 k_1 ?_
  refine lIadd F dL_law_1268 ?_
  refine lScr F dL_law_1269 hi1 ?_
  refine lAloadN F dL_law_1270 (k := 2) rfl ?_
  refine lIloadN F dL_law_1271 (k := 3) rfl ?_
  refine lIconst F (v := 2) dL_law_1272 k_2 ?_
  refine lIadd F dL_law_1273 ?_
  refine lScr F dL_law_1274 hi2 ?_
  refine lAloadN F dL_law_1275 (k := 2) rfl ?_
  refine lIloadN F dL_law_1276 (k := 3) rfl ?_
  refine lIconst F (v := 3) dL_law_1277 k_3 ?_
  refine lIadd F dL_law_1278 ?_
  refine lScr F dL_law_1279 hi3 ?_
  refine lI2l F dL_law_1280 ?_
  refine lBipush F (v := 32) dL_law_1281 kb_32 ?_
  refine lLshl F (v := ((xs (i3 + 3).toNatClampNeg).toInt64 <<< ((32 : Int32).toInt64 &&& 63))) dL_law_1283 rfl ?_
  refine lAloadN F dL_law_1284 (k := 2) rfl ?_
  refine lIloadN F dL_law_1285 (k := 3) rfl ?_
  refine lIconst F (v := 4) dL_law_1286 k_4 ?_
  refine lIadd F dL_law_1287 ?_
  refine lScr F dL_law_1288 hi4 ?_
  refine lI2l F dL_law_1289 ?_
  refine lLdc2 F (v := 4294967295) dL_law_1290 kcL_163 ?_
  refine lLand F dL_law_1293 ?_
  refine lLor F dL_law_1294 ?_
  refine lCallC F (x := 0) (d' := 1) (T := TX6) (N := 10) (As := [.int (xs (i3 + 1).toNatClampNeg), .int (xs (i3 + 2).toNatClampNeg), .long (((xs (i3 + 3).toNatClampNeg).toInt64 <<< ((32 : Int32).toInt64 &&& 63)) ||| ((xs (i3 + 4).toNatClampNeg).toInt64 &&& 4294967295))]) (st := []) (rv := .int r) (m' := m1') dL_law_1295 lkL_165 my_X6_item mv_X6_item (cqC_0 hsc) rfl (by decide) rfl rfl (Nat.le_of_ble_eq_true rfl) (NB_item_ok F.2.1.1 hsc ⟨_, e1, rfl, rfl⟩) ?_
  refine lAloadN F dL_law_1298 (k := 1) rfl ?_
  refine lAloadN F dL_law_1299 (k := 2) rfl ?_
  refine lIloadN F dL_law_1300 (k := 3) rfl ?_
  refine lIconst F (v := 1) dL_law_1301 k_1 ?_
  refine lIadd F dL_law_1302 ?_
  refine lScr F dL_law_1303 hi1 ?_
  refine lAloadN F dL_law_1304 (k := 2) rfl ?_
  refine lIloadN F dL_law_1305 (k := 3) rfl ?_
  refine lIconst F (v := 2) dL_law_1306 k_2 ?_
  refine lIadd F dL_law_1307 ?_
  refine lScr F dL_law_1308 hi2 ?_
  refine lAloadN F dL_law_1309 (k := 2) rfl ?_
  refine lIloadN F dL_law_1310 (k := 3) rfl ?_
  refine lIconst F (v := 3) dL_law_1311 k_3 ?_
  refine lIadd F dL_law_1312 ?_
  refine lScr F dL_law_1313 hi3 ?_
  refine lI2l F dL_law_1314 ?_
  refine lBipush F (v := 32) dL_law_1315 kb_32 ?_
  refine lLshl F (v := ((xs (i3 + 3).toNatClampNeg).toInt64 <<< ((32 : Int32).toInt64 &&& 63))) dL_law_1317 rfl ?_
  refine lAloadN F dL_law_1318 (k := 2) rfl ?_
  refine lIloadN F dL_law_1319 (k := 3) rfl ?_
  refine lIconst F (v := 4) dL_law_1320 k_4 ?_
  refine lIadd F dL_law_1321 ?_
  refine lScr F dL_law_1322 hi4 ?_
  refine lI2l F dL_law_1323 ?_
  refine lLdc2 F (v := 4294967295) dL_law_1324 kcL_163 ?_
  refine lLand F dL_law_1327 ?_
  refine lLor F dL_law_1328 ?_
  refine lCallM F (x := 0) (d' := 2) (T := TX7) (N := 61) (As := [.int (xs (i3 + 1).toNatClampNeg), .int (xs (i3 + 2).toNatClampNeg), .long (((xs (i3 + 3).toNatClampNeg).toInt64 <<< ((32 : Int32).toInt64 &&& 63)) ||| ((xs (i3 + 4).toNatClampNeg).toInt64 &&& 4294967295))]) (st := [.int r]) (rv := .int r) (m' := m2') dL_law_1329 lkL_169 my_X7_item mv_X7_item (cqM_0 hsr) rfl (by decide) rfl rfl (Nat.le_of_ble_eq_true rfl) (Mo_item_ok F.2.2.1.1 hsr ⟨_, e2, rfl, rfl⟩) ?_
  refine lSame F (tgt := 1434) dL_law_1332 (by decide) ?_
  exact kk m1' m2' hI
set_option maxRecDepth 20000 in
set_option maxHeartbeats 4000000 in
theorem lw_case37 {Gc Gr : Gw} {X : Cx} {bA LN nc ns : Nat} {xs : Nat → Int32} {m1 m2 : Mm} {Inv : Mm → Mm → Prop} (hH37 : lwH37 Inv) (F : lwF Gc Gr X bA LN nc ns xs) (hsc : gsh Gc = shC) (hsr : gsh Gr = shM) {i3 : Int32} (hi1 : vp_in (i3 + 1) LN) (hi2 : vp_in (i3 + 2) LN) (hi3 : vp_in (i3 + 3) LN) (hi4 : vp_in (i3 + 4) LN) (hi5 : vp_in (i3 + 5) LN) (hI0 : Inv m1 m2) (kk : ∀ m1 m2, Inv m1 m2 → lwV Gc Gr X bA nc ns 1434 [(1, .ref (gr Gc 0)), (2, .ref (gr Gr 0)), (0, .ref bA), (3, .int i3)] [] m1 m2) : lwV Gc Gr X bA nc ns 1337 [(1, .ref (gr Gc 0)), (2, .ref (gr Gr 0)), (0, .ref bA), (3, .int i3)] [] m1 m2 := by
  obtain ⟨r, e1, e2, hI⟩ := hH37 m1 m2 (xs (i3 + 1).toNatClampNeg) (xs (i3 + 2).toNatClampNeg) hI0
  refine lAloadN F dL_law_1337 (k := 0) rfl ?_
  refine lAloadN F dL_law_1338 (k := 2) rfl ?_
  refine lIloadN F dL_law_1339 (k := 3) rfl ?_
  refine lIconst F (v := 1) dL_law_1340 k_1 ?_
  refine lIadd F dL_law_1341 ?_
  refine lScr F dL_law_1342 hi1 ?_
  refine lAloadN F dL_law_1343 (k := 2) rfl ?_
  refine lIloadN F dL_law_1344 (k := 3) rfl ?_
  refine lIconst F (v := 2) dL_law_1345 k_2 ?_
  refine lIadd F dL_law_1346 ?_
  refine lScr F dL_law_1347 hi2 ?_
  refine lCallC F (x := 0) (d' := 1) (T := TX6) (N := 10) (As := [.int (xs (i3 + 1).toNatClampNeg), .int (xs (i3 + 2).toNatClampNeg)]) (st := []) (rv := .long r) (m' := m1) dL_law_1348 lkL_170 my_X6_read mv_X6_read (cqC_0 hsc) rfl (by decide) rfl rfl (Nat.le_of_ble_eq_true rfl) (NB_read_ok F.2.1.1 hsc ⟨_, e1, rfl, rfl⟩) ?_
  refine lAloadN F dL_law_1351 (k := 1) rfl ?_
  refine lAloadN F dL_law_1352 (k := 2) rfl ?_
  refine lIloadN F dL_law_1353 (k := 3) rfl ?_
  refine lIconst F (v := 1) dL_law_1354 k_1 ?_
  refine lIadd F dL_law_1355 ?_
  refine lScr F dL_law_1356 hi1 ?_
  refine lAloadN F dL_law_1357 (k := 2) rfl ?_
  refine lIloadN F dL_law_1358 (k := 3) rfl ?_
  refine lIconst F (v := 2) dL_law_1359 k_2 ?_
  refine lIadd F dL_law_1360 ?_
  refine lScr F dL_law_1361 hi2 ?_
  refine lCallM F (x := 0) (d' := 2) (T := TX7) (N := 61) (As := [.int (xs (i3 + 1).toNatClampNeg), .int (xs (i3 + 2).toNatClampNeg)]) (st := [.long r]) (rv := .long r) (m' := m2) dL_law_1362 lkL_174 my_X7_read mv_X7_read (cqM_0 hsr) rfl (by decide) rfl rfl (Nat.le_of_ble_eq_true rfl) (Mo_read_ok F.2.2.1.1 hsr ⟨_, e2, rfl, rfl⟩) ?_
  refine lLcmp F dL_law_1365 ?_
  refine lSameL F (tgt := 1434) dL_law_1366 (by decide) ?_
  exact kk m1 m2 hI
set_option maxRecDepth 20000 in
set_option maxHeartbeats 4000000 in
theorem lw_case38 {Gc Gr : Gw} {X : Cx} {bA LN nc ns : Nat} {xs : Nat → Int32} {m1 m2 : Mm} {Inv : Mm → Mm → Prop} (hH38 : lwH38 Inv) (F : lwF Gc Gr X bA LN nc ns xs) (hsc : gsh Gc = shC) (hsr : gsh Gr = shM) {i3 : Int32} (hi1 : vp_in (i3 + 1) LN) (hi2 : vp_in (i3 + 2) LN) (hi3 : vp_in (i3 + 3) LN) (hi4 : vp_in (i3 + 4) LN) (hi5 : vp_in (i3 + 5) LN) (hI0 : Inv m1 m2) (kk : ∀ m1 m2, Inv m1 m2 → lwV Gc Gr X bA nc ns 1434 [(1, .ref (gr Gc 0)), (2, .ref (gr Gr 0)), (0, .ref bA), (3, .int i3)] [] m1 m2) : lwV Gc Gr X bA nc ns 1371 [(1, .ref (gr Gc 0)), (2, .ref (gr Gr 0)), (0, .ref bA), (3, .int i3)] [] m1 m2 := by
  obtain ⟨r, m1', m2', e1, e2, hI⟩ := hH38 m1 m2 (xs (i3 + 1).toNatClampNeg) (xs (i3 + 2).toNatClampNeg) (xs (i3 + 3).toNatClampNeg) (xs (i3 + 4).toNatClampNeg) (xs (i3 + 5).toNatClampNeg) hI0
  refine lAloadN F dL_law_1371 (k := 0) rfl ?_
  refine lAloadN F dL_law_1372 (k := 2) rfl ?_
  refine lIloadN F dL_law_1373 (k := 3) rfl ?_
  refine lIconst F (v := 1) dL_law_1374 k_1 ?_
  refine lIadd F dL_law_1375 ?_
  refine lScr F dL_law_1376 hi1 ?_
  refine lAloadN F dL_law_1377 (k := 2) rfl ?_
  refine lIloadN F dL_law_1378 (k := 3) rfl ?_
  refine lIconst F (v := 2) dL_law_1379 k_2 ?_
  refine lIadd F dL_law_1380 ?_
  refine lScr F dL_law_1381 hi2 ?_
  refine lAloadN F dL_law_1382 (k := 2) rfl ?_
  refine lIloadN F dL_law_1383 (k := 3) rfl ?_
  refine lIconst F (v := 3) dL_law_1384 k_3 ?_
  refine lIadd F dL_law_1385 ?_
  refine lScr F dL_law_1386 hi3 ?_
  refine lAloadN F dL_law_1387 (k := 2) rfl ?_
  refine lIloadN F dL_law_1388 (k := 3) rfl ?_
  refine lIconst F (v := 4) dL_law_1389 k_4 ?_
  refine lIadd F dL_law_1390 ?_
  refine lScr F dL_law_1391 hi4 ?_
  refine lAloadN F dL_law_1392 (k := 2) rfl ?_
  refine lIloadN F dL_law_1393 (k := 3) rfl ?_
  refine lIconst F (v := 5) dL_law_1394 k_5 ?_
  refine lIadd F dL_law_1395 ?_
  refine lScr F dL_law_1396 hi5 ?_
  refine lCallC F (x := 0) (d' := 1) (T := TX6) (N := 10) (As := [.int (xs (i3 + 1).toNatClampNeg), .int (xs (i3 + 2).toNatClampNeg), .int (xs (i3 + 3).toNatClampNeg), .int (xs (i3 + 4).toNatClampNeg), .int (xs (i3 + 5).toNatClampNeg)]) (st := []) (rv := .int r) (m' := m1') dL_law_1397 lkL_175 my_X6_shift mv_X6_shift (cqC_0 hsc) rfl (by decide) rfl rfl (Nat.le_of_ble_eq_true rfl) (NB_shift_ok F.2.1.1 hsc ⟨_, e1, rfl, rfl⟩) ?_
  refine lAloadN F dL_law_1400 (k := 1) rfl ?_
  refine lAloadN F dL_law_1401 (k := 2) rfl ?_
  refine lIloadN F dL_law_1402 (k := 3) rfl ?_
  refine lIconst F (v := 1) dL_law_1403 k_1 ?_
  refine lIadd F dL_law_1404 ?_
  refine lScr F dL_law_1405 hi1 ?_
  refine lAloadN F dL_law_1406 (k := 2) rfl ?_
  refine lIloadN F dL_law_1407 (k := 3) rfl ?_
  refine lIconst F (v := 2) dL_law_1408 k_2 ?_
  refine lIadd F dL_law_1409 ?_
  refine lScr F dL_law_1410 hi2 ?_
  refine lAloadN F dL_law_1411 (k := 2) rfl ?_
  refine lIloadN F dL_law_1412 (k := 3) rfl ?_
  refine lIconst F (v := 3) dL_law_1413 k_3 ?_
  refine lIadd F dL_law_1414 ?_
  refine lScr F dL_law_1415 hi3 ?_
  refine lAloadN F dL_law_1416 (k := 2) rfl ?_
  refine lIloadN F dL_law_1417 (k := 3) rfl ?_
  refine lIconst F (v := 4) dL_law_1418 k_4 ?_
  refine lIadd F dL_law_1419 ?_
  refine lScr F dL_law_1420 hi4 ?_
  refine lAloadN F dL_law_1421 (k := 2) rfl ?_
  refine lIloadN F dL_law_1422 (k := 3) rfl ?_
  refine lIconst F (v := 5) dL_law_1423 k_5 ?_
  refine lIadd F dL_law_1424 ?_
  refine lScr F dL_law_1425 hi5 ?_
  refine lCallM F (x := 0) (d' := 2) (T := TX7) (N := 61) (As := [.int (xs (i3 + 1).toNatClampNeg), .int (xs (i3 + 2).toNatClampNeg), .int (xs (i3 + 3).toNatClampNeg), .int (xs (i3 + 4).toNatClampNeg), .int (xs (i3 + 5).toNatClampNeg)]) (st := [.int r]) (rv := .int r) (m' := m2') dL_law_1426 lkL_179 my_X7_shift mv_X7_shift (cqM_0 hsr) rfl (by decide) rfl rfl (Nat.le_of_ble_eq_true rfl) (Mo_shift_ok F.2.2.1.1 hsr ⟨_, e2, rfl, rfl⟩) ?_
  refine lSame F (tgt := 1434) dL_law_1429 (by decide) ?_
  exact kk m1' m2' hI
