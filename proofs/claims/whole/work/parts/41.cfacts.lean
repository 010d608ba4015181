theorem ac_int : Cond.arrayClass (newarray.typeOf .int) ∈ gw_tbl := gw_tab (i := 101) (by decide +kernel) rfl
theorem ac_long : Cond.arrayClass (newarray.typeOf .long) ∈ gw_tbl := gw_tab (i := 156) (by decide +kernel) rfl
theorem ac_char : Cond.arrayClass (newarray.typeOf .char) ∈ gw_tbl := gw_tab (i := 211) (by decide +kernel) rfl
theorem ac_boolean : Cond.arrayClass (newarray.typeOf .boolean) ∈ gw_tbl := gw_tab (i := 1064) (by decide +kernel) rfl
theorem ob_X5 : Cond.methodLink RX5 3 objectInit ∈ gw_tbl := gw_tab (i := 37) (by decide +kernel) rfl
theorem pw_X5_9 : Cond.fieldLink RX5 9 (TX5 1).1 (TX5 1).2.1 (TX5 1).2.2.1 ∈ gw_tbl := gw_tab (i := 41) (by decide +kernel) rfl
theorem pw_X5_15 : Cond.fieldLink RX5 15 (TX5 2).1 (TX5 2).2.1 (TX5 2).2.2.1 ∈ gw_tbl := gw_tab (i := 44) (by decide +kernel) rfl
theorem pw_X5_18 : Cond.fieldLink RX5 18 (TX5 3).1 (TX5 3).2.1 (TX5 3).2.2.1 ∈ gw_tbl := gw_tab (i := 47) (by decide +kernel) rfl
theorem pw_X5_21 : Cond.fieldLink RX5 21 (TX5 4).1 (TX5 4).2.1 (TX5 4).2.2.1 ∈ gw_tbl := gw_tab (i := 50) (by decide +kernel) rfl
theorem pw_X5_24 : Cond.fieldLink RX5 24 (TX5 5).1 (TX5 5).2.1 (TX5 5).2.2.1 ∈ gw_tbl := gw_tab (i := 53) (by decide +kernel) rfl
theorem pw_X5_27 : Cond.fieldLink RX5 27 (TX5 7).1 (TX5 7).2.1 (TX5 7).2.2.1 ∈ gw_tbl := gw_tab (i := 59) (by decide +kernel) rfl
theorem pw_X5_30 : Cond.fieldLink RX5 30 (TX5 8).1 (TX5 8).2.1 (TX5 8).2.2.1 ∈ gw_tbl := gw_tab (i := 62) (by decide +kernel) rfl
theorem pw_X5_33 : Cond.fieldLink RX5 33 (TX5 9).1 (TX5 9).2.1 (TX5 9).2.2.1 ∈ gw_tbl := gw_tab (i := 65) (by decide +kernel) rfl
theorem pw_X5_36 : Cond.fieldLink RX5 36 (TX5 11).1 (TX5 11).2.1 (TX5 11).2.2.1 ∈ gw_tbl := gw_tab (i := 70) (by decide +kernel) rfl
theorem pw_X5_39 : Cond.fieldLink RX5 39 (TX5 12).1 (TX5 12).2.1 (TX5 12).2.2.1 ∈ gw_tbl := gw_tab (i := 72) (by decide +kernel) rfl
theorem ob_X2 : Cond.methodLink RX2 3 objectInit ∈ gw_tbl := gw_tab (i := 164) (by decide +kernel) rfl
theorem pw_X2_9 : Cond.fieldLink RX2 9 (TX2 0).1 (TX2 0).2.1 (TX2 0).2.2.1 ∈ gw_tbl := gw_tab (i := 165) (by decide +kernel) rfl
theorem pw_X2_15 : Cond.fieldLink RX2 15 (TX2 2).1 (TX2 2).2.1 (TX2 2).2.2.1 ∈ gw_tbl := gw_tab (i := 167) (by decide +kernel) rfl
theorem pw_X2_18 : Cond.fieldLink RX2 18 (TX2 3).1 (TX2 3).2.1 (TX2 3).2.2.1 ∈ gw_tbl := gw_tab (i := 168) (by decide +kernel) rfl
theorem pw_X2_21 : Cond.fieldLink RX2 21 (TX2 4).1 (TX2 4).2.1 (TX2 4).2.2.1 ∈ gw_tbl := gw_tab (i := 169) (by decide +kernel) rfl
theorem pw_X2_24 : Cond.fieldLink RX2 24 (TX2 6).1 (TX2 6).2.1 (TX2 6).2.2.1 ∈ gw_tbl := gw_tab (i := 171) (by decide +kernel) rfl
theorem ob_X4 : Cond.methodLink RX4 1 objectInit ∈ gw_tbl := gw_tab (i := 242) (by decide +kernel) rfl
theorem pw_X4_9 : Cond.fieldLink RX4 9 (TX4 0).1 (TX4 0).2.1 (TX4 0).2.2.1 ∈ gw_tbl := gw_tab (i := 243) (by decide +kernel) rfl
theorem pw_X4_13 : Cond.fieldLink RX4 13 (TX4 2).1 (TX4 2).2.1 (TX4 2).2.2.1 ∈ gw_tbl := gw_tab (i := 247) (by decide +kernel) rfl
theorem ob_X0 : Cond.methodLink RX0 3 objectInit ∈ gw_tbl := gw_tab (i := 217) (by decide +kernel) rfl
theorem pw_X0_11 : Cond.fieldLink RX0 11 (TX0 0).1 (TX0 0).2.1 (TX0 0).2.2.1 ∈ gw_tbl := gw_tab (i := 218) (by decide +kernel) rfl
theorem ob_X3 : Cond.methodLink RX3 3 objectInit ∈ gw_tbl := gw_tab (i := 194) (by decide +kernel) rfl
theorem pw_X3_9 : Cond.fieldLink RX3 9 (TX3 0).1 (TX3 0).2.1 (TX3 0).2.2.1 ∈ gw_tbl := gw_tab (i := 197) (by decide +kernel) rfl
theorem cl_X3_15 : Cond.classLink RX3 15 "NamesBack$Land" ∈ gw_tbl := gw_tab (i := 195) (by decide +kernel) rfl
theorem ist_X2 : Cond.instantiable RX2 7 ∈ gw_tbl ∧ Cond.initialized RX2 ∈ gw_tbl := ⟨gw_tab (i := 160) (by decide +kernel) rfl, gw_tab (i := 4) (by decide +kernel) rfl⟩
theorem df_X2 : ∀ j, j < 7 → defaultValue (tyX2 j) = vp_V [.null, .int 0, .null, .null, .null, .int 0, .int 0] j := by
  intro j hj
  match j, hj with
  | 0, _ => rfl
  | 1, _ => rfl
  | 2, _ => rfl
  | 3, _ => rfl
  | 4, _ => rfl
  | 5, _ => rfl
  | 6, _ => rfl
theorem lk_X3_17 : Cond.methodLink RX3 17 yX2_init ∈ gw_tbl ∨ ∃ host, Cond.methodLinkNest RX3 17 yX2_init host ∈ lw_tbl := Or.inr ⟨"NamesBack", lw_tab (i := 196) (by decide +kernel)⟩
theorem ci_X2 : Cond.code yX2_init cX2_init 1 none ∈ gw_tbl ∧ Cond.initialized yX2_init.cls ∈ gw_tbl ∧ Cond.instanceMethod yX2_init ∈ gw_tbl ∧ (parseMethodDescriptor yX2_init.desc).map (fun d => d.parameters.length) = some 0 := ⟨gw_tab (i := 163) (by decide +kernel) rfl, gw_tab (i := 4) (by decide +kernel) rfl, gw_tab (i := 162) (by decide +kernel) rfl, by decide +kernel⟩
theorem pw_X3_18 : Cond.fieldLink RX3 18 (TX3 3).1 (TX3 3).2.1 (TX3 3).2.2.1 ∈ gw_tbl := gw_tab (i := 201) (by decide +kernel) rfl
theorem ob_X1 : Cond.methodLink RX1 3 objectInit ∈ gw_tbl := gw_tab (i := 31) (by decide +kernel) rfl
theorem cl_X1_9 : Cond.classLink RX1 9 "NamesBack$World" ∈ gw_tbl := gw_tab (i := 32) (by decide +kernel) rfl
theorem ist_X5 : Cond.instantiable RX5 13 ∈ gw_tbl ∧ Cond.initialized RX5 ∈ gw_tbl := ⟨gw_tab (i := 33) (by decide +kernel) rfl, gw_tab (i := 3) (by decide +kernel) rfl⟩
theorem df_X5 : ∀ j, j < 13 → defaultValue (tyX5 j) = vp_V [.int 0, .null, .null, .null, .null, .null, .int 0, .null, .null, .null, .int 0, .null, .int 0] j := by
  intro j hj
  match j, hj with
  | 0, _ => rfl
  | 1, _ => rfl
  | 2, _ => rfl
  | 3, _ => rfl
  | 4, _ => rfl
  | 5, _ => rfl
  | 6, _ => rfl
  | 7, _ => rfl
  | 8, _ => rfl
  | 9, _ => rfl
  | 10, _ => rfl
  | 11, _ => rfl
  | 12, _ => rfl
theorem lk_X1_11 : Cond.methodLink RX1 11 yX5_init ∈ gw_tbl ∨ ∃ host, Cond.methodLinkNest RX1 11 yX5_init host ∈ lw_tbl := Or.inr ⟨"NamesBack", lw_tab (i := 34) (by decide +kernel)⟩
theorem ci_X5 : Cond.code yX5_init cX5_init 1 none ∈ gw_tbl ∧ Cond.initialized yX5_init.cls ∈ gw_tbl ∧ Cond.instanceMethod yX5_init ∈ gw_tbl ∧ (parseMethodDescriptor yX5_init.desc).map (fun d => d.parameters.length) = some 0 := ⟨gw_tab (i := 36) (by decide +kernel) rfl, gw_tab (i := 3) (by decide +kernel) rfl, gw_tab (i := 35) (by decide +kernel) rfl, by decide +kernel⟩
theorem pw_X1_12 : Cond.fieldLink RX1 12 (TX1 0).1 (TX1 0).2.1 (TX1 0).2.2.1 ∈ gw_tbl := gw_tab (i := 102) (by decide +kernel) rfl
theorem pw_X1_18 : Cond.fieldLink RX1 18 (TX1 1).1 (TX1 1).2.1 (TX1 1).2.2.1 ∈ gw_tbl := gw_tab (i := 104) (by decide +kernel) rfl
theorem pw_X1_22 : Cond.fieldLink RX1 22 (TX1 2).1 (TX1 2).2.1 (TX1 2).2.2.1 ∈ gw_tbl := gw_tab (i := 105) (by decide +kernel) rfl
theorem pw_X1_25 : Cond.fieldLink RX1 25 (TX1 3).1 (TX1 3).2.1 (TX1 3).2.2.1 ∈ gw_tbl := gw_tab (i := 107) (by decide +kernel) rfl
theorem pw_X1_28 : Cond.fieldLink RX1 28 (TX1 4).1 (TX1 4).2.1 (TX1 4).2.2.1 ∈ gw_tbl := gw_tab (i := 108) (by decide +kernel) rfl
theorem pw_X1_31 : Cond.fieldLink RX1 31 (TX1 5).1 (TX1 5).2.1 (TX1 5).2.2.1 ∈ gw_tbl := gw_tab (i := 110) (by decide +kernel) rfl
theorem pw_X1_34 : Cond.fieldLink RX1 34 (TX1 6).1 (TX1 6).2.1 (TX1 6).2.2.1 ∈ gw_tbl := gw_tab (i := 112) (by decide +kernel) rfl
theorem pw_X1_37 : Cond.fieldLink RX1 37 (TX1 7).1 (TX1 7).2.1 (TX1 7).2.2.1 ∈ gw_tbl := gw_tab (i := 114) (by decide +kernel) rfl
theorem pw_X1_40 : Cond.fieldLink RX1 40 (TX1 8).1 (TX1 8).2.1 (TX1 8).2.2.1 ∈ gw_tbl := gw_tab (i := 116) (by decide +kernel) rfl
theorem pw_X1_44 : Cond.fieldLink RX1 44 (TX1 9).1 (TX1 9).2.1 (TX1 9).2.2.1 ∈ gw_tbl := gw_tab (i := 117) (by decide +kernel) rfl
theorem pw_X1_47 : Cond.fieldLink RX1 47 (TX1 10).1 (TX1 10).2.1 (TX1 10).2.2.1 ∈ gw_tbl := gw_tab (i := 118) (by decide +kernel) rfl
theorem ob_X7 : Cond.methodLink RX7 1 objectInit ∈ gw_tbl := gw_tab (i := 879) (by decide +kernel) rfl
theorem pw_X7_7 : Cond.fieldLink RX7 7 (TX7 0).1 (TX7 0).2.1 (TX7 0).2.2.1 ∈ gw_tbl := gw_tab (i := 880) (by decide +kernel) rfl
theorem pw_X7_13 : Cond.fieldLink RX7 13 (TX7 1).1 (TX7 1).2.1 (TX7 1).2.2.1 ∈ gw_tbl := gw_tab (i := 881) (by decide +kernel) rfl
theorem pw_X7_16 : Cond.fieldLink RX7 16 (TX7 2).1 (TX7 2).2.1 (TX7 2).2.2.1 ∈ gw_tbl := gw_tab (i := 882) (by decide +kernel) rfl
theorem pw_X7_20 : Cond.fieldLink RX7 20 (TX7 3).1 (TX7 3).2.1 (TX7 3).2.2.1 ∈ gw_tbl := gw_tab (i := 883) (by decide +kernel) rfl
theorem pw_X7_23 : Cond.fieldLink RX7 23 (TX7 4).1 (TX7 4).2.1 (TX7 4).2.2.1 ∈ gw_tbl := gw_tab (i := 884) (by decide +kernel) rfl
theorem pw_X7_26 : Cond.fieldLink RX7 26 (TX7 5).1 (TX7 5).2.1 (TX7 5).2.2.1 ∈ gw_tbl := gw_tab (i := 885) (by decide +kernel) rfl
theorem pw_X7_29 : Cond.fieldLink RX7 29 (TX7 6).1 (TX7 6).2.1 (TX7 6).2.2.1 ∈ gw_tbl := gw_tab (i := 886) (by decide +kernel) rfl
theorem pw_X7_32 : Cond.fieldLink RX7 32 (TX7 7).1 (TX7 7).2.1 (TX7 7).2.2.1 ∈ gw_tbl := gw_tab (i := 887) (by decide +kernel) rfl
theorem pw_X7_35 : Cond.fieldLink RX7 35 (TX7 8).1 (TX7 8).2.1 (TX7 8).2.2.1 ∈ gw_tbl := gw_tab (i := 888) (by decide +kernel) rfl
theorem pw_X7_38 : Cond.fieldLink RX7 38 (TX7 9).1 (TX7 9).2.1 (TX7 9).2.2.1 ∈ gw_tbl := gw_tab (i := 889) (by decide +kernel) rfl
theorem pw_X7_41 : Cond.fieldLink RX7 41 (TX7 10).1 (TX7 10).2.1 (TX7 10).2.2.1 ∈ gw_tbl := gw_tab (i := 890) (by decide +kernel) rfl
theorem pw_X7_44 : Cond.fieldLink RX7 44 (TX7 11).1 (TX7 11).2.1 (TX7 11).2.2.1 ∈ gw_tbl := gw_tab (i := 891) (by decide +kernel) rfl
theorem pw_X7_47 : Cond.fieldLink RX7 47 (TX7 12).1 (TX7 12).2.1 (TX7 12).2.2.1 ∈ gw_tbl := gw_tab (i := 892) (by decide +kernel) rfl
theorem pw_X7_50 : Cond.fieldLink RX7 50 (TX7 13).1 (TX7 13).2.1 (TX7 13).2.2.1 ∈ gw_tbl := gw_tab (i := 893) (by decide +kernel) rfl
theorem pw_X7_53 : Cond.fieldLink RX7 53 (TX7 14).1 (TX7 14).2.1 (TX7 14).2.2.1 ∈ gw_tbl := gw_tab (i := 894) (by decide +kernel) rfl
theorem pw_X7_56 : Cond.fieldLink RX7 56 (TX7 15).1 (TX7 15).2.1 (TX7 15).2.2.1 ∈ gw_tbl := gw_tab (i := 895) (by decide +kernel) rfl
theorem pw_X7_59 : Cond.fieldLink RX7 59 (TX7 16).1 (TX7 16).2.1 (TX7 16).2.2.1 ∈ gw_tbl := gw_tab (i := 896) (by decide +kernel) rfl
theorem pw_X7_62 : Cond.fieldLink RX7 62 (TX7 17).1 (TX7 17).2.1 (TX7 17).2.2.1 ∈ gw_tbl := gw_tab (i := 897) (by decide +kernel) rfl
theorem pw_X7_65 : Cond.fieldLink RX7 65 (TX7 18).1 (TX7 18).2.1 (TX7 18).2.2.1 ∈ gw_tbl := gw_tab (i := 898) (by decide +kernel) rfl
theorem pw_X7_68 : Cond.fieldLink RX7 68 (TX7 19).1 (TX7 19).2.1 (TX7 19).2.2.1 ∈ gw_tbl := gw_tab (i := 899) (by decide +kernel) rfl
theorem pw_X7_71 : Cond.fieldLink RX7 71 (TX7 20).1 (TX7 20).2.1 (TX7 20).2.2.1 ∈ gw_tbl := gw_tab (i := 900) (by decide +kernel) rfl
theorem ks_600 : (Int16.ofInt 600).toInt32 = 600 := rfl
theorem pw_X7_74 : Cond.fieldLink RX7 74 (TX7 21).1 (TX7 21).2.1 (TX7 21).2.2.1 ∈ gw_tbl := gw_tab (i := 901) (by decide +kernel) rfl
theorem kb_101 : (Int8.ofInt 101).toInt32 = 101 := rfl
theorem pw_X7_77 : Cond.fieldLink RX7 77 (TX7 22).1 (TX7 22).2.1 (TX7 22).2.2.1 ∈ gw_tbl := gw_tab (i := 902) (by decide +kernel) rfl
theorem pw_X7_80 : Cond.fieldLink RX7 80 (TX7 23).1 (TX7 23).2.1 (TX7 23).2.2.1 ∈ gw_tbl := gw_tab (i := 903) (by decide +kernel) rfl
theorem pw_X7_83 : Cond.fieldLink RX7 83 (TX7 24).1 (TX7 24).2.1 (TX7 24).2.2.1 ∈ gw_tbl := gw_tab (i := 904) (by decide +kernel) rfl
theorem pw_X7_86 : Cond.fieldLink RX7 86 (TX7 25).1 (TX7 25).2.1 (TX7 25).2.2.1 ∈ gw_tbl := gw_tab (i := 905) (by decide +kernel) rfl
theorem kb_103 : (Int8.ofInt 103).toInt32 = 103 := rfl
theorem kb_114 : (Int8.ofInt 114).toInt32 = 114 := rfl
theorem kb_97 : (Int8.ofInt 97).toInt32 = 97 := rfl
theorem kb_116 : (Int8.ofInt 116).toInt32 = 116 := rfl
theorem kb_102 : (Int8.ofInt 102).toInt32 = 102 := rfl
theorem kb_109 : (Int8.ofInt 109).toInt32 = 109 := rfl
theorem kb_115 : (Int8.ofInt 115).toInt32 = 115 := rfl
theorem pw_X7_89 : Cond.fieldLink RX7 89 (TX7 26).1 (TX7 26).2.1 (TX7 26).2.2.1 ∈ gw_tbl := gw_tab (i := 906) (by decide +kernel) rfl
theorem pw_X7_92 : Cond.fieldLink RX7 92 (TX7 27).1 (TX7 27).2.1 (TX7 27).2.2.1 ∈ gw_tbl := gw_tab (i := 907) (by decide +kernel) rfl
theorem pw_X7_96 : Cond.fieldLink RX7 96 (TX7 28).1 (TX7 28).2.1 (TX7 28).2.2.1 ∈ gw_tbl := gw_tab (i := 908) (by decide +kernel) rfl
theorem pw_X7_99 : Cond.fieldLink RX7 99 (TX7 29).1 (TX7 29).2.1 (TX7 29).2.2.1 ∈ gw_tbl := gw_tab (i := 909) (by decide +kernel) rfl
theorem pw_X7_102 : Cond.fieldLink RX7 102 (TX7 30).1 (TX7 30).2.1 (TX7 30).2.2.1 ∈ gw_tbl := gw_tab (i := 910) (by decide +kernel) rfl
theorem pw_X7_105 : Cond.fieldLink RX7 105 (TX7 31).1 (TX7 31).2.1 (TX7 31).2.2.1 ∈ gw_tbl := gw_tab (i := 911) (by decide +kernel) rfl
theorem pw_X7_108 : Cond.fieldLink RX7 108 (TX7 32).1 (TX7 32).2.1 (TX7 32).2.2.1 ∈ gw_tbl := gw_tab (i := 912) (by decide +kernel) rfl
theorem pw_X7_111 : Cond.fieldLink RX7 111 (TX7 33).1 (TX7 33).2.1 (TX7 33).2.2.1 ∈ gw_tbl := gw_tab (i := 913) (by decide +kernel) rfl
theorem pw_X7_114 : Cond.fieldLink RX7 114 (TX7 34).1 (TX7 34).2.1 (TX7 34).2.2.1 ∈ gw_tbl := gw_tab (i := 914) (by decide +kernel) rfl
theorem pw_X7_117 : Cond.fieldLink RX7 117 (TX7 35).1 (TX7 35).2.1 (TX7 35).2.2.1 ∈ gw_tbl := gw_tab (i := 915) (by decide +kernel) rfl
theorem pw_X7_120 : Cond.fieldLink RX7 120 (TX7 36).1 (TX7 36).2.1 (TX7 36).2.2.1 ∈ gw_tbl := gw_tab (i := 916) (by decide +kernel) rfl
theorem pw_X7_123 : Cond.fieldLink RX7 123 (TX7 37).1 (TX7 37).2.1 (TX7 37).2.2.1 ∈ gw_tbl := gw_tab (i := 917) (by decide +kernel) rfl
theorem pw_X7_127 : Cond.fieldLink RX7 127 (TX7 38).1 (TX7 38).2.1 (TX7 38).2.2.1 ∈ gw_tbl := gw_tab (i := 918) (by decide +kernel) rfl
theorem pw_X7_130 : Cond.fieldLink RX7 130 (TX7 39).1 (TX7 39).2.1 (TX7 39).2.2.1 ∈ gw_tbl := gw_tab (i := 919) (by decide +kernel) rfl
theorem pw_X7_133 : Cond.fieldLink RX7 133 (TX7 40).1 (TX7 40).2.1 (TX7 40).2.2.1 ∈ gw_tbl := gw_tab (i := 920) (by decide +kernel) rfl
theorem pw_X7_136 : Cond.fieldLink RX7 136 (TX7 41).1 (TX7 41).2.1 (TX7 41).2.2.1 ∈ gw_tbl := gw_tab (i := 921) (by decide +kernel) rfl
theorem pw_X7_140 : Cond.fieldLink RX7 140 (TX7 42).1 (TX7 42).2.1 (TX7 42).2.2.1 ∈ gw_tbl := gw_tab (i := 922) (by decide +kernel) rfl
theorem pw_X7_143 : Cond.fieldLink RX7 143 (TX7 43).1 (TX7 43).2.1 (TX7 43).2.2.1 ∈ gw_tbl := gw_tab (i := 923) (by decide +kernel) rfl
theorem pw_X7_146 : Cond.fieldLink RX7 146 (TX7 44).1 (TX7 44).2.1 (TX7 44).2.2.1 ∈ gw_tbl := gw_tab (i := 924) (by decide +kernel) rfl
theorem pw_X7_149 : Cond.fieldLink RX7 149 (TX7 45).1 (TX7 45).2.1 (TX7 45).2.2.1 ∈ gw_tbl := gw_tab (i := 925) (by decide +kernel) rfl
theorem pw_X7_152 : Cond.fieldLink RX7 152 (TX7 46).1 (TX7 46).2.1 (TX7 46).2.2.1 ∈ gw_tbl := gw_tab (i := 926) (by decide +kernel) rfl
theorem pw_X7_155 : Cond.fieldLink RX7 155 (TX7 47).1 (TX7 47).2.1 (TX7 47).2.2.1 ∈ gw_tbl := gw_tab (i := 927) (by decide +kernel) rfl
theorem pw_X7_158 : Cond.fieldLink RX7 158 (TX7 48).1 (TX7 48).2.1 (TX7 48).2.2.1 ∈ gw_tbl := gw_tab (i := 928) (by decide +kernel) rfl
theorem pw_X7_161 : Cond.fieldLink RX7 161 (TX7 49).1 (TX7 49).2.1 (TX7 49).2.2.1 ∈ gw_tbl := gw_tab (i := 929) (by decide +kernel) rfl
theorem pw_X7_164 : Cond.fieldLink RX7 164 (TX7 50).1 (TX7 50).2.1 (TX7 50).2.2.1 ∈ gw_tbl := gw_tab (i := 930) (by decide +kernel) rfl
theorem pw_X7_167 : Cond.fieldLink RX7 167 (TX7 51).1 (TX7 51).2.1 (TX7 51).2.2.1 ∈ gw_tbl := gw_tab (i := 931) (by decide +kernel) rfl
theorem pw_X7_170 : Cond.fieldLink RX7 170 (TX7 52).1 (TX7 52).2.1 (TX7 52).2.2.1 ∈ gw_tbl := gw_tab (i := 932) (by decide +kernel) rfl
theorem pw_X7_173 : Cond.fieldLink RX7 173 (TX7 53).1 (TX7 53).2.1 (TX7 53).2.2.1 ∈ gw_tbl := gw_tab (i := 933) (by decide +kernel) rfl
theorem pw_X7_176 : Cond.fieldLink RX7 176 (TX7 54).1 (TX7 54).2.1 (TX7 54).2.2.1 ∈ gw_tbl := gw_tab (i := 934) (by decide +kernel) rfl
theorem pw_X7_179 : Cond.fieldLink RX7 179 (TX7 55).1 (TX7 55).2.1 (TX7 55).2.2.1 ∈ gw_tbl := gw_tab (i := 935) (by decide +kernel) rfl
theorem pw_X7_182 : Cond.fieldLink RX7 182 (TX7 56).1 (TX7 56).2.1 (TX7 56).2.2.1 ∈ gw_tbl := gw_tab (i := 936) (by decide +kernel) rfl
theorem pw_X7_185 : Cond.fieldLink RX7 185 (TX7 57).1 (TX7 57).2.1 (TX7 57).2.2.1 ∈ gw_tbl := gw_tab (i := 937) (by decide +kernel) rfl
theorem pw_X7_188 : Cond.fieldLink RX7 188 (TX7 58).1 (TX7 58).2.1 (TX7 58).2.2.1 ∈ gw_tbl := gw_tab (i := 938) (by decide +kernel) rfl
theorem ks_360 : (Int16.ofInt 360).toInt32 = 360 := rfl
theorem pw_X7_191 : Cond.fieldLink RX7 191 (TX7 59).1 (TX7 59).2.1 (TX7 59).2.2.1 ∈ gw_tbl := gw_tab (i := 939) (by decide +kernel) rfl
theorem pw_X7_194 : Cond.fieldLink RX7 194 (TX7 60).1 (TX7 60).2.1 (TX7 60).2.2.1 ∈ gw_tbl := gw_tab (i := 940) (by decide +kernel) rfl
theorem ob_X6 : Cond.methodLink RX6 3 objectInit ∈ gw_tbl := gw_tab (i := 23) (by decide +kernel) rfl
theorem cl_X6_9 : Cond.classLink RX6 9 "NamesBack$Journeys" ∈ gw_tbl := gw_tab (i := 26) (by decide +kernel) rfl
theorem ist_X1 : Cond.instantiable RX1 15 ∈ gw_tbl ∧ Cond.initialized RX1 ∈ gw_tbl := ⟨gw_tab (i := 27) (by decide +kernel) rfl, gw_tab (i := 2) (by decide +kernel) rfl⟩
theorem df_X1 : ∀ j, j < 15 → defaultValue (tyX1 j) = vp_V [.null, .null, .null, .null, .null, .null, .null, .null, .null, .null, .int 0, .int 0, .int 0, .int 0, .int 0] j := by
  intro j hj
  match j, hj with
  | 0, _ => rfl
  | 1, _ => rfl
  | 2, _ => rfl
  | 3, _ => rfl
  | 4, _ => rfl
  | 5, _ => rfl
  | 6, _ => rfl
  | 7, _ => rfl
  | 8, _ => rfl
  | 9, _ => rfl
  | 10, _ => rfl
  | 11, _ => rfl
  | 12, _ => rfl
  | 13, _ => rfl
  | 14, _ => rfl
theorem lk_X6_11 : Cond.methodLink RX6 11 yX1_init ∈ gw_tbl ∨ ∃ host, Cond.methodLinkNest RX6 11 yX1_init host ∈ lw_tbl := Or.inr ⟨"NamesBack", lw_tab (i := 28) (by decide +kernel)⟩
theorem ci_X1 : Cond.code yX1_init cX1_init 1 none ∈ gw_tbl ∧ Cond.initialized yX1_init.cls ∈ gw_tbl ∧ Cond.instanceMethod yX1_init ∈ gw_tbl ∧ (parseMethodDescriptor yX1_init.desc).map (fun d => d.parameters.length) = some 0 := ⟨gw_tab (i := 30) (by decide +kernel) rfl, gw_tab (i := 2) (by decide +kernel) rfl, gw_tab (i := 29) (by decide +kernel) rfl, by decide +kernel⟩
theorem pw_X6_12 : Cond.fieldLink RX6 12 (TX6 0).1 (TX6 0).2.1 (TX6 0).2.2.1 ∈ gw_tbl := gw_tab (i := 256) (by decide +kernel) rfl
theorem fa_X6_18 : mjFA RX6 18 1 0 := ⟨_, _, _, rfl, in_X1, by decide, Or.inr ⟨"NamesBack", lw_tab (i := 103) (by decide +kernel)⟩⟩
theorem pw_X6_22 : Cond.fieldLink RX6 22 (TX6 1).1 (TX6 1).2.1 (TX6 1).2.2.1 ∈ gw_tbl := gw_tab (i := 257) (by decide +kernel) rfl
theorem cl_X6_23 : Cond.classLink RX6 23 "NamesBack$World" ∈ gw_tbl := gw_tab (i := 157) (by decide +kernel) rfl
theorem lk_X6_25 : Cond.methodLink RX6 25 yX5_init ∈ gw_tbl ∨ ∃ host, Cond.methodLinkNest RX6 25 yX5_init host ∈ lw_tbl := Or.inr ⟨"NamesBack", lw_tab (i := 158) (by decide +kernel)⟩
theorem pw_X6_26 : Cond.fieldLink RX6 26 (TX6 2).1 (TX6 2).2.1 (TX6 2).2.2.1 ∈ gw_tbl := gw_tab (i := 258) (by decide +kernel) rfl
theorem cl_X6_29 : Cond.classLink RX6 29 "NamesBack$Land" ∈ gw_tbl := gw_tab (i := 159) (by decide +kernel) rfl
theorem lk_X6_31 : Cond.methodLink RX6 31 yX2_init ∈ gw_tbl ∨ ∃ host, Cond.methodLinkNest RX6 31 yX2_init host ∈ lw_tbl := Or.inr ⟨"NamesBack", lw_tab (i := 161) (by decide +kernel)⟩
theorem pw_X6_32 : Cond.fieldLink RX6 32 (TX6 4).1 (TX6 4).2.1 (TX6 4).2.2.1 ∈ gw_tbl := gw_tab (i := 260) (by decide +kernel) rfl
theorem ov_4 : tables_1[188]? = some (Cond.arrayOver (.object "NamesBack$Land")) := by decide +kernel
theorem pw_X6_36 : Cond.fieldLink RX6 36 (TX6 5).1 (TX6 5).2.1 (TX6 5).2.2.1 ∈ gw_tbl := gw_tab (i := 261) (by decide +kernel) rfl
theorem cl_X6_40 : Cond.classLink RX6 40 "NamesBack$LandReader" ∈ gw_tbl := gw_tab (i := 189) (by decide +kernel) rfl
theorem ist_X3 : Cond.instantiable RX3 4 ∈ gw_tbl ∧ Cond.initialized RX3 ∈ gw_tbl := ⟨gw_tab (i := 190) (by decide +kernel) rfl, gw_tab (i := 5) (by decide +kernel) rfl⟩
theorem df_X3 : ∀ j, j < 4 → defaultValue (tyX3 j) = vp_V [.null, .int 0, .int 0, .null] j := by
  intro j hj
  match j, hj with
  | 0, _ => rfl
  | 1, _ => rfl
  | 2, _ => rfl
  | 3, _ => rfl
theorem lk_X6_42 : Cond.methodLink RX6 42 yX3_init ∈ gw_tbl ∨ ∃ host, Cond.methodLinkNest RX6 42 yX3_init host ∈ lw_tbl := Or.inr ⟨"NamesBack", lw_tab (i := 191) (by decide +kernel)⟩
theorem ci_X3 : Cond.code yX3_init cX3_init 1 none ∈ gw_tbl ∧ Cond.initialized yX3_init.cls ∈ gw_tbl ∧ Cond.instanceMethod yX3_init ∈ gw_tbl ∧ (parseMethodDescriptor yX3_init.desc).map (fun d => d.parameters.length) = some 0 := ⟨gw_tab (i := 193) (by decide +kernel) rfl, gw_tab (i := 5) (by decide +kernel) rfl, gw_tab (i := 192) (by decide +kernel) rfl, by decide +kernel⟩
theorem pw_X6_43 : Cond.fieldLink RX6 43 (TX6 7).1 (TX6 7).2.1 (TX6 7).2.2.1 ∈ gw_tbl := gw_tab (i := 263) (by decide +kernel) rfl
theorem cl_X6_47 : Cond.classLink RX6 47 "NamesBack$Acts" ∈ gw_tbl := gw_tab (i := 212) (by decide +kernel) rfl
theorem ist_X0 : Cond.instantiable RX0 5 ∈ gw_tbl ∧ Cond.initialized RX0 ∈ gw_tbl := ⟨gw_tab (i := 213) (by decide +kernel) rfl, gw_tab (i := 6) (by decide +kernel) rfl⟩
theorem df_X0 : ∀ j, j < 5 → defaultValue (tyX0 j) = vp_V [.null, .int 0, .int 0, .int 0, .int 0] j := by
  intro j hj
  match j, hj with
  | 0, _ => rfl
  | 1, _ => rfl
  | 2, _ => rfl
  | 3, _ => rfl
  | 4, _ => rfl
theorem lk_X6_49 : Cond.methodLink RX6 49 yX0_init ∈ gw_tbl ∨ ∃ host, Cond.methodLinkNest RX6 49 yX0_init host ∈ lw_tbl := Or.inr ⟨"NamesBack", lw_tab (i := 214) (by decide +kernel)⟩
theorem ci_X0 : Cond.code yX0_init cX0_init 1 none ∈ gw_tbl ∧ Cond.initialized yX0_init.cls ∈ gw_tbl ∧ Cond.instanceMethod yX0_init ∈ gw_tbl ∧ (parseMethodDescriptor yX0_init.desc).map (fun d => d.parameters.length) = some 0 := ⟨gw_tab (i := 216) (by decide +kernel) rfl, gw_tab (i := 6) (by decide +kernel) rfl, gw_tab (i := 215) (by decide +kernel) rfl, by decide +kernel⟩
theorem pw_X6_50 : Cond.fieldLink RX6 50 (TX6 8).1 (TX6 8).2.1 (TX6 8).2.2.1 ∈ gw_tbl := gw_tab (i := 264) (by decide +kernel) rfl
theorem cl_X6_54 : Cond.classLink RX6 54 "NamesBack$Tape" ∈ gw_tbl := gw_tab (i := 236) (by decide +kernel) rfl
theorem ov_5 : tables_1[237]? = some (Cond.arrayOver (.object "NamesBack$Tape")) := by decide +kernel
theorem pw_X6_56 : Cond.fieldLink RX6 56 (TX6 9).1 (TX6 9).2.1 (TX6 9).2.2.1 ∈ gw_tbl := gw_tab (i := 265) (by decide +kernel) rfl
theorem ist_X4 : Cond.instantiable RX4 3 ∈ gw_tbl ∧ Cond.initialized RX4 ∈ gw_tbl := ⟨gw_tab (i := 238) (by decide +kernel) rfl, gw_tab (i := 7) (by decide +kernel) rfl⟩
theorem df_X4 : ∀ j, j < 3 → defaultValue (tyX4 j) = vp_V [.int 0, .int 0, .null] j := by
  intro j hj
  match j, hj with
  | 0, _ => rfl
  | 1, _ => rfl
  | 2, _ => rfl
theorem lk_X6_60 : Cond.methodLink RX6 60 yX4_init ∈ gw_tbl ∨ ∃ host, Cond.methodLinkNest RX6 60 yX4_init host ∈ lw_tbl := Or.inr ⟨"NamesBack", lw_tab (i := 239) (by decide +kernel)⟩
theorem ci_X4 : Cond.code yX4_init cX4_init 1 none ∈ gw_tbl ∧ Cond.initialized yX4_init.cls ∈ gw_tbl ∧ Cond.instanceMethod yX4_init ∈ gw_tbl ∧ (parseMethodDescriptor yX4_init.desc).map (fun d => d.parameters.length) = some 0 := ⟨gw_tab (i := 241) (by decide +kernel) rfl, gw_tab (i := 7) (by decide +kernel) rfl, gw_tab (i := 240) (by decide +kernel) rfl, by decide +kernel⟩
