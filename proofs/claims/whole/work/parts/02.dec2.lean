theorem dX7_takesClause_40 : decode cX7_takesClause 40 = .ok (.invokevirtual 227, 3) := by decide +kernel
theorem dX7_takesClause_43 : decode cX7_takesClause 43 = .ok (.ifCond .eq 15, 3) := by decide +kernel
theorem dX7_takesClause_46 : decode cX7_takesClause 46 = .ok (.aload_n 0, 1) := by decide +kernel
theorem dX7_takesClause_47 : decode cX7_takesClause 47 = .ok (.iload_n 1, 1) := by decide +kernel
theorem dX7_takesClause_48 : decode cX7_takesClause 48 = .ok (.invokevirtual 259, 3) := by decide +kernel
theorem dX7_takesClause_51 : decode cX7_takesClause 51 = .ok (.ifCond .eq 7, 3) := by decide +kernel
theorem dX7_takesClause_54 : decode cX7_takesClause 54 = .ok (.iconst 1, 1) := by decide +kernel
theorem dX7_takesClause_55 : decode cX7_takesClause 55 = .ok (.goto 4, 3) := by decide +kernel
theorem dX7_takesClause_58 : decode cX7_takesClause 58 = .ok (.iconst 0, 1) := by decide +kernel
theorem dX7_takesClause_59 : decode cX7_takesClause 59 = .ok (.ireturn, 1) := by decide +kernel
theorem dX7_goesText_0 : decode cX7_goesText 0 = .ok (.aload_n 0, 1) := by decide +kernel
theorem dX7_goesText_1 : decode cX7_goesText 1 = .ok (.iconst 0, 1) := by decide +kernel
theorem dX7_goesText_2 : decode cX7_goesText 2 = .ok (.putfield 50, 3) := by decide +kernel
theorem dX7_goesText_5 : decode cX7_goesText 5 = .ok (.aload_n 0, 1) := by decide +kernel
theorem dX7_goesText_6 : decode cX7_goesText 6 = .ok (.bipush 100, 2) := by decide +kernel
theorem dX7_goesText_8 : decode cX7_goesText 8 = .ok (.iload_n 1, 1) := by decide +kernel
theorem dX7_goesText_9 : decode cX7_goesText 9 = .ok (.imul, 1) := by decide +kernel
theorem dX7_goesText_10 : decode cX7_goesText 10 = .ok (.putfield 80, 3) := by decide +kernel
theorem dX7_goesText_13 : decode cX7_goesText 13 = .ok (.iconst 0, 1) := by decide +kernel
theorem dX7_goesText_14 : decode cX7_goesText 14 = .ok (.istore_n 2, 1) := by decide +kernel
theorem dX7_goesText_15 : decode cX7_goesText 15 = .ok (.aload_n 0, 1) := by decide +kernel
theorem dX7_goesText_16 : decode cX7_goesText 16 = .ok (.bipush 10, 2) := by decide +kernel
theorem dX7_goesText_18 : decode cX7_goesText 18 = .ok (.iload_n 1, 1) := by decide +kernel
theorem dX7_goesText_19 : decode cX7_goesText 19 = .ok (.imul, 1) := by decide +kernel
theorem dX7_goesText_20 : decode cX7_goesText 20 = .ok (.iload_n 2, 1) := by decide +kernel
theorem dX7_goesText_21 : decode cX7_goesText 21 = .ok (.iadd, 1) := by decide +kernel
theorem dX7_goesText_22 : decode cX7_goesText 22 = .ok (.invokevirtual 262, 3) := by decide +kernel
theorem dX7_goesText_25 : decode cX7_goesText 25 = .ok (.ifCond .ne 5, 3) := by decide +kernel
theorem dX7_goesText_28 : decode cX7_goesText 28 = .ok (.iconst 0, 1) := by decide +kernel
theorem dX7_goesText_29 : decode cX7_goesText 29 = .ok (.ireturn, 1) := by decide +kernel
theorem dX7_goesText_30 : decode cX7_goesText 30 = .ok (.iinc 2 1, 3) := by decide +kernel
theorem dX7_goesText_33 : decode cX7_goesText 33 = .ok (.aload_n 0, 1) := by decide +kernel
theorem dX7_goesText_34 : decode cX7_goesText 34 = .ok (.getfield 59, 3) := by decide +kernel
theorem dX7_goesText_37 : decode cX7_goesText 37 = .ok (.iload_n 1, 1) := by decide +kernel
theorem dX7_goesText_38 : decode cX7_goesText 38 = .ok (.iload_n 2, 1) := by decide +kernel
theorem dX7_goesText_39 : decode cX7_goesText 39 = .ok (.iastore, 1) := by decide +kernel
theorem dX7_goesText_40 : decode cX7_goesText 40 = .ok (.aload_n 0, 1) := by decide +kernel
theorem dX7_goesText_41 : decode cX7_goesText 41 = .ok (.getfield 50, 3) := by decide +kernel
theorem dX7_goesText_44 : decode cX7_goesText 44 = .ok (.aload_n 0, 1) := by decide +kernel
theorem dX7_goesText_45 : decode cX7_goesText 45 = .ok (.getfield 47, 3) := by decide +kernel
theorem dX7_goesText_48 : decode cX7_goesText 48 = .ok (.if_icmp .ne 5, 3) := by decide +kernel
theorem dX7_goesText_51 : decode cX7_goesText 51 = .ok (.iconst 1, 1) := by decide +kernel
theorem dX7_goesText_52 : decode cX7_goesText 52 = .ok (.ireturn, 1) := by decide +kernel
theorem dX7_goesText_53 : decode cX7_goesText 53 = .ok (.iload_n 2, 1) := by decide +kernel
theorem dX7_goesText_54 : decode cX7_goesText 54 = .ok (.bipush 10, 2) := by decide +kernel
theorem dX7_goesText_56 : decode cX7_goesText 56 = .ok (.if_icmp .eq 12, 3) := by decide +kernel
theorem dX7_goesText_59 : decode cX7_goesText 59 = .ok (.aload_n 0, 1) := by decide +kernel
theorem dX7_goesText_60 : decode cX7_goesText 60 = .ok (.bipush 59, 2) := by decide +kernel
theorem dX7_goesText_62 : decode cX7_goesText 62 = .ok (.invokevirtual 227, 3) := by decide +kernel
theorem dX7_goesText_65 : decode cX7_goesText 65 = .ok (.ifCond .ne (-50), 3) := by decide +kernel
theorem dX7_goesText_68 : decode cX7_goesText 68 = .ok (.iconst 0, 1) := by decide +kernel
theorem dX7_goesText_69 : decode cX7_goesText 69 = .ok (.ireturn, 1) := by decide +kernel
theorem dX7_land_0 : decode cX7_land 0 = .ok (.aload_n 0, 1) := by decide +kernel
theorem dX7_land_1 : decode cX7_land 1 = .ok (.getfield 41, 3) := by decide +kernel
theorem dX7_land_4 : decode cX7_land 4 = .ok (.bipush 6, 2) := by decide +kernel
theorem dX7_land_6 : decode cX7_land 6 = .ok (.if_icmp .ne 6, 3) := by decide +kernel
theorem dX7_land_9 : decode cX7_land 9 = .ok (.bipush (-4), 2) := by decide +kernel
theorem dX7_land_11 : decode cX7_land 11 = .ok (.ireturn, 1) := by decide +kernel
theorem dX7_land_12 : decode cX7_land 12 = .ok (.aload_n 0, 1) := by decide +kernel
theorem dX7_land_13 : decode cX7_land 13 = .ok (.aload_n 0, 1) := by decide +kernel
theorem dX7_land_14 : decode cX7_land 14 = .ok (.getfield 41, 3) := by decide +kernel
theorem dX7_land_17 : decode cX7_land 17 = .ok (.invokevirtual 265, 3) := by decide +kernel
theorem dX7_land_20 : decode cX7_land 20 = .ok (.istore_n 1, 1) := by decide +kernel
theorem dX7_land_21 : decode cX7_land 21 = .ok (.aload_n 0, 1) := by decide +kernel
theorem dX7_land_22 : decode cX7_land 22 = .ok (.iconst 0, 1) := by decide +kernel
theorem dX7_land_23 : decode cX7_land 23 = .ok (.putfield 47, 3) := by decide +kernel
theorem dX7_land_26 : decode cX7_land 26 = .ok (.iload_n 1, 1) := by decide +kernel
theorem dX7_land_27 : decode cX7_land 27 = .ok (.ifCond .ne 11, 3) := by decide +kernel
theorem dX7_land_30 : decode cX7_land 30 = .ok (.bipush (-10), 2) := by decide +kernel
theorem dX7_land_32 : decode cX7_land 32 = .ok (.aload_n 0, 1) := by decide +kernel
theorem dX7_land_33 : decode cX7_land 33 = .ok (.getfield 50, 3) := by decide +kernel
theorem dX7_land_36 : decode cX7_land 36 = .ok (.isub, 1) := by decide +kernel
theorem dX7_land_37 : decode cX7_land 37 = .ok (.ireturn, 1) := by decide +kernel
theorem dX7_land_38 : decode cX7_land 38 = .ok (.aload_n 0, 1) := by decide +kernel
theorem dX7_land_39 : decode cX7_land 39 = .ok (.aload_n 0, 1) := by decide +kernel
theorem dX7_land_40 : decode cX7_land 40 = .ok (.getfield 41, 3) := by decide +kernel
theorem dX7_land_43 : decode cX7_land 43 = .ok (.putfield 44, 3) := by decide +kernel
theorem dX7_land_46 : decode cX7_land 46 = .ok (.aload_n 0, 1) := by decide +kernel
theorem dX7_land_47 : decode cX7_land 47 = .ok (.dup, 1) := by decide +kernel
theorem dX7_land_48 : decode cX7_land 48 = .ok (.getfield 41, 3) := by decide +kernel
theorem dX7_land_51 : decode cX7_land 51 = .ok (.iconst 1, 1) := by decide +kernel
theorem dX7_land_52 : decode cX7_land 52 = .ok (.iadd, 1) := by decide +kernel
theorem dX7_land_53 : decode cX7_land 53 = .ok (.putfield 41, 3) := by decide +kernel
theorem dX7_land_56 : decode cX7_land 56 = .ok (.aload_n 0, 1) := by decide +kernel
theorem dX7_land_57 : decode cX7_land 57 = .ok (.getfield 44, 3) := by decide +kernel
theorem dX7_land_60 : decode cX7_land 60 = .ok (.ireturn, 1) := by decide +kernel
theorem dX7_begin_0 : decode cX7_begin 0 = .ok (.aload_n 0, 1) := by decide +kernel
theorem dX7_begin_1 : decode cX7_begin 1 = .ok (.getfield 44, 3) := by decide +kernel
theorem dX7_begin_4 : decode cX7_begin 4 = .ok (.ifCond .ge 7, 3) := by decide +kernel
theorem dX7_begin_7 : decode cX7_begin 7 = .ok (.iconst 0, 1) := by decide +kernel
theorem dX7_begin_8 : decode cX7_begin 8 = .ok (.goto 10, 3) := by decide +kernel
theorem dX7_begin_11 : decode cX7_begin 11 = .ok (.bipush 10, 2) := by decide +kernel
theorem dX7_begin_13 : decode cX7_begin 13 = .ok (.aload_n 0, 1) := by decide +kernel
theorem dX7_begin_14 : decode cX7_begin 14 = .ok (.getfield 44, 3) := by decide +kernel
theorem dX7_begin_17 : decode cX7_begin 17 = .ok (.imul, 1) := by decide +kernel
theorem dX7_begin_18 : decode cX7_begin 18 = .ok (.ireturn, 1) := by decide +kernel
theorem dX7_behind_0 : decode cX7_behind 0 = .ok (.aload_n 0, 1) := by decide +kernel
theorem dX7_behind_1 : decode cX7_behind 1 = .ok (.getfield 44, 3) := by decide +kernel
theorem dX7_behind_4 : decode cX7_behind 4 = .ok (.ifCond .ge 7, 3) := by decide +kernel
theorem dX7_behind_7 : decode cX7_behind 7 = .ok (.iconst 0, 1) := by decide +kernel
theorem dX7_behind_8 : decode cX7_behind 8 = .ok (.goto 20, 3) := by decide +kernel
theorem dX7_behind_11 : decode cX7_behind 11 = .ok (.bipush 10, 2) := by decide +kernel
theorem dX7_behind_13 : decode cX7_behind 13 = .ok (.aload_n 0, 1) := by decide +kernel
theorem dX7_behind_14 : decode cX7_behind 14 = .ok (.getfield 44, 3) := by decide +kernel
theorem dX7_behind_17 : decode cX7_behind 17 = .ok (.imul, 1) := by decide +kernel
theorem dX7_behind_18 : decode cX7_behind 18 = .ok (.aload_n 0, 1) := by decide +kernel
theorem dX7_behind_19 : decode cX7_behind 19 = .ok (.getfield 59, 3) := by decide +kernel
theorem dX7_behind_22 : decode cX7_behind 22 = .ok (.aload_n 0, 1) := by decide +kernel
theorem dX7_behind_23 : decode cX7_behind 23 = .ok (.getfield 44, 3) := by decide +kernel
theorem dX7_behind_26 : decode cX7_behind 26 = .ok (.iaload, 1) := by decide +kernel
theorem dX7_behind_27 : decode cX7_behind 27 = .ok (.iadd, 1) := by decide +kernel
theorem dX7_behind_28 : decode cX7_behind 28 = .ok (.ireturn, 1) := by decide +kernel
theorem dX7_armsNow_0 : decode cX7_armsNow 0 = .ok (.iconst 4, 1) := by decide +kernel
theorem dX7_armsNow_1 : decode cX7_armsNow 1 = .ok (.istore_n 1, 1) := by decide +kernel
theorem dX7_armsNow_2 : decode cX7_armsNow 2 = .ok (.aload_n 0, 1) := by decide +kernel
theorem dX7_armsNow_3 : decode cX7_armsNow 3 = .ok (.invokevirtual 268, 3) := by decide +kernel
theorem dX7_armsNow_6 : decode cX7_armsNow 6 = .ok (.istore_n 2, 1) := by decide +kernel
theorem dX7_armsNow_7 : decode cX7_armsNow 7 = .ok (.iload_n 2, 1) := by decide +kernel
theorem dX7_armsNow_8 : decode cX7_armsNow 8 = .ok (.aload_n 0, 1) := by decide +kernel
theorem dX7_armsNow_9 : decode cX7_armsNow 9 = .ok (.invokevirtual 271, 3) := by decide +kernel
theorem dX7_armsNow_12 : decode cX7_armsNow 12 = .ok (.if_icmp .ge 30, 3) := by decide +kernel
theorem dX7_armsNow_15 : decode cX7_armsNow 15 = .ok (.aload_n 0, 1) := by decide +kernel
theorem dX7_armsNow_16 : decode cX7_armsNow 16 = .ok (.getfield 62, 3) := by decide +kernel
theorem dX7_armsNow_19 : decode cX7_armsNow 19 = .ok (.iload_n 2, 1) := by decide +kernel
theorem dX7_armsNow_20 : decode cX7_armsNow 20 = .ok (.iaload, 1) := by decide +kernel
theorem dX7_armsNow_21 : decode cX7_armsNow 21 = .ok (.iconst 2, 1) := by decide +kernel
theorem dX7_armsNow_22 : decode cX7_armsNow 22 = .ok (.if_icmp .ne 12, 3) := by decide +kernel
theorem dX7_armsNow_25 : decode cX7_armsNow 25 = .ok (.aload_n 0, 1) := by decide +kernel
theorem dX7_armsNow_26 : decode cX7_armsNow 26 = .ok (.getfield 65, 3) := by decide +kernel
theorem dX7_armsNow_29 : decode cX7_armsNow 29 = .ok (.iload_n 2, 1) := by decide +kernel
theorem dX7_armsNow_30 : decode cX7_armsNow 30 = .ok (.iaload, 1) := by decide +kernel
theorem dX7_armsNow_31 : decode cX7_armsNow 31 = .ok (.goto 4, 3) := by decide +kernel
theorem dX7_armsNow_34 : decode cX7_armsNow 34 = .ok (.iload_n 1, 1) := by decide +kernel
theorem dX7_armsNow_35 : decode cX7_armsNow 35 = .ok (.istore_n 1, 1) := by decide +kernel
theorem dX7_armsNow_36 : decode cX7_armsNow 36 = .ok (.iinc 2 1, 3) := by decide +kernel
theorem dX7_armsNow_39 : decode cX7_armsNow 39 = .ok (.goto (-32), 3) := by decide +kernel
theorem dX7_armsNow_42 : decode cX7_armsNow 42 = .ok (.iload_n 1, 1) := by decide +kernel
theorem dX7_armsNow_43 : decode cX7_armsNow 43 = .ok (.ireturn, 1) := by decide +kernel
theorem dX7_factOf_0 : decode cX7_factOf 0 = .ok (.iload_n 1, 1) := by decide +kernel
theorem dX7_factOf_1 : decode cX7_factOf 1 = .ok (.tableswitch 72 0 4 #[35, 37, 44, 51, 61], 35) := by decide +kernel
theorem dX7_factOf_36 : decode cX7_factOf 36 = .ok (.iload_n 2, 1) := by decide +kernel
theorem dX7_factOf_37 : decode cX7_factOf 37 = .ok (.ireturn, 1) := by decide +kernel
theorem dX7_factOf_38 : decode cX7_factOf 38 = .ok (.aload_n 0, 1) := by decide +kernel
theorem dX7_factOf_39 : decode cX7_factOf 39 = .ok (.getfield 16, 3) := by decide +kernel
theorem dX7_factOf_42 : decode cX7_factOf 42 = .ok (.iload_n 2, 1) := by decide +kernel
theorem dX7_factOf_43 : decode cX7_factOf 43 = .ok (.iaload, 1) := by decide +kernel
theorem dX7_factOf_44 : decode cX7_factOf 44 = .ok (.ireturn, 1) := by decide +kernel
theorem dX7_factOf_45 : decode cX7_factOf 45 = .ok (.aload_n 0, 1) := by decide +kernel
theorem dX7_factOf_46 : decode cX7_factOf 46 = .ok (.getfield 20, 3) := by decide +kernel
theorem dX7_factOf_49 : decode cX7_factOf 49 = .ok (.iload_n 2, 1) := by decide +kernel
theorem dX7_factOf_50 : decode cX7_factOf 50 = .ok (.iaload, 1) := by decide +kernel
theorem dX7_factOf_51 : decode cX7_factOf 51 = .ok (.ireturn, 1) := by decide +kernel
theorem dX7_factOf_52 : decode cX7_factOf 52 = .ok (.aload_n 0, 1) := by decide +kernel
theorem dX7_factOf_53 : decode cX7_factOf 53 = .ok (.getfield 23, 3) := by decide +kernel
theorem dX7_factOf_56 : decode cX7_factOf 56 = .ok (.iload_n 2, 1) := by decide +kernel
theorem dX7_factOf_57 : decode cX7_factOf 57 = .ok (.iaload, 1) := by decide +kernel
theorem dX7_factOf_58 : decode cX7_factOf 58 = .ok (.bipush 10, 2) := by decide +kernel
theorem dX7_factOf_60 : decode cX7_factOf 60 = .ok (.idiv, 1) := by decide +kernel
theorem dX7_factOf_61 : decode cX7_factOf 61 = .ok (.ireturn, 1) := by decide +kernel
theorem dX7_factOf_62 : decode cX7_factOf 62 = .ok (.aload_n 0, 1) := by decide +kernel
theorem dX7_factOf_63 : decode cX7_factOf 63 = .ok (.aload_n 0, 1) := by decide +kernel
theorem dX7_factOf_64 : decode cX7_factOf 64 = .ok (.getfield 26, 3) := by decide +kernel
theorem dX7_factOf_67 : decode cX7_factOf 67 = .ok (.iload_n 2, 1) := by decide +kernel
theorem dX7_factOf_68 : decode cX7_factOf 68 = .ok (.iaload, 1) := by decide +kernel
theorem dX7_factOf_69 : decode cX7_factOf 69 = .ok (.invokevirtual 212, 3) := by decide +kernel
theorem dX7_factOf_72 : decode cX7_factOf 72 = .ok (.ireturn, 1) := by decide +kernel
theorem dX7_factOf_73 : decode cX7_factOf 73 = .ok (.aload_n 0, 1) := by decide +kernel
theorem dX7_factOf_74 : decode cX7_factOf 74 = .ok (.aload_n 0, 1) := by decide +kernel
theorem dX7_factOf_75 : decode cX7_factOf 75 = .ok (.iload_n 2, 1) := by decide +kernel
theorem dX7_factOf_76 : decode cX7_factOf 76 = .ok (.invokevirtual 274, 3) := by decide +kernel
theorem dX7_factOf_79 : decode cX7_factOf 79 = .ok (.invokevirtual 212, 3) := by decide +kernel
theorem dX7_factOf_82 : decode cX7_factOf 82 = .ok (.ireturn, 1) := by decide +kernel
theorem dX7_holds_0 : decode cX7_holds 0 = .ok (.iconst 0, 1) := by decide +kernel
theorem dX7_holds_1 : decode cX7_holds 1 = .ok (.istore_n 3, 1) := by decide +kernel
theorem dX7_holds_2 : decode cX7_holds 2 = .ok (.aload_n 0, 1) := by decide +kernel
theorem dX7_holds_3 : decode cX7_holds 3 = .ok (.getfield 68, 3) := by decide +kernel
theorem dX7_holds_6 : decode cX7_holds 6 = .ok (.iload_n 1, 1) := by decide +kernel
theorem dX7_holds_7 : decode cX7_holds 7 = .ok (.iaload, 1) := by decide +kernel
theorem dX7_holds_8 : decode cX7_holds 8 = .ok (.istore 4, 2) := by decide +kernel
theorem dX7_holds_10 : decode cX7_holds 10 = .ok (.iload 4, 2) := by decide +kernel
theorem dX7_holds_12 : decode cX7_holds 12 = .ok (.aload_n 0, 1) := by decide +kernel
theorem dX7_holds_13 : decode cX7_holds 13 = .ok (.getfield 71, 3) := by decide +kernel
theorem dX7_holds_16 : decode cX7_holds 16 = .ok (.iload_n 1, 1) := by decide +kernel
theorem dX7_holds_17 : decode cX7_holds 17 = .ok (.iaload, 1) := by decide +kernel
theorem dX7_holds_18 : decode cX7_holds 18 = .ok (.if_icmp .ge 225, 3) := by decide +kernel
theorem dX7_holds_21 : decode cX7_holds 21 = .ok (.aload_n 0, 1) := by decide +kernel
theorem dX7_holds_22 : decode cX7_holds 22 = .ok (.getfield 74, 3) := by decide +kernel
theorem dX7_holds_25 : decode cX7_holds 25 = .ok (.iload 4, 2) := by decide +kernel
theorem dX7_holds_27 : decode cX7_holds 27 = .ok (.iaload, 1) := by decide +kernel
theorem dX7_holds_28 : decode cX7_holds 28 = .ok (.istore 5, 2) := by decide +kernel
theorem dX7_holds_30 : decode cX7_holds 30 = .ok (.iload 5, 2) := by decide +kernel
theorem dX7_holds_32 : decode cX7_holds 32 = .ok (.bipush (-33), 2) := by decide +kernel
theorem dX7_holds_34 : decode cX7_holds 34 = .ok (.if_icmp .ne 30, 3) := by decide +kernel
theorem dX7_holds_37 : decode cX7_holds 37 = .ok (.aload_n 0, 1) := by decide +kernel
theorem dX7_holds_38 : decode cX7_holds 38 = .ok (.getfield 92, 3) := by decide +kernel
theorem dX7_holds_41 : decode cX7_holds 41 = .ok (.iload_n 3, 1) := by decide +kernel
theorem dX7_holds_42 : decode cX7_holds 42 = .ok (.iconst 1, 1) := by decide +kernel
theorem dX7_holds_43 : decode cX7_holds 43 = .ok (.isub, 1) := by decide +kernel
theorem dX7_holds_44 : decode cX7_holds 44 = .ok (.aload_n 0, 1) := by decide +kernel
theorem dX7_holds_45 : decode cX7_holds 45 = .ok (.getfield 92, 3) := by decide +kernel
theorem dX7_holds_48 : decode cX7_holds 48 = .ok (.iload_n 3, 1) := by decide +kernel
theorem dX7_holds_49 : decode cX7_holds 49 = .ok (.iconst 1, 1) := by decide +kernel
theorem dX7_holds_50 : decode cX7_holds 50 = .ok (.isub, 1) := by decide +kernel
theorem dX7_holds_51 : decode cX7_holds 51 = .ok (.baload, 1) := by decide +kernel
theorem dX7_holds_52 : decode cX7_holds 52 = .ok (.ifCond .ne 7, 3) := by decide +kernel
theorem dX7_holds_55 : decode cX7_holds 55 = .ok (.iconst 1, 1) := by decide +kernel
theorem dX7_holds_56 : decode cX7_holds 56 = .ok (.goto 4, 3) := by decide +kernel
theorem dX7_holds_59 : decode cX7_holds 59 = .ok (.iconst 0, 1) := by decide +kernel
theorem dX7_holds_60 : decode cX7_holds 60 = .ok (.bastore, 1) := by decide +kernel
theorem dX7_holds_61 : decode cX7_holds 61 = .ok (.goto 176, 3) := by decide +kernel
theorem dX7_holds_64 : decode cX7_holds 64 = .ok (.iload 5, 2) := by decide +kernel
theorem dX7_holds_66 : decode cX7_holds 66 = .ok (.ifCond .ge 77, 3) := by decide +kernel
theorem dX7_holds_69 : decode cX7_holds 69 = .ok (.iinc 3 (-1), 3) := by decide +kernel
theorem dX7_holds_72 : decode cX7_holds 72 = .ok (.aload_n 0, 1) := by decide +kernel
theorem dX7_holds_73 : decode cX7_holds 73 = .ok (.getfield 92, 3) := by decide +kernel
theorem dX7_holds_76 : decode cX7_holds 76 = .ok (.iload_n 3, 1) := by decide +kernel
theorem dX7_holds_77 : decode cX7_holds 77 = .ok (.iconst 1, 1) := by decide +kernel
theorem dX7_holds_78 : decode cX7_holds 78 = .ok (.isub, 1) := by decide +kernel
theorem dX7_holds_79 : decode cX7_holds 79 = .ok (.iload 5, 2) := by decide +kernel
theorem dX7_holds_81 : decode cX7_holds 81 = .ok (.bipush (-38), 2) := by decide +kernel
theorem dX7_holds_83 : decode cX7_holds 83 = .ok (.if_icmp .ne 31, 3) := by decide +kernel
theorem dX7_holds_86 : decode cX7_holds 86 = .ok (.aload_n 0, 1) := by decide +kernel
theorem dX7_holds_87 : decode cX7_holds 87 = .ok (.getfield 92, 3) := by decide +kernel
theorem dX7_holds_90 : decode cX7_holds 90 = .ok (.iload_n 3, 1) := by decide +kernel
theorem dX7_holds_91 : decode cX7_holds 91 = .ok (.iconst 1, 1) := by decide +kernel
theorem dX7_holds_92 : decode cX7_holds 92 = .ok (.isub, 1) := by decide +kernel
theorem dX7_holds_93 : decode cX7_holds 93 = .ok (.baload, 1) := by decide +kernel
theorem dX7_holds_94 : decode cX7_holds 94 = .ok (.ifCond .eq 16, 3) := by decide +kernel
theorem dX7_holds_97 : decode cX7_holds 97 = .ok (.aload_n 0, 1) := by decide +kernel
theorem dX7_holds_98 : decode cX7_holds 98 = .ok (.getfield 92, 3) := by decide +kernel
theorem dX7_holds_101 : decode cX7_holds 101 = .ok (.iload_n 3, 1) := by decide +kernel
theorem dX7_holds_102 : decode cX7_holds 102 = .ok (.baload, 1) := by decide +kernel
theorem dX7_holds_103 : decode cX7_holds 103 = .ok (.ifCond .eq 7, 3) := by decide +kernel
theorem dX7_holds_106 : decode cX7_holds 106 = .ok (.iconst 1, 1) := by decide +kernel
theorem dX7_holds_107 : decode cX7_holds 107 = .ok (.goto 32, 3) := by decide +kernel
theorem dX7_holds_110 : decode cX7_holds 110 = .ok (.iconst 0, 1) := by decide +kernel
theorem dX7_holds_111 : decode cX7_holds 111 = .ok (.goto 28, 3) := by decide +kernel
theorem dX7_holds_114 : decode cX7_holds 114 = .ok (.aload_n 0, 1) := by decide +kernel
theorem dX7_holds_115 : decode cX7_holds 115 = .ok (.getfield 92, 3) := by decide +kernel
theorem dX7_holds_118 : decode cX7_holds 118 = .ok (.iload_n 3, 1) := by decide +kernel
theorem dX7_holds_119 : decode cX7_holds 119 = .ok (.iconst 1, 1) := by decide +kernel
theorem dX7_holds_120 : decode cX7_holds 120 = .ok (.isub, 1) := by decide +kernel
theorem dX7_holds_121 : decode cX7_holds 121 = .ok (.baload, 1) := by decide +kernel
theorem dX7_holds_122 : decode cX7_holds 122 = .ok (.ifCond .ne 12, 3) := by decide +kernel
theorem dX7_holds_125 : decode cX7_holds 125 = .ok (.aload_n 0, 1) := by decide +kernel
theorem dX7_holds_126 : decode cX7_holds 126 = .ok (.getfield 92, 3) := by decide +kernel
theorem dX7_holds_129 : decode cX7_holds 129 = .ok (.iload_n 3, 1) := by decide +kernel
theorem dX7_holds_130 : decode cX7_holds 130 = .ok (.baload, 1) := by decide +kernel
theorem dX7_holds_131 : decode cX7_holds 131 = .ok (.ifCond .eq 7, 3) := by decide +kernel
theorem dX7_holds_134 : decode cX7_holds 134 = .ok (.iconst 1, 1) := by decide +kernel
theorem dX7_holds_135 : decode cX7_holds 135 = .ok (.goto 4, 3) := by decide +kernel
theorem dX7_holds_138 : decode cX7_holds 138 = .ok (.iconst 0, 1) := by decide +kernel
theorem dX7_holds_139 : decode cX7_holds 139 = .ok (.bastore, 1) := by decide +kernel
theorem dX7_holds_140 : decode cX7_holds 140 = .ok (.goto 97, 3) := by decide +kernel
theorem dX7_holds_143 : decode cX7_holds 143 = .ok (.aload_n 0, 1) := by decide +kernel
theorem dX7_holds_144 : decode cX7_holds 144 = .ok (.iload 5, 2) := by decide +kernel
theorem dX7_holds_146 : decode cX7_holds 146 = .ok (.sipush 1000, 3) := by decide +kernel
theorem dX7_holds_149 : decode cX7_holds 149 = .ok (.idiv, 1) := by decide +kernel
theorem dX7_holds_150 : decode cX7_holds 150 = .ok (.iload_n 2, 1) := by decide +kernel
theorem dX7_holds_151 : decode cX7_holds 151 = .ok (.invokevirtual 277, 3) := by decide +kernel
theorem dX7_holds_154 : decode cX7_holds 154 = .ok (.istore 6, 2) := by decide +kernel
theorem dX7_holds_156 : decode cX7_holds 156 = .ok (.iload 5, 2) := by decide +kernel
theorem dX7_holds_158 : decode cX7_holds 158 = .ok (.bipush 100, 2) := by decide +kernel
theorem dX7_holds_160 : decode cX7_holds 160 = .ok (.idiv, 1) := by decide +kernel
theorem dX7_holds_161 : decode cX7_holds 161 = .ok (.bipush 10, 2) := by decide +kernel
theorem dX7_holds_163 : decode cX7_holds 163 = .ok (.irem, 1) := by decide +kernel
theorem dX7_holds_164 : decode cX7_holds 164 = .ok (.istore 7, 2) := by decide +kernel
theorem dX7_holds_166 : decode cX7_holds 166 = .ok (.aload_n 0, 1) := by decide +kernel
theorem dX7_holds_167 : decode cX7_holds 167 = .ok (.getfield 92, 3) := by decide +kernel
theorem dX7_holds_170 : decode cX7_holds 170 = .ok (.iload_n 3, 1) := by decide +kernel
theorem dX7_holds_171 : decode cX7_holds 171 = .ok (.iload 7, 2) := by decide +kernel
theorem dX7_holds_173 : decode cX7_holds 173 = .ok (.ifCond .ne 21, 3) := by decide +kernel
theorem dX7_holds_176 : decode cX7_holds 176 = .ok (.iload 6, 2) := by decide +kernel
theorem dX7_holds_178 : decode cX7_holds 178 = .ok (.iload 5, 2) := by decide +kernel
theorem dX7_holds_180 : decode cX7_holds 180 = .ok (.bipush 100, 2) := by decide +kernel
theorem dX7_holds_182 : decode cX7_holds 182 = .ok (.irem, 1) := by decide +kernel
theorem dX7_holds_183 : decode cX7_holds 183 = .ok (.if_icmp .ge 7, 3) := by decide +kernel
theorem dX7_holds_186 : decode cX7_holds 186 = .ok (.iconst 1, 1) := by decide +kernel
theorem dX7_holds_187 : decode cX7_holds 187 = .ok (.goto 46, 3) := by decide +kernel
theorem dX7_holds_190 : decode cX7_holds 190 = .ok (.iconst 0, 1) := by decide +kernel
theorem dX7_holds_191 : decode cX7_holds 191 = .ok (.goto 42, 3) := by decide +kernel
theorem dX7_holds_194 : decode cX7_holds 194 = .ok (.iload 7, 2) := by decide +kernel
theorem dX7_holds_196 : decode cX7_holds 196 = .ok (.iconst 1, 1) := by decide +kernel
theorem dX7_holds_197 : decode cX7_holds 197 = .ok (.if_icmp .ne 21, 3) := by decide +kernel
theorem dX7_holds_200 : decode cX7_holds 200 = .ok (.iload 6, 2) := by decide +kernel
theorem dX7_holds_202 : decode cX7_holds 202 = .ok (.iload 5, 2) := by decide +kernel
theorem dX7_holds_204 : decode cX7_holds 204 = .ok (.bipush 100, 2) := by decide +kernel
theorem dX7_holds_206 : decode cX7_holds 206 = .ok (.irem, 1) := by decide +kernel
theorem dX7_holds_207 : decode cX7_holds 207 = .ok (.if_icmp .ne 7, 3) := by decide +kernel
theorem dX7_holds_210 : decode cX7_holds 210 = .ok (.iconst 1, 1) := by decide +kernel
theorem dX7_holds_211 : decode cX7_holds 211 = .ok (.goto 22, 3) := by decide +kernel
theorem dX7_holds_214 : decode cX7_holds 214 = .ok (.iconst 0, 1) := by decide +kernel
theorem dX7_holds_215 : decode cX7_holds 215 = .ok (.goto 18, 3) := by decide +kernel
theorem dX7_holds_218 : decode cX7_holds 218 = .ok (.iload 6, 2) := by decide +kernel
theorem dX7_holds_220 : decode cX7_holds 220 = .ok (.iload 5, 2) := by decide +kernel
theorem dX7_holds_222 : decode cX7_holds 222 = .ok (.bipush 100, 2) := by decide +kernel
theorem dX7_holds_224 : decode cX7_holds 224 = .ok (.irem, 1) := by decide +kernel
theorem dX7_holds_225 : decode cX7_holds 225 = .ok (.if_icmp .le 7, 3) := by decide +kernel
theorem dX7_holds_228 : decode cX7_holds 228 = .ok (.iconst 1, 1) := by decide +kernel
theorem dX7_holds_229 : decode cX7_holds 229 = .ok (.goto 4, 3) := by decide +kernel
theorem dX7_holds_232 : decode cX7_holds 232 = .ok (.iconst 0, 1) := by decide +kernel
theorem dX7_holds_233 : decode cX7_holds 233 = .ok (.bastore, 1) := by decide +kernel
theorem dX7_holds_234 : decode cX7_holds 234 = .ok (.iinc 3 1, 3) := by decide +kernel
theorem dX7_holds_237 : decode cX7_holds 237 = .ok (.iinc 4 1, 3) := by decide +kernel
theorem dX7_holds_240 : decode cX7_holds 240 = .ok (.goto (-230), 3) := by decide +kernel
theorem dX7_holds_243 : decode cX7_holds 243 = .ok (.aload_n 0, 1) := by decide +kernel
theorem dX7_holds_244 : decode cX7_holds 244 = .ok (.getfield 92, 3) := by decide +kernel
theorem dX7_holds_247 : decode cX7_holds 247 = .ok (.iconst 0, 1) := by decide +kernel
theorem dX7_holds_248 : decode cX7_holds 248 = .ok (.baload, 1) := by decide +kernel
theorem dX7_holds_249 : decode cX7_holds 249 = .ok (.ireturn, 1) := by decide +kernel
theorem dX7_sumOf_0 : decode cX7_sumOf 0 = .ok (.iconst 0, 1) := by decide +kernel
theorem dX7_sumOf_1 : decode cX7_sumOf 1 = .ok (.istore_n 3, 1) := by decide +kernel
theorem dX7_sumOf_2 : decode cX7_sumOf 2 = .ok (.aload_n 0, 1) := by decide +kernel
theorem dX7_sumOf_3 : decode cX7_sumOf 3 = .ok (.invokevirtual 268, 3) := by decide +kernel
theorem dX7_sumOf_6 : decode cX7_sumOf 6 = .ok (.istore 4, 2) := by decide +kernel
theorem dX7_sumOf_8 : decode cX7_sumOf 8 = .ok (.iload 4, 2) := by decide +kernel
theorem dX7_sumOf_10 : decode cX7_sumOf 10 = .ok (.aload_n 0, 1) := by decide +kernel
theorem dX7_sumOf_11 : decode cX7_sumOf 11 = .ok (.invokevirtual 271, 3) := by decide +kernel
theorem dX7_sumOf_14 : decode cX7_sumOf 14 = .ok (.if_icmp .ge 44, 3) := by decide +kernel
theorem dX7_sumOf_17 : decode cX7_sumOf 17 = .ok (.iload_n 3, 1) := by decide +kernel
theorem dX7_sumOf_18 : decode cX7_sumOf 18 = .ok (.aload_n 0, 1) := by decide +kernel
theorem dX7_sumOf_19 : decode cX7_sumOf 19 = .ok (.getfield 62, 3) := by decide +kernel
theorem dX7_sumOf_22 : decode cX7_sumOf 22 = .ok (.iload 4, 2) := by decide +kernel
theorem dX7_sumOf_24 : decode cX7_sumOf 24 = .ok (.iaload, 1) := by decide +kernel
theorem dX7_sumOf_25 : decode cX7_sumOf 25 = .ok (.iload_n 1, 1) := by decide +kernel
theorem dX7_sumOf_26 : decode cX7_sumOf 26 = .ok (.if_icmp .ne 23, 3) := by decide +kernel
theorem dX7_sumOf_29 : decode cX7_sumOf 29 = .ok (.aload_n 0, 1) := by decide +kernel
theorem dX7_sumOf_30 : decode cX7_sumOf 30 = .ok (.iload 4, 2) := by decide +kernel
theorem dX7_sumOf_32 : decode cX7_sumOf 32 = .ok (.iload_n 2, 1) := by decide +kernel
theorem dX7_sumOf_33 : decode cX7_sumOf 33 = .ok (.invokevirtual 281, 3) := by decide +kernel
theorem dX7_sumOf_36 : decode cX7_sumOf 36 = .ok (.ifCond .eq 13, 3) := by decide +kernel
theorem dX7_sumOf_39 : decode cX7_sumOf 39 = .ok (.aload_n 0, 1) := by decide +kernel
theorem dX7_sumOf_40 : decode cX7_sumOf 40 = .ok (.getfield 65, 3) := by decide +kernel
theorem dX7_sumOf_43 : decode cX7_sumOf 43 = .ok (.iload 4, 2) := by decide +kernel
theorem dX7_sumOf_45 : decode cX7_sumOf 45 = .ok (.iaload, 1) := by decide +kernel
theorem dX7_sumOf_46 : decode cX7_sumOf 46 = .ok (.goto 4, 3) := by decide +kernel
theorem dX7_sumOf_49 : decode cX7_sumOf 49 = .ok (.iconst 0, 1) := by decide +kernel
theorem dX7_sumOf_50 : decode cX7_sumOf 50 = .ok (.iadd, 1) := by decide +kernel
theorem dX7_sumOf_51 : decode cX7_sumOf 51 = .ok (.istore_n 3, 1) := by decide +kernel
theorem dX7_sumOf_52 : decode cX7_sumOf 52 = .ok (.iinc 4 1, 3) := by decide +kernel
theorem dX7_sumOf_55 : decode cX7_sumOf 55 = .ok (.goto (-47), 3) := by decide +kernel
theorem dX7_sumOf_58 : decode cX7_sumOf 58 = .ok (.iload_n 3, 1) := by decide +kernel
theorem dX7_sumOf_59 : decode cX7_sumOf 59 = .ok (.ireturn, 1) := by decide +kernel
theorem dX7_layLand_0 : decode cX7_layLand 0 = .ok (.iconst 0, 1) := by decide +kernel
theorem dX7_layLand_1 : decode cX7_layLand 1 = .ok (.istore_n 1, 1) := by decide +kernel
theorem dX7_layLand_2 : decode cX7_layLand 2 = .ok (.iload_n 1, 1) := by decide +kernel
theorem dX7_layLand_3 : decode cX7_layLand 3 = .ok (.aload_n 0, 1) := by decide +kernel
theorem dX7_layLand_4 : decode cX7_layLand 4 = .ok (.getfield 7, 3) := by decide +kernel
theorem dX7_layLand_7 : decode cX7_layLand 7 = .ok (.if_icmp .ge 40, 3) := by decide +kernel
theorem dX7_layLand_10 : decode cX7_layLand 10 = .ok (.aload_n 0, 1) := by decide +kernel
theorem dX7_layLand_11 : decode cX7_layLand 11 = .ok (.getfield 102, 3) := by decide +kernel
theorem dX7_layLand_14 : decode cX7_layLand 14 = .ok (.iload_n 1, 1) := by decide +kernel
theorem dX7_layLand_15 : decode cX7_layLand 15 = .ok (.aload_n 0, 1) := by decide +kernel
theorem dX7_layLand_16 : decode cX7_layLand 16 = .ok (.getfield 23, 3) := by decide +kernel
theorem dX7_layLand_19 : decode cX7_layLand 19 = .ok (.iload_n 1, 1) := by decide +kernel
theorem dX7_layLand_20 : decode cX7_layLand 20 = .ok (.iaload, 1) := by decide +kernel
theorem dX7_layLand_21 : decode cX7_layLand 21 = .ok (.aload_n 0, 1) := by decide +kernel
theorem dX7_layLand_22 : decode cX7_layLand 22 = .ok (.iconst 0, 1) := by decide +kernel
theorem dX7_layLand_23 : decode cX7_layLand 23 = .ok (.iload_n 1, 1) := by decide +kernel
theorem dX7_layLand_24 : decode cX7_layLand 24 = .ok (.invokevirtual 284, 3) := by decide +kernel
theorem dX7_layLand_27 : decode cX7_layLand 27 = .ok (.iadd, 1) := by decide +kernel
theorem dX7_layLand_28 : decode cX7_layLand 28 = .ok (.iastore, 1) := by decide +kernel
theorem dX7_layLand_29 : decode cX7_layLand 29 = .ok (.aload_n 0, 1) := by decide +kernel
theorem dX7_layLand_30 : decode cX7_layLand 30 = .ok (.getfield 105, 3) := by decide +kernel
theorem dX7_layLand_33 : decode cX7_layLand 33 = .ok (.iload_n 1, 1) := by decide +kernel
theorem dX7_layLand_34 : decode cX7_layLand 34 = .ok (.aload_n 0, 1) := by decide +kernel
theorem dX7_layLand_35 : decode cX7_layLand 35 = .ok (.iconst 1, 1) := by decide +kernel
theorem dX7_layLand_36 : decode cX7_layLand 36 = .ok (.iload_n 1, 1) := by decide +kernel
theorem dX7_layLand_37 : decode cX7_layLand 37 = .ok (.invokevirtual 284, 3) := by decide +kernel
theorem dX7_layLand_40 : decode cX7_layLand 40 = .ok (.iastore, 1) := by decide +kernel
theorem dX7_layLand_41 : decode cX7_layLand 41 = .ok (.iinc 1 1, 3) := by decide +kernel
theorem dX7_layLand_44 : decode cX7_layLand 44 = .ok (.goto (-42), 3) := by decide +kernel
theorem dX7_layLand_47 : decode cX7_layLand 47 = .ok (.iconst 0, 1) := by decide +kernel
theorem dX7_layLand_48 : decode cX7_layLand 48 = .ok (.istore_n 1, 1) := by decide +kernel
theorem dX7_layLand_49 : decode cX7_layLand 49 = .ok (.iload_n 1, 1) := by decide +kernel
theorem dX7_layLand_50 : decode cX7_layLand 50 = .ok (.aload_n 0, 1) := by decide +kernel
theorem dX7_layLand_51 : decode cX7_layLand 51 = .ok (.getfield 7, 3) := by decide +kernel
theorem dX7_layLand_54 : decode cX7_layLand 54 = .ok (.if_icmp .ge 112, 3) := by decide +kernel
theorem dX7_layLand_57 : decode cX7_layLand 57 = .ok (.iconst 0, 1) := by decide +kernel
theorem dX7_layLand_58 : decode cX7_layLand 58 = .ok (.istore_n 2, 1) := by decide +kernel
theorem dX7_layLand_59 : decode cX7_layLand 59 = .ok (.iload_n 2, 1) := by decide +kernel
theorem dX7_layLand_60 : decode cX7_layLand 60 = .ok (.aload_n 0, 1) := by decide +kernel
theorem dX7_layLand_61 : decode cX7_layLand 61 = .ok (.getfield 7, 3) := by decide +kernel
theorem dX7_layLand_64 : decode cX7_layLand 64 = .ok (.if_icmp .ge 96, 3) := by decide +kernel
theorem dX7_layLand_67 : decode cX7_layLand 67 = .ok (.aload_n 0, 1) := by decide +kernel
theorem dX7_layLand_68 : decode cX7_layLand 68 = .ok (.getfield 29, 3) := by decide +kernel
theorem dX7_layLand_71 : decode cX7_layLand 71 = .ok (.bipush 7, 2) := by decide +kernel
theorem dX7_layLand_73 : decode cX7_layLand 73 = .ok (.iload_n 1, 1) := by decide +kernel
theorem dX7_layLand_74 : decode cX7_layLand 74 = .ok (.imul, 1) := by decide +kernel
theorem dX7_layLand_75 : decode cX7_layLand 75 = .ok (.iload_n 2, 1) := by decide +kernel
theorem dX7_layLand_76 : decode cX7_layLand 76 = .ok (.iadd, 1) := by decide +kernel
theorem dX7_layLand_77 : decode cX7_layLand 77 = .ok (.iaload, 1) := by decide +kernel
theorem dX7_layLand_78 : decode cX7_layLand 78 = .ok (.istore_n 3, 1) := by decide +kernel
theorem dX7_layLand_79 : decode cX7_layLand 79 = .ok (.aload_n 0, 1) := by decide +kernel
theorem dX7_layLand_80 : decode cX7_layLand 80 = .ok (.getfield 96, 3) := by decide +kernel
theorem dX7_layLand_83 : decode cX7_layLand 83 = .ok (.bipush 7, 2) := by decide +kernel
theorem dX7_layLand_85 : decode cX7_layLand 85 = .ok (.iload_n 1, 1) := by decide +kernel
theorem dX7_layLand_86 : decode cX7_layLand 86 = .ok (.imul, 1) := by decide +kernel
theorem dX7_layLand_87 : decode cX7_layLand 87 = .ok (.iload_n 2, 1) := by decide +kernel
theorem dX7_layLand_88 : decode cX7_layLand 88 = .ok (.iadd, 1) := by decide +kernel
theorem dX7_layLand_89 : decode cX7_layLand 89 = .ok (.iload_n 3, 1) := by decide +kernel
theorem dX7_layLand_90 : decode cX7_layLand 90 = .ok (.ifCond .ne 7, 3) := by decide +kernel
theorem dX7_layLand_93 : decode cX7_layLand 93 = .ok (.iconst 0, 1) := by decide +kernel
theorem dX7_layLand_94 : decode cX7_layLand 94 = .ok (.goto 20, 3) := by decide +kernel
theorem dX7_layLand_97 : decode cX7_layLand 97 = .ok (.iload_n 3, 1) := by decide +kernel
theorem dX7_layLand_98 : decode cX7_layLand 98 = .ok (.aload_n 0, 1) := by decide +kernel
theorem dX7_layLand_99 : decode cX7_layLand 99 = .ok (.getfield 105, 3) := by decide +kernel
theorem dX7_layLand_102 : decode cX7_layLand 102 = .ok (.iload_n 1, 1) := by decide +kernel
theorem dX7_layLand_103 : decode cX7_layLand 103 = .ok (.iload_n 2, 1) := by decide +kernel
theorem dX7_layLand_104 : decode cX7_layLand 104 = .ok (.if_icmp .ge 7, 3) := by decide +kernel
theorem dX7_layLand_107 : decode cX7_layLand 107 = .ok (.iload_n 1, 1) := by decide +kernel
theorem dX7_layLand_108 : decode cX7_layLand 108 = .ok (.goto 4, 3) := by decide +kernel
theorem dX7_layLand_111 : decode cX7_layLand 111 = .ok (.iload_n 2, 1) := by decide +kernel
theorem dX7_layLand_112 : decode cX7_layLand 112 = .ok (.iaload, 1) := by decide +kernel
theorem dX7_layLand_113 : decode cX7_layLand 113 = .ok (.iadd, 1) := by decide +kernel
theorem dX7_layLand_114 : decode cX7_layLand 114 = .ok (.iastore, 1) := by decide +kernel
theorem dX7_layLand_115 : decode cX7_layLand 115 = .ok (.aload_n 0, 1) := by decide +kernel
theorem dX7_layLand_116 : decode cX7_layLand 116 = .ok (.getfield 99, 3) := by decide +kernel
theorem dX7_layLand_119 : decode cX7_layLand 119 = .ok (.bipush 7, 2) := by decide +kernel
theorem dX7_layLand_121 : decode cX7_layLand 121 = .ok (.iload_n 1, 1) := by decide +kernel
theorem dX7_layLand_122 : decode cX7_layLand 122 = .ok (.imul, 1) := by decide +kernel
theorem dX7_layLand_123 : decode cX7_layLand 123 = .ok (.iload_n 2, 1) := by decide +kernel
theorem dX7_layLand_124 : decode cX7_layLand 124 = .ok (.iadd, 1) := by decide +kernel
theorem dX7_layLand_125 : decode cX7_layLand 125 = .ok (.iload_n 1, 1) := by decide +kernel
theorem dX7_layLand_126 : decode cX7_layLand 126 = .ok (.iload_n 2, 1) := by decide +kernel
theorem dX7_layLand_127 : decode cX7_layLand 127 = .ok (.if_icmp .ne 7, 3) := by decide +kernel
theorem dX7_layLand_130 : decode cX7_layLand 130 = .ok (.iconst 0, 1) := by decide +kernel
theorem dX7_layLand_131 : decode cX7_layLand 131 = .ok (.goto 22, 3) := by decide +kernel
theorem dX7_layLand_134 : decode cX7_layLand 134 = .ok (.iload_n 3, 1) := by decide +kernel
theorem dX7_layLand_135 : decode cX7_layLand 135 = .ok (.ifCond .ne 7, 3) := by decide +kernel
theorem dX7_layLand_138 : decode cX7_layLand 138 = .ok (.iconst (-1), 1) := by decide +kernel
theorem dX7_layLand_139 : decode cX7_layLand 139 = .ok (.goto 14, 3) := by decide +kernel
theorem dX7_layLand_142 : decode cX7_layLand 142 = .ok (.aload_n 0, 1) := by decide +kernel
theorem dX7_layLand_143 : decode cX7_layLand 143 = .ok (.getfield 96, 3) := by decide +kernel
theorem dX7_layLand_146 : decode cX7_layLand 146 = .ok (.bipush 7, 2) := by decide +kernel
theorem dX7_layLand_148 : decode cX7_layLand 148 = .ok (.iload_n 1, 1) := by decide +kernel
theorem dX7_layLand_149 : decode cX7_layLand 149 = .ok (.imul, 1) := by decide +kernel
theorem dX7_layLand_150 : decode cX7_layLand 150 = .ok (.iload_n 2, 1) := by decide +kernel
theorem dX7_layLand_151 : decode cX7_layLand 151 = .ok (.iadd, 1) := by decide +kernel
theorem dX7_layLand_152 : decode cX7_layLand 152 = .ok (.iaload, 1) := by decide +kernel
theorem dX7_layLand_153 : decode cX7_layLand 153 = .ok (.iastore, 1) := by decide +kernel
theorem dX7_layLand_154 : decode cX7_layLand 154 = .ok (.iinc 2 1, 3) := by decide +kernel
theorem dX7_layLand_157 : decode cX7_layLand 157 = .ok (.goto (-98), 3) := by decide +kernel
theorem dX7_layLand_160 : decode cX7_layLand 160 = .ok (.iinc 1 1, 3) := by decide +kernel
theorem dX7_layLand_163 : decode cX7_layLand 163 = .ok (.goto (-114), 3) := by decide +kernel
theorem dX7_layLand_166 : decode cX7_layLand 166 = .ok (.iconst 0, 1) := by decide +kernel
theorem dX7_layLand_167 : decode cX7_layLand 167 = .ok (.istore_n 1, 1) := by decide +kernel
theorem dX7_layLand_168 : decode cX7_layLand 168 = .ok (.iload_n 1, 1) := by decide +kernel
theorem dX7_layLand_169 : decode cX7_layLand 169 = .ok (.aload_n 0, 1) := by decide +kernel
theorem dX7_layLand_170 : decode cX7_layLand 170 = .ok (.getfield 7, 3) := by decide +kernel
theorem dX7_layLand_173 : decode cX7_layLand 173 = .ok (.if_icmp .ge 48, 3) := by decide +kernel
theorem dX7_layLand_176 : decode cX7_layLand 176 = .ok (.iconst 0, 1) := by decide +kernel
theorem dX7_layLand_177 : decode cX7_layLand 177 = .ok (.istore_n 2, 1) := by decide +kernel
theorem dX7_layLand_178 : decode cX7_layLand 178 = .ok (.iload_n 2, 1) := by decide +kernel
theorem dX7_layLand_179 : decode cX7_layLand 179 = .ok (.aload_n 0, 1) := by decide +kernel
theorem dX7_layLand_180 : decode cX7_layLand 180 = .ok (.getfield 7, 3) := by decide +kernel
theorem dX7_layLand_183 : decode cX7_layLand 183 = .ok (.if_icmp .ge 32, 3) := by decide +kernel
theorem dX7_layLand_186 : decode cX7_layLand 186 = .ok (.iconst 0, 1) := by decide +kernel
theorem dX7_layLand_187 : decode cX7_layLand 187 = .ok (.istore_n 3, 1) := by decide +kernel
theorem dX7_layLand_188 : decode cX7_layLand 188 = .ok (.iload_n 3, 1) := by decide +kernel
theorem dX7_layLand_189 : decode cX7_layLand 189 = .ok (.aload_n 0, 1) := by decide +kernel
theorem dX7_layLand_190 : decode cX7_layLand 190 = .ok (.getfield 7, 3) := by decide +kernel
theorem dX7_layLand_193 : decode cX7_layLand 193 = .ok (.if_icmp .ge 16, 3) := by decide +kernel
theorem dX7_layLand_196 : decode cX7_layLand 196 = .ok (.aload_n 0, 1) := by decide +kernel
theorem dX7_layLand_197 : decode cX7_layLand 197 = .ok (.iload_n 2, 1) := by decide +kernel
theorem dX7_layLand_198 : decode cX7_layLand 198 = .ok (.iload_n 1, 1) := by decide +kernel
theorem dX7_layLand_199 : decode cX7_layLand 199 = .ok (.iload_n 3, 1) := by decide +kernel
theorem dX7_layLand_200 : decode cX7_layLand 200 = .ok (.invokevirtual 287, 3) := by decide +kernel
theorem dX7_layLand_203 : decode cX7_layLand 203 = .ok (.iinc 3 1, 3) := by decide +kernel
theorem dX7_layLand_206 : decode cX7_layLand 206 = .ok (.goto (-18), 3) := by decide +kernel
theorem dX7_layLand_209 : decode cX7_layLand 209 = .ok (.iinc 2 1, 3) := by decide +kernel
theorem dX7_layLand_212 : decode cX7_layLand 212 = .ok (.goto (-34), 3) := by decide +kernel
theorem dX7_layLand_215 : decode cX7_layLand 215 = .ok (.iinc 1 1, 3) := by decide +kernel
theorem dX7_layLand_218 : decode cX7_layLand 218 = .ok (.goto (-50), 3) := by decide +kernel
theorem dX7_layLand_221 : decode cX7_layLand 221 = .ok (.return_, 1) := by decide +kernel
theorem dX7_shorten_0 : decode cX7_shorten 0 = .ok (.aload_n 0, 1) := by decide +kernel
theorem dX7_shorten_1 : decode cX7_shorten 1 = .ok (.getfield 99, 3) := by decide +kernel
theorem dX7_shorten_4 : decode cX7_shorten 4 = .ok (.bipush 7, 2) := by decide +kernel
theorem dX7_shorten_6 : decode cX7_shorten 6 = .ok (.iload_n 1, 1) := by decide +kernel
theorem dX7_shorten_7 : decode cX7_shorten 7 = .ok (.imul, 1) := by decide +kernel
theorem dX7_shorten_8 : decode cX7_shorten 8 = .ok (.iload_n 2, 1) := by decide +kernel
theorem dX7_shorten_9 : decode cX7_shorten 9 = .ok (.iadd, 1) := by decide +kernel
theorem dX7_shorten_10 : decode cX7_shorten 10 = .ok (.iaload, 1) := by decide +kernel
theorem dX7_shorten_11 : decode cX7_shorten 11 = .ok (.istore 4, 2) := by decide +kernel
theorem dX7_shorten_13 : decode cX7_shorten 13 = .ok (.aload_n 0, 1) := by decide +kernel
theorem dX7_shorten_14 : decode cX7_shorten 14 = .ok (.getfield 99, 3) := by decide +kernel
theorem dX7_shorten_17 : decode cX7_shorten 17 = .ok (.bipush 7, 2) := by decide +kernel
theorem dX7_shorten_19 : decode cX7_shorten 19 = .ok (.iload_n 2, 1) := by decide +kernel
theorem dX7_shorten_20 : decode cX7_shorten 20 = .ok (.imul, 1) := by decide +kernel
theorem dX7_shorten_21 : decode cX7_shorten 21 = .ok (.iload_n 3, 1) := by decide +kernel
theorem dX7_shorten_22 : decode cX7_shorten 22 = .ok (.iadd, 1) := by decide +kernel
theorem dX7_shorten_23 : decode cX7_shorten 23 = .ok (.iaload, 1) := by decide +kernel
theorem dX7_shorten_24 : decode cX7_shorten 24 = .ok (.istore 5, 2) := by decide +kernel
theorem dX7_shorten_26 : decode cX7_shorten 26 = .ok (.iload 4, 2) := by decide +kernel
theorem dX7_shorten_28 : decode cX7_shorten 28 = .ok (.ifCond .lt 8, 3) := by decide +kernel
theorem dX7_shorten_31 : decode cX7_shorten 31 = .ok (.iload 5, 2) := by decide +kernel
theorem dX7_shorten_33 : decode cX7_shorten 33 = .ok (.ifCond .ge 4, 3) := by decide +kernel
theorem dX7_shorten_36 : decode cX7_shorten 36 = .ok (.return_, 1) := by decide +kernel
theorem dX7_shorten_37 : decode cX7_shorten 37 = .ok (.aload_n 0, 1) := by decide +kernel
theorem dX7_shorten_38 : decode cX7_shorten 38 = .ok (.getfield 99, 3) := by decide +kernel
theorem dX7_shorten_41 : decode cX7_shorten 41 = .ok (.bipush 7, 2) := by decide +kernel
theorem dX7_shorten_43 : decode cX7_shorten 43 = .ok (.iload_n 1, 1) := by decide +kernel
theorem dX7_shorten_44 : decode cX7_shorten 44 = .ok (.imul, 1) := by decide +kernel
theorem dX7_shorten_45 : decode cX7_shorten 45 = .ok (.iload_n 3, 1) := by decide +kernel
theorem dX7_shorten_46 : decode cX7_shorten 46 = .ok (.iadd, 1) := by decide +kernel
theorem dX7_shorten_47 : decode cX7_shorten 47 = .ok (.iaload, 1) := by decide +kernel
theorem dX7_shorten_48 : decode cX7_shorten 48 = .ok (.ifCond .lt 22, 3) := by decide +kernel
theorem dX7_shorten_51 : decode cX7_shorten 51 = .ok (.iload 4, 2) := by decide +kernel
theorem dX7_shorten_53 : decode cX7_shorten 53 = .ok (.iload 5, 2) := by decide +kernel
theorem dX7_shorten_55 : decode cX7_shorten 55 = .ok (.iadd, 1) := by decide +kernel
theorem dX7_shorten_56 : decode cX7_shorten 56 = .ok (.aload_n 0, 1) := by decide +kernel
theorem dX7_shorten_57 : decode cX7_shorten 57 = .ok (.getfield 99, 3) := by decide +kernel
theorem dX7_shorten_60 : decode cX7_shorten 60 = .ok (.bipush 7, 2) := by decide +kernel
theorem dX7_shorten_62 : decode cX7_shorten 62 = .ok (.iload_n 1, 1) := by decide +kernel
theorem dX7_shorten_63 : decode cX7_shorten 63 = .ok (.imul, 1) := by decide +kernel
theorem dX7_shorten_64 : decode cX7_shorten 64 = .ok (.iload_n 3, 1) := by decide +kernel
theorem dX7_shorten_65 : decode cX7_shorten 65 = .ok (.iadd, 1) := by decide +kernel
theorem dX7_shorten_66 : decode cX7_shorten 66 = .ok (.iaload, 1) := by decide +kernel
theorem dX7_shorten_67 : decode cX7_shorten 67 = .ok (.if_icmp .ge 19, 3) := by decide +kernel
theorem dX7_shorten_70 : decode cX7_shorten 70 = .ok (.aload_n 0, 1) := by decide +kernel
theorem dX7_shorten_71 : decode cX7_shorten 71 = .ok (.getfield 99, 3) := by decide +kernel
theorem dX7_shorten_74 : decode cX7_shorten 74 = .ok (.bipush 7, 2) := by decide +kernel
theorem dX7_shorten_76 : decode cX7_shorten 76 = .ok (.iload_n 1, 1) := by decide +kernel
theorem dX7_shorten_77 : decode cX7_shorten 77 = .ok (.imul, 1) := by decide +kernel
theorem dX7_shorten_78 : decode cX7_shorten 78 = .ok (.iload_n 3, 1) := by decide +kernel
theorem dX7_shorten_79 : decode cX7_shorten 79 = .ok (.iadd, 1) := by decide +kernel
theorem dX7_shorten_80 : decode cX7_shorten 80 = .ok (.iload 4, 2) := by decide +kernel
theorem dX7_shorten_82 : decode cX7_shorten 82 = .ok (.iload 5, 2) := by decide +kernel
theorem dX7_shorten_84 : decode cX7_shorten 84 = .ok (.iadd, 1) := by decide +kernel
theorem dX7_shorten_85 : decode cX7_shorten 85 = .ok (.iastore, 1) := by decide +kernel
theorem dX7_shorten_86 : decode cX7_shorten 86 = .ok (.return_, 1) := by decide +kernel
theorem dX7_of_0 : decode cX7_of 0 = .ok (.aload_n 0, 1) := by decide +kernel
theorem dX7_of_1 : decode cX7_of 1 = .ok (.iload_n 1, 1) := by decide +kernel
theorem dX7_of_2 : decode cX7_of 2 = .ok (.invokevirtual 201, 3) := by decide +kernel
theorem dX7_of_5 : decode cX7_of 5 = .ok (.ifCond .ne 5, 3) := by decide +kernel
theorem dX7_of_8 : decode cX7_of 8 = .ok (.iconst (-1), 1) := by decide +kernel
theorem dX7_of_9 : decode cX7_of 9 = .ok (.ireturn, 1) := by decide +kernel
theorem dX7_of_10 : decode cX7_of 10 = .ok (.iload_n 2, 1) := by decide +kernel
theorem dX7_of_11 : decode cX7_of 11 = .ok (.tableswitch 85 0 5 #[37, 44, 51, 58, 72, 79], 37) := by decide +kernel
theorem dX7_of_48 : decode cX7_of 48 = .ok (.aload_n 0, 1) := by decide +kernel
theorem dX7_of_49 : decode cX7_of 49 = .ok (.getfield 16, 3) := by decide +kernel
theorem dX7_of_52 : decode cX7_of 52 = .ok (.iload_n 1, 1) := by decide +kernel
theorem dX7_of_53 : decode cX7_of 53 = .ok (.iaload, 1) := by decide +kernel
theorem dX7_of_54 : decode cX7_of 54 = .ok (.ireturn, 1) := by decide +kernel
theorem dX7_of_55 : decode cX7_of 55 = .ok (.aload_n 0, 1) := by decide +kernel
theorem dX7_of_56 : decode cX7_of 56 = .ok (.getfield 20, 3) := by decide +kernel
theorem dX7_of_59 : decode cX7_of 59 = .ok (.iload_n 1, 1) := by decide +kernel
theorem dX7_of_60 : decode cX7_of 60 = .ok (.iaload, 1) := by decide +kernel
theorem dX7_of_61 : decode cX7_of 61 = .ok (.ireturn, 1) := by decide +kernel
theorem dX7_of_62 : decode cX7_of 62 = .ok (.aload_n 0, 1) := by decide +kernel
theorem dX7_of_63 : decode cX7_of 63 = .ok (.getfield 23, 3) := by decide +kernel
theorem dX7_of_66 : decode cX7_of 66 = .ok (.iload_n 1, 1) := by decide +kernel
theorem dX7_of_67 : decode cX7_of 67 = .ok (.iaload, 1) := by decide +kernel
theorem dX7_of_68 : decode cX7_of 68 = .ok (.ireturn, 1) := by decide +kernel
theorem dX7_of_69 : decode cX7_of 69 = .ok (.aload_n 0, 1) := by decide +kernel
theorem dX7_of_70 : decode cX7_of 70 = .ok (.getfield 23, 3) := by decide +kernel
theorem dX7_of_73 : decode cX7_of 73 = .ok (.iload_n 1, 1) := by decide +kernel
theorem dX7_of_74 : decode cX7_of 74 = .ok (.iaload, 1) := by decide +kernel
theorem dX7_of_75 : decode cX7_of 75 = .ok (.aload_n 0, 1) := by decide +kernel
theorem dX7_of_76 : decode cX7_of 76 = .ok (.iconst 0, 1) := by decide +kernel
theorem dX7_of_77 : decode cX7_of 77 = .ok (.iload_n 1, 1) := by decide +kernel
theorem dX7_of_78 : decode cX7_of 78 = .ok (.invokevirtual 284, 3) := by decide +kernel
theorem dX7_of_81 : decode cX7_of 81 = .ok (.iadd, 1) := by decide +kernel
theorem dX7_of_82 : decode cX7_of 82 = .ok (.ireturn, 1) := by decide +kernel
theorem dX7_of_83 : decode cX7_of 83 = .ok (.aload_n 0, 1) := by decide +kernel
theorem dX7_of_84 : decode cX7_of 84 = .ok (.getfield 26, 3) := by decide +kernel
theorem dX7_of_87 : decode cX7_of 87 = .ok (.iload_n 1, 1) := by decide +kernel
theorem dX7_of_88 : decode cX7_of 88 = .ok (.iaload, 1) := by decide +kernel
theorem dX7_of_89 : decode cX7_of 89 = .ok (.ireturn, 1) := by decide +kernel
theorem dX7_of_90 : decode cX7_of 90 = .ok (.aload_n 0, 1) := by decide +kernel
theorem dX7_of_91 : decode cX7_of 91 = .ok (.iload_n 1, 1) := by decide +kernel
theorem dX7_of_92 : decode cX7_of 92 = .ok (.invokevirtual 274, 3) := by decide +kernel
theorem dX7_of_95 : decode cX7_of 95 = .ok (.ireturn, 1) := by decide +kernel
theorem dX7_of_96 : decode cX7_of 96 = .ok (.iconst (-1), 1) := by decide +kernel
theorem dX7_of_97 : decode cX7_of 97 = .ok (.ireturn, 1) := by decide +kernel
theorem dX7_namesNow_0 : decode cX7_namesNow 0 = .ok (.iconst 0, 1) := by decide +kernel
theorem dX7_namesNow_1 : decode cX7_namesNow 1 = .ok (.istore_n 1, 1) := by decide +kernel
theorem dX7_namesNow_2 : decode cX7_namesNow 2 = .ok (.iconst 0, 1) := by decide +kernel
theorem dX7_namesNow_3 : decode cX7_namesNow 3 = .ok (.istore_n 2, 1) := by decide +kernel
theorem dX7_namesNow_4 : decode cX7_namesNow 4 = .ok (.iload_n 2, 1) := by decide +kernel
theorem dX7_namesNow_5 : decode cX7_namesNow 5 = .ok (.aload_n 0, 1) := by decide +kernel
theorem dX7_namesNow_6 : decode cX7_namesNow 6 = .ok (.getfield 7, 3) := by decide +kernel
theorem dX7_namesNow_9 : decode cX7_namesNow 9 = .ok (.if_icmp .ge 22, 3) := by decide +kernel
theorem dX7_namesNow_12 : decode cX7_namesNow 12 = .ok (.iload_n 1, 1) := by decide +kernel
theorem dX7_namesNow_13 : decode cX7_namesNow 13 = .ok (.aload_n 0, 1) := by decide +kernel
theorem dX7_namesNow_14 : decode cX7_namesNow 14 = .ok (.aload_n 0, 1) := by decide +kernel
theorem dX7_namesNow_15 : decode cX7_namesNow 15 = .ok (.getfield 26, 3) := by decide +kernel
theorem dX7_namesNow_18 : decode cX7_namesNow 18 = .ok (.iload_n 2, 1) := by decide +kernel
theorem dX7_namesNow_19 : decode cX7_namesNow 19 = .ok (.iaload, 1) := by decide +kernel
theorem dX7_namesNow_20 : decode cX7_namesNow 20 = .ok (.invokevirtual 212, 3) := by decide +kernel
theorem dX7_namesNow_23 : decode cX7_namesNow 23 = .ok (.iadd, 1) := by decide +kernel
theorem dX7_namesNow_24 : decode cX7_namesNow 24 = .ok (.istore_n 1, 1) := by decide +kernel
theorem dX7_namesNow_25 : decode cX7_namesNow 25 = .ok (.iinc 2 1, 3) := by decide +kernel
theorem dX7_namesNow_28 : decode cX7_namesNow 28 = .ok (.goto (-24), 3) := by decide +kernel
theorem dX7_namesNow_31 : decode cX7_namesNow 31 = .ok (.iload_n 1, 1) := by decide +kernel
theorem dX7_namesNow_32 : decode cX7_namesNow 32 = .ok (.iconst 2, 1) := by decide +kernel
theorem dX7_namesNow_33 : decode cX7_namesNow 33 = .ok (.idiv, 1) := by decide +kernel
theorem dX7_namesNow_34 : decode cX7_namesNow 34 = .ok (.ireturn, 1) := by decide +kernel
theorem dX7_told_0 : decode cX7_told 0 = .ok (.iload_n 1, 1) := by decide +kernel
theorem dX7_told_1 : decode cX7_told 1 = .ok (.ifCond .ne 10, 3) := by decide +kernel
theorem dX7_told_4 : decode cX7_told 4 = .ok (.aload_n 0, 1) := by decide +kernel
theorem dX7_told_5 : decode cX7_told 5 = .ok (.invokevirtual 216, 3) := by decide +kernel
theorem dX7_told_8 : decode cX7_told 8 = .ok (.goto 16, 3) := by decide +kernel
theorem dX7_told_11 : decode cX7_told 11 = .ok (.iload_n 1, 1) := by decide +kernel
theorem dX7_told_12 : decode cX7_told 12 = .ok (.iconst 1, 1) := by decide +kernel
theorem dX7_told_13 : decode cX7_told 13 = .ok (.if_icmp .ne 10, 3) := by decide +kernel
theorem dX7_told_16 : decode cX7_told 16 = .ok (.aload_n 0, 1) := by decide +kernel
theorem dX7_told_17 : decode cX7_told 17 = .ok (.invokevirtual 291, 3) := by decide +kernel
theorem dX7_told_20 : decode cX7_told 20 = .ok (.goto 4, 3) := by decide +kernel
theorem dX7_told_23 : decode cX7_told 23 = .ok (.iconst (-1), 1) := by decide +kernel
theorem dX7_told_24 : decode cX7_told 24 = .ok (.ireturn, 1) := by decide +kernel
theorem dX7_far_0 : decode cX7_far 0 = .ok (.aload_n 0, 1) := by decide +kernel
theorem dX7_far_1 : decode cX7_far 1 = .ok (.iload_n 1, 1) := by decide +kernel
theorem dX7_far_2 : decode cX7_far 2 = .ok (.iload_n 2, 1) := by decide +kernel
theorem dX7_far_3 : decode cX7_far 3 = .ok (.invokevirtual 205, 3) := by decide +kernel
theorem dX7_far_6 : decode cX7_far 6 = .ok (.ifCond .ne 5, 3) := by decide +kernel
theorem dX7_far_9 : decode cX7_far 9 = .ok (.iconst (-1), 1) := by decide +kernel
theorem dX7_far_10 : decode cX7_far 10 = .ok (.ireturn, 1) := by decide +kernel
theorem dX7_far_11 : decode cX7_far 11 = .ok (.aload_n 0, 1) := by decide +kernel
theorem dX7_far_12 : decode cX7_far 12 = .ok (.invokevirtual 294, 3) := by decide +kernel
theorem dX7_far_15 : decode cX7_far 15 = .ok (.iload_n 1, 1) := by decide +kernel
theorem dX7_far_16 : decode cX7_far 16 = .ok (.iload_n 2, 1) := by decide +kernel
theorem dX7_far_17 : decode cX7_far 17 = .ok (.if_icmp .ne 7, 3) := by decide +kernel
theorem dX7_far_20 : decode cX7_far 20 = .ok (.iconst 0, 1) := by decide +kernel
theorem dX7_far_21 : decode cX7_far 21 = .ok (.goto 14, 3) := by decide +kernel
theorem dX7_far_24 : decode cX7_far 24 = .ok (.aload_n 0, 1) := by decide +kernel
theorem dX7_far_25 : decode cX7_far 25 = .ok (.getfield 96, 3) := by decide +kernel
theorem dX7_far_28 : decode cX7_far 28 = .ok (.bipush 7, 2) := by decide +kernel
theorem dX7_far_30 : decode cX7_far 30 = .ok (.iload_n 1, 1) := by decide +kernel
theorem dX7_far_31 : decode cX7_far 31 = .ok (.imul, 1) := by decide +kernel
theorem dX7_far_32 : decode cX7_far 32 = .ok (.iload_n 2, 1) := by decide +kernel
theorem dX7_far_33 : decode cX7_far 33 = .ok (.iadd, 1) := by decide +kernel
theorem dX7_far_34 : decode cX7_far 34 = .ok (.iaload, 1) := by decide +kernel
theorem dX7_far_35 : decode cX7_far 35 = .ok (.ireturn, 1) := by decide +kernel
theorem dX7_way_0 : decode cX7_way 0 = .ok (.aload_n 0, 1) := by decide +kernel
theorem dX7_way_1 : decode cX7_way 1 = .ok (.iload_n 1, 1) := by decide +kernel
theorem dX7_way_2 : decode cX7_way 2 = .ok (.iload_n 2, 1) := by decide +kernel
theorem dX7_way_3 : decode cX7_way 3 = .ok (.invokevirtual 205, 3) := by decide +kernel
theorem dX7_way_6 : decode cX7_way 6 = .ok (.ifCond .ne 5, 3) := by decide +kernel
theorem dX7_way_9 : decode cX7_way 9 = .ok (.iconst (-1), 1) := by decide +kernel
theorem dX7_way_10 : decode cX7_way 10 = .ok (.ireturn, 1) := by decide +kernel
theorem dX7_way_11 : decode cX7_way 11 = .ok (.aload_n 0, 1) := by decide +kernel
theorem dX7_way_12 : decode cX7_way 12 = .ok (.invokevirtual 294, 3) := by decide +kernel
theorem dX7_way_15 : decode cX7_way 15 = .ok (.aload_n 0, 1) := by decide +kernel
theorem dX7_way_16 : decode cX7_way 16 = .ok (.getfield 99, 3) := by decide +kernel
theorem dX7_way_19 : decode cX7_way 19 = .ok (.bipush 7, 2) := by decide +kernel
theorem dX7_way_21 : decode cX7_way 21 = .ok (.iload_n 1, 1) := by decide +kernel
theorem dX7_way_22 : decode cX7_way 22 = .ok (.imul, 1) := by decide +kernel
theorem dX7_way_23 : decode cX7_way 23 = .ok (.iload_n 2, 1) := by decide +kernel
theorem dX7_way_24 : decode cX7_way 24 = .ok (.iadd, 1) := by decide +kernel
theorem dX7_way_25 : decode cX7_way 25 = .ok (.iaload, 1) := by decide +kernel
theorem dX7_way_26 : decode cX7_way 26 = .ok (.ifCond .ge 8, 3) := by decide +kernel
theorem dX7_way_29 : decode cX7_way 29 = .ok (.bipush (-5), 2) := by decide +kernel
theorem dX7_way_31 : decode cX7_way 31 = .ok (.goto 14, 3) := by decide +kernel
theorem dX7_way_34 : decode cX7_way 34 = .ok (.aload_n 0, 1) := by decide +kernel
theorem dX7_way_35 : decode cX7_way 35 = .ok (.getfield 99, 3) := by decide +kernel
theorem dX7_way_38 : decode cX7_way 38 = .ok (.bipush 7, 2) := by decide +kernel
theorem dX7_way_40 : decode cX7_way 40 = .ok (.iload_n 1, 1) := by decide +kernel
theorem dX7_way_41 : decode cX7_way 41 = .ok (.imul, 1) := by decide +kernel
theorem dX7_way_42 : decode cX7_way 42 = .ok (.iload_n 2, 1) := by decide +kernel
theorem dX7_way_43 : decode cX7_way 43 = .ok (.iadd, 1) := by decide +kernel
theorem dX7_way_44 : decode cX7_way 44 = .ok (.iaload, 1) := by decide +kernel
theorem dX7_way_45 : decode cX7_way 45 = .ok (.ireturn, 1) := by decide +kernel
theorem dX7_towardOf_0 : decode cX7_towardOf 0 = .ok (.iload_n 1, 1) := by decide +kernel
theorem dX7_towardOf_1 : decode cX7_towardOf 1 = .ok (.iload_n 2, 1) := by decide +kernel
theorem dX7_towardOf_2 : decode cX7_towardOf 2 = .ok (.if_icmp .eq 17, 3) := by decide +kernel
theorem dX7_towardOf_5 : decode cX7_towardOf 5 = .ok (.aload_n 0, 1) := by decide +kernel
theorem dX7_towardOf_6 : decode cX7_towardOf 6 = .ok (.getfield 99, 3) := by decide +kernel
theorem dX7_towardOf_9 : decode cX7_towardOf 9 = .ok (.bipush 7, 2) := by decide +kernel
theorem dX7_towardOf_11 : decode cX7_towardOf 11 = .ok (.iload_n 1, 1) := by decide +kernel
theorem dX7_towardOf_12 : decode cX7_towardOf 12 = .ok (.imul, 1) := by decide +kernel
theorem dX7_towardOf_13 : decode cX7_towardOf 13 = .ok (.iload_n 2, 1) := by decide +kernel
theorem dX7_towardOf_14 : decode cX7_towardOf 14 = .ok (.iadd, 1) := by decide +kernel
theorem dX7_towardOf_15 : decode cX7_towardOf 15 = .ok (.iaload, 1) := by decide +kernel
theorem dX7_towardOf_16 : decode cX7_towardOf 16 = .ok (.ifCond .ge 6, 3) := by decide +kernel
theorem dX7_towardOf_19 : decode cX7_towardOf 19 = .ok (.bipush (-5), 2) := by decide +kernel
theorem dX7_towardOf_21 : decode cX7_towardOf 21 = .ok (.ireturn, 1) := by decide +kernel
theorem dX7_towardOf_22 : decode cX7_towardOf 22 = .ok (.iconst 0, 1) := by decide +kernel
theorem dX7_towardOf_23 : decode cX7_towardOf 23 = .ok (.istore_n 3, 1) := by decide +kernel
theorem dX7_towardOf_24 : decode cX7_towardOf 24 = .ok (.iload_n 3, 1) := by decide +kernel
theorem dX7_towardOf_25 : decode cX7_towardOf 25 = .ok (.aload_n 0, 1) := by decide +kernel
theorem dX7_towardOf_26 : decode cX7_towardOf 26 = .ok (.getfield 7, 3) := by decide +kernel
theorem dX7_towardOf_29 : decode cX7_towardOf 29 = .ok (.if_icmp .ge 76, 3) := by decide +kernel
theorem dX7_towardOf_32 : decode cX7_towardOf 32 = .ok (.aload_n 0, 1) := by decide +kernel
theorem dX7_towardOf_33 : decode cX7_towardOf 33 = .ok (.getfield 96, 3) := by decide +kernel
theorem dX7_towardOf_36 : decode cX7_towardOf 36 = .ok (.bipush 7, 2) := by decide +kernel
theorem dX7_towardOf_38 : decode cX7_towardOf 38 = .ok (.iload_n 1, 1) := by decide +kernel
theorem dX7_towardOf_39 : decode cX7_towardOf 39 = .ok (.imul, 1) := by decide +kernel
theorem dX7_towardOf_40 : decode cX7_towardOf 40 = .ok (.iload_n 3, 1) := by decide +kernel
theorem dX7_towardOf_41 : decode cX7_towardOf 41 = .ok (.iadd, 1) := by decide +kernel
theorem dX7_towardOf_42 : decode cX7_towardOf 42 = .ok (.iaload, 1) := by decide +kernel
theorem dX7_towardOf_43 : decode cX7_towardOf 43 = .ok (.ifCond .le 56, 3) := by decide +kernel
theorem dX7_towardOf_46 : decode cX7_towardOf 46 = .ok (.aload_n 0, 1) := by decide +kernel
theorem dX7_towardOf_47 : decode cX7_towardOf 47 = .ok (.getfield 99, 3) := by decide +kernel
theorem dX7_towardOf_50 : decode cX7_towardOf 50 = .ok (.bipush 7, 2) := by decide +kernel
theorem dX7_towardOf_52 : decode cX7_towardOf 52 = .ok (.iload_n 3, 1) := by decide +kernel
theorem dX7_towardOf_53 : decode cX7_towardOf 53 = .ok (.imul, 1) := by decide +kernel
theorem dX7_towardOf_54 : decode cX7_towardOf 54 = .ok (.iload_n 2, 1) := by decide +kernel
theorem dX7_towardOf_55 : decode cX7_towardOf 55 = .ok (.iadd, 1) := by decide +kernel
theorem dX7_towardOf_56 : decode cX7_towardOf 56 = .ok (.iaload, 1) := by decide +kernel
theorem dX7_towardOf_57 : decode cX7_towardOf 57 = .ok (.ifCond .lt 42, 3) := by decide +kernel
theorem dX7_towardOf_60 : decode cX7_towardOf 60 = .ok (.aload_n 0, 1) := by decide +kernel
theorem dX7_towardOf_61 : decode cX7_towardOf 61 = .ok (.getfield 96, 3) := by decide +kernel
theorem dX7_towardOf_64 : decode cX7_towardOf 64 = .ok (.bipush 7, 2) := by decide +kernel
theorem dX7_towardOf_66 : decode cX7_towardOf 66 = .ok (.iload_n 1, 1) := by decide +kernel
theorem dX7_towardOf_67 : decode cX7_towardOf 67 = .ok (.imul, 1) := by decide +kernel
theorem dX7_towardOf_68 : decode cX7_towardOf 68 = .ok (.iload_n 3, 1) := by decide +kernel
theorem dX7_towardOf_69 : decode cX7_towardOf 69 = .ok (.iadd, 1) := by decide +kernel
theorem dX7_towardOf_70 : decode cX7_towardOf 70 = .ok (.iaload, 1) := by decide +kernel
theorem dX7_towardOf_71 : decode cX7_towardOf 71 = .ok (.aload_n 0, 1) := by decide +kernel
theorem dX7_towardOf_72 : decode cX7_towardOf 72 = .ok (.getfield 99, 3) := by decide +kernel
theorem dX7_towardOf_75 : decode cX7_towardOf 75 = .ok (.bipush 7, 2) := by decide +kernel
theorem dX7_towardOf_77 : decode cX7_towardOf 77 = .ok (.iload_n 3, 1) := by decide +kernel
theorem dX7_towardOf_78 : decode cX7_towardOf 78 = .ok (.imul, 1) := by decide +kernel
theorem dX7_towardOf_79 : decode cX7_towardOf 79 = .ok (.iload_n 2, 1) := by decide +kernel
theorem dX7_towardOf_80 : decode cX7_towardOf 80 = .ok (.iadd, 1) := by decide +kernel
theorem dX7_towardOf_81 : decode cX7_towardOf 81 = .ok (.iaload, 1) := by decide +kernel
theorem dX7_towardOf_82 : decode cX7_towardOf 82 = .ok (.iadd, 1) := by decide +kernel
theorem dX7_towardOf_83 : decode cX7_towardOf 83 = .ok (.aload_n 0, 1) := by decide +kernel
theorem dX7_towardOf_84 : decode cX7_towardOf 84 = .ok (.getfield 99, 3) := by decide +kernel
theorem dX7_towardOf_87 : decode cX7_towardOf 87 = .ok (.bipush 7, 2) := by decide +kernel
theorem dX7_towardOf_89 : decode cX7_towardOf 89 = .ok (.iload_n 1, 1) := by decide +kernel
theorem dX7_towardOf_90 : decode cX7_towardOf 90 = .ok (.imul, 1) := by decide +kernel
theorem dX7_towardOf_91 : decode cX7_towardOf 91 = .ok (.iload_n 2, 1) := by decide +kernel
theorem dX7_towardOf_92 : decode cX7_towardOf 92 = .ok (.iadd, 1) := by decide +kernel
theorem dX7_towardOf_93 : decode cX7_towardOf 93 = .ok (.iaload, 1) := by decide +kernel
theorem dX7_towardOf_94 : decode cX7_towardOf 94 = .ok (.if_icmp .ne 5, 3) := by decide +kernel
theorem dX7_towardOf_97 : decode cX7_towardOf 97 = .ok (.iload_n 3, 1) := by decide +kernel
theorem dX7_towardOf_98 : decode cX7_towardOf 98 = .ok (.ireturn, 1) := by decide +kernel
theorem dX7_towardOf_99 : decode cX7_towardOf 99 = .ok (.iinc 3 1, 3) := by decide +kernel
theorem dX7_towardOf_102 : decode cX7_towardOf 102 = .ok (.goto (-78), 3) := by decide +kernel
theorem dX7_towardOf_105 : decode cX7_towardOf 105 = .ok (.bipush (-5), 2) := by decide +kernel
theorem dX7_towardOf_107 : decode cX7_towardOf 107 = .ok (.ireturn, 1) := by decide +kernel
theorem dX7_toward_0 : decode cX7_toward 0 = .ok (.aload_n 0, 1) := by decide +kernel
theorem dX7_toward_1 : decode cX7_toward 1 = .ok (.iload_n 1, 1) := by decide +kernel
theorem dX7_toward_2 : decode cX7_toward 2 = .ok (.iload_n 2, 1) := by decide +kernel
theorem dX7_toward_3 : decode cX7_toward 3 = .ok (.invokevirtual 205, 3) := by decide +kernel
theorem dX7_toward_6 : decode cX7_toward 6 = .ok (.ifCond .ne 5, 3) := by decide +kernel
theorem dX7_toward_9 : decode cX7_toward 9 = .ok (.iconst (-1), 1) := by decide +kernel
theorem dX7_toward_10 : decode cX7_toward 10 = .ok (.ireturn, 1) := by decide +kernel
theorem dX7_toward_11 : decode cX7_toward 11 = .ok (.aload_n 0, 1) := by decide +kernel
theorem dX7_toward_12 : decode cX7_toward 12 = .ok (.invokevirtual 294, 3) := by decide +kernel
theorem dX7_toward_15 : decode cX7_toward 15 = .ok (.aload_n 0, 1) := by decide +kernel
theorem dX7_toward_16 : decode cX7_toward 16 = .ok (.iload_n 1, 1) := by decide +kernel
theorem dX7_toward_17 : decode cX7_toward 17 = .ok (.iload_n 2, 1) := by decide +kernel
theorem dX7_toward_18 : decode cX7_toward 18 = .ok (.invokevirtual 297, 3) := by decide +kernel
theorem dX7_toward_21 : decode cX7_toward 21 = .ok (.ireturn, 1) := by decide +kernel
theorem dX7_leastNamed_0 : decode cX7_leastNamed 0 = .ok (.iconst 0, 1) := by decide +kernel
theorem dX7_leastNamed_1 : decode cX7_leastNamed 1 = .ok (.istore_n 2, 1) := by decide +kernel
theorem dX7_leastNamed_2 : decode cX7_leastNamed 2 = .ok (.iload_n 2, 1) := by decide +kernel
theorem dX7_leastNamed_3 : decode cX7_leastNamed 3 = .ok (.aload_n 0, 1) := by decide +kernel
theorem dX7_leastNamed_4 : decode cX7_leastNamed 4 = .ok (.getfield 7, 3) := by decide +kernel
theorem dX7_leastNamed_7 : decode cX7_leastNamed 7 = .ok (.if_icmp .ge 25, 3) := by decide +kernel
theorem dX7_leastNamed_10 : decode cX7_leastNamed 10 = .ok (.aload_n 0, 1) := by decide +kernel
theorem dX7_leastNamed_11 : decode cX7_leastNamed 11 = .ok (.aload_n 0, 1) := by decide +kernel
theorem dX7_leastNamed_12 : decode cX7_leastNamed 12 = .ok (.getfield 26, 3) := by decide +kernel
theorem dX7_leastNamed_15 : decode cX7_leastNamed 15 = .ok (.iload_n 1, 1) := by decide +kernel
theorem dX7_leastNamed_16 : decode cX7_leastNamed 16 = .ok (.iaload, 1) := by decide +kernel
theorem dX7_leastNamed_17 : decode cX7_leastNamed 17 = .ok (.iload_n 2, 1) := by decide +kernel
theorem dX7_leastNamed_18 : decode cX7_leastNamed 18 = .ok (.invokevirtual 209, 3) := by decide +kernel
theorem dX7_leastNamed_21 : decode cX7_leastNamed 21 = .ok (.ifCond .eq 5, 3) := by decide +kernel
theorem dX7_leastNamed_24 : decode cX7_leastNamed 24 = .ok (.iload_n 2, 1) := by decide +kernel
theorem dX7_leastNamed_25 : decode cX7_leastNamed 25 = .ok (.ireturn, 1) := by decide +kernel
theorem dX7_leastNamed_26 : decode cX7_leastNamed 26 = .ok (.iinc 2 1, 3) := by decide +kernel
theorem dX7_leastNamed_29 : decode cX7_leastNamed 29 = .ok (.goto (-27), 3) := by decide +kernel
theorem dX7_leastNamed_32 : decode cX7_leastNamed 32 = .ok (.bipush (-5), 2) := by decide +kernel
theorem dX7_leastNamed_34 : decode cX7_leastNamed 34 = .ok (.ireturn, 1) := by decide +kernel
theorem dX7_lastNamed_0 : decode cX7_lastNamed 0 = .ok (.aload_n 0, 1) := by decide +kernel
theorem dX7_lastNamed_1 : decode cX7_lastNamed 1 = .ok (.getfield 7, 3) := by decide +kernel
theorem dX7_lastNamed_4 : decode cX7_lastNamed 4 = .ok (.iconst 1, 1) := by decide +kernel
theorem dX7_lastNamed_5 : decode cX7_lastNamed 5 = .ok (.isub, 1) := by decide +kernel
theorem dX7_lastNamed_6 : decode cX7_lastNamed 6 = .ok (.istore_n 2, 1) := by decide +kernel
theorem dX7_lastNamed_7 : decode cX7_lastNamed 7 = .ok (.iload_n 2, 1) := by decide +kernel
theorem dX7_lastNamed_8 : decode cX7_lastNamed 8 = .ok (.ifCond .lt 25, 3) := by decide +kernel
theorem dX7_lastNamed_11 : decode cX7_lastNamed 11 = .ok (.aload_n 0, 1) := by decide +kernel
theorem dX7_lastNamed_12 : decode cX7_lastNamed 12 = .ok (.aload_n 0, 1) := by decide +kernel
theorem dX7_lastNamed_13 : decode cX7_lastNamed 13 = .ok (.getfield 26, 3) := by decide +kernel
theorem dX7_lastNamed_16 : decode cX7_lastNamed 16 = .ok (.iload_n 1, 1) := by decide +kernel
theorem dX7_lastNamed_17 : decode cX7_lastNamed 17 = .ok (.iaload, 1) := by decide +kernel
theorem dX7_lastNamed_18 : decode cX7_lastNamed 18 = .ok (.iload_n 2, 1) := by decide +kernel
theorem dX7_lastNamed_19 : decode cX7_lastNamed 19 = .ok (.invokevirtual 209, 3) := by decide +kernel
theorem dX7_lastNamed_22 : decode cX7_lastNamed 22 = .ok (.ifCond .eq 5, 3) := by decide +kernel
theorem dX7_lastNamed_25 : decode cX7_lastNamed 25 = .ok (.iload_n 2, 1) := by decide +kernel
theorem dX7_lastNamed_26 : decode cX7_lastNamed 26 = .ok (.ireturn, 1) := by decide +kernel
theorem dX7_lastNamed_27 : decode cX7_lastNamed 27 = .ok (.iinc 2 (-1), 3) := by decide +kernel
theorem dX7_lastNamed_30 : decode cX7_lastNamed 30 = .ok (.goto (-23), 3) := by decide +kernel
theorem dX7_lastNamed_33 : decode cX7_lastNamed 33 = .ok (.bipush (-5), 2) := by decide +kernel
theorem dX7_lastNamed_35 : decode cX7_lastNamed 35 = .ok (.ireturn, 1) := by decide +kernel
theorem dX7_nearestNamed_0 : decode cX7_nearestNamed 0 = .ok (.bipush (-5), 2) := by decide +kernel
theorem dX7_nearestNamed_2 : decode cX7_nearestNamed 2 = .ok (.istore_n 2, 1) := by decide +kernel
theorem dX7_nearestNamed_3 : decode cX7_nearestNamed 3 = .ok (.iconst 0, 1) := by decide +kernel
theorem dX7_nearestNamed_4 : decode cX7_nearestNamed 4 = .ok (.istore_n 3, 1) := by decide +kernel
theorem dX7_nearestNamed_5 : decode cX7_nearestNamed 5 = .ok (.iload_n 3, 1) := by decide +kernel
theorem dX7_nearestNamed_6 : decode cX7_nearestNamed 6 = .ok (.aload_n 0, 1) := by decide +kernel
theorem dX7_nearestNamed_7 : decode cX7_nearestNamed 7 = .ok (.getfield 7, 3) := by decide +kernel
theorem dX7_nearestNamed_10 : decode cX7_nearestNamed 10 = .ok (.if_icmp .ge 68, 3) := by decide +kernel
theorem dX7_nearestNamed_13 : decode cX7_nearestNamed 13 = .ok (.aload_n 0, 1) := by decide +kernel
theorem dX7_nearestNamed_14 : decode cX7_nearestNamed 14 = .ok (.aload_n 0, 1) := by decide +kernel
theorem dX7_nearestNamed_15 : decode cX7_nearestNamed 15 = .ok (.getfield 26, 3) := by decide +kernel
theorem dX7_nearestNamed_18 : decode cX7_nearestNamed 18 = .ok (.iload_n 1, 1) := by decide +kernel
theorem dX7_nearestNamed_19 : decode cX7_nearestNamed 19 = .ok (.iaload, 1) := by decide +kernel
theorem dX7_nearestNamed_20 : decode cX7_nearestNamed 20 = .ok (.iload_n 3, 1) := by decide +kernel
theorem dX7_nearestNamed_21 : decode cX7_nearestNamed 21 = .ok (.invokevirtual 209, 3) := by decide +kernel
theorem dX7_nearestNamed_24 : decode cX7_nearestNamed 24 = .ok (.ifCond .eq 48, 3) := by decide +kernel
theorem dX7_nearestNamed_27 : decode cX7_nearestNamed 27 = .ok (.aload_n 0, 1) := by decide +kernel
theorem dX7_nearestNamed_28 : decode cX7_nearestNamed 28 = .ok (.getfield 99, 3) := by decide +kernel
theorem dX7_nearestNamed_31 : decode cX7_nearestNamed 31 = .ok (.bipush 7, 2) := by decide +kernel
theorem dX7_nearestNamed_33 : decode cX7_nearestNamed 33 = .ok (.iload_n 1, 1) := by decide +kernel
theorem dX7_nearestNamed_34 : decode cX7_nearestNamed 34 = .ok (.imul, 1) := by decide +kernel
theorem dX7_nearestNamed_35 : decode cX7_nearestNamed 35 = .ok (.iload_n 3, 1) := by decide +kernel
theorem dX7_nearestNamed_36 : decode cX7_nearestNamed 36 = .ok (.iadd, 1) := by decide +kernel
theorem dX7_nearestNamed_37 : decode cX7_nearestNamed 37 = .ok (.iaload, 1) := by decide +kernel
theorem dX7_nearestNamed_38 : decode cX7_nearestNamed 38 = .ok (.ifCond .lt 34, 3) := by decide +kernel
theorem dX7_nearestNamed_41 : decode cX7_nearestNamed 41 = .ok (.iload_n 2, 1) := by decide +kernel
theorem dX7_nearestNamed_42 : decode cX7_nearestNamed 42 = .ok (.ifCond .lt 28, 3) := by decide +kernel
theorem dX7_nearestNamed_45 : decode cX7_nearestNamed 45 = .ok (.aload_n 0, 1) := by decide +kernel
theorem dX7_nearestNamed_46 : decode cX7_nearestNamed 46 = .ok (.getfield 99, 3) := by decide +kernel
theorem dX7_nearestNamed_49 : decode cX7_nearestNamed 49 = .ok (.bipush 7, 2) := by decide +kernel
theorem dX7_nearestNamed_51 : decode cX7_nearestNamed 51 = .ok (.iload_n 1, 1) := by decide +kernel
theorem dX7_nearestNamed_52 : decode cX7_nearestNamed 52 = .ok (.imul, 1) := by decide +kernel
theorem dX7_nearestNamed_53 : decode cX7_nearestNamed 53 = .ok (.iload_n 3, 1) := by decide +kernel
theorem dX7_nearestNamed_54 : decode cX7_nearestNamed 54 = .ok (.iadd, 1) := by decide +kernel
theorem dX7_nearestNamed_55 : decode cX7_nearestNamed 55 = .ok (.iaload, 1) := by decide +kernel
theorem dX7_nearestNamed_56 : decode cX7_nearestNamed 56 = .ok (.aload_n 0, 1) := by decide +kernel
theorem dX7_nearestNamed_57 : decode cX7_nearestNamed 57 = .ok (.getfield 99, 3) := by decide +kernel
theorem dX7_nearestNamed_60 : decode cX7_nearestNamed 60 = .ok (.bipush 7, 2) := by decide +kernel
theorem dX7_nearestNamed_62 : decode cX7_nearestNamed 62 = .ok (.iload_n 1, 1) := by decide +kernel
theorem dX7_nearestNamed_63 : decode cX7_nearestNamed 63 = .ok (.imul, 1) := by decide +kernel
theorem dX7_nearestNamed_64 : decode cX7_nearestNamed 64 = .ok (.iload_n 2, 1) := by decide +kernel
theorem dX7_nearestNamed_65 : decode cX7_nearestNamed 65 = .ok (.iadd, 1) := by decide +kernel
theorem dX7_nearestNamed_66 : decode cX7_nearestNamed 66 = .ok (.iaload, 1) := by decide +kernel
theorem dX7_nearestNamed_67 : decode cX7_nearestNamed 67 = .ok (.if_icmp .ge 5, 3) := by decide +kernel
theorem dX7_nearestNamed_70 : decode cX7_nearestNamed 70 = .ok (.iload_n 3, 1) := by decide +kernel
theorem dX7_nearestNamed_71 : decode cX7_nearestNamed 71 = .ok (.istore_n 2, 1) := by decide +kernel
theorem dX7_nearestNamed_72 : decode cX7_nearestNamed 72 = .ok (.iinc 3 1, 3) := by decide +kernel
theorem dX7_nearestNamed_75 : decode cX7_nearestNamed 75 = .ok (.goto (-70), 3) := by decide +kernel
theorem dX7_nearestNamed_78 : decode cX7_nearestNamed 78 = .ok (.iload_n 2, 1) := by decide +kernel
theorem dX7_nearestNamed_79 : decode cX7_nearestNamed 79 = .ok (.ireturn, 1) := by decide +kernel
theorem dX7_greatestNamed_0 : decode cX7_greatestNamed 0 = .ok (.bipush (-5), 2) := by decide +kernel
theorem dX7_greatestNamed_2 : decode cX7_greatestNamed 2 = .ok (.istore_n 2, 1) := by decide +kernel
theorem dX7_greatestNamed_3 : decode cX7_greatestNamed 3 = .ok (.iconst 0, 1) := by decide +kernel
theorem dX7_greatestNamed_4 : decode cX7_greatestNamed 4 = .ok (.istore_n 3, 1) := by decide +kernel
theorem dX7_greatestNamed_5 : decode cX7_greatestNamed 5 = .ok (.iload_n 3, 1) := by decide +kernel
theorem dX7_greatestNamed_6 : decode cX7_greatestNamed 6 = .ok (.aload_n 0, 1) := by decide +kernel
theorem dX7_greatestNamed_7 : decode cX7_greatestNamed 7 = .ok (.getfield 7, 3) := by decide +kernel
theorem dX7_greatestNamed_10 : decode cX7_greatestNamed 10 = .ok (.if_icmp .ge 44, 3) := by decide +kernel
theorem dX7_greatestNamed_13 : decode cX7_greatestNamed 13 = .ok (.aload_n 0, 1) := by decide +kernel
theorem dX7_greatestNamed_14 : decode cX7_greatestNamed 14 = .ok (.aload_n 0, 1) := by decide +kernel
theorem dX7_greatestNamed_15 : decode cX7_greatestNamed 15 = .ok (.getfield 26, 3) := by decide +kernel
theorem dX7_greatestNamed_18 : decode cX7_greatestNamed 18 = .ok (.iload_n 1, 1) := by decide +kernel
theorem dX7_greatestNamed_19 : decode cX7_greatestNamed 19 = .ok (.iaload, 1) := by decide +kernel
theorem dX7_greatestNamed_20 : decode cX7_greatestNamed 20 = .ok (.iload_n 3, 1) := by decide +kernel
theorem dX7_greatestNamed_21 : decode cX7_greatestNamed 21 = .ok (.invokevirtual 209, 3) := by decide +kernel
theorem dX7_greatestNamed_24 : decode cX7_greatestNamed 24 = .ok (.ifCond .eq 24, 3) := by decide +kernel
theorem dX7_greatestNamed_27 : decode cX7_greatestNamed 27 = .ok (.iload_n 2, 1) := by decide +kernel
theorem dX7_greatestNamed_28 : decode cX7_greatestNamed 28 = .ok (.ifCond .lt 18, 3) := by decide +kernel
theorem dX7_greatestNamed_31 : decode cX7_greatestNamed 31 = .ok (.aload_n 0, 1) := by decide +kernel
theorem dX7_greatestNamed_32 : decode cX7_greatestNamed 32 = .ok (.getfield 102, 3) := by decide +kernel
theorem dX7_greatestNamed_35 : decode cX7_greatestNamed 35 = .ok (.iload_n 3, 1) := by decide +kernel
theorem dX7_greatestNamed_36 : decode cX7_greatestNamed 36 = .ok (.iaload, 1) := by decide +kernel
theorem dX7_greatestNamed_37 : decode cX7_greatestNamed 37 = .ok (.aload_n 0, 1) := by decide +kernel
theorem dX7_greatestNamed_38 : decode cX7_greatestNamed 38 = .ok (.getfield 102, 3) := by decide +kernel
theorem dX7_greatestNamed_41 : decode cX7_greatestNamed 41 = .ok (.iload_n 2, 1) := by decide +kernel
theorem dX7_greatestNamed_42 : decode cX7_greatestNamed 42 = .ok (.iaload, 1) := by decide +kernel
theorem dX7_greatestNamed_43 : decode cX7_greatestNamed 43 = .ok (.if_icmp .le 5, 3) := by decide +kernel
theorem dX7_greatestNamed_46 : decode cX7_greatestNamed 46 = .ok (.iload_n 3, 1) := by decide +kernel
theorem dX7_greatestNamed_47 : decode cX7_greatestNamed 47 = .ok (.istore_n 2, 1) := by decide +kernel
theorem dX7_greatestNamed_48 : decode cX7_greatestNamed 48 = .ok (.iinc 3 1, 3) := by decide +kernel
theorem dX7_greatestNamed_51 : decode cX7_greatestNamed 51 = .ok (.goto (-46), 3) := by decide +kernel
theorem dX7_greatestNamed_54 : decode cX7_greatestNamed 54 = .ok (.iload_n 2, 1) := by decide +kernel
theorem dX7_greatestNamed_55 : decode cX7_greatestNamed 55 = .ok (.ireturn, 1) := by decide +kernel
theorem dX7_goalOf_0 : decode cX7_goalOf 0 = .ok (.aload_n 0, 1) := by decide +kernel
theorem dX7_goalOf_1 : decode cX7_goalOf 1 = .ok (.aload_n 0, 1) := by decide +kernel
theorem dX7_goalOf_2 : decode cX7_goalOf 2 = .ok (.getfield 26, 3) := by decide +kernel
theorem dX7_goalOf_5 : decode cX7_goalOf 5 = .ok (.iload_n 1, 1) := by decide +kernel
theorem dX7_goalOf_6 : decode cX7_goalOf 6 = .ok (.iaload, 1) := by decide +kernel
theorem dX7_goalOf_7 : decode cX7_goalOf 7 = .ok (.iload_n 2, 1) := by decide +kernel
theorem dX7_goalOf_8 : decode cX7_goalOf 8 = .ok (.invokevirtual 209, 3) := by decide +kernel
theorem dX7_goalOf_11 : decode cX7_goalOf 11 = .ok (.ifCond .ne 17, 3) := by decide +kernel
theorem dX7_goalOf_14 : decode cX7_goalOf 14 = .ok (.aload_n 0, 1) := by decide +kernel
theorem dX7_goalOf_15 : decode cX7_goalOf 15 = .ok (.getfield 29, 3) := by decide +kernel
theorem dX7_goalOf_18 : decode cX7_goalOf 18 = .ok (.bipush 7, 2) := by decide +kernel
theorem dX7_goalOf_20 : decode cX7_goalOf 20 = .ok (.iload_n 1, 1) := by decide +kernel
theorem dX7_goalOf_21 : decode cX7_goalOf 21 = .ok (.imul, 1) := by decide +kernel
theorem dX7_goalOf_22 : decode cX7_goalOf 22 = .ok (.iload_n 2, 1) := by decide +kernel
theorem dX7_goalOf_23 : decode cX7_goalOf 23 = .ok (.iadd, 1) := by decide +kernel
theorem dX7_goalOf_24 : decode cX7_goalOf 24 = .ok (.iaload, 1) := by decide +kernel
theorem dX7_goalOf_25 : decode cX7_goalOf 25 = .ok (.ifCond .le 5, 3) := by decide +kernel
theorem dX7_goalOf_28 : decode cX7_goalOf 28 = .ok (.iload_n 2, 1) := by decide +kernel
theorem dX7_goalOf_29 : decode cX7_goalOf 29 = .ok (.ireturn, 1) := by decide +kernel
theorem dX7_goalOf_30 : decode cX7_goalOf 30 = .ok (.aload_n 0, 1) := by decide +kernel
theorem dX7_goalOf_31 : decode cX7_goalOf 31 = .ok (.getfield 16, 3) := by decide +kernel
theorem dX7_goalOf_34 : decode cX7_goalOf 34 = .ok (.iload_n 1, 1) := by decide +kernel
theorem dX7_goalOf_35 : decode cX7_goalOf 35 = .ok (.iaload, 1) := by decide +kernel
theorem dX7_goalOf_36 : decode cX7_goalOf 36 = .ok (.tableswitch 116 1 6 #[40, 46, 52, 58, 60, 95], 40) := by decide +kernel
theorem dX7_goalOf_76 : decode cX7_goalOf 76 = .ok (.aload_n 0, 1) := by decide +kernel
theorem dX7_goalOf_77 : decode cX7_goalOf 77 = .ok (.iload_n 1, 1) := by decide +kernel
theorem dX7_goalOf_78 : decode cX7_goalOf 78 = .ok (.invokevirtual 300, 3) := by decide +kernel
theorem dX7_goalOf_81 : decode cX7_goalOf 81 = .ok (.ireturn, 1) := by decide +kernel
theorem dX7_goalOf_82 : decode cX7_goalOf 82 = .ok (.aload_n 0, 1) := by decide +kernel
theorem dX7_goalOf_83 : decode cX7_goalOf 83 = .ok (.iload_n 1, 1) := by decide +kernel
theorem dX7_goalOf_84 : decode cX7_goalOf 84 = .ok (.invokevirtual 303, 3) := by decide +kernel
theorem dX7_goalOf_87 : decode cX7_goalOf 87 = .ok (.ireturn, 1) := by decide +kernel
theorem dX7_goalOf_88 : decode cX7_goalOf 88 = .ok (.aload_n 0, 1) := by decide +kernel
theorem dX7_goalOf_89 : decode cX7_goalOf 89 = .ok (.iload_n 1, 1) := by decide +kernel
theorem dX7_goalOf_90 : decode cX7_goalOf 90 = .ok (.invokevirtual 306, 3) := by decide +kernel
theorem dX7_goalOf_93 : decode cX7_goalOf 93 = .ok (.ireturn, 1) := by decide +kernel
theorem dX7_goalOf_94 : decode cX7_goalOf 94 = .ok (.iload_n 2, 1) := by decide +kernel
theorem dX7_goalOf_95 : decode cX7_goalOf 95 = .ok (.ireturn, 1) := by decide +kernel
theorem dX7_goalOf_96 : decode cX7_goalOf 96 = .ok (.aload_n 0, 1) := by decide +kernel
theorem dX7_goalOf_97 : decode cX7_goalOf 97 = .ok (.getfield 20, 3) := by decide +kernel
theorem dX7_goalOf_100 : decode cX7_goalOf 100 = .ok (.iload_n 1, 1) := by decide +kernel
theorem dX7_goalOf_101 : decode cX7_goalOf 101 = .ok (.iaload, 1) := by decide +kernel
theorem dX7_goalOf_102 : decode cX7_goalOf 102 = .ok (.aload_n 0, 1) := by decide +kernel
theorem dX7_goalOf_103 : decode cX7_goalOf 103 = .ok (.getfield 7, 3) := by decide +kernel
theorem dX7_goalOf_106 : decode cX7_goalOf 106 = .ok (.irem, 1) := by decide +kernel
theorem dX7_goalOf_107 : decode cX7_goalOf 107 = .ok (.iload_n 1, 1) := by decide +kernel
theorem dX7_goalOf_108 : decode cX7_goalOf 108 = .ok (.if_icmp .ne 11, 3) := by decide +kernel
theorem dX7_goalOf_111 : decode cX7_goalOf 111 = .ok (.aload_n 0, 1) := by decide +kernel
theorem dX7_goalOf_112 : decode cX7_goalOf 112 = .ok (.iload_n 1, 1) := by decide +kernel
theorem dX7_goalOf_113 : decode cX7_goalOf 113 = .ok (.invokevirtual 303, 3) := by decide +kernel
theorem dX7_goalOf_116 : decode cX7_goalOf 116 = .ok (.goto 14, 3) := by decide +kernel
theorem dX7_goalOf_119 : decode cX7_goalOf 119 = .ok (.aload_n 0, 1) := by decide +kernel
theorem dX7_goalOf_120 : decode cX7_goalOf 120 = .ok (.getfield 20, 3) := by decide +kernel
theorem dX7_goalOf_123 : decode cX7_goalOf 123 = .ok (.iload_n 1, 1) := by decide +kernel
theorem dX7_goalOf_124 : decode cX7_goalOf 124 = .ok (.iaload, 1) := by decide +kernel
theorem dX7_goalOf_125 : decode cX7_goalOf 125 = .ok (.aload_n 0, 1) := by decide +kernel
theorem dX7_goalOf_126 : decode cX7_goalOf 126 = .ok (.getfield 7, 3) := by decide +kernel
theorem dX7_goalOf_129 : decode cX7_goalOf 129 = .ok (.irem, 1) := by decide +kernel
theorem dX7_goalOf_130 : decode cX7_goalOf 130 = .ok (.ireturn, 1) := by decide +kernel
theorem dX7_goalOf_131 : decode cX7_goalOf 131 = .ok (.aload_n 0, 1) := by decide +kernel
theorem dX7_goalOf_132 : decode cX7_goalOf 132 = .ok (.getfield 20, 3) := by decide +kernel
theorem dX7_goalOf_135 : decode cX7_goalOf 135 = .ok (.iload_n 1, 1) := by decide +kernel
theorem dX7_goalOf_136 : decode cX7_goalOf 136 = .ok (.iaload, 1) := by decide +kernel
theorem dX7_goalOf_137 : decode cX7_goalOf 137 = .ok (.iconst 4, 1) := by decide +kernel
theorem dX7_goalOf_138 : decode cX7_goalOf 138 = .ok (.if_icmp .le 11, 3) := by decide +kernel
theorem dX7_goalOf_141 : decode cX7_goalOf 141 = .ok (.aload_n 0, 1) := by decide +kernel
theorem dX7_goalOf_142 : decode cX7_goalOf 142 = .ok (.iload_n 1, 1) := by decide +kernel
theorem dX7_goalOf_143 : decode cX7_goalOf 143 = .ok (.invokevirtual 306, 3) := by decide +kernel
theorem dX7_goalOf_146 : decode cX7_goalOf 146 = .ok (.goto 5, 3) := by decide +kernel
theorem dX7_goalOf_149 : decode cX7_goalOf 149 = .ok (.bipush (-5), 2) := by decide +kernel
theorem dX7_goalOf_151 : decode cX7_goalOf 151 = .ok (.ireturn, 1) := by decide +kernel
theorem dX7_goalOf_152 : decode cX7_goalOf 152 = .ok (.aload_n 0, 1) := by decide +kernel
theorem dX7_goalOf_153 : decode cX7_goalOf 153 = .ok (.iload_n 1, 1) := by decide +kernel
theorem dX7_goalOf_154 : decode cX7_goalOf 154 = .ok (.invokevirtual 309, 3) := by decide +kernel
theorem dX7_goalOf_157 : decode cX7_goalOf 157 = .ok (.ireturn, 1) := by decide +kernel
theorem dX7_turnedTo_0 : decode cX7_turnedTo 0 = .ok (.aload_n 0, 1) := by decide +kernel
theorem dX7_turnedTo_1 : decode cX7_turnedTo 1 = .ok (.getfield 111, 3) := by decide +kernel
theorem dX7_turnedTo_4 : decode cX7_turnedTo 4 = .ok (.iconst 1, 1) := by decide +kernel
theorem dX7_turnedTo_5 : decode cX7_turnedTo 5 = .ok (.iadd, 1) := by decide +kernel
theorem dX7_turnedTo_6 : decode cX7_turnedTo 6 = .ok (.aload_n 0, 1) := by decide +kernel
theorem dX7_turnedTo_7 : decode cX7_turnedTo 7 = .ok (.getfield 7, 3) := by decide +kernel
theorem dX7_turnedTo_10 : decode cX7_turnedTo 10 = .ok (.irem, 1) := by decide +kernel
theorem dX7_turnedTo_11 : decode cX7_turnedTo 11 = .ok (.istore_n 1, 1) := by decide +kernel
theorem dX7_turnedTo_12 : decode cX7_turnedTo 12 = .ok (.iload_n 1, 1) := by decide +kernel
theorem dX7_turnedTo_13 : decode cX7_turnedTo 13 = .ok (.aload_n 0, 1) := by decide +kernel
theorem dX7_turnedTo_14 : decode cX7_turnedTo 14 = .ok (.getfield 108, 3) := by decide +kernel
theorem dX7_turnedTo_17 : decode cX7_turnedTo 17 = .ok (.if_icmp .ne 14, 3) := by decide +kernel
theorem dX7_turnedTo_20 : decode cX7_turnedTo 20 = .ok (.iload_n 1, 1) := by decide +kernel
theorem dX7_turnedTo_21 : decode cX7_turnedTo 21 = .ok (.iconst 1, 1) := by decide +kernel
theorem dX7_turnedTo_22 : decode cX7_turnedTo 22 = .ok (.iadd, 1) := by decide +kernel
theorem dX7_turnedTo_23 : decode cX7_turnedTo 23 = .ok (.aload_n 0, 1) := by decide +kernel
theorem dX7_turnedTo_24 : decode cX7_turnedTo 24 = .ok (.getfield 7, 3) := by decide +kernel
theorem dX7_turnedTo_27 : decode cX7_turnedTo 27 = .ok (.irem, 1) := by decide +kernel
theorem dX7_turnedTo_28 : decode cX7_turnedTo 28 = .ok (.goto 4, 3) := by decide +kernel
theorem dX7_turnedTo_31 : decode cX7_turnedTo 31 = .ok (.iload_n 1, 1) := by decide +kernel
theorem dX7_turnedTo_32 : decode cX7_turnedTo 32 = .ok (.ireturn, 1) := by decide +kernel
theorem dX7_nextOf_0 : decode cX7_nextOf 0 = .ok (.aload_n 0, 1) := by decide +kernel
theorem dX7_nextOf_1 : decode cX7_nextOf 1 = .ok (.iload_n 1, 1) := by decide +kernel
theorem dX7_nextOf_2 : decode cX7_nextOf 2 = .ok (.iload_n 2, 1) := by decide +kernel
theorem dX7_nextOf_3 : decode cX7_nextOf 3 = .ok (.invokevirtual 312, 3) := by decide +kernel
theorem dX7_nextOf_6 : decode cX7_nextOf 6 = .ok (.istore_n 3, 1) := by decide +kernel
theorem dX7_nextOf_7 : decode cX7_nextOf 7 = .ok (.iload_n 3, 1) := by decide +kernel
theorem dX7_nextOf_8 : decode cX7_nextOf 8 = .ok (.ifCond .ge 6, 3) := by decide +kernel
theorem dX7_nextOf_11 : decode cX7_nextOf 11 = .ok (.bipush (-5), 2) := by decide +kernel
theorem dX7_nextOf_13 : decode cX7_nextOf 13 = .ok (.ireturn, 1) := by decide +kernel
theorem dX7_nextOf_14 : decode cX7_nextOf 14 = .ok (.aload_n 0, 1) := by decide +kernel
theorem dX7_nextOf_15 : decode cX7_nextOf 15 = .ok (.iload_n 1, 1) := by decide +kernel
theorem dX7_nextOf_16 : decode cX7_nextOf 16 = .ok (.iload_n 1, 1) := by decide +kernel
theorem dX7_nextOf_17 : decode cX7_nextOf 17 = .ok (.aload_n 0, 1) := by decide +kernel
theorem dX7_nextOf_18 : decode cX7_nextOf 18 = .ok (.getfield 108, 3) := by decide +kernel
theorem dX7_nextOf_21 : decode cX7_nextOf 21 = .ok (.if_icmp .ne 18, 3) := by decide +kernel
theorem dX7_nextOf_24 : decode cX7_nextOf 24 = .ok (.iload_n 3, 1) := by decide +kernel
theorem dX7_nextOf_25 : decode cX7_nextOf 25 = .ok (.aload_n 0, 1) := by decide +kernel
theorem dX7_nextOf_26 : decode cX7_nextOf 26 = .ok (.getfield 111, 3) := by decide +kernel
theorem dX7_nextOf_29 : decode cX7_nextOf 29 = .ok (.if_icmp .ne 10, 3) := by decide +kernel
theorem dX7_nextOf_32 : decode cX7_nextOf 32 = .ok (.aload_n 0, 1) := by decide +kernel
theorem dX7_nextOf_33 : decode cX7_nextOf 33 = .ok (.invokevirtual 315, 3) := by decide +kernel
theorem dX7_nextOf_36 : decode cX7_nextOf 36 = .ok (.goto 4, 3) := by decide +kernel
theorem dX7_nextOf_39 : decode cX7_nextOf 39 = .ok (.iload_n 3, 1) := by decide +kernel
theorem dX7_nextOf_40 : decode cX7_nextOf 40 = .ok (.invokevirtual 297, 3) := by decide +kernel
theorem dX7_nextOf_43 : decode cX7_nextOf 43 = .ok (.ireturn, 1) := by decide +kernel
theorem dX7_next_0 : decode cX7_next 0 = .ok (.aload_n 0, 1) := by decide +kernel
theorem dX7_next_1 : decode cX7_next 1 = .ok (.iload_n 1, 1) := by decide +kernel
theorem dX7_next_2 : decode cX7_next 2 = .ok (.iload_n 2, 1) := by decide +kernel
theorem dX7_next_3 : decode cX7_next 3 = .ok (.invokevirtual 205, 3) := by decide +kernel
theorem dX7_next_6 : decode cX7_next 6 = .ok (.ifCond .ne 5, 3) := by decide +kernel
theorem dX7_next_9 : decode cX7_next 9 = .ok (.iconst (-1), 1) := by decide +kernel
theorem dX7_next_10 : decode cX7_next 10 = .ok (.ireturn, 1) := by decide +kernel
theorem dX7_next_11 : decode cX7_next 11 = .ok (.iload_n 1, 1) := by decide +kernel
theorem dX7_next_12 : decode cX7_next 12 = .ok (.iload_n 2, 1) := by decide +kernel
theorem dX7_next_13 : decode cX7_next 13 = .ok (.if_icmp .ne 6, 3) := by decide +kernel
theorem dX7_next_16 : decode cX7_next 16 = .ok (.bipush (-2), 2) := by decide +kernel
theorem dX7_next_18 : decode cX7_next 18 = .ok (.ireturn, 1) := by decide +kernel
theorem dX7_next_19 : decode cX7_next 19 = .ok (.aload_n 0, 1) := by decide +kernel
theorem dX7_next_20 : decode cX7_next 20 = .ok (.invokevirtual 294, 3) := by decide +kernel
theorem dX7_next_23 : decode cX7_next 23 = .ok (.aload_n 0, 1) := by decide +kernel
theorem dX7_next_24 : decode cX7_next 24 = .ok (.iload_n 1, 1) := by decide +kernel
theorem dX7_next_25 : decode cX7_next 25 = .ok (.iload_n 2, 1) := by decide +kernel
theorem dX7_next_26 : decode cX7_next 26 = .ok (.invokevirtual 318, 3) := by decide +kernel
theorem dX7_next_29 : decode cX7_next 29 = .ok (.ireturn, 1) := by decide +kernel
theorem dX7_goes_0 : decode cX7_goes 0 = .ok (.aload_n 0, 1) := by decide +kernel
theorem dX7_goes_1 : decode cX7_goes 1 = .ok (.iconst 0, 1) := by decide +kernel
theorem dX7_goes_2 : decode cX7_goes 2 = .ok (.putfield 114, 3) := by decide +kernel
theorem dX7_goes_5 : decode cX7_goes 5 = .ok (.aload_n 0, 1) := by decide +kernel
theorem dX7_goes_6 : decode cX7_goes 6 = .ok (.iconst 0, 1) := by decide +kernel
theorem dX7_goes_7 : decode cX7_goes 7 = .ok (.putfield 117, 3) := by decide +kernel
theorem dX7_goes_10 : decode cX7_goes 10 = .ok (.aload_n 0, 1) := by decide +kernel
theorem dX7_goes_11 : decode cX7_goes 11 = .ok (.iload_n 1, 1) := by decide +kernel
theorem dX7_goes_12 : decode cX7_goes 12 = .ok (.putfield 120, 3) := by decide +kernel
theorem dX7_goes_15 : decode cX7_goes 15 = .ok (.aload_n 0, 1) := by decide +kernel
theorem dX7_goes_16 : decode cX7_goes 16 = .ok (.getfield 120, 3) := by decide +kernel
theorem dX7_goes_19 : decode cX7_goes 19 = .ok (.iload_n 2, 1) := by decide +kernel
theorem dX7_goes_20 : decode cX7_goes 20 = .ok (.if_icmp .eq 69, 3) := by decide +kernel
theorem dX7_goes_23 : decode cX7_goes 23 = .ok (.aload_n 0, 1) := by decide +kernel
theorem dX7_goes_24 : decode cX7_goes 24 = .ok (.getfield 117, 3) := by decide +kernel
theorem dX7_goes_27 : decode cX7_goes 27 = .ok (.bipush 20, 2) := by decide +kernel
theorem dX7_goes_29 : decode cX7_goes 29 = .ok (.if_icmp .ge 60, 3) := by decide +kernel
theorem dX7_goes_32 : decode cX7_goes 32 = .ok (.aload_n 0, 1) := by decide +kernel
theorem dX7_goes_33 : decode cX7_goes 33 = .ok (.aload_n 0, 1) := by decide +kernel
theorem dX7_goes_34 : decode cX7_goes 34 = .ok (.getfield 120, 3) := by decide +kernel
theorem dX7_goes_37 : decode cX7_goes 37 = .ok (.iload_n 2, 1) := by decide +kernel
theorem dX7_goes_38 : decode cX7_goes 38 = .ok (.invokevirtual 318, 3) := by decide +kernel
theorem dX7_goes_41 : decode cX7_goes 41 = .ok (.istore_n 3, 1) := by decide +kernel
theorem dX7_goes_42 : decode cX7_goes 42 = .ok (.iload_n 3, 1) := by decide +kernel
theorem dX7_goes_43 : decode cX7_goes 43 = .ok (.ifCond .ge 5, 3) := by decide +kernel
theorem dX7_goes_46 : decode cX7_goes 46 = .ok (.iconst 0, 1) := by decide +kernel
theorem dX7_goes_47 : decode cX7_goes 47 = .ok (.ireturn, 1) := by decide +kernel
theorem dX7_goes_48 : decode cX7_goes 48 = .ok (.aload_n 0, 1) := by decide +kernel
theorem dX7_goes_49 : decode cX7_goes 49 = .ok (.dup, 1) := by decide +kernel
theorem dX7_goes_50 : decode cX7_goes 50 = .ok (.getfield 114, 3) := by decide +kernel
theorem dX7_goes_53 : decode cX7_goes 53 = .ok (.aload_n 0, 1) := by decide +kernel
theorem dX7_goes_54 : decode cX7_goes 54 = .ok (.getfield 96, 3) := by decide +kernel
theorem dX7_goes_57 : decode cX7_goes 57 = .ok (.bipush 7, 2) := by decide +kernel
theorem dX7_goes_59 : decode cX7_goes 59 = .ok (.aload_n 0, 1) := by decide +kernel
theorem dX7_goes_60 : decode cX7_goes 60 = .ok (.getfield 120, 3) := by decide +kernel
theorem dX7_goes_63 : decode cX7_goes 63 = .ok (.imul, 1) := by decide +kernel
theorem dX7_goes_64 : decode cX7_goes 64 = .ok (.iload_n 3, 1) := by decide +kernel
theorem dX7_goes_65 : decode cX7_goes 65 = .ok (.iadd, 1) := by decide +kernel
theorem dX7_goes_66 : decode cX7_goes 66 = .ok (.iaload, 1) := by decide +kernel
theorem dX7_goes_67 : decode cX7_goes 67 = .ok (.iadd, 1) := by decide +kernel
theorem dX7_goes_68 : decode cX7_goes 68 = .ok (.putfield 114, 3) := by decide +kernel
theorem dX7_goes_71 : decode cX7_goes 71 = .ok (.aload_n 0, 1) := by decide +kernel
theorem dX7_goes_72 : decode cX7_goes 72 = .ok (.dup, 1) := by decide +kernel
theorem dX7_goes_73 : decode cX7_goes 73 = .ok (.getfield 117, 3) := by decide +kernel
theorem dX7_goes_76 : decode cX7_goes 76 = .ok (.iconst 1, 1) := by decide +kernel
theorem dX7_goes_77 : decode cX7_goes 77 = .ok (.iadd, 1) := by decide +kernel
theorem dX7_goes_78 : decode cX7_goes 78 = .ok (.putfield 117, 3) := by decide +kernel
theorem dX7_goes_81 : decode cX7_goes 81 = .ok (.aload_n 0, 1) := by decide +kernel
theorem dX7_goes_82 : decode cX7_goes 82 = .ok (.iload_n 3, 1) := by decide +kernel
theorem dX7_goes_83 : decode cX7_goes 83 = .ok (.putfield 120, 3) := by decide +kernel
theorem dX7_goes_86 : decode cX7_goes 86 = .ok (.goto (-71), 3) := by decide +kernel
theorem dX7_goes_89 : decode cX7_goes 89 = .ok (.aload_n 0, 1) := by decide +kernel
theorem dX7_goes_90 : decode cX7_goes 90 = .ok (.getfield 120, 3) := by decide +kernel
theorem dX7_goes_93 : decode cX7_goes 93 = .ok (.iload_n 2, 1) := by decide +kernel
theorem dX7_goes_94 : decode cX7_goes 94 = .ok (.if_icmp .ne 7, 3) := by decide +kernel
theorem dX7_goes_97 : decode cX7_goes 97 = .ok (.iconst 1, 1) := by decide +kernel
theorem dX7_goes_98 : decode cX7_goes 98 = .ok (.goto 4, 3) := by decide +kernel
theorem dX7_goes_101 : decode cX7_goes 101 = .ok (.iconst 0, 1) := by decide +kernel
theorem dX7_goes_102 : decode cX7_goes 102 = .ok (.ireturn, 1) := by decide +kernel
theorem dX7_gone_0 : decode cX7_gone 0 = .ok (.aload_n 0, 1) := by decide +kernel
theorem dX7_gone_1 : decode cX7_gone 1 = .ok (.iload_n 1, 1) := by decide +kernel
theorem dX7_gone_2 : decode cX7_gone 2 = .ok (.iload_n 2, 1) := by decide +kernel
theorem dX7_gone_3 : decode cX7_gone 3 = .ok (.invokevirtual 205, 3) := by decide +kernel
theorem dX7_gone_6 : decode cX7_gone 6 = .ok (.ifCond .eq 13, 3) := by decide +kernel
theorem dX7_gone_9 : decode cX7_gone 9 = .ok (.aload_n 0, 1) := by decide +kernel
theorem dX7_gone_10 : decode cX7_gone 10 = .ok (.iload_n 3, 1) := by decide +kernel
theorem dX7_gone_11 : decode cX7_gone 11 = .ok (.iconst 0, 1) := by decide +kernel
theorem dX7_gone_12 : decode cX7_gone 12 = .ok (.iconst 1, 1) := by decide +kernel
theorem dX7_gone_13 : decode cX7_gone 13 = .ok (.invokevirtual 197, 3) := by decide +kernel
theorem dX7_gone_16 : decode cX7_gone 16 = .ok (.ifCond .ne 5, 3) := by decide +kernel
theorem dX7_gone_19 : decode cX7_gone 19 = .ok (.iconst (-1), 1) := by decide +kernel
theorem dX7_gone_20 : decode cX7_gone 20 = .ok (.ireturn, 1) := by decide +kernel
theorem dX7_gone_21 : decode cX7_gone 21 = .ok (.iload_n 1, 1) := by decide +kernel
theorem dX7_gone_22 : decode cX7_gone 22 = .ok (.iload_n 2, 1) := by decide +kernel
theorem dX7_gone_23 : decode cX7_gone 23 = .ok (.if_icmp .ne 6, 3) := by decide +kernel
theorem dX7_gone_26 : decode cX7_gone 26 = .ok (.bipush (-2), 2) := by decide +kernel
theorem dX7_gone_28 : decode cX7_gone 28 = .ok (.ireturn, 1) := by decide +kernel
theorem dX7_gone_29 : decode cX7_gone 29 = .ok (.aload_n 0, 1) := by decide +kernel
theorem dX7_gone_30 : decode cX7_gone 30 = .ok (.invokevirtual 294, 3) := by decide +kernel
theorem dX7_gone_33 : decode cX7_gone 33 = .ok (.aload_n 0, 1) := by decide +kernel
theorem dX7_gone_34 : decode cX7_gone 34 = .ok (.iload_n 1, 1) := by decide +kernel
theorem dX7_gone_35 : decode cX7_gone 35 = .ok (.iload_n 2, 1) := by decide +kernel
theorem dX7_gone_36 : decode cX7_gone 36 = .ok (.invokevirtual 321, 3) := by decide +kernel
theorem dX7_gone_39 : decode cX7_gone 39 = .ok (.ifCond .ne 6, 3) := by decide +kernel
theorem dX7_gone_42 : decode cX7_gone 42 = .ok (.bipush (-5), 2) := by decide +kernel
theorem dX7_gone_44 : decode cX7_gone 44 = .ok (.ireturn, 1) := by decide +kernel
theorem dX7_gone_45 : decode cX7_gone 45 = .ok (.iload_n 3, 1) := by decide +kernel
theorem dX7_gone_46 : decode cX7_gone 46 = .ok (.ifCond .ne 10, 3) := by decide +kernel
theorem dX7_gone_49 : decode cX7_gone 49 = .ok (.aload_n 0, 1) := by decide +kernel
theorem dX7_gone_50 : decode cX7_gone 50 = .ok (.getfield 114, 3) := by decide +kernel
theorem dX7_gone_53 : decode cX7_gone 53 = .ok (.goto 7, 3) := by decide +kernel
theorem dX7_gone_56 : decode cX7_gone 56 = .ok (.aload_n 0, 1) := by decide +kernel
theorem dX7_gone_57 : decode cX7_gone 57 = .ok (.getfield 117, 3) := by decide +kernel
theorem dX7_gone_60 : decode cX7_gone 60 = .ok (.ireturn, 1) := by decide +kernel
theorem dX7_lostPairs_0 : decode cX7_lostPairs 0 = .ok (.aload_n 0, 1) := by decide +kernel
theorem dX7_lostPairs_1 : decode cX7_lostPairs 1 = .ok (.invokevirtual 294, 3) := by decide +kernel
theorem dX7_lostPairs_4 : decode cX7_lostPairs 4 = .ok (.iconst 0, 1) := by decide +kernel
theorem dX7_lostPairs_5 : decode cX7_lostPairs 5 = .ok (.istore_n 1, 1) := by decide +kernel
theorem dX7_lostPairs_6 : decode cX7_lostPairs 6 = .ok (.iconst 0, 1) := by decide +kernel
theorem dX7_lostPairs_7 : decode cX7_lostPairs 7 = .ok (.istore_n 2, 1) := by decide +kernel
theorem dX7_lostPairs_8 : decode cX7_lostPairs 8 = .ok (.iload_n 2, 1) := by decide +kernel
theorem dX7_lostPairs_9 : decode cX7_lostPairs 9 = .ok (.aload_n 0, 1) := by decide +kernel
theorem dX7_lostPairs_10 : decode cX7_lostPairs 10 = .ok (.getfield 7, 3) := by decide +kernel
theorem dX7_lostPairs_13 : decode cX7_lostPairs 13 = .ok (.if_icmp .ge 47, 3) := by decide +kernel
theorem dX7_lostPairs_16 : decode cX7_lostPairs 16 = .ok (.iconst 0, 1) := by decide +kernel
theorem dX7_lostPairs_17 : decode cX7_lostPairs 17 = .ok (.istore_n 3, 1) := by decide +kernel
theorem dX7_lostPairs_18 : decode cX7_lostPairs 18 = .ok (.iload_n 3, 1) := by decide +kernel
theorem dX7_lostPairs_19 : decode cX7_lostPairs 19 = .ok (.aload_n 0, 1) := by decide +kernel
theorem dX7_lostPairs_20 : decode cX7_lostPairs 20 = .ok (.getfield 7, 3) := by decide +kernel
theorem dX7_lostPairs_23 : decode cX7_lostPairs 23 = .ok (.if_icmp .ge 31, 3) := by decide +kernel
theorem dX7_lostPairs_26 : decode cX7_lostPairs 26 = .ok (.iload_n 1, 1) := by decide +kernel
theorem dX7_lostPairs_27 : decode cX7_lostPairs 27 = .ok (.iload_n 2, 1) := by decide +kernel
theorem dX7_lostPairs_28 : decode cX7_lostPairs 28 = .ok (.iload_n 3, 1) := by decide +kernel
theorem dX7_lostPairs_29 : decode cX7_lostPairs 29 = .ok (.if_icmp .eq 12, 3) := by decide +kernel
theorem dX7_lostPairs_32 : decode cX7_lostPairs 32 = .ok (.aload_n 0, 1) := by decide +kernel
theorem dX7_lostPairs_33 : decode cX7_lostPairs 33 = .ok (.iload_n 2, 1) := by decide +kernel
theorem dX7_lostPairs_34 : decode cX7_lostPairs 34 = .ok (.iload_n 3, 1) := by decide +kernel
theorem dX7_lostPairs_35 : decode cX7_lostPairs 35 = .ok (.invokevirtual 321, 3) := by decide +kernel
theorem dX7_lostPairs_38 : decode cX7_lostPairs 38 = .ok (.ifCond .eq 7, 3) := by decide +kernel
theorem dX7_lostPairs_41 : decode cX7_lostPairs 41 = .ok (.iconst 0, 1) := by decide +kernel
theorem dX7_lostPairs_42 : decode cX7_lostPairs 42 = .ok (.goto 4, 3) := by decide +kernel
theorem dX7_lostPairs_45 : decode cX7_lostPairs 45 = .ok (.iconst 1, 1) := by decide +kernel
theorem dX7_lostPairs_46 : decode cX7_lostPairs 46 = .ok (.iadd, 1) := by decide +kernel
theorem dX7_lostPairs_47 : decode cX7_lostPairs 47 = .ok (.istore_n 1, 1) := by decide +kernel
theorem dX7_lostPairs_48 : decode cX7_lostPairs 48 = .ok (.iinc 3 1, 3) := by decide +kernel
theorem dX7_lostPairs_51 : decode cX7_lostPairs 51 = .ok (.goto (-33), 3) := by decide +kernel
theorem dX7_lostPairs_54 : decode cX7_lostPairs 54 = .ok (.iinc 2 1, 3) := by decide +kernel
theorem dX7_lostPairs_57 : decode cX7_lostPairs 57 = .ok (.goto (-49), 3) := by decide +kernel
theorem dX7_lostPairs_60 : decode cX7_lostPairs 60 = .ok (.iload_n 1, 1) := by decide +kernel
theorem dX7_lostPairs_61 : decode cX7_lostPairs 61 = .ok (.ireturn, 1) := by decide +kernel
theorem dX7_lostMany_0 : decode cX7_lostMany 0 = .ok (.aload_n 0, 1) := by decide +kernel
theorem dX7_lostMany_1 : decode cX7_lostMany 1 = .ok (.invokevirtual 294, 3) := by decide +kernel
theorem dX7_lostMany_4 : decode cX7_lostMany 4 = .ok (.iconst 0, 1) := by decide +kernel
theorem dX7_lostMany_5 : decode cX7_lostMany 5 = .ok (.istore_n 1, 1) := by decide +kernel
theorem dX7_lostMany_6 : decode cX7_lostMany 6 = .ok (.iconst 0, 1) := by decide +kernel
theorem dX7_lostMany_7 : decode cX7_lostMany 7 = .ok (.istore_n 2, 1) := by decide +kernel
theorem dX7_lostMany_8 : decode cX7_lostMany 8 = .ok (.iload_n 2, 1) := by decide +kernel
theorem dX7_lostMany_9 : decode cX7_lostMany 9 = .ok (.aload_n 0, 1) := by decide +kernel
theorem dX7_lostMany_10 : decode cX7_lostMany 10 = .ok (.getfield 13, 3) := by decide +kernel
theorem dX7_lostMany_13 : decode cX7_lostMany 13 = .ok (.if_icmp .ge 41, 3) := by decide +kernel
theorem dX7_lostMany_16 : decode cX7_lostMany 16 = .ok (.iload_n 1, 1) := by decide +kernel
theorem dX7_lostMany_17 : decode cX7_lostMany 17 = .ok (.aload_n 0, 1) := by decide +kernel
theorem dX7_lostMany_18 : decode cX7_lostMany 18 = .ok (.aload_n 0, 1) := by decide +kernel
theorem dX7_lostMany_19 : decode cX7_lostMany 19 = .ok (.getfield 32, 3) := by decide +kernel
theorem dX7_lostMany_22 : decode cX7_lostMany 22 = .ok (.iload_n 2, 1) := by decide +kernel
theorem dX7_lostMany_23 : decode cX7_lostMany 23 = .ok (.iaload, 1) := by decide +kernel
theorem dX7_lostMany_24 : decode cX7_lostMany 24 = .ok (.aload_n 0, 1) := by decide +kernel
theorem dX7_lostMany_25 : decode cX7_lostMany 25 = .ok (.getfield 35, 3) := by decide +kernel
theorem dX7_lostMany_28 : decode cX7_lostMany 28 = .ok (.iload_n 2, 1) := by decide +kernel
theorem dX7_lostMany_29 : decode cX7_lostMany 29 = .ok (.iaload, 1) := by decide +kernel
theorem dX7_lostMany_30 : decode cX7_lostMany 30 = .ok (.invokevirtual 321, 3) := by decide +kernel
theorem dX7_lostMany_33 : decode cX7_lostMany 33 = .ok (.ifCond .eq 7, 3) := by decide +kernel
theorem dX7_lostMany_36 : decode cX7_lostMany 36 = .ok (.iconst 0, 1) := by decide +kernel
theorem dX7_lostMany_37 : decode cX7_lostMany 37 = .ok (.goto 9, 3) := by decide +kernel
theorem dX7_lostMany_40 : decode cX7_lostMany 40 = .ok (.aload_n 0, 1) := by decide +kernel
theorem dX7_lostMany_41 : decode cX7_lostMany 41 = .ok (.getfield 38, 3) := by decide +kernel
theorem dX7_lostMany_44 : decode cX7_lostMany 44 = .ok (.iload_n 2, 1) := by decide +kernel
theorem dX7_lostMany_45 : decode cX7_lostMany 45 = .ok (.iaload, 1) := by decide +kernel
theorem dX7_lostMany_46 : decode cX7_lostMany 46 = .ok (.iadd, 1) := by decide +kernel
theorem dX7_lostMany_47 : decode cX7_lostMany 47 = .ok (.istore_n 1, 1) := by decide +kernel
theorem dX7_lostMany_48 : decode cX7_lostMany 48 = .ok (.iinc 2 1, 3) := by decide +kernel
theorem dX7_lostMany_51 : decode cX7_lostMany 51 = .ok (.goto (-43), 3) := by decide +kernel
theorem dX7_lostMany_54 : decode cX7_lostMany 54 = .ok (.iload_n 1, 1) := by decide +kernel
theorem dX7_lostMany_55 : decode cX7_lostMany 55 = .ok (.ireturn, 1) := by decide +kernel
theorem dX7_lost_0 : decode cX7_lost 0 = .ok (.iload_n 1, 1) := by decide +kernel
theorem dX7_lost_1 : decode cX7_lost 1 = .ok (.ifCond .ne 10, 3) := by decide +kernel
theorem dX7_lost_4 : decode cX7_lost 4 = .ok (.aload_n 0, 1) := by decide +kernel
theorem dX7_lost_5 : decode cX7_lost 5 = .ok (.invokevirtual 324, 3) := by decide +kernel
theorem dX7_lost_8 : decode cX7_lost 8 = .ok (.goto 16, 3) := by decide +kernel
theorem dX7_lost_11 : decode cX7_lost 11 = .ok (.iload_n 1, 1) := by decide +kernel
theorem dX7_lost_12 : decode cX7_lost 12 = .ok (.iconst 1, 1) := by decide +kernel
theorem dX7_lost_13 : decode cX7_lost 13 = .ok (.if_icmp .ne 10, 3) := by decide +kernel
theorem dX7_lost_16 : decode cX7_lost 16 = .ok (.aload_n 0, 1) := by decide +kernel
theorem dX7_lost_17 : decode cX7_lost 17 = .ok (.invokevirtual 327, 3) := by decide +kernel
theorem dX7_lost_20 : decode cX7_lost 20 = .ok (.goto 4, 3) := by decide +kernel
theorem dX7_lost_23 : decode cX7_lost 23 = .ok (.iconst (-1), 1) := by decide +kernel
theorem dX7_lost_24 : decode cX7_lost 24 = .ok (.ireturn, 1) := by decide +kernel
theorem dX7_longest_0 : decode cX7_longest 0 = .ok (.aload_n 0, 1) := by decide +kernel
theorem dX7_longest_1 : decode cX7_longest 1 = .ok (.iload_n 1, 1) := by decide +kernel
theorem dX7_longest_2 : decode cX7_longest 2 = .ok (.iconst 0, 1) := by decide +kernel
theorem dX7_longest_3 : decode cX7_longest 3 = .ok (.iconst 1, 1) := by decide +kernel
theorem dX7_longest_4 : decode cX7_longest 4 = .ok (.invokevirtual 197, 3) := by decide +kernel
theorem dX7_longest_7 : decode cX7_longest 7 = .ok (.ifCond .ne 5, 3) := by decide +kernel
theorem dX7_longest_10 : decode cX7_longest 10 = .ok (.iconst (-1), 1) := by decide +kernel
theorem dX7_longest_11 : decode cX7_longest 11 = .ok (.ireturn, 1) := by decide +kernel
theorem dX7_longest_12 : decode cX7_longest 12 = .ok (.aload_n 0, 1) := by decide +kernel
theorem dX7_longest_13 : decode cX7_longest 13 = .ok (.invokevirtual 294, 3) := by decide +kernel
theorem dX7_longest_16 : decode cX7_longest 16 = .ok (.iconst 0, 1) := by decide +kernel
theorem dX7_longest_17 : decode cX7_longest 17 = .ok (.istore_n 2, 1) := by decide +kernel
theorem dX7_longest_18 : decode cX7_longest 18 = .ok (.bipush (-5), 2) := by decide +kernel
theorem dX7_longest_20 : decode cX7_longest 20 = .ok (.istore_n 3, 1) := by decide +kernel
theorem dX7_longest_21 : decode cX7_longest 21 = .ok (.iconst 0, 1) := by decide +kernel
theorem dX7_longest_22 : decode cX7_longest 22 = .ok (.istore 4, 2) := by decide +kernel
theorem dX7_longest_24 : decode cX7_longest 24 = .ok (.iload 4, 2) := by decide +kernel
theorem dX7_longest_26 : decode cX7_longest 26 = .ok (.aload_n 0, 1) := by decide +kernel
theorem dX7_longest_27 : decode cX7_longest 27 = .ok (.getfield 7, 3) := by decide +kernel
theorem dX7_longest_30 : decode cX7_longest 30 = .ok (.if_icmp .ge 70, 3) := by decide +kernel
theorem dX7_longest_33 : decode cX7_longest 33 = .ok (.iconst 0, 1) := by decide +kernel
theorem dX7_longest_34 : decode cX7_longest 34 = .ok (.istore 5, 2) := by decide +kernel
theorem dX7_longest_36 : decode cX7_longest 36 = .ok (.iload 5, 2) := by decide +kernel
theorem dX7_longest_38 : decode cX7_longest 38 = .ok (.aload_n 0, 1) := by decide +kernel
theorem dX7_longest_39 : decode cX7_longest 39 = .ok (.getfield 7, 3) := by decide +kernel
theorem dX7_longest_42 : decode cX7_longest 42 = .ok (.if_icmp .ge 52, 3) := by decide +kernel
theorem dX7_longest_45 : decode cX7_longest 45 = .ok (.iload 4, 2) := by decide +kernel
theorem dX7_longest_47 : decode cX7_longest 47 = .ok (.iload 5, 2) := by decide +kernel
theorem dX7_longest_49 : decode cX7_longest 49 = .ok (.if_icmp .eq 39, 3) := by decide +kernel
theorem dX7_longest_52 : decode cX7_longest 52 = .ok (.aload_n 0, 1) := by decide +kernel
theorem dX7_longest_53 : decode cX7_longest 53 = .ok (.iload 4, 2) := by decide +kernel
theorem dX7_longest_55 : decode cX7_longest 55 = .ok (.iload 5, 2) := by decide +kernel
theorem dX7_longest_57 : decode cX7_longest 57 = .ok (.invokevirtual 321, 3) := by decide +kernel
theorem dX7_longest_60 : decode cX7_longest 60 = .ok (.ifCond .eq 28, 3) := by decide +kernel
theorem dX7_longest_63 : decode cX7_longest 63 = .ok (.aload_n 0, 1) := by decide +kernel
theorem dX7_longest_64 : decode cX7_longest 64 = .ok (.getfield 114, 3) := by decide +kernel
theorem dX7_longest_67 : decode cX7_longest 67 = .ok (.iload_n 2, 1) := by decide +kernel
theorem dX7_longest_68 : decode cX7_longest 68 = .ok (.if_icmp .gt 6, 3) := by decide +kernel
theorem dX7_longest_71 : decode cX7_longest 71 = .ok (.goto 17, 3) := by decide +kernel
theorem dX7_longest_74 : decode cX7_longest 74 = .ok (.aload_n 0, 1) := by decide +kernel
theorem dX7_longest_75 : decode cX7_longest 75 = .ok (.getfield 114, 3) := by decide +kernel
theorem dX7_longest_78 : decode cX7_longest 78 = .ok (.istore_n 2, 1) := by decide +kernel
theorem dX7_longest_79 : decode cX7_longest 79 = .ok (.bipush 10, 2) := by decide +kernel
theorem dX7_longest_81 : decode cX7_longest 81 = .ok (.iload 4, 2) := by decide +kernel
theorem dX7_longest_83 : decode cX7_longest 83 = .ok (.imul, 1) := by decide +kernel
theorem dX7_longest_84 : decode cX7_longest 84 = .ok (.iload 5, 2) := by decide +kernel
theorem dX7_longest_86 : decode cX7_longest 86 = .ok (.iadd, 1) := by decide +kernel
theorem dX7_longest_87 : decode cX7_longest 87 = .ok (.istore_n 3, 1) := by decide +kernel
theorem dX7_longest_88 : decode cX7_longest 88 = .ok (.iinc 5 1, 3) := by decide +kernel
theorem dX7_longest_91 : decode cX7_longest 91 = .ok (.goto (-55), 3) := by decide +kernel
theorem dX7_longest_94 : decode cX7_longest 94 = .ok (.iinc 4 1, 3) := by decide +kernel
theorem dX7_longest_97 : decode cX7_longest 97 = .ok (.goto (-73), 3) := by decide +kernel
theorem dX7_longest_100 : decode cX7_longest 100 = .ok (.iload_n 1, 1) := by decide +kernel
theorem dX7_longest_101 : decode cX7_longest 101 = .ok (.ifCond .ne 7, 3) := by decide +kernel
theorem dX7_longest_104 : decode cX7_longest 104 = .ok (.iload_n 2, 1) := by decide +kernel
theorem dX7_longest_105 : decode cX7_longest 105 = .ok (.goto 4, 3) := by decide +kernel
theorem dX7_longest_108 : decode cX7_longest 108 = .ok (.iload_n 3, 1) := by decide +kernel
theorem dX7_longest_109 : decode cX7_longest 109 = .ok (.ireturn, 1) := by decide +kernel
theorem dX7_put_0 : decode cX7_put 0 = .ok (.aload_n 0, 1) := by decide +kernel
theorem dX7_put_1 : decode cX7_put 1 = .ok (.iload_n 1, 1) := by decide +kernel
theorem dX7_put_2 : decode cX7_put 2 = .ok (.iconst 0, 1) := by decide +kernel
theorem dX7_put_3 : decode cX7_put 3 = .ok (.iconst 1, 1) := by decide +kernel
theorem dX7_put_4 : decode cX7_put 4 = .ok (.invokevirtual 197, 3) := by decide +kernel
theorem dX7_put_7 : decode cX7_put 7 = .ok (.ifCond .ne 5, 3) := by decide +kernel
theorem dX7_put_10 : decode cX7_put 10 = .ok (.iconst (-1), 1) := by decide +kernel
theorem dX7_put_11 : decode cX7_put 11 = .ok (.ireturn, 1) := by decide +kernel
theorem dX7_put_12 : decode cX7_put 12 = .ok (.bipush (-5), 2) := by decide +kernel
theorem dX7_put_14 : decode cX7_put 14 = .ok (.istore_n 2, 1) := by decide +kernel
theorem dX7_put_15 : decode cX7_put 15 = .ok (.iconst 0, 1) := by decide +kernel
theorem dX7_put_16 : decode cX7_put 16 = .ok (.istore_n 3, 1) := by decide +kernel
theorem dX7_put_17 : decode cX7_put 17 = .ok (.iconst 0, 1) := by decide +kernel
theorem dX7_put_18 : decode cX7_put 18 = .ok (.istore 4, 2) := by decide +kernel
theorem dX7_put_20 : decode cX7_put 20 = .ok (.iload 4, 2) := by decide +kernel
theorem dX7_put_22 : decode cX7_put 22 = .ok (.aload_n 0, 1) := by decide +kernel
theorem dX7_put_23 : decode cX7_put 23 = .ok (.getfield 7, 3) := by decide +kernel
theorem dX7_put_26 : decode cX7_put 26 = .ok (.if_icmp .ge 134, 3) := by decide +kernel
theorem dX7_put_29 : decode cX7_put 29 = .ok (.iload 4, 2) := by decide +kernel
theorem dX7_put_31 : decode cX7_put 31 = .ok (.iconst 1, 1) := by decide +kernel
theorem dX7_put_32 : decode cX7_put 32 = .ok (.iadd, 1) := by decide +kernel
theorem dX7_put_33 : decode cX7_put 33 = .ok (.istore 5, 2) := by decide +kernel
theorem dX7_put_35 : decode cX7_put 35 = .ok (.iload 5, 2) := by decide +kernel
theorem dX7_put_37 : decode cX7_put 37 = .ok (.aload_n 0, 1) := by decide +kernel
theorem dX7_put_38 : decode cX7_put 38 = .ok (.getfield 7, 3) := by decide +kernel
theorem dX7_put_41 : decode cX7_put 41 = .ok (.if_icmp .ge 113, 3) := by decide +kernel
theorem dX7_put_44 : decode cX7_put 44 = .ok (.aload_n 0, 1) := by decide +kernel
theorem dX7_put_45 : decode cX7_put 45 = .ok (.aload_n 0, 1) := by decide +kernel
theorem dX7_put_46 : decode cX7_put 46 = .ok (.getfield 26, 3) := by decide +kernel
theorem dX7_put_49 : decode cX7_put 49 = .ok (.iload 4, 2) := by decide +kernel
theorem dX7_put_51 : decode cX7_put 51 = .ok (.iaload, 1) := by decide +kernel
theorem dX7_put_52 : decode cX7_put 52 = .ok (.iload 5, 2) := by decide +kernel
theorem dX7_put_54 : decode cX7_put 54 = .ok (.invokevirtual 209, 3) := by decide +kernel
theorem dX7_put_57 : decode cX7_put 57 = .ok (.ifCond .ne 91, 3) := by decide +kernel
theorem dX7_put_60 : decode cX7_put 60 = .ok (.aload_n 0, 1) := by decide +kernel
theorem dX7_put_61 : decode cX7_put 61 = .ok (.aload_n 0, 1) := by decide +kernel
theorem dX7_put_62 : decode cX7_put 62 = .ok (.getfield 26, 3) := by decide +kernel
theorem dX7_put_65 : decode cX7_put 65 = .ok (.iload 4, 2) := by decide +kernel
theorem dX7_put_67 : decode cX7_put 67 = .ok (.iaload, 1) := by decide +kernel
theorem dX7_put_68 : decode cX7_put 68 = .ok (.invokevirtual 212, 3) := by decide +kernel
theorem dX7_put_71 : decode cX7_put 71 = .ok (.aload_n 0, 1) := by decide +kernel
theorem dX7_put_72 : decode cX7_put 72 = .ok (.invokevirtual 216, 3) := by decide +kernel
theorem dX7_put_75 : decode cX7_put 75 = .ok (.if_icmp .ge 73, 3) := by decide +kernel
theorem dX7_put_78 : decode cX7_put 78 = .ok (.aload_n 0, 1) := by decide +kernel
theorem dX7_put_79 : decode cX7_put 79 = .ok (.aload_n 0, 1) := by decide +kernel
theorem dX7_put_80 : decode cX7_put 80 = .ok (.getfield 26, 3) := by decide +kernel
theorem dX7_put_83 : decode cX7_put 83 = .ok (.iload 5, 2) := by decide +kernel
theorem dX7_put_85 : decode cX7_put 85 = .ok (.iaload, 1) := by decide +kernel
theorem dX7_put_86 : decode cX7_put 86 = .ok (.invokevirtual 212, 3) := by decide +kernel
theorem dX7_put_89 : decode cX7_put 89 = .ok (.aload_n 0, 1) := by decide +kernel
theorem dX7_put_90 : decode cX7_put 90 = .ok (.invokevirtual 216, 3) := by decide +kernel
theorem dX7_put_93 : decode cX7_put 93 = .ok (.if_icmp .lt 6, 3) := by decide +kernel
theorem dX7_put_96 : decode cX7_put 96 = .ok (.goto 52, 3) := by decide +kernel
theorem dX7_put_99 : decode cX7_put 99 = .ok (.aload_n 0, 1) := by decide +kernel
theorem dX7_put_100 : decode cX7_put 100 = .ok (.iload 4, 2) := by decide +kernel
theorem dX7_put_102 : decode cX7_put 102 = .ok (.iload 5, 2) := by decide +kernel
theorem dX7_put_104 : decode cX7_put 104 = .ok (.iconst 1, 1) := by decide +kernel
theorem dX7_put_105 : decode cX7_put 105 = .ok (.invokevirtual 220, 3) := by decide +kernel
theorem dX7_put_108 : decode cX7_put 108 = .ok (.aload_n 0, 1) := by decide +kernel
theorem dX7_put_109 : decode cX7_put 109 = .ok (.invokevirtual 327, 3) := by decide +kernel
theorem dX7_put_112 : decode cX7_put 112 = .ok (.istore 6, 2) := by decide +kernel
theorem dX7_put_114 : decode cX7_put 114 = .ok (.aload_n 0, 1) := by decide +kernel
theorem dX7_put_115 : decode cX7_put 115 = .ok (.iload 4, 2) := by decide +kernel
theorem dX7_put_117 : decode cX7_put 117 = .ok (.iload 5, 2) := by decide +kernel
theorem dX7_put_119 : decode cX7_put 119 = .ok (.iconst 0, 1) := by decide +kernel
theorem dX7_put_120 : decode cX7_put 120 = .ok (.invokevirtual 220, 3) := by decide +kernel
theorem dX7_put_123 : decode cX7_put 123 = .ok (.iload_n 2, 1) := by decide +kernel
theorem dX7_put_124 : decode cX7_put 124 = .ok (.ifCond .lt 12, 3) := by decide +kernel
theorem dX7_put_127 : decode cX7_put 127 = .ok (.iload 6, 2) := by decide +kernel
theorem dX7_put_129 : decode cX7_put 129 = .ok (.iload_n 3, 1) := by decide +kernel
theorem dX7_put_130 : decode cX7_put 130 = .ok (.if_icmp .lt 6, 3) := by decide +kernel
theorem dX7_put_133 : decode cX7_put 133 = .ok (.goto 15, 3) := by decide +kernel
theorem dX7_put_136 : decode cX7_put 136 = .ok (.bipush 10, 2) := by decide +kernel
theorem dX7_put_138 : decode cX7_put 138 = .ok (.iload 4, 2) := by decide +kernel
theorem dX7_put_140 : decode cX7_put 140 = .ok (.imul, 1) := by decide +kernel
theorem dX7_put_141 : decode cX7_put 141 = .ok (.iload 5, 2) := by decide +kernel
theorem dX7_put_143 : decode cX7_put 143 = .ok (.iadd, 1) := by decide +kernel
theorem dX7_put_144 : decode cX7_put 144 = .ok (.istore_n 2, 1) := by decide +kernel
theorem dX7_put_145 : decode cX7_put 145 = .ok (.iload 6, 2) := by decide +kernel
theorem dX7_put_147 : decode cX7_put 147 = .ok (.istore_n 3, 1) := by decide +kernel
theorem dX7_put_148 : decode cX7_put 148 = .ok (.iinc 5 1, 3) := by decide +kernel
theorem dX7_put_151 : decode cX7_put 151 = .ok (.goto (-116), 3) := by decide +kernel
theorem dX7_put_154 : decode cX7_put 154 = .ok (.iinc 4 1, 3) := by decide +kernel
theorem dX7_put_157 : decode cX7_put 157 = .ok (.goto (-137), 3) := by decide +kernel
theorem dX7_put_160 : decode cX7_put 160 = .ok (.iload_n 2, 1) := by decide +kernel
theorem dX7_put_161 : decode cX7_put 161 = .ok (.ifCond .lt 7, 3) := by decide +kernel
theorem dX7_put_164 : decode cX7_put 164 = .ok (.iload_n 1, 1) := by decide +kernel
theorem dX7_put_165 : decode cX7_put 165 = .ok (.ifCond .ne 7, 3) := by decide +kernel
theorem dX7_put_168 : decode cX7_put 168 = .ok (.iload_n 2, 1) := by decide +kernel
theorem dX7_put_169 : decode cX7_put 169 = .ok (.goto 4, 3) := by decide +kernel
theorem dX7_put_172 : decode cX7_put 172 = .ok (.iload_n 3, 1) := by decide +kernel
theorem dX7_put_173 : decode cX7_put 173 = .ok (.ireturn, 1) := by decide +kernel
theorem dX7_worst_0 : decode cX7_worst 0 = .ok (.aload_n 0, 1) := by decide +kernel
theorem dX7_worst_1 : decode cX7_worst 1 = .ok (.iload_n 1, 1) := by decide +kernel
theorem dX7_worst_2 : decode cX7_worst 2 = .ok (.iconst 0, 1) := by decide +kernel
theorem dX7_worst_3 : decode cX7_worst 3 = .ok (.iconst 1, 1) := by decide +kernel
theorem dX7_worst_4 : decode cX7_worst 4 = .ok (.invokevirtual 197, 3) := by decide +kernel
theorem dX7_worst_7 : decode cX7_worst 7 = .ok (.ifCond .ne 5, 3) := by decide +kernel
theorem dX7_worst_10 : decode cX7_worst 10 = .ok (.iconst (-1), 1) := by decide +kernel
theorem dX7_worst_11 : decode cX7_worst 11 = .ok (.ireturn, 1) := by decide +kernel
theorem dX7_worst_12 : decode cX7_worst 12 = .ok (.bipush (-5), 2) := by decide +kernel
theorem dX7_worst_14 : decode cX7_worst 14 = .ok (.istore_n 2, 1) := by decide +kernel
theorem dX7_worst_15 : decode cX7_worst 15 = .ok (.iconst 0, 1) := by decide +kernel
theorem dX7_worst_16 : decode cX7_worst 16 = .ok (.istore_n 3, 1) := by decide +kernel
theorem dX7_worst_17 : decode cX7_worst 17 = .ok (.iconst 0, 1) := by decide +kernel
theorem dX7_worst_18 : decode cX7_worst 18 = .ok (.istore 4, 2) := by decide +kernel
theorem dX7_worst_20 : decode cX7_worst 20 = .ok (.iload 4, 2) := by decide +kernel
theorem dX7_worst_22 : decode cX7_worst 22 = .ok (.aload_n 0, 1) := by decide +kernel
theorem dX7_worst_23 : decode cX7_worst 23 = .ok (.getfield 7, 3) := by decide +kernel
theorem dX7_worst_26 : decode cX7_worst 26 = .ok (.if_icmp .ge 98, 3) := by decide +kernel
theorem dX7_worst_29 : decode cX7_worst 29 = .ok (.iload 4, 2) := by decide +kernel
theorem dX7_worst_31 : decode cX7_worst 31 = .ok (.iconst 1, 1) := by decide +kernel
theorem dX7_worst_32 : decode cX7_worst 32 = .ok (.iadd, 1) := by decide +kernel
theorem dX7_worst_33 : decode cX7_worst 33 = .ok (.istore 5, 2) := by decide +kernel
theorem dX7_worst_35 : decode cX7_worst 35 = .ok (.iload 5, 2) := by decide +kernel
theorem dX7_worst_37 : decode cX7_worst 37 = .ok (.aload_n 0, 1) := by decide +kernel
theorem dX7_worst_38 : decode cX7_worst 38 = .ok (.getfield 7, 3) := by decide +kernel
theorem dX7_worst_41 : decode cX7_worst 41 = .ok (.if_icmp .ge 77, 3) := by decide +kernel
theorem dX7_worst_44 : decode cX7_worst 44 = .ok (.aload_n 0, 1) := by decide +kernel
theorem dX7_worst_45 : decode cX7_worst 45 = .ok (.aload_n 0, 1) := by decide +kernel
theorem dX7_worst_46 : decode cX7_worst 46 = .ok (.getfield 26, 3) := by decide +kernel
theorem dX7_worst_49 : decode cX7_worst 49 = .ok (.iload 4, 2) := by decide +kernel
theorem dX7_worst_51 : decode cX7_worst 51 = .ok (.iaload, 1) := by decide +kernel
theorem dX7_worst_52 : decode cX7_worst 52 = .ok (.iload 5, 2) := by decide +kernel
theorem dX7_worst_54 : decode cX7_worst 54 = .ok (.invokevirtual 209, 3) := by decide +kernel
theorem dX7_worst_57 : decode cX7_worst 57 = .ok (.ifCond .ne 6, 3) := by decide +kernel
theorem dX7_worst_60 : decode cX7_worst 60 = .ok (.goto 52, 3) := by decide +kernel
theorem dX7_worst_63 : decode cX7_worst 63 = .ok (.aload_n 0, 1) := by decide +kernel
theorem dX7_worst_64 : decode cX7_worst 64 = .ok (.iload 4, 2) := by decide +kernel
theorem dX7_worst_66 : decode cX7_worst 66 = .ok (.iload 5, 2) := by decide +kernel
theorem dX7_worst_68 : decode cX7_worst 68 = .ok (.iconst 0, 1) := by decide +kernel
theorem dX7_worst_69 : decode cX7_worst 69 = .ok (.invokevirtual 220, 3) := by decide +kernel
theorem dX7_worst_72 : decode cX7_worst 72 = .ok (.aload_n 0, 1) := by decide +kernel
theorem dX7_worst_73 : decode cX7_worst 73 = .ok (.invokevirtual 327, 3) := by decide +kernel
theorem dX7_worst_76 : decode cX7_worst 76 = .ok (.istore 6, 2) := by decide +kernel
theorem dX7_worst_78 : decode cX7_worst 78 = .ok (.aload_n 0, 1) := by decide +kernel
theorem dX7_worst_79 : decode cX7_worst 79 = .ok (.iload 4, 2) := by decide +kernel
theorem dX7_worst_81 : decode cX7_worst 81 = .ok (.iload 5, 2) := by decide +kernel
theorem dX7_worst_83 : decode cX7_worst 83 = .ok (.iconst 1, 1) := by decide +kernel
theorem dX7_worst_84 : decode cX7_worst 84 = .ok (.invokevirtual 220, 3) := by decide +kernel
theorem dX7_worst_87 : decode cX7_worst 87 = .ok (.iload_n 2, 1) := by decide +kernel
theorem dX7_worst_88 : decode cX7_worst 88 = .ok (.ifCond .lt 12, 3) := by decide +kernel
theorem dX7_worst_91 : decode cX7_worst 91 = .ok (.iload 6, 2) := by decide +kernel
theorem dX7_worst_93 : decode cX7_worst 93 = .ok (.iload_n 3, 1) := by decide +kernel
theorem dX7_worst_94 : decode cX7_worst 94 = .ok (.if_icmp .gt 6, 3) := by decide +kernel
theorem dX7_worst_97 : decode cX7_worst 97 = .ok (.goto 15, 3) := by decide +kernel
theorem dX7_worst_100 : decode cX7_worst 100 = .ok (.bipush 10, 2) := by decide +kernel
theorem dX7_worst_102 : decode cX7_worst 102 = .ok (.iload 4, 2) := by decide +kernel
theorem dX7_worst_104 : decode cX7_worst 104 = .ok (.imul, 1) := by decide +kernel
theorem dX7_worst_105 : decode cX7_worst 105 = .ok (.iload 5, 2) := by decide +kernel
theorem dX7_worst_107 : decode cX7_worst 107 = .ok (.iadd, 1) := by decide +kernel
theorem dX7_worst_108 : decode cX7_worst 108 = .ok (.istore_n 2, 1) := by decide +kernel
theorem dX7_worst_109 : decode cX7_worst 109 = .ok (.iload 6, 2) := by decide +kernel
theorem dX7_worst_111 : decode cX7_worst 111 = .ok (.istore_n 3, 1) := by decide +kernel
theorem dX7_worst_112 : decode cX7_worst 112 = .ok (.iinc 5 1, 3) := by decide +kernel
theorem dX7_worst_115 : decode cX7_worst 115 = .ok (.goto (-80), 3) := by decide +kernel
theorem dX7_worst_118 : decode cX7_worst 118 = .ok (.iinc 4 1, 3) := by decide +kernel
theorem dX7_worst_121 : decode cX7_worst 121 = .ok (.goto (-101), 3) := by decide +kernel
theorem dX7_worst_124 : decode cX7_worst 124 = .ok (.iload_n 2, 1) := by decide +kernel
theorem dX7_worst_125 : decode cX7_worst 125 = .ok (.ifCond .lt 7, 3) := by decide +kernel
theorem dX7_worst_128 : decode cX7_worst 128 = .ok (.iload_n 1, 1) := by decide +kernel
theorem dX7_worst_129 : decode cX7_worst 129 = .ok (.ifCond .ne 7, 3) := by decide +kernel
theorem dX7_worst_132 : decode cX7_worst 132 = .ok (.iload_n 2, 1) := by decide +kernel
theorem dX7_worst_133 : decode cX7_worst 133 = .ok (.goto 4, 3) := by decide +kernel
theorem dX7_worst_136 : decode cX7_worst 136 = .ok (.iload_n 3, 1) := by decide +kernel
theorem dX7_worst_137 : decode cX7_worst 137 = .ok (.ireturn, 1) := by decide +kernel
theorem dX7_turned_0 : decode cX7_turned 0 = .ok (.aload_n 0, 1) := by decide +kernel
theorem dX7_turned_1 : decode cX7_turned 1 = .ok (.iload_n 1, 1) := by decide +kernel
theorem dX7_turned_2 : decode cX7_turned 2 = .ok (.iload_n 2, 1) := by decide +kernel
theorem dX7_turned_3 : decode cX7_turned 3 = .ok (.invokevirtual 205, 3) := by decide +kernel
theorem dX7_turned_6 : decode cX7_turned 6 = .ok (.ifCond .ne 5, 3) := by decide +kernel
theorem dX7_turned_9 : decode cX7_turned 9 = .ok (.iconst (-1), 1) := by decide +kernel
theorem dX7_turned_10 : decode cX7_turned 10 = .ok (.ireturn, 1) := by decide +kernel
theorem dX7_turned_11 : decode cX7_turned 11 = .ok (.aload_n 0, 1) := by decide +kernel
theorem dX7_turned_12 : decode cX7_turned 12 = .ok (.aload_n 0, 1) := by decide +kernel
theorem dX7_turned_13 : decode cX7_turned 13 = .ok (.getfield 26, 3) := by decide +kernel
theorem dX7_turned_16 : decode cX7_turned 16 = .ok (.iload_n 1, 1) := by decide +kernel
theorem dX7_turned_17 : decode cX7_turned 17 = .ok (.iaload, 1) := by decide +kernel
theorem dX7_turned_18 : decode cX7_turned 18 = .ok (.iload_n 2, 1) := by decide +kernel
theorem dX7_turned_19 : decode cX7_turned 19 = .ok (.invokevirtual 209, 3) := by decide +kernel
theorem dX7_turned_22 : decode cX7_turned 22 = .ok (.ifCond .ne 6, 3) := by decide +kernel
theorem dX7_turned_25 : decode cX7_turned 25 = .ok (.bipush (-3), 2) := by decide +kernel
theorem dX7_turned_27 : decode cX7_turned 27 = .ok (.ireturn, 1) := by decide +kernel
theorem dX7_turned_28 : decode cX7_turned 28 = .ok (.aload_n 0, 1) := by decide +kernel
theorem dX7_turned_29 : decode cX7_turned 29 = .ok (.iload_n 1, 1) := by decide +kernel
theorem dX7_turned_30 : decode cX7_turned 30 = .ok (.putfield 108, 3) := by decide +kernel
theorem dX7_turned_33 : decode cX7_turned 33 = .ok (.aload_n 0, 1) := by decide +kernel
theorem dX7_turned_34 : decode cX7_turned 34 = .ok (.iload_n 2, 1) := by decide +kernel
theorem dX7_turned_35 : decode cX7_turned 35 = .ok (.putfield 111, 3) := by decide +kernel
theorem dX7_turned_38 : decode cX7_turned 38 = .ok (.aload_n 0, 1) := by decide +kernel
theorem dX7_turned_39 : decode cX7_turned 39 = .ok (.invokevirtual 327, 3) := by decide +kernel
theorem dX7_turned_42 : decode cX7_turned 42 = .ok (.istore_n 3, 1) := by decide +kernel
theorem dX7_turned_43 : decode cX7_turned 43 = .ok (.aload_n 0, 1) := by decide +kernel
theorem dX7_turned_44 : decode cX7_turned 44 = .ok (.iconst (-1), 1) := by decide +kernel
theorem dX7_turned_45 : decode cX7_turned 45 = .ok (.putfield 108, 3) := by decide +kernel
theorem dX7_turned_48 : decode cX7_turned 48 = .ok (.aload_n 0, 1) := by decide +kernel
theorem dX7_turned_49 : decode cX7_turned 49 = .ok (.iconst (-1), 1) := by decide +kernel
theorem dX7_turned_50 : decode cX7_turned 50 = .ok (.putfield 111, 3) := by decide +kernel
theorem dX7_turned_53 : decode cX7_turned 53 = .ok (.iload_n 3, 1) := by decide +kernel
theorem dX7_turned_54 : decode cX7_turned 54 = .ok (.ireturn, 1) := by decide +kernel
theorem dX7_chainOf_0 : decode cX7_chainOf 0 = .ok (.iconst 1, 1) := by decide +kernel
theorem dX7_chainOf_1 : decode cX7_chainOf 1 = .ok (.iload_n 1, 1) := by decide +kernel
theorem dX7_chainOf_2 : decode cX7_chainOf 2 = .ok (.ishl, 1) := by decide +kernel
theorem dX7_chainOf_3 : decode cX7_chainOf 3 = .ok (.istore_n 3, 1) := by decide +kernel
theorem dX7_chainOf_4 : decode cX7_chainOf 4 = .ok (.iconst 1, 1) := by decide +kernel
theorem dX7_chainOf_5 : decode cX7_chainOf 5 = .ok (.istore 4, 2) := by decide +kernel
theorem dX7_chainOf_7 : decode cX7_chainOf 7 = .ok (.iload 4, 2) := by decide +kernel
theorem dX7_chainOf_9 : decode cX7_chainOf 9 = .ok (.bipush 8, 2) := by decide +kernel
theorem dX7_chainOf_11 : decode cX7_chainOf 11 = .ok (.if_icmp .ge 72, 3) := by decide +kernel
theorem dX7_chainOf_14 : decode cX7_chainOf 14 = .ok (.iload_n 3, 1) := by decide +kernel
theorem dX7_chainOf_15 : decode cX7_chainOf 15 = .ok (.istore 5, 2) := by decide +kernel
theorem dX7_chainOf_17 : decode cX7_chainOf 17 = .ok (.iconst 0, 1) := by decide +kernel
theorem dX7_chainOf_18 : decode cX7_chainOf 18 = .ok (.istore 6, 2) := by decide +kernel
theorem dX7_chainOf_20 : decode cX7_chainOf 20 = .ok (.iload 6, 2) := by decide +kernel
theorem dX7_chainOf_22 : decode cX7_chainOf 22 = .ok (.aload_n 0, 1) := by decide +kernel
theorem dX7_chainOf_23 : decode cX7_chainOf 23 = .ok (.getfield 7, 3) := by decide +kernel
theorem dX7_chainOf_26 : decode cX7_chainOf 26 = .ok (.if_icmp .ge 35, 3) := by decide +kernel
theorem dX7_chainOf_29 : decode cX7_chainOf 29 = .ok (.iload 5, 2) := by decide +kernel
theorem dX7_chainOf_31 : decode cX7_chainOf 31 = .ok (.aload_n 0, 1) := by decide +kernel
theorem dX7_chainOf_32 : decode cX7_chainOf 32 = .ok (.iload_n 3, 1) := by decide +kernel
theorem dX7_chainOf_33 : decode cX7_chainOf 33 = .ok (.iload 6, 2) := by decide +kernel
theorem dX7_chainOf_35 : decode cX7_chainOf 35 = .ok (.invokevirtual 209, 3) := by decide +kernel
theorem dX7_chainOf_38 : decode cX7_chainOf 38 = .ok (.ifCond .eq 13, 3) := by decide +kernel
theorem dX7_chainOf_41 : decode cX7_chainOf 41 = .ok (.aload_n 0, 1) := by decide +kernel
theorem dX7_chainOf_42 : decode cX7_chainOf 42 = .ok (.getfield 26, 3) := by decide +kernel
theorem dX7_chainOf_45 : decode cX7_chainOf 45 = .ok (.iload 6, 2) := by decide +kernel
theorem dX7_chainOf_47 : decode cX7_chainOf 47 = .ok (.iaload, 1) := by decide +kernel
theorem dX7_chainOf_48 : decode cX7_chainOf 48 = .ok (.goto 4, 3) := by decide +kernel
theorem dX7_chainOf_51 : decode cX7_chainOf 51 = .ok (.iconst 0, 1) := by decide +kernel
theorem dX7_chainOf_52 : decode cX7_chainOf 52 = .ok (.ior, 1) := by decide +kernel
theorem dX7_chainOf_53 : decode cX7_chainOf 53 = .ok (.istore 5, 2) := by decide +kernel
theorem dX7_chainOf_55 : decode cX7_chainOf 55 = .ok (.iinc 6 1, 3) := by decide +kernel
theorem dX7_chainOf_58 : decode cX7_chainOf 58 = .ok (.goto (-38), 3) := by decide +kernel
theorem dX7_chainOf_61 : decode cX7_chainOf 61 = .ok (.aload_n 0, 1) := by decide +kernel
theorem dX7_chainOf_62 : decode cX7_chainOf 62 = .ok (.iload 5, 2) := by decide +kernel
theorem dX7_chainOf_64 : decode cX7_chainOf 64 = .ok (.iload_n 2, 1) := by decide +kernel
theorem dX7_chainOf_65 : decode cX7_chainOf 65 = .ok (.invokevirtual 209, 3) := by decide +kernel
theorem dX7_chainOf_68 : decode cX7_chainOf 68 = .ok (.ifCond .eq 6, 3) := by decide +kernel
theorem dX7_chainOf_71 : decode cX7_chainOf 71 = .ok (.iload 4, 2) := by decide +kernel
theorem dX7_chainOf_73 : decode cX7_chainOf 73 = .ok (.ireturn, 1) := by decide +kernel
theorem dX7_chainOf_74 : decode cX7_chainOf 74 = .ok (.iload 5, 2) := by decide +kernel
theorem dX7_chainOf_76 : decode cX7_chainOf 76 = .ok (.istore_n 3, 1) := by decide +kernel
theorem dX7_chainOf_77 : decode cX7_chainOf 77 = .ok (.iinc 4 1, 3) := by decide +kernel
theorem dX7_chainOf_80 : decode cX7_chainOf 80 = .ok (.goto (-73), 3) := by decide +kernel
theorem dX7_chainOf_83 : decode cX7_chainOf 83 = .ok (.bipush (-5), 2) := by decide +kernel
theorem dX7_chainOf_85 : decode cX7_chainOf 85 = .ok (.ireturn, 1) := by decide +kernel
theorem dX7_chain_0 : decode cX7_chain 0 = .ok (.aload_n 0, 1) := by decide +kernel
theorem dX7_chain_1 : decode cX7_chain 1 = .ok (.iload_n 1, 1) := by decide +kernel
theorem dX7_chain_2 : decode cX7_chain 2 = .ok (.iload_n 2, 1) := by decide +kernel
theorem dX7_chain_3 : decode cX7_chain 3 = .ok (.invokevirtual 205, 3) := by decide +kernel
theorem dX7_chain_6 : decode cX7_chain 6 = .ok (.ifCond .ne 5, 3) := by decide +kernel
theorem dX7_chain_9 : decode cX7_chain 9 = .ok (.iconst (-1), 1) := by decide +kernel
theorem dX7_chain_10 : decode cX7_chain 10 = .ok (.ireturn, 1) := by decide +kernel
theorem dX7_chain_11 : decode cX7_chain 11 = .ok (.iload_n 1, 1) := by decide +kernel
theorem dX7_chain_12 : decode cX7_chain 12 = .ok (.iload_n 2, 1) := by decide +kernel
theorem dX7_chain_13 : decode cX7_chain 13 = .ok (.if_icmp .ne 8, 3) := by decide +kernel
theorem dX7_chain_16 : decode cX7_chain 16 = .ok (.bipush (-2), 2) := by decide +kernel
theorem dX7_chain_18 : decode cX7_chain 18 = .ok (.goto 9, 3) := by decide +kernel
theorem dX7_chain_21 : decode cX7_chain 21 = .ok (.aload_n 0, 1) := by decide +kernel
theorem dX7_chain_22 : decode cX7_chain 22 = .ok (.iload_n 1, 1) := by decide +kernel
theorem dX7_chain_23 : decode cX7_chain 23 = .ok (.iload_n 2, 1) := by decide +kernel
theorem dX7_chain_24 : decode cX7_chain 24 = .ok (.invokevirtual 330, 3) := by decide +kernel
theorem dX7_chain_27 : decode cX7_chain 27 = .ok (.ireturn, 1) := by decide +kernel
theorem dX7_allIn_0 : decode cX7_allIn 0 = .ok (.aload_n 0, 1) := by decide +kernel
theorem dX7_allIn_1 : decode cX7_allIn 1 = .ok (.iload_n 1, 1) := by decide +kernel
theorem dX7_allIn_2 : decode cX7_allIn 2 = .ok (.iconst 1, 1) := by decide +kernel
theorem dX7_allIn_3 : decode cX7_allIn 3 = .ok (.bipush 6, 2) := by decide +kernel
theorem dX7_allIn_5 : decode cX7_allIn 5 = .ok (.invokevirtual 197, 3) := by decide +kernel
theorem dX7_allIn_8 : decode cX7_allIn 8 = .ok (.ifCond .ne 6, 3) := by decide +kernel
theorem dX7_allIn_11 : decode cX7_allIn 11 = .ok (.bipush (-2), 2) := by decide +kernel
theorem dX7_allIn_13 : decode cX7_allIn 13 = .ok (.ireturn, 1) := by decide +kernel
theorem dX7_allIn_14 : decode cX7_allIn 14 = .ok (.iconst 0, 1) := by decide +kernel
theorem dX7_allIn_15 : decode cX7_allIn 15 = .ok (.istore_n 2, 1) := by decide +kernel
theorem dX7_allIn_16 : decode cX7_allIn 16 = .ok (.iload_n 2, 1) := by decide +kernel
theorem dX7_allIn_17 : decode cX7_allIn 17 = .ok (.aload_n 0, 1) := by decide +kernel
theorem dX7_allIn_18 : decode cX7_allIn 18 = .ok (.getfield 7, 3) := by decide +kernel
theorem dX7_allIn_21 : decode cX7_allIn 21 = .ok (.if_icmp .ge 47, 3) := by decide +kernel
theorem dX7_allIn_24 : decode cX7_allIn 24 = .ok (.iconst 0, 1) := by decide +kernel
theorem dX7_allIn_25 : decode cX7_allIn 25 = .ok (.istore_n 3, 1) := by decide +kernel
theorem dX7_allIn_26 : decode cX7_allIn 26 = .ok (.iload_n 3, 1) := by decide +kernel
theorem dX7_allIn_27 : decode cX7_allIn 27 = .ok (.aload_n 0, 1) := by decide +kernel
theorem dX7_allIn_28 : decode cX7_allIn 28 = .ok (.getfield 7, 3) := by decide +kernel
theorem dX7_allIn_31 : decode cX7_allIn 31 = .ok (.if_icmp .ge 31, 3) := by decide +kernel
theorem dX7_allIn_34 : decode cX7_allIn 34 = .ok (.iload_n 2, 1) := by decide +kernel
theorem dX7_allIn_35 : decode cX7_allIn 35 = .ok (.iload_n 3, 1) := by decide +kernel
theorem dX7_allIn_36 : decode cX7_allIn 36 = .ok (.if_icmp .eq 20, 3) := by decide +kernel
theorem dX7_allIn_39 : decode cX7_allIn 39 = .ok (.aload_n 0, 1) := by decide +kernel
theorem dX7_allIn_40 : decode cX7_allIn 40 = .ok (.aload_n 0, 1) := by decide +kernel
theorem dX7_allIn_41 : decode cX7_allIn 41 = .ok (.iload_n 2, 1) := by decide +kernel
theorem dX7_allIn_42 : decode cX7_allIn 42 = .ok (.iload_n 3, 1) := by decide +kernel
theorem dX7_allIn_43 : decode cX7_allIn 43 = .ok (.invokevirtual 330, 3) := by decide +kernel
theorem dX7_allIn_46 : decode cX7_allIn 46 = .ok (.iconst 1, 1) := by decide +kernel
theorem dX7_allIn_47 : decode cX7_allIn 47 = .ok (.iload_n 1, 1) := by decide +kernel
theorem dX7_allIn_48 : decode cX7_allIn 48 = .ok (.invokevirtual 197, 3) := by decide +kernel
theorem dX7_allIn_51 : decode cX7_allIn 51 = .ok (.ifCond .ne 5, 3) := by decide +kernel
theorem dX7_allIn_54 : decode cX7_allIn 54 = .ok (.iconst 0, 1) := by decide +kernel
theorem dX7_allIn_55 : decode cX7_allIn 55 = .ok (.ireturn, 1) := by decide +kernel
theorem dX7_allIn_56 : decode cX7_allIn 56 = .ok (.iinc 3 1, 3) := by decide +kernel
theorem dX7_allIn_59 : decode cX7_allIn 59 = .ok (.goto (-33), 3) := by decide +kernel
theorem dX7_allIn_62 : decode cX7_allIn 62 = .ok (.iinc 2 1, 3) := by decide +kernel
theorem dX7_allIn_65 : decode cX7_allIn 65 = .ok (.goto (-49), 3) := by decide +kernel
theorem dX7_allIn_68 : decode cX7_allIn 68 = .ok (.iconst 1, 1) := by decide +kernel
theorem dX7_allIn_69 : decode cX7_allIn 69 = .ok (.ireturn, 1) := by decide +kernel
theorem dX7_capitals_0 : decode cX7_capitals 0 = .ok (.iconst 0, 1) := by decide +kernel
theorem dX7_capitals_1 : decode cX7_capitals 1 = .ok (.istore_n 1, 1) := by decide +kernel
theorem dX7_capitals_2 : decode cX7_capitals 2 = .ok (.iconst 0, 1) := by decide +kernel
theorem dX7_capitals_3 : decode cX7_capitals 3 = .ok (.istore_n 2, 1) := by decide +kernel
theorem dX7_capitals_4 : decode cX7_capitals 4 = .ok (.iload_n 2, 1) := by decide +kernel
theorem dX7_capitals_5 : decode cX7_capitals 5 = .ok (.aload_n 0, 1) := by decide +kernel
theorem dX7_capitals_6 : decode cX7_capitals 6 = .ok (.getfield 7, 3) := by decide +kernel
theorem dX7_capitals_9 : decode cX7_capitals 9 = .ok (.if_icmp .ge 38, 3) := by decide +kernel
theorem dX7_capitals_12 : decode cX7_capitals 12 = .ok (.aload_n 0, 1) := by decide +kernel
theorem dX7_capitals_13 : decode cX7_capitals 13 = .ok (.aload_n 0, 1) := by decide +kernel
theorem dX7_capitals_14 : decode cX7_capitals 14 = .ok (.getfield 26, 3) := by decide +kernel
theorem dX7_capitals_17 : decode cX7_capitals 17 = .ok (.iload_n 2, 1) := by decide +kernel
theorem dX7_capitals_18 : decode cX7_capitals 18 = .ok (.iaload, 1) := by decide +kernel
theorem dX7_capitals_19 : decode cX7_capitals 19 = .ok (.invokevirtual 212, 3) := by decide +kernel
theorem dX7_capitals_22 : decode cX7_capitals 22 = .ok (.iload_n 1, 1) := by decide +kernel
theorem dX7_capitals_23 : decode cX7_capitals 23 = .ok (.if_icmp .le 16, 3) := by decide +kernel
theorem dX7_capitals_26 : decode cX7_capitals 26 = .ok (.aload_n 0, 1) := by decide +kernel
theorem dX7_capitals_27 : decode cX7_capitals 27 = .ok (.aload_n 0, 1) := by decide +kernel
theorem dX7_capitals_28 : decode cX7_capitals 28 = .ok (.getfield 26, 3) := by decide +kernel
theorem dX7_capitals_31 : decode cX7_capitals 31 = .ok (.iload_n 2, 1) := by decide +kernel
theorem dX7_capitals_32 : decode cX7_capitals 32 = .ok (.iaload, 1) := by decide +kernel
theorem dX7_capitals_33 : decode cX7_capitals 33 = .ok (.invokevirtual 212, 3) := by decide +kernel
theorem dX7_capitals_36 : decode cX7_capitals 36 = .ok (.goto 4, 3) := by decide +kernel
theorem dX7_capitals_39 : decode cX7_capitals 39 = .ok (.iload_n 1, 1) := by decide +kernel
theorem dX7_capitals_40 : decode cX7_capitals 40 = .ok (.istore_n 1, 1) := by decide +kernel
theorem dX7_capitals_41 : decode cX7_capitals 41 = .ok (.iinc 2 1, 3) := by decide +kernel
theorem dX7_capitals_44 : decode cX7_capitals 44 = .ok (.goto (-40), 3) := by decide +kernel
theorem dX7_capitals_47 : decode cX7_capitals 47 = .ok (.iconst 0, 1) := by decide +kernel
theorem dX7_capitals_48 : decode cX7_capitals 48 = .ok (.istore_n 2, 1) := by decide +kernel
theorem dX7_capitals_49 : decode cX7_capitals 49 = .ok (.iconst 0, 1) := by decide +kernel
theorem dX7_capitals_50 : decode cX7_capitals 50 = .ok (.istore_n 3, 1) := by decide +kernel
theorem dX7_capitals_51 : decode cX7_capitals 51 = .ok (.iload_n 3, 1) := by decide +kernel
theorem dX7_capitals_52 : decode cX7_capitals 52 = .ok (.aload_n 0, 1) := by decide +kernel
theorem dX7_capitals_53 : decode cX7_capitals 53 = .ok (.getfield 7, 3) := by decide +kernel
theorem dX7_capitals_56 : decode cX7_capitals 56 = .ok (.if_icmp .ge 33, 3) := by decide +kernel
theorem dX7_capitals_59 : decode cX7_capitals 59 = .ok (.iload_n 2, 1) := by decide +kernel
theorem dX7_capitals_60 : decode cX7_capitals 60 = .ok (.aload_n 0, 1) := by decide +kernel
theorem dX7_capitals_61 : decode cX7_capitals 61 = .ok (.aload_n 0, 1) := by decide +kernel
theorem dX7_capitals_62 : decode cX7_capitals 62 = .ok (.getfield 26, 3) := by decide +kernel
theorem dX7_capitals_65 : decode cX7_capitals 65 = .ok (.iload_n 3, 1) := by decide +kernel
theorem dX7_capitals_66 : decode cX7_capitals 66 = .ok (.iaload, 1) := by decide +kernel
theorem dX7_capitals_67 : decode cX7_capitals 67 = .ok (.invokevirtual 212, 3) := by decide +kernel
theorem dX7_capitals_70 : decode cX7_capitals 70 = .ok (.iload_n 1, 1) := by decide +kernel
theorem dX7_capitals_71 : decode cX7_capitals 71 = .ok (.if_icmp .ne 9, 3) := by decide +kernel
theorem dX7_capitals_74 : decode cX7_capitals 74 = .ok (.iconst 1, 1) := by decide +kernel
theorem dX7_capitals_75 : decode cX7_capitals 75 = .ok (.iload_n 3, 1) := by decide +kernel
theorem dX7_capitals_76 : decode cX7_capitals 76 = .ok (.ishl, 1) := by decide +kernel
theorem dX7_capitals_77 : decode cX7_capitals 77 = .ok (.goto 4, 3) := by decide +kernel
theorem dX7_capitals_80 : decode cX7_capitals 80 = .ok (.iconst 0, 1) := by decide +kernel
theorem dX7_capitals_81 : decode cX7_capitals 81 = .ok (.ior, 1) := by decide +kernel
theorem dX7_capitals_82 : decode cX7_capitals 82 = .ok (.istore_n 2, 1) := by decide +kernel
theorem dX7_capitals_83 : decode cX7_capitals 83 = .ok (.iinc 3 1, 3) := by decide +kernel
theorem dX7_capitals_86 : decode cX7_capitals 86 = .ok (.goto (-35), 3) := by decide +kernel
theorem dX7_capitals_89 : decode cX7_capitals 89 = .ok (.iload_n 2, 1) := by decide +kernel
theorem dX7_capitals_90 : decode cX7_capitals 90 = .ok (.ireturn, 1) := by decide +kernel
theorem dX7_allWays_0 : decode cX7_allWays 0 = .ok (.aload_n 0, 1) := by decide +kernel
theorem dX7_allWays_1 : decode cX7_allWays 1 = .ok (.invokevirtual 294, 3) := by decide +kernel
theorem dX7_allWays_4 : decode cX7_allWays 4 = .ok (.iconst 0, 1) := by decide +kernel
theorem dX7_allWays_5 : decode cX7_allWays 5 = .ok (.istore_n 1, 1) := by decide +kernel
theorem dX7_allWays_6 : decode cX7_allWays 6 = .ok (.iconst 0, 1) := by decide +kernel
theorem dX7_allWays_7 : decode cX7_allWays 7 = .ok (.istore_n 2, 1) := by decide +kernel
theorem dX7_allWays_8 : decode cX7_allWays 8 = .ok (.iload_n 2, 1) := by decide +kernel
theorem dX7_allWays_9 : decode cX7_allWays 9 = .ok (.aload_n 0, 1) := by decide +kernel
theorem dX7_allWays_10 : decode cX7_allWays 10 = .ok (.getfield 7, 3) := by decide +kernel
theorem dX7_allWays_13 : decode cX7_allWays 13 = .ok (.if_icmp .ge 68, 3) := by decide +kernel
theorem dX7_allWays_16 : decode cX7_allWays 16 = .ok (.iconst 0, 1) := by decide +kernel
theorem dX7_allWays_17 : decode cX7_allWays 17 = .ok (.istore_n 3, 1) := by decide +kernel
theorem dX7_allWays_18 : decode cX7_allWays 18 = .ok (.iload_n 3, 1) := by decide +kernel
theorem dX7_allWays_19 : decode cX7_allWays 19 = .ok (.aload_n 0, 1) := by decide +kernel
theorem dX7_allWays_20 : decode cX7_allWays 20 = .ok (.getfield 7, 3) := by decide +kernel
theorem dX7_allWays_23 : decode cX7_allWays 23 = .ok (.if_icmp .ge 52, 3) := by decide +kernel
theorem dX7_allWays_26 : decode cX7_allWays 26 = .ok (.iload_n 1, 1) := by decide +kernel
theorem dX7_allWays_27 : decode cX7_allWays 27 = .ok (.iload_n 2, 1) := by decide +kernel
theorem dX7_allWays_28 : decode cX7_allWays 28 = .ok (.iload_n 3, 1) := by decide +kernel
theorem dX7_allWays_29 : decode cX7_allWays 29 = .ok (.if_icmp .ne 7, 3) := by decide +kernel
theorem dX7_allWays_32 : decode cX7_allWays 32 = .ok (.iconst 0, 1) := by decide +kernel
theorem dX7_allWays_33 : decode cX7_allWays 33 = .ok (.goto 34, 3) := by decide +kernel
theorem dX7_allWays_36 : decode cX7_allWays 36 = .ok (.aload_n 0, 1) := by decide +kernel
theorem dX7_allWays_37 : decode cX7_allWays 37 = .ok (.getfield 99, 3) := by decide +kernel
theorem dX7_allWays_40 : decode cX7_allWays 40 = .ok (.bipush 7, 2) := by decide +kernel
theorem dX7_allWays_42 : decode cX7_allWays 42 = .ok (.iload_n 2, 1) := by decide +kernel
theorem dX7_allWays_43 : decode cX7_allWays 43 = .ok (.imul, 1) := by decide +kernel
theorem dX7_allWays_44 : decode cX7_allWays 44 = .ok (.iload_n 3, 1) := by decide +kernel
theorem dX7_allWays_45 : decode cX7_allWays 45 = .ok (.iadd, 1) := by decide +kernel
theorem dX7_allWays_46 : decode cX7_allWays 46 = .ok (.iaload, 1) := by decide +kernel
theorem dX7_allWays_47 : decode cX7_allWays 47 = .ok (.ifCond .ge 9, 3) := by decide +kernel
theorem dX7_allWays_50 : decode cX7_allWays 50 = .ok (.sipush 999, 3) := by decide +kernel
theorem dX7_allWays_53 : decode cX7_allWays 53 = .ok (.goto 14, 3) := by decide +kernel
theorem dX7_allWays_56 : decode cX7_allWays 56 = .ok (.aload_n 0, 1) := by decide +kernel
theorem dX7_allWays_57 : decode cX7_allWays 57 = .ok (.getfield 99, 3) := by decide +kernel
theorem dX7_allWays_60 : decode cX7_allWays 60 = .ok (.bipush 7, 2) := by decide +kernel
theorem dX7_allWays_62 : decode cX7_allWays 62 = .ok (.iload_n 2, 1) := by decide +kernel
theorem dX7_allWays_63 : decode cX7_allWays 63 = .ok (.imul, 1) := by decide +kernel
theorem dX7_allWays_64 : decode cX7_allWays 64 = .ok (.iload_n 3, 1) := by decide +kernel
theorem dX7_allWays_65 : decode cX7_allWays 65 = .ok (.iadd, 1) := by decide +kernel
theorem dX7_allWays_66 : decode cX7_allWays 66 = .ok (.iaload, 1) := by decide +kernel
theorem dX7_allWays_67 : decode cX7_allWays 67 = .ok (.iadd, 1) := by decide +kernel
theorem dX7_allWays_68 : decode cX7_allWays 68 = .ok (.istore_n 1, 1) := by decide +kernel
theorem dX7_allWays_69 : decode cX7_allWays 69 = .ok (.iinc 3 1, 3) := by decide +kernel
theorem dX7_allWays_72 : decode cX7_allWays 72 = .ok (.goto (-54), 3) := by decide +kernel
theorem dX7_allWays_75 : decode cX7_allWays 75 = .ok (.iinc 2 1, 3) := by decide +kernel
theorem dX7_allWays_78 : decode cX7_allWays 78 = .ok (.goto (-70), 3) := by decide +kernel
theorem dX7_allWays_81 : decode cX7_allWays 81 = .ok (.iload_n 1, 1) := by decide +kernel
theorem dX7_allWays_82 : decode cX7_allWays 82 = .ok (.ireturn, 1) := by decide +kernel
theorem dX7_newRoad_0 : decode cX7_newRoad 0 = .ok (.aload_n 0, 1) := by decide +kernel
theorem dX7_newRoad_1 : decode cX7_newRoad 1 = .ok (.iload_n 2, 1) := by decide +kernel
theorem dX7_newRoad_2 : decode cX7_newRoad 2 = .ok (.iconst 0, 1) := by decide +kernel
theorem dX7_newRoad_3 : decode cX7_newRoad 3 = .ok (.iconst 1, 1) := by decide +kernel
theorem dX7_newRoad_4 : decode cX7_newRoad 4 = .ok (.invokevirtual 197, 3) := by decide +kernel
theorem dX7_newRoad_7 : decode cX7_newRoad 7 = .ok (.ifCond .ne 5, 3) := by decide +kernel
theorem dX7_newRoad_10 : decode cX7_newRoad 10 = .ok (.iconst (-1), 1) := by decide +kernel
theorem dX7_newRoad_11 : decode cX7_newRoad 11 = .ok (.ireturn, 1) := by decide +kernel
theorem dX7_newRoad_12 : decode cX7_newRoad 12 = .ok (.aload_n 0, 1) := by decide +kernel
theorem dX7_newRoad_13 : decode cX7_newRoad 13 = .ok (.iload_n 1, 1) := by decide +kernel
theorem dX7_newRoad_14 : decode cX7_newRoad 14 = .ok (.iconst 1, 1) := by decide +kernel
theorem dX7_newRoad_15 : decode cX7_newRoad 15 = .ok (.bipush 99, 2) := by decide +kernel
theorem dX7_newRoad_17 : decode cX7_newRoad 17 = .ok (.invokevirtual 197, 3) := by decide +kernel
theorem dX7_newRoad_20 : decode cX7_newRoad 20 = .ok (.ifCond .ne 6, 3) := by decide +kernel
theorem dX7_newRoad_23 : decode cX7_newRoad 23 = .ok (.bipush (-2), 2) := by decide +kernel
theorem dX7_newRoad_25 : decode cX7_newRoad 25 = .ok (.ireturn, 1) := by decide +kernel
theorem dX7_newRoad_26 : decode cX7_newRoad 26 = .ok (.aload_n 0, 1) := by decide +kernel
theorem dX7_newRoad_27 : decode cX7_newRoad 27 = .ok (.invokevirtual 333, 3) := by decide +kernel
theorem dX7_newRoad_30 : decode cX7_newRoad 30 = .ok (.istore_n 3, 1) := by decide +kernel
theorem dX7_newRoad_31 : decode cX7_newRoad 31 = .ok (.bipush (-5), 2) := by decide +kernel
theorem dX7_newRoad_33 : decode cX7_newRoad 33 = .ok (.istore 4, 2) := by decide +kernel
theorem dX7_newRoad_35 : decode cX7_newRoad 35 = .ok (.iconst 0, 1) := by decide +kernel
theorem dX7_newRoad_36 : decode cX7_newRoad 36 = .ok (.istore 5, 2) := by decide +kernel
theorem dX7_newRoad_38 : decode cX7_newRoad 38 = .ok (.iconst 0, 1) := by decide +kernel
theorem dX7_newRoad_39 : decode cX7_newRoad 39 = .ok (.istore 6, 2) := by decide +kernel
theorem dX7_newRoad_41 : decode cX7_newRoad 41 = .ok (.iload 6, 2) := by decide +kernel
theorem dX7_newRoad_43 : decode cX7_newRoad 43 = .ok (.aload_n 0, 1) := by decide +kernel
theorem dX7_newRoad_44 : decode cX7_newRoad 44 = .ok (.getfield 7, 3) := by decide +kernel
theorem dX7_newRoad_47 : decode cX7_newRoad 47 = .ok (.if_icmp .ge 140, 3) := by decide +kernel
theorem dX7_newRoad_50 : decode cX7_newRoad 50 = .ok (.iload 6, 2) := by decide +kernel
theorem dX7_newRoad_52 : decode cX7_newRoad 52 = .ok (.iconst 1, 1) := by decide +kernel
theorem dX7_newRoad_53 : decode cX7_newRoad 53 = .ok (.iadd, 1) := by decide +kernel
theorem dX7_newRoad_54 : decode cX7_newRoad 54 = .ok (.istore 7, 2) := by decide +kernel
theorem dX7_newRoad_56 : decode cX7_newRoad 56 = .ok (.iload 7, 2) := by decide +kernel
theorem dX7_newRoad_58 : decode cX7_newRoad 58 = .ok (.aload_n 0, 1) := by decide +kernel
theorem dX7_newRoad_59 : decode cX7_newRoad 59 = .ok (.getfield 7, 3) := by decide +kernel
theorem dX7_newRoad_62 : decode cX7_newRoad 62 = .ok (.if_icmp .ge 119, 3) := by decide +kernel
theorem dX7_newRoad_65 : decode cX7_newRoad 65 = .ok (.aload_n 0, 1) := by decide +kernel
theorem dX7_newRoad_66 : decode cX7_newRoad 66 = .ok (.getfield 29, 3) := by decide +kernel
theorem dX7_newRoad_69 : decode cX7_newRoad 69 = .ok (.bipush 7, 2) := by decide +kernel
theorem dX7_newRoad_71 : decode cX7_newRoad 71 = .ok (.iload 6, 2) := by decide +kernel
theorem dX7_newRoad_73 : decode cX7_newRoad 73 = .ok (.imul, 1) := by decide +kernel
theorem dX7_newRoad_74 : decode cX7_newRoad 74 = .ok (.iload 7, 2) := by decide +kernel
theorem dX7_newRoad_76 : decode cX7_newRoad 76 = .ok (.iadd, 1) := by decide +kernel
theorem dX7_newRoad_77 : decode cX7_newRoad 77 = .ok (.iaload, 1) := by decide +kernel
theorem dX7_newRoad_78 : decode cX7_newRoad 78 = .ok (.ifCond .le 6, 3) := by decide +kernel
theorem dX7_newRoad_81 : decode cX7_newRoad 81 = .ok (.goto 94, 3) := by decide +kernel
theorem dX7_newRoad_84 : decode cX7_newRoad 84 = .ok (.aload_n 0, 1) := by decide +kernel
theorem dX7_newRoad_85 : decode cX7_newRoad 85 = .ok (.getfield 29, 3) := by decide +kernel
theorem dX7_newRoad_88 : decode cX7_newRoad 88 = .ok (.bipush 7, 2) := by decide +kernel
theorem dX7_newRoad_90 : decode cX7_newRoad 90 = .ok (.iload 6, 2) := by decide +kernel
theorem dX7_newRoad_92 : decode cX7_newRoad 92 = .ok (.imul, 1) := by decide +kernel
theorem dX7_newRoad_93 : decode cX7_newRoad 93 = .ok (.iload 7, 2) := by decide +kernel
theorem dX7_newRoad_95 : decode cX7_newRoad 95 = .ok (.iadd, 1) := by decide +kernel
theorem dX7_newRoad_96 : decode cX7_newRoad 96 = .ok (.iload_n 1, 1) := by decide +kernel
theorem dX7_newRoad_97 : decode cX7_newRoad 97 = .ok (.iastore, 1) := by decide +kernel
theorem dX7_newRoad_98 : decode cX7_newRoad 98 = .ok (.aload_n 0, 1) := by decide +kernel
theorem dX7_newRoad_99 : decode cX7_newRoad 99 = .ok (.getfield 29, 3) := by decide +kernel
theorem dX7_newRoad_102 : decode cX7_newRoad 102 = .ok (.bipush 7, 2) := by decide +kernel
theorem dX7_newRoad_104 : decode cX7_newRoad 104 = .ok (.iload 7, 2) := by decide +kernel
theorem dX7_newRoad_106 : decode cX7_newRoad 106 = .ok (.imul, 1) := by decide +kernel
theorem dX7_newRoad_107 : decode cX7_newRoad 107 = .ok (.iload 6, 2) := by decide +kernel
theorem dX7_newRoad_109 : decode cX7_newRoad 109 = .ok (.iadd, 1) := by decide +kernel
theorem dX7_newRoad_110 : decode cX7_newRoad 110 = .ok (.iload_n 1, 1) := by decide +kernel
theorem dX7_newRoad_111 : decode cX7_newRoad 111 = .ok (.iastore, 1) := by decide +kernel
theorem dX7_newRoad_112 : decode cX7_newRoad 112 = .ok (.aload_n 0, 1) := by decide +kernel
theorem dX7_newRoad_113 : decode cX7_newRoad 113 = .ok (.invokevirtual 333, 3) := by decide +kernel
theorem dX7_newRoad_116 : decode cX7_newRoad 116 = .ok (.istore 8, 2) := by decide +kernel
theorem dX7_newRoad_118 : decode cX7_newRoad 118 = .ok (.aload_n 0, 1) := by decide +kernel
theorem dX7_newRoad_119 : decode cX7_newRoad 119 = .ok (.getfield 29, 3) := by decide +kernel
theorem dX7_newRoad_122 : decode cX7_newRoad 122 = .ok (.bipush 7, 2) := by decide +kernel
theorem dX7_newRoad_124 : decode cX7_newRoad 124 = .ok (.iload 6, 2) := by decide +kernel
theorem dX7_newRoad_126 : decode cX7_newRoad 126 = .ok (.imul, 1) := by decide +kernel
theorem dX7_newRoad_127 : decode cX7_newRoad 127 = .ok (.iload 7, 2) := by decide +kernel
theorem dX7_newRoad_129 : decode cX7_newRoad 129 = .ok (.iadd, 1) := by decide +kernel
theorem dX7_newRoad_130 : decode cX7_newRoad 130 = .ok (.iconst 0, 1) := by decide +kernel
theorem dX7_newRoad_131 : decode cX7_newRoad 131 = .ok (.iastore, 1) := by decide +kernel
theorem dX7_newRoad_132 : decode cX7_newRoad 132 = .ok (.aload_n 0, 1) := by decide +kernel
theorem dX7_newRoad_133 : decode cX7_newRoad 133 = .ok (.getfield 29, 3) := by decide +kernel
theorem dX7_newRoad_136 : decode cX7_newRoad 136 = .ok (.bipush 7, 2) := by decide +kernel
theorem dX7_newRoad_138 : decode cX7_newRoad 138 = .ok (.iload 7, 2) := by decide +kernel
theorem dX7_newRoad_140 : decode cX7_newRoad 140 = .ok (.imul, 1) := by decide +kernel
theorem dX7_newRoad_141 : decode cX7_newRoad 141 = .ok (.iload 6, 2) := by decide +kernel
theorem dX7_newRoad_143 : decode cX7_newRoad 143 = .ok (.iadd, 1) := by decide +kernel
theorem dX7_newRoad_144 : decode cX7_newRoad 144 = .ok (.iconst 0, 1) := by decide +kernel
theorem dX7_newRoad_145 : decode cX7_newRoad 145 = .ok (.iastore, 1) := by decide +kernel
theorem dX7_newRoad_146 : decode cX7_newRoad 146 = .ok (.iload 4, 2) := by decide +kernel
theorem dX7_newRoad_148 : decode cX7_newRoad 148 = .ok (.ifCond .lt 13, 3) := by decide +kernel
theorem dX7_newRoad_151 : decode cX7_newRoad 151 = .ok (.iload 8, 2) := by decide +kernel
theorem dX7_newRoad_153 : decode cX7_newRoad 153 = .ok (.iload 5, 2) := by decide +kernel
theorem dX7_newRoad_155 : decode cX7_newRoad 155 = .ok (.if_icmp .lt 6, 3) := by decide +kernel
theorem dX7_newRoad_158 : decode cX7_newRoad 158 = .ok (.goto 17, 3) := by decide +kernel
theorem dX7_newRoad_161 : decode cX7_newRoad 161 = .ok (.bipush 10, 2) := by decide +kernel
theorem dX7_newRoad_163 : decode cX7_newRoad 163 = .ok (.iload 6, 2) := by decide +kernel
theorem dX7_newRoad_165 : decode cX7_newRoad 165 = .ok (.imul, 1) := by decide +kernel
theorem dX7_newRoad_166 : decode cX7_newRoad 166 = .ok (.iload 7, 2) := by decide +kernel
theorem dX7_newRoad_168 : decode cX7_newRoad 168 = .ok (.iadd, 1) := by decide +kernel
theorem dX7_newRoad_169 : decode cX7_newRoad 169 = .ok (.istore 4, 2) := by decide +kernel
theorem dX7_newRoad_171 : decode cX7_newRoad 171 = .ok (.iload 8, 2) := by decide +kernel
theorem dX7_newRoad_173 : decode cX7_newRoad 173 = .ok (.istore 5, 2) := by decide +kernel
theorem dX7_newRoad_175 : decode cX7_newRoad 175 = .ok (.iinc 7 1, 3) := by decide +kernel
theorem dX7_newRoad_178 : decode cX7_newRoad 178 = .ok (.goto (-122), 3) := by decide +kernel
theorem dX7_newRoad_181 : decode cX7_newRoad 181 = .ok (.iinc 6 1, 3) := by decide +kernel
theorem dX7_newRoad_184 : decode cX7_newRoad 184 = .ok (.goto (-143), 3) := by decide +kernel
theorem dX7_newRoad_187 : decode cX7_newRoad 187 = .ok (.iload 4, 2) := by decide +kernel
theorem dX7_newRoad_189 : decode cX7_newRoad 189 = .ok (.ifCond .lt 7, 3) := by decide +kernel
theorem dX7_newRoad_192 : decode cX7_newRoad 192 = .ok (.iload_n 2, 1) := by decide +kernel
theorem dX7_newRoad_193 : decode cX7_newRoad 193 = .ok (.ifCond .ne 8, 3) := by decide +kernel
theorem dX7_newRoad_196 : decode cX7_newRoad 196 = .ok (.iload 4, 2) := by decide +kernel
theorem dX7_newRoad_198 : decode cX7_newRoad 198 = .ok (.goto 7, 3) := by decide +kernel
theorem dX7_newRoad_201 : decode cX7_newRoad 201 = .ok (.iload_n 3, 1) := by decide +kernel
theorem dX7_newRoad_202 : decode cX7_newRoad 202 = .ok (.iload 5, 2) := by decide +kernel
theorem dX7_newRoad_204 : decode cX7_newRoad 204 = .ok (.isub, 1) := by decide +kernel
theorem dX7_newRoad_205 : decode cX7_newRoad 205 = .ok (.ireturn, 1) := by decide +kernel
theorem dX7_gets_0 : decode cX7_gets 0 = .ok (.aload_n 0, 1) := by decide +kernel
theorem dX7_gets_1 : decode cX7_gets 1 = .ok (.iload_n 1, 1) := by decide +kernel
theorem dX7_gets_2 : decode cX7_gets 2 = .ok (.invokevirtual 201, 3) := by decide +kernel
theorem dX7_gets_5 : decode cX7_gets 5 = .ok (.ifCond .ne 5, 3) := by decide +kernel
theorem dX7_gets_8 : decode cX7_gets 8 = .ok (.iconst (-1), 1) := by decide +kernel
theorem dX7_gets_9 : decode cX7_gets 9 = .ok (.ireturn, 1) := by decide +kernel
theorem dX7_gets_10 : decode cX7_gets 10 = .ok (.aload_n 0, 1) := by decide +kernel
theorem dX7_gets_11 : decode cX7_gets 11 = .ok (.invokevirtual 294, 3) := by decide +kernel
theorem dX7_gets_14 : decode cX7_gets 14 = .ok (.iconst 0, 1) := by decide +kernel
theorem dX7_gets_15 : decode cX7_gets 15 = .ok (.istore_n 2, 1) := by decide +kernel
theorem dX7_gets_16 : decode cX7_gets 16 = .ok (.iconst 0, 1) := by decide +kernel
theorem dX7_gets_17 : decode cX7_gets 17 = .ok (.istore_n 3, 1) := by decide +kernel
theorem dX7_gets_18 : decode cX7_gets 18 = .ok (.iload_n 3, 1) := by decide +kernel
theorem dX7_gets_19 : decode cX7_gets 19 = .ok (.aload_n 0, 1) := by decide +kernel
theorem dX7_gets_20 : decode cX7_gets 20 = .ok (.getfield 13, 3) := by decide +kernel
theorem dX7_gets_23 : decode cX7_gets 23 = .ok (.if_icmp .ge 49, 3) := by decide +kernel
theorem dX7_gets_26 : decode cX7_gets 26 = .ok (.iload_n 2, 1) := by decide +kernel
theorem dX7_gets_27 : decode cX7_gets 27 = .ok (.aload_n 0, 1) := by decide +kernel
theorem dX7_gets_28 : decode cX7_gets 28 = .ok (.aload_n 0, 1) := by decide +kernel
theorem dX7_gets_29 : decode cX7_gets 29 = .ok (.getfield 32, 3) := by decide +kernel
theorem dX7_gets_32 : decode cX7_gets 32 = .ok (.iload_n 3, 1) := by decide +kernel
theorem dX7_gets_33 : decode cX7_gets 33 = .ok (.iaload, 1) := by decide +kernel
theorem dX7_gets_34 : decode cX7_gets 34 = .ok (.aload_n 0, 1) := by decide +kernel
theorem dX7_gets_35 : decode cX7_gets 35 = .ok (.getfield 35, 3) := by decide +kernel
theorem dX7_gets_38 : decode cX7_gets 38 = .ok (.iload_n 3, 1) := by decide +kernel
theorem dX7_gets_39 : decode cX7_gets 39 = .ok (.iaload, 1) := by decide +kernel
theorem dX7_gets_40 : decode cX7_gets 40 = .ok (.invokevirtual 321, 3) := by decide +kernel
theorem dX7_gets_43 : decode cX7_gets 43 = .ok (.ifCond .ne 20, 3) := by decide +kernel
theorem dX7_gets_46 : decode cX7_gets 46 = .ok (.aload_n 0, 1) := by decide +kernel
theorem dX7_gets_47 : decode cX7_gets 47 = .ok (.getfield 120, 3) := by decide +kernel
theorem dX7_gets_50 : decode cX7_gets 50 = .ok (.iload_n 1, 1) := by decide +kernel
theorem dX7_gets_51 : decode cX7_gets 51 = .ok (.if_icmp .ne 12, 3) := by decide +kernel
theorem dX7_gets_54 : decode cX7_gets 54 = .ok (.aload_n 0, 1) := by decide +kernel
theorem dX7_gets_55 : decode cX7_gets 55 = .ok (.getfield 38, 3) := by decide +kernel
theorem dX7_gets_58 : decode cX7_gets 58 = .ok (.iload_n 3, 1) := by decide +kernel
theorem dX7_gets_59 : decode cX7_gets 59 = .ok (.iaload, 1) := by decide +kernel
theorem dX7_gets_60 : decode cX7_gets 60 = .ok (.goto 4, 3) := by decide +kernel
theorem dX7_gets_63 : decode cX7_gets 63 = .ok (.iconst 0, 1) := by decide +kernel
theorem dX7_gets_64 : decode cX7_gets 64 = .ok (.iadd, 1) := by decide +kernel
theorem dX7_gets_65 : decode cX7_gets 65 = .ok (.istore_n 2, 1) := by decide +kernel
theorem dX7_gets_66 : decode cX7_gets 66 = .ok (.iinc 3 1, 3) := by decide +kernel
theorem dX7_gets_69 : decode cX7_gets 69 = .ok (.goto (-51), 3) := by decide +kernel
theorem dX7_gets_72 : decode cX7_gets 72 = .ok (.iload_n 2, 1) := by decide +kernel
theorem dX7_gets_73 : decode cX7_gets 73 = .ok (.ireturn, 1) := by decide +kernel
theorem dX7_divisor_0 : decode cX7_divisor 0 = .ok (.lload_n 1, 1) := by decide +kernel
theorem dX7_divisor_1 : decode cX7_divisor 1 = .ok (.lstore 5, 2) := by decide +kernel
theorem dX7_divisor_3 : decode cX7_divisor 3 = .ok (.lload_n 3, 1) := by decide +kernel
theorem dX7_divisor_4 : decode cX7_divisor 4 = .ok (.lstore 7, 2) := by decide +kernel
theorem dX7_divisor_6 : decode cX7_divisor 6 = .ok (.lload 7, 2) := by decide +kernel
theorem dX7_divisor_8 : decode cX7_divisor 8 = .ok (.lconst 0, 1) := by decide +kernel
theorem dX7_divisor_9 : decode cX7_divisor 9 = .ok (.lcmp, 1) := by decide +kernel
theorem dX7_divisor_10 : decode cX7_divisor 10 = .ok (.ifCond .eq 21, 3) := by decide +kernel
theorem dX7_divisor_13 : decode cX7_divisor 13 = .ok (.lload 5, 2) := by decide +kernel
theorem dX7_divisor_15 : decode cX7_divisor 15 = .ok (.lload 7, 2) := by decide +kernel
theorem dX7_divisor_17 : decode cX7_divisor 17 = .ok (.lrem, 1) := by decide +kernel
theorem dX7_divisor_18 : decode cX7_divisor 18 = .ok (.lstore 9, 2) := by decide +kernel
theorem dX7_divisor_20 : decode cX7_divisor 20 = .ok (.lload 7, 2) := by decide +kernel
theorem dX7_divisor_22 : decode cX7_divisor 22 = .ok (.lstore 5, 2) := by decide +kernel
theorem dX7_divisor_24 : decode cX7_divisor 24 = .ok (.lload 9, 2) := by decide +kernel
theorem dX7_divisor_26 : decode cX7_divisor 26 = .ok (.lstore 7, 2) := by decide +kernel
theorem dX7_divisor_28 : decode cX7_divisor 28 = .ok (.goto (-22), 3) := by decide +kernel
theorem dX7_divisor_31 : decode cX7_divisor 31 = .ok (.lload 5, 2) := by decide +kernel
theorem dX7_divisor_33 : decode cX7_divisor 33 = .ok (.lreturn, 1) := by decide +kernel
theorem dX7_lowest_0 : decode cX7_lowest 0 = .ok (.aload_n 0, 1) := by decide +kernel
theorem dX7_lowest_1 : decode cX7_lowest 1 = .ok (.lload_n 1, 1) := by decide +kernel
theorem dX7_lowest_2 : decode cX7_lowest 2 = .ok (.lload_n 3, 1) := by decide +kernel
theorem dX7_lowest_3 : decode cX7_lowest 3 = .ok (.invokevirtual 336, 3) := by decide +kernel
theorem dX7_lowest_6 : decode cX7_lowest 6 = .ok (.lstore 6, 2) := by decide +kernel
theorem dX7_lowest_8 : decode cX7_lowest 8 = .ok (.iload 5, 2) := by decide +kernel
theorem dX7_lowest_10 : decode cX7_lowest 10 = .ok (.ifCond .ne 10, 3) := by decide +kernel
theorem dX7_lowest_13 : decode cX7_lowest 13 = .ok (.lload_n 1, 1) := by decide +kernel
theorem dX7_lowest_14 : decode cX7_lowest 14 = .ok (.lload 6, 2) := by decide +kernel
theorem dX7_lowest_16 : decode cX7_lowest 16 = .ok (.ldiv, 1) := by decide +kernel
theorem dX7_lowest_17 : decode cX7_lowest 17 = .ok (.goto 7, 3) := by decide +kernel
theorem dX7_lowest_20 : decode cX7_lowest 20 = .ok (.lload_n 3, 1) := by decide +kernel
theorem dX7_lowest_21 : decode cX7_lowest 21 = .ok (.lload 6, 2) := by decide +kernel
theorem dX7_lowest_23 : decode cX7_lowest 23 = .ok (.ldiv, 1) := by decide +kernel
theorem dX7_lowest_24 : decode cX7_lowest 24 = .ok (.lreturn, 1) := by decide +kernel
theorem dX7_goStep_0 : decode cX7_goStep 0 = .ok (.iconst 0, 1) := by decide +kernel
theorem dX7_goStep_1 : decode cX7_goStep 1 = .ok (.istore_n 1, 1) := by decide +kernel
theorem dX7_goStep_2 : decode cX7_goStep 2 = .ok (.iload_n 1, 1) := by decide +kernel
theorem dX7_goStep_3 : decode cX7_goStep 3 = .ok (.bipush 7, 2) := by decide +kernel
theorem dX7_goStep_5 : decode cX7_goStep 5 = .ok (.if_icmp .ge 16, 3) := by decide +kernel
theorem dX7_goStep_8 : decode cX7_goStep 8 = .ok (.aload_n 0, 1) := by decide +kernel
theorem dX7_goStep_9 : decode cX7_goStep 9 = .ok (.getfield 127, 3) := by decide +kernel
theorem dX7_goStep_12 : decode cX7_goStep 12 = .ok (.iload_n 1, 1) := by decide +kernel
theorem dX7_goStep_13 : decode cX7_goStep 13 = .ok (.lconst 0, 1) := by decide +kernel
theorem dX7_goStep_14 : decode cX7_goStep 14 = .ok (.lastore, 1) := by decide +kernel
theorem dX7_goStep_15 : decode cX7_goStep 15 = .ok (.iinc 1 1, 3) := by decide +kernel
theorem dX7_goStep_18 : decode cX7_goStep 18 = .ok (.goto (-16), 3) := by decide +kernel
theorem dX7_goStep_21 : decode cX7_goStep 21 = .ok (.iconst 0, 1) := by decide +kernel
theorem dX7_goStep_22 : decode cX7_goStep 22 = .ok (.istore_n 1, 1) := by decide +kernel
theorem dX7_goStep_23 : decode cX7_goStep 23 = .ok (.iload_n 1, 1) := by decide +kernel
theorem dX7_goStep_24 : decode cX7_goStep 24 = .ok (.aload_n 0, 1) := by decide +kernel
theorem dX7_goStep_25 : decode cX7_goStep 25 = .ok (.getfield 7, 3) := by decide +kernel
theorem dX7_goStep_28 : decode cX7_goStep 28 = .ok (.if_icmp .ge 116, 3) := by decide +kernel
theorem dX7_goStep_31 : decode cX7_goStep 31 = .ok (.aload_n 0, 1) := by decide +kernel
theorem dX7_goStep_32 : decode cX7_goStep 32 = .ok (.getfield 26, 3) := by decide +kernel
theorem dX7_goStep_35 : decode cX7_goStep 35 = .ok (.iload_n 1, 1) := by decide +kernel
theorem dX7_goStep_36 : decode cX7_goStep 36 = .ok (.iaload, 1) := by decide +kernel
theorem dX7_goStep_37 : decode cX7_goStep 37 = .ok (.ifCond .ne 22, 3) := by decide +kernel
theorem dX7_goStep_40 : decode cX7_goStep 40 = .ok (.aload_n 0, 1) := by decide +kernel
theorem dX7_goStep_41 : decode cX7_goStep 41 = .ok (.getfield 127, 3) := by decide +kernel
theorem dX7_goStep_44 : decode cX7_goStep 44 = .ok (.iload_n 1, 1) := by decide +kernel
theorem dX7_goStep_45 : decode cX7_goStep 45 = .ok (.dup2, 1) := by decide +kernel
theorem dX7_goStep_46 : decode cX7_goStep 46 = .ok (.laload, 1) := by decide +kernel
theorem dX7_goStep_47 : decode cX7_goStep 47 = .ok (.ldc2_w 340, 3) := by decide +kernel
theorem dX7_goStep_50 : decode cX7_goStep 50 = .ok (.aload_n 0, 1) := by decide +kernel
theorem dX7_goStep_51 : decode cX7_goStep 51 = .ok (.getfield 123, 3) := by decide +kernel
theorem dX7_goStep_54 : decode cX7_goStep 54 = .ok (.iload_n 1, 1) := by decide +kernel
theorem dX7_goStep_55 : decode cX7_goStep 55 = .ok (.laload, 1) := by decide +kernel
theorem dX7_goStep_56 : decode cX7_goStep 56 = .ok (.lmul, 1) := by decide +kernel
theorem dX7_goStep_57 : decode cX7_goStep 57 = .ok (.ladd, 1) := by decide +kernel
theorem dX7_goStep_58 : decode cX7_goStep 58 = .ok (.lastore, 1) := by decide +kernel
theorem dX7_goStep_59 : decode cX7_goStep 59 = .ok (.iconst 0, 1) := by decide +kernel
theorem dX7_goStep_60 : decode cX7_goStep 60 = .ok (.istore_n 2, 1) := by decide +kernel
theorem dX7_goStep_61 : decode cX7_goStep 61 = .ok (.iload_n 2, 1) := by decide +kernel
theorem dX7_goStep_62 : decode cX7_goStep 62 = .ok (.aload_n 0, 1) := by decide +kernel
theorem dX7_goStep_63 : decode cX7_goStep 63 = .ok (.getfield 7, 3) := by decide +kernel
theorem dX7_goStep_66 : decode cX7_goStep 66 = .ok (.if_icmp .ge 72, 3) := by decide +kernel
theorem dX7_goStep_69 : decode cX7_goStep 69 = .ok (.aload_n 0, 1) := by decide +kernel
theorem dX7_goStep_70 : decode cX7_goStep 70 = .ok (.aload_n 0, 1) := by decide +kernel
theorem dX7_goStep_71 : decode cX7_goStep 71 = .ok (.getfield 26, 3) := by decide +kernel
theorem dX7_goStep_74 : decode cX7_goStep 74 = .ok (.iload_n 1, 1) := by decide +kernel
theorem dX7_goStep_75 : decode cX7_goStep 75 = .ok (.iaload, 1) := by decide +kernel
theorem dX7_goStep_76 : decode cX7_goStep 76 = .ok (.iload_n 2, 1) := by decide +kernel
theorem dX7_goStep_77 : decode cX7_goStep 77 = .ok (.invokevirtual 209, 3) := by decide +kernel
theorem dX7_goStep_80 : decode cX7_goStep 80 = .ok (.ifCond .ne 6, 3) := by decide +kernel
theorem dX7_goStep_83 : decode cX7_goStep 83 = .ok (.goto 49, 3) := by decide +kernel
theorem dX7_goStep_86 : decode cX7_goStep 86 = .ok (.aload_n 0, 1) := by decide +kernel
theorem dX7_goStep_87 : decode cX7_goStep 87 = .ok (.iload_n 1, 1) := by decide +kernel
theorem dX7_goStep_88 : decode cX7_goStep 88 = .ok (.iload_n 2, 1) := by decide +kernel
theorem dX7_goStep_89 : decode cX7_goStep 89 = .ok (.invokevirtual 297, 3) := by decide +kernel
theorem dX7_goStep_92 : decode cX7_goStep 92 = .ok (.istore_n 3, 1) := by decide +kernel
theorem dX7_goStep_93 : decode cX7_goStep 93 = .ok (.aload_n 0, 1) := by decide +kernel
theorem dX7_goStep_94 : decode cX7_goStep 94 = .ok (.getfield 127, 3) := by decide +kernel
theorem dX7_goStep_97 : decode cX7_goStep 97 = .ok (.iload_n 3, 1) := by decide +kernel
theorem dX7_goStep_98 : decode cX7_goStep 98 = .ok (.ifCond .ge 7, 3) := by decide +kernel
theorem dX7_goStep_101 : decode cX7_goStep 101 = .ok (.iload_n 1, 1) := by decide +kernel
theorem dX7_goStep_102 : decode cX7_goStep 102 = .ok (.goto 4, 3) := by decide +kernel
theorem dX7_goStep_105 : decode cX7_goStep 105 = .ok (.iload_n 3, 1) := by decide +kernel
theorem dX7_goStep_106 : decode cX7_goStep 106 = .ok (.dup2, 1) := by decide +kernel
theorem dX7_goStep_107 : decode cX7_goStep 107 = .ok (.laload, 1) := by decide +kernel
theorem dX7_goStep_108 : decode cX7_goStep 108 = .ok (.ldc2_w 340, 3) := by decide +kernel
theorem dX7_goStep_111 : decode cX7_goStep 111 = .ok (.aload_n 0, 1) := by decide +kernel
theorem dX7_goStep_112 : decode cX7_goStep 112 = .ok (.aload_n 0, 1) := by decide +kernel
theorem dX7_goStep_113 : decode cX7_goStep 113 = .ok (.getfield 26, 3) := by decide +kernel
theorem dX7_goStep_116 : decode cX7_goStep 116 = .ok (.iload_n 1, 1) := by decide +kernel
theorem dX7_goStep_117 : decode cX7_goStep 117 = .ok (.iaload, 1) := by decide +kernel
theorem dX7_goStep_118 : decode cX7_goStep 118 = .ok (.invokevirtual 212, 3) := by decide +kernel
theorem dX7_goStep_121 : decode cX7_goStep 121 = .ok (.i2l, 1) := by decide +kernel
theorem dX7_goStep_122 : decode cX7_goStep 122 = .ok (.ldiv, 1) := by decide +kernel
theorem dX7_goStep_123 : decode cX7_goStep 123 = .ok (.aload_n 0, 1) := by decide +kernel
theorem dX7_goStep_124 : decode cX7_goStep 124 = .ok (.getfield 123, 3) := by decide +kernel
theorem dX7_goStep_127 : decode cX7_goStep 127 = .ok (.iload_n 1, 1) := by decide +kernel
theorem dX7_goStep_128 : decode cX7_goStep 128 = .ok (.laload, 1) := by decide +kernel
theorem dX7_goStep_129 : decode cX7_goStep 129 = .ok (.lmul, 1) := by decide +kernel
theorem dX7_goStep_130 : decode cX7_goStep 130 = .ok (.ladd, 1) := by decide +kernel
theorem dX7_goStep_131 : decode cX7_goStep 131 = .ok (.lastore, 1) := by decide +kernel
theorem dX7_goStep_132 : decode cX7_goStep 132 = .ok (.iinc 2 1, 3) := by decide +kernel
theorem dX7_goStep_135 : decode cX7_goStep 135 = .ok (.goto (-74), 3) := by decide +kernel
theorem dX7_goStep_138 : decode cX7_goStep 138 = .ok (.iinc 1 1, 3) := by decide +kernel
theorem dX7_goStep_141 : decode cX7_goStep 141 = .ok (.goto (-118), 3) := by decide +kernel
theorem dX7_goStep_144 : decode cX7_goStep 144 = .ok (.iconst 0, 1) := by decide +kernel
theorem dX7_goStep_145 : decode cX7_goStep 145 = .ok (.istore_n 1, 1) := by decide +kernel
theorem dX7_goStep_146 : decode cX7_goStep 146 = .ok (.iload_n 1, 1) := by decide +kernel
theorem dX7_goStep_147 : decode cX7_goStep 147 = .ok (.bipush 7, 2) := by decide +kernel
theorem dX7_goStep_149 : decode cX7_goStep 149 = .ok (.if_icmp .ge 21, 3) := by decide +kernel
theorem dX7_goStep_152 : decode cX7_goStep 152 = .ok (.aload_n 0, 1) := by decide +kernel
theorem dX7_goStep_153 : decode cX7_goStep 153 = .ok (.getfield 123, 3) := by decide +kernel
theorem dX7_goStep_156 : decode cX7_goStep 156 = .ok (.iload_n 1, 1) := by decide +kernel
theorem dX7_goStep_157 : decode cX7_goStep 157 = .ok (.aload_n 0, 1) := by decide +kernel
theorem dX7_goStep_158 : decode cX7_goStep 158 = .ok (.getfield 127, 3) := by decide +kernel
theorem dX7_goStep_161 : decode cX7_goStep 161 = .ok (.iload_n 1, 1) := by decide +kernel
theorem dX7_goStep_162 : decode cX7_goStep 162 = .ok (.laload, 1) := by decide +kernel
theorem dX7_goStep_163 : decode cX7_goStep 163 = .ok (.lastore, 1) := by decide +kernel
theorem dX7_goStep_164 : decode cX7_goStep 164 = .ok (.iinc 1 1, 3) := by decide +kernel
theorem dX7_goStep_167 : decode cX7_goStep 167 = .ok (.goto (-21), 3) := by decide +kernel
theorem dX7_goStep_170 : decode cX7_goStep 170 = .ok (.return_, 1) := by decide +kernel
theorem dX7_odds_0 : decode cX7_odds 0 = .ok (.aload_n 0, 1) := by decide +kernel
theorem dX7_odds_1 : decode cX7_odds 1 = .ok (.iload_n 1, 1) := by decide +kernel
theorem dX7_odds_2 : decode cX7_odds 2 = .ok (.iload_n 2, 1) := by decide +kernel
theorem dX7_odds_3 : decode cX7_odds 3 = .ok (.invokevirtual 205, 3) := by decide +kernel
theorem dX7_odds_6 : decode cX7_odds 6 = .ok (.ifCond .eq 25, 3) := by decide +kernel
theorem dX7_odds_9 : decode cX7_odds 9 = .ok (.aload_n 0, 1) := by decide +kernel
theorem dX7_odds_10 : decode cX7_odds 10 = .ok (.iload_n 3, 1) := by decide +kernel
theorem dX7_odds_11 : decode cX7_odds 11 = .ok (.iconst 0, 1) := by decide +kernel
theorem dX7_odds_12 : decode cX7_odds 12 = .ok (.bipush 6, 2) := by decide +kernel
theorem dX7_odds_14 : decode cX7_odds 14 = .ok (.invokevirtual 197, 3) := by decide +kernel
theorem dX7_odds_17 : decode cX7_odds 17 = .ok (.ifCond .eq 14, 3) := by decide +kernel
theorem dX7_odds_20 : decode cX7_odds 20 = .ok (.aload_n 0, 1) := by decide +kernel
theorem dX7_odds_21 : decode cX7_odds 21 = .ok (.iload 4, 2) := by decide +kernel
theorem dX7_odds_23 : decode cX7_odds 23 = .ok (.iconst 0, 1) := by decide +kernel
theorem dX7_odds_24 : decode cX7_odds 24 = .ok (.iconst 1, 1) := by decide +kernel
theorem dX7_odds_25 : decode cX7_odds 25 = .ok (.invokevirtual 197, 3) := by decide +kernel
theorem dX7_odds_28 : decode cX7_odds 28 = .ok (.ifCond .ne 7, 3) := by decide +kernel
theorem dX7_odds_31 : decode cX7_odds 31 = .ok (.ldc2_w 342, 3) := by decide +kernel
theorem dX7_odds_34 : decode cX7_odds 34 = .ok (.lreturn, 1) := by decide +kernel
theorem dX7_odds_35 : decode cX7_odds 35 = .ok (.aload_n 0, 1) := by decide +kernel
theorem dX7_odds_36 : decode cX7_odds 36 = .ok (.invokevirtual 294, 3) := by decide +kernel
theorem dX7_odds_39 : decode cX7_odds 39 = .ok (.iconst 0, 1) := by decide +kernel
theorem dX7_odds_40 : decode cX7_odds 40 = .ok (.istore 5, 2) := by decide +kernel
theorem dX7_odds_42 : decode cX7_odds 42 = .ok (.iload 5, 2) := by decide +kernel
theorem dX7_odds_44 : decode cX7_odds 44 = .ok (.bipush 7, 2) := by decide +kernel
theorem dX7_odds_46 : decode cX7_odds 46 = .ok (.if_icmp .ge 27, 3) := by decide +kernel
theorem dX7_odds_49 : decode cX7_odds 49 = .ok (.aload_n 0, 1) := by decide +kernel
theorem dX7_odds_50 : decode cX7_odds 50 = .ok (.getfield 123, 3) := by decide +kernel
theorem dX7_odds_53 : decode cX7_odds 53 = .ok (.iload 5, 2) := by decide +kernel
theorem dX7_odds_55 : decode cX7_odds 55 = .ok (.iload 5, 2) := by decide +kernel
theorem dX7_odds_57 : decode cX7_odds 57 = .ok (.iload_n 1, 1) := by decide +kernel
theorem dX7_odds_58 : decode cX7_odds 58 = .ok (.if_icmp .ne 7, 3) := by decide +kernel
theorem dX7_odds_61 : decode cX7_odds 61 = .ok (.lconst 1, 1) := by decide +kernel
theorem dX7_odds_62 : decode cX7_odds 62 = .ok (.goto 4, 3) := by decide +kernel
theorem dX7_odds_65 : decode cX7_odds 65 = .ok (.lconst 0, 1) := by decide +kernel
theorem dX7_odds_66 : decode cX7_odds 66 = .ok (.lastore, 1) := by decide +kernel
theorem dX7_odds_67 : decode cX7_odds 67 = .ok (.iinc 5 1, 3) := by decide +kernel
theorem dX7_odds_70 : decode cX7_odds 70 = .ok (.goto (-28), 3) := by decide +kernel
theorem dX7_odds_73 : decode cX7_odds 73 = .ok (.lconst 1, 1) := by decide +kernel
theorem dX7_odds_74 : decode cX7_odds 74 = .ok (.lstore 5, 2) := by decide +kernel
theorem dX7_odds_76 : decode cX7_odds 76 = .ok (.iconst 0, 1) := by decide +kernel
theorem dX7_odds_77 : decode cX7_odds 77 = .ok (.istore 7, 2) := by decide +kernel
theorem dX7_odds_79 : decode cX7_odds 79 = .ok (.iload 7, 2) := by decide +kernel
theorem dX7_odds_81 : decode cX7_odds 81 = .ok (.iload_n 3, 1) := by decide +kernel
theorem dX7_odds_82 : decode cX7_odds 82 = .ok (.if_icmp .ge 21, 3) := by decide +kernel
theorem dX7_odds_85 : decode cX7_odds 85 = .ok (.aload_n 0, 1) := by decide +kernel
theorem dX7_odds_86 : decode cX7_odds 86 = .ok (.invokevirtual 344, 3) := by decide +kernel
theorem dX7_odds_89 : decode cX7_odds 89 = .ok (.lload 5, 2) := by decide +kernel
theorem dX7_odds_91 : decode cX7_odds 91 = .ok (.ldc2_w 340, 3) := by decide +kernel
theorem dX7_odds_94 : decode cX7_odds 94 = .ok (.lmul, 1) := by decide +kernel
theorem dX7_odds_95 : decode cX7_odds 95 = .ok (.lstore 5, 2) := by decide +kernel
theorem dX7_odds_97 : decode cX7_odds 97 = .ok (.iinc 7 1, 3) := by decide +kernel
theorem dX7_odds_100 : decode cX7_odds 100 = .ok (.goto (-21), 3) := by decide +kernel
theorem dX7_odds_103 : decode cX7_odds 103 = .ok (.aload_n 0, 1) := by decide +kernel
theorem dX7_odds_104 : decode cX7_odds 104 = .ok (.aload_n 0, 1) := by decide +kernel
theorem dX7_odds_105 : decode cX7_odds 105 = .ok (.getfield 123, 3) := by decide +kernel
theorem dX7_odds_108 : decode cX7_odds 108 = .ok (.iload_n 2, 1) := by decide +kernel
theorem dX7_odds_109 : decode cX7_odds 109 = .ok (.laload, 1) := by decide +kernel
theorem dX7_odds_110 : decode cX7_odds 110 = .ok (.lload 5, 2) := by decide +kernel
theorem dX7_odds_112 : decode cX7_odds 112 = .ok (.iload 4, 2) := by decide +kernel
theorem dX7_odds_114 : decode cX7_odds 114 = .ok (.invokevirtual 347, 3) := by decide +kernel
theorem dX7_odds_117 : decode cX7_odds 117 = .ok (.lreturn, 1) := by decide +kernel
theorem dX7_mean_0 : decode cX7_mean 0 = .ok (.aload_n 0, 1) := by decide +kernel
theorem dX7_mean_1 : decode cX7_mean 1 = .ok (.iload_n 1, 1) := by decide +kernel
theorem dX7_mean_2 : decode cX7_mean 2 = .ok (.iconst 0, 1) := by decide +kernel
theorem dX7_mean_3 : decode cX7_mean 3 = .ok (.iconst 1, 1) := by decide +kernel
theorem dX7_mean_4 : decode cX7_mean 4 = .ok (.invokevirtual 197, 3) := by decide +kernel
theorem dX7_mean_7 : decode cX7_mean 7 = .ok (.ifCond .ne 7, 3) := by decide +kernel
theorem dX7_mean_10 : decode cX7_mean 10 = .ok (.ldc2_w 342, 3) := by decide +kernel
theorem dX7_mean_13 : decode cX7_mean 13 = .ok (.lreturn, 1) := by decide +kernel
theorem dX7_mean_14 : decode cX7_mean 14 = .ok (.aload_n 0, 1) := by decide +kernel
theorem dX7_mean_15 : decode cX7_mean 15 = .ok (.invokevirtual 294, 3) := by decide +kernel
theorem dX7_mean_18 : decode cX7_mean 18 = .ok (.iconst 0, 1) := by decide +kernel
theorem dX7_mean_19 : decode cX7_mean 19 = .ok (.istore_n 2, 1) := by decide +kernel
theorem dX7_mean_20 : decode cX7_mean 20 = .ok (.iconst 0, 1) := by decide +kernel
theorem dX7_mean_21 : decode cX7_mean 21 = .ok (.istore_n 3, 1) := by decide +kernel
theorem dX7_mean_22 : decode cX7_mean 22 = .ok (.iconst 0, 1) := by decide +kernel
theorem dX7_mean_23 : decode cX7_mean 23 = .ok (.istore 4, 2) := by decide +kernel
theorem dX7_mean_25 : decode cX7_mean 25 = .ok (.iload 4, 2) := by decide +kernel
theorem dX7_mean_27 : decode cX7_mean 27 = .ok (.aload_n 0, 1) := by decide +kernel
theorem dX7_mean_28 : decode cX7_mean 28 = .ok (.getfield 7, 3) := by decide +kernel
theorem dX7_mean_31 : decode cX7_mean 31 = .ok (.if_icmp .ge 58, 3) := by decide +kernel
theorem dX7_mean_34 : decode cX7_mean 34 = .ok (.iconst 0, 1) := by decide +kernel
theorem dX7_mean_35 : decode cX7_mean 35 = .ok (.istore 5, 2) := by decide +kernel
theorem dX7_mean_37 : decode cX7_mean 37 = .ok (.iload 5, 2) := by decide +kernel
theorem dX7_mean_39 : decode cX7_mean 39 = .ok (.aload_n 0, 1) := by decide +kernel
theorem dX7_mean_40 : decode cX7_mean 40 = .ok (.getfield 7, 3) := by decide +kernel
theorem dX7_mean_43 : decode cX7_mean 43 = .ok (.if_icmp .ge 40, 3) := by decide +kernel
theorem dX7_mean_46 : decode cX7_mean 46 = .ok (.iload 4, 2) := by decide +kernel
theorem dX7_mean_48 : decode cX7_mean 48 = .ok (.iload 5, 2) := by decide +kernel
theorem dX7_mean_50 : decode cX7_mean 50 = .ok (.if_icmp .eq 27, 3) := by decide +kernel
theorem dX7_mean_53 : decode cX7_mean 53 = .ok (.aload_n 0, 1) := by decide +kernel
theorem dX7_mean_54 : decode cX7_mean 54 = .ok (.iload 4, 2) := by decide +kernel
theorem dX7_mean_56 : decode cX7_mean 56 = .ok (.iload 5, 2) := by decide +kernel
theorem dX7_mean_58 : decode cX7_mean 58 = .ok (.invokevirtual 321, 3) := by decide +kernel
theorem dX7_mean_61 : decode cX7_mean 61 = .ok (.ifCond .ne 6, 3) := by decide +kernel
theorem dX7_mean_64 : decode cX7_mean 64 = .ok (.goto 13, 3) := by decide +kernel
theorem dX7_mean_67 : decode cX7_mean 67 = .ok (.iload_n 2, 1) := by decide +kernel
theorem dX7_mean_68 : decode cX7_mean 68 = .ok (.aload_n 0, 1) := by decide +kernel
theorem dX7_mean_69 : decode cX7_mean 69 = .ok (.getfield 114, 3) := by decide +kernel
theorem dX7_mean_72 : decode cX7_mean 72 = .ok (.iadd, 1) := by decide +kernel
theorem dX7_mean_73 : decode cX7_mean 73 = .ok (.istore_n 2, 1) := by decide +kernel
theorem dX7_mean_74 : decode cX7_mean 74 = .ok (.iinc 3 1, 3) := by decide +kernel
theorem dX7_mean_77 : decode cX7_mean 77 = .ok (.iinc 5 1, 3) := by decide +kernel
theorem dX7_mean_80 : decode cX7_mean 80 = .ok (.goto (-43), 3) := by decide +kernel
theorem dX7_mean_83 : decode cX7_mean 83 = .ok (.iinc 4 1, 3) := by decide +kernel
theorem dX7_mean_86 : decode cX7_mean 86 = .ok (.goto (-61), 3) := by decide +kernel
theorem dX7_mean_89 : decode cX7_mean 89 = .ok (.iload_n 3, 1) := by decide +kernel
theorem dX7_mean_90 : decode cX7_mean 90 = .ok (.ifCond .ne 9, 3) := by decide +kernel
theorem dX7_mean_93 : decode cX7_mean 93 = .ok (.ldc2_w 342, 3) := by decide +kernel
theorem dX7_mean_96 : decode cX7_mean 96 = .ok (.goto 12, 3) := by decide +kernel
theorem dX7_mean_99 : decode cX7_mean 99 = .ok (.aload_n 0, 1) := by decide +kernel
theorem dX7_mean_100 : decode cX7_mean 100 = .ok (.iload_n 2, 1) := by decide +kernel
theorem dX7_mean_101 : decode cX7_mean 101 = .ok (.i2l, 1) := by decide +kernel
theorem dX7_mean_102 : decode cX7_mean 102 = .ok (.iload_n 3, 1) := by decide +kernel
theorem dX7_mean_103 : decode cX7_mean 103 = .ok (.i2l, 1) := by decide +kernel
theorem dX7_mean_104 : decode cX7_mean 104 = .ok (.iload_n 1, 1) := by decide +kernel
theorem dX7_mean_105 : decode cX7_mean 105 = .ok (.invokevirtual 347, 3) := by decide +kernel
theorem dX7_mean_108 : decode cX7_mean 108 = .ok (.lreturn, 1) := by decide +kernel
theorem dX7_book_0 : decode cX7_book 0 = .ok (.iload_n 1, 1) := by decide +kernel
theorem dX7_book_1 : decode cX7_book 1 = .ok (.iconst (-1), 1) := by decide +kernel
theorem dX7_book_2 : decode cX7_book 2 = .ok (.if_icmp .ne 10, 3) := by decide +kernel
theorem dX7_book_5 : decode cX7_book 5 = .ok (.aload_n 0, 1) := by decide +kernel
theorem dX7_book_6 : decode cX7_book 6 = .ok (.iconst 0, 1) := by decide +kernel
theorem dX7_book_7 : decode cX7_book 7 = .ok (.putfield 130, 3) := by decide +kernel
theorem dX7_book_10 : decode cX7_book 10 = .ok (.iconst 0, 1) := by decide +kernel
theorem dX7_book_11 : decode cX7_book 11 = .ok (.ireturn, 1) := by decide +kernel
theorem dX7_book_12 : decode cX7_book 12 = .ok (.aload_n 0, 1) := by decide +kernel
theorem dX7_book_13 : decode cX7_book 13 = .ok (.iload_n 1, 1) := by decide +kernel
theorem dX7_book_14 : decode cX7_book 14 = .ok (.invokevirtual 201, 3) := by decide +kernel
theorem dX7_book_17 : decode cX7_book 17 = .ok (.ifCond .ne 5, 3) := by decide +kernel
theorem dX7_book_20 : decode cX7_book 20 = .ok (.iconst (-1), 1) := by decide +kernel
theorem dX7_book_21 : decode cX7_book 21 = .ok (.ireturn, 1) := by decide +kernel
theorem dX7_book_22 : decode cX7_book 22 = .ok (.aload_n 0, 1) := by decide +kernel
theorem dX7_book_23 : decode cX7_book 23 = .ok (.getfield 130, 3) := by decide +kernel
theorem dX7_book_26 : decode cX7_book 26 = .ok (.bipush 12, 2) := by decide +kernel
theorem dX7_book_28 : decode cX7_book 28 = .ok (.if_icmp .ne 6, 3) := by decide +kernel
theorem dX7_book_31 : decode cX7_book 31 = .ok (.bipush (-4), 2) := by decide +kernel
theorem dX7_book_33 : decode cX7_book 33 = .ok (.ireturn, 1) := by decide +kernel
theorem dX7_book_34 : decode cX7_book 34 = .ok (.aload_n 0, 1) := by decide +kernel
theorem dX7_book_35 : decode cX7_book 35 = .ok (.getfield 133, 3) := by decide +kernel
theorem dX7_book_38 : decode cX7_book 38 = .ok (.aload_n 0, 1) := by decide +kernel
theorem dX7_book_39 : decode cX7_book 39 = .ok (.getfield 130, 3) := by decide +kernel
theorem dX7_book_42 : decode cX7_book 42 = .ok (.iload_n 1, 1) := by decide +kernel
theorem dX7_book_43 : decode cX7_book 43 = .ok (.iastore, 1) := by decide +kernel
theorem dX7_book_44 : decode cX7_book 44 = .ok (.aload_n 0, 1) := by decide +kernel
theorem dX7_book_45 : decode cX7_book 45 = .ok (.dup, 1) := by decide +kernel
theorem dX7_book_46 : decode cX7_book 46 = .ok (.getfield 130, 3) := by decide +kernel
theorem dX7_book_49 : decode cX7_book 49 = .ok (.iconst 1, 1) := by decide +kernel
theorem dX7_book_50 : decode cX7_book 50 = .ok (.iadd, 1) := by decide +kernel
theorem dX7_book_51 : decode cX7_book 51 = .ok (.putfield 130, 3) := by decide +kernel
theorem dX7_book_54 : decode cX7_book 54 = .ok (.aload_n 0, 1) := by decide +kernel
theorem dX7_book_55 : decode cX7_book 55 = .ok (.getfield 130, 3) := by decide +kernel
theorem dX7_book_58 : decode cX7_book 58 = .ok (.ireturn, 1) := by decide +kernel
theorem dX7_looked_0 : decode cX7_looked 0 = .ok (.aload_n 0, 1) := by decide +kernel
theorem dX7_looked_1 : decode cX7_looked 1 = .ok (.iload_n 1, 1) := by decide +kernel
theorem dX7_looked_2 : decode cX7_looked 2 = .ok (.invokevirtual 201, 3) := by decide +kernel
theorem dX7_looked_5 : decode cX7_looked 5 = .ok (.ifCond .ne 5, 3) := by decide +kernel
theorem dX7_looked_8 : decode cX7_looked 8 = .ok (.iconst (-1), 1) := by decide +kernel
theorem dX7_looked_9 : decode cX7_looked 9 = .ok (.ireturn, 1) := by decide +kernel
theorem dX7_looked_10 : decode cX7_looked 10 = .ok (.aload_n 0, 1) := by decide +kernel
theorem dX7_looked_11 : decode cX7_looked 11 = .ok (.invokevirtual 294, 3) := by decide +kernel
theorem dX7_looked_14 : decode cX7_looked 14 = .ok (.iconst 1, 1) := by decide +kernel
theorem dX7_looked_15 : decode cX7_looked 15 = .ok (.istore_n 2, 1) := by decide +kernel
theorem dX7_looked_16 : decode cX7_looked 16 = .ok (.iload_n 2, 1) := by decide +kernel
theorem dX7_looked_17 : decode cX7_looked 17 = .ok (.aload_n 0, 1) := by decide +kernel
theorem dX7_looked_18 : decode cX7_looked 18 = .ok (.getfield 130, 3) := by decide +kernel
theorem dX7_looked_21 : decode cX7_looked 21 = .ok (.if_icmp .ge 45, 3) := by decide +kernel
theorem dX7_looked_24 : decode cX7_looked 24 = .ok (.aload_n 0, 1) := by decide +kernel
theorem dX7_looked_25 : decode cX7_looked 25 = .ok (.getfield 133, 3) := by decide +kernel
theorem dX7_looked_28 : decode cX7_looked 28 = .ok (.iload_n 2, 1) := by decide +kernel
theorem dX7_looked_29 : decode cX7_looked 29 = .ok (.iconst 1, 1) := by decide +kernel
theorem dX7_looked_30 : decode cX7_looked 30 = .ok (.isub, 1) := by decide +kernel
theorem dX7_looked_31 : decode cX7_looked 31 = .ok (.iaload, 1) := by decide +kernel
theorem dX7_looked_32 : decode cX7_looked 32 = .ok (.iload_n 1, 1) := by decide +kernel
theorem dX7_looked_33 : decode cX7_looked 33 = .ok (.if_icmp .eq 25, 3) := by decide +kernel
theorem dX7_looked_36 : decode cX7_looked 36 = .ok (.aload_n 0, 1) := by decide +kernel
theorem dX7_looked_37 : decode cX7_looked 37 = .ok (.aload_n 0, 1) := by decide +kernel
theorem dX7_looked_38 : decode cX7_looked 38 = .ok (.getfield 133, 3) := by decide +kernel
theorem dX7_looked_41 : decode cX7_looked 41 = .ok (.iload_n 2, 1) := by decide +kernel
theorem dX7_looked_42 : decode cX7_looked 42 = .ok (.iconst 1, 1) := by decide +kernel
theorem dX7_looked_43 : decode cX7_looked 43 = .ok (.isub, 1) := by decide +kernel
theorem dX7_looked_44 : decode cX7_looked 44 = .ok (.iaload, 1) := by decide +kernel
theorem dX7_looked_45 : decode cX7_looked 45 = .ok (.iload_n 1, 1) := by decide +kernel
theorem dX7_looked_46 : decode cX7_looked 46 = .ok (.invokevirtual 318, 3) := by decide +kernel
theorem dX7_looked_49 : decode cX7_looked 49 = .ok (.aload_n 0, 1) := by decide +kernel
theorem dX7_looked_50 : decode cX7_looked 50 = .ok (.getfield 133, 3) := by decide +kernel
theorem dX7_looked_53 : decode cX7_looked 53 = .ok (.iload_n 2, 1) := by decide +kernel
theorem dX7_looked_54 : decode cX7_looked 54 = .ok (.iaload, 1) := by decide +kernel
theorem dX7_looked_55 : decode cX7_looked 55 = .ok (.if_icmp .eq 5, 3) := by decide +kernel
theorem dX7_looked_58 : decode cX7_looked 58 = .ok (.iload_n 2, 1) := by decide +kernel
theorem dX7_looked_59 : decode cX7_looked 59 = .ok (.ireturn, 1) := by decide +kernel
theorem dX7_looked_60 : decode cX7_looked 60 = .ok (.iinc 2 1, 3) := by decide +kernel
theorem dX7_looked_63 : decode cX7_looked 63 = .ok (.goto (-47), 3) := by decide +kernel
theorem dX7_looked_66 : decode cX7_looked 66 = .ok (.bipush (-5), 2) := by decide +kernel
theorem dX7_looked_68 : decode cX7_looked 68 = .ok (.ireturn, 1) := by decide +kernel
theorem dX7_judge_0 : decode cX7_judge 0 = .ok (.aload_n 0, 1) := by decide +kernel
theorem dX7_judge_1 : decode cX7_judge 1 = .ok (.iload_n 1, 1) := by decide +kernel
theorem dX7_judge_2 : decode cX7_judge 2 = .ok (.invokevirtual 351, 3) := by decide +kernel
theorem dX7_judge_5 : decode cX7_judge 5 = .ok (.ifCond .ne 5, 3) := by decide +kernel
theorem dX7_judge_8 : decode cX7_judge 8 = .ok (.iconst (-1), 1) := by decide +kernel
theorem dX7_judge_9 : decode cX7_judge 9 = .ok (.ireturn, 1) := by decide +kernel
theorem dX7_judge_10 : decode cX7_judge 10 = .ok (.aload_n 0, 1) := by decide +kernel
theorem dX7_judge_11 : decode cX7_judge 11 = .ok (.getfield 185, 3) := by decide +kernel
theorem dX7_judge_14 : decode cX7_judge 14 = .ok (.iload_n 1, 1) := by decide +kernel
theorem dX7_judge_15 : decode cX7_judge 15 = .ok (.iaload, 1) := by decide +kernel
theorem dX7_judge_16 : decode cX7_judge 16 = .ok (.ifCond .lt 16, 3) := by decide +kernel
theorem dX7_judge_19 : decode cX7_judge 19 = .ok (.aload_n 0, 1) := by decide +kernel
theorem dX7_judge_20 : decode cX7_judge 20 = .ok (.getfield 185, 3) := by decide +kernel
theorem dX7_judge_23 : decode cX7_judge 23 = .ok (.iload_n 1, 1) := by decide +kernel
theorem dX7_judge_24 : decode cX7_judge 24 = .ok (.iaload, 1) := by decide +kernel
theorem dX7_judge_25 : decode cX7_judge 25 = .ok (.iconst 2, 1) := by decide +kernel
theorem dX7_judge_26 : decode cX7_judge 26 = .ok (.if_icmp .eq 6, 3) := by decide +kernel
theorem dX7_judge_29 : decode cX7_judge 29 = .ok (.bipush (-12), 2) := by decide +kernel
theorem dX7_judge_31 : decode cX7_judge 31 = .ok (.ireturn, 1) := by decide +kernel
theorem dX7_judge_32 : decode cX7_judge 32 = .ok (.aload_n 0, 1) := by decide +kernel
theorem dX7_judge_33 : decode cX7_judge 33 = .ok (.invokevirtual 294, 3) := by decide +kernel
theorem dX7_judge_36 : decode cX7_judge 36 = .ok (.iconst 0, 1) := by decide +kernel
theorem dX7_judge_37 : decode cX7_judge 37 = .ok (.istore_n 3, 1) := by decide +kernel
theorem dX7_judge_38 : decode cX7_judge 38 = .ok (.iload_n 3, 1) := by decide +kernel
theorem dX7_judge_39 : decode cX7_judge 39 = .ok (.aload_n 0, 1) := by decide +kernel
theorem dX7_judge_40 : decode cX7_judge 40 = .ok (.getfield 7, 3) := by decide +kernel
theorem dX7_judge_43 : decode cX7_judge 43 = .ok (.if_icmp .ge 67, 3) := by decide +kernel
theorem dX7_judge_46 : decode cX7_judge 46 = .ok (.aload_n 0, 1) := by decide +kernel
theorem dX7_judge_47 : decode cX7_judge 47 = .ok (.getfield 185, 3) := by decide +kernel
theorem dX7_judge_50 : decode cX7_judge 50 = .ok (.iload_n 1, 1) := by decide +kernel
theorem dX7_judge_51 : decode cX7_judge 51 = .ok (.iaload, 1) := by decide +kernel
theorem dX7_judge_52 : decode cX7_judge 52 = .ok (.ifCond .lt 21, 3) := by decide +kernel
theorem dX7_judge_55 : decode cX7_judge 55 = .ok (.iload_n 2, 1) := by decide +kernel
theorem dX7_judge_56 : decode cX7_judge 56 = .ok (.ifCond .lt 17, 3) := by decide +kernel
theorem dX7_judge_59 : decode cX7_judge 59 = .ok (.iload_n 2, 1) := by decide +kernel
theorem dX7_judge_60 : decode cX7_judge 60 = .ok (.aload_n 0, 1) := by decide +kernel
theorem dX7_judge_61 : decode cX7_judge 61 = .ok (.getfield 188, 3) := by decide +kernel
theorem dX7_judge_64 : decode cX7_judge 64 = .ok (.iload_n 1, 1) := by decide +kernel
theorem dX7_judge_65 : decode cX7_judge 65 = .ok (.iaload, 1) := by decide +kernel
theorem dX7_judge_66 : decode cX7_judge 66 = .ok (.iload_n 3, 1) := by decide +kernel
theorem dX7_judge_67 : decode cX7_judge 67 = .ok (.isub, 1) := by decide +kernel
theorem dX7_judge_68 : decode cX7_judge 68 = .ok (.iconst 1, 1) := by decide +kernel
theorem dX7_judge_69 : decode cX7_judge 69 = .ok (.isub, 1) := by decide +kernel
theorem dX7_judge_70 : decode cX7_judge 70 = .ok (.if_icmp .le 8, 3) := by decide +kernel
theorem dX7_judge_73 : decode cX7_judge 73 = .ok (.bipush 100, 2) := by decide +kernel
theorem dX7_judge_75 : decode cX7_judge 75 = .ok (.iload_n 3, 1) := by decide +kernel
theorem dX7_judge_76 : decode cX7_judge 76 = .ok (.iadd, 1) := by decide +kernel
theorem dX7_judge_77 : decode cX7_judge 77 = .ok (.ireturn, 1) := by decide +kernel
theorem dX7_judge_78 : decode cX7_judge 78 = .ok (.aload_n 0, 1) := by decide +kernel
theorem dX7_judge_79 : decode cX7_judge 79 = .ok (.getfield 191, 3) := by decide +kernel
theorem dX7_judge_82 : decode cX7_judge 82 = .ok (.bipush 60, 2) := by decide +kernel
theorem dX7_judge_84 : decode cX7_judge 84 = .ok (.iload_n 1, 1) := by decide +kernel
theorem dX7_judge_85 : decode cX7_judge 85 = .ok (.imul, 1) := by decide +kernel
theorem dX7_judge_86 : decode cX7_judge 86 = .ok (.iload_n 2, 1) := by decide +kernel
theorem dX7_judge_87 : decode cX7_judge 87 = .ok (.iadd, 1) := by decide +kernel
theorem dX7_judge_88 : decode cX7_judge 88 = .ok (.iload_n 3, 1) := by decide +kernel
theorem dX7_judge_89 : decode cX7_judge 89 = .ok (.iadd, 1) := by decide +kernel
theorem dX7_judge_90 : decode cX7_judge 90 = .ok (.laload, 1) := by decide +kernel
theorem dX7_judge_91 : decode cX7_judge 91 = .ok (.aload_n 0, 1) := by decide +kernel
theorem dX7_judge_92 : decode cX7_judge 92 = .ok (.getfield 102, 3) := by decide +kernel
theorem dX7_judge_95 : decode cX7_judge 95 = .ok (.iload_n 3, 1) := by decide +kernel
theorem dX7_judge_96 : decode cX7_judge 96 = .ok (.iaload, 1) := by decide +kernel
theorem dX7_judge_97 : decode cX7_judge 97 = .ok (.i2l, 1) := by decide +kernel
theorem dX7_judge_98 : decode cX7_judge 98 = .ok (.lcmp, 1) := by decide +kernel
theorem dX7_judge_99 : decode cX7_judge 99 = .ok (.ifCond .eq 5, 3) := by decide +kernel
theorem dX7_judge_102 : decode cX7_judge 102 = .ok (.iload_n 3, 1) := by decide +kernel
theorem dX7_judge_103 : decode cX7_judge 103 = .ok (.ireturn, 1) := by decide +kernel
theorem dX7_judge_104 : decode cX7_judge 104 = .ok (.iinc 3 1, 3) := by decide +kernel
theorem dX7_judge_107 : decode cX7_judge 107 = .ok (.goto (-69), 3) := by decide +kernel
theorem dX7_judge_110 : decode cX7_judge 110 = .ok (.bipush (-5), 2) := by decide +kernel
theorem dX7_judge_112 : decode cX7_judge 112 = .ok (.ireturn, 1) := by decide +kernel
theorem dX7_image_0 : decode cX7_image 0 = .ok (.aload_n 0, 1) := by decide +kernel
theorem dX7_image_1 : decode cX7_image 1 = .ok (.iconst 1, 1) := by decide +kernel
theorem dX7_image_2 : decode cX7_image 2 = .ok (.putfield 136, 3) := by decide +kernel
theorem dX7_image_5 : decode cX7_image 5 = .ok (.aload_n 0, 1) := by decide +kernel
theorem dX7_image_6 : decode cX7_image 6 = .ok (.aload_n 0, 1) := by decide +kernel
theorem dX7_image_7 : decode cX7_image 7 = .ok (.getfield 44, 3) := by decide +kernel
theorem dX7_image_10 : decode cX7_image 10 = .ok (.putfield 140, 3) := by decide +kernel
theorem dX7_image_13 : decode cX7_image 13 = .ok (.aload_n 0, 1) := by decide +kernel
theorem dX7_image_14 : decode cX7_image 14 = .ok (.aload_n 0, 1) := by decide +kernel
theorem dX7_image_15 : decode cX7_image 15 = .ok (.getfield 7, 3) := by decide +kernel
theorem dX7_image_18 : decode cX7_image 18 = .ok (.putfield 143, 3) := by decide +kernel
theorem dX7_image_21 : decode cX7_image 21 = .ok (.aload_n 0, 1) := by decide +kernel
theorem dX7_image_22 : decode cX7_image 22 = .ok (.aload_n 0, 1) := by decide +kernel
theorem dX7_image_23 : decode cX7_image 23 = .ok (.getfield 13, 3) := by decide +kernel
theorem dX7_image_26 : decode cX7_image 26 = .ok (.putfield 146, 3) := by decide +kernel
theorem dX7_image_29 : decode cX7_image 29 = .ok (.aload_n 0, 1) := by decide +kernel
theorem dX7_image_30 : decode cX7_image 30 = .ok (.aload_n 0, 1) := by decide +kernel
theorem dX7_image_31 : decode cX7_image 31 = .ok (.getfield 130, 3) := by decide +kernel
theorem dX7_image_34 : decode cX7_image 34 = .ok (.putfield 149, 3) := by decide +kernel
theorem dX7_image_37 : decode cX7_image 37 = .ok (.iconst 0, 1) := by decide +kernel
theorem dX7_image_38 : decode cX7_image 38 = .ok (.istore_n 1, 1) := by decide +kernel
theorem dX7_image_39 : decode cX7_image 39 = .ok (.iload_n 1, 1) := by decide +kernel
theorem dX7_image_40 : decode cX7_image 40 = .ok (.bipush 7, 2) := by decide +kernel
theorem dX7_image_42 : decode cX7_image 42 = .ok (.if_icmp .ge 57, 3) := by decide +kernel
theorem dX7_image_45 : decode cX7_image 45 = .ok (.aload_n 0, 1) := by decide +kernel
theorem dX7_image_46 : decode cX7_image 46 = .ok (.getfield 152, 3) := by decide +kernel
theorem dX7_image_49 : decode cX7_image 49 = .ok (.iload_n 1, 1) := by decide +kernel
theorem dX7_image_50 : decode cX7_image 50 = .ok (.aload_n 0, 1) := by decide +kernel
theorem dX7_image_51 : decode cX7_image 51 = .ok (.getfield 16, 3) := by decide +kernel
theorem dX7_image_54 : decode cX7_image 54 = .ok (.iload_n 1, 1) := by decide +kernel
theorem dX7_image_55 : decode cX7_image 55 = .ok (.iaload, 1) := by decide +kernel
theorem dX7_image_56 : decode cX7_image 56 = .ok (.iastore, 1) := by decide +kernel
theorem dX7_image_57 : decode cX7_image 57 = .ok (.aload_n 0, 1) := by decide +kernel
theorem dX7_image_58 : decode cX7_image 58 = .ok (.getfield 155, 3) := by decide +kernel
theorem dX7_image_61 : decode cX7_image 61 = .ok (.iload_n 1, 1) := by decide +kernel
theorem dX7_image_62 : decode cX7_image 62 = .ok (.aload_n 0, 1) := by decide +kernel
theorem dX7_image_63 : decode cX7_image 63 = .ok (.getfield 20, 3) := by decide +kernel
theorem dX7_image_66 : decode cX7_image 66 = .ok (.iload_n 1, 1) := by decide +kernel
theorem dX7_image_67 : decode cX7_image 67 = .ok (.iaload, 1) := by decide +kernel
theorem dX7_image_68 : decode cX7_image 68 = .ok (.iastore, 1) := by decide +kernel
theorem dX7_image_69 : decode cX7_image 69 = .ok (.aload_n 0, 1) := by decide +kernel
theorem dX7_image_70 : decode cX7_image 70 = .ok (.getfield 158, 3) := by decide +kernel
theorem dX7_image_73 : decode cX7_image 73 = .ok (.iload_n 1, 1) := by decide +kernel
theorem dX7_image_74 : decode cX7_image 74 = .ok (.aload_n 0, 1) := by decide +kernel
theorem dX7_image_75 : decode cX7_image 75 = .ok (.getfield 23, 3) := by decide +kernel
theorem dX7_image_78 : decode cX7_image 78 = .ok (.iload_n 1, 1) := by decide +kernel
theorem dX7_image_79 : decode cX7_image 79 = .ok (.iaload, 1) := by decide +kernel
theorem dX7_image_80 : decode cX7_image 80 = .ok (.iastore, 1) := by decide +kernel
theorem dX7_image_81 : decode cX7_image 81 = .ok (.aload_n 0, 1) := by decide +kernel
theorem dX7_image_82 : decode cX7_image 82 = .ok (.getfield 161, 3) := by decide +kernel
theorem dX7_image_85 : decode cX7_image 85 = .ok (.iload_n 1, 1) := by decide +kernel
theorem dX7_image_86 : decode cX7_image 86 = .ok (.aload_n 0, 1) := by decide +kernel
theorem dX7_image_87 : decode cX7_image 87 = .ok (.getfield 26, 3) := by decide +kernel
theorem dX7_image_90 : decode cX7_image 90 = .ok (.iload_n 1, 1) := by decide +kernel
theorem dX7_image_91 : decode cX7_image 91 = .ok (.iaload, 1) := by decide +kernel
theorem dX7_image_92 : decode cX7_image 92 = .ok (.iastore, 1) := by decide +kernel
theorem dX7_image_93 : decode cX7_image 93 = .ok (.iinc 1 1, 3) := by decide +kernel
theorem dX7_image_96 : decode cX7_image 96 = .ok (.goto (-57), 3) := by decide +kernel
theorem dX7_image_99 : decode cX7_image 99 = .ok (.iconst 0, 1) := by decide +kernel
theorem dX7_image_100 : decode cX7_image 100 = .ok (.istore_n 1, 1) := by decide +kernel
theorem dX7_image_101 : decode cX7_image 101 = .ok (.iload_n 1, 1) := by decide +kernel
theorem dX7_image_102 : decode cX7_image 102 = .ok (.bipush 49, 2) := by decide +kernel
theorem dX7_image_104 : decode cX7_image 104 = .ok (.if_icmp .ge 21, 3) := by decide +kernel
theorem dX7_image_107 : decode cX7_image 107 = .ok (.aload_n 0, 1) := by decide +kernel
theorem dX7_image_108 : decode cX7_image 108 = .ok (.getfield 164, 3) := by decide +kernel
theorem dX7_image_111 : decode cX7_image 111 = .ok (.iload_n 1, 1) := by decide +kernel
theorem dX7_image_112 : decode cX7_image 112 = .ok (.aload_n 0, 1) := by decide +kernel
theorem dX7_image_113 : decode cX7_image 113 = .ok (.getfield 29, 3) := by decide +kernel
theorem dX7_image_116 : decode cX7_image 116 = .ok (.iload_n 1, 1) := by decide +kernel
theorem dX7_image_117 : decode cX7_image 117 = .ok (.iaload, 1) := by decide +kernel
theorem dX7_image_118 : decode cX7_image 118 = .ok (.iastore, 1) := by decide +kernel
theorem dX7_image_119 : decode cX7_image 119 = .ok (.iinc 1 1, 3) := by decide +kernel
theorem dX7_image_122 : decode cX7_image 122 = .ok (.goto (-21), 3) := by decide +kernel
theorem dX7_image_125 : decode cX7_image 125 = .ok (.iconst 0, 1) := by decide +kernel
theorem dX7_image_126 : decode cX7_image 126 = .ok (.istore_n 1, 1) := by decide +kernel
theorem dX7_image_127 : decode cX7_image 127 = .ok (.iload_n 1, 1) := by decide +kernel
theorem dX7_image_128 : decode cX7_image 128 = .ok (.bipush 8, 2) := by decide +kernel
theorem dX7_image_130 : decode cX7_image 130 = .ok (.if_icmp .ge 45, 3) := by decide +kernel
theorem dX7_image_133 : decode cX7_image 133 = .ok (.aload_n 0, 1) := by decide +kernel
theorem dX7_image_134 : decode cX7_image 134 = .ok (.getfield 167, 3) := by decide +kernel
theorem dX7_image_137 : decode cX7_image 137 = .ok (.iload_n 1, 1) := by decide +kernel
theorem dX7_image_138 : decode cX7_image 138 = .ok (.aload_n 0, 1) := by decide +kernel
theorem dX7_image_139 : decode cX7_image 139 = .ok (.getfield 32, 3) := by decide +kernel
theorem dX7_image_142 : decode cX7_image 142 = .ok (.iload_n 1, 1) := by decide +kernel
theorem dX7_image_143 : decode cX7_image 143 = .ok (.iaload, 1) := by decide +kernel
theorem dX7_image_144 : decode cX7_image 144 = .ok (.iastore, 1) := by decide +kernel
theorem dX7_image_145 : decode cX7_image 145 = .ok (.aload_n 0, 1) := by decide +kernel
theorem dX7_image_146 : decode cX7_image 146 = .ok (.getfield 170, 3) := by decide +kernel
theorem dX7_image_149 : decode cX7_image 149 = .ok (.iload_n 1, 1) := by decide +kernel
theorem dX7_image_150 : decode cX7_image 150 = .ok (.aload_n 0, 1) := by decide +kernel
theorem dX7_image_151 : decode cX7_image 151 = .ok (.getfield 35, 3) := by decide +kernel
theorem dX7_image_154 : decode cX7_image 154 = .ok (.iload_n 1, 1) := by decide +kernel
theorem dX7_image_155 : decode cX7_image 155 = .ok (.iaload, 1) := by decide +kernel
theorem dX7_image_156 : decode cX7_image 156 = .ok (.iastore, 1) := by decide +kernel
theorem dX7_image_157 : decode cX7_image 157 = .ok (.aload_n 0, 1) := by decide +kernel
theorem dX7_image_158 : decode cX7_image 158 = .ok (.getfield 173, 3) := by decide +kernel
theorem dX7_image_161 : decode cX7_image 161 = .ok (.iload_n 1, 1) := by decide +kernel
theorem dX7_image_162 : decode cX7_image 162 = .ok (.aload_n 0, 1) := by decide +kernel
theorem dX7_image_163 : decode cX7_image 163 = .ok (.getfield 38, 3) := by decide +kernel
theorem dX7_image_166 : decode cX7_image 166 = .ok (.iload_n 1, 1) := by decide +kernel
theorem dX7_image_167 : decode cX7_image 167 = .ok (.iaload, 1) := by decide +kernel
theorem dX7_image_168 : decode cX7_image 168 = .ok (.iastore, 1) := by decide +kernel
theorem dX7_image_169 : decode cX7_image 169 = .ok (.iinc 1 1, 3) := by decide +kernel
theorem dX7_image_172 : decode cX7_image 172 = .ok (.goto (-45), 3) := by decide +kernel
theorem dX7_image_175 : decode cX7_image 175 = .ok (.iconst 0, 1) := by decide +kernel
theorem dX7_image_176 : decode cX7_image 176 = .ok (.istore_n 1, 1) := by decide +kernel
theorem dX7_image_177 : decode cX7_image 177 = .ok (.iload_n 1, 1) := by decide +kernel
theorem dX7_image_178 : decode cX7_image 178 = .ok (.bipush 12, 2) := by decide +kernel
theorem dX7_image_180 : decode cX7_image 180 = .ok (.if_icmp .ge 21, 3) := by decide +kernel
theorem dX7_image_183 : decode cX7_image 183 = .ok (.aload_n 0, 1) := by decide +kernel
theorem dX7_image_184 : decode cX7_image 184 = .ok (.getfield 176, 3) := by decide +kernel
theorem dX7_image_187 : decode cX7_image 187 = .ok (.iload_n 1, 1) := by decide +kernel
theorem dX7_image_188 : decode cX7_image 188 = .ok (.aload_n 0, 1) := by decide +kernel
theorem dX7_image_189 : decode cX7_image 189 = .ok (.getfield 133, 3) := by decide +kernel
theorem dX7_image_192 : decode cX7_image 192 = .ok (.iload_n 1, 1) := by decide +kernel
theorem dX7_image_193 : decode cX7_image 193 = .ok (.iaload, 1) := by decide +kernel
theorem dX7_image_194 : decode cX7_image 194 = .ok (.iastore, 1) := by decide +kernel
theorem dX7_image_195 : decode cX7_image 195 = .ok (.iinc 1 1, 3) := by decide +kernel
theorem dX7_image_198 : decode cX7_image 198 = .ok (.goto (-21), 3) := by decide +kernel
theorem dX7_image_201 : decode cX7_image 201 = .ok (.aload_n 0, 1) := by decide +kernel
theorem dX7_image_202 : decode cX7_image 202 = .ok (.getfield 7, 3) := by decide +kernel
theorem dX7_image_205 : decode cX7_image 205 = .ok (.ireturn, 1) := by decide +kernel
theorem dX7_undo_0 : decode cX7_undo 0 = .ok (.aload_n 0, 1) := by decide +kernel
theorem dX7_undo_1 : decode cX7_undo 1 = .ok (.getfield 136, 3) := by decide +kernel
theorem dX7_undo_4 : decode cX7_undo 4 = .ok (.ifCond .ne 6, 3) := by decide +kernel
theorem dX7_undo_7 : decode cX7_undo 7 = .ok (.bipush (-3), 2) := by decide +kernel
theorem dX7_undo_9 : decode cX7_undo 9 = .ok (.ireturn, 1) := by decide +kernel
theorem dX7_undo_10 : decode cX7_undo 10 = .ok (.aload_n 0, 1) := by decide +kernel
theorem dX7_undo_11 : decode cX7_undo 11 = .ok (.aload_n 0, 1) := by decide +kernel
theorem dX7_undo_12 : decode cX7_undo 12 = .ok (.getfield 140, 3) := by decide +kernel
theorem dX7_undo_15 : decode cX7_undo 15 = .ok (.putfield 44, 3) := by decide +kernel
theorem dX7_undo_18 : decode cX7_undo 18 = .ok (.aload_n 0, 1) := by decide +kernel
theorem dX7_undo_19 : decode cX7_undo 19 = .ok (.aload_n 0, 1) := by decide +kernel
theorem dX7_undo_20 : decode cX7_undo 20 = .ok (.getfield 143, 3) := by decide +kernel
theorem dX7_undo_23 : decode cX7_undo 23 = .ok (.putfield 7, 3) := by decide +kernel
theorem dX7_undo_26 : decode cX7_undo 26 = .ok (.aload_n 0, 1) := by decide +kernel
theorem dX7_undo_27 : decode cX7_undo 27 = .ok (.aload_n 0, 1) := by decide +kernel
theorem dX7_undo_28 : decode cX7_undo 28 = .ok (.getfield 146, 3) := by decide +kernel
theorem dX7_undo_31 : decode cX7_undo 31 = .ok (.putfield 13, 3) := by decide +kernel
theorem dX7_undo_34 : decode cX7_undo 34 = .ok (.aload_n 0, 1) := by decide +kernel
theorem dX7_undo_35 : decode cX7_undo 35 = .ok (.aload_n 0, 1) := by decide +kernel
theorem dX7_undo_36 : decode cX7_undo 36 = .ok (.getfield 149, 3) := by decide +kernel
theorem dX7_undo_39 : decode cX7_undo 39 = .ok (.putfield 130, 3) := by decide +kernel
theorem dX7_undo_42 : decode cX7_undo 42 = .ok (.iconst 0, 1) := by decide +kernel
theorem dX7_undo_43 : decode cX7_undo 43 = .ok (.istore_n 1, 1) := by decide +kernel
theorem dX7_undo_44 : decode cX7_undo 44 = .ok (.iload_n 1, 1) := by decide +kernel
theorem dX7_undo_45 : decode cX7_undo 45 = .ok (.bipush 7, 2) := by decide +kernel
theorem dX7_undo_47 : decode cX7_undo 47 = .ok (.if_icmp .ge 57, 3) := by decide +kernel
theorem dX7_undo_50 : decode cX7_undo 50 = .ok (.aload_n 0, 1) := by decide +kernel
theorem dX7_undo_51 : decode cX7_undo 51 = .ok (.getfield 16, 3) := by decide +kernel
theorem dX7_undo_54 : decode cX7_undo 54 = .ok (.iload_n 1, 1) := by decide +kernel
theorem dX7_undo_55 : decode cX7_undo 55 = .ok (.aload_n 0, 1) := by decide +kernel
theorem dX7_undo_56 : decode cX7_undo 56 = .ok (.getfield 152, 3) := by decide +kernel
theorem dX7_undo_59 : decode cX7_undo 59 = .ok (.iload_n 1, 1) := by decide +kernel
theorem dX7_undo_60 : decode cX7_undo 60 = .ok (.iaload, 1) := by decide +kernel
theorem dX7_undo_61 : decode cX7_undo 61 = .ok (.iastore, 1) := by decide +kernel
theorem dX7_undo_62 : decode cX7_undo 62 = .ok (.aload_n 0, 1) := by decide +kernel
theorem dX7_undo_63 : decode cX7_undo 63 = .ok (.getfield 20, 3) := by decide +kernel
theorem dX7_undo_66 : decode cX7_undo 66 = .ok (.iload_n 1, 1) := by decide +kernel
theorem dX7_undo_67 : decode cX7_undo 67 = .ok (.aload_n 0, 1) := by decide +kernel
theorem dX7_undo_68 : decode cX7_undo 68 = .ok (.getfield 155, 3) := by decide +kernel
theorem dX7_undo_71 : decode cX7_undo 71 = .ok (.iload_n 1, 1) := by decide +kernel
theorem dX7_undo_72 : decode cX7_undo 72 = .ok (.iaload, 1) := by decide +kernel
theorem dX7_undo_73 : decode cX7_undo 73 = .ok (.iastore, 1) := by decide +kernel
theorem dX7_undo_74 : decode cX7_undo 74 = .ok (.aload_n 0, 1) := by decide +kernel
theorem dX7_undo_75 : decode cX7_undo 75 = .ok (.getfield 23, 3) := by decide +kernel
theorem dX7_undo_78 : decode cX7_undo 78 = .ok (.iload_n 1, 1) := by decide +kernel
theorem dX7_undo_79 : decode cX7_undo 79 = .ok (.aload_n 0, 1) := by decide +kernel
theorem dX7_undo_80 : decode cX7_undo 80 = .ok (.getfield 158, 3) := by decide +kernel
theorem dX7_undo_83 : decode cX7_undo 83 = .ok (.iload_n 1, 1) := by decide +kernel
theorem dX7_undo_84 : decode cX7_undo 84 = .ok (.iaload, 1) := by decide +kernel
theorem dX7_undo_85 : decode cX7_undo 85 = .ok (.iastore, 1) := by decide +kernel
theorem dX7_undo_86 : decode cX7_undo 86 = .ok (.aload_n 0, 1) := by decide +kernel
theorem dX7_undo_87 : decode cX7_undo 87 = .ok (.getfield 26, 3) := by decide +kernel
theorem dX7_undo_90 : decode cX7_undo 90 = .ok (.iload_n 1, 1) := by decide +kernel
theorem dX7_undo_91 : decode cX7_undo 91 = .ok (.aload_n 0, 1) := by decide +kernel
theorem dX7_undo_92 : decode cX7_undo 92 = .ok (.getfield 161, 3) := by decide +kernel
theorem dX7_undo_95 : decode cX7_undo 95 = .ok (.iload_n 1, 1) := by decide +kernel
theorem dX7_undo_96 : decode cX7_undo 96 = .ok (.iaload, 1) := by decide +kernel
theorem dX7_undo_97 : decode cX7_undo 97 = .ok (.iastore, 1) := by decide +kernel
theorem dX7_undo_98 : decode cX7_undo 98 = .ok (.iinc 1 1, 3) := by decide +kernel
theorem dX7_undo_101 : decode cX7_undo 101 = .ok (.goto (-57), 3) := by decide +kernel
theorem dX7_undo_104 : decode cX7_undo 104 = .ok (.iconst 0, 1) := by decide +kernel
theorem dX7_undo_105 : decode cX7_undo 105 = .ok (.istore_n 1, 1) := by decide +kernel
theorem dX7_undo_106 : decode cX7_undo 106 = .ok (.iload_n 1, 1) := by decide +kernel
theorem dX7_undo_107 : decode cX7_undo 107 = .ok (.bipush 49, 2) := by decide +kernel
theorem dX7_undo_109 : decode cX7_undo 109 = .ok (.if_icmp .ge 21, 3) := by decide +kernel
theorem dX7_undo_112 : decode cX7_undo 112 = .ok (.aload_n 0, 1) := by decide +kernel
theorem dX7_undo_113 : decode cX7_undo 113 = .ok (.getfield 29, 3) := by decide +kernel
theorem dX7_undo_116 : decode cX7_undo 116 = .ok (.iload_n 1, 1) := by decide +kernel
theorem dX7_undo_117 : decode cX7_undo 117 = .ok (.aload_n 0, 1) := by decide +kernel
theorem dX7_undo_118 : decode cX7_undo 118 = .ok (.getfield 164, 3) := by decide +kernel
theorem dX7_undo_121 : decode cX7_undo 121 = .ok (.iload_n 1, 1) := by decide +kernel
theorem dX7_undo_122 : decode cX7_undo 122 = .ok (.iaload, 1) := by decide +kernel
theorem dX7_undo_123 : decode cX7_undo 123 = .ok (.iastore, 1) := by decide +kernel
theorem dX7_undo_124 : decode cX7_undo 124 = .ok (.iinc 1 1, 3) := by decide +kernel
theorem dX7_undo_127 : decode cX7_undo 127 = .ok (.goto (-21), 3) := by decide +kernel
theorem dX7_undo_130 : decode cX7_undo 130 = .ok (.iconst 0, 1) := by decide +kernel
theorem dX7_undo_131 : decode cX7_undo 131 = .ok (.istore_n 1, 1) := by decide +kernel
theorem dX7_undo_132 : decode cX7_undo 132 = .ok (.iload_n 1, 1) := by decide +kernel
theorem dX7_undo_133 : decode cX7_undo 133 = .ok (.bipush 8, 2) := by decide +kernel
theorem dX7_undo_135 : decode cX7_undo 135 = .ok (.if_icmp .ge 45, 3) := by decide +kernel
theorem dX7_undo_138 : decode cX7_undo 138 = .ok (.aload_n 0, 1) := by decide +kernel
theorem dX7_undo_139 : decode cX7_undo 139 = .ok (.getfield 32, 3) := by decide +kernel
theorem dX7_undo_142 : decode cX7_undo 142 = .ok (.iload_n 1, 1) := by decide +kernel
theorem dX7_undo_143 : decode cX7_undo 143 = .ok (.aload_n 0, 1) := by decide +kernel
theorem dX7_undo_144 : decode cX7_undo 144 = .ok (.getfield 167, 3) := by decide +kernel
theorem dX7_undo_147 : decode cX7_undo 147 = .ok (.iload_n 1, 1) := by decide +kernel
theorem dX7_undo_148 : decode cX7_undo 148 = .ok (.iaload, 1) := by decide +kernel
theorem dX7_undo_149 : decode cX7_undo 149 = .ok (.iastore, 1) := by decide +kernel
theorem dX7_undo_150 : decode cX7_undo 150 = .ok (.aload_n 0, 1) := by decide +kernel
theorem dX7_undo_151 : decode cX7_undo 151 = .ok (.getfield 35, 3) := by decide +kernel
theorem dX7_undo_154 : decode cX7_undo 154 = .ok (.iload_n 1, 1) := by decide +kernel
theorem dX7_undo_155 : decode cX7_undo 155 = .ok (.aload_n 0, 1) := by decide +kernel
theorem dX7_undo_156 : decode cX7_undo 156 = .ok (.getfield 170, 3) := by decide +kernel
theorem dX7_undo_159 : decode cX7_undo 159 = .ok (.iload_n 1, 1) := by decide +kernel
theorem dX7_undo_160 : decode cX7_undo 160 = .ok (.iaload, 1) := by decide +kernel
theorem dX7_undo_161 : decode cX7_undo 161 = .ok (.iastore, 1) := by decide +kernel
theorem dX7_undo_162 : decode cX7_undo 162 = .ok (.aload_n 0, 1) := by decide +kernel
theorem dX7_undo_163 : decode cX7_undo 163 = .ok (.getfield 38, 3) := by decide +kernel
theorem dX7_undo_166 : decode cX7_undo 166 = .ok (.iload_n 1, 1) := by decide +kernel
theorem dX7_undo_167 : decode cX7_undo 167 = .ok (.aload_n 0, 1) := by decide +kernel
theorem dX7_undo_168 : decode cX7_undo 168 = .ok (.getfield 173, 3) := by decide +kernel
theorem dX7_undo_171 : decode cX7_undo 171 = .ok (.iload_n 1, 1) := by decide +kernel
theorem dX7_undo_172 : decode cX7_undo 172 = .ok (.iaload, 1) := by decide +kernel
theorem dX7_undo_173 : decode cX7_undo 173 = .ok (.iastore, 1) := by decide +kernel
theorem dX7_undo_174 : decode cX7_undo 174 = .ok (.iinc 1 1, 3) := by decide +kernel
theorem dX7_undo_177 : decode cX7_undo 177 = .ok (.goto (-45), 3) := by decide +kernel
theorem dX7_undo_180 : decode cX7_undo 180 = .ok (.iconst 0, 1) := by decide +kernel
theorem dX7_undo_181 : decode cX7_undo 181 = .ok (.istore_n 1, 1) := by decide +kernel
theorem dX7_undo_182 : decode cX7_undo 182 = .ok (.iload_n 1, 1) := by decide +kernel
theorem dX7_undo_183 : decode cX7_undo 183 = .ok (.bipush 12, 2) := by decide +kernel
theorem dX7_undo_185 : decode cX7_undo 185 = .ok (.if_icmp .ge 21, 3) := by decide +kernel
theorem dX7_undo_188 : decode cX7_undo 188 = .ok (.aload_n 0, 1) := by decide +kernel
theorem dX7_undo_189 : decode cX7_undo 189 = .ok (.getfield 133, 3) := by decide +kernel
theorem dX7_undo_192 : decode cX7_undo 192 = .ok (.iload_n 1, 1) := by decide +kernel
theorem dX7_undo_193 : decode cX7_undo 193 = .ok (.aload_n 0, 1) := by decide +kernel
theorem dX7_undo_194 : decode cX7_undo 194 = .ok (.getfield 176, 3) := by decide +kernel
theorem dX7_undo_197 : decode cX7_undo 197 = .ok (.iload_n 1, 1) := by decide +kernel
theorem dX7_undo_198 : decode cX7_undo 198 = .ok (.iaload, 1) := by decide +kernel
theorem dX7_undo_199 : decode cX7_undo 199 = .ok (.iastore, 1) := by decide +kernel
theorem dX7_undo_200 : decode cX7_undo 200 = .ok (.iinc 1 1, 3) := by decide +kernel
theorem dX7_undo_203 : decode cX7_undo 203 = .ok (.goto (-21), 3) := by decide +kernel
theorem dX7_undo_206 : decode cX7_undo 206 = .ok (.aload_n 0, 1) := by decide +kernel
theorem dX7_undo_207 : decode cX7_undo 207 = .ok (.getfield 7, 3) := by decide +kernel
theorem dX7_undo_210 : decode cX7_undo 210 = .ok (.ireturn, 1) := by decide +kernel
theorem dX7_body_0 : decode cX7_body 0 = .ok (.aload_n 0, 1) := by decide +kernel
theorem dX7_body_1 : decode cX7_body 1 = .ok (.getfield 179, 3) := by decide +kernel
theorem dX7_body_4 : decode cX7_body 4 = .ok (.bipush 20, 2) := by decide +kernel
theorem dX7_body_6 : decode cX7_body 6 = .ok (.if_icmp .ge 13, 3) := by decide +kernel
theorem dX7_body_9 : decode cX7_body 9 = .ok (.aload_n 0, 1) := by decide +kernel
theorem dX7_body_10 : decode cX7_body 10 = .ok (.getfield 182, 3) := by decide +kernel
theorem dX7_body_13 : decode cX7_body 13 = .ok (.aload_n 0, 1) := by decide +kernel
theorem dX7_body_14 : decode cX7_body 14 = .ok (.getfield 179, 3) := by decide +kernel
theorem dX7_body_17 : decode cX7_body 17 = .ok (.iload_n 1, 1) := by decide +kernel
theorem dX7_body_18 : decode cX7_body 18 = .ok (.iastore, 1) := by decide +kernel
theorem dX7_body_19 : decode cX7_body 19 = .ok (.aload_n 0, 1) := by decide +kernel
theorem dX7_body_20 : decode cX7_body 20 = .ok (.dup, 1) := by decide +kernel
theorem dX7_body_21 : decode cX7_body 21 = .ok (.getfield 179, 3) := by decide +kernel
theorem dX7_body_24 : decode cX7_body 24 = .ok (.iconst 1, 1) := by decide +kernel
theorem dX7_body_25 : decode cX7_body 25 = .ok (.iadd, 1) := by decide +kernel
theorem dX7_body_26 : decode cX7_body 26 = .ok (.putfield 179, 3) := by decide +kernel
theorem dX7_body_29 : decode cX7_body 29 = .ok (.return_, 1) := by decide +kernel
theorem dX7_placePoints_0 : decode cX7_placePoints 0 = .ok (.aload_n 0, 1) := by decide +kernel
theorem dX7_placePoints_1 : decode cX7_placePoints 1 = .ok (.bipush 10, 2) := by decide +kernel
theorem dX7_placePoints_3 : decode cX7_placePoints 3 = .ok (.invokevirtual 354, 3) := by decide +kernel
theorem dX7_placePoints_6 : decode cX7_placePoints 6 = .ok (.iload_n 2, 1) := by decide +kernel
theorem dX7_placePoints_7 : decode cX7_placePoints 7 = .ok (.iload_n 1, 1) := by decide +kernel
theorem dX7_placePoints_8 : decode cX7_placePoints 8 = .ok (.iadd, 1) := by decide +kernel
theorem dX7_placePoints_9 : decode cX7_placePoints 9 = .ok (.ireturn, 1) := by decide +kernel
theorem dX7_pointsAct_0 : decode cX7_pointsAct 0 = .ok (.aload_n 0, 1) := by decide +kernel
theorem dX7_pointsAct_1 : decode cX7_pointsAct 1 = .ok (.getfield 16, 3) := by decide +kernel
theorem dX7_pointsAct_4 : decode cX7_pointsAct 4 = .ok (.iload_n 1, 1) := by decide +kernel
theorem dX7_pointsAct_5 : decode cX7_pointsAct 5 = .ok (.iaload, 1) := by decide +kernel
theorem dX7_pointsAct_6 : decode cX7_pointsAct 6 = .ok (.tableswitch 83 2 6 #[34, 83, 49, 34, 63], 34) := by decide +kernel
theorem dX7_pointsAct_40 : decode cX7_pointsAct 40 = .ok (.aload_n 0, 1) := by decide +kernel
theorem dX7_pointsAct_41 : decode cX7_pointsAct 41 = .ok (.bipush 30, 2) := by decide +kernel
theorem dX7_pointsAct_43 : decode cX7_pointsAct 43 = .ok (.invokevirtual 354, 3) := by decide +kernel
theorem dX7_pointsAct_46 : decode cX7_pointsAct 46 = .ok (.aload_n 0, 1) := by decide +kernel
theorem dX7_pointsAct_47 : decode cX7_pointsAct 47 = .ok (.iload_n 1, 1) := by decide +kernel
theorem dX7_pointsAct_48 : decode cX7_pointsAct 48 = .ok (.iload_n 2, 1) := by decide +kernel
theorem dX7_pointsAct_49 : decode cX7_pointsAct 49 = .ok (.iconst 3, 1) := by decide +kernel
theorem dX7_pointsAct_50 : decode cX7_pointsAct 50 = .ok (.imul, 1) := by decide +kernel
theorem dX7_pointsAct_51 : decode cX7_pointsAct 51 = .ok (.invokevirtual 357, 3) := by decide +kernel
theorem dX7_pointsAct_54 : decode cX7_pointsAct 54 = .ok (.ireturn, 1) := by decide +kernel
theorem dX7_pointsAct_55 : decode cX7_pointsAct 55 = .ok (.aload_n 0, 1) := by decide +kernel
theorem dX7_pointsAct_56 : decode cX7_pointsAct 56 = .ok (.bipush 50, 2) := by decide +kernel
