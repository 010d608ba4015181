theorem dX6_land_11 : decode cX6_land 11 = .ok (.ireturn, 1) := by decide +kernel
theorem dX6_land_12 : decode cX6_land 12 = .ok (.aload_n 0, 1) := by decide +kernel
theorem dX6_land_13 : decode cX6_land 13 = .ok (.getfield 43, 3) := by decide +kernel
theorem dX6_land_16 : decode cX6_land 16 = .ok (.aload_n 0, 1) := by decide +kernel
theorem dX6_land_17 : decode cX6_land 17 = .ok (.getfield 36, 3) := by decide +kernel
theorem dX6_land_20 : decode cX6_land 20 = .ok (.aload_n 0, 1) := by decide +kernel
theorem dX6_land_21 : decode cX6_land 21 = .ok (.getfield 140, 3) := by decide +kernel
theorem dX6_land_24 : decode cX6_land 24 = .ok (.aaload, 1) := by decide +kernel
theorem dX6_land_25 : decode cX6_land 25 = .ok (.invokevirtual 143, 3) := by decide +kernel
theorem dX6_land_28 : decode cX6_land 28 = .ok (.istore_n 1, 1) := by decide +kernel
theorem dX6_land_29 : decode cX6_land 29 = .ok (.aload_n 0, 1) := by decide +kernel
theorem dX6_land_30 : decode cX6_land 30 = .ok (.getfield 43, 3) := by decide +kernel
theorem dX6_land_33 : decode cX6_land 33 = .ok (.invokevirtual 147, 3) := by decide +kernel
theorem dX6_land_36 : decode cX6_land 36 = .ok (.iload_n 1, 1) := by decide +kernel
theorem dX6_land_37 : decode cX6_land 37 = .ok (.ifCond .lt 8, 3) := by decide +kernel
theorem dX6_land_40 : decode cX6_land 40 = .ok (.bipush (-10), 2) := by decide +kernel
theorem dX6_land_42 : decode cX6_land 42 = .ok (.iload_n 1, 1) := by decide +kernel
theorem dX6_land_43 : decode cX6_land 43 = .ok (.isub, 1) := by decide +kernel
theorem dX6_land_44 : decode cX6_land 44 = .ok (.ireturn, 1) := by decide +kernel
theorem dX6_land_45 : decode cX6_land 45 = .ok (.aload_n 0, 1) := by decide +kernel
theorem dX6_land_46 : decode cX6_land 46 = .ok (.getfield 22, 3) := by decide +kernel
theorem dX6_land_49 : decode cX6_land 49 = .ok (.aload_n 0, 1) := by decide +kernel
theorem dX6_land_50 : decode cX6_land 50 = .ok (.getfield 140, 3) := by decide +kernel
theorem dX6_land_53 : decode cX6_land 53 = .ok (.putfield 150, 3) := by decide +kernel
theorem dX6_land_56 : decode cX6_land 56 = .ok (.aload_n 0, 1) := by decide +kernel
theorem dX6_land_57 : decode cX6_land 57 = .ok (.dup, 1) := by decide +kernel
theorem dX6_land_58 : decode cX6_land 58 = .ok (.getfield 140, 3) := by decide +kernel
theorem dX6_land_61 : decode cX6_land 61 = .ok (.iconst 1, 1) := by decide +kernel
theorem dX6_land_62 : decode cX6_land 62 = .ok (.iadd, 1) := by decide +kernel
theorem dX6_land_63 : decode cX6_land 63 = .ok (.putfield 140, 3) := by decide +kernel
theorem dX6_land_66 : decode cX6_land 66 = .ok (.aload_n 0, 1) := by decide +kernel
theorem dX6_land_67 : decode cX6_land 67 = .ok (.getfield 22, 3) := by decide +kernel
theorem dX6_land_70 : decode cX6_land 70 = .ok (.getfield 150, 3) := by decide +kernel
theorem dX6_land_73 : decode cX6_land 73 = .ok (.ireturn, 1) := by decide +kernel
theorem dX6_told_0 : decode cX6_told 0 = .ok (.iload_n 1, 1) := by decide +kernel
theorem dX6_told_1 : decode cX6_told 1 = .ok (.lookupswitch 43 #[(0, 27), (1, 35)], 27) := by decide +kernel
theorem dX6_told_28 : decode cX6_told 28 = .ok (.aload_n 0, 1) := by decide +kernel
theorem dX6_told_29 : decode cX6_told 29 = .ok (.invokevirtual 153, 3) := by decide +kernel
theorem dX6_told_32 : decode cX6_told 32 = .ok (.getfield 157, 3) := by decide +kernel
theorem dX6_told_35 : decode cX6_told 35 = .ok (.ireturn, 1) := by decide +kernel
theorem dX6_told_36 : decode cX6_told 36 = .ok (.aload_n 0, 1) := by decide +kernel
theorem dX6_told_37 : decode cX6_told 37 = .ok (.getfield 22, 3) := by decide +kernel
theorem dX6_told_40 : decode cX6_told 40 = .ok (.invokevirtual 160, 3) := by decide +kernel
theorem dX6_told_43 : decode cX6_told 43 = .ok (.ireturn, 1) := by decide +kernel
theorem dX6_told_44 : decode cX6_told 44 = .ok (.iconst (-1), 1) := by decide +kernel
theorem dX6_told_45 : decode cX6_told 45 = .ok (.ireturn, 1) := by decide +kernel
theorem dX6_way_0 : decode cX6_way 0 = .ok (.aload_n 0, 1) := by decide +kernel
theorem dX6_way_1 : decode cX6_way 1 = .ok (.getfield 22, 3) := by decide +kernel
theorem dX6_way_4 : decode cX6_way 4 = .ok (.iload_n 1, 1) := by decide +kernel
theorem dX6_way_5 : decode cX6_way 5 = .ok (.invokevirtual 69, 3) := by decide +kernel
theorem dX6_way_8 : decode cX6_way 8 = .ok (.ifCond .eq 14, 3) := by decide +kernel
theorem dX6_way_11 : decode cX6_way 11 = .ok (.aload_n 0, 1) := by decide +kernel
theorem dX6_way_12 : decode cX6_way 12 = .ok (.getfield 22, 3) := by decide +kernel
theorem dX6_way_15 : decode cX6_way 15 = .ok (.iload_n 2, 1) := by decide +kernel
theorem dX6_way_16 : decode cX6_way 16 = .ok (.invokevirtual 69, 3) := by decide +kernel
theorem dX6_way_19 : decode cX6_way 19 = .ok (.ifCond .ne 5, 3) := by decide +kernel
theorem dX6_way_22 : decode cX6_way 22 = .ok (.iconst (-1), 1) := by decide +kernel
theorem dX6_way_23 : decode cX6_way 23 = .ok (.ireturn, 1) := by decide +kernel
theorem dX6_way_24 : decode cX6_way 24 = .ok (.aload_n 0, 1) := by decide +kernel
theorem dX6_way_25 : decode cX6_way 25 = .ok (.invokevirtual 83, 3) := by decide +kernel
theorem dX6_way_28 : decode cX6_way 28 = .ok (.pop, 1) := by decide +kernel
theorem dX6_way_29 : decode cX6_way 29 = .ok (.aload_n 0, 1) := by decide +kernel
theorem dX6_way_30 : decode cX6_way 30 = .ok (.getfield 12, 3) := by decide +kernel
theorem dX6_way_33 : decode cX6_way 33 = .ok (.iload_n 1, 1) := by decide +kernel
theorem dX6_way_34 : decode cX6_way 34 = .ok (.iload_n 2, 1) := by decide +kernel
theorem dX6_way_35 : decode cX6_way 35 = .ok (.invokevirtual 164, 3) := by decide +kernel
theorem dX6_way_38 : decode cX6_way 38 = .ok (.ifCond .eq 19, 3) := by decide +kernel
theorem dX6_way_41 : decode cX6_way 41 = .ok (.aload_n 0, 1) := by decide +kernel
theorem dX6_way_42 : decode cX6_way 42 = .ok (.getfield 12, 3) := by decide +kernel
theorem dX6_way_45 : decode cX6_way 45 = .ok (.getfield 167, 3) := by decide +kernel
theorem dX6_way_48 : decode cX6_way 48 = .ok (.iload_n 1, 1) := by decide +kernel
theorem dX6_way_49 : decode cX6_way 49 = .ok (.iload_n 2, 1) := by decide +kernel
theorem dX6_way_50 : decode cX6_way 50 = .ok (.invokestatic 100, 3) := by decide +kernel
theorem dX6_way_53 : decode cX6_way 53 = .ok (.iaload, 1) := by decide +kernel
theorem dX6_way_54 : decode cX6_way 54 = .ok (.goto 5, 3) := by decide +kernel
theorem dX6_way_57 : decode cX6_way 57 = .ok (.bipush (-5), 2) := by decide +kernel
theorem dX6_way_59 : decode cX6_way 59 = .ok (.ireturn, 1) := by decide +kernel
theorem dX6_toward_0 : decode cX6_toward 0 = .ok (.aload_n 0, 1) := by decide +kernel
theorem dX6_toward_1 : decode cX6_toward 1 = .ok (.getfield 22, 3) := by decide +kernel
theorem dX6_toward_4 : decode cX6_toward 4 = .ok (.iload_n 1, 1) := by decide +kernel
theorem dX6_toward_5 : decode cX6_toward 5 = .ok (.invokevirtual 69, 3) := by decide +kernel
theorem dX6_toward_8 : decode cX6_toward 8 = .ok (.ifCond .eq 14, 3) := by decide +kernel
theorem dX6_toward_11 : decode cX6_toward 11 = .ok (.aload_n 0, 1) := by decide +kernel
theorem dX6_toward_12 : decode cX6_toward 12 = .ok (.getfield 22, 3) := by decide +kernel
theorem dX6_toward_15 : decode cX6_toward 15 = .ok (.iload_n 2, 1) := by decide +kernel
theorem dX6_toward_16 : decode cX6_toward 16 = .ok (.invokevirtual 69, 3) := by decide +kernel
theorem dX6_toward_19 : decode cX6_toward 19 = .ok (.ifCond .ne 5, 3) := by decide +kernel
theorem dX6_toward_22 : decode cX6_toward 22 = .ok (.iconst (-1), 1) := by decide +kernel
theorem dX6_toward_23 : decode cX6_toward 23 = .ok (.ireturn, 1) := by decide +kernel
theorem dX6_toward_24 : decode cX6_toward 24 = .ok (.aload_n 0, 1) := by decide +kernel
theorem dX6_toward_25 : decode cX6_toward 25 = .ok (.invokevirtual 83, 3) := by decide +kernel
theorem dX6_toward_28 : decode cX6_toward 28 = .ok (.getfield 170, 3) := by decide +kernel
theorem dX6_toward_31 : decode cX6_toward 31 = .ok (.iload_n 1, 1) := by decide +kernel
theorem dX6_toward_32 : decode cX6_toward 32 = .ok (.iload_n 2, 1) := by decide +kernel
theorem dX6_toward_33 : decode cX6_toward 33 = .ok (.invokestatic 100, 3) := by decide +kernel
theorem dX6_toward_36 : decode cX6_toward 36 = .ok (.iaload, 1) := by decide +kernel
theorem dX6_toward_37 : decode cX6_toward 37 = .ok (.ireturn, 1) := by decide +kernel
theorem dX6_next_0 : decode cX6_next 0 = .ok (.aload_n 0, 1) := by decide +kernel
theorem dX6_next_1 : decode cX6_next 1 = .ok (.getfield 22, 3) := by decide +kernel
theorem dX6_next_4 : decode cX6_next 4 = .ok (.iload_n 1, 1) := by decide +kernel
theorem dX6_next_5 : decode cX6_next 5 = .ok (.invokevirtual 69, 3) := by decide +kernel
theorem dX6_next_8 : decode cX6_next 8 = .ok (.ifCond .eq 14, 3) := by decide +kernel
theorem dX6_next_11 : decode cX6_next 11 = .ok (.aload_n 0, 1) := by decide +kernel
theorem dX6_next_12 : decode cX6_next 12 = .ok (.getfield 22, 3) := by decide +kernel
theorem dX6_next_15 : decode cX6_next 15 = .ok (.iload_n 2, 1) := by decide +kernel
theorem dX6_next_16 : decode cX6_next 16 = .ok (.invokevirtual 69, 3) := by decide +kernel
theorem dX6_next_19 : decode cX6_next 19 = .ok (.ifCond .ne 5, 3) := by decide +kernel
theorem dX6_next_22 : decode cX6_next 22 = .ok (.iconst (-1), 1) := by decide +kernel
theorem dX6_next_23 : decode cX6_next 23 = .ok (.ireturn, 1) := by decide +kernel
theorem dX6_next_24 : decode cX6_next 24 = .ok (.iload_n 1, 1) := by decide +kernel
theorem dX6_next_25 : decode cX6_next 25 = .ok (.iload_n 2, 1) := by decide +kernel
theorem dX6_next_26 : decode cX6_next 26 = .ok (.if_icmp .ne 6, 3) := by decide +kernel
theorem dX6_next_29 : decode cX6_next 29 = .ok (.bipush (-2), 2) := by decide +kernel
theorem dX6_next_31 : decode cX6_next 31 = .ok (.ireturn, 1) := by decide +kernel
theorem dX6_next_32 : decode cX6_next 32 = .ok (.aload_n 0, 1) := by decide +kernel
theorem dX6_next_33 : decode cX6_next 33 = .ok (.invokevirtual 83, 3) := by decide +kernel
theorem dX6_next_36 : decode cX6_next 36 = .ok (.getfield 173, 3) := by decide +kernel
theorem dX6_next_39 : decode cX6_next 39 = .ok (.iload_n 1, 1) := by decide +kernel
theorem dX6_next_40 : decode cX6_next 40 = .ok (.iload_n 2, 1) := by decide +kernel
theorem dX6_next_41 : decode cX6_next 41 = .ok (.invokestatic 100, 3) := by decide +kernel
theorem dX6_next_44 : decode cX6_next 44 = .ok (.iaload, 1) := by decide +kernel
theorem dX6_next_45 : decode cX6_next 45 = .ok (.ireturn, 1) := by decide +kernel
theorem dX6_gone_0 : decode cX6_gone 0 = .ok (.aload_n 0, 1) := by decide +kernel
theorem dX6_gone_1 : decode cX6_gone 1 = .ok (.getfield 22, 3) := by decide +kernel
theorem dX6_gone_4 : decode cX6_gone 4 = .ok (.iload_n 1, 1) := by decide +kernel
theorem dX6_gone_5 : decode cX6_gone 5 = .ok (.invokevirtual 69, 3) := by decide +kernel
theorem dX6_gone_8 : decode cX6_gone 8 = .ok (.ifCond .eq 21, 3) := by decide +kernel
theorem dX6_gone_11 : decode cX6_gone 11 = .ok (.aload_n 0, 1) := by decide +kernel
theorem dX6_gone_12 : decode cX6_gone 12 = .ok (.getfield 22, 3) := by decide +kernel
theorem dX6_gone_15 : decode cX6_gone 15 = .ok (.iload_n 2, 1) := by decide +kernel
theorem dX6_gone_16 : decode cX6_gone 16 = .ok (.invokevirtual 69, 3) := by decide +kernel
theorem dX6_gone_19 : decode cX6_gone 19 = .ok (.ifCond .eq 10, 3) := by decide +kernel
theorem dX6_gone_22 : decode cX6_gone 22 = .ok (.iload_n 3, 1) := by decide +kernel
theorem dX6_gone_23 : decode cX6_gone 23 = .ok (.invokestatic 176, 3) := by decide +kernel
theorem dX6_gone_26 : decode cX6_gone 26 = .ok (.ifCond .ne 5, 3) := by decide +kernel
theorem dX6_gone_29 : decode cX6_gone 29 = .ok (.iconst (-1), 1) := by decide +kernel
theorem dX6_gone_30 : decode cX6_gone 30 = .ok (.ireturn, 1) := by decide +kernel
theorem dX6_gone_31 : decode cX6_gone 31 = .ok (.iload_n 1, 1) := by decide +kernel
theorem dX6_gone_32 : decode cX6_gone 32 = .ok (.iload_n 2, 1) := by decide +kernel
theorem dX6_gone_33 : decode cX6_gone 33 = .ok (.if_icmp .ne 6, 3) := by decide +kernel
theorem dX6_gone_36 : decode cX6_gone 36 = .ok (.bipush (-2), 2) := by decide +kernel
theorem dX6_gone_38 : decode cX6_gone 38 = .ok (.ireturn, 1) := by decide +kernel
theorem dX6_gone_39 : decode cX6_gone 39 = .ok (.aload_n 0, 1) := by decide +kernel
theorem dX6_gone_40 : decode cX6_gone 40 = .ok (.invokevirtual 83, 3) := by decide +kernel
theorem dX6_gone_43 : decode cX6_gone 43 = .ok (.iload_n 1, 1) := by decide +kernel
theorem dX6_gone_44 : decode cX6_gone 44 = .ok (.iload_n 2, 1) := by decide +kernel
theorem dX6_gone_45 : decode cX6_gone 45 = .ok (.invokevirtual 179, 3) := by decide +kernel
theorem dX6_gone_48 : decode cX6_gone 48 = .ok (.iload_n 2, 1) := by decide +kernel
theorem dX6_gone_49 : decode cX6_gone 49 = .ok (.if_icmp .eq 6, 3) := by decide +kernel
theorem dX6_gone_52 : decode cX6_gone 52 = .ok (.bipush (-5), 2) := by decide +kernel
theorem dX6_gone_54 : decode cX6_gone 54 = .ok (.ireturn, 1) := by decide +kernel
theorem dX6_gone_55 : decode cX6_gone 55 = .ok (.iload_n 3, 1) := by decide +kernel
theorem dX6_gone_56 : decode cX6_gone 56 = .ok (.ifCond .ne 13, 3) := by decide +kernel
theorem dX6_gone_59 : decode cX6_gone 59 = .ok (.aload_n 0, 1) := by decide +kernel
theorem dX6_gone_60 : decode cX6_gone 60 = .ok (.getfield 12, 3) := by decide +kernel
theorem dX6_gone_63 : decode cX6_gone 63 = .ok (.getfield 182, 3) := by decide +kernel
theorem dX6_gone_66 : decode cX6_gone 66 = .ok (.goto 10, 3) := by decide +kernel
theorem dX6_gone_69 : decode cX6_gone 69 = .ok (.aload_n 0, 1) := by decide +kernel
theorem dX6_gone_70 : decode cX6_gone 70 = .ok (.getfield 12, 3) := by decide +kernel
theorem dX6_gone_73 : decode cX6_gone 73 = .ok (.getfield 185, 3) := by decide +kernel
theorem dX6_gone_76 : decode cX6_gone 76 = .ok (.ireturn, 1) := by decide +kernel
theorem dX6_lost_0 : decode cX6_lost 0 = .ok (.iload_n 1, 1) := by decide +kernel
theorem dX6_lost_1 : decode cX6_lost 1 = .ok (.lookupswitch 43 #[(0, 27), (1, 35)], 27) := by decide +kernel
theorem dX6_lost_28 : decode cX6_lost 28 = .ok (.aload_n 0, 1) := by decide +kernel
theorem dX6_lost_29 : decode cX6_lost 29 = .ok (.invokevirtual 83, 3) := by decide +kernel
theorem dX6_lost_32 : decode cX6_lost 32 = .ok (.invokevirtual 188, 3) := by decide +kernel
theorem dX6_lost_35 : decode cX6_lost 35 = .ok (.ireturn, 1) := by decide +kernel
theorem dX6_lost_36 : decode cX6_lost 36 = .ok (.aload_n 0, 1) := by decide +kernel
theorem dX6_lost_37 : decode cX6_lost 37 = .ok (.invokevirtual 83, 3) := by decide +kernel
theorem dX6_lost_40 : decode cX6_lost 40 = .ok (.invokevirtual 191, 3) := by decide +kernel
theorem dX6_lost_43 : decode cX6_lost 43 = .ok (.ireturn, 1) := by decide +kernel
theorem dX6_lost_44 : decode cX6_lost 44 = .ok (.iconst (-1), 1) := by decide +kernel
theorem dX6_lost_45 : decode cX6_lost 45 = .ok (.ireturn, 1) := by decide +kernel
theorem dX6_longest_0 : decode cX6_longest 0 = .ok (.iload_n 1, 1) := by decide +kernel
theorem dX6_longest_1 : decode cX6_longest 1 = .ok (.invokestatic 176, 3) := by decide +kernel
theorem dX6_longest_4 : decode cX6_longest 4 = .ok (.ifCond .ne 5, 3) := by decide +kernel
theorem dX6_longest_7 : decode cX6_longest 7 = .ok (.iconst (-1), 1) := by decide +kernel
theorem dX6_longest_8 : decode cX6_longest 8 = .ok (.ireturn, 1) := by decide +kernel
theorem dX6_longest_9 : decode cX6_longest 9 = .ok (.aload_n 0, 1) := by decide +kernel
theorem dX6_longest_10 : decode cX6_longest 10 = .ok (.invokevirtual 83, 3) := by decide +kernel
theorem dX6_longest_13 : decode cX6_longest 13 = .ok (.invokevirtual 194, 3) := by decide +kernel
theorem dX6_longest_16 : decode cX6_longest 16 = .ok (.istore_n 2, 1) := by decide +kernel
theorem dX6_longest_17 : decode cX6_longest 17 = .ok (.iload_n 1, 1) := by decide +kernel
theorem dX6_longest_18 : decode cX6_longest 18 = .ok (.iconst 1, 1) := by decide +kernel
theorem dX6_longest_19 : decode cX6_longest 19 = .ok (.if_icmp .ne 5, 3) := by decide +kernel
theorem dX6_longest_22 : decode cX6_longest 22 = .ok (.iload_n 2, 1) := by decide +kernel
theorem dX6_longest_23 : decode cX6_longest 23 = .ok (.ireturn, 1) := by decide +kernel
theorem dX6_longest_24 : decode cX6_longest 24 = .ok (.iload_n 2, 1) := by decide +kernel
theorem dX6_longest_25 : decode cX6_longest 25 = .ok (.ifCond .ge 5, 3) := by decide +kernel
theorem dX6_longest_28 : decode cX6_longest 28 = .ok (.iconst 0, 1) := by decide +kernel
theorem dX6_longest_29 : decode cX6_longest 29 = .ok (.ireturn, 1) := by decide +kernel
theorem dX6_longest_30 : decode cX6_longest 30 = .ok (.aload_n 0, 1) := by decide +kernel
theorem dX6_longest_31 : decode cX6_longest 31 = .ok (.getfield 12, 3) := by decide +kernel
theorem dX6_longest_34 : decode cX6_longest 34 = .ok (.iload_n 2, 1) := by decide +kernel
theorem dX6_longest_35 : decode cX6_longest 35 = .ok (.bipush 10, 2) := by decide +kernel
theorem dX6_longest_37 : decode cX6_longest 37 = .ok (.idiv, 1) := by decide +kernel
theorem dX6_longest_38 : decode cX6_longest 38 = .ok (.iload_n 2, 1) := by decide +kernel
theorem dX6_longest_39 : decode cX6_longest 39 = .ok (.bipush 10, 2) := by decide +kernel
theorem dX6_longest_41 : decode cX6_longest 41 = .ok (.irem, 1) := by decide +kernel
theorem dX6_longest_42 : decode cX6_longest 42 = .ok (.invokevirtual 179, 3) := by decide +kernel
theorem dX6_longest_45 : decode cX6_longest 45 = .ok (.pop, 1) := by decide +kernel
theorem dX6_longest_46 : decode cX6_longest 46 = .ok (.aload_n 0, 1) := by decide +kernel
theorem dX6_longest_47 : decode cX6_longest 47 = .ok (.getfield 12, 3) := by decide +kernel
theorem dX6_longest_50 : decode cX6_longest 50 = .ok (.getfield 182, 3) := by decide +kernel
theorem dX6_longest_53 : decode cX6_longest 53 = .ok (.ireturn, 1) := by decide +kernel
theorem dX6_put_0 : decode cX6_put 0 = .ok (.iload_n 1, 1) := by decide +kernel
theorem dX6_put_1 : decode cX6_put 1 = .ok (.invokestatic 176, 3) := by decide +kernel
theorem dX6_put_4 : decode cX6_put 4 = .ok (.ifCond .eq 12, 3) := by decide +kernel
theorem dX6_put_7 : decode cX6_put 7 = .ok (.aload_n 0, 1) := by decide +kernel
theorem dX6_put_8 : decode cX6_put 8 = .ok (.iconst 1, 1) := by decide +kernel
theorem dX6_put_9 : decode cX6_put 9 = .ok (.iload_n 1, 1) := by decide +kernel
theorem dX6_put_10 : decode cX6_put 10 = .ok (.invokevirtual 197, 3) := by decide +kernel
theorem dX6_put_13 : decode cX6_put 13 = .ok (.goto 4, 3) := by decide +kernel
theorem dX6_put_16 : decode cX6_put 16 = .ok (.iconst (-1), 1) := by decide +kernel
theorem dX6_put_17 : decode cX6_put 17 = .ok (.ireturn, 1) := by decide +kernel
theorem dX6_worst_0 : decode cX6_worst 0 = .ok (.iload_n 1, 1) := by decide +kernel
theorem dX6_worst_1 : decode cX6_worst 1 = .ok (.invokestatic 176, 3) := by decide +kernel
theorem dX6_worst_4 : decode cX6_worst 4 = .ok (.ifCond .eq 12, 3) := by decide +kernel
theorem dX6_worst_7 : decode cX6_worst 7 = .ok (.aload_n 0, 1) := by decide +kernel
theorem dX6_worst_8 : decode cX6_worst 8 = .ok (.iconst 0, 1) := by decide +kernel
theorem dX6_worst_9 : decode cX6_worst 9 = .ok (.iload_n 1, 1) := by decide +kernel
theorem dX6_worst_10 : decode cX6_worst 10 = .ok (.invokevirtual 197, 3) := by decide +kernel
theorem dX6_worst_13 : decode cX6_worst 13 = .ok (.goto 4, 3) := by decide +kernel
theorem dX6_worst_16 : decode cX6_worst 16 = .ok (.iconst (-1), 1) := by decide +kernel
theorem dX6_worst_17 : decode cX6_worst 17 = .ok (.ireturn, 1) := by decide +kernel
theorem dX6_turned_0 : decode cX6_turned 0 = .ok (.aload_n 0, 1) := by decide +kernel
theorem dX6_turned_1 : decode cX6_turned 1 = .ok (.getfield 22, 3) := by decide +kernel
theorem dX6_turned_4 : decode cX6_turned 4 = .ok (.iload_n 1, 1) := by decide +kernel
theorem dX6_turned_5 : decode cX6_turned 5 = .ok (.invokevirtual 69, 3) := by decide +kernel
theorem dX6_turned_8 : decode cX6_turned 8 = .ok (.ifCond .eq 14, 3) := by decide +kernel
theorem dX6_turned_11 : decode cX6_turned 11 = .ok (.aload_n 0, 1) := by decide +kernel
theorem dX6_turned_12 : decode cX6_turned 12 = .ok (.getfield 22, 3) := by decide +kernel
theorem dX6_turned_15 : decode cX6_turned 15 = .ok (.iload_n 2, 1) := by decide +kernel
theorem dX6_turned_16 : decode cX6_turned 16 = .ok (.invokevirtual 69, 3) := by decide +kernel
theorem dX6_turned_19 : decode cX6_turned 19 = .ok (.ifCond .ne 5, 3) := by decide +kernel
theorem dX6_turned_22 : decode cX6_turned 22 = .ok (.iconst (-1), 1) := by decide +kernel
theorem dX6_turned_23 : decode cX6_turned 23 = .ok (.ireturn, 1) := by decide +kernel
theorem dX6_turned_24 : decode cX6_turned 24 = .ok (.aload_n 0, 1) := by decide +kernel
theorem dX6_turned_25 : decode cX6_turned 25 = .ok (.getfield 22, 3) := by decide +kernel
theorem dX6_turned_28 : decode cX6_turned 28 = .ok (.iload_n 1, 1) := by decide +kernel
theorem dX6_turned_29 : decode cX6_turned 29 = .ok (.iload_n 2, 1) := by decide +kernel
theorem dX6_turned_30 : decode cX6_turned 30 = .ok (.invokevirtual 111, 3) := by decide +kernel
theorem dX6_turned_33 : decode cX6_turned 33 = .ok (.ifCond .ne 6, 3) := by decide +kernel
theorem dX6_turned_36 : decode cX6_turned 36 = .ok (.bipush (-3), 2) := by decide +kernel
theorem dX6_turned_38 : decode cX6_turned 38 = .ok (.ireturn, 1) := by decide +kernel
theorem dX6_turned_39 : decode cX6_turned 39 = .ok (.aload_n 0, 1) := by decide +kernel
theorem dX6_turned_40 : decode cX6_turned 40 = .ok (.getfield 12, 3) := by decide +kernel
theorem dX6_turned_43 : decode cX6_turned 43 = .ok (.iload_n 1, 1) := by decide +kernel
theorem dX6_turned_44 : decode cX6_turned 44 = .ok (.iload_n 2, 1) := by decide +kernel
theorem dX6_turned_45 : decode cX6_turned 45 = .ok (.invokevirtual 201, 3) := by decide +kernel
theorem dX6_turned_48 : decode cX6_turned 48 = .ok (.aload_n 0, 1) := by decide +kernel
theorem dX6_turned_49 : decode cX6_turned 49 = .ok (.invokevirtual 83, 3) := by decide +kernel
theorem dX6_turned_52 : decode cX6_turned 52 = .ok (.invokevirtual 191, 3) := by decide +kernel
theorem dX6_turned_55 : decode cX6_turned 55 = .ok (.istore_n 3, 1) := by decide +kernel
theorem dX6_turned_56 : decode cX6_turned 56 = .ok (.aload_n 0, 1) := by decide +kernel
theorem dX6_turned_57 : decode cX6_turned 57 = .ok (.getfield 12, 3) := by decide +kernel
theorem dX6_turned_60 : decode cX6_turned 60 = .ok (.invokevirtual 204, 3) := by decide +kernel
theorem dX6_turned_63 : decode cX6_turned 63 = .ok (.iload_n 3, 1) := by decide +kernel
theorem dX6_turned_64 : decode cX6_turned 64 = .ok (.ireturn, 1) := by decide +kernel
theorem dX6_chain_0 : decode cX6_chain 0 = .ok (.aload_n 0, 1) := by decide +kernel
theorem dX6_chain_1 : decode cX6_chain 1 = .ok (.getfield 22, 3) := by decide +kernel
theorem dX6_chain_4 : decode cX6_chain 4 = .ok (.iload_n 1, 1) := by decide +kernel
theorem dX6_chain_5 : decode cX6_chain 5 = .ok (.invokevirtual 69, 3) := by decide +kernel
theorem dX6_chain_8 : decode cX6_chain 8 = .ok (.ifCond .eq 14, 3) := by decide +kernel
theorem dX6_chain_11 : decode cX6_chain 11 = .ok (.aload_n 0, 1) := by decide +kernel
theorem dX6_chain_12 : decode cX6_chain 12 = .ok (.getfield 22, 3) := by decide +kernel
theorem dX6_chain_15 : decode cX6_chain 15 = .ok (.iload_n 2, 1) := by decide +kernel
theorem dX6_chain_16 : decode cX6_chain 16 = .ok (.invokevirtual 69, 3) := by decide +kernel
theorem dX6_chain_19 : decode cX6_chain 19 = .ok (.ifCond .ne 5, 3) := by decide +kernel
theorem dX6_chain_22 : decode cX6_chain 22 = .ok (.iconst (-1), 1) := by decide +kernel
theorem dX6_chain_23 : decode cX6_chain 23 = .ok (.ireturn, 1) := by decide +kernel
theorem dX6_chain_24 : decode cX6_chain 24 = .ok (.iload_n 1, 1) := by decide +kernel
theorem dX6_chain_25 : decode cX6_chain 25 = .ok (.iload_n 2, 1) := by decide +kernel
theorem dX6_chain_26 : decode cX6_chain 26 = .ok (.if_icmp .ne 6, 3) := by decide +kernel
theorem dX6_chain_29 : decode cX6_chain 29 = .ok (.bipush (-2), 2) := by decide +kernel
theorem dX6_chain_31 : decode cX6_chain 31 = .ok (.ireturn, 1) := by decide +kernel
theorem dX6_chain_32 : decode cX6_chain 32 = .ok (.iconst 1, 1) := by decide +kernel
theorem dX6_chain_33 : decode cX6_chain 33 = .ok (.istore_n 3, 1) := by decide +kernel
theorem dX6_chain_34 : decode cX6_chain 34 = .ok (.iload_n 3, 1) := by decide +kernel
theorem dX6_chain_35 : decode cX6_chain 35 = .ok (.bipush 7, 2) := by decide +kernel
theorem dX6_chain_37 : decode cX6_chain 37 = .ok (.if_icmp .ge 27, 3) := by decide +kernel
theorem dX6_chain_40 : decode cX6_chain 40 = .ok (.aload_n 0, 1) := by decide +kernel
theorem dX6_chain_41 : decode cX6_chain 41 = .ok (.getfield 22, 3) := by decide +kernel
theorem dX6_chain_44 : decode cX6_chain 44 = .ok (.iload_n 1, 1) := by decide +kernel
theorem dX6_chain_45 : decode cX6_chain 45 = .ok (.iload_n 3, 1) := by decide +kernel
theorem dX6_chain_46 : decode cX6_chain 46 = .ok (.invokevirtual 207, 3) := by decide +kernel
theorem dX6_chain_49 : decode cX6_chain 49 = .ok (.iconst 1, 1) := by decide +kernel
theorem dX6_chain_50 : decode cX6_chain 50 = .ok (.iload_n 2, 1) := by decide +kernel
theorem dX6_chain_51 : decode cX6_chain 51 = .ok (.ishl, 1) := by decide +kernel
theorem dX6_chain_52 : decode cX6_chain 52 = .ok (.iand, 1) := by decide +kernel
theorem dX6_chain_53 : decode cX6_chain 53 = .ok (.ifCond .eq 5, 3) := by decide +kernel
theorem dX6_chain_56 : decode cX6_chain 56 = .ok (.iload_n 3, 1) := by decide +kernel
theorem dX6_chain_57 : decode cX6_chain 57 = .ok (.ireturn, 1) := by decide +kernel
theorem dX6_chain_58 : decode cX6_chain 58 = .ok (.iinc 3 1, 3) := by decide +kernel
theorem dX6_chain_61 : decode cX6_chain 61 = .ok (.goto (-27), 3) := by decide +kernel
theorem dX6_chain_64 : decode cX6_chain 64 = .ok (.bipush (-5), 2) := by decide +kernel
theorem dX6_chain_66 : decode cX6_chain 66 = .ok (.ireturn, 1) := by decide +kernel
theorem dX6_allIn_0 : decode cX6_allIn 0 = .ok (.iload_n 1, 1) := by decide +kernel
theorem dX6_allIn_1 : decode cX6_allIn 1 = .ok (.iconst 1, 1) := by decide +kernel
theorem dX6_allIn_2 : decode cX6_allIn 2 = .ok (.if_icmp .lt 9, 3) := by decide +kernel
theorem dX6_allIn_5 : decode cX6_allIn 5 = .ok (.iload_n 1, 1) := by decide +kernel
theorem dX6_allIn_6 : decode cX6_allIn 6 = .ok (.bipush 6, 2) := by decide +kernel
theorem dX6_allIn_8 : decode cX6_allIn 8 = .ok (.if_icmp .le 6, 3) := by decide +kernel
theorem dX6_allIn_11 : decode cX6_allIn 11 = .ok (.bipush (-2), 2) := by decide +kernel
theorem dX6_allIn_13 : decode cX6_allIn 13 = .ok (.ireturn, 1) := by decide +kernel
theorem dX6_allIn_14 : decode cX6_allIn 14 = .ok (.iconst 1, 1) := by decide +kernel
theorem dX6_allIn_15 : decode cX6_allIn 15 = .ok (.aload_n 0, 1) := by decide +kernel
theorem dX6_allIn_16 : decode cX6_allIn 16 = .ok (.getfield 22, 3) := by decide +kernel
theorem dX6_allIn_19 : decode cX6_allIn 19 = .ok (.getfield 61, 3) := by decide +kernel
theorem dX6_allIn_22 : decode cX6_allIn 22 = .ok (.ishl, 1) := by decide +kernel
theorem dX6_allIn_23 : decode cX6_allIn 23 = .ok (.iconst 1, 1) := by decide +kernel
theorem dX6_allIn_24 : decode cX6_allIn 24 = .ok (.isub, 1) := by decide +kernel
theorem dX6_allIn_25 : decode cX6_allIn 25 = .ok (.istore_n 2, 1) := by decide +kernel
theorem dX6_allIn_26 : decode cX6_allIn 26 = .ok (.iconst 0, 1) := by decide +kernel
theorem dX6_allIn_27 : decode cX6_allIn 27 = .ok (.istore_n 3, 1) := by decide +kernel
theorem dX6_allIn_28 : decode cX6_allIn 28 = .ok (.iload_n 3, 1) := by decide +kernel
theorem dX6_allIn_29 : decode cX6_allIn 29 = .ok (.aload_n 0, 1) := by decide +kernel
theorem dX6_allIn_30 : decode cX6_allIn 30 = .ok (.getfield 22, 3) := by decide +kernel
theorem dX6_allIn_33 : decode cX6_allIn 33 = .ok (.getfield 61, 3) := by decide +kernel
theorem dX6_allIn_36 : decode cX6_allIn 36 = .ok (.if_icmp .ge 24, 3) := by decide +kernel
theorem dX6_allIn_39 : decode cX6_allIn 39 = .ok (.aload_n 0, 1) := by decide +kernel
theorem dX6_allIn_40 : decode cX6_allIn 40 = .ok (.getfield 22, 3) := by decide +kernel
theorem dX6_allIn_43 : decode cX6_allIn 43 = .ok (.iload_n 3, 1) := by decide +kernel
theorem dX6_allIn_44 : decode cX6_allIn 44 = .ok (.iload_n 1, 1) := by decide +kernel
theorem dX6_allIn_45 : decode cX6_allIn 45 = .ok (.invokevirtual 207, 3) := by decide +kernel
theorem dX6_allIn_48 : decode cX6_allIn 48 = .ok (.iload_n 2, 1) := by decide +kernel
theorem dX6_allIn_49 : decode cX6_allIn 49 = .ok (.if_icmp .eq 5, 3) := by decide +kernel
theorem dX6_allIn_52 : decode cX6_allIn 52 = .ok (.iconst 0, 1) := by decide +kernel
theorem dX6_allIn_53 : decode cX6_allIn 53 = .ok (.ireturn, 1) := by decide +kernel
theorem dX6_allIn_54 : decode cX6_allIn 54 = .ok (.iinc 3 1, 3) := by decide +kernel
theorem dX6_allIn_57 : decode cX6_allIn 57 = .ok (.goto (-29), 3) := by decide +kernel
theorem dX6_allIn_60 : decode cX6_allIn 60 = .ok (.iconst 1, 1) := by decide +kernel
theorem dX6_allIn_61 : decode cX6_allIn 61 = .ok (.ireturn, 1) := by decide +kernel
theorem dX6_capitals_0 : decode cX6_capitals 0 = .ok (.iconst 0, 1) := by decide +kernel
theorem dX6_capitals_1 : decode cX6_capitals 1 = .ok (.istore_n 1, 1) := by decide +kernel
theorem dX6_capitals_2 : decode cX6_capitals 2 = .ok (.iconst 0, 1) := by decide +kernel
theorem dX6_capitals_3 : decode cX6_capitals 3 = .ok (.istore_n 2, 1) := by decide +kernel
theorem dX6_capitals_4 : decode cX6_capitals 4 = .ok (.iconst 0, 1) := by decide +kernel
theorem dX6_capitals_5 : decode cX6_capitals 5 = .ok (.istore_n 3, 1) := by decide +kernel
theorem dX6_capitals_6 : decode cX6_capitals 6 = .ok (.iload_n 3, 1) := by decide +kernel
theorem dX6_capitals_7 : decode cX6_capitals 7 = .ok (.aload_n 0, 1) := by decide +kernel
theorem dX6_capitals_8 : decode cX6_capitals 8 = .ok (.getfield 22, 3) := by decide +kernel
theorem dX6_capitals_11 : decode cX6_capitals 11 = .ok (.getfield 61, 3) := by decide +kernel
theorem dX6_capitals_14 : decode cX6_capitals 14 = .ok (.if_icmp .ge 46, 3) := by decide +kernel
theorem dX6_capitals_17 : decode cX6_capitals 17 = .ok (.aload_n 0, 1) := by decide +kernel
theorem dX6_capitals_18 : decode cX6_capitals 18 = .ok (.getfield 22, 3) := by decide +kernel
theorem dX6_capitals_21 : decode cX6_capitals 21 = .ok (.getfield 90, 3) := by decide +kernel
theorem dX6_capitals_24 : decode cX6_capitals 24 = .ok (.iload_n 3, 1) := by decide +kernel
theorem dX6_capitals_25 : decode cX6_capitals 25 = .ok (.iaload, 1) := by decide +kernel
theorem dX6_capitals_26 : decode cX6_capitals 26 = .ok (.invokestatic 122, 3) := by decide +kernel
theorem dX6_capitals_29 : decode cX6_capitals 29 = .ok (.istore 4, 2) := by decide +kernel
theorem dX6_capitals_31 : decode cX6_capitals 31 = .ok (.iload 4, 2) := by decide +kernel
theorem dX6_capitals_33 : decode cX6_capitals 33 = .ok (.iload_n 1, 1) := by decide +kernel
theorem dX6_capitals_34 : decode cX6_capitals 34 = .ok (.if_icmp .le 8, 3) := by decide +kernel
theorem dX6_capitals_37 : decode cX6_capitals 37 = .ok (.iload 4, 2) := by decide +kernel
theorem dX6_capitals_39 : decode cX6_capitals 39 = .ok (.istore_n 1, 1) := by decide +kernel
theorem dX6_capitals_40 : decode cX6_capitals 40 = .ok (.iconst 0, 1) := by decide +kernel
theorem dX6_capitals_41 : decode cX6_capitals 41 = .ok (.istore_n 2, 1) := by decide +kernel
theorem dX6_capitals_42 : decode cX6_capitals 42 = .ok (.iload 4, 2) := by decide +kernel
theorem dX6_capitals_44 : decode cX6_capitals 44 = .ok (.iload_n 1, 1) := by decide +kernel
theorem dX6_capitals_45 : decode cX6_capitals 45 = .ok (.if_icmp .ne 9, 3) := by decide +kernel
theorem dX6_capitals_48 : decode cX6_capitals 48 = .ok (.iload_n 2, 1) := by decide +kernel
theorem dX6_capitals_49 : decode cX6_capitals 49 = .ok (.iconst 1, 1) := by decide +kernel
theorem dX6_capitals_50 : decode cX6_capitals 50 = .ok (.iload_n 3, 1) := by decide +kernel
theorem dX6_capitals_51 : decode cX6_capitals 51 = .ok (.ishl, 1) := by decide +kernel
theorem dX6_capitals_52 : decode cX6_capitals 52 = .ok (.ior, 1) := by decide +kernel
theorem dX6_capitals_53 : decode cX6_capitals 53 = .ok (.istore_n 2, 1) := by decide +kernel
theorem dX6_capitals_54 : decode cX6_capitals 54 = .ok (.iinc 3 1, 3) := by decide +kernel
theorem dX6_capitals_57 : decode cX6_capitals 57 = .ok (.goto (-51), 3) := by decide +kernel
theorem dX6_capitals_60 : decode cX6_capitals 60 = .ok (.iload_n 2, 1) := by decide +kernel
theorem dX6_capitals_61 : decode cX6_capitals 61 = .ok (.ireturn, 1) := by decide +kernel
theorem dX6_newRoad_0 : decode cX6_newRoad 0 = .ok (.iload_n 2, 1) := by decide +kernel
theorem dX6_newRoad_1 : decode cX6_newRoad 1 = .ok (.invokestatic 176, 3) := by decide +kernel
theorem dX6_newRoad_4 : decode cX6_newRoad 4 = .ok (.ifCond .ne 5, 3) := by decide +kernel
theorem dX6_newRoad_7 : decode cX6_newRoad 7 = .ok (.iconst (-1), 1) := by decide +kernel
theorem dX6_newRoad_8 : decode cX6_newRoad 8 = .ok (.ireturn, 1) := by decide +kernel
theorem dX6_newRoad_9 : decode cX6_newRoad 9 = .ok (.iload_n 1, 1) := by decide +kernel
theorem dX6_newRoad_10 : decode cX6_newRoad 10 = .ok (.iconst 1, 1) := by decide +kernel
theorem dX6_newRoad_11 : decode cX6_newRoad 11 = .ok (.if_icmp .lt 9, 3) := by decide +kernel
theorem dX6_newRoad_14 : decode cX6_newRoad 14 = .ok (.iload_n 1, 1) := by decide +kernel
theorem dX6_newRoad_15 : decode cX6_newRoad 15 = .ok (.bipush 99, 2) := by decide +kernel
theorem dX6_newRoad_17 : decode cX6_newRoad 17 = .ok (.if_icmp .le 6, 3) := by decide +kernel
theorem dX6_newRoad_20 : decode cX6_newRoad 20 = .ok (.bipush (-2), 2) := by decide +kernel
theorem dX6_newRoad_22 : decode cX6_newRoad 22 = .ok (.ireturn, 1) := by decide +kernel
theorem dX6_newRoad_23 : decode cX6_newRoad 23 = .ok (.aload_n 0, 1) := by decide +kernel
theorem dX6_newRoad_24 : decode cX6_newRoad 24 = .ok (.invokevirtual 83, 3) := by decide +kernel
theorem dX6_newRoad_27 : decode cX6_newRoad 27 = .ok (.invokevirtual 210, 3) := by decide +kernel
theorem dX6_newRoad_30 : decode cX6_newRoad 30 = .ok (.istore_n 3, 1) := by decide +kernel
theorem dX6_newRoad_31 : decode cX6_newRoad 31 = .ok (.bipush (-5), 2) := by decide +kernel
theorem dX6_newRoad_33 : decode cX6_newRoad 33 = .ok (.istore 4, 2) := by decide +kernel
theorem dX6_newRoad_35 : decode cX6_newRoad 35 = .ok (.iconst 0, 1) := by decide +kernel
theorem dX6_newRoad_36 : decode cX6_newRoad 36 = .ok (.istore 5, 2) := by decide +kernel
theorem dX6_newRoad_38 : decode cX6_newRoad 38 = .ok (.iconst 0, 1) := by decide +kernel
theorem dX6_newRoad_39 : decode cX6_newRoad 39 = .ok (.istore 6, 2) := by decide +kernel
theorem dX6_newRoad_41 : decode cX6_newRoad 41 = .ok (.iload 6, 2) := by decide +kernel
theorem dX6_newRoad_43 : decode cX6_newRoad 43 = .ok (.aload_n 0, 1) := by decide +kernel
theorem dX6_newRoad_44 : decode cX6_newRoad 44 = .ok (.getfield 22, 3) := by decide +kernel
theorem dX6_newRoad_47 : decode cX6_newRoad 47 = .ok (.getfield 61, 3) := by decide +kernel
theorem dX6_newRoad_50 : decode cX6_newRoad 50 = .ok (.if_icmp .ge 90, 3) := by decide +kernel
theorem dX6_newRoad_53 : decode cX6_newRoad 53 = .ok (.iload 6, 2) := by decide +kernel
theorem dX6_newRoad_55 : decode cX6_newRoad 55 = .ok (.iconst 1, 1) := by decide +kernel
theorem dX6_newRoad_56 : decode cX6_newRoad 56 = .ok (.iadd, 1) := by decide +kernel
theorem dX6_newRoad_57 : decode cX6_newRoad 57 = .ok (.istore 7, 2) := by decide +kernel
theorem dX6_newRoad_59 : decode cX6_newRoad 59 = .ok (.iload 7, 2) := by decide +kernel
theorem dX6_newRoad_61 : decode cX6_newRoad 61 = .ok (.aload_n 0, 1) := by decide +kernel
theorem dX6_newRoad_62 : decode cX6_newRoad 62 = .ok (.getfield 22, 3) := by decide +kernel
theorem dX6_newRoad_65 : decode cX6_newRoad 65 = .ok (.getfield 61, 3) := by decide +kernel
theorem dX6_newRoad_68 : decode cX6_newRoad 68 = .ok (.if_icmp .ge 66, 3) := by decide +kernel
theorem dX6_newRoad_71 : decode cX6_newRoad 71 = .ok (.aload_n 0, 1) := by decide +kernel
theorem dX6_newRoad_72 : decode cX6_newRoad 72 = .ok (.getfield 22, 3) := by decide +kernel
theorem dX6_newRoad_75 : decode cX6_newRoad 75 = .ok (.getfield 97, 3) := by decide +kernel
theorem dX6_newRoad_78 : decode cX6_newRoad 78 = .ok (.iload 6, 2) := by decide +kernel
theorem dX6_newRoad_80 : decode cX6_newRoad 80 = .ok (.iload 7, 2) := by decide +kernel
theorem dX6_newRoad_82 : decode cX6_newRoad 82 = .ok (.invokestatic 100, 3) := by decide +kernel
theorem dX6_newRoad_85 : decode cX6_newRoad 85 = .ok (.iaload, 1) := by decide +kernel
theorem dX6_newRoad_86 : decode cX6_newRoad 86 = .ok (.ifCond .ne 42, 3) := by decide +kernel
theorem dX6_newRoad_89 : decode cX6_newRoad 89 = .ok (.aload_n 0, 1) := by decide +kernel
theorem dX6_newRoad_90 : decode cX6_newRoad 90 = .ok (.iload 6, 2) := by decide +kernel
theorem dX6_newRoad_92 : decode cX6_newRoad 92 = .ok (.iload 7, 2) := by decide +kernel
theorem dX6_newRoad_94 : decode cX6_newRoad 94 = .ok (.iload_n 1, 1) := by decide +kernel
theorem dX6_newRoad_95 : decode cX6_newRoad 95 = .ok (.invokevirtual 213, 3) := by decide +kernel
theorem dX6_newRoad_98 : decode cX6_newRoad 98 = .ok (.istore 8, 2) := by decide +kernel
theorem dX6_newRoad_100 : decode cX6_newRoad 100 = .ok (.iload 4, 2) := by decide +kernel
theorem dX6_newRoad_102 : decode cX6_newRoad 102 = .ok (.bipush (-5), 2) := by decide +kernel
theorem dX6_newRoad_104 : decode cX6_newRoad 104 = .ok (.if_icmp .eq 10, 3) := by decide +kernel
theorem dX6_newRoad_107 : decode cX6_newRoad 107 = .ok (.iload 8, 2) := by decide +kernel
theorem dX6_newRoad_109 : decode cX6_newRoad 109 = .ok (.iload 5, 2) := by decide +kernel
theorem dX6_newRoad_111 : decode cX6_newRoad 111 = .ok (.if_icmp .ge 17, 3) := by decide +kernel
theorem dX6_newRoad_114 : decode cX6_newRoad 114 = .ok (.bipush 10, 2) := by decide +kernel
theorem dX6_newRoad_116 : decode cX6_newRoad 116 = .ok (.iload 6, 2) := by decide +kernel
theorem dX6_newRoad_118 : decode cX6_newRoad 118 = .ok (.imul, 1) := by decide +kernel
theorem dX6_newRoad_119 : decode cX6_newRoad 119 = .ok (.iload 7, 2) := by decide +kernel
theorem dX6_newRoad_121 : decode cX6_newRoad 121 = .ok (.iadd, 1) := by decide +kernel
theorem dX6_newRoad_122 : decode cX6_newRoad 122 = .ok (.istore 4, 2) := by decide +kernel
theorem dX6_newRoad_124 : decode cX6_newRoad 124 = .ok (.iload 8, 2) := by decide +kernel
theorem dX6_newRoad_126 : decode cX6_newRoad 126 = .ok (.istore 5, 2) := by decide +kernel
theorem dX6_newRoad_128 : decode cX6_newRoad 128 = .ok (.iinc 7 1, 3) := by decide +kernel
theorem dX6_newRoad_131 : decode cX6_newRoad 131 = .ok (.goto (-72), 3) := by decide +kernel
theorem dX6_newRoad_134 : decode cX6_newRoad 134 = .ok (.iinc 6 1, 3) := by decide +kernel
theorem dX6_newRoad_137 : decode cX6_newRoad 137 = .ok (.goto (-96), 3) := by decide +kernel
theorem dX6_newRoad_140 : decode cX6_newRoad 140 = .ok (.iload_n 2, 1) := by decide +kernel
theorem dX6_newRoad_141 : decode cX6_newRoad 141 = .ok (.ifCond .eq 10, 3) := by decide +kernel
theorem dX6_newRoad_144 : decode cX6_newRoad 144 = .ok (.iload 4, 2) := by decide +kernel
theorem dX6_newRoad_146 : decode cX6_newRoad 146 = .ok (.bipush (-5), 2) := by decide +kernel
theorem dX6_newRoad_148 : decode cX6_newRoad 148 = .ok (.if_icmp .ne 8, 3) := by decide +kernel
theorem dX6_newRoad_151 : decode cX6_newRoad 151 = .ok (.iload 4, 2) := by decide +kernel
theorem dX6_newRoad_153 : decode cX6_newRoad 153 = .ok (.goto 7, 3) := by decide +kernel
theorem dX6_newRoad_156 : decode cX6_newRoad 156 = .ok (.iload_n 3, 1) := by decide +kernel
theorem dX6_newRoad_157 : decode cX6_newRoad 157 = .ok (.iload 5, 2) := by decide +kernel
theorem dX6_newRoad_159 : decode cX6_newRoad 159 = .ok (.isub, 1) := by decide +kernel
theorem dX6_newRoad_160 : decode cX6_newRoad 160 = .ok (.ireturn, 1) := by decide +kernel
theorem dX6_gets_0 : decode cX6_gets 0 = .ok (.aload_n 0, 1) := by decide +kernel
theorem dX6_gets_1 : decode cX6_gets 1 = .ok (.getfield 22, 3) := by decide +kernel
theorem dX6_gets_4 : decode cX6_gets 4 = .ok (.iload_n 1, 1) := by decide +kernel
theorem dX6_gets_5 : decode cX6_gets 5 = .ok (.invokevirtual 69, 3) := by decide +kernel
theorem dX6_gets_8 : decode cX6_gets 8 = .ok (.ifCond .ne 5, 3) := by decide +kernel
theorem dX6_gets_11 : decode cX6_gets 11 = .ok (.iconst (-1), 1) := by decide +kernel
theorem dX6_gets_12 : decode cX6_gets 12 = .ok (.ireturn, 1) := by decide +kernel
theorem dX6_gets_13 : decode cX6_gets 13 = .ok (.aload_n 0, 1) := by decide +kernel
theorem dX6_gets_14 : decode cX6_gets 14 = .ok (.invokevirtual 83, 3) := by decide +kernel
theorem dX6_gets_17 : decode cX6_gets 17 = .ok (.pop, 1) := by decide +kernel
theorem dX6_gets_18 : decode cX6_gets 18 = .ok (.iconst 0, 1) := by decide +kernel
theorem dX6_gets_19 : decode cX6_gets 19 = .ok (.istore_n 2, 1) := by decide +kernel
theorem dX6_gets_20 : decode cX6_gets 20 = .ok (.iconst 0, 1) := by decide +kernel
theorem dX6_gets_21 : decode cX6_gets 21 = .ok (.istore_n 3, 1) := by decide +kernel
theorem dX6_gets_22 : decode cX6_gets 22 = .ok (.iload_n 3, 1) := by decide +kernel
theorem dX6_gets_23 : decode cX6_gets 23 = .ok (.aload_n 0, 1) := by decide +kernel
theorem dX6_gets_24 : decode cX6_gets 24 = .ok (.getfield 22, 3) := by decide +kernel
theorem dX6_gets_27 : decode cX6_gets 27 = .ok (.getfield 127, 3) := by decide +kernel
theorem dX6_gets_30 : decode cX6_gets 30 = .ok (.if_icmp .ge 68, 3) := by decide +kernel
theorem dX6_gets_33 : decode cX6_gets 33 = .ok (.aload_n 0, 1) := by decide +kernel
theorem dX6_gets_34 : decode cX6_gets 34 = .ok (.getfield 12, 3) := by decide +kernel
theorem dX6_gets_37 : decode cX6_gets 37 = .ok (.aload_n 0, 1) := by decide +kernel
theorem dX6_gets_38 : decode cX6_gets 38 = .ok (.getfield 22, 3) := by decide +kernel
theorem dX6_gets_41 : decode cX6_gets 41 = .ok (.getfield 216, 3) := by decide +kernel
theorem dX6_gets_44 : decode cX6_gets 44 = .ok (.iload_n 3, 1) := by decide +kernel
theorem dX6_gets_45 : decode cX6_gets 45 = .ok (.iaload, 1) := by decide +kernel
theorem dX6_gets_46 : decode cX6_gets 46 = .ok (.aload_n 0, 1) := by decide +kernel
theorem dX6_gets_47 : decode cX6_gets 47 = .ok (.getfield 22, 3) := by decide +kernel
theorem dX6_gets_50 : decode cX6_gets 50 = .ok (.getfield 219, 3) := by decide +kernel
theorem dX6_gets_53 : decode cX6_gets 53 = .ok (.iload_n 3, 1) := by decide +kernel
theorem dX6_gets_54 : decode cX6_gets 54 = .ok (.iaload, 1) := by decide +kernel
theorem dX6_gets_55 : decode cX6_gets 55 = .ok (.invokevirtual 179, 3) := by decide +kernel
theorem dX6_gets_58 : decode cX6_gets 58 = .ok (.istore 4, 2) := by decide +kernel
theorem dX6_gets_60 : decode cX6_gets 60 = .ok (.iload 4, 2) := by decide +kernel
theorem dX6_gets_62 : decode cX6_gets 62 = .ok (.aload_n 0, 1) := by decide +kernel
theorem dX6_gets_63 : decode cX6_gets 63 = .ok (.getfield 22, 3) := by decide +kernel
theorem dX6_gets_66 : decode cX6_gets 66 = .ok (.getfield 219, 3) := by decide +kernel
theorem dX6_gets_69 : decode cX6_gets 69 = .ok (.iload_n 3, 1) := by decide +kernel
theorem dX6_gets_70 : decode cX6_gets 70 = .ok (.iaload, 1) := by decide +kernel
theorem dX6_gets_71 : decode cX6_gets 71 = .ok (.if_icmp .eq 21, 3) := by decide +kernel
theorem dX6_gets_74 : decode cX6_gets 74 = .ok (.iload 4, 2) := by decide +kernel
theorem dX6_gets_76 : decode cX6_gets 76 = .ok (.iload_n 1, 1) := by decide +kernel
theorem dX6_gets_77 : decode cX6_gets 77 = .ok (.if_icmp .ne 15, 3) := by decide +kernel
theorem dX6_gets_80 : decode cX6_gets 80 = .ok (.iload_n 2, 1) := by decide +kernel
theorem dX6_gets_81 : decode cX6_gets 81 = .ok (.aload_n 0, 1) := by decide +kernel
theorem dX6_gets_82 : decode cX6_gets 82 = .ok (.getfield 22, 3) := by decide +kernel
theorem dX6_gets_85 : decode cX6_gets 85 = .ok (.getfield 222, 3) := by decide +kernel
theorem dX6_gets_88 : decode cX6_gets 88 = .ok (.iload_n 3, 1) := by decide +kernel
theorem dX6_gets_89 : decode cX6_gets 89 = .ok (.iaload, 1) := by decide +kernel
theorem dX6_gets_90 : decode cX6_gets 90 = .ok (.iadd, 1) := by decide +kernel
theorem dX6_gets_91 : decode cX6_gets 91 = .ok (.istore_n 2, 1) := by decide +kernel
theorem dX6_gets_92 : decode cX6_gets 92 = .ok (.iinc 3 1, 3) := by decide +kernel
theorem dX6_gets_95 : decode cX6_gets 95 = .ok (.goto (-73), 3) := by decide +kernel
theorem dX6_gets_98 : decode cX6_gets 98 = .ok (.iload_n 2, 1) := by decide +kernel
theorem dX6_gets_99 : decode cX6_gets 99 = .ok (.ireturn, 1) := by decide +kernel
theorem dX6_odds_0 : decode cX6_odds 0 = .ok (.aload_n 0, 1) := by decide +kernel
theorem dX6_odds_1 : decode cX6_odds 1 = .ok (.getfield 22, 3) := by decide +kernel
theorem dX6_odds_4 : decode cX6_odds 4 = .ok (.iload_n 1, 1) := by decide +kernel
theorem dX6_odds_5 : decode cX6_odds 5 = .ok (.invokevirtual 69, 3) := by decide +kernel
theorem dX6_odds_8 : decode cX6_odds 8 = .ok (.ifCond .eq 32, 3) := by decide +kernel
theorem dX6_odds_11 : decode cX6_odds 11 = .ok (.aload_n 0, 1) := by decide +kernel
theorem dX6_odds_12 : decode cX6_odds 12 = .ok (.getfield 22, 3) := by decide +kernel
theorem dX6_odds_15 : decode cX6_odds 15 = .ok (.iload_n 2, 1) := by decide +kernel
theorem dX6_odds_16 : decode cX6_odds 16 = .ok (.invokevirtual 69, 3) := by decide +kernel
theorem dX6_odds_19 : decode cX6_odds 19 = .ok (.ifCond .eq 21, 3) := by decide +kernel
theorem dX6_odds_22 : decode cX6_odds 22 = .ok (.iload_n 3, 1) := by decide +kernel
theorem dX6_odds_23 : decode cX6_odds 23 = .ok (.ifCond .lt 17, 3) := by decide +kernel
theorem dX6_odds_26 : decode cX6_odds 26 = .ok (.iload_n 3, 1) := by decide +kernel
theorem dX6_odds_27 : decode cX6_odds 27 = .ok (.bipush 6, 2) := by decide +kernel
theorem dX6_odds_29 : decode cX6_odds 29 = .ok (.if_icmp .gt 11, 3) := by decide +kernel
theorem dX6_odds_32 : decode cX6_odds 32 = .ok (.iload 4, 2) := by decide +kernel
theorem dX6_odds_34 : decode cX6_odds 34 = .ok (.invokestatic 176, 3) := by decide +kernel
theorem dX6_odds_37 : decode cX6_odds 37 = .ok (.ifCond .ne 7, 3) := by decide +kernel
theorem dX6_odds_40 : decode cX6_odds 40 = .ok (.ldc2_w 225, 3) := by decide +kernel
theorem dX6_odds_43 : decode cX6_odds 43 = .ok (.lreturn, 1) := by decide +kernel
theorem dX6_odds_44 : decode cX6_odds 44 = .ok (.aload_n 0, 1) := by decide +kernel
theorem dX6_odds_45 : decode cX6_odds 45 = .ok (.invokevirtual 83, 3) := by decide +kernel
theorem dX6_odds_48 : decode cX6_odds 48 = .ok (.iload_n 1, 1) := by decide +kernel
theorem dX6_odds_49 : decode cX6_odds 49 = .ok (.iload_n 2, 1) := by decide +kernel
theorem dX6_odds_50 : decode cX6_odds 50 = .ok (.iload_n 3, 1) := by decide +kernel
theorem dX6_odds_51 : decode cX6_odds 51 = .ok (.invokevirtual 227, 3) := by decide +kernel
theorem dX6_odds_54 : decode cX6_odds 54 = .ok (.lstore 5, 2) := by decide +kernel
theorem dX6_odds_56 : decode cX6_odds 56 = .ok (.lconst 1, 1) := by decide +kernel
theorem dX6_odds_57 : decode cX6_odds 57 = .ok (.lstore 7, 2) := by decide +kernel
theorem dX6_odds_59 : decode cX6_odds 59 = .ok (.iconst 0, 1) := by decide +kernel
theorem dX6_odds_60 : decode cX6_odds 60 = .ok (.istore 9, 2) := by decide +kernel
theorem dX6_odds_62 : decode cX6_odds 62 = .ok (.iload 9, 2) := by decide +kernel
theorem dX6_odds_64 : decode cX6_odds 64 = .ok (.iload_n 3, 1) := by decide +kernel
theorem dX6_odds_65 : decode cX6_odds 65 = .ok (.if_icmp .ge 17, 3) := by decide +kernel
theorem dX6_odds_68 : decode cX6_odds 68 = .ok (.lload 7, 2) := by decide +kernel
theorem dX6_odds_70 : decode cX6_odds 70 = .ok (.ldc2_w 231, 3) := by decide +kernel
theorem dX6_odds_73 : decode cX6_odds 73 = .ok (.lmul, 1) := by decide +kernel
theorem dX6_odds_74 : decode cX6_odds 74 = .ok (.lstore 7, 2) := by decide +kernel
theorem dX6_odds_76 : decode cX6_odds 76 = .ok (.iinc 9 1, 3) := by decide +kernel
theorem dX6_odds_79 : decode cX6_odds 79 = .ok (.goto (-17), 3) := by decide +kernel
theorem dX6_odds_82 : decode cX6_odds 82 = .ok (.lload 5, 2) := by decide +kernel
theorem dX6_odds_84 : decode cX6_odds 84 = .ok (.lload 7, 2) := by decide +kernel
theorem dX6_odds_86 : decode cX6_odds 86 = .ok (.iload 4, 2) := by decide +kernel
theorem dX6_odds_88 : decode cX6_odds 88 = .ok (.invokestatic 233, 3) := by decide +kernel
theorem dX6_odds_91 : decode cX6_odds 91 = .ok (.lreturn, 1) := by decide +kernel
theorem dX6_mean_0 : decode cX6_mean 0 = .ok (.iload_n 1, 1) := by decide +kernel
theorem dX6_mean_1 : decode cX6_mean 1 = .ok (.invokestatic 176, 3) := by decide +kernel
theorem dX6_mean_4 : decode cX6_mean 4 = .ok (.ifCond .ne 7, 3) := by decide +kernel
theorem dX6_mean_7 : decode cX6_mean 7 = .ok (.ldc2_w 225, 3) := by decide +kernel
theorem dX6_mean_10 : decode cX6_mean 10 = .ok (.lreturn, 1) := by decide +kernel
theorem dX6_mean_11 : decode cX6_mean 11 = .ok (.aload_n 0, 1) := by decide +kernel
theorem dX6_mean_12 : decode cX6_mean 12 = .ok (.invokevirtual 83, 3) := by decide +kernel
theorem dX6_mean_15 : decode cX6_mean 15 = .ok (.pop, 1) := by decide +kernel
theorem dX6_mean_16 : decode cX6_mean 16 = .ok (.lconst 0, 1) := by decide +kernel
theorem dX6_mean_17 : decode cX6_mean 17 = .ok (.lstore_n 2, 1) := by decide +kernel
theorem dX6_mean_18 : decode cX6_mean 18 = .ok (.lconst 0, 1) := by decide +kernel
theorem dX6_mean_19 : decode cX6_mean 19 = .ok (.lstore 4, 2) := by decide +kernel
theorem dX6_mean_21 : decode cX6_mean 21 = .ok (.iconst 0, 1) := by decide +kernel
theorem dX6_mean_22 : decode cX6_mean 22 = .ok (.istore 6, 2) := by decide +kernel
theorem dX6_mean_24 : decode cX6_mean 24 = .ok (.iload 6, 2) := by decide +kernel
theorem dX6_mean_26 : decode cX6_mean 26 = .ok (.aload_n 0, 1) := by decide +kernel
theorem dX6_mean_27 : decode cX6_mean 27 = .ok (.getfield 22, 3) := by decide +kernel
theorem dX6_mean_30 : decode cX6_mean 30 = .ok (.getfield 61, 3) := by decide +kernel
theorem dX6_mean_33 : decode cX6_mean 33 = .ok (.if_icmp .ge 70, 3) := by decide +kernel
theorem dX6_mean_36 : decode cX6_mean 36 = .ok (.iconst 0, 1) := by decide +kernel
theorem dX6_mean_37 : decode cX6_mean 37 = .ok (.istore 7, 2) := by decide +kernel
theorem dX6_mean_39 : decode cX6_mean 39 = .ok (.iload 7, 2) := by decide +kernel
theorem dX6_mean_41 : decode cX6_mean 41 = .ok (.aload_n 0, 1) := by decide +kernel
theorem dX6_mean_42 : decode cX6_mean 42 = .ok (.getfield 22, 3) := by decide +kernel
theorem dX6_mean_45 : decode cX6_mean 45 = .ok (.getfield 61, 3) := by decide +kernel
theorem dX6_mean_48 : decode cX6_mean 48 = .ok (.if_icmp .ge 49, 3) := by decide +kernel
theorem dX6_mean_51 : decode cX6_mean 51 = .ok (.iload 6, 2) := by decide +kernel
theorem dX6_mean_53 : decode cX6_mean 53 = .ok (.iload 7, 2) := by decide +kernel
theorem dX6_mean_55 : decode cX6_mean 55 = .ok (.if_icmp .eq 36, 3) := by decide +kernel
theorem dX6_mean_58 : decode cX6_mean 58 = .ok (.aload_n 0, 1) := by decide +kernel
theorem dX6_mean_59 : decode cX6_mean 59 = .ok (.getfield 12, 3) := by decide +kernel
theorem dX6_mean_62 : decode cX6_mean 62 = .ok (.iload 6, 2) := by decide +kernel
theorem dX6_mean_64 : decode cX6_mean 64 = .ok (.iload 7, 2) := by decide +kernel
theorem dX6_mean_66 : decode cX6_mean 66 = .ok (.invokevirtual 179, 3) := by decide +kernel
theorem dX6_mean_69 : decode cX6_mean 69 = .ok (.iload 7, 2) := by decide +kernel
theorem dX6_mean_71 : decode cX6_mean 71 = .ok (.if_icmp .ne 20, 3) := by decide +kernel
theorem dX6_mean_74 : decode cX6_mean 74 = .ok (.lload_n 2, 1) := by decide +kernel
theorem dX6_mean_75 : decode cX6_mean 75 = .ok (.aload_n 0, 1) := by decide +kernel
theorem dX6_mean_76 : decode cX6_mean 76 = .ok (.getfield 12, 3) := by decide +kernel
theorem dX6_mean_79 : decode cX6_mean 79 = .ok (.getfield 182, 3) := by decide +kernel
theorem dX6_mean_82 : decode cX6_mean 82 = .ok (.i2l, 1) := by decide +kernel
theorem dX6_mean_83 : decode cX6_mean 83 = .ok (.ladd, 1) := by decide +kernel
theorem dX6_mean_84 : decode cX6_mean 84 = .ok (.lstore_n 2, 1) := by decide +kernel
theorem dX6_mean_85 : decode cX6_mean 85 = .ok (.lload 4, 2) := by decide +kernel
theorem dX6_mean_87 : decode cX6_mean 87 = .ok (.lconst 1, 1) := by decide +kernel
theorem dX6_mean_88 : decode cX6_mean 88 = .ok (.ladd, 1) := by decide +kernel
theorem dX6_mean_89 : decode cX6_mean 89 = .ok (.lstore 4, 2) := by decide +kernel
theorem dX6_mean_91 : decode cX6_mean 91 = .ok (.iinc 7 1, 3) := by decide +kernel
theorem dX6_mean_94 : decode cX6_mean 94 = .ok (.goto (-55), 3) := by decide +kernel
theorem dX6_mean_97 : decode cX6_mean 97 = .ok (.iinc 6 1, 3) := by decide +kernel
theorem dX6_mean_100 : decode cX6_mean 100 = .ok (.goto (-76), 3) := by decide +kernel
theorem dX6_mean_103 : decode cX6_mean 103 = .ok (.lload 4, 2) := by decide +kernel
theorem dX6_mean_105 : decode cX6_mean 105 = .ok (.lconst 0, 1) := by decide +kernel
theorem dX6_mean_106 : decode cX6_mean 106 = .ok (.lcmp, 1) := by decide +kernel
theorem dX6_mean_107 : decode cX6_mean 107 = .ok (.ifCond .ne 9, 3) := by decide +kernel
theorem dX6_mean_110 : decode cX6_mean 110 = .ok (.ldc2_w 225, 3) := by decide +kernel
theorem dX6_mean_113 : decode cX6_mean 113 = .ok (.goto 10, 3) := by decide +kernel
theorem dX6_mean_116 : decode cX6_mean 116 = .ok (.lload_n 2, 1) := by decide +kernel
theorem dX6_mean_117 : decode cX6_mean 117 = .ok (.lload 4, 2) := by decide +kernel
theorem dX6_mean_119 : decode cX6_mean 119 = .ok (.iload_n 1, 1) := by decide +kernel
theorem dX6_mean_120 : decode cX6_mean 120 = .ok (.invokestatic 233, 3) := by decide +kernel
theorem dX6_mean_123 : decode cX6_mean 123 = .ok (.lreturn, 1) := by decide +kernel
theorem dX6_book_0 : decode cX6_book 0 = .ok (.iload_n 1, 1) := by decide +kernel
theorem dX6_book_1 : decode cX6_book 1 = .ok (.iconst (-1), 1) := by decide +kernel
theorem dX6_book_2 : decode cX6_book 2 = .ok (.if_icmp .ne 13, 3) := by decide +kernel
theorem dX6_book_5 : decode cX6_book 5 = .ok (.aload_n 0, 1) := by decide +kernel
theorem dX6_book_6 : decode cX6_book 6 = .ok (.getfield 22, 3) := by decide +kernel
theorem dX6_book_9 : decode cX6_book 9 = .ok (.iconst 0, 1) := by decide +kernel
theorem dX6_book_10 : decode cX6_book 10 = .ok (.putfield 237, 3) := by decide +kernel
theorem dX6_book_13 : decode cX6_book 13 = .ok (.iconst 0, 1) := by decide +kernel
theorem dX6_book_14 : decode cX6_book 14 = .ok (.ireturn, 1) := by decide +kernel
theorem dX6_book_15 : decode cX6_book 15 = .ok (.aload_n 0, 1) := by decide +kernel
theorem dX6_book_16 : decode cX6_book 16 = .ok (.getfield 22, 3) := by decide +kernel
theorem dX6_book_19 : decode cX6_book 19 = .ok (.iload_n 1, 1) := by decide +kernel
theorem dX6_book_20 : decode cX6_book 20 = .ok (.invokevirtual 69, 3) := by decide +kernel
theorem dX6_book_23 : decode cX6_book 23 = .ok (.ifCond .ne 5, 3) := by decide +kernel
theorem dX6_book_26 : decode cX6_book 26 = .ok (.iconst (-1), 1) := by decide +kernel
theorem dX6_book_27 : decode cX6_book 27 = .ok (.ireturn, 1) := by decide +kernel
theorem dX6_book_28 : decode cX6_book 28 = .ok (.aload_n 0, 1) := by decide +kernel
theorem dX6_book_29 : decode cX6_book 29 = .ok (.getfield 22, 3) := by decide +kernel
theorem dX6_book_32 : decode cX6_book 32 = .ok (.getfield 237, 3) := by decide +kernel
theorem dX6_book_35 : decode cX6_book 35 = .ok (.bipush 12, 2) := by decide +kernel
theorem dX6_book_37 : decode cX6_book 37 = .ok (.if_icmp .lt 6, 3) := by decide +kernel
theorem dX6_book_40 : decode cX6_book 40 = .ok (.bipush (-4), 2) := by decide +kernel
theorem dX6_book_42 : decode cX6_book 42 = .ok (.ireturn, 1) := by decide +kernel
theorem dX6_book_43 : decode cX6_book 43 = .ok (.aload_n 0, 1) := by decide +kernel
theorem dX6_book_44 : decode cX6_book 44 = .ok (.getfield 22, 3) := by decide +kernel
theorem dX6_book_47 : decode cX6_book 47 = .ok (.getfield 240, 3) := by decide +kernel
theorem dX6_book_50 : decode cX6_book 50 = .ok (.aload_n 0, 1) := by decide +kernel
theorem dX6_book_51 : decode cX6_book 51 = .ok (.getfield 22, 3) := by decide +kernel
theorem dX6_book_54 : decode cX6_book 54 = .ok (.getfield 237, 3) := by decide +kernel
theorem dX6_book_57 : decode cX6_book 57 = .ok (.iload_n 1, 1) := by decide +kernel
theorem dX6_book_58 : decode cX6_book 58 = .ok (.iastore, 1) := by decide +kernel
theorem dX6_book_59 : decode cX6_book 59 = .ok (.aload_n 0, 1) := by decide +kernel
theorem dX6_book_60 : decode cX6_book 60 = .ok (.getfield 22, 3) := by decide +kernel
theorem dX6_book_63 : decode cX6_book 63 = .ok (.dup, 1) := by decide +kernel
theorem dX6_book_64 : decode cX6_book 64 = .ok (.getfield 237, 3) := by decide +kernel
theorem dX6_book_67 : decode cX6_book 67 = .ok (.iconst 1, 1) := by decide +kernel
theorem dX6_book_68 : decode cX6_book 68 = .ok (.iadd, 1) := by decide +kernel
theorem dX6_book_69 : decode cX6_book 69 = .ok (.putfield 237, 3) := by decide +kernel
theorem dX6_book_72 : decode cX6_book 72 = .ok (.aload_n 0, 1) := by decide +kernel
theorem dX6_book_73 : decode cX6_book 73 = .ok (.getfield 22, 3) := by decide +kernel
theorem dX6_book_76 : decode cX6_book 76 = .ok (.getfield 237, 3) := by decide +kernel
theorem dX6_book_79 : decode cX6_book 79 = .ok (.ireturn, 1) := by decide +kernel
theorem dX6_looked_0 : decode cX6_looked 0 = .ok (.aload_n 0, 1) := by decide +kernel
theorem dX6_looked_1 : decode cX6_looked 1 = .ok (.getfield 22, 3) := by decide +kernel
theorem dX6_looked_4 : decode cX6_looked 4 = .ok (.iload_n 1, 1) := by decide +kernel
theorem dX6_looked_5 : decode cX6_looked 5 = .ok (.invokevirtual 69, 3) := by decide +kernel
theorem dX6_looked_8 : decode cX6_looked 8 = .ok (.ifCond .ne 5, 3) := by decide +kernel
theorem dX6_looked_11 : decode cX6_looked 11 = .ok (.iconst (-1), 1) := by decide +kernel
theorem dX6_looked_12 : decode cX6_looked 12 = .ok (.ireturn, 1) := by decide +kernel
theorem dX6_looked_13 : decode cX6_looked 13 = .ok (.aload_n 0, 1) := by decide +kernel
theorem dX6_looked_14 : decode cX6_looked 14 = .ok (.invokevirtual 83, 3) := by decide +kernel
theorem dX6_looked_17 : decode cX6_looked 17 = .ok (.pop, 1) := by decide +kernel
theorem dX6_looked_18 : decode cX6_looked 18 = .ok (.iconst 1, 1) := by decide +kernel
theorem dX6_looked_19 : decode cX6_looked 19 = .ok (.istore_n 2, 1) := by decide +kernel
theorem dX6_looked_20 : decode cX6_looked 20 = .ok (.iload_n 2, 1) := by decide +kernel
theorem dX6_looked_21 : decode cX6_looked 21 = .ok (.aload_n 0, 1) := by decide +kernel
theorem dX6_looked_22 : decode cX6_looked 22 = .ok (.getfield 22, 3) := by decide +kernel
theorem dX6_looked_25 : decode cX6_looked 25 = .ok (.getfield 237, 3) := by decide +kernel
theorem dX6_looked_28 : decode cX6_looked 28 = .ok (.if_icmp .ge 46, 3) := by decide +kernel
theorem dX6_looked_31 : decode cX6_looked 31 = .ok (.aload_n 0, 1) := by decide +kernel
theorem dX6_looked_32 : decode cX6_looked 32 = .ok (.getfield 12, 3) := by decide +kernel
theorem dX6_looked_35 : decode cX6_looked 35 = .ok (.getfield 173, 3) := by decide +kernel
theorem dX6_looked_38 : decode cX6_looked 38 = .ok (.aload_n 0, 1) := by decide +kernel
theorem dX6_looked_39 : decode cX6_looked 39 = .ok (.getfield 22, 3) := by decide +kernel
theorem dX6_looked_42 : decode cX6_looked 42 = .ok (.getfield 240, 3) := by decide +kernel
theorem dX6_looked_45 : decode cX6_looked 45 = .ok (.iload_n 2, 1) := by decide +kernel
theorem dX6_looked_46 : decode cX6_looked 46 = .ok (.iconst 1, 1) := by decide +kernel
theorem dX6_looked_47 : decode cX6_looked 47 = .ok (.isub, 1) := by decide +kernel
theorem dX6_looked_48 : decode cX6_looked 48 = .ok (.iaload, 1) := by decide +kernel
theorem dX6_looked_49 : decode cX6_looked 49 = .ok (.iload_n 1, 1) := by decide +kernel
theorem dX6_looked_50 : decode cX6_looked 50 = .ok (.invokestatic 100, 3) := by decide +kernel
theorem dX6_looked_53 : decode cX6_looked 53 = .ok (.iaload, 1) := by decide +kernel
theorem dX6_looked_54 : decode cX6_looked 54 = .ok (.aload_n 0, 1) := by decide +kernel
theorem dX6_looked_55 : decode cX6_looked 55 = .ok (.getfield 22, 3) := by decide +kernel
theorem dX6_looked_58 : decode cX6_looked 58 = .ok (.getfield 240, 3) := by decide +kernel
theorem dX6_looked_61 : decode cX6_looked 61 = .ok (.iload_n 2, 1) := by decide +kernel
theorem dX6_looked_62 : decode cX6_looked 62 = .ok (.iaload, 1) := by decide +kernel
theorem dX6_looked_63 : decode cX6_looked 63 = .ok (.if_icmp .eq 5, 3) := by decide +kernel
theorem dX6_looked_66 : decode cX6_looked 66 = .ok (.iload_n 2, 1) := by decide +kernel
theorem dX6_looked_67 : decode cX6_looked 67 = .ok (.ireturn, 1) := by decide +kernel
theorem dX6_looked_68 : decode cX6_looked 68 = .ok (.iinc 2 1, 3) := by decide +kernel
theorem dX6_looked_71 : decode cX6_looked 71 = .ok (.goto (-51), 3) := by decide +kernel
theorem dX6_looked_74 : decode cX6_looked 74 = .ok (.bipush (-5), 2) := by decide +kernel
theorem dX6_looked_76 : decode cX6_looked 76 = .ok (.ireturn, 1) := by decide +kernel
theorem dX6_judge_0 : decode cX6_judge 0 = .ok (.iload_n 1, 1) := by decide +kernel
theorem dX6_judge_1 : decode cX6_judge 1 = .ok (.invokestatic 243, 3) := by decide +kernel
theorem dX6_judge_4 : decode cX6_judge 4 = .ok (.ifCond .ne 5, 3) := by decide +kernel
theorem dX6_judge_7 : decode cX6_judge 7 = .ok (.iconst (-1), 1) := by decide +kernel
theorem dX6_judge_8 : decode cX6_judge 8 = .ok (.ireturn, 1) := by decide +kernel
theorem dX6_judge_9 : decode cX6_judge 9 = .ok (.aload_n 0, 1) := by decide +kernel
theorem dX6_judge_10 : decode cX6_judge 10 = .ok (.getfield 56, 3) := by decide +kernel
theorem dX6_judge_13 : decode cX6_judge 13 = .ok (.iload_n 1, 1) := by decide +kernel
theorem dX6_judge_14 : decode cX6_judge 14 = .ok (.aaload, 1) := by decide +kernel
theorem dX6_judge_15 : decode cX6_judge 15 = .ok (.astore_n 3, 1) := by decide +kernel
theorem dX6_judge_16 : decode cX6_judge 16 = .ok (.aload_n 3, 1) := by decide +kernel
theorem dX6_judge_17 : decode cX6_judge 17 = .ok (.getfield 246, 3) := by decide +kernel
theorem dX6_judge_20 : decode cX6_judge 20 = .ok (.iconst (-1), 1) := by decide +kernel
theorem dX6_judge_21 : decode cX6_judge 21 = .ok (.if_icmp .eq 14, 3) := by decide +kernel
theorem dX6_judge_24 : decode cX6_judge 24 = .ok (.aload_n 3, 1) := by decide +kernel
theorem dX6_judge_25 : decode cX6_judge 25 = .ok (.getfield 246, 3) := by decide +kernel
theorem dX6_judge_28 : decode cX6_judge 28 = .ok (.iconst 2, 1) := by decide +kernel
theorem dX6_judge_29 : decode cX6_judge 29 = .ok (.if_icmp .eq 6, 3) := by decide +kernel
theorem dX6_judge_32 : decode cX6_judge 32 = .ok (.bipush (-12), 2) := by decide +kernel
theorem dX6_judge_34 : decode cX6_judge 34 = .ok (.ireturn, 1) := by decide +kernel
theorem dX6_judge_35 : decode cX6_judge 35 = .ok (.aload_n 0, 1) := by decide +kernel
theorem dX6_judge_36 : decode cX6_judge 36 = .ok (.invokevirtual 83, 3) := by decide +kernel
theorem dX6_judge_39 : decode cX6_judge 39 = .ok (.pop, 1) := by decide +kernel
theorem dX6_judge_40 : decode cX6_judge 40 = .ok (.iconst 0, 1) := by decide +kernel
theorem dX6_judge_41 : decode cX6_judge 41 = .ok (.istore 4, 2) := by decide +kernel
theorem dX6_judge_43 : decode cX6_judge 43 = .ok (.iload 4, 2) := by decide +kernel
theorem dX6_judge_45 : decode cX6_judge 45 = .ok (.aload_n 0, 1) := by decide +kernel
theorem dX6_judge_46 : decode cX6_judge 46 = .ok (.getfield 22, 3) := by decide +kernel
theorem dX6_judge_49 : decode cX6_judge 49 = .ok (.getfield 61, 3) := by decide +kernel
theorem dX6_judge_52 : decode cX6_judge 52 = .ok (.if_icmp .ge 57, 3) := by decide +kernel
theorem dX6_judge_55 : decode cX6_judge 55 = .ok (.iload_n 2, 1) := by decide +kernel
theorem dX6_judge_56 : decode cX6_judge 56 = .ok (.ifCond .lt 14, 3) := by decide +kernel
theorem dX6_judge_59 : decode cX6_judge 59 = .ok (.iload_n 2, 1) := by decide +kernel
theorem dX6_judge_60 : decode cX6_judge 60 = .ok (.aload_n 3, 1) := by decide +kernel
theorem dX6_judge_61 : decode cX6_judge 61 = .ok (.getfield 249, 3) := by decide +kernel
theorem dX6_judge_64 : decode cX6_judge 64 = .ok (.iload 4, 2) := by decide +kernel
theorem dX6_judge_66 : decode cX6_judge 66 = .ok (.isub, 1) := by decide +kernel
theorem dX6_judge_67 : decode cX6_judge 67 = .ok (.if_icmp .lt 9, 3) := by decide +kernel
theorem dX6_judge_70 : decode cX6_judge 70 = .ok (.bipush 100, 2) := by decide +kernel
theorem dX6_judge_72 : decode cX6_judge 72 = .ok (.iload 4, 2) := by decide +kernel
theorem dX6_judge_74 : decode cX6_judge 74 = .ok (.iadd, 1) := by decide +kernel
theorem dX6_judge_75 : decode cX6_judge 75 = .ok (.ireturn, 1) := by decide +kernel
theorem dX6_judge_76 : decode cX6_judge 76 = .ok (.aload_n 3, 1) := by decide +kernel
theorem dX6_judge_77 : decode cX6_judge 77 = .ok (.getfield 250, 3) := by decide +kernel
theorem dX6_judge_80 : decode cX6_judge 80 = .ok (.iload_n 2, 1) := by decide +kernel
theorem dX6_judge_81 : decode cX6_judge 81 = .ok (.iload 4, 2) := by decide +kernel
theorem dX6_judge_83 : decode cX6_judge 83 = .ok (.iadd, 1) := by decide +kernel
theorem dX6_judge_84 : decode cX6_judge 84 = .ok (.laload, 1) := by decide +kernel
theorem dX6_judge_85 : decode cX6_judge 85 = .ok (.aload_n 0, 1) := by decide +kernel
theorem dX6_judge_86 : decode cX6_judge 86 = .ok (.getfield 12, 3) := by decide +kernel
theorem dX6_judge_89 : decode cX6_judge 89 = .ok (.getfield 87, 3) := by decide +kernel
theorem dX6_judge_92 : decode cX6_judge 92 = .ok (.iload 4, 2) := by decide +kernel
theorem dX6_judge_94 : decode cX6_judge 94 = .ok (.iaload, 1) := by decide +kernel
theorem dX6_judge_95 : decode cX6_judge 95 = .ok (.i2l, 1) := by decide +kernel
theorem dX6_judge_96 : decode cX6_judge 96 = .ok (.lcmp, 1) := by decide +kernel
theorem dX6_judge_97 : decode cX6_judge 97 = .ok (.ifCond .eq 6, 3) := by decide +kernel
theorem dX6_judge_100 : decode cX6_judge 100 = .ok (.iload 4, 2) := by decide +kernel
theorem dX6_judge_102 : decode cX6_judge 102 = .ok (.ireturn, 1) := by decide +kernel
theorem dX6_judge_103 : decode cX6_judge 103 = .ok (.iinc 4 1, 3) := by decide +kernel
theorem dX6_judge_106 : decode cX6_judge 106 = .ok (.goto (-63), 3) := by decide +kernel
theorem dX6_judge_109 : decode cX6_judge 109 = .ok (.bipush (-5), 2) := by decide +kernel
theorem dX6_judge_111 : decode cX6_judge 111 = .ok (.ireturn, 1) := by decide +kernel
theorem dX6_image_0 : decode cX6_image 0 = .ok (.aload_n 0, 1) := by decide +kernel
theorem dX6_image_1 : decode cX6_image 1 = .ok (.getfield 26, 3) := by decide +kernel
theorem dX6_image_4 : decode cX6_image 4 = .ok (.aload_n 0, 1) := by decide +kernel
theorem dX6_image_5 : decode cX6_image 5 = .ok (.getfield 22, 3) := by decide +kernel
theorem dX6_image_8 : decode cX6_image 8 = .ok (.invokevirtual 254, 3) := by decide +kernel
theorem dX6_image_11 : decode cX6_image 11 = .ok (.aload_n 0, 1) := by decide +kernel
theorem dX6_image_12 : decode cX6_image 12 = .ok (.iconst 1, 1) := by decide +kernel
theorem dX6_image_13 : decode cX6_image 13 = .ok (.putfield 258, 3) := by decide +kernel
theorem dX6_image_16 : decode cX6_image 16 = .ok (.aload_n 0, 1) := by decide +kernel
theorem dX6_image_17 : decode cX6_image 17 = .ok (.getfield 22, 3) := by decide +kernel
theorem dX6_image_20 : decode cX6_image 20 = .ok (.getfield 61, 3) := by decide +kernel
theorem dX6_image_23 : decode cX6_image 23 = .ok (.ireturn, 1) := by decide +kernel
theorem dX6_undo_0 : decode cX6_undo 0 = .ok (.aload_n 0, 1) := by decide +kernel
theorem dX6_undo_1 : decode cX6_undo 1 = .ok (.getfield 258, 3) := by decide +kernel
theorem dX6_undo_4 : decode cX6_undo 4 = .ok (.ifCond .ne 6, 3) := by decide +kernel
theorem dX6_undo_7 : decode cX6_undo 7 = .ok (.bipush (-3), 2) := by decide +kernel
theorem dX6_undo_9 : decode cX6_undo 9 = .ok (.ireturn, 1) := by decide +kernel
theorem dX6_undo_10 : decode cX6_undo 10 = .ok (.aload_n 0, 1) := by decide +kernel
theorem dX6_undo_11 : decode cX6_undo 11 = .ok (.getfield 22, 3) := by decide +kernel
theorem dX6_undo_14 : decode cX6_undo 14 = .ok (.aload_n 0, 1) := by decide +kernel
theorem dX6_undo_15 : decode cX6_undo 15 = .ok (.getfield 26, 3) := by decide +kernel
theorem dX6_undo_18 : decode cX6_undo 18 = .ok (.invokevirtual 254, 3) := by decide +kernel
theorem dX6_undo_21 : decode cX6_undo 21 = .ok (.aload_n 0, 1) := by decide +kernel
theorem dX6_undo_22 : decode cX6_undo 22 = .ok (.getfield 22, 3) := by decide +kernel
theorem dX6_undo_25 : decode cX6_undo 25 = .ok (.getfield 61, 3) := by decide +kernel
theorem dX6_undo_28 : decode cX6_undo 28 = .ok (.ireturn, 1) := by decide +kernel
theorem dX6_act_0 : decode cX6_act 0 = .ok (.aload_n 0, 1) := by decide +kernel
theorem dX6_act_1 : decode cX6_act 1 = .ok (.getfield 50, 3) := by decide +kernel
theorem dX6_act_4 : decode cX6_act 4 = .ok (.invokevirtual 262, 3) := by decide +kernel
theorem dX6_act_7 : decode cX6_act 7 = .ok (.aload_n 0, 1) := by decide +kernel
theorem dX6_act_8 : decode cX6_act 8 = .ok (.getfield 22, 3) := by decide +kernel
theorem dX6_act_11 : decode cX6_act 11 = .ok (.iload_n 1, 1) := by decide +kernel
theorem dX6_act_12 : decode cX6_act 12 = .ok (.invokevirtual 69, 3) := by decide +kernel
theorem dX6_act_15 : decode cX6_act 15 = .ok (.ifCond .ne 5, 3) := by decide +kernel
theorem dX6_act_18 : decode cX6_act 18 = .ok (.iconst 0, 1) := by decide +kernel
theorem dX6_act_19 : decode cX6_act 19 = .ok (.ireturn, 1) := by decide +kernel
theorem dX6_act_20 : decode cX6_act 20 = .ok (.aload_n 0, 1) := by decide +kernel
theorem dX6_act_21 : decode cX6_act 21 = .ok (.getfield 50, 3) := by decide +kernel
theorem dX6_act_24 : decode cX6_act 24 = .ok (.iload_n 1, 1) := by decide +kernel
theorem dX6_act_25 : decode cX6_act 25 = .ok (.aload_n 0, 1) := by decide +kernel
theorem dX6_act_26 : decode cX6_act 26 = .ok (.getfield 22, 3) := by decide +kernel
theorem dX6_act_29 : decode cX6_act 29 = .ok (.getfield 73, 3) := by decide +kernel
theorem dX6_act_32 : decode cX6_act 32 = .ok (.iload_n 1, 1) := by decide +kernel
theorem dX6_act_33 : decode cX6_act 33 = .ok (.iaload, 1) := by decide +kernel
theorem dX6_act_34 : decode cX6_act 34 = .ok (.aload_n 0, 1) := by decide +kernel
theorem dX6_act_35 : decode cX6_act 35 = .ok (.getfield 22, 3) := by decide +kernel
theorem dX6_act_38 : decode cX6_act 38 = .ok (.getfield 77, 3) := by decide +kernel
theorem dX6_act_41 : decode cX6_act 41 = .ok (.iload_n 1, 1) := by decide +kernel
theorem dX6_act_42 : decode cX6_act 42 = .ok (.iaload, 1) := by decide +kernel
theorem dX6_act_43 : decode cX6_act 43 = .ok (.invokevirtual 265, 3) := by decide +kernel
theorem dX6_act_46 : decode cX6_act 46 = .ok (.iload_n 2, 1) := by decide +kernel
theorem dX6_act_47 : decode cX6_act 47 = .ok (.tableswitch 82 0 2 #[25, 44, 63], 25) := by decide +kernel
theorem dX6_act_72 : decode cX6_act 72 = .ok (.aload_n 0, 1) := by decide +kernel
theorem dX6_act_73 : decode cX6_act 73 = .ok (.getfield 50, 3) := by decide +kernel
theorem dX6_act_76 : decode cX6_act 76 = .ok (.aload_n 0, 1) := by decide +kernel
theorem dX6_act_77 : decode cX6_act 77 = .ok (.getfield 22, 3) := by decide +kernel
theorem dX6_act_80 : decode cX6_act 80 = .ok (.getfield 73, 3) := by decide +kernel
theorem dX6_act_83 : decode cX6_act 83 = .ok (.iload_n 1, 1) := by decide +kernel
theorem dX6_act_84 : decode cX6_act 84 = .ok (.iaload, 1) := by decide +kernel
theorem dX6_act_85 : decode cX6_act 85 = .ok (.iload_n 3, 1) := by decide +kernel
theorem dX6_act_86 : decode cX6_act 86 = .ok (.iconst 0, 1) := by decide +kernel
theorem dX6_act_87 : decode cX6_act 87 = .ok (.invokevirtual 268, 3) := by decide +kernel
theorem dX6_act_90 : decode cX6_act 90 = .ok (.ireturn, 1) := by decide +kernel
theorem dX6_act_91 : decode cX6_act 91 = .ok (.aload_n 0, 1) := by decide +kernel
theorem dX6_act_92 : decode cX6_act 92 = .ok (.getfield 50, 3) := by decide +kernel
theorem dX6_act_95 : decode cX6_act 95 = .ok (.aload_n 0, 1) := by decide +kernel
theorem dX6_act_96 : decode cX6_act 96 = .ok (.getfield 22, 3) := by decide +kernel
theorem dX6_act_99 : decode cX6_act 99 = .ok (.getfield 73, 3) := by decide +kernel
theorem dX6_act_102 : decode cX6_act 102 = .ok (.iload_n 1, 1) := by decide +kernel
theorem dX6_act_103 : decode cX6_act 103 = .ok (.iaload, 1) := by decide +kernel
theorem dX6_act_104 : decode cX6_act 104 = .ok (.iload_n 3, 1) := by decide +kernel
theorem dX6_act_105 : decode cX6_act 105 = .ok (.iconst 0, 1) := by decide +kernel
theorem dX6_act_106 : decode cX6_act 106 = .ok (.invokevirtual 271, 3) := by decide +kernel
theorem dX6_act_109 : decode cX6_act 109 = .ok (.ireturn, 1) := by decide +kernel
theorem dX6_act_110 : decode cX6_act 110 = .ok (.aload_n 0, 1) := by decide +kernel
theorem dX6_act_111 : decode cX6_act 111 = .ok (.getfield 50, 3) := by decide +kernel
theorem dX6_act_114 : decode cX6_act 114 = .ok (.aload_n 0, 1) := by decide +kernel
theorem dX6_act_115 : decode cX6_act 115 = .ok (.getfield 22, 3) := by decide +kernel
theorem dX6_act_118 : decode cX6_act 118 = .ok (.getfield 73, 3) := by decide +kernel
theorem dX6_act_121 : decode cX6_act 121 = .ok (.iload_n 1, 1) := by decide +kernel
theorem dX6_act_122 : decode cX6_act 122 = .ok (.iaload, 1) := by decide +kernel
theorem dX6_act_123 : decode cX6_act 123 = .ok (.iload_n 3, 1) := by decide +kernel
theorem dX6_act_124 : decode cX6_act 124 = .ok (.iconst 0, 1) := by decide +kernel
theorem dX6_act_125 : decode cX6_act 125 = .ok (.invokevirtual 273, 3) := by decide +kernel
theorem dX6_act_128 : decode cX6_act 128 = .ok (.ireturn, 1) := by decide +kernel
theorem dX6_act_129 : decode cX6_act 129 = .ok (.iconst 0, 1) := by decide +kernel
theorem dX6_act_130 : decode cX6_act 130 = .ok (.ireturn, 1) := by decide +kernel
theorem dX6_trace_0 : decode cX6_trace 0 = .ok (.iload_n 1, 1) := by decide +kernel
theorem dX6_trace_1 : decode cX6_trace 1 = .ok (.ifCond .lt 32, 3) := by decide +kernel
theorem dX6_trace_4 : decode cX6_trace 4 = .ok (.iload_n 1, 1) := by decide +kernel
theorem dX6_trace_5 : decode cX6_trace 5 = .ok (.bipush 20, 2) := by decide +kernel
theorem dX6_trace_7 : decode cX6_trace 7 = .ok (.if_icmp .ge 26, 3) := by decide +kernel
theorem dX6_trace_10 : decode cX6_trace 10 = .ok (.iload_n 1, 1) := by decide +kernel
theorem dX6_trace_11 : decode cX6_trace 11 = .ok (.aload_n 0, 1) := by decide +kernel
theorem dX6_trace_12 : decode cX6_trace 12 = .ok (.getfield 50, 3) := by decide +kernel
theorem dX6_trace_15 : decode cX6_trace 15 = .ok (.getfield 276, 3) := by decide +kernel
theorem dX6_trace_18 : decode cX6_trace 18 = .ok (.if_icmp .ge 15, 3) := by decide +kernel
theorem dX6_trace_21 : decode cX6_trace 21 = .ok (.aload_n 0, 1) := by decide +kernel
theorem dX6_trace_22 : decode cX6_trace 22 = .ok (.getfield 50, 3) := by decide +kernel
theorem dX6_trace_25 : decode cX6_trace 25 = .ok (.getfield 279, 3) := by decide +kernel
theorem dX6_trace_28 : decode cX6_trace 28 = .ok (.iload_n 1, 1) := by decide +kernel
theorem dX6_trace_29 : decode cX6_trace 29 = .ok (.iaload, 1) := by decide +kernel
theorem dX6_trace_30 : decode cX6_trace 30 = .ok (.goto 4, 3) := by decide +kernel
theorem dX6_trace_33 : decode cX6_trace 33 = .ok (.iconst (-1), 1) := by decide +kernel
theorem dX6_trace_34 : decode cX6_trace 34 = .ok (.ireturn, 1) := by decide +kernel
theorem dX6_taken_0 : decode cX6_taken 0 = .ok (.iload_n 2, 1) := by decide +kernel
theorem dX6_taken_1 : decode cX6_taken 1 = .ok (.ifCond .lt 9, 3) := by decide +kernel
theorem dX6_taken_4 : decode cX6_taken 4 = .ok (.iload_n 2, 1) := by decide +kernel
theorem dX6_taken_5 : decode cX6_taken 5 = .ok (.bipush 6, 2) := by decide +kernel
theorem dX6_taken_7 : decode cX6_taken 7 = .ok (.if_icmp .le 6, 3) := by decide +kernel
theorem dX6_taken_10 : decode cX6_taken 10 = .ok (.bipush (-2), 2) := by decide +kernel
theorem dX6_taken_12 : decode cX6_taken 12 = .ok (.ireturn, 1) := by decide +kernel
theorem dX6_taken_13 : decode cX6_taken 13 = .ok (.aload_n 0, 1) := by decide +kernel
theorem dX6_taken_14 : decode cX6_taken 14 = .ok (.getfield 22, 3) := by decide +kernel
theorem dX6_taken_17 : decode cX6_taken 17 = .ok (.iload_n 1, 1) := by decide +kernel
theorem dX6_taken_18 : decode cX6_taken 18 = .ok (.invokevirtual 69, 3) := by decide +kernel
theorem dX6_taken_21 : decode cX6_taken 21 = .ok (.ifCond .ne 6, 3) := by decide +kernel
theorem dX6_taken_24 : decode cX6_taken 24 = .ok (.bipush (-11), 2) := by decide +kernel
theorem dX6_taken_26 : decode cX6_taken 26 = .ok (.ireturn, 1) := by decide +kernel
theorem dX6_taken_27 : decode cX6_taken 27 = .ok (.aload_n 0, 1) := by decide +kernel
theorem dX6_taken_28 : decode cX6_taken 28 = .ok (.getfield 22, 3) := by decide +kernel
theorem dX6_taken_31 : decode cX6_taken 31 = .ok (.getfield 73, 3) := by decide +kernel
theorem dX6_taken_34 : decode cX6_taken 34 = .ok (.iload_n 1, 1) := by decide +kernel
theorem dX6_taken_35 : decode cX6_taken 35 = .ok (.iaload, 1) := by decide +kernel
theorem dX6_taken_36 : decode cX6_taken 36 = .ok (.iload_n 2, 1) := by decide +kernel
theorem dX6_taken_37 : decode cX6_taken 37 = .ok (.invokestatic 282, 3) := by decide +kernel
theorem dX6_taken_40 : decode cX6_taken 40 = .ok (.ifCond .eq 15, 3) := by decide +kernel
theorem dX6_taken_43 : decode cX6_taken 43 = .ok (.aload_n 0, 1) := by decide +kernel
theorem dX6_taken_44 : decode cX6_taken 44 = .ok (.getfield 22, 3) := by decide +kernel
theorem dX6_taken_47 : decode cX6_taken 47 = .ok (.getfield 73, 3) := by decide +kernel
theorem dX6_taken_50 : decode cX6_taken 50 = .ok (.iload_n 1, 1) := by decide +kernel
theorem dX6_taken_51 : decode cX6_taken 51 = .ok (.iaload, 1) := by decide +kernel
theorem dX6_taken_52 : decode cX6_taken 52 = .ok (.goto 5, 3) := by decide +kernel
theorem dX6_taken_55 : decode cX6_taken 55 = .ok (.bipush (-12), 2) := by decide +kernel
theorem dX6_taken_57 : decode cX6_taken 57 = .ok (.ireturn, 1) := by decide +kernel
theorem dX6_count_0 : decode cX6_count 0 = .ok (.iload_n 1, 1) := by decide +kernel
theorem dX6_count_1 : decode cX6_count 1 = .ok (.tableswitch 84 0 5 #[39, 47, 52, 60, 68, 76], 39) := by decide +kernel
theorem dX6_count_40 : decode cX6_count 40 = .ok (.aload_n 0, 1) := by decide +kernel
theorem dX6_count_41 : decode cX6_count 41 = .ok (.getfield 22, 3) := by decide +kernel
theorem dX6_count_44 : decode cX6_count 44 = .ok (.getfield 61, 3) := by decide +kernel
theorem dX6_count_47 : decode cX6_count 47 = .ok (.ireturn, 1) := by decide +kernel
theorem dX6_count_48 : decode cX6_count 48 = .ok (.aload_n 0, 1) := by decide +kernel
theorem dX6_count_49 : decode cX6_count 49 = .ok (.getfield 140, 3) := by decide +kernel
theorem dX6_count_52 : decode cX6_count 52 = .ok (.ireturn, 1) := by decide +kernel
theorem dX6_count_53 : decode cX6_count 53 = .ok (.aload_n 0, 1) := by decide +kernel
theorem dX6_count_54 : decode cX6_count 54 = .ok (.getfield 22, 3) := by decide +kernel
theorem dX6_count_57 : decode cX6_count 57 = .ok (.getfield 127, 3) := by decide +kernel
theorem dX6_count_60 : decode cX6_count 60 = .ok (.ireturn, 1) := by decide +kernel
theorem dX6_count_61 : decode cX6_count 61 = .ok (.aload_n 0, 1) := by decide +kernel
theorem dX6_count_62 : decode cX6_count 62 = .ok (.getfield 22, 3) := by decide +kernel
theorem dX6_count_65 : decode cX6_count 65 = .ok (.getfield 237, 3) := by decide +kernel
theorem dX6_count_68 : decode cX6_count 68 = .ok (.ireturn, 1) := by decide +kernel
theorem dX6_count_69 : decode cX6_count 69 = .ok (.aload_n 0, 1) := by decide +kernel
theorem dX6_count_70 : decode cX6_count 70 = .ok (.getfield 43, 3) := by decide +kernel
theorem dX6_count_73 : decode cX6_count 73 = .ok (.getfield 133, 3) := by decide +kernel
theorem dX6_count_76 : decode cX6_count 76 = .ok (.ireturn, 1) := by decide +kernel
theorem dX6_count_77 : decode cX6_count 77 = .ok (.aload_n 0, 1) := by decide +kernel
theorem dX6_count_78 : decode cX6_count 78 = .ok (.getfield 50, 3) := by decide +kernel
theorem dX6_count_81 : decode cX6_count 81 = .ok (.getfield 276, 3) := by decide +kernel
theorem dX6_count_84 : decode cX6_count 84 = .ok (.ireturn, 1) := by decide +kernel
theorem dX6_count_85 : decode cX6_count 85 = .ok (.bipush (-2), 2) := by decide +kernel
theorem dX6_count_87 : decode cX6_count 87 = .ok (.ireturn, 1) := by decide +kernel
theorem dX6_tape_0 : decode cX6_tape 0 = .ok (.iload_n 1, 1) := by decide +kernel
theorem dX6_tape_1 : decode cX6_tape 1 = .ok (.invokestatic 243, 3) := by decide +kernel
theorem dX6_tape_4 : decode cX6_tape 4 = .ok (.ifCond .ne 5, 3) := by decide +kernel
theorem dX6_tape_7 : decode cX6_tape 7 = .ok (.iconst (-1), 1) := by decide +kernel
theorem dX6_tape_8 : decode cX6_tape 8 = .ok (.ireturn, 1) := by decide +kernel
theorem dX6_tape_9 : decode cX6_tape 9 = .ok (.iload_n 2, 1) := by decide +kernel
theorem dX6_tape_10 : decode cX6_tape 10 = .ok (.iconst (-1), 1) := by decide +kernel
theorem dX6_tape_11 : decode cX6_tape 11 = .ok (.if_icmp .ne 16, 3) := by decide +kernel
theorem dX6_tape_14 : decode cX6_tape 14 = .ok (.aload_n 0, 1) := by decide +kernel
theorem dX6_tape_15 : decode cX6_tape 15 = .ok (.getfield 56, 3) := by decide +kernel
theorem dX6_tape_18 : decode cX6_tape 18 = .ok (.iload_n 1, 1) := by decide +kernel
theorem dX6_tape_19 : decode cX6_tape 19 = .ok (.aaload, 1) := by decide +kernel
theorem dX6_tape_20 : decode cX6_tape 20 = .ok (.iload_n 2, 1) := by decide +kernel
theorem dX6_tape_21 : decode cX6_tape 21 = .ok (.iconst 0, 1) := by decide +kernel
theorem dX6_tape_22 : decode cX6_tape 22 = .ok (.invokevirtual 285, 3) := by decide +kernel
theorem dX6_tape_25 : decode cX6_tape 25 = .ok (.iconst 1, 1) := by decide +kernel
theorem dX6_tape_26 : decode cX6_tape 26 = .ok (.ireturn, 1) := by decide +kernel
theorem dX6_tape_27 : decode cX6_tape 27 = .ok (.iload_n 2, 1) := by decide +kernel
theorem dX6_tape_28 : decode cX6_tape 28 = .ok (.ifCond .lt 14, 3) := by decide +kernel
theorem dX6_tape_31 : decode cX6_tape 31 = .ok (.iload_n 2, 1) := by decide +kernel
theorem dX6_tape_32 : decode cX6_tape 32 = .ok (.iconst 4, 1) := by decide +kernel
theorem dX6_tape_33 : decode cX6_tape 33 = .ok (.if_icmp .gt 9, 3) := by decide +kernel
theorem dX6_tape_36 : decode cX6_tape 36 = .ok (.iload_n 3, 1) := by decide +kernel
theorem dX6_tape_37 : decode cX6_tape 37 = .ok (.bipush 60, 2) := by decide +kernel
theorem dX6_tape_39 : decode cX6_tape 39 = .ok (.if_icmp .le 6, 3) := by decide +kernel
theorem dX6_tape_42 : decode cX6_tape 42 = .ok (.bipush (-2), 2) := by decide +kernel
theorem dX6_tape_44 : decode cX6_tape 44 = .ok (.ireturn, 1) := by decide +kernel
theorem dX6_tape_45 : decode cX6_tape 45 = .ok (.iload_n 3, 1) := by decide +kernel
theorem dX6_tape_46 : decode cX6_tape 46 = .ok (.ifCond .ge 6, 3) := by decide +kernel
theorem dX6_tape_49 : decode cX6_tape 49 = .ok (.bipush (-14), 2) := by decide +kernel
theorem dX6_tape_51 : decode cX6_tape 51 = .ok (.ireturn, 1) := by decide +kernel
theorem dX6_tape_52 : decode cX6_tape 52 = .ok (.aload_n 0, 1) := by decide +kernel
theorem dX6_tape_53 : decode cX6_tape 53 = .ok (.getfield 56, 3) := by decide +kernel
theorem dX6_tape_56 : decode cX6_tape 56 = .ok (.iload_n 1, 1) := by decide +kernel
theorem dX6_tape_57 : decode cX6_tape 57 = .ok (.aaload, 1) := by decide +kernel
theorem dX6_tape_58 : decode cX6_tape 58 = .ok (.iload_n 2, 1) := by decide +kernel
theorem dX6_tape_59 : decode cX6_tape 59 = .ok (.iload_n 3, 1) := by decide +kernel
theorem dX6_tape_60 : decode cX6_tape 60 = .ok (.invokevirtual 285, 3) := by decide +kernel
theorem dX6_tape_63 : decode cX6_tape 63 = .ok (.iconst 1, 1) := by decide +kernel
theorem dX6_tape_64 : decode cX6_tape 64 = .ok (.ireturn, 1) := by decide +kernel
theorem dX6_item_0 : decode cX6_item 0 = .ok (.iload_n 1, 1) := by decide +kernel
theorem dX6_item_1 : decode cX6_item 1 = .ok (.invokestatic 243, 3) := by decide +kernel
theorem dX6_item_4 : decode cX6_item 4 = .ok (.ifCond .ne 5, 3) := by decide +kernel
theorem dX6_item_7 : decode cX6_item 7 = .ok (.iconst (-1), 1) := by decide +kernel
theorem dX6_item_8 : decode cX6_item 8 = .ok (.ireturn, 1) := by decide +kernel
theorem dX6_item_9 : decode cX6_item 9 = .ok (.aload_n 0, 1) := by decide +kernel
theorem dX6_item_10 : decode cX6_item 10 = .ok (.getfield 56, 3) := by decide +kernel
theorem dX6_item_13 : decode cX6_item 13 = .ok (.iload_n 1, 1) := by decide +kernel
theorem dX6_item_14 : decode cX6_item 14 = .ok (.aaload, 1) := by decide +kernel
theorem dX6_item_15 : decode cX6_item 15 = .ok (.astore 5, 2) := by decide +kernel
theorem dX6_item_17 : decode cX6_item 17 = .ok (.aload 5, 2) := by decide +kernel
theorem dX6_item_19 : decode cX6_item 19 = .ok (.getfield 246, 3) := by decide +kernel
theorem dX6_item_22 : decode cX6_item 22 = .ok (.iconst (-1), 1) := by decide +kernel
theorem dX6_item_23 : decode cX6_item 23 = .ok (.if_icmp .ne 6, 3) := by decide +kernel
theorem dX6_item_26 : decode cX6_item 26 = .ok (.bipush (-11), 2) := by decide +kernel
theorem dX6_item_28 : decode cX6_item 28 = .ok (.ireturn, 1) := by decide +kernel
theorem dX6_item_29 : decode cX6_item 29 = .ok (.aload 5, 2) := by decide +kernel
theorem dX6_item_31 : decode cX6_item 31 = .ok (.iload_n 2, 1) := by decide +kernel
theorem dX6_item_32 : decode cX6_item 32 = .ok (.iconst 1, 1) := by decide +kernel
theorem dX6_item_33 : decode cX6_item 33 = .ok (.invokevirtual 288, 3) := by decide +kernel
theorem dX6_item_36 : decode cX6_item 36 = .ok (.ifCond .ne 6, 3) := by decide +kernel
theorem dX6_item_39 : decode cX6_item 39 = .ok (.bipush (-13), 2) := by decide +kernel
theorem dX6_item_41 : decode cX6_item 41 = .ok (.ireturn, 1) := by decide +kernel
theorem dX6_item_42 : decode cX6_item 42 = .ok (.aload 5, 2) := by decide +kernel
theorem dX6_item_44 : decode cX6_item 44 = .ok (.getfield 250, 3) := by decide +kernel
theorem dX6_item_47 : decode cX6_item 47 = .ok (.iload_n 2, 1) := by decide +kernel
theorem dX6_item_48 : decode cX6_item 48 = .ok (.aload 5, 2) := by decide +kernel
theorem dX6_item_50 : decode cX6_item 50 = .ok (.lload_n 3, 1) := by decide +kernel
theorem dX6_item_51 : decode cX6_item 51 = .ok (.invokevirtual 291, 3) := by decide +kernel
theorem dX6_item_54 : decode cX6_item 54 = .ok (.lastore, 1) := by decide +kernel
theorem dX6_item_55 : decode cX6_item 55 = .ok (.iconst 1, 1) := by decide +kernel
theorem dX6_item_56 : decode cX6_item 56 = .ok (.ireturn, 1) := by decide +kernel
theorem dX6_read_0 : decode cX6_read 0 = .ok (.iload_n 1, 1) := by decide +kernel
theorem dX6_read_1 : decode cX6_read 1 = .ok (.invokestatic 243, 3) := by decide +kernel
theorem dX6_read_4 : decode cX6_read 4 = .ok (.ifCond .eq 17, 3) := by decide +kernel
theorem dX6_read_7 : decode cX6_read 7 = .ok (.aload_n 0, 1) := by decide +kernel
theorem dX6_read_8 : decode cX6_read 8 = .ok (.getfield 56, 3) := by decide +kernel
theorem dX6_read_11 : decode cX6_read 11 = .ok (.iload_n 1, 1) := by decide +kernel
theorem dX6_read_12 : decode cX6_read 12 = .ok (.aaload, 1) := by decide +kernel
theorem dX6_read_13 : decode cX6_read 13 = .ok (.iload_n 2, 1) := by decide +kernel
theorem dX6_read_14 : decode cX6_read 14 = .ok (.iconst 1, 1) := by decide +kernel
theorem dX6_read_15 : decode cX6_read 15 = .ok (.invokevirtual 288, 3) := by decide +kernel
theorem dX6_read_18 : decode cX6_read 18 = .ok (.ifCond .ne 7, 3) := by decide +kernel
theorem dX6_read_21 : decode cX6_read 21 = .ok (.ldc2_w 225, 3) := by decide +kernel
theorem dX6_read_24 : decode cX6_read 24 = .ok (.lreturn, 1) := by decide +kernel
theorem dX6_read_25 : decode cX6_read 25 = .ok (.aload_n 0, 1) := by decide +kernel
theorem dX6_read_26 : decode cX6_read 26 = .ok (.getfield 56, 3) := by decide +kernel
theorem dX6_read_29 : decode cX6_read 29 = .ok (.iload_n 1, 1) := by decide +kernel
theorem dX6_read_30 : decode cX6_read 30 = .ok (.aaload, 1) := by decide +kernel
theorem dX6_read_31 : decode cX6_read 31 = .ok (.getfield 250, 3) := by decide +kernel
theorem dX6_read_34 : decode cX6_read 34 = .ok (.iload_n 2, 1) := by decide +kernel
theorem dX6_read_35 : decode cX6_read 35 = .ok (.laload, 1) := by decide +kernel
theorem dX6_read_36 : decode cX6_read 36 = .ok (.lreturn, 1) := by decide +kernel
theorem dX6_shift_0 : decode cX6_shift 0 = .ok (.iload_n 1, 1) := by decide +kernel
theorem dX6_shift_1 : decode cX6_shift 1 = .ok (.invokestatic 243, 3) := by decide +kernel
theorem dX6_shift_4 : decode cX6_shift 4 = .ok (.ifCond .eq 10, 3) := by decide +kernel
theorem dX6_shift_7 : decode cX6_shift 7 = .ok (.iload_n 3, 1) := by decide +kernel
theorem dX6_shift_8 : decode cX6_shift 8 = .ok (.invokestatic 243, 3) := by decide +kernel
theorem dX6_shift_11 : decode cX6_shift 11 = .ok (.ifCond .ne 5, 3) := by decide +kernel
theorem dX6_shift_14 : decode cX6_shift 14 = .ok (.iconst (-1), 1) := by decide +kernel
theorem dX6_shift_15 : decode cX6_shift 15 = .ok (.ireturn, 1) := by decide +kernel
theorem dX6_shift_16 : decode cX6_shift 16 = .ok (.aload_n 0, 1) := by decide +kernel
theorem dX6_shift_17 : decode cX6_shift 17 = .ok (.getfield 56, 3) := by decide +kernel
theorem dX6_shift_20 : decode cX6_shift 20 = .ok (.iload_n 1, 1) := by decide +kernel
theorem dX6_shift_21 : decode cX6_shift 21 = .ok (.aaload, 1) := by decide +kernel
theorem dX6_shift_22 : decode cX6_shift 22 = .ok (.astore 6, 2) := by decide +kernel
theorem dX6_shift_24 : decode cX6_shift 24 = .ok (.aload_n 0, 1) := by decide +kernel
theorem dX6_shift_25 : decode cX6_shift 25 = .ok (.getfield 56, 3) := by decide +kernel
theorem dX6_shift_28 : decode cX6_shift 28 = .ok (.iload_n 3, 1) := by decide +kernel
theorem dX6_shift_29 : decode cX6_shift 29 = .ok (.aaload, 1) := by decide +kernel
theorem dX6_shift_30 : decode cX6_shift 30 = .ok (.astore 7, 2) := by decide +kernel
theorem dX6_shift_32 : decode cX6_shift 32 = .ok (.aload 6, 2) := by decide +kernel
theorem dX6_shift_34 : decode cX6_shift 34 = .ok (.getfield 246, 3) := by decide +kernel
theorem dX6_shift_37 : decode cX6_shift 37 = .ok (.iconst (-1), 1) := by decide +kernel
theorem dX6_shift_38 : decode cX6_shift 38 = .ok (.if_icmp .eq 12, 3) := by decide +kernel
theorem dX6_shift_41 : decode cX6_shift 41 = .ok (.aload 7, 2) := by decide +kernel
theorem dX6_shift_43 : decode cX6_shift 43 = .ok (.getfield 246, 3) := by decide +kernel
theorem dX6_shift_46 : decode cX6_shift 46 = .ok (.iconst (-1), 1) := by decide +kernel
theorem dX6_shift_47 : decode cX6_shift 47 = .ok (.if_icmp .ne 6, 3) := by decide +kernel
theorem dX6_shift_50 : decode cX6_shift 50 = .ok (.bipush (-11), 2) := by decide +kernel
theorem dX6_shift_52 : decode cX6_shift 52 = .ok (.ireturn, 1) := by decide +kernel
theorem dX6_shift_53 : decode cX6_shift 53 = .ok (.aload 6, 2) := by decide +kernel
theorem dX6_shift_55 : decode cX6_shift 55 = .ok (.getfield 246, 3) := by decide +kernel
theorem dX6_shift_58 : decode cX6_shift 58 = .ok (.aload 7, 2) := by decide +kernel
theorem dX6_shift_60 : decode cX6_shift 60 = .ok (.getfield 246, 3) := by decide +kernel
theorem dX6_shift_63 : decode cX6_shift 63 = .ok (.if_icmp .eq 6, 3) := by decide +kernel
theorem dX6_shift_66 : decode cX6_shift 66 = .ok (.bipush (-12), 2) := by decide +kernel
theorem dX6_shift_68 : decode cX6_shift 68 = .ok (.ireturn, 1) := by decide +kernel
theorem dX6_shift_69 : decode cX6_shift 69 = .ok (.aload 6, 2) := by decide +kernel
theorem dX6_shift_71 : decode cX6_shift 71 = .ok (.iload_n 2, 1) := by decide +kernel
theorem dX6_shift_72 : decode cX6_shift 72 = .ok (.iload 5, 2) := by decide +kernel
theorem dX6_shift_74 : decode cX6_shift 74 = .ok (.invokevirtual 288, 3) := by decide +kernel
theorem dX6_shift_77 : decode cX6_shift 77 = .ok (.ifCond .eq 15, 3) := by decide +kernel
theorem dX6_shift_80 : decode cX6_shift 80 = .ok (.aload 7, 2) := by decide +kernel
theorem dX6_shift_82 : decode cX6_shift 82 = .ok (.iload 4, 2) := by decide +kernel
theorem dX6_shift_84 : decode cX6_shift 84 = .ok (.iload 5, 2) := by decide +kernel
theorem dX6_shift_86 : decode cX6_shift 86 = .ok (.invokevirtual 288, 3) := by decide +kernel
theorem dX6_shift_89 : decode cX6_shift 89 = .ok (.ifCond .ne 6, 3) := by decide +kernel
theorem dX6_shift_92 : decode cX6_shift 92 = .ok (.bipush (-13), 2) := by decide +kernel
theorem dX6_shift_94 : decode cX6_shift 94 = .ok (.ireturn, 1) := by decide +kernel
theorem dX6_shift_95 : decode cX6_shift 95 = .ok (.aload 6, 2) := by decide +kernel
theorem dX6_shift_97 : decode cX6_shift 97 = .ok (.getfield 250, 3) := by decide +kernel
theorem dX6_shift_100 : decode cX6_shift 100 = .ok (.iload_n 2, 1) := by decide +kernel
theorem dX6_shift_101 : decode cX6_shift 101 = .ok (.aload 7, 2) := by decide +kernel
theorem dX6_shift_103 : decode cX6_shift 103 = .ok (.getfield 250, 3) := by decide +kernel
theorem dX6_shift_106 : decode cX6_shift 106 = .ok (.iload 4, 2) := by decide +kernel
theorem dX6_shift_108 : decode cX6_shift 108 = .ok (.iload 5, 2) := by decide +kernel
theorem dX6_shift_110 : decode cX6_shift 110 = .ok (.invokestatic 295, 3) := by decide +kernel
theorem dX6_shift_113 : decode cX6_shift 113 = .ok (.iload 5, 2) := by decide +kernel
theorem dX6_shift_115 : decode cX6_shift 115 = .ok (.ireturn, 1) := by decide +kernel
theorem dX6_index_0 : decode cX6_index 0 = .ok (.iload_n 0, 1) := by decide +kernel
theorem dX6_index_1 : decode cX6_index 1 = .ok (.bipush 7, 2) := by decide +kernel
theorem dX6_index_3 : decode cX6_index 3 = .ok (.imul, 1) := by decide +kernel
theorem dX6_index_4 : decode cX6_index 4 = .ok (.iload_n 1, 1) := by decide +kernel
theorem dX6_index_5 : decode cX6_index 5 = .ok (.iadd, 1) := by decide +kernel
theorem dX6_index_6 : decode cX6_index 6 = .ok (.ireturn, 1) := by decide +kernel
theorem dX6_isPart_0 : decode cX6_isPart 0 = .ok (.iload_n 0, 1) := by decide +kernel
theorem dX6_isPart_1 : decode cX6_isPart 1 = .ok (.ifCond .eq 8, 3) := by decide +kernel
theorem dX6_isPart_4 : decode cX6_isPart 4 = .ok (.iload_n 0, 1) := by decide +kernel
theorem dX6_isPart_5 : decode cX6_isPart 5 = .ok (.iconst 1, 1) := by decide +kernel
theorem dX6_isPart_6 : decode cX6_isPart 6 = .ok (.if_icmp .ne 7, 3) := by decide +kernel
theorem dX6_isPart_9 : decode cX6_isPart 9 = .ok (.iconst 1, 1) := by decide +kernel
theorem dX6_isPart_10 : decode cX6_isPart 10 = .ok (.goto 4, 3) := by decide +kernel
theorem dX6_isPart_13 : decode cX6_isPart 13 = .ok (.iconst 0, 1) := by decide +kernel
theorem dX6_isPart_14 : decode cX6_isPart 14 = .ok (.ireturn, 1) := by decide +kernel
theorem dX6_isTape_0 : decode cX6_isTape 0 = .ok (.iload_n 0, 1) := by decide +kernel
theorem dX6_isTape_1 : decode cX6_isTape 1 = .ok (.ifCond .lt 13, 3) := by decide +kernel
theorem dX6_isTape_4 : decode cX6_isTape 4 = .ok (.iload_n 0, 1) := by decide +kernel
theorem dX6_isTape_5 : decode cX6_isTape 5 = .ok (.bipush 6, 2) := by decide +kernel
theorem dX6_isTape_7 : decode cX6_isTape 7 = .ok (.if_icmp .ge 7, 3) := by decide +kernel
theorem dX6_isTape_10 : decode cX6_isTape 10 = .ok (.iconst 1, 1) := by decide +kernel
theorem dX6_isTape_11 : decode cX6_isTape 11 = .ok (.goto 4, 3) := by decide +kernel
theorem dX6_isTape_14 : decode cX6_isTape 14 = .ok (.iconst 0, 1) := by decide +kernel
theorem dX6_isTape_15 : decode cX6_isTape 15 = .ok (.ireturn, 1) := by decide +kernel
theorem dX6_isUnder_0 : decode cX6_isUnder 0 = .ok (.iload_n 0, 1) := by decide +kernel
theorem dX6_isUnder_1 : decode cX6_isUnder 1 = .ok (.istore_n 2, 1) := by decide +kernel
theorem dX6_isUnder_2 : decode cX6_isUnder 2 = .ok (.iconst 0, 1) := by decide +kernel
theorem dX6_isUnder_3 : decode cX6_isUnder 3 = .ok (.istore_n 3, 1) := by decide +kernel
theorem dX6_isUnder_4 : decode cX6_isUnder 4 = .ok (.iload_n 3, 1) := by decide +kernel
theorem dX6_isUnder_5 : decode cX6_isUnder 5 = .ok (.bipush 7, 2) := by decide +kernel
theorem dX6_isUnder_7 : decode cX6_isUnder 7 = .ok (.if_icmp .ge 32, 3) := by decide +kernel
theorem dX6_isUnder_10 : decode cX6_isUnder 10 = .ok (.iload_n 2, 1) := by decide +kernel
theorem dX6_isUnder_11 : decode cX6_isUnder 11 = .ok (.ifCond .lt 28, 3) := by decide +kernel
theorem dX6_isUnder_14 : decode cX6_isUnder 14 = .ok (.iload_n 2, 1) := by decide +kernel
theorem dX6_isUnder_15 : decode cX6_isUnder 15 = .ok (.bipush 7, 2) := by decide +kernel
theorem dX6_isUnder_17 : decode cX6_isUnder 17 = .ok (.if_icmp .ge 22, 3) := by decide +kernel
theorem dX6_isUnder_20 : decode cX6_isUnder 20 = .ok (.iload_n 2, 1) := by decide +kernel
theorem dX6_isUnder_21 : decode cX6_isUnder 21 = .ok (.iload_n 1, 1) := by decide +kernel
theorem dX6_isUnder_22 : decode cX6_isUnder 22 = .ok (.if_icmp .ne 5, 3) := by decide +kernel
theorem dX6_isUnder_25 : decode cX6_isUnder 25 = .ok (.iconst 1, 1) := by decide +kernel
theorem dX6_isUnder_26 : decode cX6_isUnder 26 = .ok (.ireturn, 1) := by decide +kernel
theorem dX6_isUnder_27 : decode cX6_isUnder 27 = .ok (.getstatic 301, 3) := by decide +kernel
theorem dX6_isUnder_30 : decode cX6_isUnder 30 = .ok (.iload_n 2, 1) := by decide +kernel
theorem dX6_isUnder_31 : decode cX6_isUnder 31 = .ok (.iaload, 1) := by decide +kernel
theorem dX6_isUnder_32 : decode cX6_isUnder 32 = .ok (.istore_n 2, 1) := by decide +kernel
theorem dX6_isUnder_33 : decode cX6_isUnder 33 = .ok (.iinc 3 1, 3) := by decide +kernel
theorem dX6_isUnder_36 : decode cX6_isUnder 36 = .ok (.goto (-32), 3) := by decide +kernel
theorem dX6_isUnder_39 : decode cX6_isUnder 39 = .ok (.iconst 0, 1) := by decide +kernel
theorem dX6_isUnder_40 : decode cX6_isUnder 40 = .ok (.ireturn, 1) := by decide +kernel
theorem dX6_inLowestTerms_0 : decode cX6_inLowestTerms 0 = .ok (.lload_n 0, 1) := by decide +kernel
theorem dX6_inLowestTerms_1 : decode cX6_inLowestTerms 1 = .ok (.lstore 5, 2) := by decide +kernel
theorem dX6_inLowestTerms_3 : decode cX6_inLowestTerms 3 = .ok (.lload_n 2, 1) := by decide +kernel
theorem dX6_inLowestTerms_4 : decode cX6_inLowestTerms 4 = .ok (.lstore 7, 2) := by decide +kernel
theorem dX6_inLowestTerms_6 : decode cX6_inLowestTerms 6 = .ok (.iconst 0, 1) := by decide +kernel
theorem dX6_inLowestTerms_7 : decode cX6_inLowestTerms 7 = .ok (.istore 9, 2) := by decide +kernel
theorem dX6_inLowestTerms_9 : decode cX6_inLowestTerms 9 = .ok (.iload 9, 2) := by decide +kernel
theorem dX6_inLowestTerms_11 : decode cX6_inLowestTerms 11 = .ok (.bipush 100, 2) := by decide +kernel
theorem dX6_inLowestTerms_13 : decode cX6_inLowestTerms 13 = .ok (.if_icmp .ge 31, 3) := by decide +kernel
theorem dX6_inLowestTerms_16 : decode cX6_inLowestTerms 16 = .ok (.lload 7, 2) := by decide +kernel
theorem dX6_inLowestTerms_18 : decode cX6_inLowestTerms 18 = .ok (.lconst 0, 1) := by decide +kernel
theorem dX6_inLowestTerms_19 : decode cX6_inLowestTerms 19 = .ok (.lcmp, 1) := by decide +kernel
theorem dX6_inLowestTerms_20 : decode cX6_inLowestTerms 20 = .ok (.ifCond .eq 24, 3) := by decide +kernel
theorem dX6_inLowestTerms_23 : decode cX6_inLowestTerms 23 = .ok (.lload 5, 2) := by decide +kernel
theorem dX6_inLowestTerms_25 : decode cX6_inLowestTerms 25 = .ok (.lload 7, 2) := by decide +kernel
theorem dX6_inLowestTerms_27 : decode cX6_inLowestTerms 27 = .ok (.lrem, 1) := by decide +kernel
theorem dX6_inLowestTerms_28 : decode cX6_inLowestTerms 28 = .ok (.lstore 10, 2) := by decide +kernel
theorem dX6_inLowestTerms_30 : decode cX6_inLowestTerms 30 = .ok (.lload 7, 2) := by decide +kernel
theorem dX6_inLowestTerms_32 : decode cX6_inLowestTerms 32 = .ok (.lstore 5, 2) := by decide +kernel
theorem dX6_inLowestTerms_34 : decode cX6_inLowestTerms 34 = .ok (.lload 10, 2) := by decide +kernel
theorem dX6_inLowestTerms_36 : decode cX6_inLowestTerms 36 = .ok (.lstore 7, 2) := by decide +kernel
theorem dX6_inLowestTerms_38 : decode cX6_inLowestTerms 38 = .ok (.iinc 9 1, 3) := by decide +kernel
theorem dX6_inLowestTerms_41 : decode cX6_inLowestTerms 41 = .ok (.goto (-32), 3) := by decide +kernel
theorem dX6_inLowestTerms_44 : decode cX6_inLowestTerms 44 = .ok (.iload 4, 2) := by decide +kernel
theorem dX6_inLowestTerms_46 : decode cX6_inLowestTerms 46 = .ok (.ifCond .ne 7, 3) := by decide +kernel
theorem dX6_inLowestTerms_49 : decode cX6_inLowestTerms 49 = .ok (.lload_n 0, 1) := by decide +kernel
theorem dX6_inLowestTerms_50 : decode cX6_inLowestTerms 50 = .ok (.goto 4, 3) := by decide +kernel
theorem dX6_inLowestTerms_53 : decode cX6_inLowestTerms 53 = .ok (.lload_n 2, 1) := by decide +kernel
theorem dX6_inLowestTerms_54 : decode cX6_inLowestTerms 54 = .ok (.lstore 9, 2) := by decide +kernel
theorem dX6_inLowestTerms_56 : decode cX6_inLowestTerms 56 = .ok (.lload 5, 2) := by decide +kernel
theorem dX6_inLowestTerms_58 : decode cX6_inLowestTerms 58 = .ok (.lconst 0, 1) := by decide +kernel
theorem dX6_inLowestTerms_59 : decode cX6_inLowestTerms 59 = .ok (.lcmp, 1) := by decide +kernel
theorem dX6_inLowestTerms_60 : decode cX6_inLowestTerms 60 = .ok (.ifCond .ne 8, 3) := by decide +kernel
theorem dX6_inLowestTerms_63 : decode cX6_inLowestTerms 63 = .ok (.lload 9, 2) := by decide +kernel
theorem dX6_inLowestTerms_65 : decode cX6_inLowestTerms 65 = .ok (.goto 8, 3) := by decide +kernel
theorem dX6_inLowestTerms_68 : decode cX6_inLowestTerms 68 = .ok (.lload 9, 2) := by decide +kernel
theorem dX6_inLowestTerms_70 : decode cX6_inLowestTerms 70 = .ok (.lload 5, 2) := by decide +kernel
theorem dX6_inLowestTerms_72 : decode cX6_inLowestTerms 72 = .ok (.ldiv, 1) := by decide +kernel
theorem dX6_inLowestTerms_73 : decode cX6_inLowestTerms 73 = .ok (.lreturn, 1) := by decide +kernel
theorem dX6_holding_0 : decode cX6_holding 0 = .ok (.aload_n 0, 1) := by decide +kernel
theorem dX6_holding_1 : decode cX6_holding 1 = .ok (.getfield 22, 3) := by decide +kernel
theorem dX6_holding_4 : decode cX6_holding 4 = .ok (.getfield 150, 3) := by decide +kernel
theorem dX6_holding_7 : decode cX6_holding 7 = .ok (.ifCond .lt 30, 3) := by decide +kernel
theorem dX6_holding_10 : decode cX6_holding 10 = .ok (.aload_n 0, 1) := by decide +kernel
theorem dX6_holding_11 : decode cX6_holding 11 = .ok (.getfield 22, 3) := by decide +kernel
theorem dX6_holding_14 : decode cX6_holding 14 = .ok (.getfield 150, 3) := by decide +kernel
theorem dX6_holding_17 : decode cX6_holding 17 = .ok (.bipush 6, 2) := by decide +kernel
theorem dX6_holding_19 : decode cX6_holding 19 = .ok (.if_icmp .ge 18, 3) := by decide +kernel
theorem dX6_holding_22 : decode cX6_holding 22 = .ok (.aload_n 0, 1) := by decide +kernel
theorem dX6_holding_23 : decode cX6_holding 23 = .ok (.getfield 36, 3) := by decide +kernel
theorem dX6_holding_26 : decode cX6_holding 26 = .ok (.aload_n 0, 1) := by decide +kernel
theorem dX6_holding_27 : decode cX6_holding 27 = .ok (.getfield 22, 3) := by decide +kernel
theorem dX6_holding_30 : decode cX6_holding 30 = .ok (.getfield 150, 3) := by decide +kernel
theorem dX6_holding_33 : decode cX6_holding 33 = .ok (.aaload, 1) := by decide +kernel
theorem dX6_holding_34 : decode cX6_holding 34 = .ok (.goto 7, 3) := by decide +kernel
theorem dX6_holding_37 : decode cX6_holding 37 = .ok (.aload_n 0, 1) := by decide +kernel
theorem dX6_holding_38 : decode cX6_holding 38 = .ok (.getfield 32, 3) := by decide +kernel
theorem dX6_holding_41 : decode cX6_holding 41 = .ok (.areturn, 1) := by decide +kernel
theorem dX6_look_0 : decode cX6_look 0 = .ok (.aload_n 0, 1) := by decide +kernel
theorem dX6_look_1 : decode cX6_look 1 = .ok (.getfield 12, 3) := by decide +kernel
theorem dX6_look_4 : decode cX6_look 4 = .ok (.aload_n 0, 1) := by decide +kernel
theorem dX6_look_5 : decode cX6_look 5 = .ok (.invokevirtual 153, 3) := by decide +kernel
theorem dX6_look_8 : decode cX6_look 8 = .ok (.invokevirtual 304, 3) := by decide +kernel
theorem dX6_look_11 : decode cX6_look 11 = .ok (.aload_n 0, 1) := by decide +kernel
theorem dX6_look_12 : decode cX6_look 12 = .ok (.getfield 12, 3) := by decide +kernel
theorem dX6_look_15 : decode cX6_look 15 = .ok (.invokevirtual 308, 3) := by decide +kernel
theorem dX6_look_18 : decode cX6_look 18 = .ok (.aload_n 0, 1) := by decide +kernel
theorem dX6_look_19 : decode cX6_look 19 = .ok (.getfield 12, 3) := by decide +kernel
theorem dX6_look_22 : decode cX6_look 22 = .ok (.invokevirtual 311, 3) := by decide +kernel
theorem dX6_look_25 : decode cX6_look 25 = .ok (.aload_n 0, 1) := by decide +kernel
theorem dX6_look_26 : decode cX6_look 26 = .ok (.getfield 12, 3) := by decide +kernel
theorem dX6_look_29 : decode cX6_look 29 = .ok (.invokevirtual 314, 3) := by decide +kernel
theorem dX6_look_32 : decode cX6_look 32 = .ok (.aload_n 0, 1) := by decide +kernel
theorem dX6_look_33 : decode cX6_look 33 = .ok (.getfield 12, 3) := by decide +kernel
theorem dX6_look_36 : decode cX6_look 36 = .ok (.invokevirtual 317, 3) := by decide +kernel
theorem dX6_look_39 : decode cX6_look 39 = .ok (.aload_n 0, 1) := by decide +kernel
theorem dX6_look_40 : decode cX6_look 40 = .ok (.getfield 12, 3) := by decide +kernel
theorem dX6_look_43 : decode cX6_look 43 = .ok (.areturn, 1) := by decide +kernel
theorem dX6_hasArmFree_0 : decode cX6_hasArmFree 0 = .ok (.aload_n 0, 1) := by decide +kernel
theorem dX6_hasArmFree_1 : decode cX6_hasArmFree 1 = .ok (.getfield 22, 3) := by decide +kernel
theorem dX6_hasArmFree_4 : decode cX6_hasArmFree 4 = .ok (.getfield 90, 3) := by decide +kernel
theorem dX6_hasArmFree_7 : decode cX6_hasArmFree 7 = .ok (.iload_n 1, 1) := by decide +kernel
theorem dX6_hasArmFree_8 : decode cX6_hasArmFree 8 = .ok (.iaload, 1) := by decide +kernel
theorem dX6_hasArmFree_9 : decode cX6_hasArmFree 9 = .ok (.invokestatic 122, 3) := by decide +kernel
theorem dX6_hasArmFree_12 : decode cX6_hasArmFree 12 = .ok (.aload_n 0, 1) := by decide +kernel
theorem dX6_hasArmFree_13 : decode cX6_hasArmFree 13 = .ok (.invokevirtual 153, 3) := by decide +kernel
theorem dX6_hasArmFree_16 : decode cX6_hasArmFree 16 = .ok (.getfield 157, 3) := by decide +kernel
theorem dX6_hasArmFree_19 : decode cX6_hasArmFree 19 = .ok (.if_icmp .ge 7, 3) := by decide +kernel
theorem dX6_hasArmFree_22 : decode cX6_hasArmFree 22 = .ok (.iconst 1, 1) := by decide +kernel
theorem dX6_hasArmFree_23 : decode cX6_hasArmFree 23 = .ok (.goto 4, 3) := by decide +kernel
theorem dX6_hasArmFree_26 : decode cX6_hasArmFree 26 = .ok (.iconst 0, 1) := by decide +kernel
theorem dX6_hasArmFree_27 : decode cX6_hasArmFree 27 = .ok (.ireturn, 1) := by decide +kernel
theorem dX6_bestTurn_0 : decode cX6_bestTurn 0 = .ok (.bipush (-5), 2) := by decide +kernel
theorem dX6_bestTurn_2 : decode cX6_bestTurn 2 = .ok (.istore_n 3, 1) := by decide +kernel
theorem dX6_bestTurn_3 : decode cX6_bestTurn 3 = .ok (.bipush (-5), 2) := by decide +kernel
theorem dX6_bestTurn_5 : decode cX6_bestTurn 5 = .ok (.istore 4, 2) := by decide +kernel
theorem dX6_bestTurn_7 : decode cX6_bestTurn 7 = .ok (.iconst 0, 1) := by decide +kernel
theorem dX6_bestTurn_8 : decode cX6_bestTurn 8 = .ok (.istore 5, 2) := by decide +kernel
theorem dX6_bestTurn_10 : decode cX6_bestTurn 10 = .ok (.iload 5, 2) := by decide +kernel
theorem dX6_bestTurn_12 : decode cX6_bestTurn 12 = .ok (.aload_n 0, 1) := by decide +kernel
theorem dX6_bestTurn_13 : decode cX6_bestTurn 13 = .ok (.getfield 22, 3) := by decide +kernel
theorem dX6_bestTurn_16 : decode cX6_bestTurn 16 = .ok (.getfield 61, 3) := by decide +kernel
theorem dX6_bestTurn_19 : decode cX6_bestTurn 19 = .ok (.if_icmp .ge 139, 3) := by decide +kernel
theorem dX6_bestTurn_22 : decode cX6_bestTurn 22 = .ok (.iload 5, 2) := by decide +kernel
theorem dX6_bestTurn_24 : decode cX6_bestTurn 24 = .ok (.iconst 1, 1) := by decide +kernel
theorem dX6_bestTurn_25 : decode cX6_bestTurn 25 = .ok (.iadd, 1) := by decide +kernel
theorem dX6_bestTurn_26 : decode cX6_bestTurn 26 = .ok (.istore 6, 2) := by decide +kernel
theorem dX6_bestTurn_28 : decode cX6_bestTurn 28 = .ok (.iload 6, 2) := by decide +kernel
theorem dX6_bestTurn_30 : decode cX6_bestTurn 30 = .ok (.aload_n 0, 1) := by decide +kernel
theorem dX6_bestTurn_31 : decode cX6_bestTurn 31 = .ok (.getfield 22, 3) := by decide +kernel
theorem dX6_bestTurn_34 : decode cX6_bestTurn 34 = .ok (.getfield 61, 3) := by decide +kernel
theorem dX6_bestTurn_37 : decode cX6_bestTurn 37 = .ok (.if_icmp .ge 115, 3) := by decide +kernel
theorem dX6_bestTurn_40 : decode cX6_bestTurn 40 = .ok (.iload_n 1, 1) := by decide +kernel
theorem dX6_bestTurn_41 : decode cX6_bestTurn 41 = .ok (.ifCond .eq 17, 3) := by decide +kernel
theorem dX6_bestTurn_44 : decode cX6_bestTurn 44 = .ok (.aload_n 0, 1) := by decide +kernel
theorem dX6_bestTurn_45 : decode cX6_bestTurn 45 = .ok (.iload 5, 2) := by decide +kernel
theorem dX6_bestTurn_47 : decode cX6_bestTurn 47 = .ok (.iload 6, 2) := by decide +kernel
theorem dX6_bestTurn_49 : decode cX6_bestTurn 49 = .ok (.invokevirtual 320, 3) := by decide +kernel
theorem dX6_bestTurn_52 : decode cX6_bestTurn 52 = .ok (.ifCond .eq 94, 3) := by decide +kernel
theorem dX6_bestTurn_55 : decode cX6_bestTurn 55 = .ok (.goto 20, 3) := by decide +kernel
theorem dX6_bestTurn_58 : decode cX6_bestTurn 58 = .ok (.aload_n 0, 1) := by decide +kernel
theorem dX6_bestTurn_59 : decode cX6_bestTurn 59 = .ok (.getfield 22, 3) := by decide +kernel
theorem dX6_bestTurn_62 : decode cX6_bestTurn 62 = .ok (.iload 5, 2) := by decide +kernel
theorem dX6_bestTurn_64 : decode cX6_bestTurn 64 = .ok (.iload 6, 2) := by decide +kernel
theorem dX6_bestTurn_66 : decode cX6_bestTurn 66 = .ok (.invokevirtual 111, 3) := by decide +kernel
theorem dX6_bestTurn_69 : decode cX6_bestTurn 69 = .ok (.ifCond .ne 6, 3) := by decide +kernel
theorem dX6_bestTurn_72 : decode cX6_bestTurn 72 = .ok (.goto 74, 3) := by decide +kernel
theorem dX6_bestTurn_75 : decode cX6_bestTurn 75 = .ok (.aload_n 0, 1) := by decide +kernel
theorem dX6_bestTurn_76 : decode cX6_bestTurn 76 = .ok (.getfield 22, 3) := by decide +kernel
theorem dX6_bestTurn_79 : decode cX6_bestTurn 79 = .ok (.iload 5, 2) := by decide +kernel
theorem dX6_bestTurn_81 : decode cX6_bestTurn 81 = .ok (.iload 6, 2) := by decide +kernel
theorem dX6_bestTurn_83 : decode cX6_bestTurn 83 = .ok (.invokevirtual 118, 3) := by decide +kernel
theorem dX6_bestTurn_86 : decode cX6_bestTurn 86 = .ok (.aload_n 0, 1) := by decide +kernel
theorem dX6_bestTurn_87 : decode cX6_bestTurn 87 = .ok (.invokevirtual 83, 3) := by decide +kernel
theorem dX6_bestTurn_90 : decode cX6_bestTurn 90 = .ok (.invokevirtual 191, 3) := by decide +kernel
theorem dX6_bestTurn_93 : decode cX6_bestTurn 93 = .ok (.istore 7, 2) := by decide +kernel
theorem dX6_bestTurn_95 : decode cX6_bestTurn 95 = .ok (.aload_n 0, 1) := by decide +kernel
theorem dX6_bestTurn_96 : decode cX6_bestTurn 96 = .ok (.getfield 22, 3) := by decide +kernel
theorem dX6_bestTurn_99 : decode cX6_bestTurn 99 = .ok (.iload 5, 2) := by decide +kernel
theorem dX6_bestTurn_101 : decode cX6_bestTurn 101 = .ok (.iload 6, 2) := by decide +kernel
theorem dX6_bestTurn_103 : decode cX6_bestTurn 103 = .ok (.invokevirtual 118, 3) := by decide +kernel
theorem dX6_bestTurn_106 : decode cX6_bestTurn 106 = .ok (.iload_n 3, 1) := by decide +kernel
theorem dX6_bestTurn_107 : decode cX6_bestTurn 107 = .ok (.bipush (-5), 2) := by decide +kernel
theorem dX6_bestTurn_109 : decode cX6_bestTurn 109 = .ok (.if_icmp .eq 24, 3) := by decide +kernel
theorem dX6_bestTurn_112 : decode cX6_bestTurn 112 = .ok (.iload_n 1, 1) := by decide +kernel
theorem dX6_bestTurn_113 : decode cX6_bestTurn 113 = .ok (.ifCond .eq 13, 3) := by decide +kernel
theorem dX6_bestTurn_116 : decode cX6_bestTurn 116 = .ok (.iload 7, 2) := by decide +kernel
theorem dX6_bestTurn_118 : decode cX6_bestTurn 118 = .ok (.iload 4, 2) := by decide +kernel
theorem dX6_bestTurn_120 : decode cX6_bestTurn 120 = .ok (.if_icmp .ge 26, 3) := by decide +kernel
theorem dX6_bestTurn_123 : decode cX6_bestTurn 123 = .ok (.goto 10, 3) := by decide +kernel
theorem dX6_bestTurn_126 : decode cX6_bestTurn 126 = .ok (.iload 7, 2) := by decide +kernel
theorem dX6_bestTurn_128 : decode cX6_bestTurn 128 = .ok (.iload 4, 2) := by decide +kernel
theorem dX6_bestTurn_130 : decode cX6_bestTurn 130 = .ok (.if_icmp .le 16, 3) := by decide +kernel
theorem dX6_bestTurn_133 : decode cX6_bestTurn 133 = .ok (.bipush 10, 2) := by decide +kernel
theorem dX6_bestTurn_135 : decode cX6_bestTurn 135 = .ok (.iload 5, 2) := by decide +kernel
theorem dX6_bestTurn_137 : decode cX6_bestTurn 137 = .ok (.imul, 1) := by decide +kernel
theorem dX6_bestTurn_138 : decode cX6_bestTurn 138 = .ok (.iload 6, 2) := by decide +kernel
theorem dX6_bestTurn_140 : decode cX6_bestTurn 140 = .ok (.iadd, 1) := by decide +kernel
theorem dX6_bestTurn_141 : decode cX6_bestTurn 141 = .ok (.istore_n 3, 1) := by decide +kernel
theorem dX6_bestTurn_142 : decode cX6_bestTurn 142 = .ok (.iload 7, 2) := by decide +kernel
theorem dX6_bestTurn_144 : decode cX6_bestTurn 144 = .ok (.istore 4, 2) := by decide +kernel
theorem dX6_bestTurn_146 : decode cX6_bestTurn 146 = .ok (.iinc 6 1, 3) := by decide +kernel
theorem dX6_bestTurn_149 : decode cX6_bestTurn 149 = .ok (.goto (-121), 3) := by decide +kernel
theorem dX6_bestTurn_152 : decode cX6_bestTurn 152 = .ok (.iinc 5 1, 3) := by decide +kernel
theorem dX6_bestTurn_155 : decode cX6_bestTurn 155 = .ok (.goto (-145), 3) := by decide +kernel
theorem dX6_bestTurn_158 : decode cX6_bestTurn 158 = .ok (.iload_n 2, 1) := by decide +kernel
theorem dX6_bestTurn_159 : decode cX6_bestTurn 159 = .ok (.ifCond .ne 7, 3) := by decide +kernel
theorem dX6_bestTurn_162 : decode cX6_bestTurn 162 = .ok (.iload_n 3, 1) := by decide +kernel
theorem dX6_bestTurn_163 : decode cX6_bestTurn 163 = .ok (.goto 5, 3) := by decide +kernel
theorem dX6_bestTurn_166 : decode cX6_bestTurn 166 = .ok (.iload 4, 2) := by decide +kernel
theorem dX6_bestTurn_168 : decode cX6_bestTurn 168 = .ok (.ireturn, 1) := by decide +kernel
theorem dX6_mayName_0 : decode cX6_mayName 0 = .ok (.aload_n 0, 1) := by decide +kernel
theorem dX6_mayName_1 : decode cX6_mayName 1 = .ok (.getfield 22, 3) := by decide +kernel
theorem dX6_mayName_4 : decode cX6_mayName 4 = .ok (.iload_n 1, 1) := by decide +kernel
theorem dX6_mayName_5 : decode cX6_mayName 5 = .ok (.iload_n 2, 1) := by decide +kernel
theorem dX6_mayName_6 : decode cX6_mayName 6 = .ok (.invokevirtual 111, 3) := by decide +kernel
theorem dX6_mayName_9 : decode cX6_mayName 9 = .ok (.ifCond .ne 23, 3) := by decide +kernel
theorem dX6_mayName_12 : decode cX6_mayName 12 = .ok (.aload_n 0, 1) := by decide +kernel
theorem dX6_mayName_13 : decode cX6_mayName 13 = .ok (.iload_n 1, 1) := by decide +kernel
theorem dX6_mayName_14 : decode cX6_mayName 14 = .ok (.invokevirtual 115, 3) := by decide +kernel
theorem dX6_mayName_17 : decode cX6_mayName 17 = .ok (.ifCond .eq 15, 3) := by decide +kernel
theorem dX6_mayName_20 : decode cX6_mayName 20 = .ok (.aload_n 0, 1) := by decide +kernel
theorem dX6_mayName_21 : decode cX6_mayName 21 = .ok (.iload_n 2, 1) := by decide +kernel
theorem dX6_mayName_22 : decode cX6_mayName 22 = .ok (.invokevirtual 115, 3) := by decide +kernel
theorem dX6_mayName_25 : decode cX6_mayName 25 = .ok (.ifCond .eq 7, 3) := by decide +kernel
theorem dX6_mayName_28 : decode cX6_mayName 28 = .ok (.iconst 1, 1) := by decide +kernel
theorem dX6_mayName_29 : decode cX6_mayName 29 = .ok (.goto 4, 3) := by decide +kernel
theorem dX6_mayName_32 : decode cX6_mayName 32 = .ok (.iconst 0, 1) := by decide +kernel
theorem dX6_mayName_33 : decode cX6_mayName 33 = .ok (.ireturn, 1) := by decide +kernel
theorem dX6_allWaysWith_0 : decode cX6_allWaysWith 0 = .ok (.aload_n 0, 1) := by decide +kernel
theorem dX6_allWaysWith_1 : decode cX6_allWaysWith 1 = .ok (.getfield 22, 3) := by decide +kernel
theorem dX6_allWaysWith_4 : decode cX6_allWaysWith 4 = .ok (.iload_n 1, 1) := by decide +kernel
theorem dX6_allWaysWith_5 : decode cX6_allWaysWith 5 = .ok (.iload_n 2, 1) := by decide +kernel
theorem dX6_allWaysWith_6 : decode cX6_allWaysWith 6 = .ok (.iload_n 3, 1) := by decide +kernel
theorem dX6_allWaysWith_7 : decode cX6_allWaysWith 7 = .ok (.invokevirtual 104, 3) := by decide +kernel
theorem dX6_allWaysWith_10 : decode cX6_allWaysWith 10 = .ok (.aload_n 0, 1) := by decide +kernel
theorem dX6_allWaysWith_11 : decode cX6_allWaysWith 11 = .ok (.invokevirtual 83, 3) := by decide +kernel
theorem dX6_allWaysWith_14 : decode cX6_allWaysWith 14 = .ok (.invokevirtual 210, 3) := by decide +kernel
theorem dX6_allWaysWith_17 : decode cX6_allWaysWith 17 = .ok (.istore 4, 2) := by decide +kernel
theorem dX6_allWaysWith_19 : decode cX6_allWaysWith 19 = .ok (.aload_n 0, 1) := by decide +kernel
theorem dX6_allWaysWith_20 : decode cX6_allWaysWith 20 = .ok (.getfield 22, 3) := by decide +kernel
theorem dX6_allWaysWith_23 : decode cX6_allWaysWith 23 = .ok (.iload_n 1, 1) := by decide +kernel
theorem dX6_allWaysWith_24 : decode cX6_allWaysWith 24 = .ok (.iload_n 2, 1) := by decide +kernel
theorem dX6_allWaysWith_25 : decode cX6_allWaysWith 25 = .ok (.iconst 0, 1) := by decide +kernel
theorem dX6_allWaysWith_26 : decode cX6_allWaysWith 26 = .ok (.invokevirtual 104, 3) := by decide +kernel
theorem dX6_allWaysWith_29 : decode cX6_allWaysWith 29 = .ok (.iload 4, 2) := by decide +kernel
theorem dX6_allWaysWith_31 : decode cX6_allWaysWith 31 = .ok (.ireturn, 1) := by decide +kernel
theorem dX7_init_0 : decode cX7_init 0 = .ok (.aload_n 0, 1) := by decide +kernel
theorem dX7_init_1 : decode cX7_init 1 = .ok (.invokespecial 1, 3) := by decide +kernel
theorem dX7_init_4 : decode cX7_init 4 = .ok (.aload_n 0, 1) := by decide +kernel
theorem dX7_init_5 : decode cX7_init 5 = .ok (.iconst 0, 1) := by decide +kernel
theorem dX7_init_6 : decode cX7_init 6 = .ok (.putfield 7, 3) := by decide +kernel
theorem dX7_init_9 : decode cX7_init 9 = .ok (.aload_n 0, 1) := by decide +kernel
theorem dX7_init_10 : decode cX7_init 10 = .ok (.iconst 0, 1) := by decide +kernel
theorem dX7_init_11 : decode cX7_init 11 = .ok (.putfield 13, 3) := by decide +kernel
theorem dX7_init_14 : decode cX7_init 14 = .ok (.aload_n 0, 1) := by decide +kernel
theorem dX7_init_15 : decode cX7_init 15 = .ok (.bipush 7, 2) := by decide +kernel
theorem dX7_init_17 : decode cX7_init 17 = .ok (.newarray .int, 2) := by decide +kernel
theorem dX7_init_19 : decode cX7_init 19 = .ok (.putfield 16, 3) := by decide +kernel
theorem dX7_init_22 : decode cX7_init 22 = .ok (.aload_n 0, 1) := by decide +kernel
theorem dX7_init_23 : decode cX7_init 23 = .ok (.bipush 7, 2) := by decide +kernel
theorem dX7_init_25 : decode cX7_init 25 = .ok (.newarray .int, 2) := by decide +kernel
theorem dX7_init_27 : decode cX7_init 27 = .ok (.putfield 20, 3) := by decide +kernel
theorem dX7_init_30 : decode cX7_init 30 = .ok (.aload_n 0, 1) := by decide +kernel
theorem dX7_init_31 : decode cX7_init 31 = .ok (.bipush 7, 2) := by decide +kernel
theorem dX7_init_33 : decode cX7_init 33 = .ok (.newarray .int, 2) := by decide +kernel
theorem dX7_init_35 : decode cX7_init 35 = .ok (.putfield 23, 3) := by decide +kernel
theorem dX7_init_38 : decode cX7_init 38 = .ok (.aload_n 0, 1) := by decide +kernel
theorem dX7_init_39 : decode cX7_init 39 = .ok (.bipush 7, 2) := by decide +kernel
theorem dX7_init_41 : decode cX7_init 41 = .ok (.newarray .int, 2) := by decide +kernel
theorem dX7_init_43 : decode cX7_init 43 = .ok (.putfield 26, 3) := by decide +kernel
theorem dX7_init_46 : decode cX7_init 46 = .ok (.aload_n 0, 1) := by decide +kernel
theorem dX7_init_47 : decode cX7_init 47 = .ok (.bipush 49, 2) := by decide +kernel
theorem dX7_init_49 : decode cX7_init 49 = .ok (.newarray .int, 2) := by decide +kernel
theorem dX7_init_51 : decode cX7_init 51 = .ok (.putfield 29, 3) := by decide +kernel
theorem dX7_init_54 : decode cX7_init 54 = .ok (.aload_n 0, 1) := by decide +kernel
theorem dX7_init_55 : decode cX7_init 55 = .ok (.bipush 8, 2) := by decide +kernel
theorem dX7_init_57 : decode cX7_init 57 = .ok (.newarray .int, 2) := by decide +kernel
theorem dX7_init_59 : decode cX7_init 59 = .ok (.putfield 32, 3) := by decide +kernel
theorem dX7_init_62 : decode cX7_init 62 = .ok (.aload_n 0, 1) := by decide +kernel
theorem dX7_init_63 : decode cX7_init 63 = .ok (.bipush 8, 2) := by decide +kernel
theorem dX7_init_65 : decode cX7_init 65 = .ok (.newarray .int, 2) := by decide +kernel
theorem dX7_init_67 : decode cX7_init 67 = .ok (.putfield 35, 3) := by decide +kernel
theorem dX7_init_70 : decode cX7_init 70 = .ok (.aload_n 0, 1) := by decide +kernel
theorem dX7_init_71 : decode cX7_init 71 = .ok (.bipush 8, 2) := by decide +kernel
theorem dX7_init_73 : decode cX7_init 73 = .ok (.newarray .int, 2) := by decide +kernel
theorem dX7_init_75 : decode cX7_init 75 = .ok (.putfield 38, 3) := by decide +kernel
theorem dX7_init_78 : decode cX7_init 78 = .ok (.aload_n 0, 1) := by decide +kernel
theorem dX7_init_79 : decode cX7_init 79 = .ok (.iconst 0, 1) := by decide +kernel
theorem dX7_init_80 : decode cX7_init 80 = .ok (.putfield 41, 3) := by decide +kernel
theorem dX7_init_83 : decode cX7_init 83 = .ok (.aload_n 0, 1) := by decide +kernel
theorem dX7_init_84 : decode cX7_init 84 = .ok (.iconst (-1), 1) := by decide +kernel
theorem dX7_init_85 : decode cX7_init 85 = .ok (.putfield 44, 3) := by decide +kernel
theorem dX7_init_88 : decode cX7_init 88 = .ok (.aload_n 0, 1) := by decide +kernel
theorem dX7_init_89 : decode cX7_init 89 = .ok (.iconst 0, 1) := by decide +kernel
theorem dX7_init_90 : decode cX7_init 90 = .ok (.putfield 47, 3) := by decide +kernel
theorem dX7_init_93 : decode cX7_init 93 = .ok (.aload_n 0, 1) := by decide +kernel
theorem dX7_init_94 : decode cX7_init 94 = .ok (.iconst 0, 1) := by decide +kernel
theorem dX7_init_95 : decode cX7_init 95 = .ok (.putfield 50, 3) := by decide +kernel
theorem dX7_init_98 : decode cX7_init 98 = .ok (.aload_n 0, 1) := by decide +kernel
theorem dX7_init_99 : decode cX7_init 99 = .ok (.iconst 0, 1) := by decide +kernel
theorem dX7_init_100 : decode cX7_init 100 = .ok (.putfield 53, 3) := by decide +kernel
theorem dX7_init_103 : decode cX7_init 103 = .ok (.aload_n 0, 1) := by decide +kernel
theorem dX7_init_104 : decode cX7_init 104 = .ok (.bipush 100, 2) := by decide +kernel
theorem dX7_init_106 : decode cX7_init 106 = .ok (.newarray .int, 2) := by decide +kernel
theorem dX7_init_108 : decode cX7_init 108 = .ok (.putfield 56, 3) := by decide +kernel
theorem dX7_init_111 : decode cX7_init 111 = .ok (.aload_n 0, 1) := by decide +kernel
theorem dX7_init_112 : decode cX7_init 112 = .ok (.bipush 6, 2) := by decide +kernel
theorem dX7_init_114 : decode cX7_init 114 = .ok (.newarray .int, 2) := by decide +kernel
theorem dX7_init_116 : decode cX7_init 116 = .ok (.putfield 59, 3) := by decide +kernel
theorem dX7_init_119 : decode cX7_init 119 = .ok (.aload_n 0, 1) := by decide +kernel
theorem dX7_init_120 : decode cX7_init 120 = .ok (.bipush 60, 2) := by decide +kernel
theorem dX7_init_122 : decode cX7_init 122 = .ok (.newarray .int, 2) := by decide +kernel
theorem dX7_init_124 : decode cX7_init 124 = .ok (.putfield 62, 3) := by decide +kernel
theorem dX7_init_127 : decode cX7_init 127 = .ok (.aload_n 0, 1) := by decide +kernel
theorem dX7_init_128 : decode cX7_init 128 = .ok (.bipush 60, 2) := by decide +kernel
theorem dX7_init_130 : decode cX7_init 130 = .ok (.newarray .int, 2) := by decide +kernel
theorem dX7_init_132 : decode cX7_init 132 = .ok (.putfield 65, 3) := by decide +kernel
theorem dX7_init_135 : decode cX7_init 135 = .ok (.aload_n 0, 1) := by decide +kernel
theorem dX7_init_136 : decode cX7_init 136 = .ok (.bipush 60, 2) := by decide +kernel
theorem dX7_init_138 : decode cX7_init 138 = .ok (.newarray .int, 2) := by decide +kernel
theorem dX7_init_140 : decode cX7_init 140 = .ok (.putfield 68, 3) := by decide +kernel
theorem dX7_init_143 : decode cX7_init 143 = .ok (.aload_n 0, 1) := by decide +kernel
theorem dX7_init_144 : decode cX7_init 144 = .ok (.bipush 60, 2) := by decide +kernel
theorem dX7_init_146 : decode cX7_init 146 = .ok (.newarray .int, 2) := by decide +kernel
theorem dX7_init_148 : decode cX7_init 148 = .ok (.putfield 71, 3) := by decide +kernel
theorem dX7_init_151 : decode cX7_init 151 = .ok (.aload_n 0, 1) := by decide +kernel
theorem dX7_init_152 : decode cX7_init 152 = .ok (.sipush 600, 3) := by decide +kernel
theorem dX7_init_155 : decode cX7_init 155 = .ok (.newarray .int, 2) := by decide +kernel
theorem dX7_init_157 : decode cX7_init 157 = .ok (.putfield 74, 3) := by decide +kernel
theorem dX7_init_160 : decode cX7_init 160 = .ok (.aload_n 0, 1) := by decide +kernel
theorem dX7_init_161 : decode cX7_init 161 = .ok (.bipush 101, 2) := by decide +kernel
theorem dX7_init_163 : decode cX7_init 163 = .ok (.newarray .int, 2) := by decide +kernel
theorem dX7_init_165 : decode cX7_init 165 = .ok (.putfield 77, 3) := by decide +kernel
theorem dX7_init_168 : decode cX7_init 168 = .ok (.aload_n 0, 1) := by decide +kernel
theorem dX7_init_169 : decode cX7_init 169 = .ok (.iconst 0, 1) := by decide +kernel
theorem dX7_init_170 : decode cX7_init 170 = .ok (.putfield 80, 3) := by decide +kernel
theorem dX7_init_173 : decode cX7_init 173 = .ok (.aload_n 0, 1) := by decide +kernel
theorem dX7_init_174 : decode cX7_init 174 = .ok (.iconst 0, 1) := by decide +kernel
theorem dX7_init_175 : decode cX7_init 175 = .ok (.putfield 83, 3) := by decide +kernel
theorem dX7_init_178 : decode cX7_init 178 = .ok (.aload_n 0, 1) := by decide +kernel
theorem dX7_init_179 : decode cX7_init 179 = .ok (.iconst 0, 1) := by decide +kernel
theorem dX7_init_180 : decode cX7_init 180 = .ok (.putfield 86, 3) := by decide +kernel
theorem dX7_init_183 : decode cX7_init 183 = .ok (.aload_n 0, 1) := by decide +kernel
theorem dX7_init_184 : decode cX7_init 184 = .ok (.bipush 12, 2) := by decide +kernel
theorem dX7_init_186 : decode cX7_init 186 = .ok (.newarray .int, 2) := by decide +kernel
theorem dX7_init_188 : decode cX7_init 188 = .ok (.dup, 1) := by decide +kernel
theorem dX7_init_189 : decode cX7_init 189 = .ok (.iconst 0, 1) := by decide +kernel
theorem dX7_init_190 : decode cX7_init 190 = .ok (.bipush 103, 2) := by decide +kernel
theorem dX7_init_192 : decode cX7_init 192 = .ok (.iastore, 1) := by decide +kernel
theorem dX7_init_193 : decode cX7_init 193 = .ok (.dup, 1) := by decide +kernel
theorem dX7_init_194 : decode cX7_init 194 = .ok (.iconst 1, 1) := by decide +kernel
theorem dX7_init_195 : decode cX7_init 195 = .ok (.bipush 114, 2) := by decide +kernel
theorem dX7_init_197 : decode cX7_init 197 = .ok (.iastore, 1) := by decide +kernel
theorem dX7_init_198 : decode cX7_init 198 = .ok (.dup, 1) := by decide +kernel
theorem dX7_init_199 : decode cX7_init 199 = .ok (.iconst 2, 1) := by decide +kernel
theorem dX7_init_200 : decode cX7_init 200 = .ok (.bipush 101, 2) := by decide +kernel
theorem dX7_init_202 : decode cX7_init 202 = .ok (.iastore, 1) := by decide +kernel
theorem dX7_init_203 : decode cX7_init 203 = .ok (.dup, 1) := by decide +kernel
theorem dX7_init_204 : decode cX7_init 204 = .ok (.iconst 3, 1) := by decide +kernel
theorem dX7_init_205 : decode cX7_init 205 = .ok (.bipush 97, 2) := by decide +kernel
theorem dX7_init_207 : decode cX7_init 207 = .ok (.iastore, 1) := by decide +kernel
theorem dX7_init_208 : decode cX7_init 208 = .ok (.dup, 1) := by decide +kernel
theorem dX7_init_209 : decode cX7_init 209 = .ok (.iconst 4, 1) := by decide +kernel
theorem dX7_init_210 : decode cX7_init 210 = .ok (.bipush 116, 2) := by decide +kernel
theorem dX7_init_212 : decode cX7_init 212 = .ok (.iastore, 1) := by decide +kernel
theorem dX7_init_213 : decode cX7_init 213 = .ok (.dup, 1) := by decide +kernel
theorem dX7_init_214 : decode cX7_init 214 = .ok (.iconst 5, 1) := by decide +kernel
theorem dX7_init_215 : decode cX7_init 215 = .ok (.bipush 102, 2) := by decide +kernel
theorem dX7_init_217 : decode cX7_init 217 = .ok (.iastore, 1) := by decide +kernel
theorem dX7_init_218 : decode cX7_init 218 = .ok (.dup, 1) := by decide +kernel
theorem dX7_init_219 : decode cX7_init 219 = .ok (.bipush 6, 2) := by decide +kernel
theorem dX7_init_221 : decode cX7_init 221 = .ok (.bipush 97, 2) := by decide +kernel
theorem dX7_init_223 : decode cX7_init 223 = .ok (.iastore, 1) := by decide +kernel
theorem dX7_init_224 : decode cX7_init 224 = .ok (.dup, 1) := by decide +kernel
theorem dX7_init_225 : decode cX7_init 225 = .ok (.bipush 7, 2) := by decide +kernel
theorem dX7_init_227 : decode cX7_init 227 = .ok (.bipush 114, 2) := by decide +kernel
theorem dX7_init_229 : decode cX7_init 229 = .ok (.iastore, 1) := by decide +kernel
theorem dX7_init_230 : decode cX7_init 230 = .ok (.dup, 1) := by decide +kernel
theorem dX7_init_231 : decode cX7_init 231 = .ok (.bipush 8, 2) := by decide +kernel
theorem dX7_init_233 : decode cX7_init 233 = .ok (.bipush 97, 2) := by decide +kernel
theorem dX7_init_235 : decode cX7_init 235 = .ok (.iastore, 1) := by decide +kernel
theorem dX7_init_236 : decode cX7_init 236 = .ok (.dup, 1) := by decide +kernel
theorem dX7_init_237 : decode cX7_init 237 = .ok (.bipush 9, 2) := by decide +kernel
theorem dX7_init_239 : decode cX7_init 239 = .ok (.bipush 114, 2) := by decide +kernel
theorem dX7_init_241 : decode cX7_init 241 = .ok (.iastore, 1) := by decide +kernel
theorem dX7_init_242 : decode cX7_init 242 = .ok (.dup, 1) := by decide +kernel
theorem dX7_init_243 : decode cX7_init 243 = .ok (.bipush 10, 2) := by decide +kernel
theorem dX7_init_245 : decode cX7_init 245 = .ok (.bipush 109, 2) := by decide +kernel
theorem dX7_init_247 : decode cX7_init 247 = .ok (.iastore, 1) := by decide +kernel
theorem dX7_init_248 : decode cX7_init 248 = .ok (.dup, 1) := by decide +kernel
theorem dX7_init_249 : decode cX7_init 249 = .ok (.bipush 11, 2) := by decide +kernel
theorem dX7_init_251 : decode cX7_init 251 = .ok (.bipush 115, 2) := by decide +kernel
theorem dX7_init_253 : decode cX7_init 253 = .ok (.iastore, 1) := by decide +kernel
theorem dX7_init_254 : decode cX7_init 254 = .ok (.putfield 89, 3) := by decide +kernel
theorem dX7_init_257 : decode cX7_init 257 = .ok (.aload_n 0, 1) := by decide +kernel
theorem dX7_init_258 : decode cX7_init 258 = .ok (.bipush 100, 2) := by decide +kernel
theorem dX7_init_260 : decode cX7_init 260 = .ok (.newarray .boolean, 2) := by decide +kernel
theorem dX7_init_262 : decode cX7_init 262 = .ok (.putfield 92, 3) := by decide +kernel
theorem dX7_init_265 : decode cX7_init 265 = .ok (.aload_n 0, 1) := by decide +kernel
theorem dX7_init_266 : decode cX7_init 266 = .ok (.bipush 49, 2) := by decide +kernel
theorem dX7_init_268 : decode cX7_init 268 = .ok (.newarray .int, 2) := by decide +kernel
theorem dX7_init_270 : decode cX7_init 270 = .ok (.putfield 96, 3) := by decide +kernel
theorem dX7_init_273 : decode cX7_init 273 = .ok (.aload_n 0, 1) := by decide +kernel
theorem dX7_init_274 : decode cX7_init 274 = .ok (.bipush 49, 2) := by decide +kernel
theorem dX7_init_276 : decode cX7_init 276 = .ok (.newarray .int, 2) := by decide +kernel
theorem dX7_init_278 : decode cX7_init 278 = .ok (.putfield 99, 3) := by decide +kernel
theorem dX7_init_281 : decode cX7_init 281 = .ok (.aload_n 0, 1) := by decide +kernel
theorem dX7_init_282 : decode cX7_init 282 = .ok (.bipush 7, 2) := by decide +kernel
theorem dX7_init_284 : decode cX7_init 284 = .ok (.newarray .int, 2) := by decide +kernel
theorem dX7_init_286 : decode cX7_init 286 = .ok (.putfield 102, 3) := by decide +kernel
theorem dX7_init_289 : decode cX7_init 289 = .ok (.aload_n 0, 1) := by decide +kernel
theorem dX7_init_290 : decode cX7_init 290 = .ok (.bipush 7, 2) := by decide +kernel
theorem dX7_init_292 : decode cX7_init 292 = .ok (.newarray .int, 2) := by decide +kernel
theorem dX7_init_294 : decode cX7_init 294 = .ok (.putfield 105, 3) := by decide +kernel
theorem dX7_init_297 : decode cX7_init 297 = .ok (.aload_n 0, 1) := by decide +kernel
theorem dX7_init_298 : decode cX7_init 298 = .ok (.iconst (-1), 1) := by decide +kernel
theorem dX7_init_299 : decode cX7_init 299 = .ok (.putfield 108, 3) := by decide +kernel
theorem dX7_init_302 : decode cX7_init 302 = .ok (.aload_n 0, 1) := by decide +kernel
theorem dX7_init_303 : decode cX7_init 303 = .ok (.iconst (-1), 1) := by decide +kernel
theorem dX7_init_304 : decode cX7_init 304 = .ok (.putfield 111, 3) := by decide +kernel
theorem dX7_init_307 : decode cX7_init 307 = .ok (.aload_n 0, 1) := by decide +kernel
theorem dX7_init_308 : decode cX7_init 308 = .ok (.iconst 0, 1) := by decide +kernel
theorem dX7_init_309 : decode cX7_init 309 = .ok (.putfield 114, 3) := by decide +kernel
theorem dX7_init_312 : decode cX7_init 312 = .ok (.aload_n 0, 1) := by decide +kernel
theorem dX7_init_313 : decode cX7_init 313 = .ok (.iconst 0, 1) := by decide +kernel
theorem dX7_init_314 : decode cX7_init 314 = .ok (.putfield 117, 3) := by decide +kernel
theorem dX7_init_317 : decode cX7_init 317 = .ok (.aload_n 0, 1) := by decide +kernel
theorem dX7_init_318 : decode cX7_init 318 = .ok (.iconst 0, 1) := by decide +kernel
theorem dX7_init_319 : decode cX7_init 319 = .ok (.putfield 120, 3) := by decide +kernel
theorem dX7_init_322 : decode cX7_init 322 = .ok (.aload_n 0, 1) := by decide +kernel
theorem dX7_init_323 : decode cX7_init 323 = .ok (.bipush 7, 2) := by decide +kernel
theorem dX7_init_325 : decode cX7_init 325 = .ok (.newarray .long, 2) := by decide +kernel
theorem dX7_init_327 : decode cX7_init 327 = .ok (.putfield 123, 3) := by decide +kernel
theorem dX7_init_330 : decode cX7_init 330 = .ok (.aload_n 0, 1) := by decide +kernel
theorem dX7_init_331 : decode cX7_init 331 = .ok (.bipush 7, 2) := by decide +kernel
theorem dX7_init_333 : decode cX7_init 333 = .ok (.newarray .long, 2) := by decide +kernel
theorem dX7_init_335 : decode cX7_init 335 = .ok (.putfield 127, 3) := by decide +kernel
theorem dX7_init_338 : decode cX7_init 338 = .ok (.aload_n 0, 1) := by decide +kernel
theorem dX7_init_339 : decode cX7_init 339 = .ok (.iconst 0, 1) := by decide +kernel
theorem dX7_init_340 : decode cX7_init 340 = .ok (.putfield 130, 3) := by decide +kernel
theorem dX7_init_343 : decode cX7_init 343 = .ok (.aload_n 0, 1) := by decide +kernel
theorem dX7_init_344 : decode cX7_init 344 = .ok (.bipush 12, 2) := by decide +kernel
theorem dX7_init_346 : decode cX7_init 346 = .ok (.newarray .int, 2) := by decide +kernel
theorem dX7_init_348 : decode cX7_init 348 = .ok (.putfield 133, 3) := by decide +kernel
theorem dX7_init_351 : decode cX7_init 351 = .ok (.aload_n 0, 1) := by decide +kernel
theorem dX7_init_352 : decode cX7_init 352 = .ok (.iconst 0, 1) := by decide +kernel
theorem dX7_init_353 : decode cX7_init 353 = .ok (.putfield 136, 3) := by decide +kernel
theorem dX7_init_356 : decode cX7_init 356 = .ok (.aload_n 0, 1) := by decide +kernel
theorem dX7_init_357 : decode cX7_init 357 = .ok (.iconst (-1), 1) := by decide +kernel
theorem dX7_init_358 : decode cX7_init 358 = .ok (.putfield 140, 3) := by decide +kernel
theorem dX7_init_361 : decode cX7_init 361 = .ok (.aload_n 0, 1) := by decide +kernel
theorem dX7_init_362 : decode cX7_init 362 = .ok (.iconst 0, 1) := by decide +kernel
theorem dX7_init_363 : decode cX7_init 363 = .ok (.putfield 143, 3) := by decide +kernel
theorem dX7_init_366 : decode cX7_init 366 = .ok (.aload_n 0, 1) := by decide +kernel
theorem dX7_init_367 : decode cX7_init 367 = .ok (.iconst 0, 1) := by decide +kernel
theorem dX7_init_368 : decode cX7_init 368 = .ok (.putfield 146, 3) := by decide +kernel
theorem dX7_init_371 : decode cX7_init 371 = .ok (.aload_n 0, 1) := by decide +kernel
theorem dX7_init_372 : decode cX7_init 372 = .ok (.iconst 0, 1) := by decide +kernel
theorem dX7_init_373 : decode cX7_init 373 = .ok (.putfield 149, 3) := by decide +kernel
theorem dX7_init_376 : decode cX7_init 376 = .ok (.aload_n 0, 1) := by decide +kernel
theorem dX7_init_377 : decode cX7_init 377 = .ok (.bipush 7, 2) := by decide +kernel
theorem dX7_init_379 : decode cX7_init 379 = .ok (.newarray .int, 2) := by decide +kernel
theorem dX7_init_381 : decode cX7_init 381 = .ok (.putfield 152, 3) := by decide +kernel
theorem dX7_init_384 : decode cX7_init 384 = .ok (.aload_n 0, 1) := by decide +kernel
theorem dX7_init_385 : decode cX7_init 385 = .ok (.bipush 7, 2) := by decide +kernel
theorem dX7_init_387 : decode cX7_init 387 = .ok (.newarray .int, 2) := by decide +kernel
theorem dX7_init_389 : decode cX7_init 389 = .ok (.putfield 155, 3) := by decide +kernel
theorem dX7_init_392 : decode cX7_init 392 = .ok (.aload_n 0, 1) := by decide +kernel
theorem dX7_init_393 : decode cX7_init 393 = .ok (.bipush 7, 2) := by decide +kernel
theorem dX7_init_395 : decode cX7_init 395 = .ok (.newarray .int, 2) := by decide +kernel
theorem dX7_init_397 : decode cX7_init 397 = .ok (.putfield 158, 3) := by decide +kernel
theorem dX7_init_400 : decode cX7_init 400 = .ok (.aload_n 0, 1) := by decide +kernel
theorem dX7_init_401 : decode cX7_init 401 = .ok (.bipush 7, 2) := by decide +kernel
theorem dX7_init_403 : decode cX7_init 403 = .ok (.newarray .int, 2) := by decide +kernel
theorem dX7_init_405 : decode cX7_init 405 = .ok (.putfield 161, 3) := by decide +kernel
theorem dX7_init_408 : decode cX7_init 408 = .ok (.aload_n 0, 1) := by decide +kernel
theorem dX7_init_409 : decode cX7_init 409 = .ok (.bipush 49, 2) := by decide +kernel
theorem dX7_init_411 : decode cX7_init 411 = .ok (.newarray .int, 2) := by decide +kernel
theorem dX7_init_413 : decode cX7_init 413 = .ok (.putfield 164, 3) := by decide +kernel
theorem dX7_init_416 : decode cX7_init 416 = .ok (.aload_n 0, 1) := by decide +kernel
theorem dX7_init_417 : decode cX7_init 417 = .ok (.bipush 8, 2) := by decide +kernel
theorem dX7_init_419 : decode cX7_init 419 = .ok (.newarray .int, 2) := by decide +kernel
theorem dX7_init_421 : decode cX7_init 421 = .ok (.putfield 167, 3) := by decide +kernel
theorem dX7_init_424 : decode cX7_init 424 = .ok (.aload_n 0, 1) := by decide +kernel
theorem dX7_init_425 : decode cX7_init 425 = .ok (.bipush 8, 2) := by decide +kernel
theorem dX7_init_427 : decode cX7_init 427 = .ok (.newarray .int, 2) := by decide +kernel
theorem dX7_init_429 : decode cX7_init 429 = .ok (.putfield 170, 3) := by decide +kernel
theorem dX7_init_432 : decode cX7_init 432 = .ok (.aload_n 0, 1) := by decide +kernel
theorem dX7_init_433 : decode cX7_init 433 = .ok (.bipush 8, 2) := by decide +kernel
theorem dX7_init_435 : decode cX7_init 435 = .ok (.newarray .int, 2) := by decide +kernel
theorem dX7_init_437 : decode cX7_init 437 = .ok (.putfield 173, 3) := by decide +kernel
theorem dX7_init_440 : decode cX7_init 440 = .ok (.aload_n 0, 1) := by decide +kernel
theorem dX7_init_441 : decode cX7_init 441 = .ok (.bipush 12, 2) := by decide +kernel
theorem dX7_init_443 : decode cX7_init 443 = .ok (.newarray .int, 2) := by decide +kernel
theorem dX7_init_445 : decode cX7_init 445 = .ok (.putfield 176, 3) := by decide +kernel
theorem dX7_init_448 : decode cX7_init 448 = .ok (.aload_n 0, 1) := by decide +kernel
theorem dX7_init_449 : decode cX7_init 449 = .ok (.iconst 0, 1) := by decide +kernel
theorem dX7_init_450 : decode cX7_init 450 = .ok (.putfield 179, 3) := by decide +kernel
theorem dX7_init_453 : decode cX7_init 453 = .ok (.aload_n 0, 1) := by decide +kernel
theorem dX7_init_454 : decode cX7_init 454 = .ok (.bipush 20, 2) := by decide +kernel
theorem dX7_init_456 : decode cX7_init 456 = .ok (.newarray .int, 2) := by decide +kernel
theorem dX7_init_458 : decode cX7_init 458 = .ok (.putfield 182, 3) := by decide +kernel
theorem dX7_init_461 : decode cX7_init 461 = .ok (.aload_n 0, 1) := by decide +kernel
theorem dX7_init_462 : decode cX7_init 462 = .ok (.bipush 6, 2) := by decide +kernel
theorem dX7_init_464 : decode cX7_init 464 = .ok (.newarray .int, 2) := by decide +kernel
theorem dX7_init_466 : decode cX7_init 466 = .ok (.dup, 1) := by decide +kernel
theorem dX7_init_467 : decode cX7_init 467 = .ok (.iconst 0, 1) := by decide +kernel
theorem dX7_init_468 : decode cX7_init 468 = .ok (.iconst (-1), 1) := by decide +kernel
theorem dX7_init_469 : decode cX7_init 469 = .ok (.iastore, 1) := by decide +kernel
theorem dX7_init_470 : decode cX7_init 470 = .ok (.dup, 1) := by decide +kernel
theorem dX7_init_471 : decode cX7_init 471 = .ok (.iconst 1, 1) := by decide +kernel
theorem dX7_init_472 : decode cX7_init 472 = .ok (.iconst (-1), 1) := by decide +kernel
theorem dX7_init_473 : decode cX7_init 473 = .ok (.iastore, 1) := by decide +kernel
theorem dX7_init_474 : decode cX7_init 474 = .ok (.dup, 1) := by decide +kernel
theorem dX7_init_475 : decode cX7_init 475 = .ok (.iconst 2, 1) := by decide +kernel
theorem dX7_init_476 : decode cX7_init 476 = .ok (.iconst (-1), 1) := by decide +kernel
theorem dX7_init_477 : decode cX7_init 477 = .ok (.iastore, 1) := by decide +kernel
theorem dX7_init_478 : decode cX7_init 478 = .ok (.dup, 1) := by decide +kernel
theorem dX7_init_479 : decode cX7_init 479 = .ok (.iconst 3, 1) := by decide +kernel
theorem dX7_init_480 : decode cX7_init 480 = .ok (.iconst (-1), 1) := by decide +kernel
theorem dX7_init_481 : decode cX7_init 481 = .ok (.iastore, 1) := by decide +kernel
theorem dX7_init_482 : decode cX7_init 482 = .ok (.dup, 1) := by decide +kernel
theorem dX7_init_483 : decode cX7_init 483 = .ok (.iconst 4, 1) := by decide +kernel
theorem dX7_init_484 : decode cX7_init 484 = .ok (.iconst (-1), 1) := by decide +kernel
theorem dX7_init_485 : decode cX7_init 485 = .ok (.iastore, 1) := by decide +kernel
theorem dX7_init_486 : decode cX7_init 486 = .ok (.dup, 1) := by decide +kernel
theorem dX7_init_487 : decode cX7_init 487 = .ok (.iconst 5, 1) := by decide +kernel
theorem dX7_init_488 : decode cX7_init 488 = .ok (.iconst (-1), 1) := by decide +kernel
theorem dX7_init_489 : decode cX7_init 489 = .ok (.iastore, 1) := by decide +kernel
theorem dX7_init_490 : decode cX7_init 490 = .ok (.putfield 185, 3) := by decide +kernel
theorem dX7_init_493 : decode cX7_init 493 = .ok (.aload_n 0, 1) := by decide +kernel
theorem dX7_init_494 : decode cX7_init 494 = .ok (.bipush 6, 2) := by decide +kernel
theorem dX7_init_496 : decode cX7_init 496 = .ok (.newarray .int, 2) := by decide +kernel
theorem dX7_init_498 : decode cX7_init 498 = .ok (.putfield 188, 3) := by decide +kernel
theorem dX7_init_501 : decode cX7_init 501 = .ok (.aload_n 0, 1) := by decide +kernel
theorem dX7_init_502 : decode cX7_init 502 = .ok (.sipush 360, 3) := by decide +kernel
theorem dX7_init_505 : decode cX7_init 505 = .ok (.newarray .long, 2) := by decide +kernel
theorem dX7_init_507 : decode cX7_init 507 = .ok (.putfield 191, 3) := by decide +kernel
theorem dX7_init_510 : decode cX7_init 510 = .ok (.aload_n 0, 1) := by decide +kernel
theorem dX7_init_511 : decode cX7_init 511 = .ok (.bipush 60, 2) := by decide +kernel
theorem dX7_init_513 : decode cX7_init 513 = .ok (.newarray .long, 2) := by decide +kernel
theorem dX7_init_515 : decode cX7_init 515 = .ok (.putfield 194, 3) := by decide +kernel
theorem dX7_init_518 : decode cX7_init 518 = .ok (.return_, 1) := by decide +kernel
theorem dX7_in_0 : decode cX7_in 0 = .ok (.iload_n 1, 1) := by decide +kernel
theorem dX7_in_1 : decode cX7_in 1 = .ok (.iload_n 2, 1) := by decide +kernel
theorem dX7_in_2 : decode cX7_in 2 = .ok (.if_icmp .lt 12, 3) := by decide +kernel
theorem dX7_in_5 : decode cX7_in 5 = .ok (.iload_n 1, 1) := by decide +kernel
theorem dX7_in_6 : decode cX7_in 6 = .ok (.iload_n 3, 1) := by decide +kernel
theorem dX7_in_7 : decode cX7_in 7 = .ok (.if_icmp .gt 7, 3) := by decide +kernel
theorem dX7_in_10 : decode cX7_in 10 = .ok (.iconst 1, 1) := by decide +kernel
theorem dX7_in_11 : decode cX7_in 11 = .ok (.goto 4, 3) := by decide +kernel
theorem dX7_in_14 : decode cX7_in 14 = .ok (.iconst 0, 1) := by decide +kernel
theorem dX7_in_15 : decode cX7_in 15 = .ok (.ireturn, 1) := by decide +kernel
theorem dX7_has_0 : decode cX7_has 0 = .ok (.iload_n 1, 1) := by decide +kernel
theorem dX7_has_1 : decode cX7_has 1 = .ok (.iload_n 2, 1) := by decide +kernel
theorem dX7_has_2 : decode cX7_has 2 = .ok (.ishr, 1) := by decide +kernel
theorem dX7_has_3 : decode cX7_has 3 = .ok (.iconst 1, 1) := by decide +kernel
theorem dX7_has_4 : decode cX7_has 4 = .ok (.iand, 1) := by decide +kernel
theorem dX7_has_5 : decode cX7_has 5 = .ok (.iconst 1, 1) := by decide +kernel
theorem dX7_has_6 : decode cX7_has 6 = .ok (.if_icmp .ne 7, 3) := by decide +kernel
theorem dX7_has_9 : decode cX7_has 9 = .ok (.iconst 1, 1) := by decide +kernel
theorem dX7_has_10 : decode cX7_has 10 = .ok (.goto 4, 3) := by decide +kernel
theorem dX7_has_13 : decode cX7_has 13 = .ok (.iconst 0, 1) := by decide +kernel
theorem dX7_has_14 : decode cX7_has 14 = .ok (.ireturn, 1) := by decide +kernel
theorem dX7_ones_0 : decode cX7_ones 0 = .ok (.iconst 0, 1) := by decide +kernel
theorem dX7_ones_1 : decode cX7_ones 1 = .ok (.istore_n 2, 1) := by decide +kernel
theorem dX7_ones_2 : decode cX7_ones 2 = .ok (.iload_n 1, 1) := by decide +kernel
theorem dX7_ones_3 : decode cX7_ones 3 = .ok (.istore_n 3, 1) := by decide +kernel
theorem dX7_ones_4 : decode cX7_ones 4 = .ok (.iload_n 3, 1) := by decide +kernel
theorem dX7_ones_5 : decode cX7_ones 5 = .ok (.ifCond .eq 15, 3) := by decide +kernel
theorem dX7_ones_8 : decode cX7_ones 8 = .ok (.iinc 2 1, 3) := by decide +kernel
theorem dX7_ones_11 : decode cX7_ones 11 = .ok (.iload_n 3, 1) := by decide +kernel
theorem dX7_ones_12 : decode cX7_ones 12 = .ok (.iload_n 3, 1) := by decide +kernel
theorem dX7_ones_13 : decode cX7_ones 13 = .ok (.iconst 1, 1) := by decide +kernel
theorem dX7_ones_14 : decode cX7_ones 14 = .ok (.isub, 1) := by decide +kernel
theorem dX7_ones_15 : decode cX7_ones 15 = .ok (.iand, 1) := by decide +kernel
theorem dX7_ones_16 : decode cX7_ones 16 = .ok (.istore_n 3, 1) := by decide +kernel
theorem dX7_ones_17 : decode cX7_ones 17 = .ok (.goto (-13), 3) := by decide +kernel
theorem dX7_ones_20 : decode cX7_ones 20 = .ok (.iload_n 2, 1) := by decide +kernel
theorem dX7_ones_21 : decode cX7_ones 21 = .ok (.ireturn, 1) := by decide +kernel
theorem dX7_isPlace_0 : decode cX7_isPlace 0 = .ok (.aload_n 0, 1) := by decide +kernel
theorem dX7_isPlace_1 : decode cX7_isPlace 1 = .ok (.iload_n 1, 1) := by decide +kernel
theorem dX7_isPlace_2 : decode cX7_isPlace 2 = .ok (.iconst 0, 1) := by decide +kernel
theorem dX7_isPlace_3 : decode cX7_isPlace 3 = .ok (.aload_n 0, 1) := by decide +kernel
theorem dX7_isPlace_4 : decode cX7_isPlace 4 = .ok (.getfield 7, 3) := by decide +kernel
theorem dX7_isPlace_7 : decode cX7_isPlace 7 = .ok (.iconst 1, 1) := by decide +kernel
theorem dX7_isPlace_8 : decode cX7_isPlace 8 = .ok (.isub, 1) := by decide +kernel
theorem dX7_isPlace_9 : decode cX7_isPlace 9 = .ok (.invokevirtual 197, 3) := by decide +kernel
theorem dX7_isPlace_12 : decode cX7_isPlace 12 = .ok (.ireturn, 1) := by decide +kernel
theorem dX7_arePlaces_0 : decode cX7_arePlaces 0 = .ok (.aload_n 0, 1) := by decide +kernel
theorem dX7_arePlaces_1 : decode cX7_arePlaces 1 = .ok (.iload_n 1, 1) := by decide +kernel
theorem dX7_arePlaces_2 : decode cX7_arePlaces 2 = .ok (.invokevirtual 201, 3) := by decide +kernel
theorem dX7_arePlaces_5 : decode cX7_arePlaces 5 = .ok (.ifCond .eq 15, 3) := by decide +kernel
theorem dX7_arePlaces_8 : decode cX7_arePlaces 8 = .ok (.aload_n 0, 1) := by decide +kernel
theorem dX7_arePlaces_9 : decode cX7_arePlaces 9 = .ok (.iload_n 2, 1) := by decide +kernel
theorem dX7_arePlaces_10 : decode cX7_arePlaces 10 = .ok (.invokevirtual 201, 3) := by decide +kernel
theorem dX7_arePlaces_13 : decode cX7_arePlaces 13 = .ok (.ifCond .eq 7, 3) := by decide +kernel
theorem dX7_arePlaces_16 : decode cX7_arePlaces 16 = .ok (.iconst 1, 1) := by decide +kernel
theorem dX7_arePlaces_17 : decode cX7_arePlaces 17 = .ok (.goto 4, 3) := by decide +kernel
theorem dX7_arePlaces_20 : decode cX7_arePlaces 20 = .ok (.iconst 0, 1) := by decide +kernel
theorem dX7_arePlaces_21 : decode cX7_arePlaces 21 = .ok (.ireturn, 1) := by decide +kernel
theorem dX7_place_0 : decode cX7_place 0 = .ok (.aload_n 0, 1) := by decide +kernel
theorem dX7_place_1 : decode cX7_place 1 = .ok (.iload_n 1, 1) := by decide +kernel
theorem dX7_place_2 : decode cX7_place 2 = .ok (.iconst 0, 1) := by decide +kernel
theorem dX7_place_3 : decode cX7_place 3 = .ok (.bipush 6, 2) := by decide +kernel
theorem dX7_place_5 : decode cX7_place 5 = .ok (.invokevirtual 197, 3) := by decide +kernel
theorem dX7_place_8 : decode cX7_place 8 = .ok (.ifCond .ne 5, 3) := by decide +kernel
theorem dX7_place_11 : decode cX7_place 11 = .ok (.iconst (-1), 1) := by decide +kernel
theorem dX7_place_12 : decode cX7_place 12 = .ok (.ireturn, 1) := by decide +kernel
theorem dX7_place_13 : decode cX7_place 13 = .ok (.aload_n 0, 1) := by decide +kernel
theorem dX7_place_14 : decode cX7_place 14 = .ok (.iload_n 2, 1) := by decide +kernel
theorem dX7_place_15 : decode cX7_place 15 = .ok (.iconst 0, 1) := by decide +kernel
theorem dX7_place_16 : decode cX7_place 16 = .ok (.bipush 9, 2) := by decide +kernel
theorem dX7_place_18 : decode cX7_place 18 = .ok (.invokevirtual 197, 3) := by decide +kernel
theorem dX7_place_21 : decode cX7_place 21 = .ok (.ifCond .eq 14, 3) := by decide +kernel
theorem dX7_place_24 : decode cX7_place 24 = .ok (.aload_n 0, 1) := by decide +kernel
theorem dX7_place_25 : decode cX7_place 25 = .ok (.iload_n 3, 1) := by decide +kernel
theorem dX7_place_26 : decode cX7_place 26 = .ok (.iconst 0, 1) := by decide +kernel
theorem dX7_place_27 : decode cX7_place 27 = .ok (.bipush 99, 2) := by decide +kernel
theorem dX7_place_29 : decode cX7_place 29 = .ok (.invokevirtual 197, 3) := by decide +kernel
theorem dX7_place_32 : decode cX7_place 32 = .ok (.ifCond .ne 6, 3) := by decide +kernel
theorem dX7_place_35 : decode cX7_place 35 = .ok (.bipush (-2), 2) := by decide +kernel
theorem dX7_place_37 : decode cX7_place 37 = .ok (.ireturn, 1) := by decide +kernel
theorem dX7_place_38 : decode cX7_place 38 = .ok (.aload_n 0, 1) := by decide +kernel
theorem dX7_place_39 : decode cX7_place 39 = .ok (.getfield 7, 3) := by decide +kernel
theorem dX7_place_42 : decode cX7_place 42 = .ok (.bipush 7, 2) := by decide +kernel
theorem dX7_place_44 : decode cX7_place 44 = .ok (.if_icmp .ne 6, 3) := by decide +kernel
theorem dX7_place_47 : decode cX7_place 47 = .ok (.bipush (-4), 2) := by decide +kernel
theorem dX7_place_49 : decode cX7_place 49 = .ok (.ireturn, 1) := by decide +kernel
theorem dX7_place_50 : decode cX7_place 50 = .ok (.aload_n 0, 1) := by decide +kernel
theorem dX7_place_51 : decode cX7_place 51 = .ok (.getfield 16, 3) := by decide +kernel
theorem dX7_place_54 : decode cX7_place 54 = .ok (.aload_n 0, 1) := by decide +kernel
theorem dX7_place_55 : decode cX7_place 55 = .ok (.getfield 7, 3) := by decide +kernel
theorem dX7_place_58 : decode cX7_place 58 = .ok (.iload_n 1, 1) := by decide +kernel
theorem dX7_place_59 : decode cX7_place 59 = .ok (.iastore, 1) := by decide +kernel
theorem dX7_place_60 : decode cX7_place 60 = .ok (.aload_n 0, 1) := by decide +kernel
theorem dX7_place_61 : decode cX7_place 61 = .ok (.getfield 20, 3) := by decide +kernel
theorem dX7_place_64 : decode cX7_place 64 = .ok (.aload_n 0, 1) := by decide +kernel
theorem dX7_place_65 : decode cX7_place 65 = .ok (.getfield 7, 3) := by decide +kernel
theorem dX7_place_68 : decode cX7_place 68 = .ok (.iload_n 2, 1) := by decide +kernel
theorem dX7_place_69 : decode cX7_place 69 = .ok (.iastore, 1) := by decide +kernel
theorem dX7_place_70 : decode cX7_place 70 = .ok (.aload_n 0, 1) := by decide +kernel
theorem dX7_place_71 : decode cX7_place 71 = .ok (.getfield 23, 3) := by decide +kernel
theorem dX7_place_74 : decode cX7_place 74 = .ok (.aload_n 0, 1) := by decide +kernel
theorem dX7_place_75 : decode cX7_place 75 = .ok (.getfield 7, 3) := by decide +kernel
theorem dX7_place_78 : decode cX7_place 78 = .ok (.iload_n 3, 1) := by decide +kernel
theorem dX7_place_79 : decode cX7_place 79 = .ok (.iastore, 1) := by decide +kernel
theorem dX7_place_80 : decode cX7_place 80 = .ok (.aload_n 0, 1) := by decide +kernel
theorem dX7_place_81 : decode cX7_place 81 = .ok (.getfield 26, 3) := by decide +kernel
theorem dX7_place_84 : decode cX7_place 84 = .ok (.aload_n 0, 1) := by decide +kernel
theorem dX7_place_85 : decode cX7_place 85 = .ok (.getfield 7, 3) := by decide +kernel
theorem dX7_place_88 : decode cX7_place 88 = .ok (.iconst 0, 1) := by decide +kernel
theorem dX7_place_89 : decode cX7_place 89 = .ok (.iastore, 1) := by decide +kernel
theorem dX7_place_90 : decode cX7_place 90 = .ok (.iconst 0, 1) := by decide +kernel
theorem dX7_place_91 : decode cX7_place 91 = .ok (.istore 4, 2) := by decide +kernel
theorem dX7_place_93 : decode cX7_place 93 = .ok (.iload 4, 2) := by decide +kernel
theorem dX7_place_95 : decode cX7_place 95 = .ok (.bipush 7, 2) := by decide +kernel
theorem dX7_place_97 : decode cX7_place 97 = .ok (.if_icmp .ge 41, 3) := by decide +kernel
theorem dX7_place_100 : decode cX7_place 100 = .ok (.aload_n 0, 1) := by decide +kernel
theorem dX7_place_101 : decode cX7_place 101 = .ok (.getfield 29, 3) := by decide +kernel
theorem dX7_place_104 : decode cX7_place 104 = .ok (.bipush 7, 2) := by decide +kernel
theorem dX7_place_106 : decode cX7_place 106 = .ok (.aload_n 0, 1) := by decide +kernel
theorem dX7_place_107 : decode cX7_place 107 = .ok (.getfield 7, 3) := by decide +kernel
theorem dX7_place_110 : decode cX7_place 110 = .ok (.imul, 1) := by decide +kernel
theorem dX7_place_111 : decode cX7_place 111 = .ok (.iload 4, 2) := by decide +kernel
theorem dX7_place_113 : decode cX7_place 113 = .ok (.iadd, 1) := by decide +kernel
theorem dX7_place_114 : decode cX7_place 114 = .ok (.iconst 0, 1) := by decide +kernel
theorem dX7_place_115 : decode cX7_place 115 = .ok (.iastore, 1) := by decide +kernel
theorem dX7_place_116 : decode cX7_place 116 = .ok (.aload_n 0, 1) := by decide +kernel
theorem dX7_place_117 : decode cX7_place 117 = .ok (.getfield 29, 3) := by decide +kernel
theorem dX7_place_120 : decode cX7_place 120 = .ok (.bipush 7, 2) := by decide +kernel
theorem dX7_place_122 : decode cX7_place 122 = .ok (.iload 4, 2) := by decide +kernel
theorem dX7_place_124 : decode cX7_place 124 = .ok (.imul, 1) := by decide +kernel
theorem dX7_place_125 : decode cX7_place 125 = .ok (.aload_n 0, 1) := by decide +kernel
theorem dX7_place_126 : decode cX7_place 126 = .ok (.getfield 7, 3) := by decide +kernel
theorem dX7_place_129 : decode cX7_place 129 = .ok (.iadd, 1) := by decide +kernel
theorem dX7_place_130 : decode cX7_place 130 = .ok (.iconst 0, 1) := by decide +kernel
theorem dX7_place_131 : decode cX7_place 131 = .ok (.iastore, 1) := by decide +kernel
theorem dX7_place_132 : decode cX7_place 132 = .ok (.iinc 4 1, 3) := by decide +kernel
theorem dX7_place_135 : decode cX7_place 135 = .ok (.goto (-42), 3) := by decide +kernel
theorem dX7_place_138 : decode cX7_place 138 = .ok (.aload_n 0, 1) := by decide +kernel
theorem dX7_place_139 : decode cX7_place 139 = .ok (.dup, 1) := by decide +kernel
theorem dX7_place_140 : decode cX7_place 140 = .ok (.getfield 7, 3) := by decide +kernel
theorem dX7_place_143 : decode cX7_place 143 = .ok (.iconst 1, 1) := by decide +kernel
theorem dX7_place_144 : decode cX7_place 144 = .ok (.iadd, 1) := by decide +kernel
theorem dX7_place_145 : decode cX7_place 145 = .ok (.putfield 7, 3) := by decide +kernel
theorem dX7_place_148 : decode cX7_place 148 = .ok (.aload_n 0, 1) := by decide +kernel
theorem dX7_place_149 : decode cX7_place 149 = .ok (.getfield 7, 3) := by decide +kernel
theorem dX7_place_152 : decode cX7_place 152 = .ok (.iconst 1, 1) := by decide +kernel
theorem dX7_place_153 : decode cX7_place 153 = .ok (.isub, 1) := by decide +kernel
theorem dX7_place_154 : decode cX7_place 154 = .ok (.ireturn, 1) := by decide +kernel
theorem dX7_road_0 : decode cX7_road 0 = .ok (.aload_n 0, 1) := by decide +kernel
theorem dX7_road_1 : decode cX7_road 1 = .ok (.iload_n 1, 1) := by decide +kernel
theorem dX7_road_2 : decode cX7_road 2 = .ok (.iload_n 2, 1) := by decide +kernel
theorem dX7_road_3 : decode cX7_road 3 = .ok (.invokevirtual 205, 3) := by decide +kernel
theorem dX7_road_6 : decode cX7_road 6 = .ok (.ifCond .ne 5, 3) := by decide +kernel
theorem dX7_road_9 : decode cX7_road 9 = .ok (.iconst (-1), 1) := by decide +kernel
theorem dX7_road_10 : decode cX7_road 10 = .ok (.ireturn, 1) := by decide +kernel
theorem dX7_road_11 : decode cX7_road 11 = .ok (.iload_n 1, 1) := by decide +kernel
theorem dX7_road_12 : decode cX7_road 12 = .ok (.iload_n 2, 1) := by decide +kernel
theorem dX7_road_13 : decode cX7_road 13 = .ok (.if_icmp .eq 14, 3) := by decide +kernel
theorem dX7_road_16 : decode cX7_road 16 = .ok (.aload_n 0, 1) := by decide +kernel
theorem dX7_road_17 : decode cX7_road 17 = .ok (.iload_n 3, 1) := by decide +kernel
theorem dX7_road_18 : decode cX7_road 18 = .ok (.iconst 0, 1) := by decide +kernel
theorem dX7_road_19 : decode cX7_road 19 = .ok (.bipush 99, 2) := by decide +kernel
theorem dX7_road_21 : decode cX7_road 21 = .ok (.invokevirtual 197, 3) := by decide +kernel
theorem dX7_road_24 : decode cX7_road 24 = .ok (.ifCond .ne 6, 3) := by decide +kernel
theorem dX7_road_27 : decode cX7_road 27 = .ok (.bipush (-2), 2) := by decide +kernel
theorem dX7_road_29 : decode cX7_road 29 = .ok (.ireturn, 1) := by decide +kernel
theorem dX7_road_30 : decode cX7_road 30 = .ok (.aload_n 0, 1) := by decide +kernel
theorem dX7_road_31 : decode cX7_road 31 = .ok (.getfield 29, 3) := by decide +kernel
theorem dX7_road_34 : decode cX7_road 34 = .ok (.bipush 7, 2) := by decide +kernel
theorem dX7_road_36 : decode cX7_road 36 = .ok (.iload_n 1, 1) := by decide +kernel
theorem dX7_road_37 : decode cX7_road 37 = .ok (.imul, 1) := by decide +kernel
theorem dX7_road_38 : decode cX7_road 38 = .ok (.iload_n 2, 1) := by decide +kernel
theorem dX7_road_39 : decode cX7_road 39 = .ok (.iadd, 1) := by decide +kernel
theorem dX7_road_40 : decode cX7_road 40 = .ok (.iaload, 1) := by decide +kernel
theorem dX7_road_41 : decode cX7_road 41 = .ok (.istore 4, 2) := by decide +kernel
theorem dX7_road_43 : decode cX7_road 43 = .ok (.aload_n 0, 1) := by decide +kernel
theorem dX7_road_44 : decode cX7_road 44 = .ok (.getfield 29, 3) := by decide +kernel
theorem dX7_road_47 : decode cX7_road 47 = .ok (.bipush 7, 2) := by decide +kernel
theorem dX7_road_49 : decode cX7_road 49 = .ok (.iload_n 1, 1) := by decide +kernel
theorem dX7_road_50 : decode cX7_road 50 = .ok (.imul, 1) := by decide +kernel
theorem dX7_road_51 : decode cX7_road 51 = .ok (.iload_n 2, 1) := by decide +kernel
theorem dX7_road_52 : decode cX7_road 52 = .ok (.iadd, 1) := by decide +kernel
theorem dX7_road_53 : decode cX7_road 53 = .ok (.iload_n 3, 1) := by decide +kernel
theorem dX7_road_54 : decode cX7_road 54 = .ok (.iastore, 1) := by decide +kernel
theorem dX7_road_55 : decode cX7_road 55 = .ok (.aload_n 0, 1) := by decide +kernel
theorem dX7_road_56 : decode cX7_road 56 = .ok (.getfield 29, 3) := by decide +kernel
theorem dX7_road_59 : decode cX7_road 59 = .ok (.bipush 7, 2) := by decide +kernel
theorem dX7_road_61 : decode cX7_road 61 = .ok (.iload_n 2, 1) := by decide +kernel
theorem dX7_road_62 : decode cX7_road 62 = .ok (.imul, 1) := by decide +kernel
theorem dX7_road_63 : decode cX7_road 63 = .ok (.iload_n 1, 1) := by decide +kernel
theorem dX7_road_64 : decode cX7_road 64 = .ok (.iadd, 1) := by decide +kernel
theorem dX7_road_65 : decode cX7_road 65 = .ok (.iload_n 3, 1) := by decide +kernel
theorem dX7_road_66 : decode cX7_road 66 = .ok (.iastore, 1) := by decide +kernel
theorem dX7_road_67 : decode cX7_road 67 = .ok (.iload 4, 2) := by decide +kernel
theorem dX7_road_69 : decode cX7_road 69 = .ok (.ireturn, 1) := by decide +kernel
theorem dX7_roadsOf_0 : decode cX7_roadsOf 0 = .ok (.iconst 0, 1) := by decide +kernel
theorem dX7_roadsOf_1 : decode cX7_roadsOf 1 = .ok (.istore_n 2, 1) := by decide +kernel
theorem dX7_roadsOf_2 : decode cX7_roadsOf 2 = .ok (.iconst 0, 1) := by decide +kernel
theorem dX7_roadsOf_3 : decode cX7_roadsOf 3 = .ok (.istore_n 3, 1) := by decide +kernel
theorem dX7_roadsOf_4 : decode cX7_roadsOf 4 = .ok (.iload_n 3, 1) := by decide +kernel
theorem dX7_roadsOf_5 : decode cX7_roadsOf 5 = .ok (.aload_n 0, 1) := by decide +kernel
theorem dX7_roadsOf_6 : decode cX7_roadsOf 6 = .ok (.getfield 7, 3) := by decide +kernel
theorem dX7_roadsOf_9 : decode cX7_roadsOf 9 = .ok (.if_icmp .ge 33, 3) := by decide +kernel
theorem dX7_roadsOf_12 : decode cX7_roadsOf 12 = .ok (.iload_n 2, 1) := by decide +kernel
theorem dX7_roadsOf_13 : decode cX7_roadsOf 13 = .ok (.aload_n 0, 1) := by decide +kernel
theorem dX7_roadsOf_14 : decode cX7_roadsOf 14 = .ok (.getfield 29, 3) := by decide +kernel
theorem dX7_roadsOf_17 : decode cX7_roadsOf 17 = .ok (.bipush 7, 2) := by decide +kernel
theorem dX7_roadsOf_19 : decode cX7_roadsOf 19 = .ok (.iload_n 1, 1) := by decide +kernel
theorem dX7_roadsOf_20 : decode cX7_roadsOf 20 = .ok (.imul, 1) := by decide +kernel
theorem dX7_roadsOf_21 : decode cX7_roadsOf 21 = .ok (.iload_n 3, 1) := by decide +kernel
theorem dX7_roadsOf_22 : decode cX7_roadsOf 22 = .ok (.iadd, 1) := by decide +kernel
theorem dX7_roadsOf_23 : decode cX7_roadsOf 23 = .ok (.iaload, 1) := by decide +kernel
theorem dX7_roadsOf_24 : decode cX7_roadsOf 24 = .ok (.ifCond .le 9, 3) := by decide +kernel
theorem dX7_roadsOf_27 : decode cX7_roadsOf 27 = .ok (.iconst 1, 1) := by decide +kernel
theorem dX7_roadsOf_28 : decode cX7_roadsOf 28 = .ok (.iload_n 3, 1) := by decide +kernel
theorem dX7_roadsOf_29 : decode cX7_roadsOf 29 = .ok (.ishl, 1) := by decide +kernel
theorem dX7_roadsOf_30 : decode cX7_roadsOf 30 = .ok (.goto 4, 3) := by decide +kernel
theorem dX7_roadsOf_33 : decode cX7_roadsOf 33 = .ok (.iconst 0, 1) := by decide +kernel
theorem dX7_roadsOf_34 : decode cX7_roadsOf 34 = .ok (.ior, 1) := by decide +kernel
theorem dX7_roadsOf_35 : decode cX7_roadsOf 35 = .ok (.istore_n 2, 1) := by decide +kernel
theorem dX7_roadsOf_36 : decode cX7_roadsOf 36 = .ok (.iinc 3 1, 3) := by decide +kernel
theorem dX7_roadsOf_39 : decode cX7_roadsOf 39 = .ok (.goto (-35), 3) := by decide +kernel
theorem dX7_roadsOf_42 : decode cX7_roadsOf 42 = .ok (.iload_n 2, 1) := by decide +kernel
theorem dX7_roadsOf_43 : decode cX7_roadsOf 43 = .ok (.ireturn, 1) := by decide +kernel
theorem dX7_lays_0 : decode cX7_lays 0 = .ok (.aload_n 0, 1) := by decide +kernel
theorem dX7_lays_1 : decode cX7_lays 1 = .ok (.getfield 26, 3) := by decide +kernel
theorem dX7_lays_4 : decode cX7_lays 4 = .ok (.iload_n 1, 1) := by decide +kernel
theorem dX7_lays_5 : decode cX7_lays 5 = .ok (.iload_n 3, 1) := by decide +kernel
theorem dX7_lays_6 : decode cX7_lays 6 = .ok (.ifCond .eq 16, 3) := by decide +kernel
theorem dX7_lays_9 : decode cX7_lays 9 = .ok (.aload_n 0, 1) := by decide +kernel
theorem dX7_lays_10 : decode cX7_lays 10 = .ok (.getfield 26, 3) := by decide +kernel
theorem dX7_lays_13 : decode cX7_lays 13 = .ok (.iload_n 1, 1) := by decide +kernel
theorem dX7_lays_14 : decode cX7_lays 14 = .ok (.iaload, 1) := by decide +kernel
theorem dX7_lays_15 : decode cX7_lays 15 = .ok (.iconst 1, 1) := by decide +kernel
theorem dX7_lays_16 : decode cX7_lays 16 = .ok (.iload_n 2, 1) := by decide +kernel
theorem dX7_lays_17 : decode cX7_lays 17 = .ok (.ishl, 1) := by decide +kernel
theorem dX7_lays_18 : decode cX7_lays 18 = .ok (.ior, 1) := by decide +kernel
theorem dX7_lays_19 : decode cX7_lays 19 = .ok (.goto 15, 3) := by decide +kernel
theorem dX7_lays_22 : decode cX7_lays 22 = .ok (.aload_n 0, 1) := by decide +kernel
theorem dX7_lays_23 : decode cX7_lays 23 = .ok (.getfield 26, 3) := by decide +kernel
theorem dX7_lays_26 : decode cX7_lays 26 = .ok (.iload_n 1, 1) := by decide +kernel
theorem dX7_lays_27 : decode cX7_lays 27 = .ok (.iaload, 1) := by decide +kernel
theorem dX7_lays_28 : decode cX7_lays 28 = .ok (.iconst 1, 1) := by decide +kernel
theorem dX7_lays_29 : decode cX7_lays 29 = .ok (.iload_n 2, 1) := by decide +kernel
theorem dX7_lays_30 : decode cX7_lays 30 = .ok (.ishl, 1) := by decide +kernel
theorem dX7_lays_31 : decode cX7_lays 31 = .ok (.iconst (-1), 1) := by decide +kernel
theorem dX7_lays_32 : decode cX7_lays 32 = .ok (.ixor, 1) := by decide +kernel
theorem dX7_lays_33 : decode cX7_lays 33 = .ok (.iand, 1) := by decide +kernel
theorem dX7_lays_34 : decode cX7_lays 34 = .ok (.iastore, 1) := by decide +kernel
theorem dX7_lays_35 : decode cX7_lays 35 = .ok (.aload_n 0, 1) := by decide +kernel
theorem dX7_lays_36 : decode cX7_lays 36 = .ok (.getfield 26, 3) := by decide +kernel
theorem dX7_lays_39 : decode cX7_lays 39 = .ok (.iload_n 2, 1) := by decide +kernel
theorem dX7_lays_40 : decode cX7_lays 40 = .ok (.iload_n 3, 1) := by decide +kernel
theorem dX7_lays_41 : decode cX7_lays 41 = .ok (.ifCond .eq 16, 3) := by decide +kernel
theorem dX7_lays_44 : decode cX7_lays 44 = .ok (.aload_n 0, 1) := by decide +kernel
theorem dX7_lays_45 : decode cX7_lays 45 = .ok (.getfield 26, 3) := by decide +kernel
theorem dX7_lays_48 : decode cX7_lays 48 = .ok (.iload_n 2, 1) := by decide +kernel
theorem dX7_lays_49 : decode cX7_lays 49 = .ok (.iaload, 1) := by decide +kernel
theorem dX7_lays_50 : decode cX7_lays 50 = .ok (.iconst 1, 1) := by decide +kernel
theorem dX7_lays_51 : decode cX7_lays 51 = .ok (.iload_n 1, 1) := by decide +kernel
theorem dX7_lays_52 : decode cX7_lays 52 = .ok (.ishl, 1) := by decide +kernel
theorem dX7_lays_53 : decode cX7_lays 53 = .ok (.ior, 1) := by decide +kernel
theorem dX7_lays_54 : decode cX7_lays 54 = .ok (.goto 15, 3) := by decide +kernel
theorem dX7_lays_57 : decode cX7_lays 57 = .ok (.aload_n 0, 1) := by decide +kernel
theorem dX7_lays_58 : decode cX7_lays 58 = .ok (.getfield 26, 3) := by decide +kernel
theorem dX7_lays_61 : decode cX7_lays 61 = .ok (.iload_n 2, 1) := by decide +kernel
theorem dX7_lays_62 : decode cX7_lays 62 = .ok (.iaload, 1) := by decide +kernel
theorem dX7_lays_63 : decode cX7_lays 63 = .ok (.iconst 1, 1) := by decide +kernel
theorem dX7_lays_64 : decode cX7_lays 64 = .ok (.iload_n 1, 1) := by decide +kernel
theorem dX7_lays_65 : decode cX7_lays 65 = .ok (.ishl, 1) := by decide +kernel
theorem dX7_lays_66 : decode cX7_lays 66 = .ok (.iconst (-1), 1) := by decide +kernel
theorem dX7_lays_67 : decode cX7_lays 67 = .ok (.ixor, 1) := by decide +kernel
theorem dX7_lays_68 : decode cX7_lays 68 = .ok (.iand, 1) := by decide +kernel
theorem dX7_lays_69 : decode cX7_lays 69 = .ok (.iastore, 1) := by decide +kernel
theorem dX7_lays_70 : decode cX7_lays 70 = .ok (.return_, 1) := by decide +kernel
theorem dX7_name_0 : decode cX7_name 0 = .ok (.aload_n 0, 1) := by decide +kernel
theorem dX7_name_1 : decode cX7_name 1 = .ok (.iload_n 1, 1) := by decide +kernel
theorem dX7_name_2 : decode cX7_name 2 = .ok (.iload_n 2, 1) := by decide +kernel
theorem dX7_name_3 : decode cX7_name 3 = .ok (.invokevirtual 205, 3) := by decide +kernel
theorem dX7_name_6 : decode cX7_name 6 = .ok (.ifCond .ne 5, 3) := by decide +kernel
theorem dX7_name_9 : decode cX7_name 9 = .ok (.iconst (-1), 1) := by decide +kernel
theorem dX7_name_10 : decode cX7_name 10 = .ok (.ireturn, 1) := by decide +kernel
theorem dX7_name_11 : decode cX7_name 11 = .ok (.iload_n 1, 1) := by decide +kernel
theorem dX7_name_12 : decode cX7_name 12 = .ok (.iload_n 2, 1) := by decide +kernel
theorem dX7_name_13 : decode cX7_name 13 = .ok (.if_icmp .ne 6, 3) := by decide +kernel
theorem dX7_name_16 : decode cX7_name 16 = .ok (.bipush (-2), 2) := by decide +kernel
theorem dX7_name_18 : decode cX7_name 18 = .ok (.ireturn, 1) := by decide +kernel
theorem dX7_name_19 : decode cX7_name 19 = .ok (.aload_n 0, 1) := by decide +kernel
theorem dX7_name_20 : decode cX7_name 20 = .ok (.aload_n 0, 1) := by decide +kernel
theorem dX7_name_21 : decode cX7_name 21 = .ok (.getfield 26, 3) := by decide +kernel
theorem dX7_name_24 : decode cX7_name 24 = .ok (.iload_n 1, 1) := by decide +kernel
theorem dX7_name_25 : decode cX7_name 25 = .ok (.iaload, 1) := by decide +kernel
theorem dX7_name_26 : decode cX7_name 26 = .ok (.iload_n 2, 1) := by decide +kernel
theorem dX7_name_27 : decode cX7_name 27 = .ok (.invokevirtual 209, 3) := by decide +kernel
theorem dX7_name_30 : decode cX7_name 30 = .ok (.ifCond .eq 6, 3) := by decide +kernel
theorem dX7_name_33 : decode cX7_name 33 = .ok (.bipush (-3), 2) := by decide +kernel
theorem dX7_name_35 : decode cX7_name 35 = .ok (.ireturn, 1) := by decide +kernel
theorem dX7_name_36 : decode cX7_name 36 = .ok (.aload_n 0, 1) := by decide +kernel
theorem dX7_name_37 : decode cX7_name 37 = .ok (.aload_n 0, 1) := by decide +kernel
theorem dX7_name_38 : decode cX7_name 38 = .ok (.getfield 26, 3) := by decide +kernel
theorem dX7_name_41 : decode cX7_name 41 = .ok (.iload_n 1, 1) := by decide +kernel
theorem dX7_name_42 : decode cX7_name 42 = .ok (.iaload, 1) := by decide +kernel
theorem dX7_name_43 : decode cX7_name 43 = .ok (.invokevirtual 212, 3) := by decide +kernel
theorem dX7_name_46 : decode cX7_name 46 = .ok (.aload_n 0, 1) := by decide +kernel
theorem dX7_name_47 : decode cX7_name 47 = .ok (.invokevirtual 216, 3) := by decide +kernel
theorem dX7_name_50 : decode cX7_name 50 = .ok (.if_icmp .ge 20, 3) := by decide +kernel
theorem dX7_name_53 : decode cX7_name 53 = .ok (.aload_n 0, 1) := by decide +kernel
theorem dX7_name_54 : decode cX7_name 54 = .ok (.aload_n 0, 1) := by decide +kernel
theorem dX7_name_55 : decode cX7_name 55 = .ok (.getfield 26, 3) := by decide +kernel
theorem dX7_name_58 : decode cX7_name 58 = .ok (.iload_n 2, 1) := by decide +kernel
theorem dX7_name_59 : decode cX7_name 59 = .ok (.iaload, 1) := by decide +kernel
theorem dX7_name_60 : decode cX7_name 60 = .ok (.invokevirtual 212, 3) := by decide +kernel
theorem dX7_name_63 : decode cX7_name 63 = .ok (.aload_n 0, 1) := by decide +kernel
theorem dX7_name_64 : decode cX7_name 64 = .ok (.invokevirtual 216, 3) := by decide +kernel
theorem dX7_name_67 : decode cX7_name 67 = .ok (.if_icmp .lt 6, 3) := by decide +kernel
theorem dX7_name_70 : decode cX7_name 70 = .ok (.bipush (-4), 2) := by decide +kernel
theorem dX7_name_72 : decode cX7_name 72 = .ok (.ireturn, 1) := by decide +kernel
theorem dX7_name_73 : decode cX7_name 73 = .ok (.aload_n 0, 1) := by decide +kernel
theorem dX7_name_74 : decode cX7_name 74 = .ok (.iload_n 1, 1) := by decide +kernel
theorem dX7_name_75 : decode cX7_name 75 = .ok (.iload_n 2, 1) := by decide +kernel
theorem dX7_name_76 : decode cX7_name 76 = .ok (.iconst 1, 1) := by decide +kernel
theorem dX7_name_77 : decode cX7_name 77 = .ok (.invokevirtual 220, 3) := by decide +kernel
theorem dX7_name_80 : decode cX7_name 80 = .ok (.aload_n 0, 1) := by decide +kernel
theorem dX7_name_81 : decode cX7_name 81 = .ok (.aload_n 0, 1) := by decide +kernel
theorem dX7_name_82 : decode cX7_name 82 = .ok (.getfield 26, 3) := by decide +kernel
theorem dX7_name_85 : decode cX7_name 85 = .ok (.iload_n 1, 1) := by decide +kernel
theorem dX7_name_86 : decode cX7_name 86 = .ok (.iaload, 1) := by decide +kernel
theorem dX7_name_87 : decode cX7_name 87 = .ok (.invokevirtual 212, 3) := by decide +kernel
theorem dX7_name_90 : decode cX7_name 90 = .ok (.ireturn, 1) := by decide +kernel
theorem dX7_strike_0 : decode cX7_strike 0 = .ok (.aload_n 0, 1) := by decide +kernel
theorem dX7_strike_1 : decode cX7_strike 1 = .ok (.iload_n 1, 1) := by decide +kernel
theorem dX7_strike_2 : decode cX7_strike 2 = .ok (.iload_n 2, 1) := by decide +kernel
theorem dX7_strike_3 : decode cX7_strike 3 = .ok (.invokevirtual 205, 3) := by decide +kernel
theorem dX7_strike_6 : decode cX7_strike 6 = .ok (.ifCond .ne 5, 3) := by decide +kernel
theorem dX7_strike_9 : decode cX7_strike 9 = .ok (.iconst (-1), 1) := by decide +kernel
theorem dX7_strike_10 : decode cX7_strike 10 = .ok (.ireturn, 1) := by decide +kernel
theorem dX7_strike_11 : decode cX7_strike 11 = .ok (.aload_n 0, 1) := by decide +kernel
theorem dX7_strike_12 : decode cX7_strike 12 = .ok (.aload_n 0, 1) := by decide +kernel
theorem dX7_strike_13 : decode cX7_strike 13 = .ok (.getfield 26, 3) := by decide +kernel
theorem dX7_strike_16 : decode cX7_strike 16 = .ok (.iload_n 1, 1) := by decide +kernel
theorem dX7_strike_17 : decode cX7_strike 17 = .ok (.iaload, 1) := by decide +kernel
theorem dX7_strike_18 : decode cX7_strike 18 = .ok (.iload_n 2, 1) := by decide +kernel
theorem dX7_strike_19 : decode cX7_strike 19 = .ok (.invokevirtual 209, 3) := by decide +kernel
theorem dX7_strike_22 : decode cX7_strike 22 = .ok (.ifCond .ne 6, 3) := by decide +kernel
theorem dX7_strike_25 : decode cX7_strike 25 = .ok (.bipush (-3), 2) := by decide +kernel
theorem dX7_strike_27 : decode cX7_strike 27 = .ok (.ireturn, 1) := by decide +kernel
theorem dX7_strike_28 : decode cX7_strike 28 = .ok (.aload_n 0, 1) := by decide +kernel
theorem dX7_strike_29 : decode cX7_strike 29 = .ok (.iload_n 1, 1) := by decide +kernel
theorem dX7_strike_30 : decode cX7_strike 30 = .ok (.iload_n 2, 1) := by decide +kernel
theorem dX7_strike_31 : decode cX7_strike 31 = .ok (.iconst 0, 1) := by decide +kernel
theorem dX7_strike_32 : decode cX7_strike 32 = .ok (.invokevirtual 220, 3) := by decide +kernel
theorem dX7_strike_35 : decode cX7_strike 35 = .ok (.aload_n 0, 1) := by decide +kernel
theorem dX7_strike_36 : decode cX7_strike 36 = .ok (.aload_n 0, 1) := by decide +kernel
theorem dX7_strike_37 : decode cX7_strike 37 = .ok (.getfield 26, 3) := by decide +kernel
theorem dX7_strike_40 : decode cX7_strike 40 = .ok (.iload_n 1, 1) := by decide +kernel
theorem dX7_strike_41 : decode cX7_strike 41 = .ok (.iaload, 1) := by decide +kernel
theorem dX7_strike_42 : decode cX7_strike 42 = .ok (.invokevirtual 212, 3) := by decide +kernel
theorem dX7_strike_45 : decode cX7_strike 45 = .ok (.ireturn, 1) := by decide +kernel
theorem dX7_traveller_0 : decode cX7_traveller 0 = .ok (.aload_n 0, 1) := by decide +kernel
theorem dX7_traveller_1 : decode cX7_traveller 1 = .ok (.iload_n 1, 1) := by decide +kernel
theorem dX7_traveller_2 : decode cX7_traveller 2 = .ok (.iload_n 2, 1) := by decide +kernel
theorem dX7_traveller_3 : decode cX7_traveller 3 = .ok (.invokevirtual 205, 3) := by decide +kernel
theorem dX7_traveller_6 : decode cX7_traveller 6 = .ok (.ifCond .ne 5, 3) := by decide +kernel
theorem dX7_traveller_9 : decode cX7_traveller 9 = .ok (.iconst (-1), 1) := by decide +kernel
theorem dX7_traveller_10 : decode cX7_traveller 10 = .ok (.ireturn, 1) := by decide +kernel
theorem dX7_traveller_11 : decode cX7_traveller 11 = .ok (.iload_n 1, 1) := by decide +kernel
theorem dX7_traveller_12 : decode cX7_traveller 12 = .ok (.iload_n 2, 1) := by decide +kernel
theorem dX7_traveller_13 : decode cX7_traveller 13 = .ok (.if_icmp .eq 14, 3) := by decide +kernel
theorem dX7_traveller_16 : decode cX7_traveller 16 = .ok (.aload_n 0, 1) := by decide +kernel
theorem dX7_traveller_17 : decode cX7_traveller 17 = .ok (.iload_n 3, 1) := by decide +kernel
theorem dX7_traveller_18 : decode cX7_traveller 18 = .ok (.iconst 1, 1) := by decide +kernel
theorem dX7_traveller_19 : decode cX7_traveller 19 = .ok (.bipush 99, 2) := by decide +kernel
theorem dX7_traveller_21 : decode cX7_traveller 21 = .ok (.invokevirtual 197, 3) := by decide +kernel
theorem dX7_traveller_24 : decode cX7_traveller 24 = .ok (.ifCond .ne 6, 3) := by decide +kernel
theorem dX7_traveller_27 : decode cX7_traveller 27 = .ok (.bipush (-2), 2) := by decide +kernel
theorem dX7_traveller_29 : decode cX7_traveller 29 = .ok (.ireturn, 1) := by decide +kernel
theorem dX7_traveller_30 : decode cX7_traveller 30 = .ok (.aload_n 0, 1) := by decide +kernel
theorem dX7_traveller_31 : decode cX7_traveller 31 = .ok (.getfield 13, 3) := by decide +kernel
theorem dX7_traveller_34 : decode cX7_traveller 34 = .ok (.bipush 8, 2) := by decide +kernel
theorem dX7_traveller_36 : decode cX7_traveller 36 = .ok (.if_icmp .ne 6, 3) := by decide +kernel
theorem dX7_traveller_39 : decode cX7_traveller 39 = .ok (.bipush (-4), 2) := by decide +kernel
theorem dX7_traveller_41 : decode cX7_traveller 41 = .ok (.ireturn, 1) := by decide +kernel
theorem dX7_traveller_42 : decode cX7_traveller 42 = .ok (.aload_n 0, 1) := by decide +kernel
theorem dX7_traveller_43 : decode cX7_traveller 43 = .ok (.getfield 32, 3) := by decide +kernel
theorem dX7_traveller_46 : decode cX7_traveller 46 = .ok (.aload_n 0, 1) := by decide +kernel
theorem dX7_traveller_47 : decode cX7_traveller 47 = .ok (.getfield 13, 3) := by decide +kernel
theorem dX7_traveller_50 : decode cX7_traveller 50 = .ok (.iload_n 1, 1) := by decide +kernel
theorem dX7_traveller_51 : decode cX7_traveller 51 = .ok (.iastore, 1) := by decide +kernel
theorem dX7_traveller_52 : decode cX7_traveller 52 = .ok (.aload_n 0, 1) := by decide +kernel
theorem dX7_traveller_53 : decode cX7_traveller 53 = .ok (.getfield 35, 3) := by decide +kernel
theorem dX7_traveller_56 : decode cX7_traveller 56 = .ok (.aload_n 0, 1) := by decide +kernel
theorem dX7_traveller_57 : decode cX7_traveller 57 = .ok (.getfield 13, 3) := by decide +kernel
theorem dX7_traveller_60 : decode cX7_traveller 60 = .ok (.iload_n 2, 1) := by decide +kernel
theorem dX7_traveller_61 : decode cX7_traveller 61 = .ok (.iastore, 1) := by decide +kernel
theorem dX7_traveller_62 : decode cX7_traveller 62 = .ok (.aload_n 0, 1) := by decide +kernel
theorem dX7_traveller_63 : decode cX7_traveller 63 = .ok (.getfield 38, 3) := by decide +kernel
theorem dX7_traveller_66 : decode cX7_traveller 66 = .ok (.aload_n 0, 1) := by decide +kernel
theorem dX7_traveller_67 : decode cX7_traveller 67 = .ok (.getfield 13, 3) := by decide +kernel
theorem dX7_traveller_70 : decode cX7_traveller 70 = .ok (.iload_n 3, 1) := by decide +kernel
theorem dX7_traveller_71 : decode cX7_traveller 71 = .ok (.iastore, 1) := by decide +kernel
theorem dX7_traveller_72 : decode cX7_traveller 72 = .ok (.aload_n 0, 1) := by decide +kernel
theorem dX7_traveller_73 : decode cX7_traveller 73 = .ok (.dup, 1) := by decide +kernel
theorem dX7_traveller_74 : decode cX7_traveller 74 = .ok (.getfield 13, 3) := by decide +kernel
theorem dX7_traveller_77 : decode cX7_traveller 77 = .ok (.iconst 1, 1) := by decide +kernel
theorem dX7_traveller_78 : decode cX7_traveller 78 = .ok (.iadd, 1) := by decide +kernel
theorem dX7_traveller_79 : decode cX7_traveller 79 = .ok (.putfield 13, 3) := by decide +kernel
theorem dX7_traveller_82 : decode cX7_traveller 82 = .ok (.aload_n 0, 1) := by decide +kernel
theorem dX7_traveller_83 : decode cX7_traveller 83 = .ok (.getfield 13, 3) := by decide +kernel
theorem dX7_traveller_86 : decode cX7_traveller 86 = .ok (.iconst 1, 1) := by decide +kernel
theorem dX7_traveller_87 : decode cX7_traveller 87 = .ok (.isub, 1) := by decide +kernel
theorem dX7_traveller_88 : decode cX7_traveller 88 = .ok (.ireturn, 1) := by decide +kernel
theorem dX7_feed_0 : decode cX7_feed 0 = .ok (.aload_n 0, 1) := by decide +kernel
theorem dX7_feed_1 : decode cX7_feed 1 = .ok (.iload_n 1, 1) := by decide +kernel
theorem dX7_feed_2 : decode cX7_feed 2 = .ok (.iconst 0, 1) := by decide +kernel
theorem dX7_feed_3 : decode cX7_feed 3 = .ok (.bipush 127, 2) := by decide +kernel
theorem dX7_feed_5 : decode cX7_feed 5 = .ok (.invokevirtual 197, 3) := by decide +kernel
theorem dX7_feed_8 : decode cX7_feed 8 = .ok (.ifCond .ne 6, 3) := by decide +kernel
theorem dX7_feed_11 : decode cX7_feed 11 = .ok (.bipush (-2), 2) := by decide +kernel
theorem dX7_feed_13 : decode cX7_feed 13 = .ok (.ireturn, 1) := by decide +kernel
theorem dX7_feed_14 : decode cX7_feed 14 = .ok (.aload_n 0, 1) := by decide +kernel
theorem dX7_feed_15 : decode cX7_feed 15 = .ok (.getfield 47, 3) := by decide +kernel
theorem dX7_feed_18 : decode cX7_feed 18 = .ok (.bipush 100, 2) := by decide +kernel
theorem dX7_feed_20 : decode cX7_feed 20 = .ok (.if_icmp .ne 6, 3) := by decide +kernel
theorem dX7_feed_23 : decode cX7_feed 23 = .ok (.bipush (-4), 2) := by decide +kernel
theorem dX7_feed_25 : decode cX7_feed 25 = .ok (.ireturn, 1) := by decide +kernel
theorem dX7_feed_26 : decode cX7_feed 26 = .ok (.aload_n 0, 1) := by decide +kernel
theorem dX7_feed_27 : decode cX7_feed 27 = .ok (.getfield 56, 3) := by decide +kernel
theorem dX7_feed_30 : decode cX7_feed 30 = .ok (.aload_n 0, 1) := by decide +kernel
theorem dX7_feed_31 : decode cX7_feed 31 = .ok (.getfield 47, 3) := by decide +kernel
theorem dX7_feed_34 : decode cX7_feed 34 = .ok (.iload_n 1, 1) := by decide +kernel
theorem dX7_feed_35 : decode cX7_feed 35 = .ok (.iastore, 1) := by decide +kernel
theorem dX7_feed_36 : decode cX7_feed 36 = .ok (.aload_n 0, 1) := by decide +kernel
theorem dX7_feed_37 : decode cX7_feed 37 = .ok (.dup, 1) := by decide +kernel
theorem dX7_feed_38 : decode cX7_feed 38 = .ok (.getfield 47, 3) := by decide +kernel
theorem dX7_feed_41 : decode cX7_feed 41 = .ok (.iconst 1, 1) := by decide +kernel
theorem dX7_feed_42 : decode cX7_feed 42 = .ok (.iadd, 1) := by decide +kernel
theorem dX7_feed_43 : decode cX7_feed 43 = .ok (.putfield 47, 3) := by decide +kernel
theorem dX7_feed_46 : decode cX7_feed 46 = .ok (.aload_n 0, 1) := by decide +kernel
theorem dX7_feed_47 : decode cX7_feed 47 = .ok (.getfield 47, 3) := by decide +kernel
theorem dX7_feed_50 : decode cX7_feed 50 = .ok (.ireturn, 1) := by decide +kernel
theorem dX7_peek_0 : decode cX7_peek 0 = .ok (.aload_n 0, 1) := by decide +kernel
theorem dX7_peek_1 : decode cX7_peek 1 = .ok (.getfield 50, 3) := by decide +kernel
theorem dX7_peek_4 : decode cX7_peek 4 = .ok (.aload_n 0, 1) := by decide +kernel
theorem dX7_peek_5 : decode cX7_peek 5 = .ok (.getfield 47, 3) := by decide +kernel
theorem dX7_peek_8 : decode cX7_peek 8 = .ok (.if_icmp .ge 15, 3) := by decide +kernel
theorem dX7_peek_11 : decode cX7_peek 11 = .ok (.aload_n 0, 1) := by decide +kernel
theorem dX7_peek_12 : decode cX7_peek 12 = .ok (.getfield 56, 3) := by decide +kernel
theorem dX7_peek_15 : decode cX7_peek 15 = .ok (.aload_n 0, 1) := by decide +kernel
theorem dX7_peek_16 : decode cX7_peek 16 = .ok (.getfield 50, 3) := by decide +kernel
theorem dX7_peek_19 : decode cX7_peek 19 = .ok (.iaload, 1) := by decide +kernel
theorem dX7_peek_20 : decode cX7_peek 20 = .ok (.goto 4, 3) := by decide +kernel
theorem dX7_peek_23 : decode cX7_peek 23 = .ok (.iconst (-1), 1) := by decide +kernel
theorem dX7_peek_24 : decode cX7_peek 24 = .ok (.ireturn, 1) := by decide +kernel
theorem dX7_takes_0 : decode cX7_takes 0 = .ok (.aload_n 0, 1) := by decide +kernel
theorem dX7_takes_1 : decode cX7_takes 1 = .ok (.invokevirtual 224, 3) := by decide +kernel
theorem dX7_takes_4 : decode cX7_takes 4 = .ok (.iload_n 1, 1) := by decide +kernel
theorem dX7_takes_5 : decode cX7_takes 5 = .ok (.if_icmp .eq 5, 3) := by decide +kernel
theorem dX7_takes_8 : decode cX7_takes 8 = .ok (.iconst 0, 1) := by decide +kernel
theorem dX7_takes_9 : decode cX7_takes 9 = .ok (.ireturn, 1) := by decide +kernel
theorem dX7_takes_10 : decode cX7_takes 10 = .ok (.aload_n 0, 1) := by decide +kernel
theorem dX7_takes_11 : decode cX7_takes 11 = .ok (.dup, 1) := by decide +kernel
theorem dX7_takes_12 : decode cX7_takes 12 = .ok (.getfield 50, 3) := by decide +kernel
theorem dX7_takes_15 : decode cX7_takes 15 = .ok (.iconst 1, 1) := by decide +kernel
theorem dX7_takes_16 : decode cX7_takes 16 = .ok (.iadd, 1) := by decide +kernel
theorem dX7_takes_17 : decode cX7_takes 17 = .ok (.putfield 50, 3) := by decide +kernel
theorem dX7_takes_20 : decode cX7_takes 20 = .ok (.iconst 1, 1) := by decide +kernel
theorem dX7_takes_21 : decode cX7_takes 21 = .ok (.ireturn, 1) := by decide +kernel
theorem dX7_takesWord_0 : decode cX7_takesWord 0 = .ok (.iconst 0, 1) := by decide +kernel
theorem dX7_takesWord_1 : decode cX7_takesWord 1 = .ok (.istore_n 3, 1) := by decide +kernel
theorem dX7_takesWord_2 : decode cX7_takesWord 2 = .ok (.iload_n 3, 1) := by decide +kernel
theorem dX7_takesWord_3 : decode cX7_takesWord 3 = .ok (.iload_n 2, 1) := by decide +kernel
theorem dX7_takesWord_4 : decode cX7_takesWord 4 = .ok (.if_icmp .ge 26, 3) := by decide +kernel
theorem dX7_takesWord_7 : decode cX7_takesWord 7 = .ok (.aload_n 0, 1) := by decide +kernel
theorem dX7_takesWord_8 : decode cX7_takesWord 8 = .ok (.aload_n 0, 1) := by decide +kernel
theorem dX7_takesWord_9 : decode cX7_takesWord 9 = .ok (.getfield 89, 3) := by decide +kernel
theorem dX7_takesWord_12 : decode cX7_takesWord 12 = .ok (.iload_n 1, 1) := by decide +kernel
theorem dX7_takesWord_13 : decode cX7_takesWord 13 = .ok (.iload_n 3, 1) := by decide +kernel
theorem dX7_takesWord_14 : decode cX7_takesWord 14 = .ok (.iadd, 1) := by decide +kernel
theorem dX7_takesWord_15 : decode cX7_takesWord 15 = .ok (.iaload, 1) := by decide +kernel
theorem dX7_takesWord_16 : decode cX7_takesWord 16 = .ok (.invokevirtual 227, 3) := by decide +kernel
theorem dX7_takesWord_19 : decode cX7_takesWord 19 = .ok (.ifCond .ne 5, 3) := by decide +kernel
theorem dX7_takesWord_22 : decode cX7_takesWord 22 = .ok (.iconst 0, 1) := by decide +kernel
theorem dX7_takesWord_23 : decode cX7_takesWord 23 = .ok (.ireturn, 1) := by decide +kernel
theorem dX7_takesWord_24 : decode cX7_takesWord 24 = .ok (.iinc 3 1, 3) := by decide +kernel
theorem dX7_takesWord_27 : decode cX7_takesWord 27 = .ok (.goto (-25), 3) := by decide +kernel
theorem dX7_takesWord_30 : decode cX7_takesWord 30 = .ok (.aload_n 0, 1) := by decide +kernel
theorem dX7_takesWord_31 : decode cX7_takesWord 31 = .ok (.bipush 32, 2) := by decide +kernel
theorem dX7_takesWord_33 : decode cX7_takesWord 33 = .ok (.invokevirtual 227, 3) := by decide +kernel
theorem dX7_takesWord_36 : decode cX7_takesWord 36 = .ok (.ireturn, 1) := by decide +kernel
theorem dX7_isDigit_0 : decode cX7_isDigit 0 = .ok (.aload_n 0, 1) := by decide +kernel
theorem dX7_isDigit_1 : decode cX7_isDigit 1 = .ok (.aload_n 0, 1) := by decide +kernel
theorem dX7_isDigit_2 : decode cX7_isDigit 2 = .ok (.invokevirtual 224, 3) := by decide +kernel
theorem dX7_isDigit_5 : decode cX7_isDigit 5 = .ok (.bipush 48, 2) := by decide +kernel
theorem dX7_isDigit_7 : decode cX7_isDigit 7 = .ok (.bipush 57, 2) := by decide +kernel
theorem dX7_isDigit_9 : decode cX7_isDigit 9 = .ok (.invokevirtual 197, 3) := by decide +kernel
theorem dX7_isDigit_12 : decode cX7_isDigit 12 = .ok (.ireturn, 1) := by decide +kernel
theorem dX7_takesNumber_0 : decode cX7_takesNumber 0 = .ok (.aload_n 0, 1) := by decide +kernel
theorem dX7_takesNumber_1 : decode cX7_takesNumber 1 = .ok (.invokevirtual 230, 3) := by decide +kernel
theorem dX7_takesNumber_4 : decode cX7_takesNumber 4 = .ok (.ifCond .ne 5, 3) := by decide +kernel
theorem dX7_takesNumber_7 : decode cX7_takesNumber 7 = .ok (.iconst 0, 1) := by decide +kernel
theorem dX7_takesNumber_8 : decode cX7_takesNumber 8 = .ok (.ireturn, 1) := by decide +kernel
theorem dX7_takesNumber_9 : decode cX7_takesNumber 9 = .ok (.aload_n 0, 1) := by decide +kernel
theorem dX7_takesNumber_10 : decode cX7_takesNumber 10 = .ok (.iconst 0, 1) := by decide +kernel
theorem dX7_takesNumber_11 : decode cX7_takesNumber 11 = .ok (.putfield 53, 3) := by decide +kernel
theorem dX7_takesNumber_14 : decode cX7_takesNumber 14 = .ok (.iconst 0, 1) := by decide +kernel
theorem dX7_takesNumber_15 : decode cX7_takesNumber 15 = .ok (.istore_n 1, 1) := by decide +kernel
theorem dX7_takesNumber_16 : decode cX7_takesNumber 16 = .ok (.iload_n 1, 1) := by decide +kernel
theorem dX7_takesNumber_17 : decode cX7_takesNumber 17 = .ok (.iconst 2, 1) := by decide +kernel
theorem dX7_takesNumber_18 : decode cX7_takesNumber 18 = .ok (.if_icmp .ge 45, 3) := by decide +kernel
theorem dX7_takesNumber_21 : decode cX7_takesNumber 21 = .ok (.aload_n 0, 1) := by decide +kernel
theorem dX7_takesNumber_22 : decode cX7_takesNumber 22 = .ok (.invokevirtual 230, 3) := by decide +kernel
theorem dX7_takesNumber_25 : decode cX7_takesNumber 25 = .ok (.ifCond .eq 38, 3) := by decide +kernel
theorem dX7_takesNumber_28 : decode cX7_takesNumber 28 = .ok (.aload_n 0, 1) := by decide +kernel
theorem dX7_takesNumber_29 : decode cX7_takesNumber 29 = .ok (.bipush 10, 2) := by decide +kernel
theorem dX7_takesNumber_31 : decode cX7_takesNumber 31 = .ok (.aload_n 0, 1) := by decide +kernel
theorem dX7_takesNumber_32 : decode cX7_takesNumber 32 = .ok (.getfield 53, 3) := by decide +kernel
theorem dX7_takesNumber_35 : decode cX7_takesNumber 35 = .ok (.imul, 1) := by decide +kernel
theorem dX7_takesNumber_36 : decode cX7_takesNumber 36 = .ok (.aload_n 0, 1) := by decide +kernel
theorem dX7_takesNumber_37 : decode cX7_takesNumber 37 = .ok (.invokevirtual 224, 3) := by decide +kernel
theorem dX7_takesNumber_40 : decode cX7_takesNumber 40 = .ok (.iadd, 1) := by decide +kernel
theorem dX7_takesNumber_41 : decode cX7_takesNumber 41 = .ok (.bipush 48, 2) := by decide +kernel
theorem dX7_takesNumber_43 : decode cX7_takesNumber 43 = .ok (.isub, 1) := by decide +kernel
theorem dX7_takesNumber_44 : decode cX7_takesNumber 44 = .ok (.putfield 53, 3) := by decide +kernel
theorem dX7_takesNumber_47 : decode cX7_takesNumber 47 = .ok (.aload_n 0, 1) := by decide +kernel
theorem dX7_takesNumber_48 : decode cX7_takesNumber 48 = .ok (.dup, 1) := by decide +kernel
theorem dX7_takesNumber_49 : decode cX7_takesNumber 49 = .ok (.getfield 50, 3) := by decide +kernel
theorem dX7_takesNumber_52 : decode cX7_takesNumber 52 = .ok (.iconst 1, 1) := by decide +kernel
theorem dX7_takesNumber_53 : decode cX7_takesNumber 53 = .ok (.iadd, 1) := by decide +kernel
theorem dX7_takesNumber_54 : decode cX7_takesNumber 54 = .ok (.putfield 50, 3) := by decide +kernel
theorem dX7_takesNumber_57 : decode cX7_takesNumber 57 = .ok (.iinc 1 1, 3) := by decide +kernel
theorem dX7_takesNumber_60 : decode cX7_takesNumber 60 = .ok (.goto (-44), 3) := by decide +kernel
theorem dX7_takesNumber_63 : decode cX7_takesNumber 63 = .ok (.iconst 1, 1) := by decide +kernel
theorem dX7_takesNumber_64 : decode cX7_takesNumber 64 = .ok (.ireturn, 1) := by decide +kernel
theorem dX7_emits_0 : decode cX7_emits 0 = .ok (.aload_n 0, 1) := by decide +kernel
theorem dX7_emits_1 : decode cX7_emits 1 = .ok (.getfield 74, 3) := by decide +kernel
theorem dX7_emits_4 : decode cX7_emits 4 = .ok (.aload_n 0, 1) := by decide +kernel
theorem dX7_emits_5 : decode cX7_emits 5 = .ok (.getfield 80, 3) := by decide +kernel
theorem dX7_emits_8 : decode cX7_emits 8 = .ok (.iload_n 1, 1) := by decide +kernel
theorem dX7_emits_9 : decode cX7_emits 9 = .ok (.iastore, 1) := by decide +kernel
theorem dX7_emits_10 : decode cX7_emits 10 = .ok (.aload_n 0, 1) := by decide +kernel
theorem dX7_emits_11 : decode cX7_emits 11 = .ok (.dup, 1) := by decide +kernel
theorem dX7_emits_12 : decode cX7_emits 12 = .ok (.getfield 80, 3) := by decide +kernel
theorem dX7_emits_15 : decode cX7_emits 15 = .ok (.iconst 1, 1) := by decide +kernel
theorem dX7_emits_16 : decode cX7_emits 16 = .ok (.iadd, 1) := by decide +kernel
theorem dX7_emits_17 : decode cX7_emits 17 = .ok (.putfield 80, 3) := by decide +kernel
theorem dX7_emits_20 : decode cX7_emits 20 = .ok (.return_, 1) := by decide +kernel
theorem dX7_whole_0 : decode cX7_whole 0 = .ok (.aload_n 0, 1) := by decide +kernel
theorem dX7_whole_1 : decode cX7_whole 1 = .ok (.getfield 83, 3) := by decide +kernel
theorem dX7_whole_4 : decode cX7_whole 4 = .ok (.ifCond .le 48, 3) := by decide +kernel
theorem dX7_whole_7 : decode cX7_whole 7 = .ok (.aload_n 0, 1) := by decide +kernel
theorem dX7_whole_8 : decode cX7_whole 8 = .ok (.getfield 77, 3) := by decide +kernel
theorem dX7_whole_11 : decode cX7_whole 11 = .ok (.aload_n 0, 1) := by decide +kernel
theorem dX7_whole_12 : decode cX7_whole 12 = .ok (.getfield 83, 3) := by decide +kernel
theorem dX7_whole_15 : decode cX7_whole 15 = .ok (.iconst 1, 1) := by decide +kernel
theorem dX7_whole_16 : decode cX7_whole 16 = .ok (.isub, 1) := by decide +kernel
theorem dX7_whole_17 : decode cX7_whole 17 = .ok (.iaload, 1) := by decide +kernel
theorem dX7_whole_18 : decode cX7_whole 18 = .ok (.bipush 33, 2) := by decide +kernel
theorem dX7_whole_20 : decode cX7_whole 20 = .ok (.if_icmp .ne 32, 3) := by decide +kernel
theorem dX7_whole_23 : decode cX7_whole 23 = .ok (.aload_n 0, 1) := by decide +kernel
theorem dX7_whole_24 : decode cX7_whole 24 = .ok (.bipush (-33), 2) := by decide +kernel
theorem dX7_whole_26 : decode cX7_whole 26 = .ok (.invokevirtual 234, 3) := by decide +kernel
theorem dX7_whole_29 : decode cX7_whole 29 = .ok (.aload_n 0, 1) := by decide +kernel
theorem dX7_whole_30 : decode cX7_whole 30 = .ok (.dup, 1) := by decide +kernel
theorem dX7_whole_31 : decode cX7_whole 31 = .ok (.getfield 83, 3) := by decide +kernel
theorem dX7_whole_34 : decode cX7_whole 34 = .ok (.iconst 1, 1) := by decide +kernel
theorem dX7_whole_35 : decode cX7_whole 35 = .ok (.isub, 1) := by decide +kernel
theorem dX7_whole_36 : decode cX7_whole 36 = .ok (.putfield 83, 3) := by decide +kernel
theorem dX7_whole_39 : decode cX7_whole 39 = .ok (.aload_n 0, 1) := by decide +kernel
theorem dX7_whole_40 : decode cX7_whole 40 = .ok (.dup, 1) := by decide +kernel
theorem dX7_whole_41 : decode cX7_whole 41 = .ok (.getfield 86, 3) := by decide +kernel
theorem dX7_whole_44 : decode cX7_whole 44 = .ok (.iconst 1, 1) := by decide +kernel
theorem dX7_whole_45 : decode cX7_whole 45 = .ok (.isub, 1) := by decide +kernel
theorem dX7_whole_46 : decode cX7_whole 46 = .ok (.putfield 86, 3) := by decide +kernel
theorem dX7_whole_49 : decode cX7_whole 49 = .ok (.goto (-49), 3) := by decide +kernel
theorem dX7_whole_52 : decode cX7_whole 52 = .ok (.return_, 1) := by decide +kernel
theorem dX7_settle_0 : decode cX7_settle 0 = .ok (.aload_n 0, 1) := by decide +kernel
theorem dX7_settle_1 : decode cX7_settle 1 = .ok (.getfield 83, 3) := by decide +kernel
theorem dX7_settle_4 : decode cX7_settle 4 = .ok (.ifCond .le 68, 3) := by decide +kernel
theorem dX7_settle_7 : decode cX7_settle 7 = .ok (.aload_n 0, 1) := by decide +kernel
theorem dX7_settle_8 : decode cX7_settle 8 = .ok (.getfield 77, 3) := by decide +kernel
theorem dX7_settle_11 : decode cX7_settle 11 = .ok (.aload_n 0, 1) := by decide +kernel
theorem dX7_settle_12 : decode cX7_settle 12 = .ok (.getfield 83, 3) := by decide +kernel
theorem dX7_settle_15 : decode cX7_settle 15 = .ok (.iconst 1, 1) := by decide +kernel
theorem dX7_settle_16 : decode cX7_settle 16 = .ok (.isub, 1) := by decide +kernel
theorem dX7_settle_17 : decode cX7_settle 17 = .ok (.iaload, 1) := by decide +kernel
theorem dX7_settle_18 : decode cX7_settle 18 = .ok (.bipush 38, 2) := by decide +kernel
theorem dX7_settle_20 : decode cX7_settle 20 = .ok (.if_icmp .eq 25, 3) := by decide +kernel
theorem dX7_settle_23 : decode cX7_settle 23 = .ok (.aload_n 0, 1) := by decide +kernel
theorem dX7_settle_24 : decode cX7_settle 24 = .ok (.getfield 77, 3) := by decide +kernel
theorem dX7_settle_27 : decode cX7_settle 27 = .ok (.aload_n 0, 1) := by decide +kernel
theorem dX7_settle_28 : decode cX7_settle 28 = .ok (.getfield 83, 3) := by decide +kernel
theorem dX7_settle_31 : decode cX7_settle 31 = .ok (.iconst 1, 1) := by decide +kernel
theorem dX7_settle_32 : decode cX7_settle 32 = .ok (.isub, 1) := by decide +kernel
theorem dX7_settle_33 : decode cX7_settle 33 = .ok (.iaload, 1) := by decide +kernel
theorem dX7_settle_34 : decode cX7_settle 34 = .ok (.bipush 124, 2) := by decide +kernel
theorem dX7_settle_36 : decode cX7_settle 36 = .ok (.if_icmp .ne 36, 3) := by decide +kernel
theorem dX7_settle_39 : decode cX7_settle 39 = .ok (.iload_n 1, 1) := by decide +kernel
theorem dX7_settle_40 : decode cX7_settle 40 = .ok (.bipush 38, 2) := by decide +kernel
theorem dX7_settle_42 : decode cX7_settle 42 = .ok (.if_icmp .eq 30, 3) := by decide +kernel
theorem dX7_settle_45 : decode cX7_settle 45 = .ok (.aload_n 0, 1) := by decide +kernel
theorem dX7_settle_46 : decode cX7_settle 46 = .ok (.dup, 1) := by decide +kernel
theorem dX7_settle_47 : decode cX7_settle 47 = .ok (.getfield 83, 3) := by decide +kernel
theorem dX7_settle_50 : decode cX7_settle 50 = .ok (.iconst 1, 1) := by decide +kernel
theorem dX7_settle_51 : decode cX7_settle 51 = .ok (.isub, 1) := by decide +kernel
theorem dX7_settle_52 : decode cX7_settle 52 = .ok (.putfield 83, 3) := by decide +kernel
theorem dX7_settle_55 : decode cX7_settle 55 = .ok (.aload_n 0, 1) := by decide +kernel
theorem dX7_settle_56 : decode cX7_settle 56 = .ok (.aload_n 0, 1) := by decide +kernel
theorem dX7_settle_57 : decode cX7_settle 57 = .ok (.getfield 77, 3) := by decide +kernel
theorem dX7_settle_60 : decode cX7_settle 60 = .ok (.aload_n 0, 1) := by decide +kernel
theorem dX7_settle_61 : decode cX7_settle 61 = .ok (.getfield 83, 3) := by decide +kernel
theorem dX7_settle_64 : decode cX7_settle 64 = .ok (.iaload, 1) := by decide +kernel
theorem dX7_settle_65 : decode cX7_settle 65 = .ok (.ineg, 1) := by decide +kernel
theorem dX7_settle_66 : decode cX7_settle 66 = .ok (.invokevirtual 234, 3) := by decide +kernel
theorem dX7_settle_69 : decode cX7_settle 69 = .ok (.goto (-69), 3) := by decide +kernel
theorem dX7_settle_72 : decode cX7_settle 72 = .ok (.return_, 1) := by decide +kernel
theorem dX7_letterOf_0 : decode cX7_letterOf 0 = .ok (.iload_n 1, 1) := by decide +kernel
theorem dX7_letterOf_1 : decode cX7_letterOf 1 = .ok (.tableswitch 107 99 118 #[101, 107, 107, 107, 107, 107, 107, 107, 97, 107, 107, 103, 107, 95, 107, 105, 107, 107, 107, 99], 95) := by decide +kernel
theorem dX7_letterOf_96 : decode cX7_letterOf 96 = .ok (.iconst 0, 1) := by decide +kernel
theorem dX7_letterOf_97 : decode cX7_letterOf 97 = .ok (.ireturn, 1) := by decide +kernel
theorem dX7_letterOf_98 : decode cX7_letterOf 98 = .ok (.iconst 1, 1) := by decide +kernel
theorem dX7_letterOf_99 : decode cX7_letterOf 99 = .ok (.ireturn, 1) := by decide +kernel
theorem dX7_letterOf_100 : decode cX7_letterOf 100 = .ok (.iconst 2, 1) := by decide +kernel
theorem dX7_letterOf_101 : decode cX7_letterOf 101 = .ok (.ireturn, 1) := by decide +kernel
theorem dX7_letterOf_102 : decode cX7_letterOf 102 = .ok (.iconst 3, 1) := by decide +kernel
theorem dX7_letterOf_103 : decode cX7_letterOf 103 = .ok (.ireturn, 1) := by decide +kernel
theorem dX7_letterOf_104 : decode cX7_letterOf 104 = .ok (.iconst 4, 1) := by decide +kernel
theorem dX7_letterOf_105 : decode cX7_letterOf 105 = .ok (.ireturn, 1) := by decide +kernel
theorem dX7_letterOf_106 : decode cX7_letterOf 106 = .ok (.iconst 5, 1) := by decide +kernel
theorem dX7_letterOf_107 : decode cX7_letterOf 107 = .ok (.ireturn, 1) := by decide +kernel
theorem dX7_letterOf_108 : decode cX7_letterOf 108 = .ok (.iconst (-1), 1) := by decide +kernel
theorem dX7_letterOf_109 : decode cX7_letterOf 109 = .ok (.ireturn, 1) := by decide +kernel
theorem dX7_takesTest_0 : decode cX7_takesTest 0 = .ok (.aload_n 0, 1) := by decide +kernel
theorem dX7_takesTest_1 : decode cX7_takesTest 1 = .ok (.aload_n 0, 1) := by decide +kernel
theorem dX7_takesTest_2 : decode cX7_takesTest 2 = .ok (.invokevirtual 224, 3) := by decide +kernel
theorem dX7_takesTest_5 : decode cX7_takesTest 5 = .ok (.invokevirtual 238, 3) := by decide +kernel
theorem dX7_takesTest_8 : decode cX7_takesTest 8 = .ok (.istore_n 1, 1) := by decide +kernel
theorem dX7_takesTest_9 : decode cX7_takesTest 9 = .ok (.iload_n 1, 1) := by decide +kernel
theorem dX7_takesTest_10 : decode cX7_takesTest 10 = .ok (.ifCond .ge 5, 3) := by decide +kernel
theorem dX7_takesTest_13 : decode cX7_takesTest 13 = .ok (.iconst 0, 1) := by decide +kernel
theorem dX7_takesTest_14 : decode cX7_takesTest 14 = .ok (.ireturn, 1) := by decide +kernel
theorem dX7_takesTest_15 : decode cX7_takesTest 15 = .ok (.aload_n 0, 1) := by decide +kernel
theorem dX7_takesTest_16 : decode cX7_takesTest 16 = .ok (.dup, 1) := by decide +kernel
theorem dX7_takesTest_17 : decode cX7_takesTest 17 = .ok (.getfield 50, 3) := by decide +kernel
theorem dX7_takesTest_20 : decode cX7_takesTest 20 = .ok (.iconst 1, 1) := by decide +kernel
theorem dX7_takesTest_21 : decode cX7_takesTest 21 = .ok (.iadd, 1) := by decide +kernel
theorem dX7_takesTest_22 : decode cX7_takesTest 22 = .ok (.putfield 50, 3) := by decide +kernel
theorem dX7_takesTest_25 : decode cX7_takesTest 25 = .ok (.aload_n 0, 1) := by decide +kernel
theorem dX7_takesTest_26 : decode cX7_takesTest 26 = .ok (.invokevirtual 224, 3) := by decide +kernel
theorem dX7_takesTest_29 : decode cX7_takesTest 29 = .ok (.istore_n 2, 1) := by decide +kernel
theorem dX7_takesTest_30 : decode cX7_takesTest 30 = .ok (.aload_n 0, 1) := by decide +kernel
theorem dX7_takesTest_31 : decode cX7_takesTest 31 = .ok (.iload_n 2, 1) := by decide +kernel
theorem dX7_takesTest_32 : decode cX7_takesTest 32 = .ok (.bipush 60, 2) := by decide +kernel
theorem dX7_takesTest_34 : decode cX7_takesTest 34 = .ok (.bipush 62, 2) := by decide +kernel
theorem dX7_takesTest_36 : decode cX7_takesTest 36 = .ok (.invokevirtual 197, 3) := by decide +kernel
theorem dX7_takesTest_39 : decode cX7_takesTest 39 = .ok (.ifCond .ne 5, 3) := by decide +kernel
theorem dX7_takesTest_42 : decode cX7_takesTest 42 = .ok (.iconst 0, 1) := by decide +kernel
theorem dX7_takesTest_43 : decode cX7_takesTest 43 = .ok (.ireturn, 1) := by decide +kernel
theorem dX7_takesTest_44 : decode cX7_takesTest 44 = .ok (.aload_n 0, 1) := by decide +kernel
theorem dX7_takesTest_45 : decode cX7_takesTest 45 = .ok (.dup, 1) := by decide +kernel
theorem dX7_takesTest_46 : decode cX7_takesTest 46 = .ok (.getfield 50, 3) := by decide +kernel
theorem dX7_takesTest_49 : decode cX7_takesTest 49 = .ok (.iconst 1, 1) := by decide +kernel
theorem dX7_takesTest_50 : decode cX7_takesTest 50 = .ok (.iadd, 1) := by decide +kernel
theorem dX7_takesTest_51 : decode cX7_takesTest 51 = .ok (.putfield 50, 3) := by decide +kernel
theorem dX7_takesTest_54 : decode cX7_takesTest 54 = .ok (.aload_n 0, 1) := by decide +kernel
theorem dX7_takesTest_55 : decode cX7_takesTest 55 = .ok (.invokevirtual 241, 3) := by decide +kernel
theorem dX7_takesTest_58 : decode cX7_takesTest 58 = .ok (.ifCond .ne 5, 3) := by decide +kernel
theorem dX7_takesTest_61 : decode cX7_takesTest 61 = .ok (.iconst 0, 1) := by decide +kernel
theorem dX7_takesTest_62 : decode cX7_takesTest 62 = .ok (.ireturn, 1) := by decide +kernel
theorem dX7_takesTest_63 : decode cX7_takesTest 63 = .ok (.aload_n 0, 1) := by decide +kernel
theorem dX7_takesTest_64 : decode cX7_takesTest 64 = .ok (.sipush 1000, 3) := by decide +kernel
theorem dX7_takesTest_67 : decode cX7_takesTest 67 = .ok (.iload_n 1, 1) := by decide +kernel
theorem dX7_takesTest_68 : decode cX7_takesTest 68 = .ok (.imul, 1) := by decide +kernel
theorem dX7_takesTest_69 : decode cX7_takesTest 69 = .ok (.bipush 100, 2) := by decide +kernel
theorem dX7_takesTest_71 : decode cX7_takesTest 71 = .ok (.iload_n 2, 1) := by decide +kernel
theorem dX7_takesTest_72 : decode cX7_takesTest 72 = .ok (.bipush 60, 2) := by decide +kernel
theorem dX7_takesTest_74 : decode cX7_takesTest 74 = .ok (.isub, 1) := by decide +kernel
theorem dX7_takesTest_75 : decode cX7_takesTest 75 = .ok (.imul, 1) := by decide +kernel
theorem dX7_takesTest_76 : decode cX7_takesTest 76 = .ok (.iadd, 1) := by decide +kernel
theorem dX7_takesTest_77 : decode cX7_takesTest 77 = .ok (.aload_n 0, 1) := by decide +kernel
theorem dX7_takesTest_78 : decode cX7_takesTest 78 = .ok (.getfield 53, 3) := by decide +kernel
theorem dX7_takesTest_81 : decode cX7_takesTest 81 = .ok (.iadd, 1) := by decide +kernel
theorem dX7_takesTest_82 : decode cX7_takesTest 82 = .ok (.invokevirtual 234, 3) := by decide +kernel
theorem dX7_takesTest_85 : decode cX7_takesTest 85 = .ok (.aload_n 0, 1) := by decide +kernel
theorem dX7_takesTest_86 : decode cX7_takesTest 86 = .ok (.invokevirtual 244, 3) := by decide +kernel
theorem dX7_takesTest_89 : decode cX7_takesTest 89 = .ok (.iconst 1, 1) := by decide +kernel
theorem dX7_takesTest_90 : decode cX7_takesTest 90 = .ok (.ireturn, 1) := by decide +kernel
theorem dX7_takesE_0 : decode cX7_takesE 0 = .ok (.aload_n 0, 1) := by decide +kernel
theorem dX7_takesE_1 : decode cX7_takesE 1 = .ok (.iconst 0, 1) := by decide +kernel
theorem dX7_takesE_2 : decode cX7_takesE 2 = .ok (.putfield 83, 3) := by decide +kernel
theorem dX7_takesE_5 : decode cX7_takesE 5 = .ok (.aload_n 0, 1) := by decide +kernel
theorem dX7_takesE_6 : decode cX7_takesE 6 = .ok (.iconst 0, 1) := by decide +kernel
theorem dX7_takesE_7 : decode cX7_takesE 7 = .ok (.putfield 86, 3) := by decide +kernel
theorem dX7_takesE_10 : decode cX7_takesE 10 = .ok (.aload_n 0, 1) := by decide +kernel
theorem dX7_takesE_11 : decode cX7_takesE 11 = .ok (.getfield 68, 3) := by decide +kernel
theorem dX7_takesE_14 : decode cX7_takesE 14 = .ok (.iload_n 1, 1) := by decide +kernel
theorem dX7_takesE_15 : decode cX7_takesE 15 = .ok (.aload_n 0, 1) := by decide +kernel
theorem dX7_takesE_16 : decode cX7_takesE 16 = .ok (.getfield 80, 3) := by decide +kernel
theorem dX7_takesE_19 : decode cX7_takesE 19 = .ok (.iastore, 1) := by decide +kernel
theorem dX7_takesE_20 : decode cX7_takesE 20 = .ok (.iconst 1, 1) := by decide +kernel
theorem dX7_takesE_21 : decode cX7_takesE 21 = .ok (.istore_n 2, 1) := by decide +kernel
theorem dX7_takesE_22 : decode cX7_takesE 22 = .ok (.aload_n 0, 1) := by decide +kernel
theorem dX7_takesE_23 : decode cX7_takesE 23 = .ok (.invokevirtual 224, 3) := by decide +kernel
theorem dX7_takesE_26 : decode cX7_takesE 26 = .ok (.istore_n 3, 1) := by decide +kernel
theorem dX7_takesE_27 : decode cX7_takesE 27 = .ok (.iload_n 2, 1) := by decide +kernel
theorem dX7_takesE_28 : decode cX7_takesE 28 = .ok (.ifCond .eq 82, 3) := by decide +kernel
theorem dX7_takesE_31 : decode cX7_takesE 31 = .ok (.iload_n 3, 1) := by decide +kernel
theorem dX7_takesE_32 : decode cX7_takesE 32 = .ok (.bipush 33, 2) := by decide +kernel
theorem dX7_takesE_34 : decode cX7_takesE 34 = .ok (.if_icmp .eq 9, 3) := by decide +kernel
theorem dX7_takesE_37 : decode cX7_takesE 37 = .ok (.iload_n 3, 1) := by decide +kernel
theorem dX7_takesE_38 : decode cX7_takesE 38 = .ok (.bipush 40, 2) := by decide +kernel
theorem dX7_takesE_40 : decode cX7_takesE 40 = .ok (.if_icmp .ne 56, 3) := by decide +kernel
theorem dX7_takesE_43 : decode cX7_takesE 43 = .ok (.aload_n 0, 1) := by decide +kernel
theorem dX7_takesE_44 : decode cX7_takesE 44 = .ok (.getfield 86, 3) := by decide +kernel
theorem dX7_takesE_47 : decode cX7_takesE 47 = .ok (.iconst 4, 1) := by decide +kernel
theorem dX7_takesE_48 : decode cX7_takesE 48 = .ok (.if_icmp .ne 5, 3) := by decide +kernel
theorem dX7_takesE_51 : decode cX7_takesE 51 = .ok (.iconst 0, 1) := by decide +kernel
theorem dX7_takesE_52 : decode cX7_takesE 52 = .ok (.ireturn, 1) := by decide +kernel
theorem dX7_takesE_53 : decode cX7_takesE 53 = .ok (.aload_n 0, 1) := by decide +kernel
theorem dX7_takesE_54 : decode cX7_takesE 54 = .ok (.dup, 1) := by decide +kernel
theorem dX7_takesE_55 : decode cX7_takesE 55 = .ok (.getfield 86, 3) := by decide +kernel
theorem dX7_takesE_58 : decode cX7_takesE 58 = .ok (.iconst 1, 1) := by decide +kernel
theorem dX7_takesE_59 : decode cX7_takesE 59 = .ok (.iadd, 1) := by decide +kernel
theorem dX7_takesE_60 : decode cX7_takesE 60 = .ok (.putfield 86, 3) := by decide +kernel
theorem dX7_takesE_63 : decode cX7_takesE 63 = .ok (.aload_n 0, 1) := by decide +kernel
theorem dX7_takesE_64 : decode cX7_takesE 64 = .ok (.getfield 77, 3) := by decide +kernel
theorem dX7_takesE_67 : decode cX7_takesE 67 = .ok (.aload_n 0, 1) := by decide +kernel
theorem dX7_takesE_68 : decode cX7_takesE 68 = .ok (.getfield 83, 3) := by decide +kernel
theorem dX7_takesE_71 : decode cX7_takesE 71 = .ok (.iload_n 3, 1) := by decide +kernel
theorem dX7_takesE_72 : decode cX7_takesE 72 = .ok (.iastore, 1) := by decide +kernel
theorem dX7_takesE_73 : decode cX7_takesE 73 = .ok (.aload_n 0, 1) := by decide +kernel
theorem dX7_takesE_74 : decode cX7_takesE 74 = .ok (.dup, 1) := by decide +kernel
theorem dX7_takesE_75 : decode cX7_takesE 75 = .ok (.getfield 83, 3) := by decide +kernel
theorem dX7_takesE_78 : decode cX7_takesE 78 = .ok (.iconst 1, 1) := by decide +kernel
theorem dX7_takesE_79 : decode cX7_takesE 79 = .ok (.iadd, 1) := by decide +kernel
theorem dX7_takesE_80 : decode cX7_takesE 80 = .ok (.putfield 83, 3) := by decide +kernel
theorem dX7_takesE_83 : decode cX7_takesE 83 = .ok (.aload_n 0, 1) := by decide +kernel
theorem dX7_takesE_84 : decode cX7_takesE 84 = .ok (.dup, 1) := by decide +kernel
theorem dX7_takesE_85 : decode cX7_takesE 85 = .ok (.getfield 50, 3) := by decide +kernel
theorem dX7_takesE_88 : decode cX7_takesE 88 = .ok (.iconst 1, 1) := by decide +kernel
theorem dX7_takesE_89 : decode cX7_takesE 89 = .ok (.iadd, 1) := by decide +kernel
theorem dX7_takesE_90 : decode cX7_takesE 90 = .ok (.putfield 50, 3) := by decide +kernel
theorem dX7_takesE_93 : decode cX7_takesE 93 = .ok (.goto (-71), 3) := by decide +kernel
theorem dX7_takesE_96 : decode cX7_takesE 96 = .ok (.aload_n 0, 1) := by decide +kernel
theorem dX7_takesE_97 : decode cX7_takesE 97 = .ok (.invokevirtual 247, 3) := by decide +kernel
theorem dX7_takesE_100 : decode cX7_takesE 100 = .ok (.ifCond .eq 8, 3) := by decide +kernel
theorem dX7_takesE_103 : decode cX7_takesE 103 = .ok (.iconst 0, 1) := by decide +kernel
theorem dX7_takesE_104 : decode cX7_takesE 104 = .ok (.istore_n 2, 1) := by decide +kernel
theorem dX7_takesE_105 : decode cX7_takesE 105 = .ok (.goto (-83), 3) := by decide +kernel
theorem dX7_takesE_108 : decode cX7_takesE 108 = .ok (.iconst 0, 1) := by decide +kernel
theorem dX7_takesE_109 : decode cX7_takesE 109 = .ok (.ireturn, 1) := by decide +kernel
theorem dX7_takesE_110 : decode cX7_takesE 110 = .ok (.iload_n 3, 1) := by decide +kernel
theorem dX7_takesE_111 : decode cX7_takesE 111 = .ok (.bipush 38, 2) := by decide +kernel
theorem dX7_takesE_113 : decode cX7_takesE 113 = .ok (.if_icmp .eq 9, 3) := by decide +kernel
theorem dX7_takesE_116 : decode cX7_takesE 116 = .ok (.iload_n 3, 1) := by decide +kernel
theorem dX7_takesE_117 : decode cX7_takesE 117 = .ok (.bipush 124, 2) := by decide +kernel
theorem dX7_takesE_119 : decode cX7_takesE 119 = .ok (.if_icmp .ne 43, 3) := by decide +kernel
theorem dX7_takesE_122 : decode cX7_takesE 122 = .ok (.aload_n 0, 1) := by decide +kernel
theorem dX7_takesE_123 : decode cX7_takesE 123 = .ok (.iload_n 3, 1) := by decide +kernel
theorem dX7_takesE_124 : decode cX7_takesE 124 = .ok (.invokevirtual 250, 3) := by decide +kernel
theorem dX7_takesE_127 : decode cX7_takesE 127 = .ok (.aload_n 0, 1) := by decide +kernel
theorem dX7_takesE_128 : decode cX7_takesE 128 = .ok (.getfield 77, 3) := by decide +kernel
theorem dX7_takesE_131 : decode cX7_takesE 131 = .ok (.aload_n 0, 1) := by decide +kernel
theorem dX7_takesE_132 : decode cX7_takesE 132 = .ok (.getfield 83, 3) := by decide +kernel
theorem dX7_takesE_135 : decode cX7_takesE 135 = .ok (.iload_n 3, 1) := by decide +kernel
theorem dX7_takesE_136 : decode cX7_takesE 136 = .ok (.iastore, 1) := by decide +kernel
theorem dX7_takesE_137 : decode cX7_takesE 137 = .ok (.aload_n 0, 1) := by decide +kernel
theorem dX7_takesE_138 : decode cX7_takesE 138 = .ok (.dup, 1) := by decide +kernel
theorem dX7_takesE_139 : decode cX7_takesE 139 = .ok (.getfield 83, 3) := by decide +kernel
theorem dX7_takesE_142 : decode cX7_takesE 142 = .ok (.iconst 1, 1) := by decide +kernel
theorem dX7_takesE_143 : decode cX7_takesE 143 = .ok (.iadd, 1) := by decide +kernel
theorem dX7_takesE_144 : decode cX7_takesE 144 = .ok (.putfield 83, 3) := by decide +kernel
theorem dX7_takesE_147 : decode cX7_takesE 147 = .ok (.iconst 1, 1) := by decide +kernel
theorem dX7_takesE_148 : decode cX7_takesE 148 = .ok (.istore_n 2, 1) := by decide +kernel
theorem dX7_takesE_149 : decode cX7_takesE 149 = .ok (.aload_n 0, 1) := by decide +kernel
theorem dX7_takesE_150 : decode cX7_takesE 150 = .ok (.dup, 1) := by decide +kernel
theorem dX7_takesE_151 : decode cX7_takesE 151 = .ok (.getfield 50, 3) := by decide +kernel
theorem dX7_takesE_154 : decode cX7_takesE 154 = .ok (.iconst 1, 1) := by decide +kernel
theorem dX7_takesE_155 : decode cX7_takesE 155 = .ok (.iadd, 1) := by decide +kernel
theorem dX7_takesE_156 : decode cX7_takesE 156 = .ok (.putfield 50, 3) := by decide +kernel
theorem dX7_takesE_159 : decode cX7_takesE 159 = .ok (.goto (-137), 3) := by decide +kernel
theorem dX7_takesE_162 : decode cX7_takesE 162 = .ok (.aload_n 0, 1) := by decide +kernel
theorem dX7_takesE_163 : decode cX7_takesE 163 = .ok (.bipush 124, 2) := by decide +kernel
theorem dX7_takesE_165 : decode cX7_takesE 165 = .ok (.invokevirtual 250, 3) := by decide +kernel
theorem dX7_takesE_168 : decode cX7_takesE 168 = .ok (.aload_n 0, 1) := by decide +kernel
theorem dX7_takesE_169 : decode cX7_takesE 169 = .ok (.getfield 71, 3) := by decide +kernel
theorem dX7_takesE_172 : decode cX7_takesE 172 = .ok (.iload_n 1, 1) := by decide +kernel
theorem dX7_takesE_173 : decode cX7_takesE 173 = .ok (.aload_n 0, 1) := by decide +kernel
theorem dX7_takesE_174 : decode cX7_takesE 174 = .ok (.getfield 80, 3) := by decide +kernel
theorem dX7_takesE_177 : decode cX7_takesE 177 = .ok (.iastore, 1) := by decide +kernel
theorem dX7_takesE_178 : decode cX7_takesE 178 = .ok (.aload_n 0, 1) := by decide +kernel
theorem dX7_takesE_179 : decode cX7_takesE 179 = .ok (.getfield 83, 3) := by decide +kernel
theorem dX7_takesE_182 : decode cX7_takesE 182 = .ok (.ifCond .ne 5, 3) := by decide +kernel
theorem dX7_takesE_185 : decode cX7_takesE 185 = .ok (.iconst 1, 1) := by decide +kernel
theorem dX7_takesE_186 : decode cX7_takesE 186 = .ok (.ireturn, 1) := by decide +kernel
theorem dX7_takesE_187 : decode cX7_takesE 187 = .ok (.iload_n 3, 1) := by decide +kernel
theorem dX7_takesE_188 : decode cX7_takesE 188 = .ok (.bipush 41, 2) := by decide +kernel
theorem dX7_takesE_190 : decode cX7_takesE 190 = .ok (.if_icmp .eq 5, 3) := by decide +kernel
theorem dX7_takesE_193 : decode cX7_takesE 193 = .ok (.iconst 0, 1) := by decide +kernel
theorem dX7_takesE_194 : decode cX7_takesE 194 = .ok (.ireturn, 1) := by decide +kernel
theorem dX7_takesE_195 : decode cX7_takesE 195 = .ok (.aload_n 0, 1) := by decide +kernel
theorem dX7_takesE_196 : decode cX7_takesE 196 = .ok (.dup, 1) := by decide +kernel
theorem dX7_takesE_197 : decode cX7_takesE 197 = .ok (.getfield 83, 3) := by decide +kernel
theorem dX7_takesE_200 : decode cX7_takesE 200 = .ok (.iconst 1, 1) := by decide +kernel
theorem dX7_takesE_201 : decode cX7_takesE 201 = .ok (.isub, 1) := by decide +kernel
theorem dX7_takesE_202 : decode cX7_takesE 202 = .ok (.putfield 83, 3) := by decide +kernel
theorem dX7_takesE_205 : decode cX7_takesE 205 = .ok (.aload_n 0, 1) := by decide +kernel
theorem dX7_takesE_206 : decode cX7_takesE 206 = .ok (.dup, 1) := by decide +kernel
theorem dX7_takesE_207 : decode cX7_takesE 207 = .ok (.getfield 86, 3) := by decide +kernel
theorem dX7_takesE_210 : decode cX7_takesE 210 = .ok (.iconst 1, 1) := by decide +kernel
theorem dX7_takesE_211 : decode cX7_takesE 211 = .ok (.isub, 1) := by decide +kernel
theorem dX7_takesE_212 : decode cX7_takesE 212 = .ok (.putfield 86, 3) := by decide +kernel
theorem dX7_takesE_215 : decode cX7_takesE 215 = .ok (.aload_n 0, 1) := by decide +kernel
theorem dX7_takesE_216 : decode cX7_takesE 216 = .ok (.dup, 1) := by decide +kernel
theorem dX7_takesE_217 : decode cX7_takesE 217 = .ok (.getfield 50, 3) := by decide +kernel
theorem dX7_takesE_220 : decode cX7_takesE 220 = .ok (.iconst 1, 1) := by decide +kernel
theorem dX7_takesE_221 : decode cX7_takesE 221 = .ok (.iadd, 1) := by decide +kernel
theorem dX7_takesE_222 : decode cX7_takesE 222 = .ok (.putfield 50, 3) := by decide +kernel
theorem dX7_takesE_225 : decode cX7_takesE 225 = .ok (.aload_n 0, 1) := by decide +kernel
theorem dX7_takesE_226 : decode cX7_takesE 226 = .ok (.invokevirtual 244, 3) := by decide +kernel
theorem dX7_takesE_229 : decode cX7_takesE 229 = .ok (.goto (-207), 3) := by decide +kernel
theorem dX7_takesHead_0 : decode cX7_takesHead 0 = .ok (.aload_n 0, 1) := by decide +kernel
theorem dX7_takesHead_1 : decode cX7_takesHead 1 = .ok (.invokevirtual 224, 3) := by decide +kernel
theorem dX7_takesHead_4 : decode cX7_takesHead 4 = .ok (.lookupswitch 56 #[(102, 42), (103, 28)], 28) := by decide +kernel
theorem dX7_takesHead_32 : decode cX7_takesHead 32 = .ok (.aload_n 0, 1) := by decide +kernel
theorem dX7_takesHead_33 : decode cX7_takesHead 33 = .ok (.getfield 62, 3) := by decide +kernel
theorem dX7_takesHead_36 : decode cX7_takesHead 36 = .ok (.iload_n 1, 1) := by decide +kernel
theorem dX7_takesHead_37 : decode cX7_takesHead 37 = .ok (.iconst 0, 1) := by decide +kernel
theorem dX7_takesHead_38 : decode cX7_takesHead 38 = .ok (.iastore, 1) := by decide +kernel
theorem dX7_takesHead_39 : decode cX7_takesHead 39 = .ok (.aload_n 0, 1) := by decide +kernel
theorem dX7_takesHead_40 : decode cX7_takesHead 40 = .ok (.iconst 0, 1) := by decide +kernel
theorem dX7_takesHead_41 : decode cX7_takesHead 41 = .ok (.iconst 5, 1) := by decide +kernel
theorem dX7_takesHead_42 : decode cX7_takesHead 42 = .ok (.invokevirtual 253, 3) := by decide +kernel
theorem dX7_takesHead_45 : decode cX7_takesHead 45 = .ok (.ireturn, 1) := by decide +kernel
theorem dX7_takesHead_46 : decode cX7_takesHead 46 = .ok (.aload_n 0, 1) := by decide +kernel
theorem dX7_takesHead_47 : decode cX7_takesHead 47 = .ok (.getfield 62, 3) := by decide +kernel
theorem dX7_takesHead_50 : decode cX7_takesHead 50 = .ok (.iload_n 1, 1) := by decide +kernel
theorem dX7_takesHead_51 : decode cX7_takesHead 51 = .ok (.iconst 1, 1) := by decide +kernel
theorem dX7_takesHead_52 : decode cX7_takesHead 52 = .ok (.iastore, 1) := by decide +kernel
theorem dX7_takesHead_53 : decode cX7_takesHead 53 = .ok (.aload_n 0, 1) := by decide +kernel
theorem dX7_takesHead_54 : decode cX7_takesHead 54 = .ok (.iconst 5, 1) := by decide +kernel
theorem dX7_takesHead_55 : decode cX7_takesHead 55 = .ok (.iconst 3, 1) := by decide +kernel
theorem dX7_takesHead_56 : decode cX7_takesHead 56 = .ok (.invokevirtual 253, 3) := by decide +kernel
theorem dX7_takesHead_59 : decode cX7_takesHead 59 = .ok (.ireturn, 1) := by decide +kernel
theorem dX7_takesHead_60 : decode cX7_takesHead 60 = .ok (.aload_n 0, 1) := by decide +kernel
theorem dX7_takesHead_61 : decode cX7_takesHead 61 = .ok (.getfield 62, 3) := by decide +kernel
theorem dX7_takesHead_64 : decode cX7_takesHead 64 = .ok (.iload_n 1, 1) := by decide +kernel
theorem dX7_takesHead_65 : decode cX7_takesHead 65 = .ok (.iconst 2, 1) := by decide +kernel
theorem dX7_takesHead_66 : decode cX7_takesHead 66 = .ok (.iastore, 1) := by decide +kernel
theorem dX7_takesHead_67 : decode cX7_takesHead 67 = .ok (.aload_n 0, 1) := by decide +kernel
theorem dX7_takesHead_68 : decode cX7_takesHead 68 = .ok (.bipush 8, 2) := by decide +kernel
theorem dX7_takesHead_70 : decode cX7_takesHead 70 = .ok (.iconst 4, 1) := by decide +kernel
theorem dX7_takesHead_71 : decode cX7_takesHead 71 = .ok (.invokevirtual 253, 3) := by decide +kernel
theorem dX7_takesHead_74 : decode cX7_takesHead 74 = .ok (.ireturn, 1) := by decide +kernel
theorem dX7_takesClause_0 : decode cX7_takesClause 0 = .ok (.aload_n 0, 1) := by decide +kernel
theorem dX7_takesClause_1 : decode cX7_takesClause 1 = .ok (.iload_n 1, 1) := by decide +kernel
theorem dX7_takesClause_2 : decode cX7_takesClause 2 = .ok (.invokevirtual 256, 3) := by decide +kernel
theorem dX7_takesClause_5 : decode cX7_takesClause 5 = .ok (.ifCond .eq 10, 3) := by decide +kernel
theorem dX7_takesClause_8 : decode cX7_takesClause 8 = .ok (.aload_n 0, 1) := by decide +kernel
theorem dX7_takesClause_9 : decode cX7_takesClause 9 = .ok (.invokevirtual 241, 3) := by decide +kernel
theorem dX7_takesClause_12 : decode cX7_takesClause 12 = .ok (.ifCond .ne 5, 3) := by decide +kernel
theorem dX7_takesClause_15 : decode cX7_takesClause 15 = .ok (.iconst 0, 1) := by decide +kernel
theorem dX7_takesClause_16 : decode cX7_takesClause 16 = .ok (.ireturn, 1) := by decide +kernel
theorem dX7_takesClause_17 : decode cX7_takesClause 17 = .ok (.aload_n 0, 1) := by decide +kernel
theorem dX7_takesClause_18 : decode cX7_takesClause 18 = .ok (.getfield 65, 3) := by decide +kernel
theorem dX7_takesClause_21 : decode cX7_takesClause 21 = .ok (.iload_n 1, 1) := by decide +kernel
theorem dX7_takesClause_22 : decode cX7_takesClause 22 = .ok (.aload_n 0, 1) := by decide +kernel
theorem dX7_takesClause_23 : decode cX7_takesClause 23 = .ok (.getfield 53, 3) := by decide +kernel
theorem dX7_takesClause_26 : decode cX7_takesClause 26 = .ok (.iastore, 1) := by decide +kernel
theorem dX7_takesClause_27 : decode cX7_takesClause 27 = .ok (.aload_n 0, 1) := by decide +kernel
theorem dX7_takesClause_28 : decode cX7_takesClause 28 = .ok (.getfield 62, 3) := by decide +kernel
theorem dX7_takesClause_31 : decode cX7_takesClause 31 = .ok (.iload_n 1, 1) := by decide +kernel
theorem dX7_takesClause_32 : decode cX7_takesClause 32 = .ok (.iaload, 1) := by decide +kernel
theorem dX7_takesClause_33 : decode cX7_takesClause 33 = .ok (.iconst 2, 1) := by decide +kernel
theorem dX7_takesClause_34 : decode cX7_takesClause 34 = .ok (.if_icmp .eq 20, 3) := by decide +kernel
theorem dX7_takesClause_37 : decode cX7_takesClause 37 = .ok (.aload_n 0, 1) := by decide +kernel
theorem dX7_takesClause_38 : decode cX7_takesClause 38 = .ok (.bipush 32, 2) := by decide +kernel
