theorem dX0_init_0 : decode cX0_init 0 = .ok (.aload_n 0, 1) := by decide +kernel
theorem dX0_init_1 : decode cX0_init 1 = .ok (.invokespecial 3, 3) := by decide +kernel
theorem dX0_init_4 : decode cX0_init 4 = .ok (.aload_n 0, 1) := by decide +kernel
theorem dX0_init_5 : decode cX0_init 5 = .ok (.bipush 20, 2) := by decide +kernel
theorem dX0_init_7 : decode cX0_init 7 = .ok (.newarray .int, 2) := by decide +kernel
theorem dX0_init_9 : decode cX0_init 9 = .ok (.putfield 11, 3) := by decide +kernel
theorem dX0_init_12 : decode cX0_init 12 = .ok (.return_, 1) := by decide +kernel
theorem dX0_forget_0 : decode cX0_forget 0 = .ok (.aload_n 0, 1) := by decide +kernel
theorem dX0_forget_1 : decode cX0_forget 1 = .ok (.iconst 0, 1) := by decide +kernel
theorem dX0_forget_2 : decode cX0_forget 2 = .ok (.putfield 15, 3) := by decide +kernel
theorem dX0_forget_5 : decode cX0_forget 5 = .ok (.return_, 1) := by decide +kernel
theorem dX0_standAt_0 : decode cX0_standAt 0 = .ok (.aload_n 0, 1) := by decide +kernel
theorem dX0_standAt_1 : decode cX0_standAt 1 = .ok (.iload_n 1, 1) := by decide +kernel
theorem dX0_standAt_2 : decode cX0_standAt 2 = .ok (.putfield 19, 3) := by decide +kernel
theorem dX0_standAt_5 : decode cX0_standAt 5 = .ok (.aload_n 0, 1) := by decide +kernel
theorem dX0_standAt_6 : decode cX0_standAt 6 = .ok (.iload_n 2, 1) := by decide +kernel
theorem dX0_standAt_7 : decode cX0_standAt 7 = .ok (.putfield 22, 3) := by decide +kernel
theorem dX0_standAt_10 : decode cX0_standAt 10 = .ok (.aload_n 0, 1) := by decide +kernel
theorem dX0_standAt_11 : decode cX0_standAt 11 = .ok (.iload_n 3, 1) := by decide +kernel
theorem dX0_standAt_12 : decode cX0_standAt 12 = .ok (.putfield 25, 3) := by decide +kernel
theorem dX0_standAt_15 : decode cX0_standAt 15 = .ok (.return_, 1) := by decide +kernel
theorem dX0_begin_0 : decode cX0_begin 0 = .ok (.aload_n 0, 1) := by decide +kernel
theorem dX0_begin_1 : decode cX0_begin 1 = .ok (.getfield 15, 3) := by decide +kernel
theorem dX0_begin_4 : decode cX0_begin 4 = .ok (.bipush 20, 2) := by decide +kernel
theorem dX0_begin_6 : decode cX0_begin 6 = .ok (.if_icmp .ge 13, 3) := by decide +kernel
theorem dX0_begin_9 : decode cX0_begin 9 = .ok (.aload_n 0, 1) := by decide +kernel
theorem dX0_begin_10 : decode cX0_begin 10 = .ok (.getfield 11, 3) := by decide +kernel
theorem dX0_begin_13 : decode cX0_begin 13 = .ok (.aload_n 0, 1) := by decide +kernel
theorem dX0_begin_14 : decode cX0_begin 14 = .ok (.getfield 15, 3) := by decide +kernel
theorem dX0_begin_17 : decode cX0_begin 17 = .ok (.iload_n 1, 1) := by decide +kernel
theorem dX0_begin_18 : decode cX0_begin 18 = .ok (.iastore, 1) := by decide +kernel
theorem dX0_begin_19 : decode cX0_begin 19 = .ok (.aload_n 0, 1) := by decide +kernel
theorem dX0_begin_20 : decode cX0_begin 20 = .ok (.dup, 1) := by decide +kernel
theorem dX0_begin_21 : decode cX0_begin 21 = .ok (.getfield 15, 3) := by decide +kernel
theorem dX0_begin_24 : decode cX0_begin 24 = .ok (.iconst 1, 1) := by decide +kernel
theorem dX0_begin_25 : decode cX0_begin 25 = .ok (.iadd, 1) := by decide +kernel
theorem dX0_begin_26 : decode cX0_begin 26 = .ok (.putfield 15, 3) := by decide +kernel
theorem dX0_begin_29 : decode cX0_begin 29 = .ok (.return_, 1) := by decide +kernel
theorem dX0_points_0 : decode cX0_points 0 = .ok (.iload_n 3, 1) := by decide +kernel
theorem dX0_points_1 : decode cX0_points 1 = .ok (.bipush 40, 2) := by decide +kernel
theorem dX0_points_3 : decode cX0_points 3 = .ok (.if_icmp .le 5, 3) := by decide +kernel
theorem dX0_points_6 : decode cX0_points 6 = .ok (.iconst 0, 1) := by decide +kernel
theorem dX0_points_7 : decode cX0_points 7 = .ok (.ireturn, 1) := by decide +kernel
theorem dX0_points_8 : decode cX0_points 8 = .ok (.iload_n 1, 1) := by decide +kernel
theorem dX0_points_9 : decode cX0_points 9 = .ok (.tableswitch 91 2 6 #[35, 91, 53, 35, 70], 35) := by decide +kernel
theorem dX0_points_44 : decode cX0_points 44 = .ok (.aload_n 0, 1) := by decide +kernel
theorem dX0_points_45 : decode cX0_points 45 = .ok (.bipush 30, 2) := by decide +kernel
theorem dX0_points_47 : decode cX0_points 47 = .ok (.invokevirtual 28, 3) := by decide +kernel
theorem dX0_points_50 : decode cX0_points 50 = .ok (.aload_n 0, 1) := by decide +kernel
theorem dX0_points_51 : decode cX0_points 51 = .ok (.iconst 0, 1) := by decide +kernel
theorem dX0_points_52 : decode cX0_points 52 = .ok (.iload_n 2, 1) := by decide +kernel
theorem dX0_points_53 : decode cX0_points 53 = .ok (.iconst 3, 1) := by decide +kernel
theorem dX0_points_54 : decode cX0_points 54 = .ok (.imul, 1) := by decide +kernel
theorem dX0_points_55 : decode cX0_points 55 = .ok (.iload_n 3, 1) := by decide +kernel
theorem dX0_points_56 : decode cX0_points 56 = .ok (.iconst 1, 1) := by decide +kernel
theorem dX0_points_57 : decode cX0_points 57 = .ok (.iadd, 1) := by decide +kernel
theorem dX0_points_58 : decode cX0_points 58 = .ok (.invokevirtual 32, 3) := by decide +kernel
theorem dX0_points_61 : decode cX0_points 61 = .ok (.ireturn, 1) := by decide +kernel
theorem dX0_points_62 : decode cX0_points 62 = .ok (.aload_n 0, 1) := by decide +kernel
theorem dX0_points_63 : decode cX0_points 63 = .ok (.bipush 50, 2) := by decide +kernel
theorem dX0_points_65 : decode cX0_points 65 = .ok (.invokevirtual 28, 3) := by decide +kernel
theorem dX0_points_68 : decode cX0_points 68 = .ok (.aload_n 0, 1) := by decide +kernel
theorem dX0_points_69 : decode cX0_points 69 = .ok (.iconst 1, 1) := by decide +kernel
theorem dX0_points_70 : decode cX0_points 70 = .ok (.iload_n 2, 1) := by decide +kernel
theorem dX0_points_71 : decode cX0_points 71 = .ok (.iload_n 3, 1) := by decide +kernel
theorem dX0_points_72 : decode cX0_points 72 = .ok (.iconst 1, 1) := by decide +kernel
theorem dX0_points_73 : decode cX0_points 73 = .ok (.iadd, 1) := by decide +kernel
theorem dX0_points_74 : decode cX0_points 74 = .ok (.invokevirtual 32, 3) := by decide +kernel
theorem dX0_points_77 : decode cX0_points 77 = .ok (.ineg, 1) := by decide +kernel
theorem dX0_points_78 : decode cX0_points 78 = .ok (.ireturn, 1) := by decide +kernel
theorem dX0_points_79 : decode cX0_points 79 = .ok (.aload_n 0, 1) := by decide +kernel
theorem dX0_points_80 : decode cX0_points 80 = .ok (.bipush 71, 2) := by decide +kernel
theorem dX0_points_82 : decode cX0_points 82 = .ok (.invokevirtual 28, 3) := by decide +kernel
theorem dX0_points_85 : decode cX0_points 85 = .ok (.aload_n 0, 1) := by decide +kernel
theorem dX0_points_86 : decode cX0_points 86 = .ok (.iconst 3, 1) := by decide +kernel
theorem dX0_points_87 : decode cX0_points 87 = .ok (.iload_n 2, 1) := by decide +kernel
theorem dX0_points_88 : decode cX0_points 88 = .ok (.iload_n 3, 1) := by decide +kernel
theorem dX0_points_89 : decode cX0_points 89 = .ok (.iconst 1, 1) := by decide +kernel
theorem dX0_points_90 : decode cX0_points 90 = .ok (.iadd, 1) := by decide +kernel
theorem dX0_points_91 : decode cX0_points 91 = .ok (.invokevirtual 32, 3) := by decide +kernel
theorem dX0_points_94 : decode cX0_points 94 = .ok (.aload_n 0, 1) := by decide +kernel
theorem dX0_points_95 : decode cX0_points 95 = .ok (.getfield 25, 3) := by decide +kernel
theorem dX0_points_98 : decode cX0_points 98 = .ok (.ixor, 1) := by decide +kernel
theorem dX0_points_99 : decode cX0_points 99 = .ok (.ireturn, 1) := by decide +kernel
theorem dX0_points_100 : decode cX0_points 100 = .ok (.aload_n 0, 1) := by decide +kernel
theorem dX0_points_101 : decode cX0_points 101 = .ok (.bipush 10, 2) := by decide +kernel
theorem dX0_points_103 : decode cX0_points 103 = .ok (.invokevirtual 28, 3) := by decide +kernel
theorem dX0_points_106 : decode cX0_points 106 = .ok (.iload_n 2, 1) := by decide +kernel
theorem dX0_points_107 : decode cX0_points 107 = .ok (.aload_n 0, 1) := by decide +kernel
theorem dX0_points_108 : decode cX0_points 108 = .ok (.getfield 19, 3) := by decide +kernel
theorem dX0_points_111 : decode cX0_points 111 = .ok (.iadd, 1) := by decide +kernel
theorem dX0_points_112 : decode cX0_points 112 = .ok (.ireturn, 1) := by decide +kernel
theorem dX0_names_0 : decode cX0_names 0 = .ok (.iload_n 3, 1) := by decide +kernel
theorem dX0_names_1 : decode cX0_names 1 = .ok (.bipush 40, 2) := by decide +kernel
theorem dX0_names_3 : decode cX0_names 3 = .ok (.if_icmp .le 5, 3) := by decide +kernel
theorem dX0_names_6 : decode cX0_names 6 = .ok (.iconst 0, 1) := by decide +kernel
theorem dX0_names_7 : decode cX0_names 7 = .ok (.ireturn, 1) := by decide +kernel
theorem dX0_names_8 : decode cX0_names 8 = .ok (.iload_n 1, 1) := by decide +kernel
theorem dX0_names_9 : decode cX0_names 9 = .ok (.lookupswitch 98 #[(1, 35), (4, 54), (6, 72)], 35) := by decide +kernel
theorem dX0_names_44 : decode cX0_names 44 = .ok (.aload_n 0, 1) := by decide +kernel
theorem dX0_names_45 : decode cX0_names 45 = .ok (.bipush 20, 2) := by decide +kernel
theorem dX0_names_47 : decode cX0_names 47 = .ok (.invokevirtual 28, 3) := by decide +kernel
theorem dX0_names_50 : decode cX0_names 50 = .ok (.aload_n 0, 1) := by decide +kernel
theorem dX0_names_51 : decode cX0_names 51 = .ok (.iconst 0, 1) := by decide +kernel
theorem dX0_names_52 : decode cX0_names 52 = .ok (.iload_n 2, 1) := by decide +kernel
theorem dX0_names_53 : decode cX0_names 53 = .ok (.iload_n 3, 1) := by decide +kernel
theorem dX0_names_54 : decode cX0_names 54 = .ok (.iconst 1, 1) := by decide +kernel
theorem dX0_names_55 : decode cX0_names 55 = .ok (.iadd, 1) := by decide +kernel
theorem dX0_names_56 : decode cX0_names 56 = .ok (.invokevirtual 36, 3) := by decide +kernel
theorem dX0_names_59 : decode cX0_names 59 = .ok (.bipush 6, 2) := by decide +kernel
theorem dX0_names_61 : decode cX0_names 61 = .ok (.ixor, 1) := by decide +kernel
theorem dX0_names_62 : decode cX0_names 62 = .ok (.ireturn, 1) := by decide +kernel
theorem dX0_names_63 : decode cX0_names 63 = .ok (.aload_n 0, 1) := by decide +kernel
theorem dX0_names_64 : decode cX0_names 64 = .ok (.bipush 51, 2) := by decide +kernel
theorem dX0_names_66 : decode cX0_names 66 = .ok (.invokevirtual 28, 3) := by decide +kernel
theorem dX0_names_69 : decode cX0_names 69 = .ok (.aload_n 0, 1) := by decide +kernel
theorem dX0_names_70 : decode cX0_names 70 = .ok (.iconst 1, 1) := by decide +kernel
theorem dX0_names_71 : decode cX0_names 71 = .ok (.iload_n 2, 1) := by decide +kernel
theorem dX0_names_72 : decode cX0_names 72 = .ok (.iconst 1, 1) := by decide +kernel
theorem dX0_names_73 : decode cX0_names 73 = .ok (.iadd, 1) := by decide +kernel
theorem dX0_names_74 : decode cX0_names 74 = .ok (.iload_n 3, 1) := by decide +kernel
theorem dX0_names_75 : decode cX0_names 75 = .ok (.iconst 1, 1) := by decide +kernel
theorem dX0_names_76 : decode cX0_names 76 = .ok (.iadd, 1) := by decide +kernel
theorem dX0_names_77 : decode cX0_names 77 = .ok (.invokevirtual 36, 3) := by decide +kernel
theorem dX0_names_80 : decode cX0_names 80 = .ok (.ireturn, 1) := by decide +kernel
theorem dX0_names_81 : decode cX0_names 81 = .ok (.aload_n 0, 1) := by decide +kernel
theorem dX0_names_82 : decode cX0_names 82 = .ok (.bipush 70, 2) := by decide +kernel
theorem dX0_names_84 : decode cX0_names 84 = .ok (.invokevirtual 28, 3) := by decide +kernel
theorem dX0_names_87 : decode cX0_names 87 = .ok (.aload_n 0, 1) := by decide +kernel
theorem dX0_names_88 : decode cX0_names 88 = .ok (.iconst 3, 1) := by decide +kernel
theorem dX0_names_89 : decode cX0_names 89 = .ok (.iload_n 2, 1) := by decide +kernel
theorem dX0_names_90 : decode cX0_names 90 = .ok (.iload_n 3, 1) := by decide +kernel
theorem dX0_names_91 : decode cX0_names 91 = .ok (.iconst 1, 1) := by decide +kernel
theorem dX0_names_92 : decode cX0_names 92 = .ok (.iadd, 1) := by decide +kernel
theorem dX0_names_93 : decode cX0_names 93 = .ok (.invokevirtual 36, 3) := by decide +kernel
theorem dX0_names_96 : decode cX0_names 96 = .ok (.aload_n 0, 1) := by decide +kernel
theorem dX0_names_97 : decode cX0_names 97 = .ok (.iconst 3, 1) := by decide +kernel
theorem dX0_names_98 : decode cX0_names 98 = .ok (.iconst 2, 1) := by decide +kernel
theorem dX0_names_99 : decode cX0_names 99 = .ok (.iload_n 3, 1) := by decide +kernel
theorem dX0_names_100 : decode cX0_names 100 = .ok (.iconst 1, 1) := by decide +kernel
theorem dX0_names_101 : decode cX0_names 101 = .ok (.iadd, 1) := by decide +kernel
theorem dX0_names_102 : decode cX0_names 102 = .ok (.invokevirtual 32, 3) := by decide +kernel
theorem dX0_names_105 : decode cX0_names 105 = .ok (.iadd, 1) := by decide +kernel
theorem dX0_names_106 : decode cX0_names 106 = .ok (.ireturn, 1) := by decide +kernel
theorem dX0_names_107 : decode cX0_names 107 = .ok (.aload_n 0, 1) := by decide +kernel
theorem dX0_names_108 : decode cX0_names 108 = .ok (.bipush 11, 2) := by decide +kernel
theorem dX0_names_110 : decode cX0_names 110 = .ok (.invokevirtual 28, 3) := by decide +kernel
theorem dX0_names_113 : decode cX0_names 113 = .ok (.aload_n 0, 1) := by decide +kernel
theorem dX0_names_114 : decode cX0_names 114 = .ok (.aload_n 0, 1) := by decide +kernel
theorem dX0_names_115 : decode cX0_names 115 = .ok (.getfield 22, 3) := by decide +kernel
theorem dX0_names_118 : decode cX0_names 118 = .ok (.iload_n 2, 1) := by decide +kernel
theorem dX0_names_119 : decode cX0_names 119 = .ok (.iload_n 3, 1) := by decide +kernel
theorem dX0_names_120 : decode cX0_names 120 = .ok (.iconst 1, 1) := by decide +kernel
theorem dX0_names_121 : decode cX0_names 121 = .ok (.iadd, 1) := by decide +kernel
theorem dX0_names_122 : decode cX0_names 122 = .ok (.invokevirtual 32, 3) := by decide +kernel
theorem dX0_names_125 : decode cX0_names 125 = .ok (.aload_n 0, 1) := by decide +kernel
theorem dX0_names_126 : decode cX0_names 126 = .ok (.getfield 25, 3) := by decide +kernel
theorem dX0_names_129 : decode cX0_names 129 = .ok (.isub, 1) := by decide +kernel
theorem dX0_names_130 : decode cX0_names 130 = .ok (.ireturn, 1) := by decide +kernel
theorem dX0_tells_0 : decode cX0_tells 0 = .ok (.iload_n 3, 1) := by decide +kernel
theorem dX0_tells_1 : decode cX0_tells 1 = .ok (.bipush 40, 2) := by decide +kernel
theorem dX0_tells_3 : decode cX0_tells 3 = .ok (.if_icmp .le 5, 3) := by decide +kernel
theorem dX0_tells_6 : decode cX0_tells 6 = .ok (.iconst 0, 1) := by decide +kernel
theorem dX0_tells_7 : decode cX0_tells 7 = .ok (.ireturn, 1) := by decide +kernel
theorem dX0_tells_8 : decode cX0_tells 8 = .ok (.iload_n 1, 1) := by decide +kernel
theorem dX0_tells_9 : decode cX0_tells 9 = .ok (.tableswitch 81 3 6 #[31, 81, 60, 31], 31) := by decide +kernel
theorem dX0_tells_40 : decode cX0_tells 40 = .ok (.aload_n 0, 1) := by decide +kernel
theorem dX0_tells_41 : decode cX0_tells 41 = .ok (.bipush 40, 2) := by decide +kernel
theorem dX0_tells_43 : decode cX0_tells 43 = .ok (.invokevirtual 28, 3) := by decide +kernel
theorem dX0_tells_46 : decode cX0_tells 46 = .ok (.aload_n 0, 1) := by decide +kernel
theorem dX0_tells_47 : decode cX0_tells 47 = .ok (.iconst 0, 1) := by decide +kernel
theorem dX0_tells_48 : decode cX0_tells 48 = .ok (.iload_n 2, 1) := by decide +kernel
theorem dX0_tells_49 : decode cX0_tells 49 = .ok (.iload_n 3, 1) := by decide +kernel
theorem dX0_tells_50 : decode cX0_tells 50 = .ok (.iconst 1, 1) := by decide +kernel
theorem dX0_tells_51 : decode cX0_tells 51 = .ok (.iadd, 1) := by decide +kernel
theorem dX0_tells_52 : decode cX0_tells 52 = .ok (.invokevirtual 39, 3) := by decide +kernel
theorem dX0_tells_55 : decode cX0_tells 55 = .ok (.aload_n 0, 1) := by decide +kernel
theorem dX0_tells_56 : decode cX0_tells 56 = .ok (.aload_n 0, 1) := by decide +kernel
theorem dX0_tells_57 : decode cX0_tells 57 = .ok (.getfield 22, 3) := by decide +kernel
theorem dX0_tells_60 : decode cX0_tells 60 = .ok (.iconst 1, 1) := by decide +kernel
theorem dX0_tells_61 : decode cX0_tells 61 = .ok (.iload_n 3, 1) := by decide +kernel
theorem dX0_tells_62 : decode cX0_tells 62 = .ok (.iconst 1, 1) := by decide +kernel
theorem dX0_tells_63 : decode cX0_tells 63 = .ok (.iadd, 1) := by decide +kernel
theorem dX0_tells_64 : decode cX0_tells 64 = .ok (.invokevirtual 36, 3) := by decide +kernel
theorem dX0_tells_67 : decode cX0_tells 67 = .ok (.iadd, 1) := by decide +kernel
theorem dX0_tells_68 : decode cX0_tells 68 = .ok (.ireturn, 1) := by decide +kernel
theorem dX0_tells_69 : decode cX0_tells 69 = .ok (.aload_n 0, 1) := by decide +kernel
theorem dX0_tells_70 : decode cX0_tells 70 = .ok (.bipush 60, 2) := by decide +kernel
theorem dX0_tells_72 : decode cX0_tells 72 = .ok (.invokevirtual 28, 3) := by decide +kernel
theorem dX0_tells_75 : decode cX0_tells 75 = .ok (.aload_n 0, 1) := by decide +kernel
theorem dX0_tells_76 : decode cX0_tells 76 = .ok (.iconst 2, 1) := by decide +kernel
theorem dX0_tells_77 : decode cX0_tells 77 = .ok (.iload_n 2, 1) := by decide +kernel
theorem dX0_tells_78 : decode cX0_tells 78 = .ok (.aload_n 0, 1) := by decide +kernel
theorem dX0_tells_79 : decode cX0_tells 79 = .ok (.getfield 19, 3) := by decide +kernel
theorem dX0_tells_82 : decode cX0_tells 82 = .ok (.isub, 1) := by decide +kernel
theorem dX0_tells_83 : decode cX0_tells 83 = .ok (.iload_n 3, 1) := by decide +kernel
theorem dX0_tells_84 : decode cX0_tells 84 = .ok (.iconst 1, 1) := by decide +kernel
theorem dX0_tells_85 : decode cX0_tells 85 = .ok (.iadd, 1) := by decide +kernel
theorem dX0_tells_86 : decode cX0_tells 86 = .ok (.invokevirtual 39, 3) := by decide +kernel
theorem dX0_tells_89 : decode cX0_tells 89 = .ok (.ireturn, 1) := by decide +kernel
theorem dX0_tells_90 : decode cX0_tells 90 = .ok (.aload_n 0, 1) := by decide +kernel
theorem dX0_tells_91 : decode cX0_tells 91 = .ok (.bipush 12, 2) := by decide +kernel
theorem dX0_tells_93 : decode cX0_tells 93 = .ok (.invokevirtual 28, 3) := by decide +kernel
theorem dX0_tells_96 : decode cX0_tells 96 = .ok (.aload_n 0, 1) := by decide +kernel
theorem dX0_tells_97 : decode cX0_tells 97 = .ok (.aload_n 0, 1) := by decide +kernel
theorem dX0_tells_98 : decode cX0_tells 98 = .ok (.getfield 22, 3) := by decide +kernel
theorem dX0_tells_101 : decode cX0_tells 101 = .ok (.iload_n 2, 1) := by decide +kernel
theorem dX0_tells_102 : decode cX0_tells 102 = .ok (.iload_n 3, 1) := by decide +kernel
theorem dX0_tells_103 : decode cX0_tells 103 = .ok (.iconst 1, 1) := by decide +kernel
theorem dX0_tells_104 : decode cX0_tells 104 = .ok (.iadd, 1) := by decide +kernel
theorem dX0_tells_105 : decode cX0_tells 105 = .ok (.invokevirtual 36, 3) := by decide +kernel
theorem dX0_tells_108 : decode cX0_tells 108 = .ok (.iconst 2, 1) := by decide +kernel
theorem dX0_tells_109 : decode cX0_tells 109 = .ok (.imul, 1) := by decide +kernel
theorem dX0_tells_110 : decode cX0_tells 110 = .ok (.ireturn, 1) := by decide +kernel
theorem dX1_init_0 : decode cX1_init 0 = .ok (.aload_n 0, 1) := by decide +kernel
theorem dX1_init_1 : decode cX1_init 1 = .ok (.invokespecial 3, 3) := by decide +kernel
theorem dX1_init_4 : decode cX1_init 4 = .ok (.aload_n 0, 1) := by decide +kernel
theorem dX1_init_5 : decode cX1_init 5 = .ok (.new 9, 3) := by decide +kernel
theorem dX1_init_8 : decode cX1_init 8 = .ok (.dup, 1) := by decide +kernel
theorem dX1_init_9 : decode cX1_init 9 = .ok (.invokespecial 11, 3) := by decide +kernel
theorem dX1_init_12 : decode cX1_init 12 = .ok (.putfield 12, 3) := by decide +kernel
theorem dX1_init_15 : decode cX1_init 15 = .ok (.aload_n 0, 1) := by decide +kernel
theorem dX1_init_16 : decode cX1_init 16 = .ok (.bipush 6, 2) := by decide +kernel
theorem dX1_init_18 : decode cX1_init 18 = .ok (.newarray .int, 2) := by decide +kernel
theorem dX1_init_20 : decode cX1_init 20 = .ok (.putfield 18, 3) := by decide +kernel
theorem dX1_init_23 : decode cX1_init 23 = .ok (.aload_n 0, 1) := by decide +kernel
theorem dX1_init_24 : decode cX1_init 24 = .ok (.bipush 7, 2) := by decide +kernel
theorem dX1_init_26 : decode cX1_init 26 = .ok (.newarray .int, 2) := by decide +kernel
theorem dX1_init_28 : decode cX1_init 28 = .ok (.putfield 22, 3) := by decide +kernel
theorem dX1_init_31 : decode cX1_init 31 = .ok (.aload_n 0, 1) := by decide +kernel
theorem dX1_init_32 : decode cX1_init 32 = .ok (.bipush 7, 2) := by decide +kernel
theorem dX1_init_34 : decode cX1_init 34 = .ok (.newarray .int, 2) := by decide +kernel
theorem dX1_init_36 : decode cX1_init 36 = .ok (.putfield 25, 3) := by decide +kernel
theorem dX1_init_39 : decode cX1_init 39 = .ok (.aload_n 0, 1) := by decide +kernel
theorem dX1_init_40 : decode cX1_init 40 = .ok (.bipush 49, 2) := by decide +kernel
theorem dX1_init_42 : decode cX1_init 42 = .ok (.newarray .int, 2) := by decide +kernel
theorem dX1_init_44 : decode cX1_init 44 = .ok (.putfield 28, 3) := by decide +kernel
theorem dX1_init_47 : decode cX1_init 47 = .ok (.aload_n 0, 1) := by decide +kernel
theorem dX1_init_48 : decode cX1_init 48 = .ok (.bipush 49, 2) := by decide +kernel
theorem dX1_init_50 : decode cX1_init 50 = .ok (.newarray .int, 2) := by decide +kernel
theorem dX1_init_52 : decode cX1_init 52 = .ok (.putfield 31, 3) := by decide +kernel
theorem dX1_init_55 : decode cX1_init 55 = .ok (.aload_n 0, 1) := by decide +kernel
theorem dX1_init_56 : decode cX1_init 56 = .ok (.bipush 49, 2) := by decide +kernel
theorem dX1_init_58 : decode cX1_init 58 = .ok (.newarray .int, 2) := by decide +kernel
theorem dX1_init_60 : decode cX1_init 60 = .ok (.putfield 34, 3) := by decide +kernel
theorem dX1_init_63 : decode cX1_init 63 = .ok (.aload_n 0, 1) := by decide +kernel
theorem dX1_init_64 : decode cX1_init 64 = .ok (.bipush 49, 2) := by decide +kernel
theorem dX1_init_66 : decode cX1_init 66 = .ok (.newarray .int, 2) := by decide +kernel
theorem dX1_init_68 : decode cX1_init 68 = .ok (.putfield 37, 3) := by decide +kernel
theorem dX1_init_71 : decode cX1_init 71 = .ok (.aload_n 0, 1) := by decide +kernel
theorem dX1_init_72 : decode cX1_init 72 = .ok (.bipush 7, 2) := by decide +kernel
theorem dX1_init_74 : decode cX1_init 74 = .ok (.newarray .long, 2) := by decide +kernel
theorem dX1_init_76 : decode cX1_init 76 = .ok (.putfield 40, 3) := by decide +kernel
theorem dX1_init_79 : decode cX1_init 79 = .ok (.aload_n 0, 1) := by decide +kernel
theorem dX1_init_80 : decode cX1_init 80 = .ok (.bipush 7, 2) := by decide +kernel
theorem dX1_init_82 : decode cX1_init 82 = .ok (.newarray .long, 2) := by decide +kernel
theorem dX1_init_84 : decode cX1_init 84 = .ok (.putfield 44, 3) := by decide +kernel
theorem dX1_init_87 : decode cX1_init 87 = .ok (.aload_n 0, 1) := by decide +kernel
theorem dX1_init_88 : decode cX1_init 88 = .ok (.iconst (-1), 1) := by decide +kernel
theorem dX1_init_89 : decode cX1_init 89 = .ok (.putfield 47, 3) := by decide +kernel
theorem dX1_init_92 : decode cX1_init 92 = .ok (.return_, 1) := by decide +kernel
theorem dX1_findSizes_0 : decode cX1_findSizes 0 = .ok (.iconst 0, 1) := by decide +kernel
theorem dX1_findSizes_1 : decode cX1_findSizes 1 = .ok (.istore_n 2, 1) := by decide +kernel
theorem dX1_findSizes_2 : decode cX1_findSizes 2 = .ok (.iload_n 2, 1) := by decide +kernel
theorem dX1_findSizes_3 : decode cX1_findSizes 3 = .ok (.aload_n 0, 1) := by decide +kernel
theorem dX1_findSizes_4 : decode cX1_findSizes 4 = .ok (.getfield 12, 3) := by decide +kernel
theorem dX1_findSizes_7 : decode cX1_findSizes 7 = .ok (.getfield 51, 3) := by decide +kernel
theorem dX1_findSizes_10 : decode cX1_findSizes 10 = .ok (.if_icmp .ge 61, 3) := by decide +kernel
theorem dX1_findSizes_13 : decode cX1_findSizes 13 = .ok (.aload_n 0, 1) := by decide +kernel
theorem dX1_findSizes_14 : decode cX1_findSizes 14 = .ok (.getfield 12, 3) := by decide +kernel
theorem dX1_findSizes_17 : decode cX1_findSizes 17 = .ok (.iload_n 2, 1) := by decide +kernel
theorem dX1_findSizes_18 : decode cX1_findSizes 18 = .ok (.aload_n 0, 1) := by decide +kernel
theorem dX1_findSizes_19 : decode cX1_findSizes 19 = .ok (.getfield 18, 3) := by decide +kernel
theorem dX1_findSizes_22 : decode cX1_findSizes 22 = .ok (.invokevirtual 54, 3) := by decide +kernel
theorem dX1_findSizes_25 : decode cX1_findSizes 25 = .ok (.aload_n 0, 1) := by decide +kernel
theorem dX1_findSizes_26 : decode cX1_findSizes 26 = .ok (.getfield 22, 3) := by decide +kernel
theorem dX1_findSizes_29 : decode cX1_findSizes 29 = .ok (.iload_n 2, 1) := by decide +kernel
theorem dX1_findSizes_30 : decode cX1_findSizes 30 = .ok (.aload_n 0, 1) := by decide +kernel
theorem dX1_findSizes_31 : decode cX1_findSizes 31 = .ok (.getfield 12, 3) := by decide +kernel
theorem dX1_findSizes_34 : decode cX1_findSizes 34 = .ok (.getfield 58, 3) := by decide +kernel
theorem dX1_findSizes_37 : decode cX1_findSizes 37 = .ok (.iload_n 2, 1) := by decide +kernel
theorem dX1_findSizes_38 : decode cX1_findSizes 38 = .ok (.iaload, 1) := by decide +kernel
theorem dX1_findSizes_39 : decode cX1_findSizes 39 = .ok (.aload_n 1, 1) := by decide +kernel
theorem dX1_findSizes_40 : decode cX1_findSizes 40 = .ok (.iconst 0, 1) := by decide +kernel
theorem dX1_findSizes_41 : decode cX1_findSizes 41 = .ok (.aload_n 0, 1) := by decide +kernel
theorem dX1_findSizes_42 : decode cX1_findSizes 42 = .ok (.getfield 18, 3) := by decide +kernel
theorem dX1_findSizes_45 : decode cX1_findSizes 45 = .ok (.invokevirtual 61, 3) := by decide +kernel
theorem dX1_findSizes_48 : decode cX1_findSizes 48 = .ok (.iadd, 1) := by decide +kernel
theorem dX1_findSizes_49 : decode cX1_findSizes 49 = .ok (.iastore, 1) := by decide +kernel
theorem dX1_findSizes_50 : decode cX1_findSizes 50 = .ok (.aload_n 0, 1) := by decide +kernel
theorem dX1_findSizes_51 : decode cX1_findSizes 51 = .ok (.getfield 25, 3) := by decide +kernel
theorem dX1_findSizes_54 : decode cX1_findSizes 54 = .ok (.iload_n 2, 1) := by decide +kernel
theorem dX1_findSizes_55 : decode cX1_findSizes 55 = .ok (.aload_n 1, 1) := by decide +kernel
theorem dX1_findSizes_56 : decode cX1_findSizes 56 = .ok (.iconst 1, 1) := by decide +kernel
theorem dX1_findSizes_57 : decode cX1_findSizes 57 = .ok (.aload_n 0, 1) := by decide +kernel
theorem dX1_findSizes_58 : decode cX1_findSizes 58 = .ok (.getfield 18, 3) := by decide +kernel
theorem dX1_findSizes_61 : decode cX1_findSizes 61 = .ok (.invokevirtual 61, 3) := by decide +kernel
theorem dX1_findSizes_64 : decode cX1_findSizes 64 = .ok (.iastore, 1) := by decide +kernel
theorem dX1_findSizes_65 : decode cX1_findSizes 65 = .ok (.iinc 2 1, 3) := by decide +kernel
theorem dX1_findSizes_68 : decode cX1_findSizes 68 = .ok (.goto (-66), 3) := by decide +kernel
theorem dX1_findSizes_71 : decode cX1_findSizes 71 = .ok (.return_, 1) := by decide +kernel
theorem dX1_findLongs_0 : decode cX1_findLongs 0 = .ok (.iconst 0, 1) := by decide +kernel
theorem dX1_findLongs_1 : decode cX1_findLongs 1 = .ok (.istore_n 1, 1) := by decide +kernel
theorem dX1_findLongs_2 : decode cX1_findLongs 2 = .ok (.iload_n 1, 1) := by decide +kernel
theorem dX1_findLongs_3 : decode cX1_findLongs 3 = .ok (.aload_n 0, 1) := by decide +kernel
theorem dX1_findLongs_4 : decode cX1_findLongs 4 = .ok (.getfield 12, 3) := by decide +kernel
theorem dX1_findLongs_7 : decode cX1_findLongs 7 = .ok (.getfield 51, 3) := by decide +kernel
theorem dX1_findLongs_10 : decode cX1_findLongs 10 = .ok (.if_icmp .ge 72, 3) := by decide +kernel
theorem dX1_findLongs_13 : decode cX1_findLongs 13 = .ok (.iconst 0, 1) := by decide +kernel
theorem dX1_findLongs_14 : decode cX1_findLongs 14 = .ok (.istore_n 2, 1) := by decide +kernel
theorem dX1_findLongs_15 : decode cX1_findLongs 15 = .ok (.iload_n 2, 1) := by decide +kernel
theorem dX1_findLongs_16 : decode cX1_findLongs 16 = .ok (.aload_n 0, 1) := by decide +kernel
theorem dX1_findLongs_17 : decode cX1_findLongs 17 = .ok (.getfield 12, 3) := by decide +kernel
theorem dX1_findLongs_20 : decode cX1_findLongs 20 = .ok (.getfield 51, 3) := by decide +kernel
theorem dX1_findLongs_23 : decode cX1_findLongs 23 = .ok (.if_icmp .ge 53, 3) := by decide +kernel
theorem dX1_findLongs_26 : decode cX1_findLongs 26 = .ok (.aload_n 0, 1) := by decide +kernel
theorem dX1_findLongs_27 : decode cX1_findLongs 27 = .ok (.getfield 12, 3) := by decide +kernel
theorem dX1_findLongs_30 : decode cX1_findLongs 30 = .ok (.getfield 67, 3) := by decide +kernel
theorem dX1_findLongs_33 : decode cX1_findLongs 33 = .ok (.iload_n 1, 1) := by decide +kernel
theorem dX1_findLongs_34 : decode cX1_findLongs 34 = .ok (.iload_n 2, 1) := by decide +kernel
theorem dX1_findLongs_35 : decode cX1_findLongs 35 = .ok (.invokestatic 70, 3) := by decide +kernel
theorem dX1_findLongs_38 : decode cX1_findLongs 38 = .ok (.iaload, 1) := by decide +kernel
theorem dX1_findLongs_39 : decode cX1_findLongs 39 = .ok (.istore_n 3, 1) := by decide +kernel
theorem dX1_findLongs_40 : decode cX1_findLongs 40 = .ok (.aload_n 0, 1) := by decide +kernel
theorem dX1_findLongs_41 : decode cX1_findLongs 41 = .ok (.getfield 28, 3) := by decide +kernel
theorem dX1_findLongs_44 : decode cX1_findLongs 44 = .ok (.iload_n 1, 1) := by decide +kernel
theorem dX1_findLongs_45 : decode cX1_findLongs 45 = .ok (.iload_n 2, 1) := by decide +kernel
theorem dX1_findLongs_46 : decode cX1_findLongs 46 = .ok (.invokestatic 70, 3) := by decide +kernel
theorem dX1_findLongs_49 : decode cX1_findLongs 49 = .ok (.iload_n 3, 1) := by decide +kernel
theorem dX1_findLongs_50 : decode cX1_findLongs 50 = .ok (.ifCond .ne 7, 3) := by decide +kernel
theorem dX1_findLongs_53 : decode cX1_findLongs 53 = .ok (.iconst 0, 1) := by decide +kernel
theorem dX1_findLongs_54 : decode cX1_findLongs 54 = .ok (.goto 15, 3) := by decide +kernel
theorem dX1_findLongs_57 : decode cX1_findLongs 57 = .ok (.iload_n 3, 1) := by decide +kernel
theorem dX1_findLongs_58 : decode cX1_findLongs 58 = .ok (.aload_n 0, 1) := by decide +kernel
theorem dX1_findLongs_59 : decode cX1_findLongs 59 = .ok (.getfield 25, 3) := by decide +kernel
theorem dX1_findLongs_62 : decode cX1_findLongs 62 = .ok (.iload_n 1, 1) := by decide +kernel
theorem dX1_findLongs_63 : decode cX1_findLongs 63 = .ok (.iload_n 2, 1) := by decide +kernel
theorem dX1_findLongs_64 : decode cX1_findLongs 64 = .ok (.invokestatic 74, 3) := by decide +kernel
theorem dX1_findLongs_67 : decode cX1_findLongs 67 = .ok (.iaload, 1) := by decide +kernel
theorem dX1_findLongs_68 : decode cX1_findLongs 68 = .ok (.iadd, 1) := by decide +kernel
theorem dX1_findLongs_69 : decode cX1_findLongs 69 = .ok (.iastore, 1) := by decide +kernel
theorem dX1_findLongs_70 : decode cX1_findLongs 70 = .ok (.iinc 2 1, 3) := by decide +kernel
theorem dX1_findLongs_73 : decode cX1_findLongs 73 = .ok (.goto (-58), 3) := by decide +kernel
theorem dX1_findLongs_76 : decode cX1_findLongs 76 = .ok (.iinc 1 1, 3) := by decide +kernel
theorem dX1_findLongs_79 : decode cX1_findLongs 79 = .ok (.goto (-77), 3) := by decide +kernel
theorem dX1_findLongs_82 : decode cX1_findLongs 82 = .ok (.return_, 1) := by decide +kernel
theorem dX1_findWays_0 : decode cX1_findWays 0 = .ok (.iconst 0, 1) := by decide +kernel
theorem dX1_findWays_1 : decode cX1_findWays 1 = .ok (.istore_n 1, 1) := by decide +kernel
theorem dX1_findWays_2 : decode cX1_findWays 2 = .ok (.iload_n 1, 1) := by decide +kernel
theorem dX1_findWays_3 : decode cX1_findWays 3 = .ok (.aload_n 0, 1) := by decide +kernel
theorem dX1_findWays_4 : decode cX1_findWays 4 = .ok (.getfield 12, 3) := by decide +kernel
theorem dX1_findWays_7 : decode cX1_findWays 7 = .ok (.getfield 51, 3) := by decide +kernel
theorem dX1_findWays_10 : decode cX1_findWays 10 = .ok (.if_icmp .ge 68, 3) := by decide +kernel
theorem dX1_findWays_13 : decode cX1_findWays 13 = .ok (.iconst 0, 1) := by decide +kernel
theorem dX1_findWays_14 : decode cX1_findWays 14 = .ok (.istore_n 2, 1) := by decide +kernel
theorem dX1_findWays_15 : decode cX1_findWays 15 = .ok (.iload_n 2, 1) := by decide +kernel
theorem dX1_findWays_16 : decode cX1_findWays 16 = .ok (.aload_n 0, 1) := by decide +kernel
theorem dX1_findWays_17 : decode cX1_findWays 17 = .ok (.getfield 12, 3) := by decide +kernel
theorem dX1_findWays_20 : decode cX1_findWays 20 = .ok (.getfield 51, 3) := by decide +kernel
theorem dX1_findWays_23 : decode cX1_findWays 23 = .ok (.if_icmp .ge 49, 3) := by decide +kernel
theorem dX1_findWays_26 : decode cX1_findWays 26 = .ok (.aload_n 0, 1) := by decide +kernel
theorem dX1_findWays_27 : decode cX1_findWays 27 = .ok (.getfield 28, 3) := by decide +kernel
theorem dX1_findWays_30 : decode cX1_findWays 30 = .ok (.iload_n 1, 1) := by decide +kernel
theorem dX1_findWays_31 : decode cX1_findWays 31 = .ok (.iload_n 2, 1) := by decide +kernel
theorem dX1_findWays_32 : decode cX1_findWays 32 = .ok (.invokestatic 70, 3) := by decide +kernel
theorem dX1_findWays_35 : decode cX1_findWays 35 = .ok (.iaload, 1) := by decide +kernel
theorem dX1_findWays_36 : decode cX1_findWays 36 = .ok (.istore_n 3, 1) := by decide +kernel
theorem dX1_findWays_37 : decode cX1_findWays 37 = .ok (.aload_n 0, 1) := by decide +kernel
theorem dX1_findWays_38 : decode cX1_findWays 38 = .ok (.getfield 31, 3) := by decide +kernel
theorem dX1_findWays_41 : decode cX1_findWays 41 = .ok (.iload_n 1, 1) := by decide +kernel
theorem dX1_findWays_42 : decode cX1_findWays 42 = .ok (.iload_n 2, 1) := by decide +kernel
theorem dX1_findWays_43 : decode cX1_findWays 43 = .ok (.invokestatic 70, 3) := by decide +kernel
theorem dX1_findWays_46 : decode cX1_findWays 46 = .ok (.iload_n 1, 1) := by decide +kernel
theorem dX1_findWays_47 : decode cX1_findWays 47 = .ok (.iload_n 2, 1) := by decide +kernel
theorem dX1_findWays_48 : decode cX1_findWays 48 = .ok (.if_icmp .ne 7, 3) := by decide +kernel
theorem dX1_findWays_51 : decode cX1_findWays 51 = .ok (.iconst 0, 1) := by decide +kernel
theorem dX1_findWays_52 : decode cX1_findWays 52 = .ok (.goto 13, 3) := by decide +kernel
theorem dX1_findWays_55 : decode cX1_findWays 55 = .ok (.iload_n 3, 1) := by decide +kernel
theorem dX1_findWays_56 : decode cX1_findWays 56 = .ok (.ifCond .le 7, 3) := by decide +kernel
theorem dX1_findWays_59 : decode cX1_findWays 59 = .ok (.iload_n 3, 1) := by decide +kernel
theorem dX1_findWays_60 : decode cX1_findWays 60 = .ok (.goto 5, 3) := by decide +kernel
theorem dX1_findWays_63 : decode cX1_findWays 63 = .ok (.ldc 79, 2) := by decide +kernel
theorem dX1_findWays_65 : decode cX1_findWays 65 = .ok (.iastore, 1) := by decide +kernel
theorem dX1_findWays_66 : decode cX1_findWays 66 = .ok (.iinc 2 1, 3) := by decide +kernel
theorem dX1_findWays_69 : decode cX1_findWays 69 = .ok (.goto (-54), 3) := by decide +kernel
theorem dX1_findWays_72 : decode cX1_findWays 72 = .ok (.iinc 1 1, 3) := by decide +kernel
theorem dX1_findWays_75 : decode cX1_findWays 75 = .ok (.goto (-73), 3) := by decide +kernel
theorem dX1_findWays_78 : decode cX1_findWays 78 = .ok (.iconst 0, 1) := by decide +kernel
theorem dX1_findWays_79 : decode cX1_findWays 79 = .ok (.istore_n 1, 1) := by decide +kernel
theorem dX1_findWays_80 : decode cX1_findWays 80 = .ok (.iload_n 1, 1) := by decide +kernel
theorem dX1_findWays_81 : decode cX1_findWays 81 = .ok (.aload_n 0, 1) := by decide +kernel
theorem dX1_findWays_82 : decode cX1_findWays 82 = .ok (.getfield 12, 3) := by decide +kernel
theorem dX1_findWays_85 : decode cX1_findWays 85 = .ok (.getfield 51, 3) := by decide +kernel
theorem dX1_findWays_88 : decode cX1_findWays 88 = .ok (.if_icmp .ge 95, 3) := by decide +kernel
theorem dX1_findWays_91 : decode cX1_findWays 91 = .ok (.iconst 0, 1) := by decide +kernel
theorem dX1_findWays_92 : decode cX1_findWays 92 = .ok (.istore_n 2, 1) := by decide +kernel
theorem dX1_findWays_93 : decode cX1_findWays 93 = .ok (.iload_n 2, 1) := by decide +kernel
theorem dX1_findWays_94 : decode cX1_findWays 94 = .ok (.aload_n 0, 1) := by decide +kernel
theorem dX1_findWays_95 : decode cX1_findWays 95 = .ok (.getfield 12, 3) := by decide +kernel
theorem dX1_findWays_98 : decode cX1_findWays 98 = .ok (.getfield 51, 3) := by decide +kernel
theorem dX1_findWays_101 : decode cX1_findWays 101 = .ok (.if_icmp .ge 76, 3) := by decide +kernel
theorem dX1_findWays_104 : decode cX1_findWays 104 = .ok (.iconst 0, 1) := by decide +kernel
theorem dX1_findWays_105 : decode cX1_findWays 105 = .ok (.istore_n 3, 1) := by decide +kernel
theorem dX1_findWays_106 : decode cX1_findWays 106 = .ok (.iload_n 3, 1) := by decide +kernel
theorem dX1_findWays_107 : decode cX1_findWays 107 = .ok (.aload_n 0, 1) := by decide +kernel
theorem dX1_findWays_108 : decode cX1_findWays 108 = .ok (.getfield 12, 3) := by decide +kernel
theorem dX1_findWays_111 : decode cX1_findWays 111 = .ok (.getfield 51, 3) := by decide +kernel
theorem dX1_findWays_114 : decode cX1_findWays 114 = .ok (.if_icmp .ge 57, 3) := by decide +kernel
theorem dX1_findWays_117 : decode cX1_findWays 117 = .ok (.aload_n 0, 1) := by decide +kernel
theorem dX1_findWays_118 : decode cX1_findWays 118 = .ok (.getfield 31, 3) := by decide +kernel
theorem dX1_findWays_121 : decode cX1_findWays 121 = .ok (.iload_n 2, 1) := by decide +kernel
theorem dX1_findWays_122 : decode cX1_findWays 122 = .ok (.iload_n 1, 1) := by decide +kernel
theorem dX1_findWays_123 : decode cX1_findWays 123 = .ok (.invokestatic 70, 3) := by decide +kernel
theorem dX1_findWays_126 : decode cX1_findWays 126 = .ok (.iaload, 1) := by decide +kernel
theorem dX1_findWays_127 : decode cX1_findWays 127 = .ok (.aload_n 0, 1) := by decide +kernel
theorem dX1_findWays_128 : decode cX1_findWays 128 = .ok (.getfield 31, 3) := by decide +kernel
theorem dX1_findWays_131 : decode cX1_findWays 131 = .ok (.iload_n 1, 1) := by decide +kernel
theorem dX1_findWays_132 : decode cX1_findWays 132 = .ok (.iload_n 3, 1) := by decide +kernel
theorem dX1_findWays_133 : decode cX1_findWays 133 = .ok (.invokestatic 70, 3) := by decide +kernel
theorem dX1_findWays_136 : decode cX1_findWays 136 = .ok (.iaload, 1) := by decide +kernel
theorem dX1_findWays_137 : decode cX1_findWays 137 = .ok (.iadd, 1) := by decide +kernel
theorem dX1_findWays_138 : decode cX1_findWays 138 = .ok (.istore 4, 2) := by decide +kernel
theorem dX1_findWays_140 : decode cX1_findWays 140 = .ok (.aload_n 0, 1) := by decide +kernel
theorem dX1_findWays_141 : decode cX1_findWays 141 = .ok (.getfield 31, 3) := by decide +kernel
theorem dX1_findWays_144 : decode cX1_findWays 144 = .ok (.iload_n 2, 1) := by decide +kernel
theorem dX1_findWays_145 : decode cX1_findWays 145 = .ok (.iload_n 3, 1) := by decide +kernel
theorem dX1_findWays_146 : decode cX1_findWays 146 = .ok (.invokestatic 70, 3) := by decide +kernel
theorem dX1_findWays_149 : decode cX1_findWays 149 = .ok (.aload_n 0, 1) := by decide +kernel
theorem dX1_findWays_150 : decode cX1_findWays 150 = .ok (.getfield 31, 3) := by decide +kernel
theorem dX1_findWays_153 : decode cX1_findWays 153 = .ok (.iload_n 2, 1) := by decide +kernel
theorem dX1_findWays_154 : decode cX1_findWays 154 = .ok (.iload_n 3, 1) := by decide +kernel
theorem dX1_findWays_155 : decode cX1_findWays 155 = .ok (.invokestatic 70, 3) := by decide +kernel
theorem dX1_findWays_158 : decode cX1_findWays 158 = .ok (.iaload, 1) := by decide +kernel
theorem dX1_findWays_159 : decode cX1_findWays 159 = .ok (.iload 4, 2) := by decide +kernel
theorem dX1_findWays_161 : decode cX1_findWays 161 = .ok (.invokestatic 74, 3) := by decide +kernel
theorem dX1_findWays_164 : decode cX1_findWays 164 = .ok (.iastore, 1) := by decide +kernel
theorem dX1_findWays_165 : decode cX1_findWays 165 = .ok (.iinc 3 1, 3) := by decide +kernel
theorem dX1_findWays_168 : decode cX1_findWays 168 = .ok (.goto (-62), 3) := by decide +kernel
theorem dX1_findWays_171 : decode cX1_findWays 171 = .ok (.iinc 2 1, 3) := by decide +kernel
theorem dX1_findWays_174 : decode cX1_findWays 174 = .ok (.goto (-81), 3) := by decide +kernel
theorem dX1_findWays_177 : decode cX1_findWays 177 = .ok (.iinc 1 1, 3) := by decide +kernel
theorem dX1_findWays_180 : decode cX1_findWays 180 = .ok (.goto (-100), 3) := by decide +kernel
theorem dX1_findWays_183 : decode cX1_findWays 183 = .ok (.return_, 1) := by decide +kernel
theorem dX1_leads_0 : decode cX1_leads 0 = .ok (.aload_n 0, 1) := by decide +kernel
theorem dX1_leads_1 : decode cX1_leads 1 = .ok (.getfield 31, 3) := by decide +kernel
theorem dX1_leads_4 : decode cX1_leads 4 = .ok (.iload_n 1, 1) := by decide +kernel
theorem dX1_leads_5 : decode cX1_leads 5 = .ok (.iload_n 2, 1) := by decide +kernel
theorem dX1_leads_6 : decode cX1_leads 6 = .ok (.invokestatic 70, 3) := by decide +kernel
theorem dX1_leads_9 : decode cX1_leads 9 = .ok (.iaload, 1) := by decide +kernel
theorem dX1_leads_10 : decode cX1_leads 10 = .ok (.ldc 79, 2) := by decide +kernel
theorem dX1_leads_12 : decode cX1_leads 12 = .ok (.if_icmp .ge 7, 3) := by decide +kernel
theorem dX1_leads_15 : decode cX1_leads 15 = .ok (.iconst 1, 1) := by decide +kernel
theorem dX1_leads_16 : decode cX1_leads 16 = .ok (.goto 4, 3) := by decide +kernel
theorem dX1_leads_19 : decode cX1_leads 19 = .ok (.iconst 0, 1) := by decide +kernel
theorem dX1_leads_20 : decode cX1_leads 20 = .ok (.ireturn, 1) := by decide +kernel
theorem dX1_findTowards_0 : decode cX1_findTowards 0 = .ok (.iconst 0, 1) := by decide +kernel
theorem dX1_findTowards_1 : decode cX1_findTowards 1 = .ok (.istore_n 1, 1) := by decide +kernel
theorem dX1_findTowards_2 : decode cX1_findTowards 2 = .ok (.iload_n 1, 1) := by decide +kernel
theorem dX1_findTowards_3 : decode cX1_findTowards 3 = .ok (.aload_n 0, 1) := by decide +kernel
theorem dX1_findTowards_4 : decode cX1_findTowards 4 = .ok (.getfield 12, 3) := by decide +kernel
theorem dX1_findTowards_7 : decode cX1_findTowards 7 = .ok (.getfield 51, 3) := by decide +kernel
theorem dX1_findTowards_10 : decode cX1_findTowards 10 = .ok (.if_icmp .ge 44, 3) := by decide +kernel
theorem dX1_findTowards_13 : decode cX1_findTowards 13 = .ok (.iconst 0, 1) := by decide +kernel
theorem dX1_findTowards_14 : decode cX1_findTowards 14 = .ok (.istore_n 2, 1) := by decide +kernel
theorem dX1_findTowards_15 : decode cX1_findTowards 15 = .ok (.iload_n 2, 1) := by decide +kernel
theorem dX1_findTowards_16 : decode cX1_findTowards 16 = .ok (.aload_n 0, 1) := by decide +kernel
theorem dX1_findTowards_17 : decode cX1_findTowards 17 = .ok (.getfield 12, 3) := by decide +kernel
theorem dX1_findTowards_20 : decode cX1_findTowards 20 = .ok (.getfield 51, 3) := by decide +kernel
theorem dX1_findTowards_23 : decode cX1_findTowards 23 = .ok (.if_icmp .ge 25, 3) := by decide +kernel
theorem dX1_findTowards_26 : decode cX1_findTowards 26 = .ok (.aload_n 0, 1) := by decide +kernel
theorem dX1_findTowards_27 : decode cX1_findTowards 27 = .ok (.getfield 34, 3) := by decide +kernel
theorem dX1_findTowards_30 : decode cX1_findTowards 30 = .ok (.iload_n 1, 1) := by decide +kernel
theorem dX1_findTowards_31 : decode cX1_findTowards 31 = .ok (.iload_n 2, 1) := by decide +kernel
theorem dX1_findTowards_32 : decode cX1_findTowards 32 = .ok (.invokestatic 70, 3) := by decide +kernel
theorem dX1_findTowards_35 : decode cX1_findTowards 35 = .ok (.aload_n 0, 1) := by decide +kernel
theorem dX1_findTowards_36 : decode cX1_findTowards 36 = .ok (.iload_n 1, 1) := by decide +kernel
theorem dX1_findTowards_37 : decode cX1_findTowards 37 = .ok (.iload_n 2, 1) := by decide +kernel
theorem dX1_findTowards_38 : decode cX1_findTowards 38 = .ok (.invokevirtual 80, 3) := by decide +kernel
theorem dX1_findTowards_41 : decode cX1_findTowards 41 = .ok (.iastore, 1) := by decide +kernel
theorem dX1_findTowards_42 : decode cX1_findTowards 42 = .ok (.iinc 2 1, 3) := by decide +kernel
theorem dX1_findTowards_45 : decode cX1_findTowards 45 = .ok (.goto (-30), 3) := by decide +kernel
theorem dX1_findTowards_48 : decode cX1_findTowards 48 = .ok (.iinc 1 1, 3) := by decide +kernel
theorem dX1_findTowards_51 : decode cX1_findTowards 51 = .ok (.goto (-49), 3) := by decide +kernel
theorem dX1_findTowards_54 : decode cX1_findTowards 54 = .ok (.return_, 1) := by decide +kernel
theorem dX1_firstOfWay_0 : decode cX1_firstOfWay 0 = .ok (.iload_n 1, 1) := by decide +kernel
theorem dX1_firstOfWay_1 : decode cX1_firstOfWay 1 = .ok (.iload_n 2, 1) := by decide +kernel
theorem dX1_firstOfWay_2 : decode cX1_firstOfWay 2 = .ok (.if_icmp .eq 12, 3) := by decide +kernel
theorem dX1_firstOfWay_5 : decode cX1_firstOfWay 5 = .ok (.aload_n 0, 1) := by decide +kernel
theorem dX1_firstOfWay_6 : decode cX1_firstOfWay 6 = .ok (.iload_n 1, 1) := by decide +kernel
theorem dX1_firstOfWay_7 : decode cX1_firstOfWay 7 = .ok (.iload_n 2, 1) := by decide +kernel
theorem dX1_firstOfWay_8 : decode cX1_firstOfWay 8 = .ok (.invokevirtual 83, 3) := by decide +kernel
theorem dX1_firstOfWay_11 : decode cX1_firstOfWay 11 = .ok (.ifCond .ne 6, 3) := by decide +kernel
theorem dX1_firstOfWay_14 : decode cX1_firstOfWay 14 = .ok (.bipush (-5), 2) := by decide +kernel
theorem dX1_firstOfWay_16 : decode cX1_firstOfWay 16 = .ok (.ireturn, 1) := by decide +kernel
theorem dX1_firstOfWay_17 : decode cX1_firstOfWay 17 = .ok (.iconst 0, 1) := by decide +kernel
theorem dX1_firstOfWay_18 : decode cX1_firstOfWay 18 = .ok (.istore_n 3, 1) := by decide +kernel
theorem dX1_firstOfWay_19 : decode cX1_firstOfWay 19 = .ok (.iload_n 3, 1) := by decide +kernel
theorem dX1_firstOfWay_20 : decode cX1_firstOfWay 20 = .ok (.aload_n 0, 1) := by decide +kernel
theorem dX1_firstOfWay_21 : decode cX1_firstOfWay 21 = .ok (.getfield 12, 3) := by decide +kernel
theorem dX1_firstOfWay_24 : decode cX1_firstOfWay 24 = .ok (.getfield 51, 3) := by decide +kernel
theorem dX1_firstOfWay_27 : decode cX1_firstOfWay 27 = .ok (.if_icmp .ge 54, 3) := by decide +kernel
theorem dX1_firstOfWay_30 : decode cX1_firstOfWay 30 = .ok (.aload_n 0, 1) := by decide +kernel
theorem dX1_firstOfWay_31 : decode cX1_firstOfWay 31 = .ok (.getfield 28, 3) := by decide +kernel
theorem dX1_firstOfWay_34 : decode cX1_firstOfWay 34 = .ok (.iload_n 1, 1) := by decide +kernel
theorem dX1_firstOfWay_35 : decode cX1_firstOfWay 35 = .ok (.iload_n 3, 1) := by decide +kernel
theorem dX1_firstOfWay_36 : decode cX1_firstOfWay 36 = .ok (.invokestatic 70, 3) := by decide +kernel
theorem dX1_firstOfWay_39 : decode cX1_firstOfWay 39 = .ok (.iaload, 1) := by decide +kernel
theorem dX1_firstOfWay_40 : decode cX1_firstOfWay 40 = .ok (.istore 4, 2) := by decide +kernel
theorem dX1_firstOfWay_42 : decode cX1_firstOfWay 42 = .ok (.iload 4, 2) := by decide +kernel
theorem dX1_firstOfWay_44 : decode cX1_firstOfWay 44 = .ok (.ifCond .le 31, 3) := by decide +kernel
theorem dX1_firstOfWay_47 : decode cX1_firstOfWay 47 = .ok (.iload 4, 2) := by decide +kernel
theorem dX1_firstOfWay_49 : decode cX1_firstOfWay 49 = .ok (.aload_n 0, 1) := by decide +kernel
theorem dX1_firstOfWay_50 : decode cX1_firstOfWay 50 = .ok (.getfield 31, 3) := by decide +kernel
theorem dX1_firstOfWay_53 : decode cX1_firstOfWay 53 = .ok (.iload_n 3, 1) := by decide +kernel
theorem dX1_firstOfWay_54 : decode cX1_firstOfWay 54 = .ok (.iload_n 2, 1) := by decide +kernel
theorem dX1_firstOfWay_55 : decode cX1_firstOfWay 55 = .ok (.invokestatic 70, 3) := by decide +kernel
theorem dX1_firstOfWay_58 : decode cX1_firstOfWay 58 = .ok (.iaload, 1) := by decide +kernel
theorem dX1_firstOfWay_59 : decode cX1_firstOfWay 59 = .ok (.iadd, 1) := by decide +kernel
theorem dX1_firstOfWay_60 : decode cX1_firstOfWay 60 = .ok (.aload_n 0, 1) := by decide +kernel
theorem dX1_firstOfWay_61 : decode cX1_firstOfWay 61 = .ok (.getfield 31, 3) := by decide +kernel
theorem dX1_firstOfWay_64 : decode cX1_firstOfWay 64 = .ok (.iload_n 1, 1) := by decide +kernel
theorem dX1_firstOfWay_65 : decode cX1_firstOfWay 65 = .ok (.iload_n 2, 1) := by decide +kernel
theorem dX1_firstOfWay_66 : decode cX1_firstOfWay 66 = .ok (.invokestatic 70, 3) := by decide +kernel
theorem dX1_firstOfWay_69 : decode cX1_firstOfWay 69 = .ok (.iaload, 1) := by decide +kernel
theorem dX1_firstOfWay_70 : decode cX1_firstOfWay 70 = .ok (.if_icmp .ne 5, 3) := by decide +kernel
theorem dX1_firstOfWay_73 : decode cX1_firstOfWay 73 = .ok (.iload_n 3, 1) := by decide +kernel
theorem dX1_firstOfWay_74 : decode cX1_firstOfWay 74 = .ok (.ireturn, 1) := by decide +kernel
theorem dX1_firstOfWay_75 : decode cX1_firstOfWay 75 = .ok (.iinc 3 1, 3) := by decide +kernel
theorem dX1_firstOfWay_78 : decode cX1_firstOfWay 78 = .ok (.goto (-59), 3) := by decide +kernel
theorem dX1_firstOfWay_81 : decode cX1_firstOfWay 81 = .ok (.bipush (-5), 2) := by decide +kernel
theorem dX1_firstOfWay_83 : decode cX1_firstOfWay 83 = .ok (.ireturn, 1) := by decide +kernel
theorem dX1_findSteps_0 : decode cX1_findSteps 0 = .ok (.iconst 0, 1) := by decide +kernel
theorem dX1_findSteps_1 : decode cX1_findSteps 1 = .ok (.istore_n 1, 1) := by decide +kernel
theorem dX1_findSteps_2 : decode cX1_findSteps 2 = .ok (.iload_n 1, 1) := by decide +kernel
theorem dX1_findSteps_3 : decode cX1_findSteps 3 = .ok (.aload_n 0, 1) := by decide +kernel
theorem dX1_findSteps_4 : decode cX1_findSteps 4 = .ok (.getfield 12, 3) := by decide +kernel
theorem dX1_findSteps_7 : decode cX1_findSteps 7 = .ok (.getfield 51, 3) := by decide +kernel
theorem dX1_findSteps_10 : decode cX1_findSteps 10 = .ok (.if_icmp .ge 94, 3) := by decide +kernel
theorem dX1_findSteps_13 : decode cX1_findSteps 13 = .ok (.iconst 0, 1) := by decide +kernel
theorem dX1_findSteps_14 : decode cX1_findSteps 14 = .ok (.istore_n 2, 1) := by decide +kernel
theorem dX1_findSteps_15 : decode cX1_findSteps 15 = .ok (.iload_n 2, 1) := by decide +kernel
theorem dX1_findSteps_16 : decode cX1_findSteps 16 = .ok (.aload_n 0, 1) := by decide +kernel
theorem dX1_findSteps_17 : decode cX1_findSteps 17 = .ok (.getfield 12, 3) := by decide +kernel
theorem dX1_findSteps_20 : decode cX1_findSteps 20 = .ok (.getfield 51, 3) := by decide +kernel
theorem dX1_findSteps_23 : decode cX1_findSteps 23 = .ok (.if_icmp .ge 75, 3) := by decide +kernel
theorem dX1_findSteps_26 : decode cX1_findSteps 26 = .ok (.iload_n 1, 1) := by decide +kernel
theorem dX1_findSteps_27 : decode cX1_findSteps 27 = .ok (.iload_n 2, 1) := by decide +kernel
theorem dX1_findSteps_28 : decode cX1_findSteps 28 = .ok (.if_icmp .ne 7, 3) := by decide +kernel
theorem dX1_findSteps_31 : decode cX1_findSteps 31 = .ok (.iconst (-1), 1) := by decide +kernel
theorem dX1_findSteps_32 : decode cX1_findSteps 32 = .ok (.goto 9, 3) := by decide +kernel
theorem dX1_findSteps_35 : decode cX1_findSteps 35 = .ok (.aload_n 0, 1) := by decide +kernel
theorem dX1_findSteps_36 : decode cX1_findSteps 36 = .ok (.iload_n 1, 1) := by decide +kernel
theorem dX1_findSteps_37 : decode cX1_findSteps 37 = .ok (.iload_n 2, 1) := by decide +kernel
theorem dX1_findSteps_38 : decode cX1_findSteps 38 = .ok (.invokevirtual 87, 3) := by decide +kernel
theorem dX1_findSteps_41 : decode cX1_findSteps 41 = .ok (.istore_n 3, 1) := by decide +kernel
theorem dX1_findSteps_42 : decode cX1_findSteps 42 = .ok (.iload_n 1, 1) := by decide +kernel
theorem dX1_findSteps_43 : decode cX1_findSteps 43 = .ok (.aload_n 0, 1) := by decide +kernel
theorem dX1_findSteps_44 : decode cX1_findSteps 44 = .ok (.getfield 47, 3) := by decide +kernel
theorem dX1_findSteps_47 : decode cX1_findSteps 47 = .ok (.if_icmp .ne 16, 3) := by decide +kernel
theorem dX1_findSteps_50 : decode cX1_findSteps 50 = .ok (.iload_n 3, 1) := by decide +kernel
theorem dX1_findSteps_51 : decode cX1_findSteps 51 = .ok (.aload_n 0, 1) := by decide +kernel
theorem dX1_findSteps_52 : decode cX1_findSteps 52 = .ok (.getfield 90, 3) := by decide +kernel
theorem dX1_findSteps_55 : decode cX1_findSteps 55 = .ok (.if_icmp .ne 8, 3) := by decide +kernel
theorem dX1_findSteps_58 : decode cX1_findSteps 58 = .ok (.aload_n 0, 1) := by decide +kernel
theorem dX1_findSteps_59 : decode cX1_findSteps 59 = .ok (.getfield 93, 3) := by decide +kernel
theorem dX1_findSteps_62 : decode cX1_findSteps 62 = .ok (.istore_n 3, 1) := by decide +kernel
theorem dX1_findSteps_63 : decode cX1_findSteps 63 = .ok (.aload_n 0, 1) := by decide +kernel
theorem dX1_findSteps_64 : decode cX1_findSteps 64 = .ok (.getfield 37, 3) := by decide +kernel
theorem dX1_findSteps_67 : decode cX1_findSteps 67 = .ok (.iload_n 1, 1) := by decide +kernel
theorem dX1_findSteps_68 : decode cX1_findSteps 68 = .ok (.iload_n 2, 1) := by decide +kernel
theorem dX1_findSteps_69 : decode cX1_findSteps 69 = .ok (.invokestatic 70, 3) := by decide +kernel
theorem dX1_findSteps_72 : decode cX1_findSteps 72 = .ok (.iload_n 3, 1) := by decide +kernel
theorem dX1_findSteps_73 : decode cX1_findSteps 73 = .ok (.ifCond .ge 8, 3) := by decide +kernel
theorem dX1_findSteps_76 : decode cX1_findSteps 76 = .ok (.bipush (-5), 2) := by decide +kernel
theorem dX1_findSteps_78 : decode cX1_findSteps 78 = .ok (.goto 13, 3) := by decide +kernel
theorem dX1_findSteps_81 : decode cX1_findSteps 81 = .ok (.aload_n 0, 1) := by decide +kernel
theorem dX1_findSteps_82 : decode cX1_findSteps 82 = .ok (.getfield 34, 3) := by decide +kernel
theorem dX1_findSteps_85 : decode cX1_findSteps 85 = .ok (.iload_n 1, 1) := by decide +kernel
theorem dX1_findSteps_86 : decode cX1_findSteps 86 = .ok (.iload_n 3, 1) := by decide +kernel
theorem dX1_findSteps_87 : decode cX1_findSteps 87 = .ok (.invokestatic 70, 3) := by decide +kernel
theorem dX1_findSteps_90 : decode cX1_findSteps 90 = .ok (.iaload, 1) := by decide +kernel
theorem dX1_findSteps_91 : decode cX1_findSteps 91 = .ok (.iastore, 1) := by decide +kernel
theorem dX1_findSteps_92 : decode cX1_findSteps 92 = .ok (.iinc 2 1, 3) := by decide +kernel
theorem dX1_findSteps_95 : decode cX1_findSteps 95 = .ok (.goto (-80), 3) := by decide +kernel
theorem dX1_findSteps_98 : decode cX1_findSteps 98 = .ok (.iinc 1 1, 3) := by decide +kernel
theorem dX1_findSteps_101 : decode cX1_findSteps 101 = .ok (.goto (-99), 3) := by decide +kernel
theorem dX1_findSteps_104 : decode cX1_findSteps 104 = .ok (.return_, 1) := by decide +kernel
theorem dX1_aimAt_0 : decode cX1_aimAt 0 = .ok (.aload_n 0, 1) := by decide +kernel
theorem dX1_aimAt_1 : decode cX1_aimAt 1 = .ok (.getfield 12, 3) := by decide +kernel
theorem dX1_aimAt_4 : decode cX1_aimAt 4 = .ok (.iload_n 1, 1) := by decide +kernel
theorem dX1_aimAt_5 : decode cX1_aimAt 5 = .ok (.iload_n 2, 1) := by decide +kernel
theorem dX1_aimAt_6 : decode cX1_aimAt 6 = .ok (.invokevirtual 96, 3) := by decide +kernel
theorem dX1_aimAt_9 : decode cX1_aimAt 9 = .ok (.ifCond .ne 16, 3) := by decide +kernel
theorem dX1_aimAt_12 : decode cX1_aimAt 12 = .ok (.aload_n 0, 1) := by decide +kernel
theorem dX1_aimAt_13 : decode cX1_aimAt 13 = .ok (.getfield 28, 3) := by decide +kernel
theorem dX1_aimAt_16 : decode cX1_aimAt 16 = .ok (.iload_n 1, 1) := by decide +kernel
theorem dX1_aimAt_17 : decode cX1_aimAt 17 = .ok (.iload_n 2, 1) := by decide +kernel
theorem dX1_aimAt_18 : decode cX1_aimAt 18 = .ok (.invokestatic 70, 3) := by decide +kernel
theorem dX1_aimAt_21 : decode cX1_aimAt 21 = .ok (.iaload, 1) := by decide +kernel
theorem dX1_aimAt_22 : decode cX1_aimAt 22 = .ok (.ifCond .le 5, 3) := by decide +kernel
theorem dX1_aimAt_25 : decode cX1_aimAt 25 = .ok (.iload_n 2, 1) := by decide +kernel
theorem dX1_aimAt_26 : decode cX1_aimAt 26 = .ok (.ireturn, 1) := by decide +kernel
theorem dX1_aimAt_27 : decode cX1_aimAt 27 = .ok (.aload_n 0, 1) := by decide +kernel
theorem dX1_aimAt_28 : decode cX1_aimAt 28 = .ok (.getfield 12, 3) := by decide +kernel
theorem dX1_aimAt_31 : decode cX1_aimAt 31 = .ok (.getfield 99, 3) := by decide +kernel
theorem dX1_aimAt_34 : decode cX1_aimAt 34 = .ok (.iload_n 1, 1) := by decide +kernel
theorem dX1_aimAt_35 : decode cX1_aimAt 35 = .ok (.iaload, 1) := by decide +kernel
theorem dX1_aimAt_36 : decode cX1_aimAt 36 = .ok (.iconst 5, 1) := by decide +kernel
theorem dX1_aimAt_37 : decode cX1_aimAt 37 = .ok (.if_icmp .ne 18, 3) := by decide +kernel
theorem dX1_aimAt_40 : decode cX1_aimAt 40 = .ok (.aload_n 0, 1) := by decide +kernel
theorem dX1_aimAt_41 : decode cX1_aimAt 41 = .ok (.iload_n 1, 1) := by decide +kernel
theorem dX1_aimAt_42 : decode cX1_aimAt 42 = .ok (.invokevirtual 102, 3) := by decide +kernel
theorem dX1_aimAt_45 : decode cX1_aimAt 45 = .ok (.iload_n 1, 1) := by decide +kernel
theorem dX1_aimAt_46 : decode cX1_aimAt 46 = .ok (.if_icmp .eq 9, 3) := by decide +kernel
theorem dX1_aimAt_49 : decode cX1_aimAt 49 = .ok (.aload_n 0, 1) := by decide +kernel
theorem dX1_aimAt_50 : decode cX1_aimAt 50 = .ok (.iload_n 1, 1) := by decide +kernel
theorem dX1_aimAt_51 : decode cX1_aimAt 51 = .ok (.invokevirtual 102, 3) := by decide +kernel
theorem dX1_aimAt_54 : decode cX1_aimAt 54 = .ok (.ireturn, 1) := by decide +kernel
theorem dX1_aimAt_55 : decode cX1_aimAt 55 = .ok (.aload_n 0, 1) := by decide +kernel
theorem dX1_aimAt_56 : decode cX1_aimAt 56 = .ok (.getfield 12, 3) := by decide +kernel
theorem dX1_aimAt_59 : decode cX1_aimAt 59 = .ok (.getfield 99, 3) := by decide +kernel
theorem dX1_aimAt_62 : decode cX1_aimAt 62 = .ok (.iload_n 1, 1) := by decide +kernel
theorem dX1_aimAt_63 : decode cX1_aimAt 63 = .ok (.iaload, 1) := by decide +kernel
theorem dX1_aimAt_64 : decode cX1_aimAt 64 = .ok (.tableswitch 72 0 5 #[40, 46, 52, 58, 64, 66], 40) := by decide +kernel
theorem dX1_aimAt_104 : decode cX1_aimAt 104 = .ok (.aload_n 0, 1) := by decide +kernel
theorem dX1_aimAt_105 : decode cX1_aimAt 105 = .ok (.iload_n 1, 1) := by decide +kernel
theorem dX1_aimAt_106 : decode cX1_aimAt 106 = .ok (.invokevirtual 106, 3) := by decide +kernel
theorem dX1_aimAt_109 : decode cX1_aimAt 109 = .ok (.ireturn, 1) := by decide +kernel
theorem dX1_aimAt_110 : decode cX1_aimAt 110 = .ok (.aload_n 0, 1) := by decide +kernel
theorem dX1_aimAt_111 : decode cX1_aimAt 111 = .ok (.iload_n 1, 1) := by decide +kernel
theorem dX1_aimAt_112 : decode cX1_aimAt 112 = .ok (.invokevirtual 109, 3) := by decide +kernel
theorem dX1_aimAt_115 : decode cX1_aimAt 115 = .ok (.ireturn, 1) := by decide +kernel
theorem dX1_aimAt_116 : decode cX1_aimAt 116 = .ok (.aload_n 0, 1) := by decide +kernel
theorem dX1_aimAt_117 : decode cX1_aimAt 117 = .ok (.iload_n 1, 1) := by decide +kernel
theorem dX1_aimAt_118 : decode cX1_aimAt 118 = .ok (.invokevirtual 112, 3) := by decide +kernel
theorem dX1_aimAt_121 : decode cX1_aimAt 121 = .ok (.ireturn, 1) := by decide +kernel
theorem dX1_aimAt_122 : decode cX1_aimAt 122 = .ok (.aload_n 0, 1) := by decide +kernel
theorem dX1_aimAt_123 : decode cX1_aimAt 123 = .ok (.iload_n 1, 1) := by decide +kernel
theorem dX1_aimAt_124 : decode cX1_aimAt 124 = .ok (.invokevirtual 115, 3) := by decide +kernel
theorem dX1_aimAt_127 : decode cX1_aimAt 127 = .ok (.ireturn, 1) := by decide +kernel
theorem dX1_aimAt_128 : decode cX1_aimAt 128 = .ok (.iload_n 2, 1) := by decide +kernel
theorem dX1_aimAt_129 : decode cX1_aimAt 129 = .ok (.ireturn, 1) := by decide +kernel
theorem dX1_aimAt_130 : decode cX1_aimAt 130 = .ok (.aload_n 0, 1) := by decide +kernel
theorem dX1_aimAt_131 : decode cX1_aimAt 131 = .ok (.iload_n 1, 1) := by decide +kernel
theorem dX1_aimAt_132 : decode cX1_aimAt 132 = .ok (.invokevirtual 112, 3) := by decide +kernel
theorem dX1_aimAt_135 : decode cX1_aimAt 135 = .ok (.ireturn, 1) := by decide +kernel
theorem dX1_aimAt_136 : decode cX1_aimAt 136 = .ok (.aload_n 0, 1) := by decide +kernel
theorem dX1_aimAt_137 : decode cX1_aimAt 137 = .ok (.getfield 12, 3) := by decide +kernel
theorem dX1_aimAt_140 : decode cX1_aimAt 140 = .ok (.getfield 118, 3) := by decide +kernel
theorem dX1_aimAt_143 : decode cX1_aimAt 143 = .ok (.iload_n 1, 1) := by decide +kernel
theorem dX1_aimAt_144 : decode cX1_aimAt 144 = .ok (.iaload, 1) := by decide +kernel
theorem dX1_aimAt_145 : decode cX1_aimAt 145 = .ok (.iconst 4, 1) := by decide +kernel
theorem dX1_aimAt_146 : decode cX1_aimAt 146 = .ok (.if_icmp .le 11, 3) := by decide +kernel
theorem dX1_aimAt_149 : decode cX1_aimAt 149 = .ok (.aload_n 0, 1) := by decide +kernel
theorem dX1_aimAt_150 : decode cX1_aimAt 150 = .ok (.iload_n 1, 1) := by decide +kernel
theorem dX1_aimAt_151 : decode cX1_aimAt 151 = .ok (.invokevirtual 115, 3) := by decide +kernel
theorem dX1_aimAt_154 : decode cX1_aimAt 154 = .ok (.goto 4, 3) := by decide +kernel
theorem dX1_aimAt_157 : decode cX1_aimAt 157 = .ok (.iconst (-1), 1) := by decide +kernel
theorem dX1_aimAt_158 : decode cX1_aimAt 158 = .ok (.ireturn, 1) := by decide +kernel
theorem dX1_capitalOf_0 : decode cX1_capitalOf 0 = .ok (.aload_n 0, 1) := by decide +kernel
theorem dX1_capitalOf_1 : decode cX1_capitalOf 1 = .ok (.getfield 12, 3) := by decide +kernel
theorem dX1_capitalOf_4 : decode cX1_capitalOf 4 = .ok (.getfield 51, 3) := by decide +kernel
theorem dX1_capitalOf_7 : decode cX1_capitalOf 7 = .ok (.ifCond .le 23, 3) := by decide +kernel
theorem dX1_capitalOf_10 : decode cX1_capitalOf 10 = .ok (.aload_n 0, 1) := by decide +kernel
theorem dX1_capitalOf_11 : decode cX1_capitalOf 11 = .ok (.getfield 12, 3) := by decide +kernel
theorem dX1_capitalOf_14 : decode cX1_capitalOf 14 = .ok (.getfield 118, 3) := by decide +kernel
theorem dX1_capitalOf_17 : decode cX1_capitalOf 17 = .ok (.iload_n 1, 1) := by decide +kernel
theorem dX1_capitalOf_18 : decode cX1_capitalOf 18 = .ok (.iaload, 1) := by decide +kernel
theorem dX1_capitalOf_19 : decode cX1_capitalOf 19 = .ok (.aload_n 0, 1) := by decide +kernel
theorem dX1_capitalOf_20 : decode cX1_capitalOf 20 = .ok (.getfield 12, 3) := by decide +kernel
theorem dX1_capitalOf_23 : decode cX1_capitalOf 23 = .ok (.getfield 51, 3) := by decide +kernel
theorem dX1_capitalOf_26 : decode cX1_capitalOf 26 = .ok (.irem, 1) := by decide +kernel
theorem dX1_capitalOf_27 : decode cX1_capitalOf 27 = .ok (.goto 4, 3) := by decide +kernel
theorem dX1_capitalOf_30 : decode cX1_capitalOf 30 = .ok (.iload_n 1, 1) := by decide +kernel
theorem dX1_capitalOf_31 : decode cX1_capitalOf 31 = .ok (.ireturn, 1) := by decide +kernel
theorem dX1_leastNamed_0 : decode cX1_leastNamed 0 = .ok (.iconst 0, 1) := by decide +kernel
theorem dX1_leastNamed_1 : decode cX1_leastNamed 1 = .ok (.istore_n 2, 1) := by decide +kernel
theorem dX1_leastNamed_2 : decode cX1_leastNamed 2 = .ok (.iload_n 2, 1) := by decide +kernel
theorem dX1_leastNamed_3 : decode cX1_leastNamed 3 = .ok (.aload_n 0, 1) := by decide +kernel
theorem dX1_leastNamed_4 : decode cX1_leastNamed 4 = .ok (.getfield 12, 3) := by decide +kernel
theorem dX1_leastNamed_7 : decode cX1_leastNamed 7 = .ok (.getfield 51, 3) := by decide +kernel
theorem dX1_leastNamed_10 : decode cX1_leastNamed 10 = .ok (.if_icmp .ge 23, 3) := by decide +kernel
theorem dX1_leastNamed_13 : decode cX1_leastNamed 13 = .ok (.aload_n 0, 1) := by decide +kernel
theorem dX1_leastNamed_14 : decode cX1_leastNamed 14 = .ok (.getfield 12, 3) := by decide +kernel
theorem dX1_leastNamed_17 : decode cX1_leastNamed 17 = .ok (.iload_n 1, 1) := by decide +kernel
theorem dX1_leastNamed_18 : decode cX1_leastNamed 18 = .ok (.iload_n 2, 1) := by decide +kernel
theorem dX1_leastNamed_19 : decode cX1_leastNamed 19 = .ok (.invokevirtual 96, 3) := by decide +kernel
theorem dX1_leastNamed_22 : decode cX1_leastNamed 22 = .ok (.ifCond .eq 5, 3) := by decide +kernel
theorem dX1_leastNamed_25 : decode cX1_leastNamed 25 = .ok (.iload_n 2, 1) := by decide +kernel
theorem dX1_leastNamed_26 : decode cX1_leastNamed 26 = .ok (.ireturn, 1) := by decide +kernel
theorem dX1_leastNamed_27 : decode cX1_leastNamed 27 = .ok (.iinc 2 1, 3) := by decide +kernel
theorem dX1_leastNamed_30 : decode cX1_leastNamed 30 = .ok (.goto (-28), 3) := by decide +kernel
theorem dX1_leastNamed_33 : decode cX1_leastNamed 33 = .ok (.iconst (-1), 1) := by decide +kernel
theorem dX1_leastNamed_34 : decode cX1_leastNamed 34 = .ok (.ireturn, 1) := by decide +kernel
theorem dX1_lastNamed_0 : decode cX1_lastNamed 0 = .ok (.aload_n 0, 1) := by decide +kernel
theorem dX1_lastNamed_1 : decode cX1_lastNamed 1 = .ok (.getfield 12, 3) := by decide +kernel
theorem dX1_lastNamed_4 : decode cX1_lastNamed 4 = .ok (.getfield 51, 3) := by decide +kernel
theorem dX1_lastNamed_7 : decode cX1_lastNamed 7 = .ok (.iconst 1, 1) := by decide +kernel
theorem dX1_lastNamed_8 : decode cX1_lastNamed 8 = .ok (.isub, 1) := by decide +kernel
theorem dX1_lastNamed_9 : decode cX1_lastNamed 9 = .ok (.istore_n 2, 1) := by decide +kernel
theorem dX1_lastNamed_10 : decode cX1_lastNamed 10 = .ok (.iload_n 2, 1) := by decide +kernel
theorem dX1_lastNamed_11 : decode cX1_lastNamed 11 = .ok (.ifCond .lt 23, 3) := by decide +kernel
theorem dX1_lastNamed_14 : decode cX1_lastNamed 14 = .ok (.aload_n 0, 1) := by decide +kernel
theorem dX1_lastNamed_15 : decode cX1_lastNamed 15 = .ok (.getfield 12, 3) := by decide +kernel
theorem dX1_lastNamed_18 : decode cX1_lastNamed 18 = .ok (.iload_n 1, 1) := by decide +kernel
theorem dX1_lastNamed_19 : decode cX1_lastNamed 19 = .ok (.iload_n 2, 1) := by decide +kernel
theorem dX1_lastNamed_20 : decode cX1_lastNamed 20 = .ok (.invokevirtual 96, 3) := by decide +kernel
theorem dX1_lastNamed_23 : decode cX1_lastNamed 23 = .ok (.ifCond .eq 5, 3) := by decide +kernel
theorem dX1_lastNamed_26 : decode cX1_lastNamed 26 = .ok (.iload_n 2, 1) := by decide +kernel
theorem dX1_lastNamed_27 : decode cX1_lastNamed 27 = .ok (.ireturn, 1) := by decide +kernel
theorem dX1_lastNamed_28 : decode cX1_lastNamed 28 = .ok (.iinc 2 (-1), 3) := by decide +kernel
theorem dX1_lastNamed_31 : decode cX1_lastNamed 31 = .ok (.goto (-21), 3) := by decide +kernel
theorem dX1_lastNamed_34 : decode cX1_lastNamed 34 = .ok (.iconst (-1), 1) := by decide +kernel
theorem dX1_lastNamed_35 : decode cX1_lastNamed 35 = .ok (.ireturn, 1) := by decide +kernel
theorem dX1_nearestNamed_0 : decode cX1_nearestNamed 0 = .ok (.iconst (-1), 1) := by decide +kernel
theorem dX1_nearestNamed_1 : decode cX1_nearestNamed 1 = .ok (.istore_n 2, 1) := by decide +kernel
theorem dX1_nearestNamed_2 : decode cX1_nearestNamed 2 = .ok (.ldc 79, 2) := by decide +kernel
theorem dX1_nearestNamed_4 : decode cX1_nearestNamed 4 = .ok (.istore_n 3, 1) := by decide +kernel
theorem dX1_nearestNamed_5 : decode cX1_nearestNamed 5 = .ok (.iconst 0, 1) := by decide +kernel
theorem dX1_nearestNamed_6 : decode cX1_nearestNamed 6 = .ok (.istore 4, 2) := by decide +kernel
theorem dX1_nearestNamed_8 : decode cX1_nearestNamed 8 = .ok (.iload 4, 2) := by decide +kernel
theorem dX1_nearestNamed_10 : decode cX1_nearestNamed 10 = .ok (.aload_n 0, 1) := by decide +kernel
theorem dX1_nearestNamed_11 : decode cX1_nearestNamed 11 = .ok (.getfield 12, 3) := by decide +kernel
theorem dX1_nearestNamed_14 : decode cX1_nearestNamed 14 = .ok (.getfield 51, 3) := by decide +kernel
theorem dX1_nearestNamed_17 : decode cX1_nearestNamed 17 = .ok (.if_icmp .ge 52, 3) := by decide +kernel
theorem dX1_nearestNamed_20 : decode cX1_nearestNamed 20 = .ok (.aload_n 0, 1) := by decide +kernel
theorem dX1_nearestNamed_21 : decode cX1_nearestNamed 21 = .ok (.getfield 12, 3) := by decide +kernel
theorem dX1_nearestNamed_24 : decode cX1_nearestNamed 24 = .ok (.iload_n 1, 1) := by decide +kernel
theorem dX1_nearestNamed_25 : decode cX1_nearestNamed 25 = .ok (.iload 4, 2) := by decide +kernel
theorem dX1_nearestNamed_27 : decode cX1_nearestNamed 27 = .ok (.invokevirtual 96, 3) := by decide +kernel
theorem dX1_nearestNamed_30 : decode cX1_nearestNamed 30 = .ok (.ifCond .eq 33, 3) := by decide +kernel
theorem dX1_nearestNamed_33 : decode cX1_nearestNamed 33 = .ok (.aload_n 0, 1) := by decide +kernel
theorem dX1_nearestNamed_34 : decode cX1_nearestNamed 34 = .ok (.getfield 31, 3) := by decide +kernel
theorem dX1_nearestNamed_37 : decode cX1_nearestNamed 37 = .ok (.iload_n 1, 1) := by decide +kernel
theorem dX1_nearestNamed_38 : decode cX1_nearestNamed 38 = .ok (.iload 4, 2) := by decide +kernel
theorem dX1_nearestNamed_40 : decode cX1_nearestNamed 40 = .ok (.invokestatic 70, 3) := by decide +kernel
theorem dX1_nearestNamed_43 : decode cX1_nearestNamed 43 = .ok (.iaload, 1) := by decide +kernel
theorem dX1_nearestNamed_44 : decode cX1_nearestNamed 44 = .ok (.iload_n 3, 1) := by decide +kernel
theorem dX1_nearestNamed_45 : decode cX1_nearestNamed 45 = .ok (.if_icmp .ge 18, 3) := by decide +kernel
theorem dX1_nearestNamed_48 : decode cX1_nearestNamed 48 = .ok (.iload 4, 2) := by decide +kernel
theorem dX1_nearestNamed_50 : decode cX1_nearestNamed 50 = .ok (.istore_n 2, 1) := by decide +kernel
theorem dX1_nearestNamed_51 : decode cX1_nearestNamed 51 = .ok (.aload_n 0, 1) := by decide +kernel
theorem dX1_nearestNamed_52 : decode cX1_nearestNamed 52 = .ok (.getfield 31, 3) := by decide +kernel
theorem dX1_nearestNamed_55 : decode cX1_nearestNamed 55 = .ok (.iload_n 1, 1) := by decide +kernel
theorem dX1_nearestNamed_56 : decode cX1_nearestNamed 56 = .ok (.iload 4, 2) := by decide +kernel
theorem dX1_nearestNamed_58 : decode cX1_nearestNamed 58 = .ok (.invokestatic 70, 3) := by decide +kernel
theorem dX1_nearestNamed_61 : decode cX1_nearestNamed 61 = .ok (.iaload, 1) := by decide +kernel
theorem dX1_nearestNamed_62 : decode cX1_nearestNamed 62 = .ok (.istore_n 3, 1) := by decide +kernel
theorem dX1_nearestNamed_63 : decode cX1_nearestNamed 63 = .ok (.iinc 4 1, 3) := by decide +kernel
theorem dX1_nearestNamed_66 : decode cX1_nearestNamed 66 = .ok (.goto (-58), 3) := by decide +kernel
theorem dX1_nearestNamed_69 : decode cX1_nearestNamed 69 = .ok (.iload_n 2, 1) := by decide +kernel
theorem dX1_nearestNamed_70 : decode cX1_nearestNamed 70 = .ok (.ireturn, 1) := by decide +kernel
theorem dX1_greatestNamed_0 : decode cX1_greatestNamed 0 = .ok (.iconst (-1), 1) := by decide +kernel
theorem dX1_greatestNamed_1 : decode cX1_greatestNamed 1 = .ok (.istore_n 2, 1) := by decide +kernel
theorem dX1_greatestNamed_2 : decode cX1_greatestNamed 2 = .ok (.iconst (-1), 1) := by decide +kernel
theorem dX1_greatestNamed_3 : decode cX1_greatestNamed 3 = .ok (.istore_n 3, 1) := by decide +kernel
theorem dX1_greatestNamed_4 : decode cX1_greatestNamed 4 = .ok (.iconst 0, 1) := by decide +kernel
theorem dX1_greatestNamed_5 : decode cX1_greatestNamed 5 = .ok (.istore 4, 2) := by decide +kernel
theorem dX1_greatestNamed_7 : decode cX1_greatestNamed 7 = .ok (.iload 4, 2) := by decide +kernel
theorem dX1_greatestNamed_9 : decode cX1_greatestNamed 9 = .ok (.aload_n 0, 1) := by decide +kernel
theorem dX1_greatestNamed_10 : decode cX1_greatestNamed 10 = .ok (.getfield 12, 3) := by decide +kernel
theorem dX1_greatestNamed_13 : decode cX1_greatestNamed 13 = .ok (.getfield 51, 3) := by decide +kernel
theorem dX1_greatestNamed_16 : decode cX1_greatestNamed 16 = .ok (.if_icmp .ge 44, 3) := by decide +kernel
theorem dX1_greatestNamed_19 : decode cX1_greatestNamed 19 = .ok (.aload_n 0, 1) := by decide +kernel
theorem dX1_greatestNamed_20 : decode cX1_greatestNamed 20 = .ok (.getfield 12, 3) := by decide +kernel
theorem dX1_greatestNamed_23 : decode cX1_greatestNamed 23 = .ok (.iload_n 1, 1) := by decide +kernel
theorem dX1_greatestNamed_24 : decode cX1_greatestNamed 24 = .ok (.iload 4, 2) := by decide +kernel
theorem dX1_greatestNamed_26 : decode cX1_greatestNamed 26 = .ok (.invokevirtual 96, 3) := by decide +kernel
theorem dX1_greatestNamed_29 : decode cX1_greatestNamed 29 = .ok (.ifCond .eq 25, 3) := by decide +kernel
theorem dX1_greatestNamed_32 : decode cX1_greatestNamed 32 = .ok (.aload_n 0, 1) := by decide +kernel
theorem dX1_greatestNamed_33 : decode cX1_greatestNamed 33 = .ok (.getfield 22, 3) := by decide +kernel
theorem dX1_greatestNamed_36 : decode cX1_greatestNamed 36 = .ok (.iload 4, 2) := by decide +kernel
theorem dX1_greatestNamed_38 : decode cX1_greatestNamed 38 = .ok (.iaload, 1) := by decide +kernel
theorem dX1_greatestNamed_39 : decode cX1_greatestNamed 39 = .ok (.iload_n 3, 1) := by decide +kernel
theorem dX1_greatestNamed_40 : decode cX1_greatestNamed 40 = .ok (.if_icmp .le 14, 3) := by decide +kernel
theorem dX1_greatestNamed_43 : decode cX1_greatestNamed 43 = .ok (.iload 4, 2) := by decide +kernel
theorem dX1_greatestNamed_45 : decode cX1_greatestNamed 45 = .ok (.istore_n 2, 1) := by decide +kernel
theorem dX1_greatestNamed_46 : decode cX1_greatestNamed 46 = .ok (.aload_n 0, 1) := by decide +kernel
theorem dX1_greatestNamed_47 : decode cX1_greatestNamed 47 = .ok (.getfield 22, 3) := by decide +kernel
theorem dX1_greatestNamed_50 : decode cX1_greatestNamed 50 = .ok (.iload 4, 2) := by decide +kernel
theorem dX1_greatestNamed_52 : decode cX1_greatestNamed 52 = .ok (.iaload, 1) := by decide +kernel
theorem dX1_greatestNamed_53 : decode cX1_greatestNamed 53 = .ok (.istore_n 3, 1) := by decide +kernel
theorem dX1_greatestNamed_54 : decode cX1_greatestNamed 54 = .ok (.iinc 4 1, 3) := by decide +kernel
theorem dX1_greatestNamed_57 : decode cX1_greatestNamed 57 = .ok (.goto (-50), 3) := by decide +kernel
theorem dX1_greatestNamed_60 : decode cX1_greatestNamed 60 = .ok (.iload_n 2, 1) := by decide +kernel
theorem dX1_greatestNamed_61 : decode cX1_greatestNamed 61 = .ok (.ireturn, 1) := by decide +kernel
theorem dX1_setFalseArm_0 : decode cX1_setFalseArm 0 = .ok (.aload_n 0, 1) := by decide +kernel
theorem dX1_setFalseArm_1 : decode cX1_setFalseArm 1 = .ok (.iload_n 1, 1) := by decide +kernel
theorem dX1_setFalseArm_2 : decode cX1_setFalseArm 2 = .ok (.putfield 47, 3) := by decide +kernel
theorem dX1_setFalseArm_5 : decode cX1_setFalseArm 5 = .ok (.aload_n 0, 1) := by decide +kernel
theorem dX1_setFalseArm_6 : decode cX1_setFalseArm 6 = .ok (.iload_n 2, 1) := by decide +kernel
theorem dX1_setFalseArm_7 : decode cX1_setFalseArm 7 = .ok (.putfield 90, 3) := by decide +kernel
theorem dX1_setFalseArm_10 : decode cX1_setFalseArm 10 = .ok (.aload_n 0, 1) := by decide +kernel
theorem dX1_setFalseArm_11 : decode cX1_setFalseArm 11 = .ok (.aload_n 0, 1) := by decide +kernel
theorem dX1_setFalseArm_12 : decode cX1_setFalseArm 12 = .ok (.iload_n 2, 1) := by decide +kernel
theorem dX1_setFalseArm_13 : decode cX1_setFalseArm 13 = .ok (.invokevirtual 121, 3) := by decide +kernel
theorem dX1_setFalseArm_16 : decode cX1_setFalseArm 16 = .ok (.putfield 93, 3) := by decide +kernel
theorem dX1_setFalseArm_19 : decode cX1_setFalseArm 19 = .ok (.aload_n 0, 1) := by decide +kernel
theorem dX1_setFalseArm_20 : decode cX1_setFalseArm 20 = .ok (.getfield 93, 3) := by decide +kernel
theorem dX1_setFalseArm_23 : decode cX1_setFalseArm 23 = .ok (.iload_n 1, 1) := by decide +kernel
theorem dX1_setFalseArm_24 : decode cX1_setFalseArm 24 = .ok (.if_icmp .ne 12, 3) := by decide +kernel
theorem dX1_setFalseArm_27 : decode cX1_setFalseArm 27 = .ok (.aload_n 0, 1) := by decide +kernel
theorem dX1_setFalseArm_28 : decode cX1_setFalseArm 28 = .ok (.aload_n 0, 1) := by decide +kernel
theorem dX1_setFalseArm_29 : decode cX1_setFalseArm 29 = .ok (.iload_n 1, 1) := by decide +kernel
theorem dX1_setFalseArm_30 : decode cX1_setFalseArm 30 = .ok (.invokevirtual 121, 3) := by decide +kernel
theorem dX1_setFalseArm_33 : decode cX1_setFalseArm 33 = .ok (.putfield 93, 3) := by decide +kernel
theorem dX1_setFalseArm_36 : decode cX1_setFalseArm 36 = .ok (.return_, 1) := by decide +kernel
theorem dX1_dropFalseArm_0 : decode cX1_dropFalseArm 0 = .ok (.aload_n 0, 1) := by decide +kernel
theorem dX1_dropFalseArm_1 : decode cX1_dropFalseArm 1 = .ok (.iconst (-1), 1) := by decide +kernel
theorem dX1_dropFalseArm_2 : decode cX1_dropFalseArm 2 = .ok (.putfield 47, 3) := by decide +kernel
theorem dX1_dropFalseArm_5 : decode cX1_dropFalseArm 5 = .ok (.return_, 1) := by decide +kernel
theorem dX1_behind_0 : decode cX1_behind 0 = .ok (.iload_n 1, 1) := by decide +kernel
theorem dX1_behind_1 : decode cX1_behind 1 = .ok (.iconst 1, 1) := by decide +kernel
theorem dX1_behind_2 : decode cX1_behind 2 = .ok (.iadd, 1) := by decide +kernel
theorem dX1_behind_3 : decode cX1_behind 3 = .ok (.aload_n 0, 1) := by decide +kernel
theorem dX1_behind_4 : decode cX1_behind 4 = .ok (.getfield 12, 3) := by decide +kernel
theorem dX1_behind_7 : decode cX1_behind 7 = .ok (.getfield 51, 3) := by decide +kernel
theorem dX1_behind_10 : decode cX1_behind 10 = .ok (.if_icmp .ge 9, 3) := by decide +kernel
theorem dX1_behind_13 : decode cX1_behind 13 = .ok (.iload_n 1, 1) := by decide +kernel
theorem dX1_behind_14 : decode cX1_behind 14 = .ok (.iconst 1, 1) := by decide +kernel
theorem dX1_behind_15 : decode cX1_behind 15 = .ok (.iadd, 1) := by decide +kernel
theorem dX1_behind_16 : decode cX1_behind 16 = .ok (.goto 4, 3) := by decide +kernel
theorem dX1_behind_19 : decode cX1_behind 19 = .ok (.iconst 0, 1) := by decide +kernel
theorem dX1_behind_20 : decode cX1_behind 20 = .ok (.ireturn, 1) := by decide +kernel
theorem dX1_walk_0 : decode cX1_walk 0 = .ok (.iload_n 1, 1) := by decide +kernel
theorem dX1_walk_1 : decode cX1_walk 1 = .ok (.istore_n 3, 1) := by decide +kernel
theorem dX1_walk_2 : decode cX1_walk 2 = .ok (.aload_n 0, 1) := by decide +kernel
theorem dX1_walk_3 : decode cX1_walk 3 = .ok (.iconst 0, 1) := by decide +kernel
theorem dX1_walk_4 : decode cX1_walk 4 = .ok (.putfield 124, 3) := by decide +kernel
theorem dX1_walk_7 : decode cX1_walk 7 = .ok (.aload_n 0, 1) := by decide +kernel
theorem dX1_walk_8 : decode cX1_walk 8 = .ok (.iconst 0, 1) := by decide +kernel
theorem dX1_walk_9 : decode cX1_walk 9 = .ok (.putfield 127, 3) := by decide +kernel
theorem dX1_walk_12 : decode cX1_walk 12 = .ok (.iconst 0, 1) := by decide +kernel
theorem dX1_walk_13 : decode cX1_walk 13 = .ok (.istore 4, 2) := by decide +kernel
theorem dX1_walk_15 : decode cX1_walk 15 = .ok (.iload 4, 2) := by decide +kernel
theorem dX1_walk_17 : decode cX1_walk 17 = .ok (.bipush 20, 2) := by decide +kernel
theorem dX1_walk_19 : decode cX1_walk 19 = .ok (.if_icmp .ge 66, 3) := by decide +kernel
theorem dX1_walk_22 : decode cX1_walk 22 = .ok (.iload_n 3, 1) := by decide +kernel
theorem dX1_walk_23 : decode cX1_walk 23 = .ok (.iload_n 2, 1) := by decide +kernel
theorem dX1_walk_24 : decode cX1_walk 24 = .ok (.if_icmp .eq 61, 3) := by decide +kernel
theorem dX1_walk_27 : decode cX1_walk 27 = .ok (.aload_n 0, 1) := by decide +kernel
theorem dX1_walk_28 : decode cX1_walk 28 = .ok (.getfield 37, 3) := by decide +kernel
theorem dX1_walk_31 : decode cX1_walk 31 = .ok (.iload_n 3, 1) := by decide +kernel
theorem dX1_walk_32 : decode cX1_walk 32 = .ok (.iload_n 2, 1) := by decide +kernel
theorem dX1_walk_33 : decode cX1_walk 33 = .ok (.invokestatic 70, 3) := by decide +kernel
theorem dX1_walk_36 : decode cX1_walk 36 = .ok (.iaload, 1) := by decide +kernel
theorem dX1_walk_37 : decode cX1_walk 37 = .ok (.istore 5, 2) := by decide +kernel
theorem dX1_walk_39 : decode cX1_walk 39 = .ok (.iload 5, 2) := by decide +kernel
theorem dX1_walk_41 : decode cX1_walk 41 = .ok (.ifCond .ge 5, 3) := by decide +kernel
theorem dX1_walk_44 : decode cX1_walk 44 = .ok (.iload_n 3, 1) := by decide +kernel
theorem dX1_walk_45 : decode cX1_walk 45 = .ok (.ireturn, 1) := by decide +kernel
theorem dX1_walk_46 : decode cX1_walk 46 = .ok (.aload_n 0, 1) := by decide +kernel
theorem dX1_walk_47 : decode cX1_walk 47 = .ok (.dup, 1) := by decide +kernel
theorem dX1_walk_48 : decode cX1_walk 48 = .ok (.getfield 124, 3) := by decide +kernel
theorem dX1_walk_51 : decode cX1_walk 51 = .ok (.iconst 1, 1) := by decide +kernel
theorem dX1_walk_52 : decode cX1_walk 52 = .ok (.iadd, 1) := by decide +kernel
theorem dX1_walk_53 : decode cX1_walk 53 = .ok (.putfield 124, 3) := by decide +kernel
theorem dX1_walk_56 : decode cX1_walk 56 = .ok (.aload_n 0, 1) := by decide +kernel
theorem dX1_walk_57 : decode cX1_walk 57 = .ok (.dup, 1) := by decide +kernel
theorem dX1_walk_58 : decode cX1_walk 58 = .ok (.getfield 127, 3) := by decide +kernel
theorem dX1_walk_61 : decode cX1_walk 61 = .ok (.aload_n 0, 1) := by decide +kernel
theorem dX1_walk_62 : decode cX1_walk 62 = .ok (.getfield 28, 3) := by decide +kernel
theorem dX1_walk_65 : decode cX1_walk 65 = .ok (.iload_n 3, 1) := by decide +kernel
theorem dX1_walk_66 : decode cX1_walk 66 = .ok (.iload 5, 2) := by decide +kernel
theorem dX1_walk_68 : decode cX1_walk 68 = .ok (.invokestatic 70, 3) := by decide +kernel
theorem dX1_walk_71 : decode cX1_walk 71 = .ok (.iaload, 1) := by decide +kernel
theorem dX1_walk_72 : decode cX1_walk 72 = .ok (.iadd, 1) := by decide +kernel
theorem dX1_walk_73 : decode cX1_walk 73 = .ok (.putfield 127, 3) := by decide +kernel
theorem dX1_walk_76 : decode cX1_walk 76 = .ok (.iload 5, 2) := by decide +kernel
theorem dX1_walk_78 : decode cX1_walk 78 = .ok (.istore_n 3, 1) := by decide +kernel
theorem dX1_walk_79 : decode cX1_walk 79 = .ok (.iinc 4 1, 3) := by decide +kernel
theorem dX1_walk_82 : decode cX1_walk 82 = .ok (.goto (-67), 3) := by decide +kernel
theorem dX1_walk_85 : decode cX1_walk 85 = .ok (.iload_n 3, 1) := by decide +kernel
theorem dX1_walk_86 : decode cX1_walk 86 = .ok (.ireturn, 1) := by decide +kernel
theorem dX1_lostTravellers_0 : decode cX1_lostTravellers 0 = .ok (.iconst 0, 1) := by decide +kernel
theorem dX1_lostTravellers_1 : decode cX1_lostTravellers 1 = .ok (.istore_n 1, 1) := by decide +kernel
theorem dX1_lostTravellers_2 : decode cX1_lostTravellers 2 = .ok (.iconst 0, 1) := by decide +kernel
theorem dX1_lostTravellers_3 : decode cX1_lostTravellers 3 = .ok (.istore_n 2, 1) := by decide +kernel
theorem dX1_lostTravellers_4 : decode cX1_lostTravellers 4 = .ok (.iload_n 2, 1) := by decide +kernel
theorem dX1_lostTravellers_5 : decode cX1_lostTravellers 5 = .ok (.aload_n 0, 1) := by decide +kernel
theorem dX1_lostTravellers_6 : decode cX1_lostTravellers 6 = .ok (.getfield 12, 3) := by decide +kernel
theorem dX1_lostTravellers_9 : decode cX1_lostTravellers 9 = .ok (.getfield 130, 3) := by decide +kernel
theorem dX1_lostTravellers_12 : decode cX1_lostTravellers 12 = .ok (.if_icmp .ge 55, 3) := by decide +kernel
theorem dX1_lostTravellers_15 : decode cX1_lostTravellers 15 = .ok (.aload_n 0, 1) := by decide +kernel
theorem dX1_lostTravellers_16 : decode cX1_lostTravellers 16 = .ok (.aload_n 0, 1) := by decide +kernel
theorem dX1_lostTravellers_17 : decode cX1_lostTravellers 17 = .ok (.getfield 12, 3) := by decide +kernel
theorem dX1_lostTravellers_20 : decode cX1_lostTravellers 20 = .ok (.getfield 133, 3) := by decide +kernel
theorem dX1_lostTravellers_23 : decode cX1_lostTravellers 23 = .ok (.iload_n 2, 1) := by decide +kernel
theorem dX1_lostTravellers_24 : decode cX1_lostTravellers 24 = .ok (.iaload, 1) := by decide +kernel
theorem dX1_lostTravellers_25 : decode cX1_lostTravellers 25 = .ok (.aload_n 0, 1) := by decide +kernel
theorem dX1_lostTravellers_26 : decode cX1_lostTravellers 26 = .ok (.getfield 12, 3) := by decide +kernel
theorem dX1_lostTravellers_29 : decode cX1_lostTravellers 29 = .ok (.getfield 136, 3) := by decide +kernel
theorem dX1_lostTravellers_32 : decode cX1_lostTravellers 32 = .ok (.iload_n 2, 1) := by decide +kernel
theorem dX1_lostTravellers_33 : decode cX1_lostTravellers 33 = .ok (.iaload, 1) := by decide +kernel
theorem dX1_lostTravellers_34 : decode cX1_lostTravellers 34 = .ok (.invokevirtual 139, 3) := by decide +kernel
theorem dX1_lostTravellers_37 : decode cX1_lostTravellers 37 = .ok (.aload_n 0, 1) := by decide +kernel
theorem dX1_lostTravellers_38 : decode cX1_lostTravellers 38 = .ok (.getfield 12, 3) := by decide +kernel
theorem dX1_lostTravellers_41 : decode cX1_lostTravellers 41 = .ok (.getfield 136, 3) := by decide +kernel
theorem dX1_lostTravellers_44 : decode cX1_lostTravellers 44 = .ok (.iload_n 2, 1) := by decide +kernel
theorem dX1_lostTravellers_45 : decode cX1_lostTravellers 45 = .ok (.iaload, 1) := by decide +kernel
theorem dX1_lostTravellers_46 : decode cX1_lostTravellers 46 = .ok (.if_icmp .eq 15, 3) := by decide +kernel
theorem dX1_lostTravellers_49 : decode cX1_lostTravellers 49 = .ok (.iload_n 1, 1) := by decide +kernel
theorem dX1_lostTravellers_50 : decode cX1_lostTravellers 50 = .ok (.aload_n 0, 1) := by decide +kernel
theorem dX1_lostTravellers_51 : decode cX1_lostTravellers 51 = .ok (.getfield 12, 3) := by decide +kernel
theorem dX1_lostTravellers_54 : decode cX1_lostTravellers 54 = .ok (.getfield 142, 3) := by decide +kernel
theorem dX1_lostTravellers_57 : decode cX1_lostTravellers 57 = .ok (.iload_n 2, 1) := by decide +kernel
theorem dX1_lostTravellers_58 : decode cX1_lostTravellers 58 = .ok (.iaload, 1) := by decide +kernel
theorem dX1_lostTravellers_59 : decode cX1_lostTravellers 59 = .ok (.iadd, 1) := by decide +kernel
theorem dX1_lostTravellers_60 : decode cX1_lostTravellers 60 = .ok (.istore_n 1, 1) := by decide +kernel
theorem dX1_lostTravellers_61 : decode cX1_lostTravellers 61 = .ok (.iinc 2 1, 3) := by decide +kernel
theorem dX1_lostTravellers_64 : decode cX1_lostTravellers 64 = .ok (.goto (-60), 3) := by decide +kernel
theorem dX1_lostTravellers_67 : decode cX1_lostTravellers 67 = .ok (.iload_n 1, 1) := by decide +kernel
theorem dX1_lostTravellers_68 : decode cX1_lostTravellers 68 = .ok (.ireturn, 1) := by decide +kernel
theorem dX1_lostPairs_0 : decode cX1_lostPairs 0 = .ok (.iconst 0, 1) := by decide +kernel
theorem dX1_lostPairs_1 : decode cX1_lostPairs 1 = .ok (.istore_n 1, 1) := by decide +kernel
theorem dX1_lostPairs_2 : decode cX1_lostPairs 2 = .ok (.iconst 0, 1) := by decide +kernel
theorem dX1_lostPairs_3 : decode cX1_lostPairs 3 = .ok (.istore_n 2, 1) := by decide +kernel
theorem dX1_lostPairs_4 : decode cX1_lostPairs 4 = .ok (.iload_n 2, 1) := by decide +kernel
theorem dX1_lostPairs_5 : decode cX1_lostPairs 5 = .ok (.aload_n 0, 1) := by decide +kernel
theorem dX1_lostPairs_6 : decode cX1_lostPairs 6 = .ok (.getfield 12, 3) := by decide +kernel
theorem dX1_lostPairs_9 : decode cX1_lostPairs 9 = .ok (.getfield 51, 3) := by decide +kernel
theorem dX1_lostPairs_12 : decode cX1_lostPairs 12 = .ok (.if_icmp .ge 41, 3) := by decide +kernel
theorem dX1_lostPairs_15 : decode cX1_lostPairs 15 = .ok (.iconst 0, 1) := by decide +kernel
theorem dX1_lostPairs_16 : decode cX1_lostPairs 16 = .ok (.istore_n 3, 1) := by decide +kernel
theorem dX1_lostPairs_17 : decode cX1_lostPairs 17 = .ok (.iload_n 3, 1) := by decide +kernel
theorem dX1_lostPairs_18 : decode cX1_lostPairs 18 = .ok (.aload_n 0, 1) := by decide +kernel
theorem dX1_lostPairs_19 : decode cX1_lostPairs 19 = .ok (.getfield 12, 3) := by decide +kernel
theorem dX1_lostPairs_22 : decode cX1_lostPairs 22 = .ok (.getfield 51, 3) := by decide +kernel
theorem dX1_lostPairs_25 : decode cX1_lostPairs 25 = .ok (.if_icmp .ge 22, 3) := by decide +kernel
theorem dX1_lostPairs_28 : decode cX1_lostPairs 28 = .ok (.aload_n 0, 1) := by decide +kernel
theorem dX1_lostPairs_29 : decode cX1_lostPairs 29 = .ok (.iload_n 2, 1) := by decide +kernel
theorem dX1_lostPairs_30 : decode cX1_lostPairs 30 = .ok (.iload_n 3, 1) := by decide +kernel
theorem dX1_lostPairs_31 : decode cX1_lostPairs 31 = .ok (.invokevirtual 139, 3) := by decide +kernel
theorem dX1_lostPairs_34 : decode cX1_lostPairs 34 = .ok (.iload_n 3, 1) := by decide +kernel
theorem dX1_lostPairs_35 : decode cX1_lostPairs 35 = .ok (.if_icmp .eq 6, 3) := by decide +kernel
theorem dX1_lostPairs_38 : decode cX1_lostPairs 38 = .ok (.iinc 1 1, 3) := by decide +kernel
theorem dX1_lostPairs_41 : decode cX1_lostPairs 41 = .ok (.iinc 3 1, 3) := by decide +kernel
theorem dX1_lostPairs_44 : decode cX1_lostPairs 44 = .ok (.goto (-27), 3) := by decide +kernel
theorem dX1_lostPairs_47 : decode cX1_lostPairs 47 = .ok (.iinc 2 1, 3) := by decide +kernel
theorem dX1_lostPairs_50 : decode cX1_lostPairs 50 = .ok (.goto (-46), 3) := by decide +kernel
theorem dX1_lostPairs_53 : decode cX1_lostPairs 53 = .ok (.iload_n 1, 1) := by decide +kernel
theorem dX1_lostPairs_54 : decode cX1_lostPairs 54 = .ok (.ireturn, 1) := by decide +kernel
theorem dX1_longestPair_0 : decode cX1_longestPair 0 = .ok (.bipush (-5), 2) := by decide +kernel
theorem dX1_longestPair_2 : decode cX1_longestPair 2 = .ok (.istore_n 1, 1) := by decide +kernel
theorem dX1_longestPair_3 : decode cX1_longestPair 3 = .ok (.iconst 0, 1) := by decide +kernel
theorem dX1_longestPair_4 : decode cX1_longestPair 4 = .ok (.istore_n 2, 1) := by decide +kernel
theorem dX1_longestPair_5 : decode cX1_longestPair 5 = .ok (.iconst 0, 1) := by decide +kernel
theorem dX1_longestPair_6 : decode cX1_longestPair 6 = .ok (.istore_n 3, 1) := by decide +kernel
theorem dX1_longestPair_7 : decode cX1_longestPair 7 = .ok (.iload_n 3, 1) := by decide +kernel
theorem dX1_longestPair_8 : decode cX1_longestPair 8 = .ok (.aload_n 0, 1) := by decide +kernel
theorem dX1_longestPair_9 : decode cX1_longestPair 9 = .ok (.getfield 12, 3) := by decide +kernel
theorem dX1_longestPair_12 : decode cX1_longestPair 12 = .ok (.getfield 51, 3) := by decide +kernel
theorem dX1_longestPair_15 : decode cX1_longestPair 15 = .ok (.if_icmp .ge 63, 3) := by decide +kernel
theorem dX1_longestPair_18 : decode cX1_longestPair 18 = .ok (.iconst 0, 1) := by decide +kernel
theorem dX1_longestPair_19 : decode cX1_longestPair 19 = .ok (.istore 4, 2) := by decide +kernel
theorem dX1_longestPair_21 : decode cX1_longestPair 21 = .ok (.iload 4, 2) := by decide +kernel
theorem dX1_longestPair_23 : decode cX1_longestPair 23 = .ok (.aload_n 0, 1) := by decide +kernel
theorem dX1_longestPair_24 : decode cX1_longestPair 24 = .ok (.getfield 12, 3) := by decide +kernel
theorem dX1_longestPair_27 : decode cX1_longestPair 27 = .ok (.getfield 51, 3) := by decide +kernel
theorem dX1_longestPair_30 : decode cX1_longestPair 30 = .ok (.if_icmp .ge 42, 3) := by decide +kernel
theorem dX1_longestPair_33 : decode cX1_longestPair 33 = .ok (.aload_n 0, 1) := by decide +kernel
theorem dX1_longestPair_34 : decode cX1_longestPair 34 = .ok (.iload_n 3, 1) := by decide +kernel
theorem dX1_longestPair_35 : decode cX1_longestPair 35 = .ok (.iload 4, 2) := by decide +kernel
theorem dX1_longestPair_37 : decode cX1_longestPair 37 = .ok (.invokevirtual 139, 3) := by decide +kernel
theorem dX1_longestPair_40 : decode cX1_longestPair 40 = .ok (.iload 4, 2) := by decide +kernel
theorem dX1_longestPair_42 : decode cX1_longestPair 42 = .ok (.if_icmp .ne 24, 3) := by decide +kernel
theorem dX1_longestPair_45 : decode cX1_longestPair 45 = .ok (.aload_n 0, 1) := by decide +kernel
theorem dX1_longestPair_46 : decode cX1_longestPair 46 = .ok (.getfield 127, 3) := by decide +kernel
theorem dX1_longestPair_49 : decode cX1_longestPair 49 = .ok (.iload_n 2, 1) := by decide +kernel
theorem dX1_longestPair_50 : decode cX1_longestPair 50 = .ok (.if_icmp .le 16, 3) := by decide +kernel
theorem dX1_longestPair_53 : decode cX1_longestPair 53 = .ok (.bipush 10, 2) := by decide +kernel
theorem dX1_longestPair_55 : decode cX1_longestPair 55 = .ok (.iload_n 3, 1) := by decide +kernel
theorem dX1_longestPair_56 : decode cX1_longestPair 56 = .ok (.imul, 1) := by decide +kernel
theorem dX1_longestPair_57 : decode cX1_longestPair 57 = .ok (.iload 4, 2) := by decide +kernel
theorem dX1_longestPair_59 : decode cX1_longestPair 59 = .ok (.iadd, 1) := by decide +kernel
theorem dX1_longestPair_60 : decode cX1_longestPair 60 = .ok (.istore_n 1, 1) := by decide +kernel
theorem dX1_longestPair_61 : decode cX1_longestPair 61 = .ok (.aload_n 0, 1) := by decide +kernel
theorem dX1_longestPair_62 : decode cX1_longestPair 62 = .ok (.getfield 127, 3) := by decide +kernel
theorem dX1_longestPair_65 : decode cX1_longestPair 65 = .ok (.istore_n 2, 1) := by decide +kernel
theorem dX1_longestPair_66 : decode cX1_longestPair 66 = .ok (.iinc 4 1, 3) := by decide +kernel
theorem dX1_longestPair_69 : decode cX1_longestPair 69 = .ok (.goto (-48), 3) := by decide +kernel
theorem dX1_longestPair_72 : decode cX1_longestPair 72 = .ok (.iinc 3 1, 3) := by decide +kernel
theorem dX1_longestPair_75 : decode cX1_longestPair 75 = .ok (.goto (-68), 3) := by decide +kernel
theorem dX1_longestPair_78 : decode cX1_longestPair 78 = .ok (.iload_n 1, 1) := by decide +kernel
theorem dX1_longestPair_79 : decode cX1_longestPair 79 = .ok (.ireturn, 1) := by decide +kernel
theorem dX1_allWays_0 : decode cX1_allWays 0 = .ok (.iconst 0, 1) := by decide +kernel
theorem dX1_allWays_1 : decode cX1_allWays 1 = .ok (.istore_n 1, 1) := by decide +kernel
theorem dX1_allWays_2 : decode cX1_allWays 2 = .ok (.iconst 0, 1) := by decide +kernel
theorem dX1_allWays_3 : decode cX1_allWays 3 = .ok (.istore_n 2, 1) := by decide +kernel
theorem dX1_allWays_4 : decode cX1_allWays 4 = .ok (.iload_n 2, 1) := by decide +kernel
theorem dX1_allWays_5 : decode cX1_allWays 5 = .ok (.aload_n 0, 1) := by decide +kernel
theorem dX1_allWays_6 : decode cX1_allWays 6 = .ok (.getfield 12, 3) := by decide +kernel
theorem dX1_allWays_9 : decode cX1_allWays 9 = .ok (.getfield 51, 3) := by decide +kernel
theorem dX1_allWays_12 : decode cX1_allWays 12 = .ok (.if_icmp .ge 56, 3) := by decide +kernel
theorem dX1_allWays_15 : decode cX1_allWays 15 = .ok (.iconst 0, 1) := by decide +kernel
theorem dX1_allWays_16 : decode cX1_allWays 16 = .ok (.istore_n 3, 1) := by decide +kernel
theorem dX1_allWays_17 : decode cX1_allWays 17 = .ok (.iload_n 3, 1) := by decide +kernel
theorem dX1_allWays_18 : decode cX1_allWays 18 = .ok (.aload_n 0, 1) := by decide +kernel
theorem dX1_allWays_19 : decode cX1_allWays 19 = .ok (.getfield 12, 3) := by decide +kernel
theorem dX1_allWays_22 : decode cX1_allWays 22 = .ok (.getfield 51, 3) := by decide +kernel
theorem dX1_allWays_25 : decode cX1_allWays 25 = .ok (.if_icmp .ge 37, 3) := by decide +kernel
theorem dX1_allWays_28 : decode cX1_allWays 28 = .ok (.iload_n 1, 1) := by decide +kernel
theorem dX1_allWays_29 : decode cX1_allWays 29 = .ok (.aload_n 0, 1) := by decide +kernel
theorem dX1_allWays_30 : decode cX1_allWays 30 = .ok (.iload_n 2, 1) := by decide +kernel
theorem dX1_allWays_31 : decode cX1_allWays 31 = .ok (.iload_n 3, 1) := by decide +kernel
theorem dX1_allWays_32 : decode cX1_allWays 32 = .ok (.invokevirtual 83, 3) := by decide +kernel
theorem dX1_allWays_35 : decode cX1_allWays 35 = .ok (.ifCond .eq 16, 3) := by decide +kernel
theorem dX1_allWays_38 : decode cX1_allWays 38 = .ok (.aload_n 0, 1) := by decide +kernel
theorem dX1_allWays_39 : decode cX1_allWays 39 = .ok (.getfield 31, 3) := by decide +kernel
theorem dX1_allWays_42 : decode cX1_allWays 42 = .ok (.iload_n 2, 1) := by decide +kernel
theorem dX1_allWays_43 : decode cX1_allWays 43 = .ok (.iload_n 3, 1) := by decide +kernel
theorem dX1_allWays_44 : decode cX1_allWays 44 = .ok (.invokestatic 70, 3) := by decide +kernel
theorem dX1_allWays_47 : decode cX1_allWays 47 = .ok (.iaload, 1) := by decide +kernel
theorem dX1_allWays_48 : decode cX1_allWays 48 = .ok (.goto 6, 3) := by decide +kernel
theorem dX1_allWays_51 : decode cX1_allWays 51 = .ok (.sipush 999, 3) := by decide +kernel
theorem dX1_allWays_54 : decode cX1_allWays 54 = .ok (.iadd, 1) := by decide +kernel
theorem dX1_allWays_55 : decode cX1_allWays 55 = .ok (.istore_n 1, 1) := by decide +kernel
theorem dX1_allWays_56 : decode cX1_allWays 56 = .ok (.iinc 3 1, 3) := by decide +kernel
theorem dX1_allWays_59 : decode cX1_allWays 59 = .ok (.goto (-42), 3) := by decide +kernel
theorem dX1_allWays_62 : decode cX1_allWays 62 = .ok (.iinc 2 1, 3) := by decide +kernel
theorem dX1_allWays_65 : decode cX1_allWays 65 = .ok (.goto (-61), 3) := by decide +kernel
theorem dX1_allWays_68 : decode cX1_allWays 68 = .ok (.iload_n 1, 1) := by decide +kernel
theorem dX1_allWays_69 : decode cX1_allWays 69 = .ok (.ireturn, 1) := by decide +kernel
theorem dX1_sharesAt_0 : decode cX1_sharesAt 0 = .ok (.aload_n 0, 1) := by decide +kernel
theorem dX1_sharesAt_1 : decode cX1_sharesAt 1 = .ok (.getfield 40, 3) := by decide +kernel
theorem dX1_sharesAt_4 : decode cX1_sharesAt 4 = .ok (.lconst 0, 1) := by decide +kernel
theorem dX1_sharesAt_5 : decode cX1_sharesAt 5 = .ok (.invokestatic 145, 3) := by decide +kernel
theorem dX1_sharesAt_8 : decode cX1_sharesAt 8 = .ok (.aload_n 0, 1) := by decide +kernel
theorem dX1_sharesAt_9 : decode cX1_sharesAt 9 = .ok (.getfield 40, 3) := by decide +kernel
theorem dX1_sharesAt_12 : decode cX1_sharesAt 12 = .ok (.iload_n 1, 1) := by decide +kernel
theorem dX1_sharesAt_13 : decode cX1_sharesAt 13 = .ok (.lconst 1, 1) := by decide +kernel
theorem dX1_sharesAt_14 : decode cX1_sharesAt 14 = .ok (.lastore, 1) := by decide +kernel
theorem dX1_sharesAt_15 : decode cX1_sharesAt 15 = .ok (.iconst 0, 1) := by decide +kernel
theorem dX1_sharesAt_16 : decode cX1_sharesAt 16 = .ok (.istore 4, 2) := by decide +kernel
theorem dX1_sharesAt_18 : decode cX1_sharesAt 18 = .ok (.iload 4, 2) := by decide +kernel
theorem dX1_sharesAt_20 : decode cX1_sharesAt 20 = .ok (.iload_n 3, 1) := by decide +kernel
theorem dX1_sharesAt_21 : decode cX1_sharesAt 21 = .ok (.if_icmp .ge 59, 3) := by decide +kernel
theorem dX1_sharesAt_24 : decode cX1_sharesAt 24 = .ok (.aload_n 0, 1) := by decide +kernel
theorem dX1_sharesAt_25 : decode cX1_sharesAt 25 = .ok (.getfield 44, 3) := by decide +kernel
theorem dX1_sharesAt_28 : decode cX1_sharesAt 28 = .ok (.lconst 0, 1) := by decide +kernel
theorem dX1_sharesAt_29 : decode cX1_sharesAt 29 = .ok (.invokestatic 145, 3) := by decide +kernel
theorem dX1_sharesAt_32 : decode cX1_sharesAt 32 = .ok (.iconst 0, 1) := by decide +kernel
theorem dX1_sharesAt_33 : decode cX1_sharesAt 33 = .ok (.istore 5, 2) := by decide +kernel
theorem dX1_sharesAt_35 : decode cX1_sharesAt 35 = .ok (.iload 5, 2) := by decide +kernel
theorem dX1_sharesAt_37 : decode cX1_sharesAt 37 = .ok (.aload_n 0, 1) := by decide +kernel
theorem dX1_sharesAt_38 : decode cX1_sharesAt 38 = .ok (.getfield 12, 3) := by decide +kernel
theorem dX1_sharesAt_41 : decode cX1_sharesAt 41 = .ok (.getfield 51, 3) := by decide +kernel
theorem dX1_sharesAt_44 : decode cX1_sharesAt 44 = .ok (.if_icmp .ge 15, 3) := by decide +kernel
theorem dX1_sharesAt_47 : decode cX1_sharesAt 47 = .ok (.aload_n 0, 1) := by decide +kernel
theorem dX1_sharesAt_48 : decode cX1_sharesAt 48 = .ok (.iload 5, 2) := by decide +kernel
theorem dX1_sharesAt_50 : decode cX1_sharesAt 50 = .ok (.invokevirtual 151, 3) := by decide +kernel
theorem dX1_sharesAt_53 : decode cX1_sharesAt 53 = .ok (.iinc 5 1, 3) := by decide +kernel
theorem dX1_sharesAt_56 : decode cX1_sharesAt 56 = .ok (.goto (-21), 3) := by decide +kernel
theorem dX1_sharesAt_59 : decode cX1_sharesAt 59 = .ok (.aload_n 0, 1) := by decide +kernel
theorem dX1_sharesAt_60 : decode cX1_sharesAt 60 = .ok (.getfield 44, 3) := by decide +kernel
theorem dX1_sharesAt_63 : decode cX1_sharesAt 63 = .ok (.iconst 0, 1) := by decide +kernel
theorem dX1_sharesAt_64 : decode cX1_sharesAt 64 = .ok (.aload_n 0, 1) := by decide +kernel
theorem dX1_sharesAt_65 : decode cX1_sharesAt 65 = .ok (.getfield 40, 3) := by decide +kernel
theorem dX1_sharesAt_68 : decode cX1_sharesAt 68 = .ok (.iconst 0, 1) := by decide +kernel
theorem dX1_sharesAt_69 : decode cX1_sharesAt 69 = .ok (.bipush 7, 2) := by decide +kernel
theorem dX1_sharesAt_71 : decode cX1_sharesAt 71 = .ok (.invokestatic 155, 3) := by decide +kernel
theorem dX1_sharesAt_74 : decode cX1_sharesAt 74 = .ok (.iinc 4 1, 3) := by decide +kernel
theorem dX1_sharesAt_77 : decode cX1_sharesAt 77 = .ok (.goto (-59), 3) := by decide +kernel
theorem dX1_sharesAt_80 : decode cX1_sharesAt 80 = .ok (.aload_n 0, 1) := by decide +kernel
theorem dX1_sharesAt_81 : decode cX1_sharesAt 81 = .ok (.getfield 40, 3) := by decide +kernel
theorem dX1_sharesAt_84 : decode cX1_sharesAt 84 = .ok (.iload_n 2, 1) := by decide +kernel
theorem dX1_sharesAt_85 : decode cX1_sharesAt 85 = .ok (.laload, 1) := by decide +kernel
theorem dX1_sharesAt_86 : decode cX1_sharesAt 86 = .ok (.lreturn, 1) := by decide +kernel
theorem dX1_spread_0 : decode cX1_spread 0 = .ok (.aload_n 0, 1) := by decide +kernel
theorem dX1_spread_1 : decode cX1_spread 1 = .ok (.getfield 12, 3) := by decide +kernel
theorem dX1_spread_4 : decode cX1_spread 4 = .ok (.getfield 161, 3) := by decide +kernel
theorem dX1_spread_7 : decode cX1_spread 7 = .ok (.iload_n 1, 1) := by decide +kernel
theorem dX1_spread_8 : decode cX1_spread 8 = .ok (.iaload, 1) := by decide +kernel
theorem dX1_spread_9 : decode cX1_spread 9 = .ok (.invokestatic 164, 3) := by decide +kernel
theorem dX1_spread_12 : decode cX1_spread 12 = .ok (.istore_n 2, 1) := by decide +kernel
theorem dX1_spread_13 : decode cX1_spread 13 = .ok (.iload_n 2, 1) := by decide +kernel
theorem dX1_spread_14 : decode cX1_spread 14 = .ok (.ifCond .ne 23, 3) := by decide +kernel
theorem dX1_spread_17 : decode cX1_spread 17 = .ok (.aload_n 0, 1) := by decide +kernel
theorem dX1_spread_18 : decode cX1_spread 18 = .ok (.getfield 44, 3) := by decide +kernel
theorem dX1_spread_21 : decode cX1_spread 21 = .ok (.iload_n 1, 1) := by decide +kernel
theorem dX1_spread_22 : decode cX1_spread 22 = .ok (.dup2, 1) := by decide +kernel
theorem dX1_spread_23 : decode cX1_spread 23 = .ok (.laload, 1) := by decide +kernel
theorem dX1_spread_24 : decode cX1_spread 24 = .ok (.aload_n 0, 1) := by decide +kernel
theorem dX1_spread_25 : decode cX1_spread 25 = .ok (.getfield 40, 3) := by decide +kernel
theorem dX1_spread_28 : decode cX1_spread 28 = .ok (.iload_n 1, 1) := by decide +kernel
theorem dX1_spread_29 : decode cX1_spread 29 = .ok (.laload, 1) := by decide +kernel
theorem dX1_spread_30 : decode cX1_spread 30 = .ok (.ldc2_w 169, 3) := by decide +kernel
theorem dX1_spread_33 : decode cX1_spread 33 = .ok (.lmul, 1) := by decide +kernel
theorem dX1_spread_34 : decode cX1_spread 34 = .ok (.ladd, 1) := by decide +kernel
theorem dX1_spread_35 : decode cX1_spread 35 = .ok (.lastore, 1) := by decide +kernel
theorem dX1_spread_36 : decode cX1_spread 36 = .ok (.return_, 1) := by decide +kernel
theorem dX1_spread_37 : decode cX1_spread 37 = .ok (.iconst 0, 1) := by decide +kernel
theorem dX1_spread_38 : decode cX1_spread 38 = .ok (.istore_n 3, 1) := by decide +kernel
theorem dX1_spread_39 : decode cX1_spread 39 = .ok (.iload_n 3, 1) := by decide +kernel
theorem dX1_spread_40 : decode cX1_spread 40 = .ok (.aload_n 0, 1) := by decide +kernel
theorem dX1_spread_41 : decode cX1_spread 41 = .ok (.getfield 12, 3) := by decide +kernel
theorem dX1_spread_44 : decode cX1_spread 44 = .ok (.getfield 51, 3) := by decide +kernel
theorem dX1_spread_47 : decode cX1_spread 47 = .ok (.if_icmp .ge 64, 3) := by decide +kernel
theorem dX1_spread_50 : decode cX1_spread 50 = .ok (.aload_n 0, 1) := by decide +kernel
theorem dX1_spread_51 : decode cX1_spread 51 = .ok (.getfield 12, 3) := by decide +kernel
theorem dX1_spread_54 : decode cX1_spread 54 = .ok (.iload_n 1, 1) := by decide +kernel
theorem dX1_spread_55 : decode cX1_spread 55 = .ok (.iload_n 3, 1) := by decide +kernel
theorem dX1_spread_56 : decode cX1_spread 56 = .ok (.invokevirtual 96, 3) := by decide +kernel
theorem dX1_spread_59 : decode cX1_spread 59 = .ok (.ifCond .eq 46, 3) := by decide +kernel
theorem dX1_spread_62 : decode cX1_spread 62 = .ok (.aload_n 0, 1) := by decide +kernel
theorem dX1_spread_63 : decode cX1_spread 63 = .ok (.getfield 34, 3) := by decide +kernel
theorem dX1_spread_66 : decode cX1_spread 66 = .ok (.iload_n 1, 1) := by decide +kernel
theorem dX1_spread_67 : decode cX1_spread 67 = .ok (.iload_n 3, 1) := by decide +kernel
theorem dX1_spread_68 : decode cX1_spread 68 = .ok (.invokestatic 70, 3) := by decide +kernel
theorem dX1_spread_71 : decode cX1_spread 71 = .ok (.iaload, 1) := by decide +kernel
theorem dX1_spread_72 : decode cX1_spread 72 = .ok (.istore 4, 2) := by decide +kernel
theorem dX1_spread_74 : decode cX1_spread 74 = .ok (.aload_n 0, 1) := by decide +kernel
theorem dX1_spread_75 : decode cX1_spread 75 = .ok (.getfield 44, 3) := by decide +kernel
theorem dX1_spread_78 : decode cX1_spread 78 = .ok (.iload 4, 2) := by decide +kernel
theorem dX1_spread_80 : decode cX1_spread 80 = .ok (.ifCond .ge 7, 3) := by decide +kernel
theorem dX1_spread_83 : decode cX1_spread 83 = .ok (.iload_n 1, 1) := by decide +kernel
theorem dX1_spread_84 : decode cX1_spread 84 = .ok (.goto 5, 3) := by decide +kernel
theorem dX1_spread_87 : decode cX1_spread 87 = .ok (.iload 4, 2) := by decide +kernel
theorem dX1_spread_89 : decode cX1_spread 89 = .ok (.dup2, 1) := by decide +kernel
theorem dX1_spread_90 : decode cX1_spread 90 = .ok (.laload, 1) := by decide +kernel
theorem dX1_spread_91 : decode cX1_spread 91 = .ok (.aload_n 0, 1) := by decide +kernel
theorem dX1_spread_92 : decode cX1_spread 92 = .ok (.getfield 40, 3) := by decide +kernel
theorem dX1_spread_95 : decode cX1_spread 95 = .ok (.iload_n 1, 1) := by decide +kernel
theorem dX1_spread_96 : decode cX1_spread 96 = .ok (.laload, 1) := by decide +kernel
theorem dX1_spread_97 : decode cX1_spread 97 = .ok (.bipush 60, 2) := by decide +kernel
theorem dX1_spread_99 : decode cX1_spread 99 = .ok (.iload_n 2, 1) := by decide +kernel
theorem dX1_spread_100 : decode cX1_spread 100 = .ok (.idiv, 1) := by decide +kernel
theorem dX1_spread_101 : decode cX1_spread 101 = .ok (.i2l, 1) := by decide +kernel
theorem dX1_spread_102 : decode cX1_spread 102 = .ok (.lmul, 1) := by decide +kernel
theorem dX1_spread_103 : decode cX1_spread 103 = .ok (.ladd, 1) := by decide +kernel
theorem dX1_spread_104 : decode cX1_spread 104 = .ok (.lastore, 1) := by decide +kernel
theorem dX1_spread_105 : decode cX1_spread 105 = .ok (.iinc 3 1, 3) := by decide +kernel
theorem dX1_spread_108 : decode cX1_spread 108 = .ok (.goto (-69), 3) := by decide +kernel
theorem dX1_spread_111 : decode cX1_spread 111 = .ok (.return_, 1) := by decide +kernel
theorem dX2_init_0 : decode cX2_init 0 = .ok (.aload_n 0, 1) := by decide +kernel
theorem dX2_init_1 : decode cX2_init 1 = .ok (.invokespecial 3, 3) := by decide +kernel
theorem dX2_init_4 : decode cX2_init 4 = .ok (.aload_n 0, 1) := by decide +kernel
theorem dX2_init_5 : decode cX2_init 5 = .ok (.bipush 100, 2) := by decide +kernel
theorem dX2_init_7 : decode cX2_init 7 = .ok (.newarray .int, 2) := by decide +kernel
theorem dX2_init_9 : decode cX2_init 9 = .ok (.putfield 9, 3) := by decide +kernel
theorem dX2_init_12 : decode cX2_init 12 = .ok (.aload_n 0, 1) := by decide +kernel
theorem dX2_init_13 : decode cX2_init 13 = .ok (.bipush 10, 2) := by decide +kernel
theorem dX2_init_15 : decode cX2_init 15 = .ok (.newarray .int, 2) := by decide +kernel
theorem dX2_init_17 : decode cX2_init 17 = .ok (.putfield 15, 3) := by decide +kernel
theorem dX2_init_20 : decode cX2_init 20 = .ok (.aload_n 0, 1) := by decide +kernel
theorem dX2_init_21 : decode cX2_init 21 = .ok (.bipush 10, 2) := by decide +kernel
theorem dX2_init_23 : decode cX2_init 23 = .ok (.newarray .int, 2) := by decide +kernel
theorem dX2_init_25 : decode cX2_init 25 = .ok (.putfield 18, 3) := by decide +kernel
theorem dX2_init_28 : decode cX2_init 28 = .ok (.aload_n 0, 1) := by decide +kernel
theorem dX2_init_29 : decode cX2_init 29 = .ok (.bipush 10, 2) := by decide +kernel
theorem dX2_init_31 : decode cX2_init 31 = .ok (.newarray .int, 2) := by decide +kernel
theorem dX2_init_33 : decode cX2_init 33 = .ok (.putfield 21, 3) := by decide +kernel
theorem dX2_init_36 : decode cX2_init 36 = .ok (.aload_n 0, 1) := by decide +kernel
theorem dX2_init_37 : decode cX2_init 37 = .ok (.iconst 4, 1) := by decide +kernel
theorem dX2_init_38 : decode cX2_init 38 = .ok (.putfield 24, 3) := by decide +kernel
theorem dX2_init_41 : decode cX2_init 41 = .ok (.return_, 1) := by decide +kernel
theorem dX2_clear_0 : decode cX2_clear 0 = .ok (.aload_n 0, 1) := by decide +kernel
theorem dX2_clear_1 : decode cX2_clear 1 = .ok (.iconst 0, 1) := by decide +kernel
theorem dX2_clear_2 : decode cX2_clear 2 = .ok (.putfield 28, 3) := by decide +kernel
theorem dX2_clear_5 : decode cX2_clear 5 = .ok (.aload_n 0, 1) := by decide +kernel
theorem dX2_clear_6 : decode cX2_clear 6 = .ok (.iconst 0, 1) := by decide +kernel
theorem dX2_clear_7 : decode cX2_clear 7 = .ok (.putfield 31, 3) := by decide +kernel
theorem dX2_clear_10 : decode cX2_clear 10 = .ok (.aload_n 0, 1) := by decide +kernel
theorem dX2_clear_11 : decode cX2_clear 11 = .ok (.iconst 4, 1) := by decide +kernel
theorem dX2_clear_12 : decode cX2_clear 12 = .ok (.putfield 24, 3) := by decide +kernel
theorem dX2_clear_15 : decode cX2_clear 15 = .ok (.return_, 1) := by decide +kernel
theorem dX2_addCode_0 : decode cX2_addCode 0 = .ok (.aload_n 0, 1) := by decide +kernel
theorem dX2_addCode_1 : decode cX2_addCode 1 = .ok (.getfield 28, 3) := by decide +kernel
theorem dX2_addCode_4 : decode cX2_addCode 4 = .ok (.bipush 100, 2) := by decide +kernel
theorem dX2_addCode_6 : decode cX2_addCode 6 = .ok (.if_icmp .ge 23, 3) := by decide +kernel
theorem dX2_addCode_9 : decode cX2_addCode 9 = .ok (.aload_n 0, 1) := by decide +kernel
theorem dX2_addCode_10 : decode cX2_addCode 10 = .ok (.getfield 9, 3) := by decide +kernel
theorem dX2_addCode_13 : decode cX2_addCode 13 = .ok (.aload_n 0, 1) := by decide +kernel
theorem dX2_addCode_14 : decode cX2_addCode 14 = .ok (.getfield 28, 3) := by decide +kernel
theorem dX2_addCode_17 : decode cX2_addCode 17 = .ok (.iload_n 1, 1) := by decide +kernel
theorem dX2_addCode_18 : decode cX2_addCode 18 = .ok (.iastore, 1) := by decide +kernel
theorem dX2_addCode_19 : decode cX2_addCode 19 = .ok (.aload_n 0, 1) := by decide +kernel
theorem dX2_addCode_20 : decode cX2_addCode 20 = .ok (.dup, 1) := by decide +kernel
theorem dX2_addCode_21 : decode cX2_addCode 21 = .ok (.getfield 28, 3) := by decide +kernel
theorem dX2_addCode_24 : decode cX2_addCode 24 = .ok (.iconst 1, 1) := by decide +kernel
theorem dX2_addCode_25 : decode cX2_addCode 25 = .ok (.iadd, 1) := by decide +kernel
theorem dX2_addCode_26 : decode cX2_addCode 26 = .ok (.putfield 28, 3) := by decide +kernel
theorem dX2_addCode_29 : decode cX2_addCode 29 = .ok (.return_, 1) := by decide +kernel
theorem dX2_addTest_0 : decode cX2_addTest 0 = .ok (.aload_n 0, 1) := by decide +kernel
theorem dX2_addTest_1 : decode cX2_addTest 1 = .ok (.iload_n 1, 1) := by decide +kernel
theorem dX2_addTest_2 : decode cX2_addTest 2 = .ok (.sipush 300, 3) := by decide +kernel
theorem dX2_addTest_5 : decode cX2_addTest 5 = .ok (.imul, 1) := by decide +kernel
theorem dX2_addTest_6 : decode cX2_addTest 6 = .ok (.iload_n 2, 1) := by decide +kernel
theorem dX2_addTest_7 : decode cX2_addTest 7 = .ok (.bipush 100, 2) := by decide +kernel
theorem dX2_addTest_9 : decode cX2_addTest 9 = .ok (.imul, 1) := by decide +kernel
theorem dX2_addTest_10 : decode cX2_addTest 10 = .ok (.iadd, 1) := by decide +kernel
theorem dX2_addTest_11 : decode cX2_addTest 11 = .ok (.iload_n 3, 1) := by decide +kernel
theorem dX2_addTest_12 : decode cX2_addTest 12 = .ok (.iadd, 1) := by decide +kernel
theorem dX2_addTest_13 : decode cX2_addTest 13 = .ok (.invokevirtual 34, 3) := by decide +kernel
theorem dX2_addTest_16 : decode cX2_addTest 16 = .ok (.return_, 1) := by decide +kernel
theorem dX2_addClause_0 : decode cX2_addClause 0 = .ok (.iload_n 1, 1) := by decide +kernel
theorem dX2_addClause_1 : decode cX2_addClause 1 = .ok (.iconst 2, 1) := by decide +kernel
theorem dX2_addClause_2 : decode cX2_addClause 2 = .ok (.if_icmp .ne 8, 3) := by decide +kernel
theorem dX2_addClause_5 : decode cX2_addClause 5 = .ok (.aload_n 0, 1) := by decide +kernel
theorem dX2_addClause_6 : decode cX2_addClause 6 = .ok (.iload_n 2, 1) := by decide +kernel
theorem dX2_addClause_7 : decode cX2_addClause 7 = .ok (.putfield 24, 3) := by decide +kernel
theorem dX2_addClause_10 : decode cX2_addClause 10 = .ok (.aload_n 0, 1) := by decide +kernel
theorem dX2_addClause_11 : decode cX2_addClause 11 = .ok (.getfield 31, 3) := by decide +kernel
theorem dX2_addClause_14 : decode cX2_addClause 14 = .ok (.bipush 10, 2) := by decide +kernel
theorem dX2_addClause_16 : decode cX2_addClause 16 = .ok (.if_icmp .ge 46, 3) := by decide +kernel
theorem dX2_addClause_19 : decode cX2_addClause 19 = .ok (.aload_n 0, 1) := by decide +kernel
theorem dX2_addClause_20 : decode cX2_addClause 20 = .ok (.getfield 15, 3) := by decide +kernel
theorem dX2_addClause_23 : decode cX2_addClause 23 = .ok (.aload_n 0, 1) := by decide +kernel
theorem dX2_addClause_24 : decode cX2_addClause 24 = .ok (.getfield 31, 3) := by decide +kernel
theorem dX2_addClause_27 : decode cX2_addClause 27 = .ok (.iload_n 1, 1) := by decide +kernel
theorem dX2_addClause_28 : decode cX2_addClause 28 = .ok (.iastore, 1) := by decide +kernel
theorem dX2_addClause_29 : decode cX2_addClause 29 = .ok (.aload_n 0, 1) := by decide +kernel
theorem dX2_addClause_30 : decode cX2_addClause 30 = .ok (.getfield 18, 3) := by decide +kernel
theorem dX2_addClause_33 : decode cX2_addClause 33 = .ok (.aload_n 0, 1) := by decide +kernel
theorem dX2_addClause_34 : decode cX2_addClause 34 = .ok (.getfield 31, 3) := by decide +kernel
theorem dX2_addClause_37 : decode cX2_addClause 37 = .ok (.iload_n 2, 1) := by decide +kernel
theorem dX2_addClause_38 : decode cX2_addClause 38 = .ok (.iastore, 1) := by decide +kernel
theorem dX2_addClause_39 : decode cX2_addClause 39 = .ok (.aload_n 0, 1) := by decide +kernel
theorem dX2_addClause_40 : decode cX2_addClause 40 = .ok (.getfield 21, 3) := by decide +kernel
theorem dX2_addClause_43 : decode cX2_addClause 43 = .ok (.aload_n 0, 1) := by decide +kernel
theorem dX2_addClause_44 : decode cX2_addClause 44 = .ok (.getfield 31, 3) := by decide +kernel
theorem dX2_addClause_47 : decode cX2_addClause 47 = .ok (.aload_n 0, 1) := by decide +kernel
theorem dX2_addClause_48 : decode cX2_addClause 48 = .ok (.getfield 28, 3) := by decide +kernel
theorem dX2_addClause_51 : decode cX2_addClause 51 = .ok (.iastore, 1) := by decide +kernel
theorem dX2_addClause_52 : decode cX2_addClause 52 = .ok (.aload_n 0, 1) := by decide +kernel
theorem dX2_addClause_53 : decode cX2_addClause 53 = .ok (.dup, 1) := by decide +kernel
theorem dX2_addClause_54 : decode cX2_addClause 54 = .ok (.getfield 31, 3) := by decide +kernel
theorem dX2_addClause_57 : decode cX2_addClause 57 = .ok (.iconst 1, 1) := by decide +kernel
theorem dX2_addClause_58 : decode cX2_addClause 58 = .ok (.iadd, 1) := by decide +kernel
theorem dX2_addClause_59 : decode cX2_addClause 59 = .ok (.putfield 31, 3) := by decide +kernel
theorem dX2_addClause_62 : decode cX2_addClause 62 = .ok (.return_, 1) := by decide +kernel
theorem dX2_together_0 : decode cX2_together 0 = .ok (.iconst 0, 1) := by decide +kernel
theorem dX2_together_1 : decode cX2_together 1 = .ok (.istore_n 3, 1) := by decide +kernel
theorem dX2_together_2 : decode cX2_together 2 = .ok (.iconst 0, 1) := by decide +kernel
theorem dX2_together_3 : decode cX2_together 3 = .ok (.istore 4, 2) := by decide +kernel
theorem dX2_together_5 : decode cX2_together 5 = .ok (.iconst 0, 1) := by decide +kernel
theorem dX2_together_6 : decode cX2_together 6 = .ok (.istore 5, 2) := by decide +kernel
theorem dX2_together_8 : decode cX2_together 8 = .ok (.iload 5, 2) := by decide +kernel
theorem dX2_together_10 : decode cX2_together 10 = .ok (.aload_n 0, 1) := by decide +kernel
theorem dX2_together_11 : decode cX2_together 11 = .ok (.getfield 31, 3) := by decide +kernel
theorem dX2_together_14 : decode cX2_together 14 = .ok (.if_icmp .ge 56, 3) := by decide +kernel
theorem dX2_together_17 : decode cX2_together 17 = .ok (.aload_n 0, 1) := by decide +kernel
theorem dX2_together_18 : decode cX2_together 18 = .ok (.getfield 15, 3) := by decide +kernel
theorem dX2_together_21 : decode cX2_together 21 = .ok (.iload 5, 2) := by decide +kernel
theorem dX2_together_23 : decode cX2_together 23 = .ok (.iaload, 1) := by decide +kernel
theorem dX2_together_24 : decode cX2_together 24 = .ok (.iload_n 1, 1) := by decide +kernel
theorem dX2_together_25 : decode cX2_together 25 = .ok (.if_icmp .ne 30, 3) := by decide +kernel
theorem dX2_together_28 : decode cX2_together 28 = .ok (.aload_n 0, 1) := by decide +kernel
theorem dX2_together_29 : decode cX2_together 29 = .ok (.iload 4, 2) := by decide +kernel
theorem dX2_together_31 : decode cX2_together 31 = .ok (.aload_n 0, 1) := by decide +kernel
theorem dX2_together_32 : decode cX2_together 32 = .ok (.getfield 21, 3) := by decide +kernel
theorem dX2_together_35 : decode cX2_together 35 = .ok (.iload 5, 2) := by decide +kernel
theorem dX2_together_37 : decode cX2_together 37 = .ok (.iaload, 1) := by decide +kernel
theorem dX2_together_38 : decode cX2_together 38 = .ok (.aload_n 2, 1) := by decide +kernel
theorem dX2_together_39 : decode cX2_together 39 = .ok (.invokevirtual 38, 3) := by decide +kernel
theorem dX2_together_42 : decode cX2_together 42 = .ok (.ifCond .eq 13, 3) := by decide +kernel
theorem dX2_together_45 : decode cX2_together 45 = .ok (.iload_n 3, 1) := by decide +kernel
theorem dX2_together_46 : decode cX2_together 46 = .ok (.aload_n 0, 1) := by decide +kernel
theorem dX2_together_47 : decode cX2_together 47 = .ok (.getfield 18, 3) := by decide +kernel
theorem dX2_together_50 : decode cX2_together 50 = .ok (.iload 5, 2) := by decide +kernel
theorem dX2_together_52 : decode cX2_together 52 = .ok (.iaload, 1) := by decide +kernel
theorem dX2_together_53 : decode cX2_together 53 = .ok (.iadd, 1) := by decide +kernel
theorem dX2_together_54 : decode cX2_together 54 = .ok (.istore_n 3, 1) := by decide +kernel
theorem dX2_together_55 : decode cX2_together 55 = .ok (.aload_n 0, 1) := by decide +kernel
theorem dX2_together_56 : decode cX2_together 56 = .ok (.getfield 21, 3) := by decide +kernel
theorem dX2_together_59 : decode cX2_together 59 = .ok (.iload 5, 2) := by decide +kernel
theorem dX2_together_61 : decode cX2_together 61 = .ok (.iaload, 1) := by decide +kernel
theorem dX2_together_62 : decode cX2_together 62 = .ok (.istore 4, 2) := by decide +kernel
theorem dX2_together_64 : decode cX2_together 64 = .ok (.iinc 5 1, 3) := by decide +kernel
theorem dX2_together_67 : decode cX2_together 67 = .ok (.goto (-59), 3) := by decide +kernel
theorem dX2_together_70 : decode cX2_together 70 = .ok (.iload_n 3, 1) := by decide +kernel
theorem dX2_together_71 : decode cX2_together 71 = .ok (.ireturn, 1) := by decide +kernel
theorem dX2_holds_0 : decode cX2_holds 0 = .ok (.iconst 0, 1) := by decide +kernel
theorem dX2_holds_1 : decode cX2_holds 1 = .ok (.istore 4, 2) := by decide +kernel
theorem dX2_holds_3 : decode cX2_holds 3 = .ok (.iload_n 1, 1) := by decide +kernel
theorem dX2_holds_4 : decode cX2_holds 4 = .ok (.istore 5, 2) := by decide +kernel
theorem dX2_holds_6 : decode cX2_holds 6 = .ok (.iload 5, 2) := by decide +kernel
theorem dX2_holds_8 : decode cX2_holds 8 = .ok (.iload_n 2, 1) := by decide +kernel
theorem dX2_holds_9 : decode cX2_holds 9 = .ok (.if_icmp .ge 97, 3) := by decide +kernel
theorem dX2_holds_12 : decode cX2_holds 12 = .ok (.aload_n 0, 1) := by decide +kernel
theorem dX2_holds_13 : decode cX2_holds 13 = .ok (.getfield 9, 3) := by decide +kernel
theorem dX2_holds_16 : decode cX2_holds 16 = .ok (.iload 5, 2) := by decide +kernel
theorem dX2_holds_18 : decode cX2_holds 18 = .ok (.iaload, 1) := by decide +kernel
theorem dX2_holds_19 : decode cX2_holds 19 = .ok (.istore 6, 2) := by decide +kernel
theorem dX2_holds_21 : decode cX2_holds 21 = .ok (.iload 6, 2) := by decide +kernel
theorem dX2_holds_23 : decode cX2_holds 23 = .ok (.iconst (-1), 1) := by decide +kernel
theorem dX2_holds_24 : decode cX2_holds 24 = .ok (.if_icmp .ne 12, 3) := by decide +kernel
theorem dX2_holds_27 : decode cX2_holds 27 = .ok (.iload 4, 2) := by decide +kernel
theorem dX2_holds_29 : decode cX2_holds 29 = .ok (.iconst 1, 1) := by decide +kernel
theorem dX2_holds_30 : decode cX2_holds 30 = .ok (.ixor, 1) := by decide +kernel
theorem dX2_holds_31 : decode cX2_holds 31 = .ok (.istore 4, 2) := by decide +kernel
theorem dX2_holds_33 : decode cX2_holds 33 = .ok (.goto 67, 3) := by decide +kernel
theorem dX2_holds_36 : decode cX2_holds 36 = .ok (.iload 6, 2) := by decide +kernel
theorem dX2_holds_38 : decode cX2_holds 38 = .ok (.bipush (-2), 2) := by decide +kernel
theorem dX2_holds_40 : decode cX2_holds 40 = .ok (.if_icmp .ne 18, 3) := by decide +kernel
theorem dX2_holds_43 : decode cX2_holds 43 = .ok (.iload 4, 2) := by decide +kernel
theorem dX2_holds_45 : decode cX2_holds 45 = .ok (.iconst 1, 1) := by decide +kernel
theorem dX2_holds_46 : decode cX2_holds 46 = .ok (.ishr, 1) := by decide +kernel
theorem dX2_holds_47 : decode cX2_holds 47 = .ok (.iload 4, 2) := by decide +kernel
theorem dX2_holds_49 : decode cX2_holds 49 = .ok (.bipush (-2), 2) := by decide +kernel
theorem dX2_holds_51 : decode cX2_holds 51 = .ok (.ior, 1) := by decide +kernel
theorem dX2_holds_52 : decode cX2_holds 52 = .ok (.iand, 1) := by decide +kernel
theorem dX2_holds_53 : decode cX2_holds 53 = .ok (.istore 4, 2) := by decide +kernel
theorem dX2_holds_55 : decode cX2_holds 55 = .ok (.goto 45, 3) := by decide +kernel
theorem dX2_holds_58 : decode cX2_holds 58 = .ok (.iload 6, 2) := by decide +kernel
theorem dX2_holds_60 : decode cX2_holds 60 = .ok (.bipush (-3), 2) := by decide +kernel
theorem dX2_holds_62 : decode cX2_holds 62 = .ok (.if_icmp .ne 17, 3) := by decide +kernel
theorem dX2_holds_65 : decode cX2_holds 65 = .ok (.iload 4, 2) := by decide +kernel
theorem dX2_holds_67 : decode cX2_holds 67 = .ok (.iconst 1, 1) := by decide +kernel
theorem dX2_holds_68 : decode cX2_holds 68 = .ok (.ishr, 1) := by decide +kernel
theorem dX2_holds_69 : decode cX2_holds 69 = .ok (.iload 4, 2) := by decide +kernel
theorem dX2_holds_71 : decode cX2_holds 71 = .ok (.iconst 1, 1) := by decide +kernel
theorem dX2_holds_72 : decode cX2_holds 72 = .ok (.iand, 1) := by decide +kernel
theorem dX2_holds_73 : decode cX2_holds 73 = .ok (.ior, 1) := by decide +kernel
theorem dX2_holds_74 : decode cX2_holds 74 = .ok (.istore 4, 2) := by decide +kernel
theorem dX2_holds_76 : decode cX2_holds 76 = .ok (.goto 24, 3) := by decide +kernel
theorem dX2_holds_79 : decode cX2_holds 79 = .ok (.iload 4, 2) := by decide +kernel
theorem dX2_holds_81 : decode cX2_holds 81 = .ok (.iconst 1, 1) := by decide +kernel
theorem dX2_holds_82 : decode cX2_holds 82 = .ok (.ishl, 1) := by decide +kernel
theorem dX2_holds_83 : decode cX2_holds 83 = .ok (.iload 6, 2) := by decide +kernel
theorem dX2_holds_85 : decode cX2_holds 85 = .ok (.aload_n 3, 1) := by decide +kernel
theorem dX2_holds_86 : decode cX2_holds 86 = .ok (.invokestatic 42, 3) := by decide +kernel
theorem dX2_holds_89 : decode cX2_holds 89 = .ok (.ifCond .eq 7, 3) := by decide +kernel
theorem dX2_holds_92 : decode cX2_holds 92 = .ok (.iconst 1, 1) := by decide +kernel
theorem dX2_holds_93 : decode cX2_holds 93 = .ok (.goto 4, 3) := by decide +kernel
theorem dX2_holds_96 : decode cX2_holds 96 = .ok (.iconst 0, 1) := by decide +kernel
theorem dX2_holds_97 : decode cX2_holds 97 = .ok (.ior, 1) := by decide +kernel
theorem dX2_holds_98 : decode cX2_holds 98 = .ok (.istore 4, 2) := by decide +kernel
theorem dX2_holds_100 : decode cX2_holds 100 = .ok (.iinc 5 1, 3) := by decide +kernel
theorem dX2_holds_103 : decode cX2_holds 103 = .ok (.goto (-97), 3) := by decide +kernel
theorem dX2_holds_106 : decode cX2_holds 106 = .ok (.iload 4, 2) := by decide +kernel
theorem dX2_holds_108 : decode cX2_holds 108 = .ok (.iconst 1, 1) := by decide +kernel
theorem dX2_holds_109 : decode cX2_holds 109 = .ok (.iand, 1) := by decide +kernel
theorem dX2_holds_110 : decode cX2_holds 110 = .ok (.iconst 1, 1) := by decide +kernel
theorem dX2_holds_111 : decode cX2_holds 111 = .ok (.if_icmp .ne 7, 3) := by decide +kernel
theorem dX2_holds_114 : decode cX2_holds 114 = .ok (.iconst 1, 1) := by decide +kernel
theorem dX2_holds_115 : decode cX2_holds 115 = .ok (.goto 4, 3) := by decide +kernel
theorem dX2_holds_118 : decode cX2_holds 118 = .ok (.iconst 0, 1) := by decide +kernel
theorem dX2_holds_119 : decode cX2_holds 119 = .ok (.ireturn, 1) := by decide +kernel
theorem dX2_passes_0 : decode cX2_passes 0 = .ok (.aload_n 1, 1) := by decide +kernel
theorem dX2_passes_1 : decode cX2_passes 1 = .ok (.iload_n 0, 1) := by decide +kernel
theorem dX2_passes_2 : decode cX2_passes 2 = .ok (.sipush 300, 3) := by decide +kernel
theorem dX2_passes_5 : decode cX2_passes 5 = .ok (.idiv, 1) := by decide +kernel
theorem dX2_passes_6 : decode cX2_passes 6 = .ok (.iaload, 1) := by decide +kernel
theorem dX2_passes_7 : decode cX2_passes 7 = .ok (.istore_n 2, 1) := by decide +kernel
theorem dX2_passes_8 : decode cX2_passes 8 = .ok (.iload_n 0, 1) := by decide +kernel
theorem dX2_passes_9 : decode cX2_passes 9 = .ok (.bipush 100, 2) := by decide +kernel
theorem dX2_passes_11 : decode cX2_passes 11 = .ok (.irem, 1) := by decide +kernel
theorem dX2_passes_12 : decode cX2_passes 12 = .ok (.istore_n 3, 1) := by decide +kernel
theorem dX2_passes_13 : decode cX2_passes 13 = .ok (.iload_n 0, 1) := by decide +kernel
theorem dX2_passes_14 : decode cX2_passes 14 = .ok (.bipush 100, 2) := by decide +kernel
theorem dX2_passes_16 : decode cX2_passes 16 = .ok (.idiv, 1) := by decide +kernel
theorem dX2_passes_17 : decode cX2_passes 17 = .ok (.iconst 3, 1) := by decide +kernel
theorem dX2_passes_18 : decode cX2_passes 18 = .ok (.irem, 1) := by decide +kernel
theorem dX2_passes_19 : decode cX2_passes 19 = .ok (.lookupswitch 47 #[(0, 25), (1, 36)], 25) := by decide +kernel
theorem dX2_passes_44 : decode cX2_passes 44 = .ok (.iload_n 2, 1) := by decide +kernel
theorem dX2_passes_45 : decode cX2_passes 45 = .ok (.iload_n 3, 1) := by decide +kernel
theorem dX2_passes_46 : decode cX2_passes 46 = .ok (.if_icmp .ge 7, 3) := by decide +kernel
theorem dX2_passes_49 : decode cX2_passes 49 = .ok (.iconst 1, 1) := by decide +kernel
theorem dX2_passes_50 : decode cX2_passes 50 = .ok (.goto 4, 3) := by decide +kernel
theorem dX2_passes_53 : decode cX2_passes 53 = .ok (.iconst 0, 1) := by decide +kernel
theorem dX2_passes_54 : decode cX2_passes 54 = .ok (.ireturn, 1) := by decide +kernel
theorem dX2_passes_55 : decode cX2_passes 55 = .ok (.iload_n 2, 1) := by decide +kernel
theorem dX2_passes_56 : decode cX2_passes 56 = .ok (.iload_n 3, 1) := by decide +kernel
theorem dX2_passes_57 : decode cX2_passes 57 = .ok (.if_icmp .ne 7, 3) := by decide +kernel
theorem dX2_passes_60 : decode cX2_passes 60 = .ok (.iconst 1, 1) := by decide +kernel
theorem dX2_passes_61 : decode cX2_passes 61 = .ok (.goto 4, 3) := by decide +kernel
theorem dX2_passes_64 : decode cX2_passes 64 = .ok (.iconst 0, 1) := by decide +kernel
theorem dX2_passes_65 : decode cX2_passes 65 = .ok (.ireturn, 1) := by decide +kernel
theorem dX2_passes_66 : decode cX2_passes 66 = .ok (.iload_n 2, 1) := by decide +kernel
theorem dX2_passes_67 : decode cX2_passes 67 = .ok (.iload_n 3, 1) := by decide +kernel
theorem dX2_passes_68 : decode cX2_passes 68 = .ok (.if_icmp .le 7, 3) := by decide +kernel
theorem dX2_passes_71 : decode cX2_passes 71 = .ok (.iconst 1, 1) := by decide +kernel
theorem dX2_passes_72 : decode cX2_passes 72 = .ok (.goto 4, 3) := by decide +kernel
theorem dX2_passes_75 : decode cX2_passes 75 = .ok (.iconst 0, 1) := by decide +kernel
theorem dX2_passes_76 : decode cX2_passes 76 = .ok (.ireturn, 1) := by decide +kernel
theorem dX3_init_0 : decode cX3_init 0 = .ok (.aload_n 0, 1) := by decide +kernel
theorem dX3_init_1 : decode cX3_init 1 = .ok (.invokespecial 3, 3) := by decide +kernel
theorem dX3_init_4 : decode cX3_init 4 = .ok (.aload_n 0, 1) := by decide +kernel
theorem dX3_init_5 : decode cX3_init 5 = .ok (.bipush 100, 2) := by decide +kernel
theorem dX3_init_7 : decode cX3_init 7 = .ok (.newarray .char, 2) := by decide +kernel
theorem dX3_init_9 : decode cX3_init 9 = .ok (.putfield 9, 3) := by decide +kernel
theorem dX3_init_12 : decode cX3_init 12 = .ok (.aload_n 0, 1) := by decide +kernel
theorem dX3_init_13 : decode cX3_init 13 = .ok (.new 15, 3) := by decide +kernel
theorem dX3_init_16 : decode cX3_init 16 = .ok (.dup, 1) := by decide +kernel
theorem dX3_init_17 : decode cX3_init 17 = .ok (.invokespecial 17, 3) := by decide +kernel
theorem dX3_init_20 : decode cX3_init 20 = .ok (.putfield 18, 3) := by decide +kernel
theorem dX3_init_23 : decode cX3_init 23 = .ok (.return_, 1) := by decide +kernel
theorem dX3_addSign_0 : decode cX3_addSign 0 = .ok (.aload_n 0, 1) := by decide +kernel
theorem dX3_addSign_1 : decode cX3_addSign 1 = .ok (.getfield 22, 3) := by decide +kernel
theorem dX3_addSign_4 : decode cX3_addSign 4 = .ok (.bipush 100, 2) := by decide +kernel
theorem dX3_addSign_6 : decode cX3_addSign 6 = .ok (.if_icmp .ge 23, 3) := by decide +kernel
theorem dX3_addSign_9 : decode cX3_addSign 9 = .ok (.aload_n 0, 1) := by decide +kernel
theorem dX3_addSign_10 : decode cX3_addSign 10 = .ok (.getfield 9, 3) := by decide +kernel
theorem dX3_addSign_13 : decode cX3_addSign 13 = .ok (.aload_n 0, 1) := by decide +kernel
theorem dX3_addSign_14 : decode cX3_addSign 14 = .ok (.getfield 22, 3) := by decide +kernel
theorem dX3_addSign_17 : decode cX3_addSign 17 = .ok (.iload_n 1, 1) := by decide +kernel
theorem dX3_addSign_18 : decode cX3_addSign 18 = .ok (.castore, 1) := by decide +kernel
theorem dX3_addSign_19 : decode cX3_addSign 19 = .ok (.aload_n 0, 1) := by decide +kernel
theorem dX3_addSign_20 : decode cX3_addSign 20 = .ok (.dup, 1) := by decide +kernel
theorem dX3_addSign_21 : decode cX3_addSign 21 = .ok (.getfield 22, 3) := by decide +kernel
theorem dX3_addSign_24 : decode cX3_addSign 24 = .ok (.iconst 1, 1) := by decide +kernel
theorem dX3_addSign_25 : decode cX3_addSign 25 = .ok (.iadd, 1) := by decide +kernel
theorem dX3_addSign_26 : decode cX3_addSign 26 = .ok (.putfield 22, 3) := by decide +kernel
theorem dX3_addSign_29 : decode cX3_addSign 29 = .ok (.aload_n 0, 1) := by decide +kernel
theorem dX3_addSign_30 : decode cX3_addSign 30 = .ok (.getfield 22, 3) := by decide +kernel
theorem dX3_addSign_33 : decode cX3_addSign 33 = .ok (.ireturn, 1) := by decide +kernel
theorem dX3_empty_0 : decode cX3_empty 0 = .ok (.aload_n 0, 1) := by decide +kernel
theorem dX3_empty_1 : decode cX3_empty 1 = .ok (.iconst 0, 1) := by decide +kernel
theorem dX3_empty_2 : decode cX3_empty 2 = .ok (.putfield 22, 3) := by decide +kernel
theorem dX3_empty_5 : decode cX3_empty 5 = .ok (.return_, 1) := by decide +kernel
theorem dX3_faultOf_0 : decode cX3_faultOf 0 = .ok (.aload_n 0, 1) := by decide +kernel
theorem dX3_faultOf_1 : decode cX3_faultOf 1 = .ok (.iconst 0, 1) := by decide +kernel
theorem dX3_faultOf_2 : decode cX3_faultOf 2 = .ok (.putfield 26, 3) := by decide +kernel
theorem dX3_faultOf_5 : decode cX3_faultOf 5 = .ok (.aload_n 0, 1) := by decide +kernel
theorem dX3_faultOf_6 : decode cX3_faultOf 6 = .ok (.aload_n 1, 1) := by decide +kernel
theorem dX3_faultOf_7 : decode cX3_faultOf 7 = .ok (.putfield 18, 3) := by decide +kernel
theorem dX3_faultOf_10 : decode cX3_faultOf 10 = .ok (.aload_n 0, 1) := by decide +kernel
theorem dX3_faultOf_11 : decode cX3_faultOf 11 = .ok (.getfield 18, 3) := by decide +kernel
theorem dX3_faultOf_14 : decode cX3_faultOf 14 = .ok (.invokevirtual 29, 3) := by decide +kernel
theorem dX3_faultOf_17 : decode cX3_faultOf 17 = .ok (.iconst 0, 1) := by decide +kernel
theorem dX3_faultOf_18 : decode cX3_faultOf 18 = .ok (.istore_n 2, 1) := by decide +kernel
theorem dX3_faultOf_19 : decode cX3_faultOf 19 = .ok (.iload_n 2, 1) := by decide +kernel
theorem dX3_faultOf_20 : decode cX3_faultOf 20 = .ok (.bipush 10, 2) := by decide +kernel
theorem dX3_faultOf_22 : decode cX3_faultOf 22 = .ok (.if_icmp .ge 47, 3) := by decide +kernel
theorem dX3_faultOf_25 : decode cX3_faultOf 25 = .ok (.iload_n 2, 1) := by decide +kernel
theorem dX3_faultOf_26 : decode cX3_faultOf 26 = .ok (.ifCond .le 12, 3) := by decide +kernel
theorem dX3_faultOf_29 : decode cX3_faultOf 29 = .ok (.aload_n 0, 1) := by decide +kernel
theorem dX3_faultOf_30 : decode cX3_faultOf 30 = .ok (.bipush 59, 2) := by decide +kernel
theorem dX3_faultOf_32 : decode cX3_faultOf 32 = .ok (.invokevirtual 32, 3) := by decide +kernel
theorem dX3_faultOf_35 : decode cX3_faultOf 35 = .ok (.ifCond .eq 10, 3) := by decide +kernel
theorem dX3_faultOf_38 : decode cX3_faultOf 38 = .ok (.aload_n 0, 1) := by decide +kernel
theorem dX3_faultOf_39 : decode cX3_faultOf 39 = .ok (.invokevirtual 36, 3) := by decide +kernel
theorem dX3_faultOf_42 : decode cX3_faultOf 42 = .ok (.ifCond .ne 8, 3) := by decide +kernel
theorem dX3_faultOf_45 : decode cX3_faultOf 45 = .ok (.aload_n 0, 1) := by decide +kernel
theorem dX3_faultOf_46 : decode cX3_faultOf 46 = .ok (.getfield 26, 3) := by decide +kernel
theorem dX3_faultOf_49 : decode cX3_faultOf 49 = .ok (.ireturn, 1) := by decide +kernel
theorem dX3_faultOf_50 : decode cX3_faultOf 50 = .ok (.aload_n 0, 1) := by decide +kernel
theorem dX3_faultOf_51 : decode cX3_faultOf 51 = .ok (.getfield 26, 3) := by decide +kernel
theorem dX3_faultOf_54 : decode cX3_faultOf 54 = .ok (.aload_n 0, 1) := by decide +kernel
theorem dX3_faultOf_55 : decode cX3_faultOf 55 = .ok (.getfield 22, 3) := by decide +kernel
theorem dX3_faultOf_58 : decode cX3_faultOf 58 = .ok (.if_icmp .ne 5, 3) := by decide +kernel
theorem dX3_faultOf_61 : decode cX3_faultOf 61 = .ok (.iconst (-1), 1) := by decide +kernel
theorem dX3_faultOf_62 : decode cX3_faultOf 62 = .ok (.ireturn, 1) := by decide +kernel
theorem dX3_faultOf_63 : decode cX3_faultOf 63 = .ok (.iinc 2 1, 3) := by decide +kernel
theorem dX3_faultOf_66 : decode cX3_faultOf 66 = .ok (.goto (-47), 3) := by decide +kernel
theorem dX3_faultOf_69 : decode cX3_faultOf 69 = .ok (.aload_n 0, 1) := by decide +kernel
theorem dX3_faultOf_70 : decode cX3_faultOf 70 = .ok (.getfield 26, 3) := by decide +kernel
theorem dX3_faultOf_73 : decode cX3_faultOf 73 = .ok (.ireturn, 1) := by decide +kernel
theorem dX3_ahead_0 : decode cX3_ahead 0 = .ok (.aload_n 0, 1) := by decide +kernel
theorem dX3_ahead_1 : decode cX3_ahead 1 = .ok (.getfield 26, 3) := by decide +kernel
theorem dX3_ahead_4 : decode cX3_ahead 4 = .ok (.aload_n 0, 1) := by decide +kernel
theorem dX3_ahead_5 : decode cX3_ahead 5 = .ok (.getfield 22, 3) := by decide +kernel
theorem dX3_ahead_8 : decode cX3_ahead 8 = .ok (.if_icmp .ge 15, 3) := by decide +kernel
theorem dX3_ahead_11 : decode cX3_ahead 11 = .ok (.aload_n 0, 1) := by decide +kernel
theorem dX3_ahead_12 : decode cX3_ahead 12 = .ok (.getfield 9, 3) := by decide +kernel
theorem dX3_ahead_15 : decode cX3_ahead 15 = .ok (.aload_n 0, 1) := by decide +kernel
theorem dX3_ahead_16 : decode cX3_ahead 16 = .ok (.getfield 26, 3) := by decide +kernel
theorem dX3_ahead_19 : decode cX3_ahead 19 = .ok (.caload, 1) := by decide +kernel
theorem dX3_ahead_20 : decode cX3_ahead 20 = .ok (.goto 6, 3) := by decide +kernel
theorem dX3_ahead_23 : decode cX3_ahead 23 = .ok (.sipush 255, 3) := by decide +kernel
theorem dX3_ahead_26 : decode cX3_ahead 26 = .ok (.ireturn, 1) := by decide +kernel
theorem dX3_takes_0 : decode cX3_takes 0 = .ok (.aload_n 0, 1) := by decide +kernel
theorem dX3_takes_1 : decode cX3_takes 1 = .ok (.invokevirtual 40, 3) := by decide +kernel
theorem dX3_takes_4 : decode cX3_takes 4 = .ok (.iload_n 1, 1) := by decide +kernel
theorem dX3_takes_5 : decode cX3_takes 5 = .ok (.if_icmp .eq 5, 3) := by decide +kernel
theorem dX3_takes_8 : decode cX3_takes 8 = .ok (.iconst 0, 1) := by decide +kernel
theorem dX3_takes_9 : decode cX3_takes 9 = .ok (.ireturn, 1) := by decide +kernel
theorem dX3_takes_10 : decode cX3_takes 10 = .ok (.aload_n 0, 1) := by decide +kernel
theorem dX3_takes_11 : decode cX3_takes 11 = .ok (.dup, 1) := by decide +kernel
theorem dX3_takes_12 : decode cX3_takes 12 = .ok (.getfield 26, 3) := by decide +kernel
theorem dX3_takes_15 : decode cX3_takes 15 = .ok (.iconst 1, 1) := by decide +kernel
theorem dX3_takes_16 : decode cX3_takes 16 = .ok (.iadd, 1) := by decide +kernel
theorem dX3_takes_17 : decode cX3_takes 17 = .ok (.putfield 26, 3) := by decide +kernel
theorem dX3_takes_20 : decode cX3_takes 20 = .ok (.iconst 1, 1) := by decide +kernel
theorem dX3_takes_21 : decode cX3_takes 21 = .ok (.ireturn, 1) := by decide +kernel
theorem dX3_takesWord_0 : decode cX3_takesWord 0 = .ok (.iconst 0, 1) := by decide +kernel
theorem dX3_takesWord_1 : decode cX3_takesWord 1 = .ok (.istore_n 2, 1) := by decide +kernel
theorem dX3_takesWord_2 : decode cX3_takesWord 2 = .ok (.iload_n 2, 1) := by decide +kernel
theorem dX3_takesWord_3 : decode cX3_takesWord 3 = .ok (.aload_n 1, 1) := by decide +kernel
theorem dX3_takesWord_4 : decode cX3_takesWord 4 = .ok (.invokevirtual 44, 3) := by decide +kernel
theorem dX3_takesWord_7 : decode cX3_takesWord 7 = .ok (.if_icmp .ge 23, 3) := by decide +kernel
theorem dX3_takesWord_10 : decode cX3_takesWord 10 = .ok (.aload_n 0, 1) := by decide +kernel
theorem dX3_takesWord_11 : decode cX3_takesWord 11 = .ok (.aload_n 1, 1) := by decide +kernel
theorem dX3_takesWord_12 : decode cX3_takesWord 12 = .ok (.iload_n 2, 1) := by decide +kernel
theorem dX3_takesWord_13 : decode cX3_takesWord 13 = .ok (.invokevirtual 49, 3) := by decide +kernel
theorem dX3_takesWord_16 : decode cX3_takesWord 16 = .ok (.invokevirtual 32, 3) := by decide +kernel
theorem dX3_takesWord_19 : decode cX3_takesWord 19 = .ok (.ifCond .ne 5, 3) := by decide +kernel
theorem dX3_takesWord_22 : decode cX3_takesWord 22 = .ok (.iconst 0, 1) := by decide +kernel
theorem dX3_takesWord_23 : decode cX3_takesWord 23 = .ok (.ireturn, 1) := by decide +kernel
theorem dX3_takesWord_24 : decode cX3_takesWord 24 = .ok (.iinc 2 1, 3) := by decide +kernel
theorem dX3_takesWord_27 : decode cX3_takesWord 27 = .ok (.goto (-25), 3) := by decide +kernel
theorem dX3_takesWord_30 : decode cX3_takesWord 30 = .ok (.iconst 1, 1) := by decide +kernel
theorem dX3_takesWord_31 : decode cX3_takesWord 31 = .ok (.ireturn, 1) := by decide +kernel
theorem dX3_readsClause_0 : decode cX3_readsClause 0 = .ok (.ldc 53, 2) := by decide +kernel
theorem dX3_readsClause_2 : decode cX3_readsClause 2 = .ok (.aload_n 0, 1) := by decide +kernel
theorem dX3_readsClause_3 : decode cX3_readsClause 3 = .ok (.invokevirtual 40, 3) := by decide +kernel
theorem dX3_readsClause_6 : decode cX3_readsClause 6 = .ok (.invokevirtual 55, 3) := by decide +kernel
theorem dX3_readsClause_9 : decode cX3_readsClause 9 = .ok (.istore_n 1, 1) := by decide +kernel
theorem dX3_readsClause_10 : decode cX3_readsClause 10 = .ok (.iload_n 1, 1) := by decide +kernel
theorem dX3_readsClause_11 : decode cX3_readsClause 11 = .ok (.ifCond .lt 31, 3) := by decide +kernel
theorem dX3_readsClause_14 : decode cX3_readsClause 14 = .ok (.aload_n 0, 1) := by decide +kernel
theorem dX3_readsClause_15 : decode cX3_readsClause 15 = .ok (.iload_n 1, 1) := by decide +kernel
theorem dX3_readsClause_16 : decode cX3_readsClause 16 = .ok (.ifCond .ne 8, 3) := by decide +kernel
theorem dX3_readsClause_19 : decode cX3_readsClause 19 = .ok (.ldc 59, 2) := by decide +kernel
theorem dX3_readsClause_21 : decode cX3_readsClause 21 = .ok (.goto 15, 3) := by decide +kernel
theorem dX3_readsClause_24 : decode cX3_readsClause 24 = .ok (.iload_n 1, 1) := by decide +kernel
theorem dX3_readsClause_25 : decode cX3_readsClause 25 = .ok (.iconst 1, 1) := by decide +kernel
theorem dX3_readsClause_26 : decode cX3_readsClause 26 = .ok (.if_icmp .ne 8, 3) := by decide +kernel
theorem dX3_readsClause_29 : decode cX3_readsClause 29 = .ok (.ldc 61, 2) := by decide +kernel
theorem dX3_readsClause_31 : decode cX3_readsClause 31 = .ok (.goto 5, 3) := by decide +kernel
theorem dX3_readsClause_34 : decode cX3_readsClause 34 = .ok (.ldc 63, 2) := by decide +kernel
theorem dX3_readsClause_36 : decode cX3_readsClause 36 = .ok (.invokevirtual 65, 3) := by decide +kernel
theorem dX3_readsClause_39 : decode cX3_readsClause 39 = .ok (.ifCond .ne 5, 3) := by decide +kernel
theorem dX3_readsClause_42 : decode cX3_readsClause 42 = .ok (.iconst 0, 1) := by decide +kernel
theorem dX3_readsClause_43 : decode cX3_readsClause 43 = .ok (.ireturn, 1) := by decide +kernel
theorem dX3_readsClause_44 : decode cX3_readsClause 44 = .ok (.aload_n 0, 1) := by decide +kernel
theorem dX3_readsClause_45 : decode cX3_readsClause 45 = .ok (.invokevirtual 69, 3) := by decide +kernel
theorem dX3_readsClause_48 : decode cX3_readsClause 48 = .ok (.istore_n 2, 1) := by decide +kernel
theorem dX3_readsClause_49 : decode cX3_readsClause 49 = .ok (.iload_n 2, 1) := by decide +kernel
theorem dX3_readsClause_50 : decode cX3_readsClause 50 = .ok (.ifCond .ge 5, 3) := by decide +kernel
theorem dX3_readsClause_53 : decode cX3_readsClause 53 = .ok (.iconst 0, 1) := by decide +kernel
theorem dX3_readsClause_54 : decode cX3_readsClause 54 = .ok (.ireturn, 1) := by decide +kernel
theorem dX3_readsClause_55 : decode cX3_readsClause 55 = .ok (.iload_n 1, 1) := by decide +kernel
theorem dX3_readsClause_56 : decode cX3_readsClause 56 = .ok (.iconst 2, 1) := by decide +kernel
theorem dX3_readsClause_57 : decode cX3_readsClause 57 = .ok (.if_icmp .eq 22, 3) := by decide +kernel
theorem dX3_readsClause_60 : decode cX3_readsClause 60 = .ok (.aload_n 0, 1) := by decide +kernel
theorem dX3_readsClause_61 : decode cX3_readsClause 61 = .ok (.bipush 32, 2) := by decide +kernel
theorem dX3_readsClause_63 : decode cX3_readsClause 63 = .ok (.invokevirtual 32, 3) := by decide +kernel
theorem dX3_readsClause_66 : decode cX3_readsClause 66 = .ok (.ifCond .eq 11, 3) := by decide +kernel
theorem dX3_readsClause_69 : decode cX3_readsClause 69 = .ok (.aload_n 0, 1) := by decide +kernel
theorem dX3_readsClause_70 : decode cX3_readsClause 70 = .ok (.iconst 0, 1) := by decide +kernel
theorem dX3_readsClause_71 : decode cX3_readsClause 71 = .ok (.invokevirtual 72, 3) := by decide +kernel
theorem dX3_readsClause_74 : decode cX3_readsClause 74 = .ok (.ifCond .ne 5, 3) := by decide +kernel
theorem dX3_readsClause_77 : decode cX3_readsClause 77 = .ok (.iconst 0, 1) := by decide +kernel
theorem dX3_readsClause_78 : decode cX3_readsClause 78 = .ok (.ireturn, 1) := by decide +kernel
theorem dX3_readsClause_79 : decode cX3_readsClause 79 = .ok (.aload_n 0, 1) := by decide +kernel
theorem dX3_readsClause_80 : decode cX3_readsClause 80 = .ok (.getfield 18, 3) := by decide +kernel
theorem dX3_readsClause_83 : decode cX3_readsClause 83 = .ok (.iload_n 1, 1) := by decide +kernel
theorem dX3_readsClause_84 : decode cX3_readsClause 84 = .ok (.iload_n 2, 1) := by decide +kernel
theorem dX3_readsClause_85 : decode cX3_readsClause 85 = .ok (.invokevirtual 76, 3) := by decide +kernel
theorem dX3_readsClause_88 : decode cX3_readsClause 88 = .ok (.iconst 1, 1) := by decide +kernel
theorem dX3_readsClause_89 : decode cX3_readsClause 89 = .ok (.ireturn, 1) := by decide +kernel
theorem dX3_takeNumber_0 : decode cX3_takeNumber 0 = .ok (.iconst (-1), 1) := by decide +kernel
theorem dX3_takeNumber_1 : decode cX3_takeNumber 1 = .ok (.istore_n 1, 1) := by decide +kernel
theorem dX3_takeNumber_2 : decode cX3_takeNumber 2 = .ok (.iconst 0, 1) := by decide +kernel
theorem dX3_takeNumber_3 : decode cX3_takeNumber 3 = .ok (.istore_n 2, 1) := by decide +kernel
theorem dX3_takeNumber_4 : decode cX3_takeNumber 4 = .ok (.iload_n 2, 1) := by decide +kernel
theorem dX3_takeNumber_5 : decode cX3_takeNumber 5 = .ok (.iconst 2, 1) := by decide +kernel
theorem dX3_takeNumber_6 : decode cX3_takeNumber 6 = .ok (.if_icmp .ge 54, 3) := by decide +kernel
theorem dX3_takeNumber_9 : decode cX3_takeNumber 9 = .ok (.aload_n 0, 1) := by decide +kernel
theorem dX3_takeNumber_10 : decode cX3_takeNumber 10 = .ok (.invokevirtual 40, 3) := by decide +kernel
theorem dX3_takeNumber_13 : decode cX3_takeNumber 13 = .ok (.bipush 48, 2) := by decide +kernel
theorem dX3_takeNumber_15 : decode cX3_takeNumber 15 = .ok (.if_icmp .lt 45, 3) := by decide +kernel
theorem dX3_takeNumber_18 : decode cX3_takeNumber 18 = .ok (.aload_n 0, 1) := by decide +kernel
theorem dX3_takeNumber_19 : decode cX3_takeNumber 19 = .ok (.invokevirtual 40, 3) := by decide +kernel
theorem dX3_takeNumber_22 : decode cX3_takeNumber 22 = .ok (.bipush 57, 2) := by decide +kernel
theorem dX3_takeNumber_24 : decode cX3_takeNumber 24 = .ok (.if_icmp .gt 36, 3) := by decide +kernel
theorem dX3_takeNumber_27 : decode cX3_takeNumber 27 = .ok (.iload_n 1, 1) := by decide +kernel
theorem dX3_takeNumber_28 : decode cX3_takeNumber 28 = .ok (.iconst 0, 1) := by decide +kernel
theorem dX3_takeNumber_29 : decode cX3_takeNumber 29 = .ok (.invokestatic 80, 3) := by decide +kernel
theorem dX3_takeNumber_32 : decode cX3_takeNumber 32 = .ok (.bipush 10, 2) := by decide +kernel
theorem dX3_takeNumber_34 : decode cX3_takeNumber 34 = .ok (.imul, 1) := by decide +kernel
theorem dX3_takeNumber_35 : decode cX3_takeNumber 35 = .ok (.aload_n 0, 1) := by decide +kernel
theorem dX3_takeNumber_36 : decode cX3_takeNumber 36 = .ok (.invokevirtual 40, 3) := by decide +kernel
theorem dX3_takeNumber_39 : decode cX3_takeNumber 39 = .ok (.iadd, 1) := by decide +kernel
theorem dX3_takeNumber_40 : decode cX3_takeNumber 40 = .ok (.bipush 48, 2) := by decide +kernel
theorem dX3_takeNumber_42 : decode cX3_takeNumber 42 = .ok (.isub, 1) := by decide +kernel
theorem dX3_takeNumber_43 : decode cX3_takeNumber 43 = .ok (.istore_n 1, 1) := by decide +kernel
theorem dX3_takeNumber_44 : decode cX3_takeNumber 44 = .ok (.aload_n 0, 1) := by decide +kernel
theorem dX3_takeNumber_45 : decode cX3_takeNumber 45 = .ok (.dup, 1) := by decide +kernel
theorem dX3_takeNumber_46 : decode cX3_takeNumber 46 = .ok (.getfield 26, 3) := by decide +kernel
theorem dX3_takeNumber_49 : decode cX3_takeNumber 49 = .ok (.iconst 1, 1) := by decide +kernel
theorem dX3_takeNumber_50 : decode cX3_takeNumber 50 = .ok (.iadd, 1) := by decide +kernel
theorem dX3_takeNumber_51 : decode cX3_takeNumber 51 = .ok (.putfield 26, 3) := by decide +kernel
theorem dX3_takeNumber_54 : decode cX3_takeNumber 54 = .ok (.iinc 2 1, 3) := by decide +kernel
theorem dX3_takeNumber_57 : decode cX3_takeNumber 57 = .ok (.goto (-53), 3) := by decide +kernel
theorem dX3_takeNumber_60 : decode cX3_takeNumber 60 = .ok (.iload_n 1, 1) := by decide +kernel
theorem dX3_takeNumber_61 : decode cX3_takeNumber 61 = .ok (.ireturn, 1) := by decide +kernel
theorem dX3_readsEither_0 : decode cX3_readsEither 0 = .ok (.iconst 0, 1) := by decide +kernel
theorem dX3_readsEither_1 : decode cX3_readsEither 1 = .ok (.istore_n 2, 1) := by decide +kernel
theorem dX3_readsEither_2 : decode cX3_readsEither 2 = .ok (.iconst 0, 1) := by decide +kernel
theorem dX3_readsEither_3 : decode cX3_readsEither 3 = .ok (.istore_n 3, 1) := by decide +kernel
theorem dX3_readsEither_4 : decode cX3_readsEither 4 = .ok (.iconst 0, 1) := by decide +kernel
theorem dX3_readsEither_5 : decode cX3_readsEither 5 = .ok (.istore 4, 2) := by decide +kernel
theorem dX3_readsEither_7 : decode cX3_readsEither 7 = .ok (.iload 4, 2) := by decide +kernel
theorem dX3_readsEither_9 : decode cX3_readsEither 9 = .ok (.bipush 100, 2) := by decide +kernel
theorem dX3_readsEither_11 : decode cX3_readsEither 11 = .ok (.if_icmp .ge 69, 3) := by decide +kernel
theorem dX3_readsEither_14 : decode cX3_readsEither 14 = .ok (.aload_n 0, 1) := by decide +kernel
theorem dX3_readsEither_15 : decode cX3_readsEither 15 = .ok (.iload_n 1, 1) := by decide +kernel
theorem dX3_readsEither_16 : decode cX3_readsEither 16 = .ok (.invokevirtual 86, 3) := by decide +kernel
theorem dX3_readsEither_19 : decode cX3_readsEither 19 = .ok (.ifCond .ne 5, 3) := by decide +kernel
theorem dX3_readsEither_22 : decode cX3_readsEither 22 = .ok (.iconst 0, 1) := by decide +kernel
theorem dX3_readsEither_23 : decode cX3_readsEither 23 = .ok (.ireturn, 1) := by decide +kernel
theorem dX3_readsEither_24 : decode cX3_readsEither 24 = .ok (.iload_n 2, 1) := by decide +kernel
theorem dX3_readsEither_25 : decode cX3_readsEither 25 = .ok (.ifCond .eq 12, 3) := by decide +kernel
theorem dX3_readsEither_28 : decode cX3_readsEither 28 = .ok (.aload_n 0, 1) := by decide +kernel
theorem dX3_readsEither_29 : decode cX3_readsEither 29 = .ok (.getfield 18, 3) := by decide +kernel
theorem dX3_readsEither_32 : decode cX3_readsEither 32 = .ok (.bipush (-2), 2) := by decide +kernel
theorem dX3_readsEither_34 : decode cX3_readsEither 34 = .ok (.invokevirtual 89, 3) := by decide +kernel
theorem dX3_readsEither_37 : decode cX3_readsEither 37 = .ok (.aload_n 0, 1) := by decide +kernel
theorem dX3_readsEither_38 : decode cX3_readsEither 38 = .ok (.bipush 38, 2) := by decide +kernel
theorem dX3_readsEither_40 : decode cX3_readsEither 40 = .ok (.invokevirtual 32, 3) := by decide +kernel
theorem dX3_readsEither_43 : decode cX3_readsEither 43 = .ok (.istore_n 2, 1) := by decide +kernel
theorem dX3_readsEither_44 : decode cX3_readsEither 44 = .ok (.iload_n 2, 1) := by decide +kernel
theorem dX3_readsEither_45 : decode cX3_readsEither 45 = .ok (.ifCond .ne 29, 3) := by decide +kernel
theorem dX3_readsEither_48 : decode cX3_readsEither 48 = .ok (.iload_n 3, 1) := by decide +kernel
theorem dX3_readsEither_49 : decode cX3_readsEither 49 = .ok (.ifCond .eq 12, 3) := by decide +kernel
theorem dX3_readsEither_52 : decode cX3_readsEither 52 = .ok (.aload_n 0, 1) := by decide +kernel
theorem dX3_readsEither_53 : decode cX3_readsEither 53 = .ok (.getfield 18, 3) := by decide +kernel
theorem dX3_readsEither_56 : decode cX3_readsEither 56 = .ok (.bipush (-3), 2) := by decide +kernel
theorem dX3_readsEither_58 : decode cX3_readsEither 58 = .ok (.invokevirtual 89, 3) := by decide +kernel
theorem dX3_readsEither_61 : decode cX3_readsEither 61 = .ok (.aload_n 0, 1) := by decide +kernel
theorem dX3_readsEither_62 : decode cX3_readsEither 62 = .ok (.bipush 124, 2) := by decide +kernel
theorem dX3_readsEither_64 : decode cX3_readsEither 64 = .ok (.invokevirtual 32, 3) := by decide +kernel
theorem dX3_readsEither_67 : decode cX3_readsEither 67 = .ok (.istore_n 3, 1) := by decide +kernel
theorem dX3_readsEither_68 : decode cX3_readsEither 68 = .ok (.iload_n 3, 1) := by decide +kernel
theorem dX3_readsEither_69 : decode cX3_readsEither 69 = .ok (.ifCond .ne 5, 3) := by decide +kernel
theorem dX3_readsEither_72 : decode cX3_readsEither 72 = .ok (.iconst 1, 1) := by decide +kernel
theorem dX3_readsEither_73 : decode cX3_readsEither 73 = .ok (.ireturn, 1) := by decide +kernel
theorem dX3_readsEither_74 : decode cX3_readsEither 74 = .ok (.iinc 4 1, 3) := by decide +kernel
theorem dX3_readsEither_77 : decode cX3_readsEither 77 = .ok (.goto (-70), 3) := by decide +kernel
theorem dX3_readsEither_80 : decode cX3_readsEither 80 = .ok (.iconst 0, 1) := by decide +kernel
theorem dX3_readsEither_81 : decode cX3_readsEither 81 = .ok (.ireturn, 1) := by decide +kernel
theorem dX3_readsPart_0 : decode cX3_readsPart 0 = .ok (.aload_n 0, 1) := by decide +kernel
theorem dX3_readsPart_1 : decode cX3_readsPart 1 = .ok (.invokevirtual 40, 3) := by decide +kernel
theorem dX3_readsPart_4 : decode cX3_readsPart 4 = .ok (.istore_n 2, 1) := by decide +kernel
theorem dX3_readsPart_5 : decode cX3_readsPart 5 = .ok (.iload_n 2, 1) := by decide +kernel
theorem dX3_readsPart_6 : decode cX3_readsPart 6 = .ok (.bipush 33, 2) := by decide +kernel
theorem dX3_readsPart_8 : decode cX3_readsPart 8 = .ok (.if_icmp .eq 14, 3) := by decide +kernel
theorem dX3_readsPart_11 : decode cX3_readsPart 11 = .ok (.iload_n 2, 1) := by decide +kernel
theorem dX3_readsPart_12 : decode cX3_readsPart 12 = .ok (.bipush 40, 2) := by decide +kernel
theorem dX3_readsPart_14 : decode cX3_readsPart 14 = .ok (.if_icmp .eq 8, 3) := by decide +kernel
theorem dX3_readsPart_17 : decode cX3_readsPart 17 = .ok (.aload_n 0, 1) := by decide +kernel
theorem dX3_readsPart_18 : decode cX3_readsPart 18 = .ok (.invokevirtual 93, 3) := by decide +kernel
theorem dX3_readsPart_21 : decode cX3_readsPart 21 = .ok (.ireturn, 1) := by decide +kernel
theorem dX3_readsPart_22 : decode cX3_readsPart 22 = .ok (.iload_n 1, 1) := by decide +kernel
theorem dX3_readsPart_23 : decode cX3_readsPart 23 = .ok (.iconst 4, 1) := by decide +kernel
theorem dX3_readsPart_24 : decode cX3_readsPart 24 = .ok (.if_icmp .lt 5, 3) := by decide +kernel
theorem dX3_readsPart_27 : decode cX3_readsPart 27 = .ok (.iconst 0, 1) := by decide +kernel
theorem dX3_readsPart_28 : decode cX3_readsPart 28 = .ok (.ireturn, 1) := by decide +kernel
theorem dX3_readsPart_29 : decode cX3_readsPart 29 = .ok (.aload_n 0, 1) := by decide +kernel
theorem dX3_readsPart_30 : decode cX3_readsPart 30 = .ok (.dup, 1) := by decide +kernel
theorem dX3_readsPart_31 : decode cX3_readsPart 31 = .ok (.getfield 26, 3) := by decide +kernel
theorem dX3_readsPart_34 : decode cX3_readsPart 34 = .ok (.iconst 1, 1) := by decide +kernel
theorem dX3_readsPart_35 : decode cX3_readsPart 35 = .ok (.iadd, 1) := by decide +kernel
theorem dX3_readsPart_36 : decode cX3_readsPart 36 = .ok (.putfield 26, 3) := by decide +kernel
theorem dX3_readsPart_39 : decode cX3_readsPart 39 = .ok (.iload_n 2, 1) := by decide +kernel
theorem dX3_readsPart_40 : decode cX3_readsPart 40 = .ok (.bipush 40, 2) := by decide +kernel
theorem dX3_readsPart_42 : decode cX3_readsPart 42 = .ok (.if_icmp .ne 28, 3) := by decide +kernel
theorem dX3_readsPart_45 : decode cX3_readsPart 45 = .ok (.aload_n 0, 1) := by decide +kernel
theorem dX3_readsPart_46 : decode cX3_readsPart 46 = .ok (.iload_n 1, 1) := by decide +kernel
theorem dX3_readsPart_47 : decode cX3_readsPart 47 = .ok (.iconst 1, 1) := by decide +kernel
theorem dX3_readsPart_48 : decode cX3_readsPart 48 = .ok (.iadd, 1) := by decide +kernel
theorem dX3_readsPart_49 : decode cX3_readsPart 49 = .ok (.invokevirtual 72, 3) := by decide +kernel
theorem dX3_readsPart_52 : decode cX3_readsPart 52 = .ok (.ifCond .eq 16, 3) := by decide +kernel
theorem dX3_readsPart_55 : decode cX3_readsPart 55 = .ok (.aload_n 0, 1) := by decide +kernel
theorem dX3_readsPart_56 : decode cX3_readsPart 56 = .ok (.bipush 41, 2) := by decide +kernel
theorem dX3_readsPart_58 : decode cX3_readsPart 58 = .ok (.invokevirtual 32, 3) := by decide +kernel
theorem dX3_readsPart_61 : decode cX3_readsPart 61 = .ok (.ifCond .eq 7, 3) := by decide +kernel
theorem dX3_readsPart_64 : decode cX3_readsPart 64 = .ok (.iconst 1, 1) := by decide +kernel
theorem dX3_readsPart_65 : decode cX3_readsPart 65 = .ok (.goto 4, 3) := by decide +kernel
theorem dX3_readsPart_68 : decode cX3_readsPart 68 = .ok (.iconst 0, 1) := by decide +kernel
theorem dX3_readsPart_69 : decode cX3_readsPart 69 = .ok (.ireturn, 1) := by decide +kernel
theorem dX3_readsPart_70 : decode cX3_readsPart 70 = .ok (.aload_n 0, 1) := by decide +kernel
theorem dX3_readsPart_71 : decode cX3_readsPart 71 = .ok (.iload_n 1, 1) := by decide +kernel
theorem dX3_readsPart_72 : decode cX3_readsPart 72 = .ok (.iconst 1, 1) := by decide +kernel
theorem dX3_readsPart_73 : decode cX3_readsPart 73 = .ok (.iadd, 1) := by decide +kernel
theorem dX3_readsPart_74 : decode cX3_readsPart 74 = .ok (.invokevirtual 86, 3) := by decide +kernel
theorem dX3_readsPart_77 : decode cX3_readsPart 77 = .ok (.ifCond .ne 5, 3) := by decide +kernel
theorem dX3_readsPart_80 : decode cX3_readsPart 80 = .ok (.iconst 0, 1) := by decide +kernel
theorem dX3_readsPart_81 : decode cX3_readsPart 81 = .ok (.ireturn, 1) := by decide +kernel
theorem dX3_readsPart_82 : decode cX3_readsPart 82 = .ok (.aload_n 0, 1) := by decide +kernel
theorem dX3_readsPart_83 : decode cX3_readsPart 83 = .ok (.getfield 18, 3) := by decide +kernel
theorem dX3_readsPart_86 : decode cX3_readsPart 86 = .ok (.iconst (-1), 1) := by decide +kernel
theorem dX3_readsPart_87 : decode cX3_readsPart 87 = .ok (.invokevirtual 89, 3) := by decide +kernel
theorem dX3_readsPart_90 : decode cX3_readsPart 90 = .ok (.iconst 1, 1) := by decide +kernel
theorem dX3_readsPart_91 : decode cX3_readsPart 91 = .ok (.ireturn, 1) := by decide +kernel
theorem dX3_readsTest_0 : decode cX3_readsTest 0 = .ok (.ldc 96, 2) := by decide +kernel
theorem dX3_readsTest_2 : decode cX3_readsTest 2 = .ok (.aload_n 0, 1) := by decide +kernel
theorem dX3_readsTest_3 : decode cX3_readsTest 3 = .ok (.invokevirtual 40, 3) := by decide +kernel
theorem dX3_readsTest_6 : decode cX3_readsTest 6 = .ok (.invokevirtual 55, 3) := by decide +kernel
theorem dX3_readsTest_9 : decode cX3_readsTest 9 = .ok (.istore_n 1, 1) := by decide +kernel
theorem dX3_readsTest_10 : decode cX3_readsTest 10 = .ok (.iload_n 1, 1) := by decide +kernel
theorem dX3_readsTest_11 : decode cX3_readsTest 11 = .ok (.ifCond .ge 5, 3) := by decide +kernel
theorem dX3_readsTest_14 : decode cX3_readsTest 14 = .ok (.iconst 0, 1) := by decide +kernel
theorem dX3_readsTest_15 : decode cX3_readsTest 15 = .ok (.ireturn, 1) := by decide +kernel
theorem dX3_readsTest_16 : decode cX3_readsTest 16 = .ok (.aload_n 0, 1) := by decide +kernel
theorem dX3_readsTest_17 : decode cX3_readsTest 17 = .ok (.dup, 1) := by decide +kernel
theorem dX3_readsTest_18 : decode cX3_readsTest 18 = .ok (.getfield 26, 3) := by decide +kernel
theorem dX3_readsTest_21 : decode cX3_readsTest 21 = .ok (.iconst 1, 1) := by decide +kernel
theorem dX3_readsTest_22 : decode cX3_readsTest 22 = .ok (.iadd, 1) := by decide +kernel
theorem dX3_readsTest_23 : decode cX3_readsTest 23 = .ok (.putfield 26, 3) := by decide +kernel
theorem dX3_readsTest_26 : decode cX3_readsTest 26 = .ok (.ldc 98, 2) := by decide +kernel
theorem dX3_readsTest_28 : decode cX3_readsTest 28 = .ok (.aload_n 0, 1) := by decide +kernel
theorem dX3_readsTest_29 : decode cX3_readsTest 29 = .ok (.invokevirtual 40, 3) := by decide +kernel
theorem dX3_readsTest_32 : decode cX3_readsTest 32 = .ok (.invokevirtual 55, 3) := by decide +kernel
theorem dX3_readsTest_35 : decode cX3_readsTest 35 = .ok (.istore_n 2, 1) := by decide +kernel
theorem dX3_readsTest_36 : decode cX3_readsTest 36 = .ok (.iload_n 2, 1) := by decide +kernel
theorem dX3_readsTest_37 : decode cX3_readsTest 37 = .ok (.ifCond .ge 5, 3) := by decide +kernel
theorem dX3_readsTest_40 : decode cX3_readsTest 40 = .ok (.iconst 0, 1) := by decide +kernel
theorem dX3_readsTest_41 : decode cX3_readsTest 41 = .ok (.ireturn, 1) := by decide +kernel
theorem dX3_readsTest_42 : decode cX3_readsTest 42 = .ok (.aload_n 0, 1) := by decide +kernel
theorem dX3_readsTest_43 : decode cX3_readsTest 43 = .ok (.dup, 1) := by decide +kernel
theorem dX3_readsTest_44 : decode cX3_readsTest 44 = .ok (.getfield 26, 3) := by decide +kernel
theorem dX3_readsTest_47 : decode cX3_readsTest 47 = .ok (.iconst 1, 1) := by decide +kernel
theorem dX3_readsTest_48 : decode cX3_readsTest 48 = .ok (.iadd, 1) := by decide +kernel
theorem dX3_readsTest_49 : decode cX3_readsTest 49 = .ok (.putfield 26, 3) := by decide +kernel
theorem dX3_readsTest_52 : decode cX3_readsTest 52 = .ok (.aload_n 0, 1) := by decide +kernel
theorem dX3_readsTest_53 : decode cX3_readsTest 53 = .ok (.invokevirtual 69, 3) := by decide +kernel
theorem dX3_readsTest_56 : decode cX3_readsTest 56 = .ok (.istore_n 3, 1) := by decide +kernel
theorem dX3_readsTest_57 : decode cX3_readsTest 57 = .ok (.iload_n 3, 1) := by decide +kernel
theorem dX3_readsTest_58 : decode cX3_readsTest 58 = .ok (.ifCond .ge 5, 3) := by decide +kernel
theorem dX3_readsTest_61 : decode cX3_readsTest 61 = .ok (.iconst 0, 1) := by decide +kernel
theorem dX3_readsTest_62 : decode cX3_readsTest 62 = .ok (.ireturn, 1) := by decide +kernel
theorem dX3_readsTest_63 : decode cX3_readsTest 63 = .ok (.aload_n 0, 1) := by decide +kernel
theorem dX3_readsTest_64 : decode cX3_readsTest 64 = .ok (.getfield 18, 3) := by decide +kernel
theorem dX3_readsTest_67 : decode cX3_readsTest 67 = .ok (.iload_n 1, 1) := by decide +kernel
theorem dX3_readsTest_68 : decode cX3_readsTest 68 = .ok (.iload_n 2, 1) := by decide +kernel
theorem dX3_readsTest_69 : decode cX3_readsTest 69 = .ok (.iload_n 3, 1) := by decide +kernel
theorem dX3_readsTest_70 : decode cX3_readsTest 70 = .ok (.invokevirtual 100, 3) := by decide +kernel
theorem dX3_readsTest_73 : decode cX3_readsTest 73 = .ok (.iconst 1, 1) := by decide +kernel
theorem dX3_readsTest_74 : decode cX3_readsTest 74 = .ok (.ireturn, 1) := by decide +kernel
theorem dX4_init_0 : decode cX4_init 0 = .ok (.aload_n 0, 1) := by decide +kernel
theorem dX4_init_1 : decode cX4_init 1 = .ok (.invokespecial 1, 3) := by decide +kernel
theorem dX4_init_4 : decode cX4_init 4 = .ok (.aload_n 0, 1) := by decide +kernel
theorem dX4_init_5 : decode cX4_init 5 = .ok (.iconst (-1), 1) := by decide +kernel
theorem dX4_init_6 : decode cX4_init 6 = .ok (.putfield 9, 3) := by decide +kernel
theorem dX4_init_9 : decode cX4_init 9 = .ok (.aload_n 0, 1) := by decide +kernel
theorem dX4_init_10 : decode cX4_init 10 = .ok (.bipush 60, 2) := by decide +kernel
theorem dX4_init_12 : decode cX4_init 12 = .ok (.newarray .long, 2) := by decide +kernel
theorem dX4_init_14 : decode cX4_init 14 = .ok (.putfield 13, 3) := by decide +kernel
theorem dX4_init_17 : decode cX4_init 17 = .ok (.return_, 1) := by decide +kernel
theorem dX4_become_0 : decode cX4_become 0 = .ok (.aload_n 0, 1) := by decide +kernel
theorem dX4_become_1 : decode cX4_become 1 = .ok (.iload_n 1, 1) := by decide +kernel
theorem dX4_become_2 : decode cX4_become 2 = .ok (.putfield 9, 3) := by decide +kernel
theorem dX4_become_5 : decode cX4_become 5 = .ok (.aload_n 0, 1) := by decide +kernel
theorem dX4_become_6 : decode cX4_become 6 = .ok (.iload_n 2, 1) := by decide +kernel
theorem dX4_become_7 : decode cX4_become 7 = .ok (.putfield 17, 3) := by decide +kernel
theorem dX4_become_10 : decode cX4_become 10 = .ok (.aload_n 0, 1) := by decide +kernel
theorem dX4_become_11 : decode cX4_become 11 = .ok (.getfield 13, 3) := by decide +kernel
theorem dX4_become_14 : decode cX4_become 14 = .ok (.lconst 0, 1) := by decide +kernel
theorem dX4_become_15 : decode cX4_become 15 = .ok (.invokestatic 20, 3) := by decide +kernel
theorem dX4_become_18 : decode cX4_become 18 = .ok (.return_, 1) := by decide +kernel
theorem dX4_spans_0 : decode cX4_spans 0 = .ok (.iload_n 1, 1) := by decide +kernel
theorem dX4_spans_1 : decode cX4_spans 1 = .ok (.ifCond .lt 21, 3) := by decide +kernel
theorem dX4_spans_4 : decode cX4_spans 4 = .ok (.iload_n 2, 1) := by decide +kernel
theorem dX4_spans_5 : decode cX4_spans 5 = .ok (.ifCond .lt 17, 3) := by decide +kernel
theorem dX4_spans_8 : decode cX4_spans 8 = .ok (.iload_n 1, 1) := by decide +kernel
theorem dX4_spans_9 : decode cX4_spans 9 = .ok (.aload_n 0, 1) := by decide +kernel
theorem dX4_spans_10 : decode cX4_spans 10 = .ok (.getfield 17, 3) := by decide +kernel
theorem dX4_spans_13 : decode cX4_spans 13 = .ok (.iload_n 2, 1) := by decide +kernel
theorem dX4_spans_14 : decode cX4_spans 14 = .ok (.isub, 1) := by decide +kernel
theorem dX4_spans_15 : decode cX4_spans 15 = .ok (.if_icmp .gt 7, 3) := by decide +kernel
theorem dX4_spans_18 : decode cX4_spans 18 = .ok (.iconst 1, 1) := by decide +kernel
theorem dX4_spans_19 : decode cX4_spans 19 = .ok (.goto 4, 3) := by decide +kernel
theorem dX4_spans_22 : decode cX4_spans 22 = .ok (.iconst 0, 1) := by decide +kernel
theorem dX4_spans_23 : decode cX4_spans 23 = .ok (.ireturn, 1) := by decide +kernel
theorem dX4_asItem_0 : decode cX4_asItem 0 = .ok (.aload_n 0, 1) := by decide +kernel
theorem dX4_asItem_1 : decode cX4_asItem 1 = .ok (.getfield 9, 3) := by decide +kernel
theorem dX4_asItem_4 : decode cX4_asItem 4 = .ok (.tableswitch 62 0 4 #[36, 41, 46, 62, 50], 36) := by decide +kernel
theorem dX4_asItem_40 : decode cX4_asItem 40 = .ok (.lload_n 1, 1) := by decide +kernel
theorem dX4_asItem_41 : decode cX4_asItem 41 = .ok (.l2i, 1) := by decide +kernel
theorem dX4_asItem_42 : decode cX4_asItem 42 = .ok (.i2b, 1) := by decide +kernel
theorem dX4_asItem_43 : decode cX4_asItem 43 = .ok (.i2l, 1) := by decide +kernel
theorem dX4_asItem_44 : decode cX4_asItem 44 = .ok (.lreturn, 1) := by decide +kernel
theorem dX4_asItem_45 : decode cX4_asItem 45 = .ok (.lload_n 1, 1) := by decide +kernel
theorem dX4_asItem_46 : decode cX4_asItem 46 = .ok (.l2i, 1) := by decide +kernel
theorem dX4_asItem_47 : decode cX4_asItem 47 = .ok (.i2s, 1) := by decide +kernel
theorem dX4_asItem_48 : decode cX4_asItem 48 = .ok (.i2l, 1) := by decide +kernel
theorem dX4_asItem_49 : decode cX4_asItem 49 = .ok (.lreturn, 1) := by decide +kernel
theorem dX4_asItem_50 : decode cX4_asItem 50 = .ok (.lload_n 1, 1) := by decide +kernel
theorem dX4_asItem_51 : decode cX4_asItem 51 = .ok (.l2i, 1) := by decide +kernel
theorem dX4_asItem_52 : decode cX4_asItem 52 = .ok (.i2l, 1) := by decide +kernel
theorem dX4_asItem_53 : decode cX4_asItem 53 = .ok (.lreturn, 1) := by decide +kernel
theorem dX4_asItem_54 : decode cX4_asItem 54 = .ok (.lload_n 1, 1) := by decide +kernel
theorem dX4_asItem_55 : decode cX4_asItem 55 = .ok (.lconst 0, 1) := by decide +kernel
theorem dX4_asItem_56 : decode cX4_asItem 56 = .ok (.lcmp, 1) := by decide +kernel
theorem dX4_asItem_57 : decode cX4_asItem 57 = .ok (.ifCond .eq 7, 3) := by decide +kernel
theorem dX4_asItem_60 : decode cX4_asItem 60 = .ok (.lconst 1, 1) := by decide +kernel
theorem dX4_asItem_61 : decode cX4_asItem 61 = .ok (.goto 4, 3) := by decide +kernel
theorem dX4_asItem_64 : decode cX4_asItem 64 = .ok (.lconst 0, 1) := by decide +kernel
theorem dX4_asItem_65 : decode cX4_asItem 65 = .ok (.lreturn, 1) := by decide +kernel
theorem dX4_asItem_66 : decode cX4_asItem 66 = .ok (.lload_n 1, 1) := by decide +kernel
theorem dX4_asItem_67 : decode cX4_asItem 67 = .ok (.lreturn, 1) := by decide +kernel
theorem dX5_init_0 : decode cX5_init 0 = .ok (.aload_n 0, 1) := by decide +kernel
theorem dX5_init_1 : decode cX5_init 1 = .ok (.invokespecial 3, 3) := by decide +kernel
theorem dX5_init_4 : decode cX5_init 4 = .ok (.aload_n 0, 1) := by decide +kernel
theorem dX5_init_5 : decode cX5_init 5 = .ok (.bipush 7, 2) := by decide +kernel
theorem dX5_init_7 : decode cX5_init 7 = .ok (.newarray .int, 2) := by decide +kernel
theorem dX5_init_9 : decode cX5_init 9 = .ok (.putfield 9, 3) := by decide +kernel
theorem dX5_init_12 : decode cX5_init 12 = .ok (.aload_n 0, 1) := by decide +kernel
theorem dX5_init_13 : decode cX5_init 13 = .ok (.bipush 7, 2) := by decide +kernel
theorem dX5_init_15 : decode cX5_init 15 = .ok (.newarray .int, 2) := by decide +kernel
theorem dX5_init_17 : decode cX5_init 17 = .ok (.putfield 15, 3) := by decide +kernel
theorem dX5_init_20 : decode cX5_init 20 = .ok (.aload_n 0, 1) := by decide +kernel
theorem dX5_init_21 : decode cX5_init 21 = .ok (.bipush 7, 2) := by decide +kernel
theorem dX5_init_23 : decode cX5_init 23 = .ok (.newarray .int, 2) := by decide +kernel
theorem dX5_init_25 : decode cX5_init 25 = .ok (.putfield 18, 3) := by decide +kernel
theorem dX5_init_28 : decode cX5_init 28 = .ok (.aload_n 0, 1) := by decide +kernel
theorem dX5_init_29 : decode cX5_init 29 = .ok (.bipush 49, 2) := by decide +kernel
theorem dX5_init_31 : decode cX5_init 31 = .ok (.newarray .int, 2) := by decide +kernel
theorem dX5_init_33 : decode cX5_init 33 = .ok (.putfield 21, 3) := by decide +kernel
theorem dX5_init_36 : decode cX5_init 36 = .ok (.aload_n 0, 1) := by decide +kernel
theorem dX5_init_37 : decode cX5_init 37 = .ok (.bipush 7, 2) := by decide +kernel
theorem dX5_init_39 : decode cX5_init 39 = .ok (.newarray .int, 2) := by decide +kernel
theorem dX5_init_41 : decode cX5_init 41 = .ok (.putfield 24, 3) := by decide +kernel
theorem dX5_init_44 : decode cX5_init 44 = .ok (.aload_n 0, 1) := by decide +kernel
theorem dX5_init_45 : decode cX5_init 45 = .ok (.bipush 8, 2) := by decide +kernel
theorem dX5_init_47 : decode cX5_init 47 = .ok (.newarray .int, 2) := by decide +kernel
theorem dX5_init_49 : decode cX5_init 49 = .ok (.putfield 27, 3) := by decide +kernel
theorem dX5_init_52 : decode cX5_init 52 = .ok (.aload_n 0, 1) := by decide +kernel
theorem dX5_init_53 : decode cX5_init 53 = .ok (.bipush 8, 2) := by decide +kernel
theorem dX5_init_55 : decode cX5_init 55 = .ok (.newarray .int, 2) := by decide +kernel
theorem dX5_init_57 : decode cX5_init 57 = .ok (.putfield 30, 3) := by decide +kernel
theorem dX5_init_60 : decode cX5_init 60 = .ok (.aload_n 0, 1) := by decide +kernel
theorem dX5_init_61 : decode cX5_init 61 = .ok (.bipush 8, 2) := by decide +kernel
theorem dX5_init_63 : decode cX5_init 63 = .ok (.newarray .int, 2) := by decide +kernel
theorem dX5_init_65 : decode cX5_init 65 = .ok (.putfield 33, 3) := by decide +kernel
theorem dX5_init_68 : decode cX5_init 68 = .ok (.aload_n 0, 1) := by decide +kernel
theorem dX5_init_69 : decode cX5_init 69 = .ok (.bipush 12, 2) := by decide +kernel
theorem dX5_init_71 : decode cX5_init 71 = .ok (.newarray .int, 2) := by decide +kernel
theorem dX5_init_73 : decode cX5_init 73 = .ok (.putfield 36, 3) := by decide +kernel
theorem dX5_init_76 : decode cX5_init 76 = .ok (.aload_n 0, 1) := by decide +kernel
theorem dX5_init_77 : decode cX5_init 77 = .ok (.iconst (-1), 1) := by decide +kernel
theorem dX5_init_78 : decode cX5_init 78 = .ok (.putfield 39, 3) := by decide +kernel
theorem dX5_init_81 : decode cX5_init 81 = .ok (.return_, 1) := by decide +kernel
theorem dX5_has_0 : decode cX5_has 0 = .ok (.iload_n 1, 1) := by decide +kernel
theorem dX5_has_1 : decode cX5_has 1 = .ok (.ifCond .lt 15, 3) := by decide +kernel
theorem dX5_has_4 : decode cX5_has 4 = .ok (.iload_n 1, 1) := by decide +kernel
theorem dX5_has_5 : decode cX5_has 5 = .ok (.aload_n 0, 1) := by decide +kernel
theorem dX5_has_6 : decode cX5_has 6 = .ok (.getfield 43, 3) := by decide +kernel
theorem dX5_has_9 : decode cX5_has 9 = .ok (.if_icmp .ge 7, 3) := by decide +kernel
theorem dX5_has_12 : decode cX5_has 12 = .ok (.iconst 1, 1) := by decide +kernel
theorem dX5_has_13 : decode cX5_has 13 = .ok (.goto 4, 3) := by decide +kernel
theorem dX5_has_16 : decode cX5_has 16 = .ok (.iconst 0, 1) := by decide +kernel
theorem dX5_has_17 : decode cX5_has 17 = .ok (.ireturn, 1) := by decide +kernel
theorem dX5_addPlace_0 : decode cX5_addPlace 0 = .ok (.aload_n 0, 1) := by decide +kernel
theorem dX5_addPlace_1 : decode cX5_addPlace 1 = .ok (.getfield 43, 3) := by decide +kernel
theorem dX5_addPlace_4 : decode cX5_addPlace 4 = .ok (.istore 4, 2) := by decide +kernel
theorem dX5_addPlace_6 : decode cX5_addPlace 6 = .ok (.aload_n 0, 1) := by decide +kernel
theorem dX5_addPlace_7 : decode cX5_addPlace 7 = .ok (.getfield 9, 3) := by decide +kernel
theorem dX5_addPlace_10 : decode cX5_addPlace 10 = .ok (.iload 4, 2) := by decide +kernel
theorem dX5_addPlace_12 : decode cX5_addPlace 12 = .ok (.iload_n 1, 1) := by decide +kernel
theorem dX5_addPlace_13 : decode cX5_addPlace 13 = .ok (.iastore, 1) := by decide +kernel
theorem dX5_addPlace_14 : decode cX5_addPlace 14 = .ok (.aload_n 0, 1) := by decide +kernel
theorem dX5_addPlace_15 : decode cX5_addPlace 15 = .ok (.getfield 15, 3) := by decide +kernel
theorem dX5_addPlace_18 : decode cX5_addPlace 18 = .ok (.iload 4, 2) := by decide +kernel
theorem dX5_addPlace_20 : decode cX5_addPlace 20 = .ok (.iload_n 2, 1) := by decide +kernel
theorem dX5_addPlace_21 : decode cX5_addPlace 21 = .ok (.iastore, 1) := by decide +kernel
theorem dX5_addPlace_22 : decode cX5_addPlace 22 = .ok (.aload_n 0, 1) := by decide +kernel
theorem dX5_addPlace_23 : decode cX5_addPlace 23 = .ok (.getfield 18, 3) := by decide +kernel
theorem dX5_addPlace_26 : decode cX5_addPlace 26 = .ok (.iload 4, 2) := by decide +kernel
theorem dX5_addPlace_28 : decode cX5_addPlace 28 = .ok (.iload_n 3, 1) := by decide +kernel
theorem dX5_addPlace_29 : decode cX5_addPlace 29 = .ok (.iastore, 1) := by decide +kernel
theorem dX5_addPlace_30 : decode cX5_addPlace 30 = .ok (.aload_n 0, 1) := by decide +kernel
theorem dX5_addPlace_31 : decode cX5_addPlace 31 = .ok (.dup, 1) := by decide +kernel
theorem dX5_addPlace_32 : decode cX5_addPlace 32 = .ok (.getfield 43, 3) := by decide +kernel
theorem dX5_addPlace_35 : decode cX5_addPlace 35 = .ok (.iconst 1, 1) := by decide +kernel
theorem dX5_addPlace_36 : decode cX5_addPlace 36 = .ok (.iadd, 1) := by decide +kernel
theorem dX5_addPlace_37 : decode cX5_addPlace 37 = .ok (.putfield 43, 3) := by decide +kernel
theorem dX5_addPlace_40 : decode cX5_addPlace 40 = .ok (.iload 4, 2) := by decide +kernel
theorem dX5_addPlace_42 : decode cX5_addPlace 42 = .ok (.ireturn, 1) := by decide +kernel
theorem dX5_addTraveller_0 : decode cX5_addTraveller 0 = .ok (.aload_n 0, 1) := by decide +kernel
theorem dX5_addTraveller_1 : decode cX5_addTraveller 1 = .ok (.getfield 46, 3) := by decide +kernel
theorem dX5_addTraveller_4 : decode cX5_addTraveller 4 = .ok (.istore 4, 2) := by decide +kernel
theorem dX5_addTraveller_6 : decode cX5_addTraveller 6 = .ok (.aload_n 0, 1) := by decide +kernel
theorem dX5_addTraveller_7 : decode cX5_addTraveller 7 = .ok (.getfield 27, 3) := by decide +kernel
theorem dX5_addTraveller_10 : decode cX5_addTraveller 10 = .ok (.iload 4, 2) := by decide +kernel
theorem dX5_addTraveller_12 : decode cX5_addTraveller 12 = .ok (.iload_n 1, 1) := by decide +kernel
theorem dX5_addTraveller_13 : decode cX5_addTraveller 13 = .ok (.iastore, 1) := by decide +kernel
theorem dX5_addTraveller_14 : decode cX5_addTraveller 14 = .ok (.aload_n 0, 1) := by decide +kernel
theorem dX5_addTraveller_15 : decode cX5_addTraveller 15 = .ok (.getfield 30, 3) := by decide +kernel
theorem dX5_addTraveller_18 : decode cX5_addTraveller 18 = .ok (.iload 4, 2) := by decide +kernel
theorem dX5_addTraveller_20 : decode cX5_addTraveller 20 = .ok (.iload_n 2, 1) := by decide +kernel
theorem dX5_addTraveller_21 : decode cX5_addTraveller 21 = .ok (.iastore, 1) := by decide +kernel
theorem dX5_addTraveller_22 : decode cX5_addTraveller 22 = .ok (.aload_n 0, 1) := by decide +kernel
theorem dX5_addTraveller_23 : decode cX5_addTraveller 23 = .ok (.getfield 33, 3) := by decide +kernel
theorem dX5_addTraveller_26 : decode cX5_addTraveller 26 = .ok (.iload 4, 2) := by decide +kernel
theorem dX5_addTraveller_28 : decode cX5_addTraveller 28 = .ok (.iload_n 3, 1) := by decide +kernel
theorem dX5_addTraveller_29 : decode cX5_addTraveller 29 = .ok (.iastore, 1) := by decide +kernel
theorem dX5_addTraveller_30 : decode cX5_addTraveller 30 = .ok (.aload_n 0, 1) := by decide +kernel
theorem dX5_addTraveller_31 : decode cX5_addTraveller 31 = .ok (.dup, 1) := by decide +kernel
theorem dX5_addTraveller_32 : decode cX5_addTraveller 32 = .ok (.getfield 46, 3) := by decide +kernel
theorem dX5_addTraveller_35 : decode cX5_addTraveller 35 = .ok (.iconst 1, 1) := by decide +kernel
theorem dX5_addTraveller_36 : decode cX5_addTraveller 36 = .ok (.iadd, 1) := by decide +kernel
theorem dX5_addTraveller_37 : decode cX5_addTraveller 37 = .ok (.putfield 46, 3) := by decide +kernel
theorem dX5_addTraveller_40 : decode cX5_addTraveller 40 = .ok (.iload 4, 2) := by decide +kernel
theorem dX5_addTraveller_42 : decode cX5_addTraveller 42 = .ok (.ireturn, 1) := by decide +kernel
theorem dX5_setMiles_0 : decode cX5_setMiles 0 = .ok (.aload_n 0, 1) := by decide +kernel
theorem dX5_setMiles_1 : decode cX5_setMiles 1 = .ok (.getfield 21, 3) := by decide +kernel
theorem dX5_setMiles_4 : decode cX5_setMiles 4 = .ok (.iload_n 1, 1) := by decide +kernel
theorem dX5_setMiles_5 : decode cX5_setMiles 5 = .ok (.iload_n 2, 1) := by decide +kernel
theorem dX5_setMiles_6 : decode cX5_setMiles 6 = .ok (.invokestatic 49, 3) := by decide +kernel
theorem dX5_setMiles_9 : decode cX5_setMiles 9 = .ok (.iload_n 3, 1) := by decide +kernel
theorem dX5_setMiles_10 : decode cX5_setMiles 10 = .ok (.iastore, 1) := by decide +kernel
theorem dX5_setMiles_11 : decode cX5_setMiles 11 = .ok (.aload_n 0, 1) := by decide +kernel
theorem dX5_setMiles_12 : decode cX5_setMiles 12 = .ok (.getfield 21, 3) := by decide +kernel
theorem dX5_setMiles_15 : decode cX5_setMiles 15 = .ok (.iload_n 2, 1) := by decide +kernel
theorem dX5_setMiles_16 : decode cX5_setMiles 16 = .ok (.iload_n 1, 1) := by decide +kernel
theorem dX5_setMiles_17 : decode cX5_setMiles 17 = .ok (.invokestatic 49, 3) := by decide +kernel
theorem dX5_setMiles_20 : decode cX5_setMiles 20 = .ok (.iload_n 3, 1) := by decide +kernel
theorem dX5_setMiles_21 : decode cX5_setMiles 21 = .ok (.iastore, 1) := by decide +kernel
theorem dX5_setMiles_22 : decode cX5_setMiles 22 = .ok (.return_, 1) := by decide +kernel
theorem dX5_names_0 : decode cX5_names 0 = .ok (.aload_n 0, 1) := by decide +kernel
theorem dX5_names_1 : decode cX5_names 1 = .ok (.getfield 24, 3) := by decide +kernel
theorem dX5_names_4 : decode cX5_names 4 = .ok (.iload_n 1, 1) := by decide +kernel
theorem dX5_names_5 : decode cX5_names 5 = .ok (.iaload, 1) := by decide +kernel
theorem dX5_names_6 : decode cX5_names 6 = .ok (.iconst 1, 1) := by decide +kernel
theorem dX5_names_7 : decode cX5_names 7 = .ok (.iload_n 2, 1) := by decide +kernel
theorem dX5_names_8 : decode cX5_names 8 = .ok (.ishl, 1) := by decide +kernel
theorem dX5_names_9 : decode cX5_names 9 = .ok (.iand, 1) := by decide +kernel
theorem dX5_names_10 : decode cX5_names 10 = .ok (.ifCond .eq 7, 3) := by decide +kernel
theorem dX5_names_13 : decode cX5_names 13 = .ok (.iconst 1, 1) := by decide +kernel
theorem dX5_names_14 : decode cX5_names 14 = .ok (.goto 4, 3) := by decide +kernel
theorem dX5_names_17 : decode cX5_names 17 = .ok (.iconst 0, 1) := by decide +kernel
theorem dX5_names_18 : decode cX5_names 18 = .ok (.ireturn, 1) := by decide +kernel
theorem dX5_turnName_0 : decode cX5_turnName 0 = .ok (.aload_n 0, 1) := by decide +kernel
theorem dX5_turnName_1 : decode cX5_turnName 1 = .ok (.getfield 24, 3) := by decide +kernel
theorem dX5_turnName_4 : decode cX5_turnName 4 = .ok (.iload_n 1, 1) := by decide +kernel
theorem dX5_turnName_5 : decode cX5_turnName 5 = .ok (.dup2, 1) := by decide +kernel
theorem dX5_turnName_6 : decode cX5_turnName 6 = .ok (.iaload, 1) := by decide +kernel
theorem dX5_turnName_7 : decode cX5_turnName 7 = .ok (.iconst 1, 1) := by decide +kernel
theorem dX5_turnName_8 : decode cX5_turnName 8 = .ok (.iload_n 2, 1) := by decide +kernel
theorem dX5_turnName_9 : decode cX5_turnName 9 = .ok (.ishl, 1) := by decide +kernel
theorem dX5_turnName_10 : decode cX5_turnName 10 = .ok (.ixor, 1) := by decide +kernel
theorem dX5_turnName_11 : decode cX5_turnName 11 = .ok (.iastore, 1) := by decide +kernel
theorem dX5_turnName_12 : decode cX5_turnName 12 = .ok (.aload_n 0, 1) := by decide +kernel
theorem dX5_turnName_13 : decode cX5_turnName 13 = .ok (.getfield 24, 3) := by decide +kernel
theorem dX5_turnName_16 : decode cX5_turnName 16 = .ok (.iload_n 2, 1) := by decide +kernel
theorem dX5_turnName_17 : decode cX5_turnName 17 = .ok (.dup2, 1) := by decide +kernel
theorem dX5_turnName_18 : decode cX5_turnName 18 = .ok (.iaload, 1) := by decide +kernel
theorem dX5_turnName_19 : decode cX5_turnName 19 = .ok (.iconst 1, 1) := by decide +kernel
theorem dX5_turnName_20 : decode cX5_turnName 20 = .ok (.iload_n 1, 1) := by decide +kernel
theorem dX5_turnName_21 : decode cX5_turnName 21 = .ok (.ishl, 1) := by decide +kernel
theorem dX5_turnName_22 : decode cX5_turnName 22 = .ok (.ixor, 1) := by decide +kernel
theorem dX5_turnName_23 : decode cX5_turnName 23 = .ok (.iastore, 1) := by decide +kernel
theorem dX5_turnName_24 : decode cX5_turnName 24 = .ok (.return_, 1) := by decide +kernel
theorem dX5_countNames_0 : decode cX5_countNames 0 = .ok (.iconst 0, 1) := by decide +kernel
theorem dX5_countNames_1 : decode cX5_countNames 1 = .ok (.istore_n 1, 1) := by decide +kernel
theorem dX5_countNames_2 : decode cX5_countNames 2 = .ok (.iconst 0, 1) := by decide +kernel
theorem dX5_countNames_3 : decode cX5_countNames 3 = .ok (.istore_n 2, 1) := by decide +kernel
theorem dX5_countNames_4 : decode cX5_countNames 4 = .ok (.iload_n 2, 1) := by decide +kernel
theorem dX5_countNames_5 : decode cX5_countNames 5 = .ok (.aload_n 0, 1) := by decide +kernel
theorem dX5_countNames_6 : decode cX5_countNames 6 = .ok (.getfield 43, 3) := by decide +kernel
theorem dX5_countNames_9 : decode cX5_countNames 9 = .ok (.if_icmp .ge 21, 3) := by decide +kernel
theorem dX5_countNames_12 : decode cX5_countNames 12 = .ok (.iload_n 1, 1) := by decide +kernel
theorem dX5_countNames_13 : decode cX5_countNames 13 = .ok (.aload_n 0, 1) := by decide +kernel
theorem dX5_countNames_14 : decode cX5_countNames 14 = .ok (.getfield 24, 3) := by decide +kernel
theorem dX5_countNames_17 : decode cX5_countNames 17 = .ok (.iload_n 2, 1) := by decide +kernel
theorem dX5_countNames_18 : decode cX5_countNames 18 = .ok (.iaload, 1) := by decide +kernel
theorem dX5_countNames_19 : decode cX5_countNames 19 = .ok (.invokestatic 53, 3) := by decide +kernel
theorem dX5_countNames_22 : decode cX5_countNames 22 = .ok (.iadd, 1) := by decide +kernel
theorem dX5_countNames_23 : decode cX5_countNames 23 = .ok (.istore_n 1, 1) := by decide +kernel
theorem dX5_countNames_24 : decode cX5_countNames 24 = .ok (.iinc 2 1, 3) := by decide +kernel
theorem dX5_countNames_27 : decode cX5_countNames 27 = .ok (.goto (-23), 3) := by decide +kernel
theorem dX5_countNames_30 : decode cX5_countNames 30 = .ok (.iload_n 1, 1) := by decide +kernel
theorem dX5_countNames_31 : decode cX5_countNames 31 = .ok (.iconst 2, 1) := by decide +kernel
theorem dX5_countNames_32 : decode cX5_countNames 32 = .ok (.idiv, 1) := by decide +kernel
theorem dX5_countNames_33 : decode cX5_countNames 33 = .ok (.ireturn, 1) := by decide +kernel
theorem dX5_roadsOf_0 : decode cX5_roadsOf 0 = .ok (.iconst 0, 1) := by decide +kernel
theorem dX5_roadsOf_1 : decode cX5_roadsOf 1 = .ok (.istore_n 2, 1) := by decide +kernel
theorem dX5_roadsOf_2 : decode cX5_roadsOf 2 = .ok (.iconst 0, 1) := by decide +kernel
theorem dX5_roadsOf_3 : decode cX5_roadsOf 3 = .ok (.istore_n 3, 1) := by decide +kernel
theorem dX5_roadsOf_4 : decode cX5_roadsOf 4 = .ok (.iload_n 3, 1) := by decide +kernel
theorem dX5_roadsOf_5 : decode cX5_roadsOf 5 = .ok (.aload_n 0, 1) := by decide +kernel
theorem dX5_roadsOf_6 : decode cX5_roadsOf 6 = .ok (.getfield 43, 3) := by decide +kernel
theorem dX5_roadsOf_9 : decode cX5_roadsOf 9 = .ok (.if_icmp .ge 28, 3) := by decide +kernel
theorem dX5_roadsOf_12 : decode cX5_roadsOf 12 = .ok (.aload_n 0, 1) := by decide +kernel
theorem dX5_roadsOf_13 : decode cX5_roadsOf 13 = .ok (.getfield 21, 3) := by decide +kernel
theorem dX5_roadsOf_16 : decode cX5_roadsOf 16 = .ok (.iload_n 1, 1) := by decide +kernel
theorem dX5_roadsOf_17 : decode cX5_roadsOf 17 = .ok (.iload_n 3, 1) := by decide +kernel
theorem dX5_roadsOf_18 : decode cX5_roadsOf 18 = .ok (.invokestatic 49, 3) := by decide +kernel
theorem dX5_roadsOf_21 : decode cX5_roadsOf 21 = .ok (.iaload, 1) := by decide +kernel
theorem dX5_roadsOf_22 : decode cX5_roadsOf 22 = .ok (.ifCond .le 9, 3) := by decide +kernel
theorem dX5_roadsOf_25 : decode cX5_roadsOf 25 = .ok (.iload_n 2, 1) := by decide +kernel
theorem dX5_roadsOf_26 : decode cX5_roadsOf 26 = .ok (.iconst 1, 1) := by decide +kernel
theorem dX5_roadsOf_27 : decode cX5_roadsOf 27 = .ok (.iload_n 3, 1) := by decide +kernel
theorem dX5_roadsOf_28 : decode cX5_roadsOf 28 = .ok (.ishl, 1) := by decide +kernel
theorem dX5_roadsOf_29 : decode cX5_roadsOf 29 = .ok (.ior, 1) := by decide +kernel
theorem dX5_roadsOf_30 : decode cX5_roadsOf 30 = .ok (.istore_n 2, 1) := by decide +kernel
theorem dX5_roadsOf_31 : decode cX5_roadsOf 31 = .ok (.iinc 3 1, 3) := by decide +kernel
theorem dX5_roadsOf_34 : decode cX5_roadsOf 34 = .ok (.goto (-30), 3) := by decide +kernel
theorem dX5_roadsOf_37 : decode cX5_roadsOf 37 = .ok (.iload_n 2, 1) := by decide +kernel
theorem dX5_roadsOf_38 : decode cX5_roadsOf 38 = .ok (.ireturn, 1) := by decide +kernel
theorem dX5_comeToBy_0 : decode cX5_comeToBy 0 = .ok (.iconst 1, 1) := by decide +kernel
theorem dX5_comeToBy_1 : decode cX5_comeToBy 1 = .ok (.iload_n 1, 1) := by decide +kernel
theorem dX5_comeToBy_2 : decode cX5_comeToBy 2 = .ok (.ishl, 1) := by decide +kernel
theorem dX5_comeToBy_3 : decode cX5_comeToBy 3 = .ok (.istore_n 3, 1) := by decide +kernel
theorem dX5_comeToBy_4 : decode cX5_comeToBy 4 = .ok (.iconst 0, 1) := by decide +kernel
theorem dX5_comeToBy_5 : decode cX5_comeToBy 5 = .ok (.istore 4, 2) := by decide +kernel
theorem dX5_comeToBy_7 : decode cX5_comeToBy 7 = .ok (.iload 4, 2) := by decide +kernel
theorem dX5_comeToBy_9 : decode cX5_comeToBy 9 = .ok (.iload_n 2, 1) := by decide +kernel
theorem dX5_comeToBy_10 : decode cX5_comeToBy 10 = .ok (.if_icmp .ge 50, 3) := by decide +kernel
theorem dX5_comeToBy_13 : decode cX5_comeToBy 13 = .ok (.iload_n 3, 1) := by decide +kernel
theorem dX5_comeToBy_14 : decode cX5_comeToBy 14 = .ok (.istore 5, 2) := by decide +kernel
theorem dX5_comeToBy_16 : decode cX5_comeToBy 16 = .ok (.iconst 0, 1) := by decide +kernel
theorem dX5_comeToBy_17 : decode cX5_comeToBy 17 = .ok (.istore 6, 2) := by decide +kernel
theorem dX5_comeToBy_19 : decode cX5_comeToBy 19 = .ok (.iload 6, 2) := by decide +kernel
theorem dX5_comeToBy_21 : decode cX5_comeToBy 21 = .ok (.aload_n 0, 1) := by decide +kernel
theorem dX5_comeToBy_22 : decode cX5_comeToBy 22 = .ok (.getfield 43, 3) := by decide +kernel
theorem dX5_comeToBy_25 : decode cX5_comeToBy 25 = .ok (.if_icmp .ge 29, 3) := by decide +kernel
theorem dX5_comeToBy_28 : decode cX5_comeToBy 28 = .ok (.iload 5, 2) := by decide +kernel
theorem dX5_comeToBy_30 : decode cX5_comeToBy 30 = .ok (.iconst 1, 1) := by decide +kernel
theorem dX5_comeToBy_31 : decode cX5_comeToBy 31 = .ok (.iload 6, 2) := by decide +kernel
theorem dX5_comeToBy_33 : decode cX5_comeToBy 33 = .ok (.ishl, 1) := by decide +kernel
theorem dX5_comeToBy_34 : decode cX5_comeToBy 34 = .ok (.iand, 1) := by decide +kernel
theorem dX5_comeToBy_35 : decode cX5_comeToBy 35 = .ok (.ifCond .eq 13, 3) := by decide +kernel
theorem dX5_comeToBy_38 : decode cX5_comeToBy 38 = .ok (.iload_n 3, 1) := by decide +kernel
theorem dX5_comeToBy_39 : decode cX5_comeToBy 39 = .ok (.aload_n 0, 1) := by decide +kernel
theorem dX5_comeToBy_40 : decode cX5_comeToBy 40 = .ok (.getfield 24, 3) := by decide +kernel
theorem dX5_comeToBy_43 : decode cX5_comeToBy 43 = .ok (.iload 6, 2) := by decide +kernel
theorem dX5_comeToBy_45 : decode cX5_comeToBy 45 = .ok (.iaload, 1) := by decide +kernel
theorem dX5_comeToBy_46 : decode cX5_comeToBy 46 = .ok (.ior, 1) := by decide +kernel
theorem dX5_comeToBy_47 : decode cX5_comeToBy 47 = .ok (.istore_n 3, 1) := by decide +kernel
theorem dX5_comeToBy_48 : decode cX5_comeToBy 48 = .ok (.iinc 6 1, 3) := by decide +kernel
theorem dX5_comeToBy_51 : decode cX5_comeToBy 51 = .ok (.goto (-32), 3) := by decide +kernel
theorem dX5_comeToBy_54 : decode cX5_comeToBy 54 = .ok (.iinc 4 1, 3) := by decide +kernel
theorem dX5_comeToBy_57 : decode cX5_comeToBy 57 = .ok (.goto (-50), 3) := by decide +kernel
theorem dX5_comeToBy_60 : decode cX5_comeToBy 60 = .ok (.iload_n 3, 1) := by decide +kernel
theorem dX5_comeToBy_61 : decode cX5_comeToBy 61 = .ok (.ireturn, 1) := by decide +kernel
theorem dX5_tellFacts_0 : decode cX5_tellFacts 0 = .ok (.aload_n 2, 1) := by decide +kernel
theorem dX5_tellFacts_1 : decode cX5_tellFacts 1 = .ok (.iconst 0, 1) := by decide +kernel
theorem dX5_tellFacts_2 : decode cX5_tellFacts 2 = .ok (.iload_n 1, 1) := by decide +kernel
theorem dX5_tellFacts_3 : decode cX5_tellFacts 3 = .ok (.iastore, 1) := by decide +kernel
theorem dX5_tellFacts_4 : decode cX5_tellFacts 4 = .ok (.aload_n 2, 1) := by decide +kernel
theorem dX5_tellFacts_5 : decode cX5_tellFacts 5 = .ok (.iconst 1, 1) := by decide +kernel
theorem dX5_tellFacts_6 : decode cX5_tellFacts 6 = .ok (.aload_n 0, 1) := by decide +kernel
theorem dX5_tellFacts_7 : decode cX5_tellFacts 7 = .ok (.getfield 9, 3) := by decide +kernel
theorem dX5_tellFacts_10 : decode cX5_tellFacts 10 = .ok (.iload_n 1, 1) := by decide +kernel
theorem dX5_tellFacts_11 : decode cX5_tellFacts 11 = .ok (.iaload, 1) := by decide +kernel
theorem dX5_tellFacts_12 : decode cX5_tellFacts 12 = .ok (.iastore, 1) := by decide +kernel
theorem dX5_tellFacts_13 : decode cX5_tellFacts 13 = .ok (.aload_n 2, 1) := by decide +kernel
theorem dX5_tellFacts_14 : decode cX5_tellFacts 14 = .ok (.iconst 2, 1) := by decide +kernel
theorem dX5_tellFacts_15 : decode cX5_tellFacts 15 = .ok (.aload_n 0, 1) := by decide +kernel
theorem dX5_tellFacts_16 : decode cX5_tellFacts 16 = .ok (.getfield 15, 3) := by decide +kernel
theorem dX5_tellFacts_19 : decode cX5_tellFacts 19 = .ok (.iload_n 1, 1) := by decide +kernel
theorem dX5_tellFacts_20 : decode cX5_tellFacts 20 = .ok (.iaload, 1) := by decide +kernel
theorem dX5_tellFacts_21 : decode cX5_tellFacts 21 = .ok (.iastore, 1) := by decide +kernel
theorem dX5_tellFacts_22 : decode cX5_tellFacts 22 = .ok (.aload_n 2, 1) := by decide +kernel
theorem dX5_tellFacts_23 : decode cX5_tellFacts 23 = .ok (.iconst 3, 1) := by decide +kernel
theorem dX5_tellFacts_24 : decode cX5_tellFacts 24 = .ok (.aload_n 0, 1) := by decide +kernel
theorem dX5_tellFacts_25 : decode cX5_tellFacts 25 = .ok (.getfield 18, 3) := by decide +kernel
theorem dX5_tellFacts_28 : decode cX5_tellFacts 28 = .ok (.iload_n 1, 1) := by decide +kernel
theorem dX5_tellFacts_29 : decode cX5_tellFacts 29 = .ok (.iaload, 1) := by decide +kernel
theorem dX5_tellFacts_30 : decode cX5_tellFacts 30 = .ok (.bipush 10, 2) := by decide +kernel
theorem dX5_tellFacts_32 : decode cX5_tellFacts 32 = .ok (.idiv, 1) := by decide +kernel
theorem dX5_tellFacts_33 : decode cX5_tellFacts 33 = .ok (.iastore, 1) := by decide +kernel
theorem dX5_tellFacts_34 : decode cX5_tellFacts 34 = .ok (.aload_n 2, 1) := by decide +kernel
theorem dX5_tellFacts_35 : decode cX5_tellFacts 35 = .ok (.iconst 4, 1) := by decide +kernel
theorem dX5_tellFacts_36 : decode cX5_tellFacts 36 = .ok (.aload_n 0, 1) := by decide +kernel
theorem dX5_tellFacts_37 : decode cX5_tellFacts 37 = .ok (.getfield 24, 3) := by decide +kernel
theorem dX5_tellFacts_40 : decode cX5_tellFacts 40 = .ok (.iload_n 1, 1) := by decide +kernel
theorem dX5_tellFacts_41 : decode cX5_tellFacts 41 = .ok (.iaload, 1) := by decide +kernel
theorem dX5_tellFacts_42 : decode cX5_tellFacts 42 = .ok (.invokestatic 53, 3) := by decide +kernel
theorem dX5_tellFacts_45 : decode cX5_tellFacts 45 = .ok (.iastore, 1) := by decide +kernel
theorem dX5_tellFacts_46 : decode cX5_tellFacts 46 = .ok (.aload_n 2, 1) := by decide +kernel
theorem dX5_tellFacts_47 : decode cX5_tellFacts 47 = .ok (.iconst 5, 1) := by decide +kernel
theorem dX5_tellFacts_48 : decode cX5_tellFacts 48 = .ok (.aload_n 0, 1) := by decide +kernel
theorem dX5_tellFacts_49 : decode cX5_tellFacts 49 = .ok (.iload_n 1, 1) := by decide +kernel
theorem dX5_tellFacts_50 : decode cX5_tellFacts 50 = .ok (.invokevirtual 59, 3) := by decide +kernel
theorem dX5_tellFacts_53 : decode cX5_tellFacts 53 = .ok (.invokestatic 53, 3) := by decide +kernel
theorem dX5_tellFacts_56 : decode cX5_tellFacts 56 = .ok (.iastore, 1) := by decide +kernel
theorem dX5_tellFacts_57 : decode cX5_tellFacts 57 = .ok (.return_, 1) := by decide +kernel
theorem dX5_becomeAs_0 : decode cX5_becomeAs 0 = .ok (.aload_n 0, 1) := by decide +kernel
theorem dX5_becomeAs_1 : decode cX5_becomeAs 1 = .ok (.aload_n 1, 1) := by decide +kernel
theorem dX5_becomeAs_2 : decode cX5_becomeAs 2 = .ok (.getfield 43, 3) := by decide +kernel
theorem dX5_becomeAs_5 : decode cX5_becomeAs 5 = .ok (.putfield 43, 3) := by decide +kernel
theorem dX5_becomeAs_8 : decode cX5_becomeAs 8 = .ok (.aload_n 1, 1) := by decide +kernel
theorem dX5_becomeAs_9 : decode cX5_becomeAs 9 = .ok (.getfield 9, 3) := by decide +kernel
theorem dX5_becomeAs_12 : decode cX5_becomeAs 12 = .ok (.iconst 0, 1) := by decide +kernel
theorem dX5_becomeAs_13 : decode cX5_becomeAs 13 = .ok (.aload_n 0, 1) := by decide +kernel
theorem dX5_becomeAs_14 : decode cX5_becomeAs 14 = .ok (.getfield 9, 3) := by decide +kernel
theorem dX5_becomeAs_17 : decode cX5_becomeAs 17 = .ok (.iconst 0, 1) := by decide +kernel
theorem dX5_becomeAs_18 : decode cX5_becomeAs 18 = .ok (.bipush 7, 2) := by decide +kernel
theorem dX5_becomeAs_20 : decode cX5_becomeAs 20 = .ok (.invokestatic 62, 3) := by decide +kernel
theorem dX5_becomeAs_23 : decode cX5_becomeAs 23 = .ok (.aload_n 1, 1) := by decide +kernel
theorem dX5_becomeAs_24 : decode cX5_becomeAs 24 = .ok (.getfield 15, 3) := by decide +kernel
theorem dX5_becomeAs_27 : decode cX5_becomeAs 27 = .ok (.iconst 0, 1) := by decide +kernel
theorem dX5_becomeAs_28 : decode cX5_becomeAs 28 = .ok (.aload_n 0, 1) := by decide +kernel
theorem dX5_becomeAs_29 : decode cX5_becomeAs 29 = .ok (.getfield 15, 3) := by decide +kernel
theorem dX5_becomeAs_32 : decode cX5_becomeAs 32 = .ok (.iconst 0, 1) := by decide +kernel
theorem dX5_becomeAs_33 : decode cX5_becomeAs 33 = .ok (.bipush 7, 2) := by decide +kernel
theorem dX5_becomeAs_35 : decode cX5_becomeAs 35 = .ok (.invokestatic 62, 3) := by decide +kernel
theorem dX5_becomeAs_38 : decode cX5_becomeAs 38 = .ok (.aload_n 1, 1) := by decide +kernel
theorem dX5_becomeAs_39 : decode cX5_becomeAs 39 = .ok (.getfield 18, 3) := by decide +kernel
theorem dX5_becomeAs_42 : decode cX5_becomeAs 42 = .ok (.iconst 0, 1) := by decide +kernel
theorem dX5_becomeAs_43 : decode cX5_becomeAs 43 = .ok (.aload_n 0, 1) := by decide +kernel
theorem dX5_becomeAs_44 : decode cX5_becomeAs 44 = .ok (.getfield 18, 3) := by decide +kernel
theorem dX5_becomeAs_47 : decode cX5_becomeAs 47 = .ok (.iconst 0, 1) := by decide +kernel
theorem dX5_becomeAs_48 : decode cX5_becomeAs 48 = .ok (.bipush 7, 2) := by decide +kernel
theorem dX5_becomeAs_50 : decode cX5_becomeAs 50 = .ok (.invokestatic 62, 3) := by decide +kernel
theorem dX5_becomeAs_53 : decode cX5_becomeAs 53 = .ok (.aload_n 1, 1) := by decide +kernel
theorem dX5_becomeAs_54 : decode cX5_becomeAs 54 = .ok (.getfield 21, 3) := by decide +kernel
theorem dX5_becomeAs_57 : decode cX5_becomeAs 57 = .ok (.iconst 0, 1) := by decide +kernel
theorem dX5_becomeAs_58 : decode cX5_becomeAs 58 = .ok (.aload_n 0, 1) := by decide +kernel
theorem dX5_becomeAs_59 : decode cX5_becomeAs 59 = .ok (.getfield 21, 3) := by decide +kernel
theorem dX5_becomeAs_62 : decode cX5_becomeAs 62 = .ok (.iconst 0, 1) := by decide +kernel
theorem dX5_becomeAs_63 : decode cX5_becomeAs 63 = .ok (.bipush 49, 2) := by decide +kernel
theorem dX5_becomeAs_65 : decode cX5_becomeAs 65 = .ok (.invokestatic 62, 3) := by decide +kernel
theorem dX5_becomeAs_68 : decode cX5_becomeAs 68 = .ok (.aload_n 1, 1) := by decide +kernel
theorem dX5_becomeAs_69 : decode cX5_becomeAs 69 = .ok (.getfield 24, 3) := by decide +kernel
theorem dX5_becomeAs_72 : decode cX5_becomeAs 72 = .ok (.iconst 0, 1) := by decide +kernel
theorem dX5_becomeAs_73 : decode cX5_becomeAs 73 = .ok (.aload_n 0, 1) := by decide +kernel
theorem dX5_becomeAs_74 : decode cX5_becomeAs 74 = .ok (.getfield 24, 3) := by decide +kernel
theorem dX5_becomeAs_77 : decode cX5_becomeAs 77 = .ok (.iconst 0, 1) := by decide +kernel
theorem dX5_becomeAs_78 : decode cX5_becomeAs 78 = .ok (.bipush 7, 2) := by decide +kernel
theorem dX5_becomeAs_80 : decode cX5_becomeAs 80 = .ok (.invokestatic 62, 3) := by decide +kernel
theorem dX5_becomeAs_83 : decode cX5_becomeAs 83 = .ok (.aload_n 0, 1) := by decide +kernel
theorem dX5_becomeAs_84 : decode cX5_becomeAs 84 = .ok (.aload_n 1, 1) := by decide +kernel
theorem dX5_becomeAs_85 : decode cX5_becomeAs 85 = .ok (.getfield 46, 3) := by decide +kernel
theorem dX5_becomeAs_88 : decode cX5_becomeAs 88 = .ok (.putfield 46, 3) := by decide +kernel
theorem dX5_becomeAs_91 : decode cX5_becomeAs 91 = .ok (.aload_n 1, 1) := by decide +kernel
theorem dX5_becomeAs_92 : decode cX5_becomeAs 92 = .ok (.getfield 27, 3) := by decide +kernel
theorem dX5_becomeAs_95 : decode cX5_becomeAs 95 = .ok (.iconst 0, 1) := by decide +kernel
theorem dX5_becomeAs_96 : decode cX5_becomeAs 96 = .ok (.aload_n 0, 1) := by decide +kernel
theorem dX5_becomeAs_97 : decode cX5_becomeAs 97 = .ok (.getfield 27, 3) := by decide +kernel
theorem dX5_becomeAs_100 : decode cX5_becomeAs 100 = .ok (.iconst 0, 1) := by decide +kernel
theorem dX5_becomeAs_101 : decode cX5_becomeAs 101 = .ok (.bipush 8, 2) := by decide +kernel
theorem dX5_becomeAs_103 : decode cX5_becomeAs 103 = .ok (.invokestatic 62, 3) := by decide +kernel
theorem dX5_becomeAs_106 : decode cX5_becomeAs 106 = .ok (.aload_n 1, 1) := by decide +kernel
theorem dX5_becomeAs_107 : decode cX5_becomeAs 107 = .ok (.getfield 30, 3) := by decide +kernel
theorem dX5_becomeAs_110 : decode cX5_becomeAs 110 = .ok (.iconst 0, 1) := by decide +kernel
theorem dX5_becomeAs_111 : decode cX5_becomeAs 111 = .ok (.aload_n 0, 1) := by decide +kernel
theorem dX5_becomeAs_112 : decode cX5_becomeAs 112 = .ok (.getfield 30, 3) := by decide +kernel
theorem dX5_becomeAs_115 : decode cX5_becomeAs 115 = .ok (.iconst 0, 1) := by decide +kernel
theorem dX5_becomeAs_116 : decode cX5_becomeAs 116 = .ok (.bipush 8, 2) := by decide +kernel
theorem dX5_becomeAs_118 : decode cX5_becomeAs 118 = .ok (.invokestatic 62, 3) := by decide +kernel
theorem dX5_becomeAs_121 : decode cX5_becomeAs 121 = .ok (.aload_n 1, 1) := by decide +kernel
theorem dX5_becomeAs_122 : decode cX5_becomeAs 122 = .ok (.getfield 33, 3) := by decide +kernel
theorem dX5_becomeAs_125 : decode cX5_becomeAs 125 = .ok (.iconst 0, 1) := by decide +kernel
theorem dX5_becomeAs_126 : decode cX5_becomeAs 126 = .ok (.aload_n 0, 1) := by decide +kernel
theorem dX5_becomeAs_127 : decode cX5_becomeAs 127 = .ok (.getfield 33, 3) := by decide +kernel
theorem dX5_becomeAs_130 : decode cX5_becomeAs 130 = .ok (.iconst 0, 1) := by decide +kernel
theorem dX5_becomeAs_131 : decode cX5_becomeAs 131 = .ok (.bipush 8, 2) := by decide +kernel
theorem dX5_becomeAs_133 : decode cX5_becomeAs 133 = .ok (.invokestatic 62, 3) := by decide +kernel
theorem dX5_becomeAs_136 : decode cX5_becomeAs 136 = .ok (.aload_n 0, 1) := by decide +kernel
theorem dX5_becomeAs_137 : decode cX5_becomeAs 137 = .ok (.aload_n 1, 1) := by decide +kernel
theorem dX5_becomeAs_138 : decode cX5_becomeAs 138 = .ok (.getfield 68, 3) := by decide +kernel
theorem dX5_becomeAs_141 : decode cX5_becomeAs 141 = .ok (.putfield 68, 3) := by decide +kernel
theorem dX5_becomeAs_144 : decode cX5_becomeAs 144 = .ok (.aload_n 1, 1) := by decide +kernel
theorem dX5_becomeAs_145 : decode cX5_becomeAs 145 = .ok (.getfield 36, 3) := by decide +kernel
theorem dX5_becomeAs_148 : decode cX5_becomeAs 148 = .ok (.iconst 0, 1) := by decide +kernel
theorem dX5_becomeAs_149 : decode cX5_becomeAs 149 = .ok (.aload_n 0, 1) := by decide +kernel
theorem dX5_becomeAs_150 : decode cX5_becomeAs 150 = .ok (.getfield 36, 3) := by decide +kernel
theorem dX5_becomeAs_153 : decode cX5_becomeAs 153 = .ok (.iconst 0, 1) := by decide +kernel
theorem dX5_becomeAs_154 : decode cX5_becomeAs 154 = .ok (.bipush 12, 2) := by decide +kernel
theorem dX5_becomeAs_156 : decode cX5_becomeAs 156 = .ok (.invokestatic 62, 3) := by decide +kernel
theorem dX5_becomeAs_159 : decode cX5_becomeAs 159 = .ok (.aload_n 0, 1) := by decide +kernel
theorem dX5_becomeAs_160 : decode cX5_becomeAs 160 = .ok (.aload_n 1, 1) := by decide +kernel
theorem dX5_becomeAs_161 : decode cX5_becomeAs 161 = .ok (.getfield 39, 3) := by decide +kernel
theorem dX5_becomeAs_164 : decode cX5_becomeAs 164 = .ok (.putfield 39, 3) := by decide +kernel
theorem dX5_becomeAs_167 : decode cX5_becomeAs 167 = .ok (.return_, 1) := by decide +kernel
theorem dX6_init_0 : decode cX6_init 0 = .ok (.aload_n 0, 1) := by decide +kernel
theorem dX6_init_1 : decode cX6_init 1 = .ok (.invokespecial 3, 3) := by decide +kernel
theorem dX6_init_4 : decode cX6_init 4 = .ok (.aload_n 0, 1) := by decide +kernel
theorem dX6_init_5 : decode cX6_init 5 = .ok (.new 9, 3) := by decide +kernel
theorem dX6_init_8 : decode cX6_init 8 = .ok (.dup, 1) := by decide +kernel
theorem dX6_init_9 : decode cX6_init 9 = .ok (.invokespecial 11, 3) := by decide +kernel
theorem dX6_init_12 : decode cX6_init 12 = .ok (.putfield 12, 3) := by decide +kernel
theorem dX6_init_15 : decode cX6_init 15 = .ok (.aload_n 0, 1) := by decide +kernel
theorem dX6_init_16 : decode cX6_init 16 = .ok (.aload_n 0, 1) := by decide +kernel
theorem dX6_init_17 : decode cX6_init 17 = .ok (.getfield 12, 3) := by decide +kernel
theorem dX6_init_20 : decode cX6_init 20 = .ok (.getfield 18, 3) := by decide +kernel
theorem dX6_init_23 : decode cX6_init 23 = .ok (.putfield 22, 3) := by decide +kernel
theorem dX6_init_26 : decode cX6_init 26 = .ok (.aload_n 0, 1) := by decide +kernel
theorem dX6_init_27 : decode cX6_init 27 = .ok (.new 23, 3) := by decide +kernel
theorem dX6_init_30 : decode cX6_init 30 = .ok (.dup, 1) := by decide +kernel
theorem dX6_init_31 : decode cX6_init 31 = .ok (.invokespecial 25, 3) := by decide +kernel
theorem dX6_init_34 : decode cX6_init 34 = .ok (.putfield 26, 3) := by decide +kernel
theorem dX6_init_37 : decode cX6_init 37 = .ok (.aload_n 0, 1) := by decide +kernel
theorem dX6_init_38 : decode cX6_init 38 = .ok (.new 29, 3) := by decide +kernel
theorem dX6_init_41 : decode cX6_init 41 = .ok (.dup, 1) := by decide +kernel
theorem dX6_init_42 : decode cX6_init 42 = .ok (.invokespecial 31, 3) := by decide +kernel
theorem dX6_init_45 : decode cX6_init 45 = .ok (.putfield 32, 3) := by decide +kernel
theorem dX6_init_48 : decode cX6_init 48 = .ok (.aload_n 0, 1) := by decide +kernel
theorem dX6_init_49 : decode cX6_init 49 = .ok (.bipush 6, 2) := by decide +kernel
theorem dX6_init_51 : decode cX6_init 51 = .ok (.anewarray 29, 3) := by decide +kernel
theorem dX6_init_54 : decode cX6_init 54 = .ok (.putfield 36, 3) := by decide +kernel
theorem dX6_init_57 : decode cX6_init 57 = .ok (.aload_n 0, 1) := by decide +kernel
theorem dX6_init_58 : decode cX6_init 58 = .ok (.new 40, 3) := by decide +kernel
theorem dX6_init_61 : decode cX6_init 61 = .ok (.dup, 1) := by decide +kernel
theorem dX6_init_62 : decode cX6_init 62 = .ok (.invokespecial 42, 3) := by decide +kernel
theorem dX6_init_65 : decode cX6_init 65 = .ok (.putfield 43, 3) := by decide +kernel
theorem dX6_init_68 : decode cX6_init 68 = .ok (.aload_n 0, 1) := by decide +kernel
theorem dX6_init_69 : decode cX6_init 69 = .ok (.new 47, 3) := by decide +kernel
theorem dX6_init_72 : decode cX6_init 72 = .ok (.dup, 1) := by decide +kernel
theorem dX6_init_73 : decode cX6_init 73 = .ok (.invokespecial 49, 3) := by decide +kernel
theorem dX6_init_76 : decode cX6_init 76 = .ok (.putfield 50, 3) := by decide +kernel
theorem dX6_init_79 : decode cX6_init 79 = .ok (.aload_n 0, 1) := by decide +kernel
theorem dX6_init_80 : decode cX6_init 80 = .ok (.bipush 6, 2) := by decide +kernel
theorem dX6_init_82 : decode cX6_init 82 = .ok (.anewarray 54, 3) := by decide +kernel
theorem dX6_init_85 : decode cX6_init 85 = .ok (.putfield 56, 3) := by decide +kernel
theorem dX6_init_88 : decode cX6_init 88 = .ok (.iconst 0, 1) := by decide +kernel
theorem dX6_init_89 : decode cX6_init 89 = .ok (.istore_n 1, 1) := by decide +kernel
theorem dX6_init_90 : decode cX6_init 90 = .ok (.iload_n 1, 1) := by decide +kernel
theorem dX6_init_91 : decode cX6_init 91 = .ok (.bipush 6, 2) := by decide +kernel
theorem dX6_init_93 : decode cX6_init 93 = .ok (.if_icmp .ge 22, 3) := by decide +kernel
theorem dX6_init_96 : decode cX6_init 96 = .ok (.aload_n 0, 1) := by decide +kernel
theorem dX6_init_97 : decode cX6_init 97 = .ok (.getfield 36, 3) := by decide +kernel
theorem dX6_init_100 : decode cX6_init 100 = .ok (.iload_n 1, 1) := by decide +kernel
theorem dX6_init_101 : decode cX6_init 101 = .ok (.new 29, 3) := by decide +kernel
theorem dX6_init_104 : decode cX6_init 104 = .ok (.dup, 1) := by decide +kernel
theorem dX6_init_105 : decode cX6_init 105 = .ok (.invokespecial 31, 3) := by decide +kernel
theorem dX6_init_108 : decode cX6_init 108 = .ok (.aastore, 1) := by decide +kernel
theorem dX6_init_109 : decode cX6_init 109 = .ok (.iinc 1 1, 3) := by decide +kernel
theorem dX6_init_112 : decode cX6_init 112 = .ok (.goto (-22), 3) := by decide +kernel
theorem dX6_init_115 : decode cX6_init 115 = .ok (.iconst 0, 1) := by decide +kernel
theorem dX6_init_116 : decode cX6_init 116 = .ok (.istore_n 1, 1) := by decide +kernel
theorem dX6_init_117 : decode cX6_init 117 = .ok (.iload_n 1, 1) := by decide +kernel
theorem dX6_init_118 : decode cX6_init 118 = .ok (.bipush 6, 2) := by decide +kernel
theorem dX6_init_120 : decode cX6_init 120 = .ok (.if_icmp .ge 22, 3) := by decide +kernel
theorem dX6_init_123 : decode cX6_init 123 = .ok (.aload_n 0, 1) := by decide +kernel
theorem dX6_init_124 : decode cX6_init 124 = .ok (.getfield 56, 3) := by decide +kernel
theorem dX6_init_127 : decode cX6_init 127 = .ok (.iload_n 1, 1) := by decide +kernel
theorem dX6_init_128 : decode cX6_init 128 = .ok (.new 54, 3) := by decide +kernel
theorem dX6_init_131 : decode cX6_init 131 = .ok (.dup, 1) := by decide +kernel
theorem dX6_init_132 : decode cX6_init 132 = .ok (.invokespecial 60, 3) := by decide +kernel
theorem dX6_init_135 : decode cX6_init 135 = .ok (.aastore, 1) := by decide +kernel
theorem dX6_init_136 : decode cX6_init 136 = .ok (.iinc 1 1, 3) := by decide +kernel
theorem dX6_init_139 : decode cX6_init 139 = .ok (.goto (-22), 3) := by decide +kernel
theorem dX6_init_142 : decode cX6_init 142 = .ok (.return_, 1) := by decide +kernel
theorem dX6_place_0 : decode cX6_place 0 = .ok (.iload_n 1, 1) := by decide +kernel
theorem dX6_place_1 : decode cX6_place 1 = .ok (.ifCond .lt 9, 3) := by decide +kernel
theorem dX6_place_4 : decode cX6_place 4 = .ok (.iload_n 1, 1) := by decide +kernel
theorem dX6_place_5 : decode cX6_place 5 = .ok (.bipush 6, 2) := by decide +kernel
theorem dX6_place_7 : decode cX6_place 7 = .ok (.if_icmp .le 5, 3) := by decide +kernel
theorem dX6_place_10 : decode cX6_place 10 = .ok (.iconst (-1), 1) := by decide +kernel
theorem dX6_place_11 : decode cX6_place 11 = .ok (.ireturn, 1) := by decide +kernel
theorem dX6_place_12 : decode cX6_place 12 = .ok (.iload_n 2, 1) := by decide +kernel
theorem dX6_place_13 : decode cX6_place 13 = .ok (.ifCond .lt 19, 3) := by decide +kernel
theorem dX6_place_16 : decode cX6_place 16 = .ok (.iload_n 2, 1) := by decide +kernel
theorem dX6_place_17 : decode cX6_place 17 = .ok (.bipush 9, 2) := by decide +kernel
theorem dX6_place_19 : decode cX6_place 19 = .ok (.if_icmp .gt 13, 3) := by decide +kernel
theorem dX6_place_22 : decode cX6_place 22 = .ok (.iload_n 3, 1) := by decide +kernel
theorem dX6_place_23 : decode cX6_place 23 = .ok (.ifCond .lt 9, 3) := by decide +kernel
theorem dX6_place_26 : decode cX6_place 26 = .ok (.iload_n 3, 1) := by decide +kernel
theorem dX6_place_27 : decode cX6_place 27 = .ok (.bipush 99, 2) := by decide +kernel
theorem dX6_place_29 : decode cX6_place 29 = .ok (.if_icmp .le 6, 3) := by decide +kernel
theorem dX6_place_32 : decode cX6_place 32 = .ok (.bipush (-2), 2) := by decide +kernel
theorem dX6_place_34 : decode cX6_place 34 = .ok (.ireturn, 1) := by decide +kernel
theorem dX6_place_35 : decode cX6_place 35 = .ok (.aload_n 0, 1) := by decide +kernel
theorem dX6_place_36 : decode cX6_place 36 = .ok (.getfield 22, 3) := by decide +kernel
theorem dX6_place_39 : decode cX6_place 39 = .ok (.getfield 61, 3) := by decide +kernel
theorem dX6_place_42 : decode cX6_place 42 = .ok (.bipush 7, 2) := by decide +kernel
theorem dX6_place_44 : decode cX6_place 44 = .ok (.if_icmp .lt 6, 3) := by decide +kernel
theorem dX6_place_47 : decode cX6_place 47 = .ok (.bipush (-4), 2) := by decide +kernel
theorem dX6_place_49 : decode cX6_place 49 = .ok (.ireturn, 1) := by decide +kernel
theorem dX6_place_50 : decode cX6_place 50 = .ok (.aload_n 0, 1) := by decide +kernel
theorem dX6_place_51 : decode cX6_place 51 = .ok (.getfield 22, 3) := by decide +kernel
theorem dX6_place_54 : decode cX6_place 54 = .ok (.iload_n 1, 1) := by decide +kernel
theorem dX6_place_55 : decode cX6_place 55 = .ok (.iload_n 2, 1) := by decide +kernel
theorem dX6_place_56 : decode cX6_place 56 = .ok (.iload_n 3, 1) := by decide +kernel
theorem dX6_place_57 : decode cX6_place 57 = .ok (.invokevirtual 65, 3) := by decide +kernel
theorem dX6_place_60 : decode cX6_place 60 = .ok (.ireturn, 1) := by decide +kernel
theorem dX6_of_0 : decode cX6_of 0 = .ok (.aload_n 0, 1) := by decide +kernel
theorem dX6_of_1 : decode cX6_of 1 = .ok (.getfield 22, 3) := by decide +kernel
theorem dX6_of_4 : decode cX6_of 4 = .ok (.iload_n 1, 1) := by decide +kernel
theorem dX6_of_5 : decode cX6_of 5 = .ok (.invokevirtual 69, 3) := by decide +kernel
theorem dX6_of_8 : decode cX6_of 8 = .ok (.ifCond .ne 5, 3) := by decide +kernel
theorem dX6_of_11 : decode cX6_of 11 = .ok (.iconst (-1), 1) := by decide +kernel
theorem dX6_of_12 : decode cX6_of 12 = .ok (.ireturn, 1) := by decide +kernel
theorem dX6_of_13 : decode cX6_of 13 = .ok (.iload_n 2, 1) := by decide +kernel
theorem dX6_of_14 : decode cX6_of 14 = .ok (.tableswitch 97 0 5 #[38, 48, 58, 68, 78, 88], 38) := by decide +kernel
theorem dX6_of_52 : decode cX6_of 52 = .ok (.aload_n 0, 1) := by decide +kernel
theorem dX6_of_53 : decode cX6_of 53 = .ok (.getfield 22, 3) := by decide +kernel
theorem dX6_of_56 : decode cX6_of 56 = .ok (.getfield 73, 3) := by decide +kernel
theorem dX6_of_59 : decode cX6_of 59 = .ok (.iload_n 1, 1) := by decide +kernel
theorem dX6_of_60 : decode cX6_of 60 = .ok (.iaload, 1) := by decide +kernel
theorem dX6_of_61 : decode cX6_of 61 = .ok (.ireturn, 1) := by decide +kernel
theorem dX6_of_62 : decode cX6_of 62 = .ok (.aload_n 0, 1) := by decide +kernel
theorem dX6_of_63 : decode cX6_of 63 = .ok (.getfield 22, 3) := by decide +kernel
theorem dX6_of_66 : decode cX6_of 66 = .ok (.getfield 77, 3) := by decide +kernel
theorem dX6_of_69 : decode cX6_of 69 = .ok (.iload_n 1, 1) := by decide +kernel
theorem dX6_of_70 : decode cX6_of 70 = .ok (.iaload, 1) := by decide +kernel
theorem dX6_of_71 : decode cX6_of 71 = .ok (.ireturn, 1) := by decide +kernel
theorem dX6_of_72 : decode cX6_of 72 = .ok (.aload_n 0, 1) := by decide +kernel
theorem dX6_of_73 : decode cX6_of 73 = .ok (.getfield 22, 3) := by decide +kernel
theorem dX6_of_76 : decode cX6_of 76 = .ok (.getfield 80, 3) := by decide +kernel
theorem dX6_of_79 : decode cX6_of 79 = .ok (.iload_n 1, 1) := by decide +kernel
theorem dX6_of_80 : decode cX6_of 80 = .ok (.iaload, 1) := by decide +kernel
theorem dX6_of_81 : decode cX6_of 81 = .ok (.ireturn, 1) := by decide +kernel
theorem dX6_of_82 : decode cX6_of 82 = .ok (.aload_n 0, 1) := by decide +kernel
theorem dX6_of_83 : decode cX6_of 83 = .ok (.invokevirtual 83, 3) := by decide +kernel
theorem dX6_of_86 : decode cX6_of 86 = .ok (.getfield 87, 3) := by decide +kernel
theorem dX6_of_89 : decode cX6_of 89 = .ok (.iload_n 1, 1) := by decide +kernel
theorem dX6_of_90 : decode cX6_of 90 = .ok (.iaload, 1) := by decide +kernel
theorem dX6_of_91 : decode cX6_of 91 = .ok (.ireturn, 1) := by decide +kernel
theorem dX6_of_92 : decode cX6_of 92 = .ok (.aload_n 0, 1) := by decide +kernel
theorem dX6_of_93 : decode cX6_of 93 = .ok (.getfield 22, 3) := by decide +kernel
theorem dX6_of_96 : decode cX6_of 96 = .ok (.getfield 90, 3) := by decide +kernel
theorem dX6_of_99 : decode cX6_of 99 = .ok (.iload_n 1, 1) := by decide +kernel
theorem dX6_of_100 : decode cX6_of 100 = .ok (.iaload, 1) := by decide +kernel
theorem dX6_of_101 : decode cX6_of 101 = .ok (.ireturn, 1) := by decide +kernel
theorem dX6_of_102 : decode cX6_of 102 = .ok (.aload_n 0, 1) := by decide +kernel
theorem dX6_of_103 : decode cX6_of 103 = .ok (.getfield 22, 3) := by decide +kernel
theorem dX6_of_106 : decode cX6_of 106 = .ok (.iload_n 1, 1) := by decide +kernel
theorem dX6_of_107 : decode cX6_of 107 = .ok (.invokevirtual 93, 3) := by decide +kernel
theorem dX6_of_110 : decode cX6_of 110 = .ok (.ireturn, 1) := by decide +kernel
theorem dX6_of_111 : decode cX6_of 111 = .ok (.iconst (-1), 1) := by decide +kernel
theorem dX6_of_112 : decode cX6_of 112 = .ok (.ireturn, 1) := by decide +kernel
theorem dX6_road_0 : decode cX6_road 0 = .ok (.aload_n 0, 1) := by decide +kernel
theorem dX6_road_1 : decode cX6_road 1 = .ok (.getfield 22, 3) := by decide +kernel
theorem dX6_road_4 : decode cX6_road 4 = .ok (.iload_n 1, 1) := by decide +kernel
theorem dX6_road_5 : decode cX6_road 5 = .ok (.invokevirtual 69, 3) := by decide +kernel
theorem dX6_road_8 : decode cX6_road 8 = .ok (.ifCond .eq 14, 3) := by decide +kernel
theorem dX6_road_11 : decode cX6_road 11 = .ok (.aload_n 0, 1) := by decide +kernel
theorem dX6_road_12 : decode cX6_road 12 = .ok (.getfield 22, 3) := by decide +kernel
theorem dX6_road_15 : decode cX6_road 15 = .ok (.iload_n 2, 1) := by decide +kernel
theorem dX6_road_16 : decode cX6_road 16 = .ok (.invokevirtual 69, 3) := by decide +kernel
theorem dX6_road_19 : decode cX6_road 19 = .ok (.ifCond .ne 5, 3) := by decide +kernel
theorem dX6_road_22 : decode cX6_road 22 = .ok (.iconst (-1), 1) := by decide +kernel
theorem dX6_road_23 : decode cX6_road 23 = .ok (.ireturn, 1) := by decide +kernel
theorem dX6_road_24 : decode cX6_road 24 = .ok (.iload_n 1, 1) := by decide +kernel
theorem dX6_road_25 : decode cX6_road 25 = .ok (.iload_n 2, 1) := by decide +kernel
theorem dX6_road_26 : decode cX6_road 26 = .ok (.if_icmp .eq 13, 3) := by decide +kernel
theorem dX6_road_29 : decode cX6_road 29 = .ok (.iload_n 3, 1) := by decide +kernel
theorem dX6_road_30 : decode cX6_road 30 = .ok (.ifCond .lt 9, 3) := by decide +kernel
theorem dX6_road_33 : decode cX6_road 33 = .ok (.iload_n 3, 1) := by decide +kernel
theorem dX6_road_34 : decode cX6_road 34 = .ok (.bipush 99, 2) := by decide +kernel
theorem dX6_road_36 : decode cX6_road 36 = .ok (.if_icmp .le 6, 3) := by decide +kernel
theorem dX6_road_39 : decode cX6_road 39 = .ok (.bipush (-2), 2) := by decide +kernel
theorem dX6_road_41 : decode cX6_road 41 = .ok (.ireturn, 1) := by decide +kernel
theorem dX6_road_42 : decode cX6_road 42 = .ok (.aload_n 0, 1) := by decide +kernel
theorem dX6_road_43 : decode cX6_road 43 = .ok (.getfield 22, 3) := by decide +kernel
theorem dX6_road_46 : decode cX6_road 46 = .ok (.getfield 97, 3) := by decide +kernel
theorem dX6_road_49 : decode cX6_road 49 = .ok (.iload_n 1, 1) := by decide +kernel
theorem dX6_road_50 : decode cX6_road 50 = .ok (.iload_n 2, 1) := by decide +kernel
theorem dX6_road_51 : decode cX6_road 51 = .ok (.invokestatic 100, 3) := by decide +kernel
theorem dX6_road_54 : decode cX6_road 54 = .ok (.iaload, 1) := by decide +kernel
theorem dX6_road_55 : decode cX6_road 55 = .ok (.istore 4, 2) := by decide +kernel
theorem dX6_road_57 : decode cX6_road 57 = .ok (.aload_n 0, 1) := by decide +kernel
theorem dX6_road_58 : decode cX6_road 58 = .ok (.getfield 22, 3) := by decide +kernel
theorem dX6_road_61 : decode cX6_road 61 = .ok (.iload_n 1, 1) := by decide +kernel
theorem dX6_road_62 : decode cX6_road 62 = .ok (.iload_n 2, 1) := by decide +kernel
theorem dX6_road_63 : decode cX6_road 63 = .ok (.iload_n 3, 1) := by decide +kernel
theorem dX6_road_64 : decode cX6_road 64 = .ok (.invokevirtual 104, 3) := by decide +kernel
theorem dX6_road_67 : decode cX6_road 67 = .ok (.iload 4, 2) := by decide +kernel
theorem dX6_road_69 : decode cX6_road 69 = .ok (.ireturn, 1) := by decide +kernel
theorem dX6_far_0 : decode cX6_far 0 = .ok (.aload_n 0, 1) := by decide +kernel
theorem dX6_far_1 : decode cX6_far 1 = .ok (.getfield 22, 3) := by decide +kernel
theorem dX6_far_4 : decode cX6_far 4 = .ok (.iload_n 1, 1) := by decide +kernel
theorem dX6_far_5 : decode cX6_far 5 = .ok (.invokevirtual 69, 3) := by decide +kernel
theorem dX6_far_8 : decode cX6_far 8 = .ok (.ifCond .eq 14, 3) := by decide +kernel
theorem dX6_far_11 : decode cX6_far 11 = .ok (.aload_n 0, 1) := by decide +kernel
theorem dX6_far_12 : decode cX6_far 12 = .ok (.getfield 22, 3) := by decide +kernel
theorem dX6_far_15 : decode cX6_far 15 = .ok (.iload_n 2, 1) := by decide +kernel
theorem dX6_far_16 : decode cX6_far 16 = .ok (.invokevirtual 69, 3) := by decide +kernel
theorem dX6_far_19 : decode cX6_far 19 = .ok (.ifCond .ne 5, 3) := by decide +kernel
theorem dX6_far_22 : decode cX6_far 22 = .ok (.iconst (-1), 1) := by decide +kernel
theorem dX6_far_23 : decode cX6_far 23 = .ok (.ireturn, 1) := by decide +kernel
theorem dX6_far_24 : decode cX6_far 24 = .ok (.aload_n 0, 1) := by decide +kernel
theorem dX6_far_25 : decode cX6_far 25 = .ok (.invokevirtual 83, 3) := by decide +kernel
theorem dX6_far_28 : decode cX6_far 28 = .ok (.getfield 108, 3) := by decide +kernel
theorem dX6_far_31 : decode cX6_far 31 = .ok (.iload_n 1, 1) := by decide +kernel
theorem dX6_far_32 : decode cX6_far 32 = .ok (.iload_n 2, 1) := by decide +kernel
theorem dX6_far_33 : decode cX6_far 33 = .ok (.invokestatic 100, 3) := by decide +kernel
theorem dX6_far_36 : decode cX6_far 36 = .ok (.iaload, 1) := by decide +kernel
theorem dX6_far_37 : decode cX6_far 37 = .ok (.ireturn, 1) := by decide +kernel
theorem dX6_name_0 : decode cX6_name 0 = .ok (.aload_n 0, 1) := by decide +kernel
theorem dX6_name_1 : decode cX6_name 1 = .ok (.getfield 22, 3) := by decide +kernel
theorem dX6_name_4 : decode cX6_name 4 = .ok (.iload_n 1, 1) := by decide +kernel
theorem dX6_name_5 : decode cX6_name 5 = .ok (.invokevirtual 69, 3) := by decide +kernel
theorem dX6_name_8 : decode cX6_name 8 = .ok (.ifCond .eq 14, 3) := by decide +kernel
theorem dX6_name_11 : decode cX6_name 11 = .ok (.aload_n 0, 1) := by decide +kernel
theorem dX6_name_12 : decode cX6_name 12 = .ok (.getfield 22, 3) := by decide +kernel
theorem dX6_name_15 : decode cX6_name 15 = .ok (.iload_n 2, 1) := by decide +kernel
theorem dX6_name_16 : decode cX6_name 16 = .ok (.invokevirtual 69, 3) := by decide +kernel
theorem dX6_name_19 : decode cX6_name 19 = .ok (.ifCond .ne 5, 3) := by decide +kernel
theorem dX6_name_22 : decode cX6_name 22 = .ok (.iconst (-1), 1) := by decide +kernel
theorem dX6_name_23 : decode cX6_name 23 = .ok (.ireturn, 1) := by decide +kernel
theorem dX6_name_24 : decode cX6_name 24 = .ok (.iload_n 1, 1) := by decide +kernel
theorem dX6_name_25 : decode cX6_name 25 = .ok (.iload_n 2, 1) := by decide +kernel
theorem dX6_name_26 : decode cX6_name 26 = .ok (.if_icmp .ne 6, 3) := by decide +kernel
theorem dX6_name_29 : decode cX6_name 29 = .ok (.bipush (-2), 2) := by decide +kernel
theorem dX6_name_31 : decode cX6_name 31 = .ok (.ireturn, 1) := by decide +kernel
theorem dX6_name_32 : decode cX6_name 32 = .ok (.aload_n 0, 1) := by decide +kernel
theorem dX6_name_33 : decode cX6_name 33 = .ok (.getfield 22, 3) := by decide +kernel
theorem dX6_name_36 : decode cX6_name 36 = .ok (.iload_n 1, 1) := by decide +kernel
theorem dX6_name_37 : decode cX6_name 37 = .ok (.iload_n 2, 1) := by decide +kernel
theorem dX6_name_38 : decode cX6_name 38 = .ok (.invokevirtual 111, 3) := by decide +kernel
theorem dX6_name_41 : decode cX6_name 41 = .ok (.ifCond .eq 6, 3) := by decide +kernel
theorem dX6_name_44 : decode cX6_name 44 = .ok (.bipush (-3), 2) := by decide +kernel
theorem dX6_name_46 : decode cX6_name 46 = .ok (.ireturn, 1) := by decide +kernel
theorem dX6_name_47 : decode cX6_name 47 = .ok (.aload_n 0, 1) := by decide +kernel
theorem dX6_name_48 : decode cX6_name 48 = .ok (.iload_n 1, 1) := by decide +kernel
theorem dX6_name_49 : decode cX6_name 49 = .ok (.invokevirtual 115, 3) := by decide +kernel
theorem dX6_name_52 : decode cX6_name 52 = .ok (.ifCond .eq 11, 3) := by decide +kernel
theorem dX6_name_55 : decode cX6_name 55 = .ok (.aload_n 0, 1) := by decide +kernel
theorem dX6_name_56 : decode cX6_name 56 = .ok (.iload_n 2, 1) := by decide +kernel
theorem dX6_name_57 : decode cX6_name 57 = .ok (.invokevirtual 115, 3) := by decide +kernel
theorem dX6_name_60 : decode cX6_name 60 = .ok (.ifCond .ne 6, 3) := by decide +kernel
theorem dX6_name_63 : decode cX6_name 63 = .ok (.bipush (-4), 2) := by decide +kernel
theorem dX6_name_65 : decode cX6_name 65 = .ok (.ireturn, 1) := by decide +kernel
theorem dX6_name_66 : decode cX6_name 66 = .ok (.aload_n 0, 1) := by decide +kernel
theorem dX6_name_67 : decode cX6_name 67 = .ok (.getfield 22, 3) := by decide +kernel
theorem dX6_name_70 : decode cX6_name 70 = .ok (.iload_n 1, 1) := by decide +kernel
theorem dX6_name_71 : decode cX6_name 71 = .ok (.iload_n 2, 1) := by decide +kernel
theorem dX6_name_72 : decode cX6_name 72 = .ok (.invokevirtual 118, 3) := by decide +kernel
theorem dX6_name_75 : decode cX6_name 75 = .ok (.aload_n 0, 1) := by decide +kernel
theorem dX6_name_76 : decode cX6_name 76 = .ok (.getfield 22, 3) := by decide +kernel
theorem dX6_name_79 : decode cX6_name 79 = .ok (.getfield 90, 3) := by decide +kernel
theorem dX6_name_82 : decode cX6_name 82 = .ok (.iload_n 1, 1) := by decide +kernel
theorem dX6_name_83 : decode cX6_name 83 = .ok (.iaload, 1) := by decide +kernel
theorem dX6_name_84 : decode cX6_name 84 = .ok (.invokestatic 122, 3) := by decide +kernel
theorem dX6_name_87 : decode cX6_name 87 = .ok (.ireturn, 1) := by decide +kernel
theorem dX6_strike_0 : decode cX6_strike 0 = .ok (.aload_n 0, 1) := by decide +kernel
theorem dX6_strike_1 : decode cX6_strike 1 = .ok (.getfield 22, 3) := by decide +kernel
theorem dX6_strike_4 : decode cX6_strike 4 = .ok (.iload_n 1, 1) := by decide +kernel
theorem dX6_strike_5 : decode cX6_strike 5 = .ok (.invokevirtual 69, 3) := by decide +kernel
theorem dX6_strike_8 : decode cX6_strike 8 = .ok (.ifCond .eq 14, 3) := by decide +kernel
theorem dX6_strike_11 : decode cX6_strike 11 = .ok (.aload_n 0, 1) := by decide +kernel
theorem dX6_strike_12 : decode cX6_strike 12 = .ok (.getfield 22, 3) := by decide +kernel
theorem dX6_strike_15 : decode cX6_strike 15 = .ok (.iload_n 2, 1) := by decide +kernel
theorem dX6_strike_16 : decode cX6_strike 16 = .ok (.invokevirtual 69, 3) := by decide +kernel
theorem dX6_strike_19 : decode cX6_strike 19 = .ok (.ifCond .ne 5, 3) := by decide +kernel
theorem dX6_strike_22 : decode cX6_strike 22 = .ok (.iconst (-1), 1) := by decide +kernel
theorem dX6_strike_23 : decode cX6_strike 23 = .ok (.ireturn, 1) := by decide +kernel
theorem dX6_strike_24 : decode cX6_strike 24 = .ok (.aload_n 0, 1) := by decide +kernel
theorem dX6_strike_25 : decode cX6_strike 25 = .ok (.getfield 22, 3) := by decide +kernel
theorem dX6_strike_28 : decode cX6_strike 28 = .ok (.iload_n 1, 1) := by decide +kernel
theorem dX6_strike_29 : decode cX6_strike 29 = .ok (.iload_n 2, 1) := by decide +kernel
theorem dX6_strike_30 : decode cX6_strike 30 = .ok (.invokevirtual 111, 3) := by decide +kernel
theorem dX6_strike_33 : decode cX6_strike 33 = .ok (.ifCond .ne 6, 3) := by decide +kernel
theorem dX6_strike_36 : decode cX6_strike 36 = .ok (.bipush (-3), 2) := by decide +kernel
theorem dX6_strike_38 : decode cX6_strike 38 = .ok (.ireturn, 1) := by decide +kernel
theorem dX6_strike_39 : decode cX6_strike 39 = .ok (.aload_n 0, 1) := by decide +kernel
theorem dX6_strike_40 : decode cX6_strike 40 = .ok (.getfield 22, 3) := by decide +kernel
theorem dX6_strike_43 : decode cX6_strike 43 = .ok (.iload_n 1, 1) := by decide +kernel
theorem dX6_strike_44 : decode cX6_strike 44 = .ok (.iload_n 2, 1) := by decide +kernel
theorem dX6_strike_45 : decode cX6_strike 45 = .ok (.invokevirtual 118, 3) := by decide +kernel
theorem dX6_strike_48 : decode cX6_strike 48 = .ok (.aload_n 0, 1) := by decide +kernel
theorem dX6_strike_49 : decode cX6_strike 49 = .ok (.getfield 22, 3) := by decide +kernel
theorem dX6_strike_52 : decode cX6_strike 52 = .ok (.getfield 90, 3) := by decide +kernel
theorem dX6_strike_55 : decode cX6_strike 55 = .ok (.iload_n 1, 1) := by decide +kernel
theorem dX6_strike_56 : decode cX6_strike 56 = .ok (.iaload, 1) := by decide +kernel
theorem dX6_strike_57 : decode cX6_strike 57 = .ok (.invokestatic 122, 3) := by decide +kernel
theorem dX6_strike_60 : decode cX6_strike 60 = .ok (.ireturn, 1) := by decide +kernel
theorem dX6_traveller_0 : decode cX6_traveller 0 = .ok (.aload_n 0, 1) := by decide +kernel
theorem dX6_traveller_1 : decode cX6_traveller 1 = .ok (.getfield 22, 3) := by decide +kernel
theorem dX6_traveller_4 : decode cX6_traveller 4 = .ok (.iload_n 1, 1) := by decide +kernel
theorem dX6_traveller_5 : decode cX6_traveller 5 = .ok (.invokevirtual 69, 3) := by decide +kernel
theorem dX6_traveller_8 : decode cX6_traveller 8 = .ok (.ifCond .eq 14, 3) := by decide +kernel
theorem dX6_traveller_11 : decode cX6_traveller 11 = .ok (.aload_n 0, 1) := by decide +kernel
theorem dX6_traveller_12 : decode cX6_traveller 12 = .ok (.getfield 22, 3) := by decide +kernel
theorem dX6_traveller_15 : decode cX6_traveller 15 = .ok (.iload_n 2, 1) := by decide +kernel
theorem dX6_traveller_16 : decode cX6_traveller 16 = .ok (.invokevirtual 69, 3) := by decide +kernel
theorem dX6_traveller_19 : decode cX6_traveller 19 = .ok (.ifCond .ne 5, 3) := by decide +kernel
theorem dX6_traveller_22 : decode cX6_traveller 22 = .ok (.iconst (-1), 1) := by decide +kernel
theorem dX6_traveller_23 : decode cX6_traveller 23 = .ok (.ireturn, 1) := by decide +kernel
theorem dX6_traveller_24 : decode cX6_traveller 24 = .ok (.iload_n 1, 1) := by decide +kernel
theorem dX6_traveller_25 : decode cX6_traveller 25 = .ok (.iload_n 2, 1) := by decide +kernel
theorem dX6_traveller_26 : decode cX6_traveller 26 = .ok (.if_icmp .eq 14, 3) := by decide +kernel
theorem dX6_traveller_29 : decode cX6_traveller 29 = .ok (.iload_n 3, 1) := by decide +kernel
theorem dX6_traveller_30 : decode cX6_traveller 30 = .ok (.iconst 1, 1) := by decide +kernel
theorem dX6_traveller_31 : decode cX6_traveller 31 = .ok (.if_icmp .lt 9, 3) := by decide +kernel
theorem dX6_traveller_34 : decode cX6_traveller 34 = .ok (.iload_n 3, 1) := by decide +kernel
theorem dX6_traveller_35 : decode cX6_traveller 35 = .ok (.bipush 99, 2) := by decide +kernel
theorem dX6_traveller_37 : decode cX6_traveller 37 = .ok (.if_icmp .le 6, 3) := by decide +kernel
theorem dX6_traveller_40 : decode cX6_traveller 40 = .ok (.bipush (-2), 2) := by decide +kernel
theorem dX6_traveller_42 : decode cX6_traveller 42 = .ok (.ireturn, 1) := by decide +kernel
theorem dX6_traveller_43 : decode cX6_traveller 43 = .ok (.aload_n 0, 1) := by decide +kernel
theorem dX6_traveller_44 : decode cX6_traveller 44 = .ok (.getfield 22, 3) := by decide +kernel
theorem dX6_traveller_47 : decode cX6_traveller 47 = .ok (.getfield 127, 3) := by decide +kernel
theorem dX6_traveller_50 : decode cX6_traveller 50 = .ok (.bipush 8, 2) := by decide +kernel
theorem dX6_traveller_52 : decode cX6_traveller 52 = .ok (.if_icmp .lt 6, 3) := by decide +kernel
theorem dX6_traveller_55 : decode cX6_traveller 55 = .ok (.bipush (-4), 2) := by decide +kernel
theorem dX6_traveller_57 : decode cX6_traveller 57 = .ok (.ireturn, 1) := by decide +kernel
theorem dX6_traveller_58 : decode cX6_traveller 58 = .ok (.aload_n 0, 1) := by decide +kernel
theorem dX6_traveller_59 : decode cX6_traveller 59 = .ok (.getfield 22, 3) := by decide +kernel
theorem dX6_traveller_62 : decode cX6_traveller 62 = .ok (.iload_n 1, 1) := by decide +kernel
theorem dX6_traveller_63 : decode cX6_traveller 63 = .ok (.iload_n 2, 1) := by decide +kernel
theorem dX6_traveller_64 : decode cX6_traveller 64 = .ok (.iload_n 3, 1) := by decide +kernel
theorem dX6_traveller_65 : decode cX6_traveller 65 = .ok (.invokevirtual 130, 3) := by decide +kernel
theorem dX6_traveller_68 : decode cX6_traveller 68 = .ok (.ireturn, 1) := by decide +kernel
theorem dX6_feed_0 : decode cX6_feed 0 = .ok (.iload_n 1, 1) := by decide +kernel
theorem dX6_feed_1 : decode cX6_feed 1 = .ok (.ifCond .lt 9, 3) := by decide +kernel
theorem dX6_feed_4 : decode cX6_feed 4 = .ok (.iload_n 1, 1) := by decide +kernel
theorem dX6_feed_5 : decode cX6_feed 5 = .ok (.bipush 127, 2) := by decide +kernel
theorem dX6_feed_7 : decode cX6_feed 7 = .ok (.if_icmp .le 6, 3) := by decide +kernel
theorem dX6_feed_10 : decode cX6_feed 10 = .ok (.bipush (-2), 2) := by decide +kernel
theorem dX6_feed_12 : decode cX6_feed 12 = .ok (.ireturn, 1) := by decide +kernel
theorem dX6_feed_13 : decode cX6_feed 13 = .ok (.aload_n 0, 1) := by decide +kernel
theorem dX6_feed_14 : decode cX6_feed 14 = .ok (.getfield 43, 3) := by decide +kernel
theorem dX6_feed_17 : decode cX6_feed 17 = .ok (.getfield 133, 3) := by decide +kernel
theorem dX6_feed_20 : decode cX6_feed 20 = .ok (.bipush 100, 2) := by decide +kernel
theorem dX6_feed_22 : decode cX6_feed 22 = .ok (.if_icmp .lt 6, 3) := by decide +kernel
theorem dX6_feed_25 : decode cX6_feed 25 = .ok (.bipush (-4), 2) := by decide +kernel
theorem dX6_feed_27 : decode cX6_feed 27 = .ok (.ireturn, 1) := by decide +kernel
theorem dX6_feed_28 : decode cX6_feed 28 = .ok (.aload_n 0, 1) := by decide +kernel
theorem dX6_feed_29 : decode cX6_feed 29 = .ok (.getfield 43, 3) := by decide +kernel
theorem dX6_feed_32 : decode cX6_feed 32 = .ok (.iload_n 1, 1) := by decide +kernel
theorem dX6_feed_33 : decode cX6_feed 33 = .ok (.i2c, 1) := by decide +kernel
theorem dX6_feed_34 : decode cX6_feed 34 = .ok (.invokevirtual 136, 3) := by decide +kernel
theorem dX6_feed_37 : decode cX6_feed 37 = .ok (.ireturn, 1) := by decide +kernel
theorem dX6_land_0 : decode cX6_land 0 = .ok (.aload_n 0, 1) := by decide +kernel
theorem dX6_land_1 : decode cX6_land 1 = .ok (.getfield 140, 3) := by decide +kernel
theorem dX6_land_4 : decode cX6_land 4 = .ok (.bipush 6, 2) := by decide +kernel
theorem dX6_land_6 : decode cX6_land 6 = .ok (.if_icmp .lt 6, 3) := by decide +kernel
theorem dX6_land_9 : decode cX6_land 9 = .ok (.bipush (-4), 2) := by decide +kernel
