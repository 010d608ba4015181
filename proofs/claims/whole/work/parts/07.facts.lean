-- ===== shapes =====
def shC : List Shp := [(6, 6, [3, 13, 23, 0, 33, 38, 0, 69, 76, 78]), (6, 1, [13, 4, 5, 6, 7, 8, 9, 10, 11, 12, 0, 0, 0, 0, 0]), (0, 6, []), (0, 7, []), (0, 7, []), (0, 49, []), (0, 49, []), (0, 49, []), (0, 49, []), (1, 7, []), (1, 7, []), (6, 5, [0, 14, 15, 16, 17, 18, 0, 19, 20, 21, 0, 22, 0]), (0, 7, []), (0, 7, []), (0, 7, []), (0, 49, []), (0, 7, []), (0, 8, []), (0, 8, []), (0, 8, []), (0, 12, []), (6, 5, [0, 24, 25, 26, 27, 28, 0, 29, 30, 31, 0, 32, 0]), (0, 7, []), (0, 7, []), (0, 7, []), (0, 49, []), (0, 7, []), (0, 8, []), (0, 8, []), (0, 8, []), (0, 12, []), (6, 2, [34, 0, 35, 36, 37, 0, 0]), (0, 100, []), (0, 10, []), (0, 10, []), (0, 10, []), (4, 6, [37, 5]), (6, 2, [40, 0, 41, 42, 43, 0, 0]), (0, 100, []), (0, 10, []), (0, 10, []), (0, 10, []), (6, 2, [45, 0, 46, 47, 48, 0, 0]), (0, 100, []), (0, 10, []), (0, 10, []), (0, 10, []), (6, 2, [50, 0, 51, 52, 53, 0, 0]), (0, 100, []), (0, 10, []), (0, 10, []), (0, 10, []), (6, 2, [55, 0, 56, 57, 58, 0, 0]), (0, 100, []), (0, 10, []), (0, 10, []), (0, 10, []), (6, 2, [60, 0, 61, 62, 63, 0, 0]), (0, 100, []), (0, 10, []), (0, 10, []), (0, 10, []), (6, 2, [65, 0, 66, 67, 68, 0, 0]), (0, 100, []), (0, 10, []), (0, 10, []), (0, 10, []), (6, 3, [70, 0, 0, 1]), (2, 100, []), (6, 2, [72, 0, 73, 74, 75, 0, 0]), (0, 100, []), (0, 10, []), (0, 10, []), (0, 10, []), (6, 0, [77, 0, 0, 0, 0]), (0, 20, []), (5, 6, [77, 2]), (6, 4, [0, 0, 80]), (1, 60, []), (6, 4, [0, 0, 82]), (1, 60, []), (6, 4, [0, 0, 84]), (1, 60, []), (6, 4, [0, 0, 86]), (1, 60, []), (6, 4, [0, 0, 88]), (1, 60, []), (6, 4, [0, 0, 90]), (1, 60, [])]
theorem cqC_0 {G : Gw} (hs : gsh G = shC) : (gsh G)[0]? = some (6, 6, [3, 13, 23, 0, 33, 38, 0, 69, 76, 78]) := by rw [hs]; rfl
theorem cqC_1 {G : Gw} (hs : gsh G = shC) : (gsh G)[1]? = some (6, 1, [13, 4, 5, 6, 7, 8, 9, 10, 11, 12, 0, 0, 0, 0, 0]) := by rw [hs]; rfl
theorem cqC_2 {G : Gw} (hs : gsh G = shC) : (gsh G)[2]? = some (0, 6, []) := by rw [hs]; rfl
theorem cqC_3 {G : Gw} (hs : gsh G = shC) : (gsh G)[3]? = some (0, 7, []) := by rw [hs]; rfl
theorem cqC_4 {G : Gw} (hs : gsh G = shC) : (gsh G)[4]? = some (0, 7, []) := by rw [hs]; rfl
theorem cqC_5 {G : Gw} (hs : gsh G = shC) : (gsh G)[5]? = some (0, 49, []) := by rw [hs]; rfl
theorem cqC_6 {G : Gw} (hs : gsh G = shC) : (gsh G)[6]? = some (0, 49, []) := by rw [hs]; rfl
theorem cqC_7 {G : Gw} (hs : gsh G = shC) : (gsh G)[7]? = some (0, 49, []) := by rw [hs]; rfl
theorem cqC_8 {G : Gw} (hs : gsh G = shC) : (gsh G)[8]? = some (0, 49, []) := by rw [hs]; rfl
theorem cqC_9 {G : Gw} (hs : gsh G = shC) : (gsh G)[9]? = some (1, 7, []) := by rw [hs]; rfl
theorem cqC_10 {G : Gw} (hs : gsh G = shC) : (gsh G)[10]? = some (1, 7, []) := by rw [hs]; rfl
theorem cqC_11 {G : Gw} (hs : gsh G = shC) : (gsh G)[11]? = some (6, 5, [0, 14, 15, 16, 17, 18, 0, 19, 20, 21, 0, 22, 0]) := by rw [hs]; rfl
theorem cqC_12 {G : Gw} (hs : gsh G = shC) : (gsh G)[12]? = some (0, 7, []) := by rw [hs]; rfl
theorem cqC_13 {G : Gw} (hs : gsh G = shC) : (gsh G)[13]? = some (0, 7, []) := by rw [hs]; rfl
theorem cqC_14 {G : Gw} (hs : gsh G = shC) : (gsh G)[14]? = some (0, 7, []) := by rw [hs]; rfl
theorem cqC_15 {G : Gw} (hs : gsh G = shC) : (gsh G)[15]? = some (0, 49, []) := by rw [hs]; rfl
theorem cqC_16 {G : Gw} (hs : gsh G = shC) : (gsh G)[16]? = some (0, 7, []) := by rw [hs]; rfl
theorem cqC_17 {G : Gw} (hs : gsh G = shC) : (gsh G)[17]? = some (0, 8, []) := by rw [hs]; rfl
theorem cqC_18 {G : Gw} (hs : gsh G = shC) : (gsh G)[18]? = some (0, 8, []) := by rw [hs]; rfl
theorem cqC_19 {G : Gw} (hs : gsh G = shC) : (gsh G)[19]? = some (0, 8, []) := by rw [hs]; rfl
theorem cqC_20 {G : Gw} (hs : gsh G = shC) : (gsh G)[20]? = some (0, 12, []) := by rw [hs]; rfl
theorem cqC_21 {G : Gw} (hs : gsh G = shC) : (gsh G)[21]? = some (6, 5, [0, 24, 25, 26, 27, 28, 0, 29, 30, 31, 0, 32, 0]) := by rw [hs]; rfl
theorem cqC_22 {G : Gw} (hs : gsh G = shC) : (gsh G)[22]? = some (0, 7, []) := by rw [hs]; rfl
theorem cqC_23 {G : Gw} (hs : gsh G = shC) : (gsh G)[23]? = some (0, 7, []) := by rw [hs]; rfl
theorem cqC_24 {G : Gw} (hs : gsh G = shC) : (gsh G)[24]? = some (0, 7, []) := by rw [hs]; rfl
theorem cqC_25 {G : Gw} (hs : gsh G = shC) : (gsh G)[25]? = some (0, 49, []) := by rw [hs]; rfl
theorem cqC_26 {G : Gw} (hs : gsh G = shC) : (gsh G)[26]? = some (0, 7, []) := by rw [hs]; rfl
theorem cqC_27 {G : Gw} (hs : gsh G = shC) : (gsh G)[27]? = some (0, 8, []) := by rw [hs]; rfl
theorem cqC_28 {G : Gw} (hs : gsh G = shC) : (gsh G)[28]? = some (0, 8, []) := by rw [hs]; rfl
theorem cqC_29 {G : Gw} (hs : gsh G = shC) : (gsh G)[29]? = some (0, 8, []) := by rw [hs]; rfl
theorem cqC_30 {G : Gw} (hs : gsh G = shC) : (gsh G)[30]? = some (0, 12, []) := by rw [hs]; rfl
theorem cqC_31 {G : Gw} (hs : gsh G = shC) : (gsh G)[31]? = some (6, 2, [34, 0, 35, 36, 37, 0, 0]) := by rw [hs]; rfl
theorem cqC_32 {G : Gw} (hs : gsh G = shC) : (gsh G)[32]? = some (0, 100, []) := by rw [hs]; rfl
theorem cqC_33 {G : Gw} (hs : gsh G = shC) : (gsh G)[33]? = some (0, 10, []) := by rw [hs]; rfl
theorem cqC_34 {G : Gw} (hs : gsh G = shC) : (gsh G)[34]? = some (0, 10, []) := by rw [hs]; rfl
theorem cqC_35 {G : Gw} (hs : gsh G = shC) : (gsh G)[35]? = some (0, 10, []) := by rw [hs]; rfl
theorem cqC_36 {G : Gw} (hs : gsh G = shC) : (gsh G)[36]? = some (4, 6, [37, 5]) := by rw [hs]; rfl
theorem cqC_37 {G : Gw} (hs : gsh G = shC) : (gsh G)[37]? = some (6, 2, [40, 0, 41, 42, 43, 0, 0]) := by rw [hs]; rfl
theorem cqC_38 {G : Gw} (hs : gsh G = shC) : (gsh G)[38]? = some (0, 100, []) := by rw [hs]; rfl
theorem cqC_39 {G : Gw} (hs : gsh G = shC) : (gsh G)[39]? = some (0, 10, []) := by rw [hs]; rfl
theorem cqC_40 {G : Gw} (hs : gsh G = shC) : (gsh G)[40]? = some (0, 10, []) := by rw [hs]; rfl
theorem cqC_41 {G : Gw} (hs : gsh G = shC) : (gsh G)[41]? = some (0, 10, []) := by rw [hs]; rfl
theorem cqC_42 {G : Gw} (hs : gsh G = shC) : (gsh G)[42]? = some (6, 2, [45, 0, 46, 47, 48, 0, 0]) := by rw [hs]; rfl
theorem cqC_43 {G : Gw} (hs : gsh G = shC) : (gsh G)[43]? = some (0, 100, []) := by rw [hs]; rfl
theorem cqC_44 {G : Gw} (hs : gsh G = shC) : (gsh G)[44]? = some (0, 10, []) := by rw [hs]; rfl
theorem cqC_45 {G : Gw} (hs : gsh G = shC) : (gsh G)[45]? = some (0, 10, []) := by rw [hs]; rfl
theorem cqC_46 {G : Gw} (hs : gsh G = shC) : (gsh G)[46]? = some (0, 10, []) := by rw [hs]; rfl
theorem cqC_47 {G : Gw} (hs : gsh G = shC) : (gsh G)[47]? = some (6, 2, [50, 0, 51, 52, 53, 0, 0]) := by rw [hs]; rfl
theorem cqC_48 {G : Gw} (hs : gsh G = shC) : (gsh G)[48]? = some (0, 100, []) := by rw [hs]; rfl
theorem cqC_49 {G : Gw} (hs : gsh G = shC) : (gsh G)[49]? = some (0, 10, []) := by rw [hs]; rfl
theorem cqC_50 {G : Gw} (hs : gsh G = shC) : (gsh G)[50]? = some (0, 10, []) := by rw [hs]; rfl
theorem cqC_51 {G : Gw} (hs : gsh G = shC) : (gsh G)[51]? = some (0, 10, []) := by rw [hs]; rfl
theorem cqC_52 {G : Gw} (hs : gsh G = shC) : (gsh G)[52]? = some (6, 2, [55, 0, 56, 57, 58, 0, 0]) := by rw [hs]; rfl
theorem cqC_53 {G : Gw} (hs : gsh G = shC) : (gsh G)[53]? = some (0, 100, []) := by rw [hs]; rfl
theorem cqC_54 {G : Gw} (hs : gsh G = shC) : (gsh G)[54]? = some (0, 10, []) := by rw [hs]; rfl
theorem cqC_55 {G : Gw} (hs : gsh G = shC) : (gsh G)[55]? = some (0, 10, []) := by rw [hs]; rfl
theorem cqC_56 {G : Gw} (hs : gsh G = shC) : (gsh G)[56]? = some (0, 10, []) := by rw [hs]; rfl
theorem cqC_57 {G : Gw} (hs : gsh G = shC) : (gsh G)[57]? = some (6, 2, [60, 0, 61, 62, 63, 0, 0]) := by rw [hs]; rfl
theorem cqC_58 {G : Gw} (hs : gsh G = shC) : (gsh G)[58]? = some (0, 100, []) := by rw [hs]; rfl
theorem cqC_59 {G : Gw} (hs : gsh G = shC) : (gsh G)[59]? = some (0, 10, []) := by rw [hs]; rfl
theorem cqC_60 {G : Gw} (hs : gsh G = shC) : (gsh G)[60]? = some (0, 10, []) := by rw [hs]; rfl
theorem cqC_61 {G : Gw} (hs : gsh G = shC) : (gsh G)[61]? = some (0, 10, []) := by rw [hs]; rfl
theorem cqC_62 {G : Gw} (hs : gsh G = shC) : (gsh G)[62]? = some (6, 2, [65, 0, 66, 67, 68, 0, 0]) := by rw [hs]; rfl
theorem cqC_63 {G : Gw} (hs : gsh G = shC) : (gsh G)[63]? = some (0, 100, []) := by rw [hs]; rfl
theorem cqC_64 {G : Gw} (hs : gsh G = shC) : (gsh G)[64]? = some (0, 10, []) := by rw [hs]; rfl
theorem cqC_65 {G : Gw} (hs : gsh G = shC) : (gsh G)[65]? = some (0, 10, []) := by rw [hs]; rfl
theorem cqC_66 {G : Gw} (hs : gsh G = shC) : (gsh G)[66]? = some (0, 10, []) := by rw [hs]; rfl
theorem cqC_67 {G : Gw} (hs : gsh G = shC) : (gsh G)[67]? = some (6, 3, [70, 0, 0, 1]) := by rw [hs]; rfl
theorem cqC_68 {G : Gw} (hs : gsh G = shC) : (gsh G)[68]? = some (2, 100, []) := by rw [hs]; rfl
theorem cqC_69 {G : Gw} (hs : gsh G = shC) : (gsh G)[69]? = some (6, 2, [72, 0, 73, 74, 75, 0, 0]) := by rw [hs]; rfl
theorem cqC_70 {G : Gw} (hs : gsh G = shC) : (gsh G)[70]? = some (0, 100, []) := by rw [hs]; rfl
theorem cqC_71 {G : Gw} (hs : gsh G = shC) : (gsh G)[71]? = some (0, 10, []) := by rw [hs]; rfl
theorem cqC_72 {G : Gw} (hs : gsh G = shC) : (gsh G)[72]? = some (0, 10, []) := by rw [hs]; rfl
theorem cqC_73 {G : Gw} (hs : gsh G = shC) : (gsh G)[73]? = some (0, 10, []) := by rw [hs]; rfl
theorem cqC_74 {G : Gw} (hs : gsh G = shC) : (gsh G)[74]? = some (6, 0, [77, 0, 0, 0, 0]) := by rw [hs]; rfl
theorem cqC_75 {G : Gw} (hs : gsh G = shC) : (gsh G)[75]? = some (0, 20, []) := by rw [hs]; rfl
theorem cqC_76 {G : Gw} (hs : gsh G = shC) : (gsh G)[76]? = some (5, 6, [77, 2]) := by rw [hs]; rfl
theorem cqC_77 {G : Gw} (hs : gsh G = shC) : (gsh G)[77]? = some (6, 4, [0, 0, 80]) := by rw [hs]; rfl
theorem cqC_78 {G : Gw} (hs : gsh G = shC) : (gsh G)[78]? = some (1, 60, []) := by rw [hs]; rfl
theorem cqC_79 {G : Gw} (hs : gsh G = shC) : (gsh G)[79]? = some (6, 4, [0, 0, 82]) := by rw [hs]; rfl
theorem cqC_80 {G : Gw} (hs : gsh G = shC) : (gsh G)[80]? = some (1, 60, []) := by rw [hs]; rfl
theorem cqC_81 {G : Gw} (hs : gsh G = shC) : (gsh G)[81]? = some (6, 4, [0, 0, 84]) := by rw [hs]; rfl
theorem cqC_82 {G : Gw} (hs : gsh G = shC) : (gsh G)[82]? = some (1, 60, []) := by rw [hs]; rfl
theorem cqC_83 {G : Gw} (hs : gsh G = shC) : (gsh G)[83]? = some (6, 4, [0, 0, 86]) := by rw [hs]; rfl
theorem cqC_84 {G : Gw} (hs : gsh G = shC) : (gsh G)[84]? = some (1, 60, []) := by rw [hs]; rfl
theorem cqC_85 {G : Gw} (hs : gsh G = shC) : (gsh G)[85]? = some (6, 4, [0, 0, 88]) := by rw [hs]; rfl
theorem cqC_86 {G : Gw} (hs : gsh G = shC) : (gsh G)[86]? = some (1, 60, []) := by rw [hs]; rfl
theorem cqC_87 {G : Gw} (hs : gsh G = shC) : (gsh G)[87]? = some (6, 4, [0, 0, 90]) := by rw [hs]; rfl
theorem cqC_88 {G : Gw} (hs : gsh G = shC) : (gsh G)[88]? = some (1, 60, []) := by rw [hs]; rfl
def shM : List Shp := [(6, 7, [0, 0, 3, 4, 5, 6, 7, 8, 9, 10, 0, 0, 0, 0, 0, 11, 12, 13, 14, 15, 16, 17, 18, 0, 0, 0, 19, 20, 21, 22, 23, 24, 0, 0, 0, 0, 0, 25, 26, 0, 27, 0, 0, 0, 0, 0, 28, 29, 30, 31, 32, 33, 34, 35, 36, 0, 37, 38, 39, 40, 41]), (0, 7, []), (0, 7, []), (0, 7, []), (0, 7, []), (0, 49, []), (0, 8, []), (0, 8, []), (0, 8, []), (0, 100, []), (0, 6, []), (0, 60, []), (0, 60, []), (0, 60, []), (0, 60, []), (0, 600, []), (0, 101, []), (0, 12, []), (3, 100, []), (0, 49, []), (0, 49, []), (0, 7, []), (0, 7, []), (1, 7, []), (1, 7, []), (0, 12, []), (0, 7, []), (0, 7, []), (0, 7, []), (0, 7, []), (0, 49, []), (0, 8, []), (0, 8, []), (0, 8, []), (0, 12, []), (0, 20, []), (0, 6, []), (0, 6, []), (1, 360, []), (1, 60, [])]
theorem cqM_0 {G : Gw} (hs : gsh G = shM) : (gsh G)[0]? = some (6, 7, [0, 0, 3, 4, 5, 6, 7, 8, 9, 10, 0, 0, 0, 0, 0, 11, 12, 13, 14, 15, 16, 17, 18, 0, 0, 0, 19, 20, 21, 22, 23, 24, 0, 0, 0, 0, 0, 25, 26, 0, 27, 0, 0, 0, 0, 0, 28, 29, 30, 31, 32, 33, 34, 35, 36, 0, 37, 38, 39, 40, 41]) := by rw [hs]; rfl
theorem cqM_1 {G : Gw} (hs : gsh G = shM) : (gsh G)[1]? = some (0, 7, []) := by rw [hs]; rfl
theorem cqM_2 {G : Gw} (hs : gsh G = shM) : (gsh G)[2]? = some (0, 7, []) := by rw [hs]; rfl
theorem cqM_3 {G : Gw} (hs : gsh G = shM) : (gsh G)[3]? = some (0, 7, []) := by rw [hs]; rfl
theorem cqM_4 {G : Gw} (hs : gsh G = shM) : (gsh G)[4]? = some (0, 7, []) := by rw [hs]; rfl
theorem cqM_5 {G : Gw} (hs : gsh G = shM) : (gsh G)[5]? = some (0, 49, []) := by rw [hs]; rfl
theorem cqM_6 {G : Gw} (hs : gsh G = shM) : (gsh G)[6]? = some (0, 8, []) := by rw [hs]; rfl
theorem cqM_7 {G : Gw} (hs : gsh G = shM) : (gsh G)[7]? = some (0, 8, []) := by rw [hs]; rfl
theorem cqM_8 {G : Gw} (hs : gsh G = shM) : (gsh G)[8]? = some (0, 8, []) := by rw [hs]; rfl
theorem cqM_9 {G : Gw} (hs : gsh G = shM) : (gsh G)[9]? = some (0, 100, []) := by rw [hs]; rfl
theorem cqM_10 {G : Gw} (hs : gsh G = shM) : (gsh G)[10]? = some (0, 6, []) := by rw [hs]; rfl
theorem cqM_11 {G : Gw} (hs : gsh G = shM) : (gsh G)[11]? = some (0, 60, []) := by rw [hs]; rfl
theorem cqM_12 {G : Gw} (hs : gsh G = shM) : (gsh G)[12]? = some (0, 60, []) := by rw [hs]; rfl
theorem cqM_13 {G : Gw} (hs : gsh G = shM) : (gsh G)[13]? = some (0, 60, []) := by rw [hs]; rfl
theorem cqM_14 {G : Gw} (hs : gsh G = shM) : (gsh G)[14]? = some (0, 60, []) := by rw [hs]; rfl
theorem cqM_15 {G : Gw} (hs : gsh G = shM) : (gsh G)[15]? = some (0, 600, []) := by rw [hs]; rfl
theorem cqM_16 {G : Gw} (hs : gsh G = shM) : (gsh G)[16]? = some (0, 101, []) := by rw [hs]; rfl
theorem cqM_17 {G : Gw} (hs : gsh G = shM) : (gsh G)[17]? = some (0, 12, []) := by rw [hs]; rfl
theorem cqM_18 {G : Gw} (hs : gsh G = shM) : (gsh G)[18]? = some (3, 100, []) := by rw [hs]; rfl
theorem cqM_19 {G : Gw} (hs : gsh G = shM) : (gsh G)[19]? = some (0, 49, []) := by rw [hs]; rfl
theorem cqM_20 {G : Gw} (hs : gsh G = shM) : (gsh G)[20]? = some (0, 49, []) := by rw [hs]; rfl
theorem cqM_21 {G : Gw} (hs : gsh G = shM) : (gsh G)[21]? = some (0, 7, []) := by rw [hs]; rfl
theorem cqM_22 {G : Gw} (hs : gsh G = shM) : (gsh G)[22]? = some (0, 7, []) := by rw [hs]; rfl
theorem cqM_23 {G : Gw} (hs : gsh G = shM) : (gsh G)[23]? = some (1, 7, []) := by rw [hs]; rfl
theorem cqM_24 {G : Gw} (hs : gsh G = shM) : (gsh G)[24]? = some (1, 7, []) := by rw [hs]; rfl
theorem cqM_25 {G : Gw} (hs : gsh G = shM) : (gsh G)[25]? = some (0, 12, []) := by rw [hs]; rfl
theorem cqM_26 {G : Gw} (hs : gsh G = shM) : (gsh G)[26]? = some (0, 7, []) := by rw [hs]; rfl
theorem cqM_27 {G : Gw} (hs : gsh G = shM) : (gsh G)[27]? = some (0, 7, []) := by rw [hs]; rfl
theorem cqM_28 {G : Gw} (hs : gsh G = shM) : (gsh G)[28]? = some (0, 7, []) := by rw [hs]; rfl
theorem cqM_29 {G : Gw} (hs : gsh G = shM) : (gsh G)[29]? = some (0, 7, []) := by rw [hs]; rfl
theorem cqM_30 {G : Gw} (hs : gsh G = shM) : (gsh G)[30]? = some (0, 49, []) := by rw [hs]; rfl
theorem cqM_31 {G : Gw} (hs : gsh G = shM) : (gsh G)[31]? = some (0, 8, []) := by rw [hs]; rfl
theorem cqM_32 {G : Gw} (hs : gsh G = shM) : (gsh G)[32]? = some (0, 8, []) := by rw [hs]; rfl
theorem cqM_33 {G : Gw} (hs : gsh G = shM) : (gsh G)[33]? = some (0, 8, []) := by rw [hs]; rfl
theorem cqM_34 {G : Gw} (hs : gsh G = shM) : (gsh G)[34]? = some (0, 12, []) := by rw [hs]; rfl
theorem cqM_35 {G : Gw} (hs : gsh G = shM) : (gsh G)[35]? = some (0, 20, []) := by rw [hs]; rfl
theorem cqM_36 {G : Gw} (hs : gsh G = shM) : (gsh G)[36]? = some (0, 6, []) := by rw [hs]; rfl
theorem cqM_37 {G : Gw} (hs : gsh G = shM) : (gsh G)[37]? = some (0, 6, []) := by rw [hs]; rfl
theorem cqM_38 {G : Gw} (hs : gsh G = shM) : (gsh G)[38]? = some (1, 360, []) := by rw [hs]; rfl
theorem cqM_39 {G : Gw} (hs : gsh G = shM) : (gsh G)[39]? = some (1, 60, []) := by rw [hs]; rfl
def is_X2 (sh : List Shp) (x : Nat) : Prop := sh[x]? = some (6, 2, [x + 1 + 2, 0, x + 2 + 2, x + 3 + 2, x + 4 + 2, 0, 0]) ∧ sh[x + 1]? = some (0, 100, []) ∧ sh[x + 2]? = some (0, 10, []) ∧ sh[x + 3]? = some (0, 10, []) ∧ sh[x + 4]? = some (0, 10, [])
def is_X4 (sh : List Shp) (x : Nat) : Prop := sh[x]? = some (6, 4, [0, 0, x + 1 + 2]) ∧ sh[x + 1]? = some (1, 60, [])
def is_X5 (sh : List Shp) (x : Nat) : Prop := sh[x]? = some (6, 5, [0, x + 1 + 2, x + 2 + 2, x + 3 + 2, x + 4 + 2, x + 5 + 2, 0, x + 6 + 2, x + 7 + 2, x + 8 + 2, 0, x + 9 + 2, 0]) ∧ sh[x + 1]? = some (0, 7, []) ∧ sh[x + 2]? = some (0, 7, []) ∧ sh[x + 3]? = some (0, 7, []) ∧ sh[x + 4]? = some (0, 49, []) ∧ sh[x + 5]? = some (0, 7, []) ∧ sh[x + 6]? = some (0, 8, []) ∧ sh[x + 7]? = some (0, 8, []) ∧ sh[x + 8]? = some (0, 8, []) ∧ sh[x + 9]? = some (0, 12, [])
theorem is_X5_11 {G : Gw} (hs : gsh G = shC) : is_X5 (gsh G) 11 := ⟨cqC_11 hs, cqC_12 hs, cqC_13 hs, cqC_14 hs, cqC_15 hs, cqC_16 hs, cqC_17 hs, cqC_18 hs, cqC_19 hs, cqC_20 hs⟩
theorem is_X5_21 {G : Gw} (hs : gsh G = shC) : is_X5 (gsh G) 21 := ⟨cqC_21 hs, cqC_22 hs, cqC_23 hs, cqC_24 hs, cqC_25 hs, cqC_26 hs, cqC_27 hs, cqC_28 hs, cqC_29 hs, cqC_30 hs⟩
theorem is_X2_31 {G : Gw} (hs : gsh G = shC) : is_X2 (gsh G) 31 := ⟨cqC_31 hs, cqC_32 hs, cqC_33 hs, cqC_34 hs, cqC_35 hs⟩
theorem is_X2_37 {G : Gw} (hs : gsh G = shC) : is_X2 (gsh G) 37 := ⟨cqC_37 hs, cqC_38 hs, cqC_39 hs, cqC_40 hs, cqC_41 hs⟩
theorem is_X2_42 {G : Gw} (hs : gsh G = shC) : is_X2 (gsh G) 42 := ⟨cqC_42 hs, cqC_43 hs, cqC_44 hs, cqC_45 hs, cqC_46 hs⟩
theorem is_X2_47 {G : Gw} (hs : gsh G = shC) : is_X2 (gsh G) 47 := ⟨cqC_47 hs, cqC_48 hs, cqC_49 hs, cqC_50 hs, cqC_51 hs⟩
theorem is_X2_52 {G : Gw} (hs : gsh G = shC) : is_X2 (gsh G) 52 := ⟨cqC_52 hs, cqC_53 hs, cqC_54 hs, cqC_55 hs, cqC_56 hs⟩
theorem is_X2_57 {G : Gw} (hs : gsh G = shC) : is_X2 (gsh G) 57 := ⟨cqC_57 hs, cqC_58 hs, cqC_59 hs, cqC_60 hs, cqC_61 hs⟩
theorem is_X2_62 {G : Gw} (hs : gsh G = shC) : is_X2 (gsh G) 62 := ⟨cqC_62 hs, cqC_63 hs, cqC_64 hs, cqC_65 hs, cqC_66 hs⟩
theorem is_X2_69 {G : Gw} (hs : gsh G = shC) : is_X2 (gsh G) 69 := ⟨cqC_69 hs, cqC_70 hs, cqC_71 hs, cqC_72 hs, cqC_73 hs⟩
theorem is_X4_77 {G : Gw} (hs : gsh G = shC) : is_X4 (gsh G) 77 := ⟨cqC_77 hs, cqC_78 hs⟩
theorem is_X4_79 {G : Gw} (hs : gsh G = shC) : is_X4 (gsh G) 79 := ⟨cqC_79 hs, cqC_80 hs⟩
theorem is_X4_81 {G : Gw} (hs : gsh G = shC) : is_X4 (gsh G) 81 := ⟨cqC_81 hs, cqC_82 hs⟩
theorem is_X4_83 {G : Gw} (hs : gsh G = shC) : is_X4 (gsh G) 83 := ⟨cqC_83 hs, cqC_84 hs⟩
theorem is_X4_85 {G : Gw} (hs : gsh G = shC) : is_X4 (gsh G) 85 := ⟨cqC_85 hs, cqC_86 hs⟩
theorem is_X4_87 {G : Gw} (hs : gsh G = shC) : is_X4 (gsh G) 87 := ⟨cqC_87 hs, cqC_88 hs⟩
theorem is_X2_at {G : Gw} (hs : gsh G = shC) {i : Int32} (h : vp_in i 6) : is_X2 (gsh G) (37 + 5 * i.toNatClampNeg) := by
  have hl : i.toNatClampNeg < 6 := Nat.not_le.mp fun q => h (Or.inr q)
  generalize i.toNatClampNeg = k at hl ⊢
  match k, hl with
  | 0, _ => exact is_X2_37 hs
  | 1, _ => exact is_X2_42 hs
  | 2, _ => exact is_X2_47 hs
  | 3, _ => exact is_X2_52 hs
  | 4, _ => exact is_X2_57 hs
  | 5, _ => exact is_X2_62 hs
theorem is_X4_at {G : Gw} (hs : gsh G = shC) {i : Int32} (h : vp_in i 6) : is_X4 (gsh G) (77 + 2 * i.toNatClampNeg) := by
  have hl : i.toNatClampNeg < 6 := Nat.not_le.mp fun q => h (Or.inr q)
  generalize i.toNatClampNeg = k at hl ⊢
  match k, hl with
  | 0, _ => exact is_X4_77 hs
  | 1, _ => exact is_X4_79 hs
  | 2, _ => exact is_X4_81 hs
  | 3, _ => exact is_X4_83 hs
  | 4, _ => exact is_X4_85 hs
  | 5, _ => exact is_X4_87 hs
def isL (x : Nat) : Bool := x == 31 || x == 37 || x == 42 || x == 47 || x == 52 || x == 57 || x == 62 || x == 69
theorem isL_ok {G : Gw} (hs : gsh G = shC) {x : Nat} (h : isL x = true) : is_X2 (gsh G) x := by
  simp only [isL, Bool.or_eq_true, beq_iff_eq] at h
  rcases h with ((((((h | h) | h) | h) | h) | h) | h) | h <;> subst h
  · exact is_X2_31 hs
  · exact is_X2_37 hs
  · exact is_X2_42 hs
  · exact is_X2_47 hs
  · exact is_X2_52 hs
  · exact is_X2_57 hs
  · exact is_X2_62 hs
  · exact is_X2_69 hs
-- ===== classes, fields =====
theorem in_X0 : ∀ w ∈ u_ws RX0 TX0 5, w ∈ gw_tbl := gw_lst [225, 227, 229, 231, 233] (by decide +kernel) (by decide +kernel)
theorem in_X1 : ∀ w ∈ u_ws RX1 TX1 15, w ∈ gw_tbl := gw_lst [125, 127, 129, 131, 133, 135, 137, 139, 141, 143, 145, 147, 149, 151, 153] (by decide +kernel) (by decide +kernel)
theorem in_X2 : ∀ w ∈ u_ws RX2 TX2 7, w ∈ gw_tbl := gw_lst [173, 175, 177, 179, 181, 183, 185] (by decide +kernel) (by decide +kernel)
theorem in_X3 : ∀ w ∈ u_ws RX3 TX3 4, w ∈ gw_tbl := gw_lst [202, 204, 206, 208] (by decide +kernel) (by decide +kernel)
theorem in_X4 : ∀ w ∈ u_ws RX4 TX4 3, w ∈ gw_tbl := gw_lst [249, 251, 253] (by decide +kernel) (by decide +kernel)
theorem in_X5 : ∀ w ∈ u_ws RX5 TX5 13, w ∈ gw_tbl := gw_lst [74, 76, 78, 80, 82, 84, 86, 88, 90, 92, 94, 96, 98] (by decide +kernel) (by decide +kernel)
theorem in_X6 : ∀ w ∈ u_ws RX6 TX6 10, w ∈ gw_tbl := gw_lst [266, 268, 270, 272, 274, 276, 278, 280, 282, 284] (by decide +kernel) (by decide +kernel)
theorem in_X7 : ∀ w ∈ u_ws RX7 TX7 61, w ∈ gw_tbl := gw_lst [941, 943, 945, 947, 949, 951, 953, 955, 957, 959, 961, 963, 965, 967, 969, 971, 973, 975, 977, 979, 981, 983, 985, 987, 989, 991, 993, 995, 997, 999, 1001, 1003, 1005, 1007, 1009, 1011, 1013, 1015, 1017, 1019, 1021, 1023, 1025, 1027, 1029, 1031, 1033, 1035, 1037, 1039, 1041, 1043, 1045, 1047, 1049, 1051, 1053, 1055, 1057, 1059, 1061] (by decide +kernel) (by decide +kernel)
theorem fa_X0_11 : mjFA RX0 11 0 0 := ⟨_, _, _, rfl, in_X0, by decide, Or.inl (gw_tab (i := 218) (by decide +kernel) rfl)⟩
theorem fa_X0_15 : mjFA RX0 15 0 1 := ⟨_, _, _, rfl, in_X0, by decide, Or.inl (gw_tab (i := 220) (by decide +kernel) rfl)⟩
theorem fw_X0_15 : mjFW RX0 15 0 1 .int := ⟨_, _, _, tyX0, rfl, in_X0, by decide, Or.inl (gw_tab (i := 220) (by decide +kernel) rfl), tyX0_ok, nmX0, rfl, by decide +kernel⟩
theorem fa_X0_19 : mjFA RX0 19 0 2 := ⟨_, _, _, rfl, in_X0, by decide, Or.inl (gw_tab (i := 222) (by decide +kernel) rfl)⟩
theorem fw_X0_19 : mjFW RX0 19 0 2 .int := ⟨_, _, _, tyX0, rfl, in_X0, by decide, Or.inl (gw_tab (i := 222) (by decide +kernel) rfl), tyX0_ok, nmX0, rfl, by decide +kernel⟩
theorem fa_X0_22 : mjFA RX0 22 0 3 := ⟨_, _, _, rfl, in_X0, by decide, Or.inl (gw_tab (i := 223) (by decide +kernel) rfl)⟩
theorem fw_X0_22 : mjFW RX0 22 0 3 .int := ⟨_, _, _, tyX0, rfl, in_X0, by decide, Or.inl (gw_tab (i := 223) (by decide +kernel) rfl), tyX0_ok, nmX0, rfl, by decide +kernel⟩
theorem fa_X0_25 : mjFA RX0 25 0 4 := ⟨_, _, _, rfl, in_X0, by decide, Or.inl (gw_tab (i := 224) (by decide +kernel) rfl)⟩
theorem fw_X0_25 : mjFW RX0 25 0 4 .int := ⟨_, _, _, tyX0, rfl, in_X0, by decide, Or.inl (gw_tab (i := 224) (by decide +kernel) rfl), tyX0_ok, nmX0, rfl, by decide +kernel⟩
theorem fa_X1_12 : mjFA RX1 12 1 0 := ⟨_, _, _, rfl, in_X1, by decide, Or.inl (gw_tab (i := 102) (by decide +kernel) rfl)⟩
theorem fa_X1_18 : mjFA RX1 18 1 1 := ⟨_, _, _, rfl, in_X1, by decide, Or.inl (gw_tab (i := 104) (by decide +kernel) rfl)⟩
theorem fa_X1_22 : mjFA RX1 22 1 2 := ⟨_, _, _, rfl, in_X1, by decide, Or.inl (gw_tab (i := 105) (by decide +kernel) rfl)⟩
theorem fa_X1_25 : mjFA RX1 25 1 3 := ⟨_, _, _, rfl, in_X1, by decide, Or.inl (gw_tab (i := 107) (by decide +kernel) rfl)⟩
theorem fa_X1_28 : mjFA RX1 28 1 4 := ⟨_, _, _, rfl, in_X1, by decide, Or.inl (gw_tab (i := 108) (by decide +kernel) rfl)⟩
theorem fa_X1_31 : mjFA RX1 31 1 5 := ⟨_, _, _, rfl, in_X1, by decide, Or.inl (gw_tab (i := 110) (by decide +kernel) rfl)⟩
theorem fa_X1_34 : mjFA RX1 34 1 6 := ⟨_, _, _, rfl, in_X1, by decide, Or.inl (gw_tab (i := 112) (by decide +kernel) rfl)⟩
theorem fa_X1_37 : mjFA RX1 37 1 7 := ⟨_, _, _, rfl, in_X1, by decide, Or.inl (gw_tab (i := 114) (by decide +kernel) rfl)⟩
theorem fa_X1_40 : mjFA RX1 40 1 8 := ⟨_, _, _, rfl, in_X1, by decide, Or.inl (gw_tab (i := 116) (by decide +kernel) rfl)⟩
theorem fa_X1_44 : mjFA RX1 44 1 9 := ⟨_, _, _, rfl, in_X1, by decide, Or.inl (gw_tab (i := 117) (by decide +kernel) rfl)⟩
theorem fa_X1_47 : mjFA RX1 47 1 10 := ⟨_, _, _, rfl, in_X1, by decide, Or.inl (gw_tab (i := 118) (by decide +kernel) rfl)⟩
theorem fw_X1_47 : mjFW RX1 47 1 10 .int := ⟨_, _, _, tyX1, rfl, in_X1, by decide, Or.inl (gw_tab (i := 118) (by decide +kernel) rfl), tyX1_ok, nmX1, rfl, by decide +kernel⟩
theorem fa_X1_51 : mjFA RX1 51 5 0 := ⟨_, _, _, rfl, in_X5, by decide, Or.inr ⟨"NamesBack", lw_tab (i := 39) (by decide +kernel)⟩⟩
theorem fa_X1_58 : mjFA RX1 58 5 3 := ⟨_, _, _, rfl, in_X5, by decide, Or.inr ⟨"NamesBack", lw_tab (i := 48) (by decide +kernel)⟩⟩
theorem fa_X1_67 : mjFA RX1 67 5 4 := ⟨_, _, _, rfl, in_X5, by decide, Or.inr ⟨"NamesBack", lw_tab (i := 51) (by decide +kernel)⟩⟩
theorem fa_X1_90 : mjFA RX1 90 1 11 := ⟨_, _, _, rfl, in_X1, by decide, Or.inl (gw_tab (i := 119) (by decide +kernel) rfl)⟩
theorem fw_X1_90 : mjFW RX1 90 1 11 .int := ⟨_, _, _, tyX1, rfl, in_X1, by decide, Or.inl (gw_tab (i := 119) (by decide +kernel) rfl), tyX1_ok, nmX1, rfl, by decide +kernel⟩
theorem fa_X1_93 : mjFA RX1 93 1 12 := ⟨_, _, _, rfl, in_X1, by decide, Or.inl (gw_tab (i := 120) (by decide +kernel) rfl)⟩
theorem fw_X1_93 : mjFW RX1 93 1 12 .int := ⟨_, _, _, tyX1, rfl, in_X1, by decide, Or.inl (gw_tab (i := 120) (by decide +kernel) rfl), tyX1_ok, nmX1, rfl, by decide +kernel⟩
theorem fa_X1_99 : mjFA RX1 99 5 1 := ⟨_, _, _, rfl, in_X5, by decide, Or.inr ⟨"NamesBack", lw_tab (i := 43) (by decide +kernel)⟩⟩
theorem fa_X1_118 : mjFA RX1 118 5 2 := ⟨_, _, _, rfl, in_X5, by decide, Or.inr ⟨"NamesBack", lw_tab (i := 46) (by decide +kernel)⟩⟩
theorem fa_X1_124 : mjFA RX1 124 1 13 := ⟨_, _, _, rfl, in_X1, by decide, Or.inl (gw_tab (i := 122) (by decide +kernel) rfl)⟩
theorem fw_X1_124 : mjFW RX1 124 1 13 .int := ⟨_, _, _, tyX1, rfl, in_X1, by decide, Or.inl (gw_tab (i := 122) (by decide +kernel) rfl), tyX1_ok, nmX1, rfl, by decide +kernel⟩
theorem fa_X1_127 : mjFA RX1 127 1 14 := ⟨_, _, _, rfl, in_X1, by decide, Or.inl (gw_tab (i := 124) (by decide +kernel) rfl)⟩
theorem fw_X1_127 : mjFW RX1 127 1 14 .int := ⟨_, _, _, tyX1, rfl, in_X1, by decide, Or.inl (gw_tab (i := 124) (by decide +kernel) rfl), tyX1_ok, nmX1, rfl, by decide +kernel⟩
theorem fa_X1_130 : mjFA RX1 130 5 6 := ⟨_, _, _, rfl, in_X5, by decide, Or.inr ⟨"NamesBack", lw_tab (i := 58) (by decide +kernel)⟩⟩
theorem fa_X1_133 : mjFA RX1 133 5 7 := ⟨_, _, _, rfl, in_X5, by decide, Or.inr ⟨"NamesBack", lw_tab (i := 60) (by decide +kernel)⟩⟩
theorem fa_X1_136 : mjFA RX1 136 5 8 := ⟨_, _, _, rfl, in_X5, by decide, Or.inr ⟨"NamesBack", lw_tab (i := 63) (by decide +kernel)⟩⟩
theorem fa_X1_142 : mjFA RX1 142 5 9 := ⟨_, _, _, rfl, in_X5, by decide, Or.inr ⟨"NamesBack", lw_tab (i := 66) (by decide +kernel)⟩⟩
theorem fa_X1_161 : mjFA RX1 161 5 5 := ⟨_, _, _, rfl, in_X5, by decide, Or.inr ⟨"NamesBack", lw_tab (i := 55) (by decide +kernel)⟩⟩
theorem fa_X2_9 : mjFA RX2 9 2 0 := ⟨_, _, _, rfl, in_X2, by decide, Or.inl (gw_tab (i := 165) (by decide +kernel) rfl)⟩
theorem fa_X2_15 : mjFA RX2 15 2 2 := ⟨_, _, _, rfl, in_X2, by decide, Or.inl (gw_tab (i := 167) (by decide +kernel) rfl)⟩
theorem fa_X2_18 : mjFA RX2 18 2 3 := ⟨_, _, _, rfl, in_X2, by decide, Or.inl (gw_tab (i := 168) (by decide +kernel) rfl)⟩
theorem fa_X2_21 : mjFA RX2 21 2 4 := ⟨_, _, _, rfl, in_X2, by decide, Or.inl (gw_tab (i := 169) (by decide +kernel) rfl)⟩
theorem fw_X2_24 : mjFW RX2 24 2 6 .int := ⟨_, _, _, tyX2, rfl, in_X2, by decide, Or.inl (gw_tab (i := 171) (by decide +kernel) rfl), tyX2_ok, nmX2, rfl, by decide +kernel⟩
theorem fa_X2_28 : mjFA RX2 28 2 1 := ⟨_, _, _, rfl, in_X2, by decide, Or.inl (gw_tab (i := 166) (by decide +kernel) rfl)⟩
theorem fw_X2_28 : mjFW RX2 28 2 1 .int := ⟨_, _, _, tyX2, rfl, in_X2, by decide, Or.inl (gw_tab (i := 166) (by decide +kernel) rfl), tyX2_ok, nmX2, rfl, by decide +kernel⟩
theorem fa_X2_31 : mjFA RX2 31 2 5 := ⟨_, _, _, rfl, in_X2, by decide, Or.inl (gw_tab (i := 170) (by decide +kernel) rfl)⟩
theorem fw_X2_31 : mjFW RX2 31 2 5 .int := ⟨_, _, _, tyX2, rfl, in_X2, by decide, Or.inl (gw_tab (i := 170) (by decide +kernel) rfl), tyX2_ok, nmX2, rfl, by decide +kernel⟩
theorem fa_X3_9 : mjFA RX3 9 3 0 := ⟨_, _, _, rfl, in_X3, by decide, Or.inl (gw_tab (i := 197) (by decide +kernel) rfl)⟩
theorem fa_X3_18 : mjFA RX3 18 3 3 := ⟨_, _, _, rfl, in_X3, by decide, Or.inl (gw_tab (i := 201) (by decide +kernel) rfl)⟩
theorem fw_X3_18 : mjFW RX3 18 3 3 (.object "NamesBack$Land") := ⟨_, _, _, tyX3, rfl, in_X3, by decide, Or.inl (gw_tab (i := 201) (by decide +kernel) rfl), tyX3_ok, nmX3, rfl, by decide +kernel⟩
theorem fa_X3_22 : mjFA RX3 22 3 1 := ⟨_, _, _, rfl, in_X3, by decide, Or.inl (gw_tab (i := 198) (by decide +kernel) rfl)⟩
theorem fw_X3_22 : mjFW RX3 22 3 1 .int := ⟨_, _, _, tyX3, rfl, in_X3, by decide, Or.inl (gw_tab (i := 198) (by decide +kernel) rfl), tyX3_ok, nmX3, rfl, by decide +kernel⟩
theorem fa_X3_26 : mjFA RX3 26 3 2 := ⟨_, _, _, rfl, in_X3, by decide, Or.inl (gw_tab (i := 200) (by decide +kernel) rfl)⟩
theorem fw_X3_26 : mjFW RX3 26 3 2 .int := ⟨_, _, _, tyX3, rfl, in_X3, by decide, Or.inl (gw_tab (i := 200) (by decide +kernel) rfl), tyX3_ok, nmX3, rfl, by decide +kernel⟩
theorem fa_X4_9 : mjFA RX4 9 4 0 := ⟨_, _, _, rfl, in_X4, by decide, Or.inl (gw_tab (i := 243) (by decide +kernel) rfl)⟩
theorem fw_X4_9 : mjFW RX4 9 4 0 .int := ⟨_, _, _, tyX4, rfl, in_X4, by decide, Or.inl (gw_tab (i := 243) (by decide +kernel) rfl), tyX4_ok, nmX4, rfl, by decide +kernel⟩
theorem fa_X4_13 : mjFA RX4 13 4 2 := ⟨_, _, _, rfl, in_X4, by decide, Or.inl (gw_tab (i := 247) (by decide +kernel) rfl)⟩
theorem fa_X4_17 : mjFA RX4 17 4 1 := ⟨_, _, _, rfl, in_X4, by decide, Or.inl (gw_tab (i := 245) (by decide +kernel) rfl)⟩
theorem fw_X4_17 : mjFW RX4 17 4 1 .int := ⟨_, _, _, tyX4, rfl, in_X4, by decide, Or.inl (gw_tab (i := 245) (by decide +kernel) rfl), tyX4_ok, nmX4, rfl, by decide +kernel⟩
theorem fa_X5_9 : mjFA RX5 9 5 1 := ⟨_, _, _, rfl, in_X5, by decide, Or.inl (gw_tab (i := 41) (by decide +kernel) rfl)⟩
theorem fa_X5_15 : mjFA RX5 15 5 2 := ⟨_, _, _, rfl, in_X5, by decide, Or.inl (gw_tab (i := 44) (by decide +kernel) rfl)⟩
theorem fa_X5_18 : mjFA RX5 18 5 3 := ⟨_, _, _, rfl, in_X5, by decide, Or.inl (gw_tab (i := 47) (by decide +kernel) rfl)⟩
theorem fa_X5_21 : mjFA RX5 21 5 4 := ⟨_, _, _, rfl, in_X5, by decide, Or.inl (gw_tab (i := 50) (by decide +kernel) rfl)⟩
theorem fa_X5_24 : mjFA RX5 24 5 5 := ⟨_, _, _, rfl, in_X5, by decide, Or.inl (gw_tab (i := 53) (by decide +kernel) rfl)⟩
theorem fa_X5_27 : mjFA RX5 27 5 7 := ⟨_, _, _, rfl, in_X5, by decide, Or.inl (gw_tab (i := 59) (by decide +kernel) rfl)⟩
theorem fa_X5_30 : mjFA RX5 30 5 8 := ⟨_, _, _, rfl, in_X5, by decide, Or.inl (gw_tab (i := 62) (by decide +kernel) rfl)⟩
theorem fa_X5_33 : mjFA RX5 33 5 9 := ⟨_, _, _, rfl, in_X5, by decide, Or.inl (gw_tab (i := 65) (by decide +kernel) rfl)⟩
theorem fa_X5_36 : mjFA RX5 36 5 11 := ⟨_, _, _, rfl, in_X5, by decide, Or.inl (gw_tab (i := 70) (by decide +kernel) rfl)⟩
theorem fa_X5_39 : mjFA RX5 39 5 12 := ⟨_, _, _, rfl, in_X5, by decide, Or.inl (gw_tab (i := 72) (by decide +kernel) rfl)⟩
theorem fw_X5_39 : mjFW RX5 39 5 12 .int := ⟨_, _, _, tyX5, rfl, in_X5, by decide, Or.inl (gw_tab (i := 72) (by decide +kernel) rfl), tyX5_ok, nmX5, rfl, by decide +kernel⟩
theorem fa_X5_43 : mjFA RX5 43 5 0 := ⟨_, _, _, rfl, in_X5, by decide, Or.inl (gw_tab (i := 38) (by decide +kernel) rfl)⟩
theorem fw_X5_43 : mjFW RX5 43 5 0 .int := ⟨_, _, _, tyX5, rfl, in_X5, by decide, Or.inl (gw_tab (i := 38) (by decide +kernel) rfl), tyX5_ok, nmX5, rfl, by decide +kernel⟩
theorem fa_X5_46 : mjFA RX5 46 5 6 := ⟨_, _, _, rfl, in_X5, by decide, Or.inl (gw_tab (i := 56) (by decide +kernel) rfl)⟩
theorem fw_X5_46 : mjFW RX5 46 5 6 .int := ⟨_, _, _, tyX5, rfl, in_X5, by decide, Or.inl (gw_tab (i := 56) (by decide +kernel) rfl), tyX5_ok, nmX5, rfl, by decide +kernel⟩
theorem fa_X5_68 : mjFA RX5 68 5 10 := ⟨_, _, _, rfl, in_X5, by decide, Or.inl (gw_tab (i := 68) (by decide +kernel) rfl)⟩
theorem fw_X5_68 : mjFW RX5 68 5 10 .int := ⟨_, _, _, tyX5, rfl, in_X5, by decide, Or.inl (gw_tab (i := 68) (by decide +kernel) rfl), tyX5_ok, nmX5, rfl, by decide +kernel⟩
theorem fa_X6_12 : mjFA RX6 12 6 0 := ⟨_, _, _, rfl, in_X6, by decide, Or.inl (gw_tab (i := 256) (by decide +kernel) rfl)⟩
theorem fa_X6_22 : mjFA RX6 22 6 1 := ⟨_, _, _, rfl, in_X6, by decide, Or.inl (gw_tab (i := 257) (by decide +kernel) rfl)⟩
theorem fa_X6_26 : mjFA RX6 26 6 2 := ⟨_, _, _, rfl, in_X6, by decide, Or.inl (gw_tab (i := 258) (by decide +kernel) rfl)⟩
theorem fa_X6_32 : mjFA RX6 32 6 4 := ⟨_, _, _, rfl, in_X6, by decide, Or.inl (gw_tab (i := 260) (by decide +kernel) rfl)⟩
theorem fa_X6_36 : mjFA RX6 36 6 5 := ⟨_, _, _, rfl, in_X6, by decide, Or.inl (gw_tab (i := 261) (by decide +kernel) rfl)⟩
theorem fa_X6_43 : mjFA RX6 43 6 7 := ⟨_, _, _, rfl, in_X6, by decide, Or.inl (gw_tab (i := 263) (by decide +kernel) rfl)⟩
theorem fa_X6_50 : mjFA RX6 50 6 8 := ⟨_, _, _, rfl, in_X6, by decide, Or.inl (gw_tab (i := 264) (by decide +kernel) rfl)⟩
theorem fa_X6_56 : mjFA RX6 56 6 9 := ⟨_, _, _, rfl, in_X6, by decide, Or.inl (gw_tab (i := 265) (by decide +kernel) rfl)⟩
theorem fa_X6_61 : mjFA RX6 61 5 0 := ⟨_, _, _, rfl, in_X5, by decide, Or.inr ⟨"NamesBack", lw_tab (i := 40) (by decide +kernel)⟩⟩
theorem fa_X6_73 : mjFA RX6 73 5 1 := ⟨_, _, _, rfl, in_X5, by decide, Or.inr ⟨"NamesBack", lw_tab (i := 42) (by decide +kernel)⟩⟩
theorem fa_X6_77 : mjFA RX6 77 5 2 := ⟨_, _, _, rfl, in_X5, by decide, Or.inr ⟨"NamesBack", lw_tab (i := 45) (by decide +kernel)⟩⟩
theorem fa_X6_80 : mjFA RX6 80 5 3 := ⟨_, _, _, rfl, in_X5, by decide, Or.inr ⟨"NamesBack", lw_tab (i := 49) (by decide +kernel)⟩⟩
theorem fa_X6_87 : mjFA RX6 87 1 2 := ⟨_, _, _, rfl, in_X1, by decide, Or.inr ⟨"NamesBack", lw_tab (i := 106) (by decide +kernel)⟩⟩
theorem fa_X6_90 : mjFA RX6 90 5 5 := ⟨_, _, _, rfl, in_X5, by decide, Or.inr ⟨"NamesBack", lw_tab (i := 54) (by decide +kernel)⟩⟩
theorem fa_X6_97 : mjFA RX6 97 5 4 := ⟨_, _, _, rfl, in_X5, by decide, Or.inr ⟨"NamesBack", lw_tab (i := 52) (by decide +kernel)⟩⟩
theorem fa_X6_108 : mjFA RX6 108 1 4 := ⟨_, _, _, rfl, in_X1, by decide, Or.inr ⟨"NamesBack", lw_tab (i := 109) (by decide +kernel)⟩⟩
theorem fa_X6_127 : mjFA RX6 127 5 6 := ⟨_, _, _, rfl, in_X5, by decide, Or.inr ⟨"NamesBack", lw_tab (i := 57) (by decide +kernel)⟩⟩
theorem fa_X6_133 : mjFA RX6 133 3 1 := ⟨_, _, _, rfl, in_X3, by decide, Or.inr ⟨"NamesBack", lw_tab (i := 199) (by decide +kernel)⟩⟩
theorem fa_X6_140 : mjFA RX6 140 6 6 := ⟨_, _, _, rfl, in_X6, by decide, Or.inl (gw_tab (i := 262) (by decide +kernel) rfl)⟩
theorem fw_X6_140 : mjFW RX6 140 6 6 .int := ⟨_, _, _, tyX6, rfl, in_X6, by decide, Or.inl (gw_tab (i := 262) (by decide +kernel) rfl), tyX6_ok, nmX6, rfl, by decide +kernel⟩
theorem fa_X6_150 : mjFA RX6 150 5 12 := ⟨_, _, _, rfl, in_X5, by decide, Or.inr ⟨"NamesBack", lw_tab (i := 73) (by decide +kernel)⟩⟩
theorem fw_X6_150 : mjFW RX6 150 5 12 .int := ⟨_, _, _, tyX5, rfl, in_X5, by decide, Or.inr ⟨"NamesBack", lw_tab (i := 73) (by decide +kernel)⟩, tyX5_ok, nmX5, rfl, by decide +kernel⟩
theorem fa_X6_157 : mjFA RX6 157 2 6 := ⟨_, _, _, rfl, in_X2, by decide, Or.inr ⟨"NamesBack", lw_tab (i := 172) (by decide +kernel)⟩⟩
theorem fa_X6_167 : mjFA RX6 167 1 5 := ⟨_, _, _, rfl, in_X1, by decide, Or.inr ⟨"NamesBack", lw_tab (i := 111) (by decide +kernel)⟩⟩
theorem fa_X6_170 : mjFA RX6 170 1 6 := ⟨_, _, _, rfl, in_X1, by decide, Or.inr ⟨"NamesBack", lw_tab (i := 113) (by decide +kernel)⟩⟩
theorem fa_X6_173 : mjFA RX6 173 1 7 := ⟨_, _, _, rfl, in_X1, by decide, Or.inr ⟨"NamesBack", lw_tab (i := 115) (by decide +kernel)⟩⟩
theorem fa_X6_182 : mjFA RX6 182 1 14 := ⟨_, _, _, rfl, in_X1, by decide, Or.inr ⟨"NamesBack", lw_tab (i := 123) (by decide +kernel)⟩⟩
theorem fa_X6_185 : mjFA RX6 185 1 13 := ⟨_, _, _, rfl, in_X1, by decide, Or.inr ⟨"NamesBack", lw_tab (i := 121) (by decide +kernel)⟩⟩
theorem fa_X6_216 : mjFA RX6 216 5 7 := ⟨_, _, _, rfl, in_X5, by decide, Or.inr ⟨"NamesBack", lw_tab (i := 61) (by decide +kernel)⟩⟩
theorem fa_X6_219 : mjFA RX6 219 5 8 := ⟨_, _, _, rfl, in_X5, by decide, Or.inr ⟨"NamesBack", lw_tab (i := 64) (by decide +kernel)⟩⟩
theorem fa_X6_222 : mjFA RX6 222 5 9 := ⟨_, _, _, rfl, in_X5, by decide, Or.inr ⟨"NamesBack", lw_tab (i := 67) (by decide +kernel)⟩⟩
theorem fa_X6_237 : mjFA RX6 237 5 10 := ⟨_, _, _, rfl, in_X5, by decide, Or.inr ⟨"NamesBack", lw_tab (i := 69) (by decide +kernel)⟩⟩
theorem fw_X6_237 : mjFW RX6 237 5 10 .int := ⟨_, _, _, tyX5, rfl, in_X5, by decide, Or.inr ⟨"NamesBack", lw_tab (i := 69) (by decide +kernel)⟩, tyX5_ok, nmX5, rfl, by decide +kernel⟩
theorem fa_X6_240 : mjFA RX6 240 5 11 := ⟨_, _, _, rfl, in_X5, by decide, Or.inr ⟨"NamesBack", lw_tab (i := 71) (by decide +kernel)⟩⟩
theorem fa_X6_246 : mjFA RX6 246 4 0 := ⟨_, _, _, rfl, in_X4, by decide, Or.inr ⟨"NamesBack", lw_tab (i := 244) (by decide +kernel)⟩⟩
theorem fa_X6_249 : mjFA RX6 249 4 1 := ⟨_, _, _, rfl, in_X4, by decide, Or.inr ⟨"NamesBack", lw_tab (i := 246) (by decide +kernel)⟩⟩
theorem fa_X6_250 : mjFA RX6 250 4 2 := ⟨_, _, _, rfl, in_X4, by decide, Or.inr ⟨"NamesBack", lw_tab (i := 248) (by decide +kernel)⟩⟩
theorem fa_X6_258 : mjFA RX6 258 6 3 := ⟨_, _, _, rfl, in_X6, by decide, Or.inl (gw_tab (i := 259) (by decide +kernel) rfl)⟩
theorem fw_X6_258 : mjFW RX6 258 6 3 .boolean := ⟨_, _, _, tyX6, rfl, in_X6, by decide, Or.inl (gw_tab (i := 259) (by decide +kernel) rfl), tyX6_ok, nmX6, rfl, by decide +kernel⟩
theorem fa_X6_276 : mjFA RX6 276 0 1 := ⟨_, _, _, rfl, in_X0, by decide, Or.inr ⟨"NamesBack", lw_tab (i := 221) (by decide +kernel)⟩⟩
theorem fa_X6_279 : mjFA RX6 279 0 0 := ⟨_, _, _, rfl, in_X0, by decide, Or.inr ⟨"NamesBack", lw_tab (i := 219) (by decide +kernel)⟩⟩
theorem fa_X7_7 : mjFA RX7 7 7 0 := ⟨_, _, _, rfl, in_X7, by decide, Or.inl (gw_tab (i := 880) (by decide +kernel) rfl)⟩
theorem fw_X7_7 : mjFW RX7 7 7 0 .int := ⟨_, _, _, tyX7, rfl, in_X7, by decide, Or.inl (gw_tab (i := 880) (by decide +kernel) rfl), tyX7_ok, nmX7, rfl, by decide +kernel⟩
theorem fa_X7_13 : mjFA RX7 13 7 1 := ⟨_, _, _, rfl, in_X7, by decide, Or.inl (gw_tab (i := 881) (by decide +kernel) rfl)⟩
theorem fw_X7_13 : mjFW RX7 13 7 1 .int := ⟨_, _, _, tyX7, rfl, in_X7, by decide, Or.inl (gw_tab (i := 881) (by decide +kernel) rfl), tyX7_ok, nmX7, rfl, by decide +kernel⟩
theorem fa_X7_16 : mjFA RX7 16 7 2 := ⟨_, _, _, rfl, in_X7, by decide, Or.inl (gw_tab (i := 882) (by decide +kernel) rfl)⟩
theorem fa_X7_20 : mjFA RX7 20 7 3 := ⟨_, _, _, rfl, in_X7, by decide, Or.inl (gw_tab (i := 883) (by decide +kernel) rfl)⟩
theorem fa_X7_23 : mjFA RX7 23 7 4 := ⟨_, _, _, rfl, in_X7, by decide, Or.inl (gw_tab (i := 884) (by decide +kernel) rfl)⟩
theorem fa_X7_26 : mjFA RX7 26 7 5 := ⟨_, _, _, rfl, in_X7, by decide, Or.inl (gw_tab (i := 885) (by decide +kernel) rfl)⟩
theorem fa_X7_29 : mjFA RX7 29 7 6 := ⟨_, _, _, rfl, in_X7, by decide, Or.inl (gw_tab (i := 886) (by decide +kernel) rfl)⟩
theorem fa_X7_32 : mjFA RX7 32 7 7 := ⟨_, _, _, rfl, in_X7, by decide, Or.inl (gw_tab (i := 887) (by decide +kernel) rfl)⟩
theorem fa_X7_35 : mjFA RX7 35 7 8 := ⟨_, _, _, rfl, in_X7, by decide, Or.inl (gw_tab (i := 888) (by decide +kernel) rfl)⟩
theorem fa_X7_38 : mjFA RX7 38 7 9 := ⟨_, _, _, rfl, in_X7, by decide, Or.inl (gw_tab (i := 889) (by decide +kernel) rfl)⟩
theorem fa_X7_41 : mjFA RX7 41 7 10 := ⟨_, _, _, rfl, in_X7, by decide, Or.inl (gw_tab (i := 890) (by decide +kernel) rfl)⟩
theorem fw_X7_41 : mjFW RX7 41 7 10 .int := ⟨_, _, _, tyX7, rfl, in_X7, by decide, Or.inl (gw_tab (i := 890) (by decide +kernel) rfl), tyX7_ok, nmX7, rfl, by decide +kernel⟩
theorem fa_X7_44 : mjFA RX7 44 7 11 := ⟨_, _, _, rfl, in_X7, by decide, Or.inl (gw_tab (i := 891) (by decide +kernel) rfl)⟩
theorem fw_X7_44 : mjFW RX7 44 7 11 .int := ⟨_, _, _, tyX7, rfl, in_X7, by decide, Or.inl (gw_tab (i := 891) (by decide +kernel) rfl), tyX7_ok, nmX7, rfl, by decide +kernel⟩
theorem fa_X7_47 : mjFA RX7 47 7 12 := ⟨_, _, _, rfl, in_X7, by decide, Or.inl (gw_tab (i := 892) (by decide +kernel) rfl)⟩
theorem fw_X7_47 : mjFW RX7 47 7 12 .int := ⟨_, _, _, tyX7, rfl, in_X7, by decide, Or.inl (gw_tab (i := 892) (by decide +kernel) rfl), tyX7_ok, nmX7, rfl, by decide +kernel⟩
theorem fa_X7_50 : mjFA RX7 50 7 13 := ⟨_, _, _, rfl, in_X7, by decide, Or.inl (gw_tab (i := 893) (by decide +kernel) rfl)⟩
theorem fw_X7_50 : mjFW RX7 50 7 13 .int := ⟨_, _, _, tyX7, rfl, in_X7, by decide, Or.inl (gw_tab (i := 893) (by decide +kernel) rfl), tyX7_ok, nmX7, rfl, by decide +kernel⟩
theorem fa_X7_53 : mjFA RX7 53 7 14 := ⟨_, _, _, rfl, in_X7, by decide, Or.inl (gw_tab (i := 894) (by decide +kernel) rfl)⟩
theorem fw_X7_53 : mjFW RX7 53 7 14 .int := ⟨_, _, _, tyX7, rfl, in_X7, by decide, Or.inl (gw_tab (i := 894) (by decide +kernel) rfl), tyX7_ok, nmX7, rfl, by decide +kernel⟩
theorem fa_X7_56 : mjFA RX7 56 7 15 := ⟨_, _, _, rfl, in_X7, by decide, Or.inl (gw_tab (i := 895) (by decide +kernel) rfl)⟩
theorem fa_X7_59 : mjFA RX7 59 7 16 := ⟨_, _, _, rfl, in_X7, by decide, Or.inl (gw_tab (i := 896) (by decide +kernel) rfl)⟩
theorem fa_X7_62 : mjFA RX7 62 7 17 := ⟨_, _, _, rfl, in_X7, by decide, Or.inl (gw_tab (i := 897) (by decide +kernel) rfl)⟩
theorem fa_X7_65 : mjFA RX7 65 7 18 := ⟨_, _, _, rfl, in_X7, by decide, Or.inl (gw_tab (i := 898) (by decide +kernel) rfl)⟩
theorem fa_X7_68 : mjFA RX7 68 7 19 := ⟨_, _, _, rfl, in_X7, by decide, Or.inl (gw_tab (i := 899) (by decide +kernel) rfl)⟩
theorem fa_X7_71 : mjFA RX7 71 7 20 := ⟨_, _, _, rfl, in_X7, by decide, Or.inl (gw_tab (i := 900) (by decide +kernel) rfl)⟩
theorem fa_X7_74 : mjFA RX7 74 7 21 := ⟨_, _, _, rfl, in_X7, by decide, Or.inl (gw_tab (i := 901) (by decide +kernel) rfl)⟩
theorem fa_X7_77 : mjFA RX7 77 7 22 := ⟨_, _, _, rfl, in_X7, by decide, Or.inl (gw_tab (i := 902) (by decide +kernel) rfl)⟩
theorem fa_X7_80 : mjFA RX7 80 7 23 := ⟨_, _, _, rfl, in_X7, by decide, Or.inl (gw_tab (i := 903) (by decide +kernel) rfl)⟩
theorem fw_X7_80 : mjFW RX7 80 7 23 .int := ⟨_, _, _, tyX7, rfl, in_X7, by decide, Or.inl (gw_tab (i := 903) (by decide +kernel) rfl), tyX7_ok, nmX7, rfl, by decide +kernel⟩
theorem fa_X7_83 : mjFA RX7 83 7 24 := ⟨_, _, _, rfl, in_X7, by decide, Or.inl (gw_tab (i := 904) (by decide +kernel) rfl)⟩
theorem fw_X7_83 : mjFW RX7 83 7 24 .int := ⟨_, _, _, tyX7, rfl, in_X7, by decide, Or.inl (gw_tab (i := 904) (by decide +kernel) rfl), tyX7_ok, nmX7, rfl, by decide +kernel⟩
theorem fa_X7_86 : mjFA RX7 86 7 25 := ⟨_, _, _, rfl, in_X7, by decide, Or.inl (gw_tab (i := 905) (by decide +kernel) rfl)⟩
theorem fw_X7_86 : mjFW RX7 86 7 25 .int := ⟨_, _, _, tyX7, rfl, in_X7, by decide, Or.inl (gw_tab (i := 905) (by decide +kernel) rfl), tyX7_ok, nmX7, rfl, by decide +kernel⟩
theorem fa_X7_89 : mjFA RX7 89 7 26 := ⟨_, _, _, rfl, in_X7, by decide, Or.inl (gw_tab (i := 906) (by decide +kernel) rfl)⟩
theorem fa_X7_92 : mjFA RX7 92 7 27 := ⟨_, _, _, rfl, in_X7, by decide, Or.inl (gw_tab (i := 907) (by decide +kernel) rfl)⟩
theorem fa_X7_96 : mjFA RX7 96 7 28 := ⟨_, _, _, rfl, in_X7, by decide, Or.inl (gw_tab (i := 908) (by decide +kernel) rfl)⟩
theorem fa_X7_99 : mjFA RX7 99 7 29 := ⟨_, _, _, rfl, in_X7, by decide, Or.inl (gw_tab (i := 909) (by decide +kernel) rfl)⟩
theorem fa_X7_102 : mjFA RX7 102 7 30 := ⟨_, _, _, rfl, in_X7, by decide, Or.inl (gw_tab (i := 910) (by decide +kernel) rfl)⟩
theorem fa_X7_105 : mjFA RX7 105 7 31 := ⟨_, _, _, rfl, in_X7, by decide, Or.inl (gw_tab (i := 911) (by decide +kernel) rfl)⟩
theorem fa_X7_108 : mjFA RX7 108 7 32 := ⟨_, _, _, rfl, in_X7, by decide, Or.inl (gw_tab (i := 912) (by decide +kernel) rfl)⟩
theorem fw_X7_108 : mjFW RX7 108 7 32 .int := ⟨_, _, _, tyX7, rfl, in_X7, by decide, Or.inl (gw_tab (i := 912) (by decide +kernel) rfl), tyX7_ok, nmX7, rfl, by decide +kernel⟩
theorem fa_X7_111 : mjFA RX7 111 7 33 := ⟨_, _, _, rfl, in_X7, by decide, Or.inl (gw_tab (i := 913) (by decide +kernel) rfl)⟩
theorem fw_X7_111 : mjFW RX7 111 7 33 .int := ⟨_, _, _, tyX7, rfl, in_X7, by decide, Or.inl (gw_tab (i := 913) (by decide +kernel) rfl), tyX7_ok, nmX7, rfl, by decide +kernel⟩
theorem fa_X7_114 : mjFA RX7 114 7 34 := ⟨_, _, _, rfl, in_X7, by decide, Or.inl (gw_tab (i := 914) (by decide +kernel) rfl)⟩
theorem fw_X7_114 : mjFW RX7 114 7 34 .int := ⟨_, _, _, tyX7, rfl, in_X7, by decide, Or.inl (gw_tab (i := 914) (by decide +kernel) rfl), tyX7_ok, nmX7, rfl, by decide +kernel⟩
theorem fa_X7_117 : mjFA RX7 117 7 35 := ⟨_, _, _, rfl, in_X7, by decide, Or.inl (gw_tab (i := 915) (by decide +kernel) rfl)⟩
theorem fw_X7_117 : mjFW RX7 117 7 35 .int := ⟨_, _, _, tyX7, rfl, in_X7, by decide, Or.inl (gw_tab (i := 915) (by decide +kernel) rfl), tyX7_ok, nmX7, rfl, by decide +kernel⟩
theorem fa_X7_120 : mjFA RX7 120 7 36 := ⟨_, _, _, rfl, in_X7, by decide, Or.inl (gw_tab (i := 916) (by decide +kernel) rfl)⟩
theorem fw_X7_120 : mjFW RX7 120 7 36 .int := ⟨_, _, _, tyX7, rfl, in_X7, by decide, Or.inl (gw_tab (i := 916) (by decide +kernel) rfl), tyX7_ok, nmX7, rfl, by decide +kernel⟩
theorem fa_X7_123 : mjFA RX7 123 7 37 := ⟨_, _, _, rfl, in_X7, by decide, Or.inl (gw_tab (i := 917) (by decide +kernel) rfl)⟩
theorem fa_X7_127 : mjFA RX7 127 7 38 := ⟨_, _, _, rfl, in_X7, by decide, Or.inl (gw_tab (i := 918) (by decide +kernel) rfl)⟩
theorem fa_X7_130 : mjFA RX7 130 7 39 := ⟨_, _, _, rfl, in_X7, by decide, Or.inl (gw_tab (i := 919) (by decide +kernel) rfl)⟩
theorem fw_X7_130 : mjFW RX7 130 7 39 .int := ⟨_, _, _, tyX7, rfl, in_X7, by decide, Or.inl (gw_tab (i := 919) (by decide +kernel) rfl), tyX7_ok, nmX7, rfl, by decide +kernel⟩
theorem fa_X7_133 : mjFA RX7 133 7 40 := ⟨_, _, _, rfl, in_X7, by decide, Or.inl (gw_tab (i := 920) (by decide +kernel) rfl)⟩
theorem fa_X7_136 : mjFA RX7 136 7 41 := ⟨_, _, _, rfl, in_X7, by decide, Or.inl (gw_tab (i := 921) (by decide +kernel) rfl)⟩
theorem fw_X7_136 : mjFW RX7 136 7 41 .boolean := ⟨_, _, _, tyX7, rfl, in_X7, by decide, Or.inl (gw_tab (i := 921) (by decide +kernel) rfl), tyX7_ok, nmX7, rfl, by decide +kernel⟩
theorem fa_X7_140 : mjFA RX7 140 7 42 := ⟨_, _, _, rfl, in_X7, by decide, Or.inl (gw_tab (i := 922) (by decide +kernel) rfl)⟩
theorem fw_X7_140 : mjFW RX7 140 7 42 .int := ⟨_, _, _, tyX7, rfl, in_X7, by decide, Or.inl (gw_tab (i := 922) (by decide +kernel) rfl), tyX7_ok, nmX7, rfl, by decide +kernel⟩
theorem fa_X7_143 : mjFA RX7 143 7 43 := ⟨_, _, _, rfl, in_X7, by decide, Or.inl (gw_tab (i := 923) (by decide +kernel) rfl)⟩
theorem fw_X7_143 : mjFW RX7 143 7 43 .int := ⟨_, _, _, tyX7, rfl, in_X7, by decide, Or.inl (gw_tab (i := 923) (by decide +kernel) rfl), tyX7_ok, nmX7, rfl, by decide +kernel⟩
theorem fa_X7_146 : mjFA RX7 146 7 44 := ⟨_, _, _, rfl, in_X7, by decide, Or.inl (gw_tab (i := 924) (by decide +kernel) rfl)⟩
theorem fw_X7_146 : mjFW RX7 146 7 44 .int := ⟨_, _, _, tyX7, rfl, in_X7, by decide, Or.inl (gw_tab (i := 924) (by decide +kernel) rfl), tyX7_ok, nmX7, rfl, by decide +kernel⟩
theorem fa_X7_149 : mjFA RX7 149 7 45 := ⟨_, _, _, rfl, in_X7, by decide, Or.inl (gw_tab (i := 925) (by decide +kernel) rfl)⟩
theorem fw_X7_149 : mjFW RX7 149 7 45 .int := ⟨_, _, _, tyX7, rfl, in_X7, by decide, Or.inl (gw_tab (i := 925) (by decide +kernel) rfl), tyX7_ok, nmX7, rfl, by decide +kernel⟩
theorem fa_X7_152 : mjFA RX7 152 7 46 := ⟨_, _, _, rfl, in_X7, by decide, Or.inl (gw_tab (i := 926) (by decide +kernel) rfl)⟩
theorem fa_X7_155 : mjFA RX7 155 7 47 := ⟨_, _, _, rfl, in_X7, by decide, Or.inl (gw_tab (i := 927) (by decide +kernel) rfl)⟩
theorem fa_X7_158 : mjFA RX7 158 7 48 := ⟨_, _, _, rfl, in_X7, by decide, Or.inl (gw_tab (i := 928) (by decide +kernel) rfl)⟩
theorem fa_X7_161 : mjFA RX7 161 7 49 := ⟨_, _, _, rfl, in_X7, by decide, Or.inl (gw_tab (i := 929) (by decide +kernel) rfl)⟩
theorem fa_X7_164 : mjFA RX7 164 7 50 := ⟨_, _, _, rfl, in_X7, by decide, Or.inl (gw_tab (i := 930) (by decide +kernel) rfl)⟩
theorem fa_X7_167 : mjFA RX7 167 7 51 := ⟨_, _, _, rfl, in_X7, by decide, Or.inl (gw_tab (i := 931) (by decide +kernel) rfl)⟩
theorem fa_X7_170 : mjFA RX7 170 7 52 := ⟨_, _, _, rfl, in_X7, by decide, Or.inl (gw_tab (i := 932) (by decide +kernel) rfl)⟩
theorem fa_X7_173 : mjFA RX7 173 7 53 := ⟨_, _, _, rfl, in_X7, by decide, Or.inl (gw_tab (i := 933) (by decide +kernel) rfl)⟩
theorem fa_X7_176 : mjFA RX7 176 7 54 := ⟨_, _, _, rfl, in_X7, by decide, Or.inl (gw_tab (i := 934) (by decide +kernel) rfl)⟩
theorem fa_X7_179 : mjFA RX7 179 7 55 := ⟨_, _, _, rfl, in_X7, by decide, Or.inl (gw_tab (i := 935) (by decide +kernel) rfl)⟩
theorem fw_X7_179 : mjFW RX7 179 7 55 .int := ⟨_, _, _, tyX7, rfl, in_X7, by decide, Or.inl (gw_tab (i := 935) (by decide +kernel) rfl), tyX7_ok, nmX7, rfl, by decide +kernel⟩
theorem fa_X7_182 : mjFA RX7 182 7 56 := ⟨_, _, _, rfl, in_X7, by decide, Or.inl (gw_tab (i := 936) (by decide +kernel) rfl)⟩
theorem fa_X7_185 : mjFA RX7 185 7 57 := ⟨_, _, _, rfl, in_X7, by decide, Or.inl (gw_tab (i := 937) (by decide +kernel) rfl)⟩
theorem fa_X7_188 : mjFA RX7 188 7 58 := ⟨_, _, _, rfl, in_X7, by decide, Or.inl (gw_tab (i := 938) (by decide +kernel) rfl)⟩
theorem fa_X7_191 : mjFA RX7 191 7 59 := ⟨_, _, _, rfl, in_X7, by decide, Or.inl (gw_tab (i := 939) (by decide +kernel) rfl)⟩
theorem fa_X7_194 : mjFA RX7 194 7 60 := ⟨_, _, _, rfl, in_X7, by decide, Or.inl (gw_tab (i := 940) (by decide +kernel) rfl)⟩
-- ===== methods =====
theorem lk_J0_335 : Cond.methodLink RJ0 335 yJ0_coder_7d493 ∈ gw_tbl ∨ ∃ host, Cond.methodLinkNest RJ0 335 yJ0_coder_7d493 host ∈ lw_tbl := Or.inl (gw_tab (i := 491) (by decide +kernel) rfl)
theorem lk_J0_492 : Cond.methodLink RJ0 492 yJ0_isLatin1_aae02 ∈ gw_tbl ∨ ∃ host, Cond.methodLinkNest RJ0 492 yJ0_isLatin1_aae02 host ∈ lw_tbl := Or.inl (gw_tab (i := 481) (by decide +kernel) rfl)
theorem lk_J0_495 : Cond.methodLink RJ0 495 yJ1_charAt_3b067 ∈ gw_tbl ∨ ∃ host, Cond.methodLinkNest RJ0 495 yJ1_charAt_3b067 host ∈ lw_tbl := Or.inl (gw_tab (i := 569) (by decide +kernel) rfl)
theorem lk_J0_505 : Cond.methodLink RJ0 505 yJ0_length_8abf5 ∈ gw_tbl ∨ ∃ host, Cond.methodLinkNest RJ0 505 yJ0_length_8abf5 host ∈ lw_tbl := Or.inl (gw_tab (i := 487) (by decide +kernel) rfl)
theorem lk_J0_633 : Cond.methodLink RJ0 633 yJ0_indexOf_7cf53 ∈ gw_tbl ∨ ∃ host, Cond.methodLinkNest RJ0 633 yJ0_indexOf_7cf53 host ∈ lw_tbl := Or.inl (gw_tab (i := 477) (by decide +kernel) rfl)
theorem lk_J0_637 : Cond.methodLink RJ0 637 yJ1_indexOf_4cfef ∈ gw_tbl ∨ ∃ host, Cond.methodLinkNest RJ0 637 yJ1_indexOf_4cfef host ∈ lw_tbl := Or.inl (gw_tab (i := 495) (by decide +kernel) rfl)
theorem lk_J0_1059 : Cond.methodLink RJ0 1059 yJ3_checkIndex_8e157 ∈ gw_tbl ∨ ∃ host, Cond.methodLinkNest RJ0 1059 yJ3_checkIndex_8e157 host ∈ lw_tbl := Or.inl (gw_tab (i := 575) (by decide +kernel) rfl)
theorem lk_J1_9 : Cond.methodLink RJ1 9 yJ0_checkIndex_df160 ∈ gw_tbl ∨ ∃ host, Cond.methodLinkNest RJ1 9 yJ0_checkIndex_df160 host ∈ lw_tbl := Or.inl (gw_tab (i := 572) (by decide +kernel) rfl)
theorem lk_J1_88 : Cond.methodLink RJ1 88 yJ1_canEncode_9a6ad ∈ gw_tbl ∨ ∃ host, Cond.methodLinkNest RJ1 88 yJ1_canEncode_9a6ad host ∈ lw_tbl := Or.inl (gw_tab (i := 498) (by decide +kernel) rfl)
theorem lk_J1_95 : Cond.methodLink RJ1 95 yJ1_indexOfChar_4cfef ∈ gw_tbl ∨ ∃ host, Cond.methodLinkNest RJ1 95 yJ1_indexOfChar_4cfef host ∈ lw_tbl := Or.inl (gw_tab (i := 505) (by decide +kernel) rfl)
theorem lk_X0_28 : Cond.methodLink RX0 28 yX0_begin ∈ gw_tbl ∨ ∃ host, Cond.methodLinkNest RX0 28 yX0_begin host ∈ lw_tbl := Or.inl (gw_tab (i := 812) (by decide +kernel) rfl)
theorem lk_X0_32 : Cond.methodLink RX0 32 yX0_points ∈ gw_tbl ∨ ∃ host, Cond.methodLinkNest RX0 32 yX0_points host ∈ lw_tbl := Or.inl (gw_tab (i := 816) (by decide +kernel) rfl)
theorem lk_X0_36 : Cond.methodLink RX0 36 yX0_names ∈ gw_tbl ∨ ∃ host, Cond.methodLinkNest RX0 36 yX0_names host ∈ lw_tbl := Or.inl (gw_tab (i := 821) (by decide +kernel) rfl)
theorem lk_X0_39 : Cond.methodLink RX0 39 yX0_tells ∈ gw_tbl ∨ ∃ host, Cond.methodLinkNest RX0 39 yX0_tells host ∈ lw_tbl := Or.inl (gw_tab (i := 826) (by decide +kernel) rfl)
theorem lk_X1_54 : Cond.methodLink RX1 54 yX5_tellFacts ∈ gw_tbl ∨ ∃ host, Cond.methodLinkNest RX1 54 yX5_tellFacts host ∈ lw_tbl := Or.inr ⟨"NamesBack", lw_tab (i := 315) (by decide +kernel)⟩
theorem lk_X1_61 : Cond.methodLink RX1 61 yX2_together ∈ gw_tbl ∨ ∃ host, Cond.methodLinkNest RX1 61 yX2_together host ∈ lw_tbl := Or.inr ⟨"NamesBack", lw_tab (i := 332) (by decide +kernel)⟩
theorem lk_X1_70 : Cond.methodLink RX1 70 yX6_index ∈ gw_tbl ∨ ∃ host, Cond.methodLinkNest RX1 70 yX6_index host ∈ lw_tbl := Or.inr ⟨"NamesBack", lw_tab (i := 347) (by decide +kernel)⟩
theorem lk_X1_80 : Cond.methodLink RX1 80 yX1_firstOfWay ∈ gw_tbl ∨ ∃ host, Cond.methodLinkNest RX1 80 yX1_firstOfWay host ∈ lw_tbl := Or.inl (gw_tab (i := 360) (by decide +kernel) rfl)
theorem lk_X1_83 : Cond.methodLink RX1 83 yX1_leads ∈ gw_tbl ∨ ∃ host, Cond.methodLinkNest RX1 83 yX1_leads host ∈ lw_tbl := Or.inl (gw_tab (i := 364) (by decide +kernel) rfl)
theorem lk_X1_87 : Cond.methodLink RX1 87 yX1_aimAt ∈ gw_tbl ∨ ∃ host, Cond.methodLinkNest RX1 87 yX1_aimAt host ∈ lw_tbl := Or.inl (gw_tab (i := 372) (by decide +kernel) rfl)
theorem lk_X1_96 : Cond.methodLink RX1 96 yX5_names ∈ gw_tbl ∨ ∃ host, Cond.methodLinkNest RX1 96 yX5_names host ∈ lw_tbl := Or.inr ⟨"NamesBack", lw_tab (i := 376) (by decide +kernel)⟩
theorem lk_X1_102 : Cond.methodLink RX1 102 yX1_capitalOf ∈ gw_tbl ∨ ∃ host, Cond.methodLinkNest RX1 102 yX1_capitalOf host ∈ lw_tbl := Or.inl (gw_tab (i := 380) (by decide +kernel) rfl)
theorem lk_X1_106 : Cond.methodLink RX1 106 yX1_leastNamed ∈ gw_tbl ∨ ∃ host, Cond.methodLinkNest RX1 106 yX1_leastNamed host ∈ lw_tbl := Or.inl (gw_tab (i := 384) (by decide +kernel) rfl)
theorem lk_X1_109 : Cond.methodLink RX1 109 yX1_nearestNamed ∈ gw_tbl ∨ ∃ host, Cond.methodLinkNest RX1 109 yX1_nearestNamed host ∈ lw_tbl := Or.inl (gw_tab (i := 388) (by decide +kernel) rfl)
theorem lk_X1_112 : Cond.methodLink RX1 112 yX1_greatestNamed ∈ gw_tbl ∨ ∃ host, Cond.methodLinkNest RX1 112 yX1_greatestNamed host ∈ lw_tbl := Or.inl (gw_tab (i := 392) (by decide +kernel) rfl)
theorem lk_X1_115 : Cond.methodLink RX1 115 yX1_lastNamed ∈ gw_tbl ∨ ∃ host, Cond.methodLinkNest RX1 115 yX1_lastNamed host ∈ lw_tbl := Or.inl (gw_tab (i := 396) (by decide +kernel) rfl)
theorem lk_X1_121 : Cond.methodLink RX1 121 yX1_behind ∈ gw_tbl ∨ ∃ host, Cond.methodLinkNest RX1 121 yX1_behind host ∈ lw_tbl := Or.inl (gw_tab (i := 699) (by decide +kernel) rfl)
theorem lk_X1_139 : Cond.methodLink RX1 139 yX1_walk ∈ gw_tbl ∨ ∃ host, Cond.methodLinkNest RX1 139 yX1_walk host ∈ lw_tbl := Or.inl (gw_tab (i := 662) (by decide +kernel) rfl)
theorem lk_X1_145 : Cond.methodLink RX1 145 yJ7_fill_d0a16 ∈ gw_tbl ∨ ∃ host, Cond.methodLinkNest RX1 145 yJ7_fill_d0a16 host ∈ lw_tbl := Or.inl (gw_tab (i := 748) (by decide +kernel) rfl)
theorem lk_X1_151 : Cond.methodLink RX1 151 yX1_spread ∈ gw_tbl ∨ ∃ host, Cond.methodLinkNest RX1 151 yX1_spread host ∈ lw_tbl := Or.inl (gw_tab (i := 751) (by decide +kernel) rfl)
theorem lk_X1_164 : Cond.methodLink RX1 164 yJ6_bitCount_0f7a4 ∈ gw_tbl ∨ ∃ host, Cond.methodLinkNest RX1 164 yJ6_bitCount_0f7a4 host ∈ lw_tbl := Or.inl (gw_tab (i := 755) (by decide +kernel) rfl)
theorem lk_X2_34 : Cond.methodLink RX2 34 yX2_addCode ∈ gw_tbl ∨ ∃ host, Cond.methodLinkNest RX2 34 yX2_addCode host ∈ lw_tbl := Or.inl (gw_tab (i := 608) (by decide +kernel) rfl)
theorem lk_X2_38 : Cond.methodLink RX2 38 yX2_holds ∈ gw_tbl ∨ ∃ host, Cond.methodLinkNest RX2 38 yX2_holds host ∈ lw_tbl := Or.inl (gw_tab (i := 336) (by decide +kernel) rfl)
theorem lk_X2_42 : Cond.methodLink RX2 42 yX2_passes ∈ gw_tbl ∨ ∃ host, Cond.methodLinkNest RX2 42 yX2_passes host ∈ lw_tbl := Or.inl (gw_tab (i := 340) (by decide +kernel) rfl)
theorem lk_X3_29 : Cond.methodLink RX3 29 yX2_clear ∈ gw_tbl ∨ ∃ host, Cond.methodLinkNest RX3 29 yX2_clear host ∈ lw_tbl := Or.inr ⟨"NamesBack", lw_tab (i := 456) (by decide +kernel)⟩
theorem lk_X3_32 : Cond.methodLink RX3 32 yX3_takes ∈ gw_tbl ∨ ∃ host, Cond.methodLinkNest RX3 32 yX3_takes host ∈ lw_tbl := Or.inl (gw_tab (i := 460) (by decide +kernel) rfl)
theorem lk_X3_36 : Cond.methodLink RX3 36 yX3_readsClause ∈ gw_tbl ∨ ∃ host, Cond.methodLinkNest RX3 36 yX3_readsClause host ∈ lw_tbl := Or.inl (gw_tab (i := 468) (by decide +kernel) rfl)
theorem lk_X3_40 : Cond.methodLink RX3 40 yX3_ahead ∈ gw_tbl ∨ ∃ host, Cond.methodLinkNest RX3 40 yX3_ahead host ∈ lw_tbl := Or.inl (gw_tab (i := 464) (by decide +kernel) rfl)
theorem lk_X3_44 : Cond.methodLink RX3 44 yJ0_length_8abf5 ∈ gw_tbl ∨ ∃ host, Cond.methodLinkNest RX3 44 yJ0_length_8abf5 host ∈ lw_tbl := Or.inl (gw_tab (i := 564) (by decide +kernel) rfl)
theorem lk_X3_49 : Cond.methodLink RX3 49 yJ0_charAt_5068e ∈ gw_tbl ∨ ∃ host, Cond.methodLinkNest RX3 49 yJ0_charAt_5068e host ∈ lw_tbl := Or.inl (gw_tab (i := 565) (by decide +kernel) rfl)
theorem lk_X3_55 : Cond.methodLink RX3 55 yJ0_indexOf_0f7a4 ∈ gw_tbl ∨ ∃ host, Cond.methodLinkNest RX3 55 yJ0_indexOf_0f7a4 host ∈ lw_tbl := Or.inl (gw_tab (i := 473) (by decide +kernel) rfl)
theorem lk_X3_65 : Cond.methodLink RX3 65 yX3_takesWord ∈ gw_tbl ∨ ∃ host, Cond.methodLinkNest RX3 65 yX3_takesWord host ∈ lw_tbl := Or.inl (gw_tab (i := 560) (by decide +kernel) rfl)
theorem lk_X3_69 : Cond.methodLink RX3 69 yX3_takeNumber ∈ gw_tbl ∨ ∃ host, Cond.methodLinkNest RX3 69 yX3_takeNumber host ∈ lw_tbl := Or.inl (gw_tab (i := 585) (by decide +kernel) rfl)
theorem lk_X3_72 : Cond.methodLink RX3 72 yX3_readsEither ∈ gw_tbl ∨ ∃ host, Cond.methodLinkNest RX3 72 yX3_readsEither host ∈ lw_tbl := Or.inl (gw_tab (i := 590) (by decide +kernel) rfl)
theorem lk_X3_76 : Cond.methodLink RX3 76 yX2_addClause ∈ gw_tbl ∨ ∃ host, Cond.methodLinkNest RX3 76 yX2_addClause host ∈ lw_tbl := Or.inr ⟨"NamesBack", lw_tab (i := 613) (by decide +kernel)⟩
theorem lk_X3_86 : Cond.methodLink RX3 86 yX3_readsPart ∈ gw_tbl ∨ ∃ host, Cond.methodLinkNest RX3 86 yX3_readsPart host ∈ lw_tbl := Or.inl (gw_tab (i := 594) (by decide +kernel) rfl)
theorem lk_X3_89 : Cond.methodLink RX3 89 yX2_addCode ∈ gw_tbl ∨ ∃ host, Cond.methodLinkNest RX3 89 yX2_addCode host ∈ lw_tbl := Or.inr ⟨"NamesBack", lw_tab (i := 612) (by decide +kernel)⟩
theorem lk_X3_93 : Cond.methodLink RX3 93 yX3_readsTest ∈ gw_tbl ∨ ∃ host, Cond.methodLinkNest RX3 93 yX3_readsTest host ∈ lw_tbl := Or.inl (gw_tab (i := 598) (by decide +kernel) rfl)
theorem lk_X3_100 : Cond.methodLink RX3 100 yX2_addTest ∈ gw_tbl ∨ ∃ host, Cond.methodLinkNest RX3 100 yX2_addTest host ∈ lw_tbl := Or.inr ⟨"NamesBack", lw_tab (i := 604) (by decide +kernel)⟩
theorem lk_X4_20 : Cond.methodLink RX4 20 yJ7_fill_d0a16 ∈ gw_tbl ∨ ∃ host, Cond.methodLinkNest RX4 20 yJ7_fill_d0a16 host ∈ lw_tbl := Or.inl (gw_tab (i := 852) (by decide +kernel) rfl)
theorem lk_X5_49 : Cond.methodLink RX5 49 yX6_index ∈ gw_tbl ∨ ∃ host, Cond.methodLinkNest RX5 49 yX6_index host ∈ lw_tbl := Or.inr ⟨"NamesBack", lw_tab (i := 329) (by decide +kernel)⟩
theorem lk_X5_53 : Cond.methodLink RX5 53 yJ6_bitCount_0f7a4 ∈ gw_tbl ∨ ∃ host, Cond.methodLinkNest RX5 53 yJ6_bitCount_0f7a4 host ∈ lw_tbl := Or.inl (gw_tab (i := 319) (by decide +kernel) rfl)
theorem lk_X5_59 : Cond.methodLink RX5 59 yX5_roadsOf ∈ gw_tbl ∨ ∃ host, Cond.methodLinkNest RX5 59 yX5_roadsOf host ∈ lw_tbl := Or.inl (gw_tab (i := 325) (by decide +kernel) rfl)
theorem lk_X6_65 : Cond.methodLink RX6 65 yX5_addPlace ∈ gw_tbl ∨ ∃ host, Cond.methodLinkNest RX6 65 yX5_addPlace host ∈ lw_tbl := Or.inr ⟨"NamesBack", lw_tab (i := 291) (by decide +kernel)⟩
theorem lk_X6_69 : Cond.methodLink RX6 69 yX5_has ∈ gw_tbl ∨ ∃ host, Cond.methodLinkNest RX6 69 yX5_has host ∈ lw_tbl := Or.inr ⟨"NamesBack", lw_tab (i := 299) (by decide +kernel)⟩
theorem lk_X6_83 : Cond.methodLink RX6 83 yX6_look ∈ gw_tbl ∨ ∃ host, Cond.methodLinkNest RX6 83 yX6_look host ∈ lw_tbl := Or.inl (gw_tab (i := 303) (by decide +kernel) rfl)
theorem lk_X6_93 : Cond.methodLink RX6 93 yX5_roadsOf ∈ gw_tbl ∨ ∃ host, Cond.methodLinkNest RX6 93 yX5_roadsOf host ∈ lw_tbl := Or.inr ⟨"NamesBack", lw_tab (i := 400) (by decide +kernel)⟩
theorem lk_X6_100 : Cond.methodLink RX6 100 yX6_index ∈ gw_tbl ∨ ∃ host, Cond.methodLinkNest RX6 100 yX6_index host ∈ lw_tbl := Or.inl (gw_tab (i := 405) (by decide +kernel) rfl)
theorem lk_X6_104 : Cond.methodLink RX6 104 yX5_setMiles ∈ gw_tbl ∨ ∃ host, Cond.methodLinkNest RX6 104 yX5_setMiles host ∈ lw_tbl := Or.inr ⟨"NamesBack", lw_tab (i := 406) (by decide +kernel)⟩
theorem lk_X6_111 : Cond.methodLink RX6 111 yX5_names ∈ gw_tbl ∨ ∃ host, Cond.methodLinkNest RX6 111 yX5_names host ∈ lw_tbl := Or.inr ⟨"NamesBack", lw_tab (i := 418) (by decide +kernel)⟩
theorem lk_X6_115 : Cond.methodLink RX6 115 yX6_hasArmFree ∈ gw_tbl ∨ ∃ host, Cond.methodLinkNest RX6 115 yX6_hasArmFree host ∈ lw_tbl := Or.inl (gw_tab (i := 419) (by decide +kernel) rfl)
theorem lk_X6_118 : Cond.methodLink RX6 118 yX5_turnName ∈ gw_tbl ∨ ∃ host, Cond.methodLinkNest RX6 118 yX5_turnName host ∈ lw_tbl := Or.inr ⟨"NamesBack", lw_tab (i := 424) (by decide +kernel)⟩
theorem lk_X6_122 : Cond.methodLink RX6 122 yJ6_bitCount_0f7a4 ∈ gw_tbl ∨ ∃ host, Cond.methodLinkNest RX6 122 yJ6_bitCount_0f7a4 host ∈ lw_tbl := Or.inl (gw_tab (i := 423) (by decide +kernel) rfl)
theorem lk_X6_130 : Cond.methodLink RX6 130 yX5_addTraveller ∈ gw_tbl ∨ ∃ host, Cond.methodLinkNest RX6 130 yX5_addTraveller host ∈ lw_tbl := Or.inr ⟨"NamesBack", lw_tab (i := 436) (by decide +kernel)⟩
theorem lk_X6_136 : Cond.methodLink RX6 136 yX3_addSign ∈ gw_tbl ∨ ∃ host, Cond.methodLinkNest RX6 136 yX3_addSign host ∈ lw_tbl := Or.inr ⟨"NamesBack", lw_tab (i := 444) (by decide +kernel)⟩
theorem lk_X6_143 : Cond.methodLink RX6 143 yX3_faultOf ∈ gw_tbl ∨ ∃ host, Cond.methodLinkNest RX6 143 yX3_faultOf host ∈ lw_tbl := Or.inr ⟨"NamesBack", lw_tab (i := 452) (by decide +kernel)⟩
theorem lk_X6_147 : Cond.methodLink RX6 147 yX3_empty ∈ gw_tbl ∨ ∃ host, Cond.methodLinkNest RX6 147 yX3_empty host ∈ lw_tbl := Or.inr ⟨"NamesBack", lw_tab (i := 617) (by decide +kernel)⟩
theorem lk_X6_153 : Cond.methodLink RX6 153 yX6_holding ∈ gw_tbl ∨ ∃ host, Cond.methodLinkNest RX6 153 yX6_holding host ∈ lw_tbl := Or.inl (gw_tab (i := 307) (by decide +kernel) rfl)
theorem lk_X6_160 : Cond.methodLink RX6 160 yX5_countNames ∈ gw_tbl ∨ ∃ host, Cond.methodLinkNest RX6 160 yX5_countNames host ∈ lw_tbl := Or.inr ⟨"NamesBack", lw_tab (i := 626) (by decide +kernel)⟩
theorem lk_X6_164 : Cond.methodLink RX6 164 yX1_leads ∈ gw_tbl ∨ ∃ host, Cond.methodLinkNest RX6 164 yX1_leads host ∈ lw_tbl := Or.inr ⟨"NamesBack", lw_tab (i := 634) (by decide +kernel)⟩
theorem lk_X6_176 : Cond.methodLink RX6 176 yX6_isPart ∈ gw_tbl ∨ ∃ host, Cond.methodLinkNest RX6 176 yX6_isPart host ∈ lw_tbl := Or.inl (gw_tab (i := 647) (by decide +kernel) rfl)
theorem lk_X6_179 : Cond.methodLink RX6 179 yX1_walk ∈ gw_tbl ∨ ∃ host, Cond.methodLinkNest RX6 179 yX1_walk host ∈ lw_tbl := Or.inr ⟨"NamesBack", lw_tab (i := 650) (by decide +kernel)⟩
theorem lk_X6_188 : Cond.methodLink RX6 188 yX1_lostTravellers ∈ gw_tbl ∨ ∃ host, Cond.methodLinkNest RX6 188 yX1_lostTravellers host ∈ lw_tbl := Or.inr ⟨"NamesBack", lw_tab (i := 658) (by decide +kernel)⟩
theorem lk_X6_191 : Cond.methodLink RX6 191 yX1_lostPairs ∈ gw_tbl ∨ ∃ host, Cond.methodLinkNest RX6 191 yX1_lostPairs host ∈ lw_tbl := Or.inr ⟨"NamesBack", lw_tab (i := 663) (by decide +kernel)⟩
theorem lk_X6_194 : Cond.methodLink RX6 194 yX1_longestPair ∈ gw_tbl ∨ ∃ host, Cond.methodLinkNest RX6 194 yX1_longestPair host ∈ lw_tbl := Or.inr ⟨"NamesBack", lw_tab (i := 671) (by decide +kernel)⟩
theorem lk_X6_197 : Cond.methodLink RX6 197 yX6_bestTurn ∈ gw_tbl ∨ ∃ host, Cond.methodLinkNest RX6 197 yX6_bestTurn host ∈ lw_tbl := Or.inl (gw_tab (i := 679) (by decide +kernel) rfl)
theorem lk_X6_201 : Cond.methodLink RX6 201 yX1_setFalseArm ∈ gw_tbl ∨ ∃ host, Cond.methodLinkNest RX6 201 yX1_setFalseArm host ∈ lw_tbl := Or.inr ⟨"NamesBack", lw_tab (i := 695) (by decide +kernel)⟩
theorem lk_X6_204 : Cond.methodLink RX6 204 yX1_dropFalseArm ∈ gw_tbl ∨ ∃ host, Cond.methodLinkNest RX6 204 yX1_dropFalseArm host ∈ lw_tbl := Or.inr ⟨"NamesBack", lw_tab (i := 703) (by decide +kernel)⟩
theorem lk_X6_207 : Cond.methodLink RX6 207 yX5_comeToBy ∈ gw_tbl ∨ ∃ host, Cond.methodLinkNest RX6 207 yX5_comeToBy host ∈ lw_tbl := Or.inr ⟨"NamesBack", lw_tab (i := 711) (by decide +kernel)⟩
theorem lk_X6_210 : Cond.methodLink RX6 210 yX1_allWays ∈ gw_tbl ∨ ∃ host, Cond.methodLinkNest RX6 210 yX1_allWays host ∈ lw_tbl := Or.inr ⟨"NamesBack", lw_tab (i := 727) (by decide +kernel)⟩
theorem lk_X6_213 : Cond.methodLink RX6 213 yX6_allWaysWith ∈ gw_tbl ∨ ∃ host, Cond.methodLinkNest RX6 213 yX6_allWaysWith host ∈ lw_tbl := Or.inl (gw_tab (i := 731) (by decide +kernel) rfl)
theorem lk_X6_227 : Cond.methodLink RX6 227 yX1_sharesAt ∈ gw_tbl ∨ ∃ host, Cond.methodLinkNest RX6 227 yX1_sharesAt host ∈ lw_tbl := Or.inr ⟨"NamesBack", lw_tab (i := 744) (by decide +kernel)⟩
theorem lk_X6_233 : Cond.methodLink RX6 233 yX6_inLowestTerms ∈ gw_tbl ∨ ∃ host, Cond.methodLinkNest RX6 233 yX6_inLowestTerms host ∈ lw_tbl := Or.inl (gw_tab (i := 761) (by decide +kernel) rfl)
theorem lk_X6_243 : Cond.methodLink RX6 243 yX6_isTape ∈ gw_tbl ∨ ∃ host, Cond.methodLinkNest RX6 243 yX6_isTape host ∈ lw_tbl := Or.inl (gw_tab (i := 780) (by decide +kernel) rfl)
theorem lk_X6_254 : Cond.methodLink RX6 254 yX5_becomeAs ∈ gw_tbl ∨ ∃ host, Cond.methodLinkNest RX6 254 yX5_becomeAs host ∈ lw_tbl := Or.inr ⟨"NamesBack", lw_tab (i := 787) (by decide +kernel)⟩
theorem lk_X6_262 : Cond.methodLink RX6 262 yX0_forget ∈ gw_tbl ∨ ∃ host, Cond.methodLinkNest RX6 262 yX0_forget host ∈ lw_tbl := Or.inr ⟨"NamesBack", lw_tab (i := 800) (by decide +kernel)⟩
theorem lk_X6_265 : Cond.methodLink RX6 265 yX0_standAt ∈ gw_tbl ∨ ∃ host, Cond.methodLinkNest RX6 265 yX0_standAt host ∈ lw_tbl := Or.inr ⟨"NamesBack", lw_tab (i := 804) (by decide +kernel)⟩
theorem lk_X6_268 : Cond.methodLink RX6 268 yX0_points ∈ gw_tbl ∨ ∃ host, Cond.methodLinkNest RX6 268 yX0_points host ∈ lw_tbl := Or.inr ⟨"NamesBack", lw_tab (i := 808) (by decide +kernel)⟩
theorem lk_X6_271 : Cond.methodLink RX6 271 yX0_names ∈ gw_tbl ∨ ∃ host, Cond.methodLinkNest RX6 271 yX0_names host ∈ lw_tbl := Or.inr ⟨"NamesBack", lw_tab (i := 817) (by decide +kernel)⟩
theorem lk_X6_273 : Cond.methodLink RX6 273 yX0_tells ∈ gw_tbl ∨ ∃ host, Cond.methodLinkNest RX6 273 yX0_tells host ∈ lw_tbl := Or.inr ⟨"NamesBack", lw_tab (i := 822) (by decide +kernel)⟩
theorem lk_X6_282 : Cond.methodLink RX6 282 yX6_isUnder ∈ gw_tbl ∨ ∃ host, Cond.methodLinkNest RX6 282 yX6_isUnder host ∈ lw_tbl := Or.inl (gw_tab (i := 835) (by decide +kernel) rfl)
theorem lk_X6_285 : Cond.methodLink RX6 285 yX4_become ∈ gw_tbl ∨ ∃ host, Cond.methodLinkNest RX6 285 yX4_become host ∈ lw_tbl := Or.inr ⟨"NamesBack", lw_tab (i := 848) (by decide +kernel)⟩
theorem lk_X6_288 : Cond.methodLink RX6 288 yX4_spans ∈ gw_tbl ∨ ∃ host, Cond.methodLinkNest RX6 288 yX4_spans host ∈ lw_tbl := Or.inr ⟨"NamesBack", lw_tab (i := 857) (by decide +kernel)⟩
theorem lk_X6_291 : Cond.methodLink RX6 291 yX4_asItem ∈ gw_tbl ∨ ∃ host, Cond.methodLinkNest RX6 291 yX4_asItem host ∈ lw_tbl := Or.inr ⟨"NamesBack", lw_tab (i := 861) (by decide +kernel)⟩
theorem lk_X6_304 : Cond.methodLink RX6 304 yX1_findSizes ∈ gw_tbl ∨ ∃ host, Cond.methodLinkNest RX6 304 yX1_findSizes host ∈ lw_tbl := Or.inr ⟨"NamesBack", lw_tab (i := 311) (by decide +kernel)⟩
theorem lk_X6_308 : Cond.methodLink RX6 308 yX1_findLongs ∈ gw_tbl ∨ ∃ host, Cond.methodLinkNest RX6 308 yX1_findLongs host ∈ lw_tbl := Or.inr ⟨"NamesBack", lw_tab (i := 343) (by decide +kernel)⟩
theorem lk_X6_311 : Cond.methodLink RX6 311 yX1_findWays ∈ gw_tbl ∨ ∃ host, Cond.methodLinkNest RX6 311 yX1_findWays host ∈ lw_tbl := Or.inr ⟨"NamesBack", lw_tab (i := 351) (by decide +kernel)⟩
theorem lk_X6_314 : Cond.methodLink RX6 314 yX1_findTowards ∈ gw_tbl ∨ ∃ host, Cond.methodLinkNest RX6 314 yX1_findTowards host ∈ lw_tbl := Or.inr ⟨"NamesBack", lw_tab (i := 356) (by decide +kernel)⟩
theorem lk_X6_317 : Cond.methodLink RX6 317 yX1_findSteps ∈ gw_tbl ∨ ∃ host, Cond.methodLinkNest RX6 317 yX1_findSteps host ∈ lw_tbl := Or.inr ⟨"NamesBack", lw_tab (i := 368) (by decide +kernel)⟩
theorem lk_X6_320 : Cond.methodLink RX6 320 yX6_mayName ∈ gw_tbl ∨ ∃ host, Cond.methodLinkNest RX6 320 yX6_mayName host ∈ lw_tbl := Or.inl (gw_tab (i := 683) (by decide +kernel) rfl)
theorem lk_X7_197 : Cond.methodLink RX7 197 yX7_in ∈ gw_tbl ∨ ∃ host, Cond.methodLinkNest RX7 197 yX7_in host ∈ lw_tbl := Or.inl (gw_tab (i := 1069) (by decide +kernel) rfl)
theorem lk_X7_201 : Cond.methodLink RX7 201 yX7_isPlace ∈ gw_tbl ∨ ∃ host, Cond.methodLinkNest RX7 201 yX7_isPlace host ∈ lw_tbl := Or.inl (gw_tab (i := 1081) (by decide +kernel) rfl)
theorem lk_X7_205 : Cond.methodLink RX7 205 yX7_arePlaces ∈ gw_tbl ∨ ∃ host, Cond.methodLinkNest RX7 205 yX7_arePlaces host ∈ lw_tbl := Or.inl (gw_tab (i := 1077) (by decide +kernel) rfl)
theorem lk_X7_209 : Cond.methodLink RX7 209 yX7_has ∈ gw_tbl ∨ ∃ host, Cond.methodLinkNest RX7 209 yX7_has host ∈ lw_tbl := Or.inl (gw_tab (i := 1089) (by decide +kernel) rfl)
theorem lk_X7_212 : Cond.methodLink RX7 212 yX7_ones ∈ gw_tbl ∨ ∃ host, Cond.methodLinkNest RX7 212 yX7_ones host ∈ lw_tbl := Or.inl (gw_tab (i := 1093) (by decide +kernel) rfl)
theorem lk_X7_216 : Cond.methodLink RX7 216 yX7_armsNow ∈ gw_tbl ∨ ∃ host, Cond.methodLinkNest RX7 216 yX7_armsNow host ∈ lw_tbl := Or.inl (gw_tab (i := 1097) (by decide +kernel) rfl)
theorem lk_X7_220 : Cond.methodLink RX7 220 yX7_lays ∈ gw_tbl ∨ ∃ host, Cond.methodLinkNest RX7 220 yX7_lays host ∈ lw_tbl := Or.inl (gw_tab (i := 1109) (by decide +kernel) rfl)
theorem lk_X7_224 : Cond.methodLink RX7 224 yX7_peek ∈ gw_tbl ∨ ∃ host, Cond.methodLinkNest RX7 224 yX7_peek host ∈ lw_tbl := Or.inl (gw_tab (i := 1141) (by decide +kernel) rfl)
theorem lk_X7_227 : Cond.methodLink RX7 227 yX7_takes ∈ gw_tbl ∨ ∃ host, Cond.methodLinkNest RX7 227 yX7_takes host ∈ lw_tbl := Or.inl (gw_tab (i := 1149) (by decide +kernel) rfl)
theorem lk_X7_230 : Cond.methodLink RX7 230 yX7_isDigit ∈ gw_tbl ∨ ∃ host, Cond.methodLinkNest RX7 230 yX7_isDigit host ∈ lw_tbl := Or.inl (gw_tab (i := 1157) (by decide +kernel) rfl)
theorem lk_X7_234 : Cond.methodLink RX7 234 yX7_emits ∈ gw_tbl ∨ ∃ host, Cond.methodLinkNest RX7 234 yX7_emits host ∈ lw_tbl := Or.inl (gw_tab (i := 1173) (by decide +kernel) rfl)
theorem lk_X7_238 : Cond.methodLink RX7 238 yX7_letterOf ∈ gw_tbl ∨ ∃ host, Cond.methodLinkNest RX7 238 yX7_letterOf host ∈ lw_tbl := Or.inl (gw_tab (i := 1169) (by decide +kernel) rfl)
theorem lk_X7_241 : Cond.methodLink RX7 241 yX7_takesNumber ∈ gw_tbl ∨ ∃ host, Cond.methodLinkNest RX7 241 yX7_takesNumber host ∈ lw_tbl := Or.inl (gw_tab (i := 1153) (by decide +kernel) rfl)
theorem lk_X7_244 : Cond.methodLink RX7 244 yX7_whole ∈ gw_tbl ∨ ∃ host, Cond.methodLinkNest RX7 244 yX7_whole host ∈ lw_tbl := Or.inl (gw_tab (i := 1177) (by decide +kernel) rfl)
theorem lk_X7_247 : Cond.methodLink RX7 247 yX7_takesTest ∈ gw_tbl ∨ ∃ host, Cond.methodLinkNest RX7 247 yX7_takesTest host ∈ lw_tbl := Or.inl (gw_tab (i := 1165) (by decide +kernel) rfl)
theorem lk_X7_250 : Cond.methodLink RX7 250 yX7_settle ∈ gw_tbl ∨ ∃ host, Cond.methodLinkNest RX7 250 yX7_settle host ∈ lw_tbl := Or.inl (gw_tab (i := 1181) (by decide +kernel) rfl)
theorem lk_X7_253 : Cond.methodLink RX7 253 yX7_takesWord ∈ gw_tbl ∨ ∃ host, Cond.methodLinkNest RX7 253 yX7_takesWord host ∈ lw_tbl := Or.inl (gw_tab (i := 1145) (by decide +kernel) rfl)
theorem lk_X7_256 : Cond.methodLink RX7 256 yX7_takesHead ∈ gw_tbl ∨ ∃ host, Cond.methodLinkNest RX7 256 yX7_takesHead host ∈ lw_tbl := Or.inl (gw_tab (i := 1137) (by decide +kernel) rfl)
theorem lk_X7_259 : Cond.methodLink RX7 259 yX7_takesE ∈ gw_tbl ∨ ∃ host, Cond.methodLinkNest RX7 259 yX7_takesE host ∈ lw_tbl := Or.inl (gw_tab (i := 1161) (by decide +kernel) rfl)
theorem lk_X7_262 : Cond.methodLink RX7 262 yX7_takesClause ∈ gw_tbl ∨ ∃ host, Cond.methodLinkNest RX7 262 yX7_takesClause host ∈ lw_tbl := Or.inl (gw_tab (i := 1133) (by decide +kernel) rfl)
theorem lk_X7_265 : Cond.methodLink RX7 265 yX7_goesText ∈ gw_tbl ∨ ∃ host, Cond.methodLinkNest RX7 265 yX7_goesText host ∈ lw_tbl := Or.inl (gw_tab (i := 1129) (by decide +kernel) rfl)
theorem lk_X7_268 : Cond.methodLink RX7 268 yX7_begin ∈ gw_tbl ∨ ∃ host, Cond.methodLinkNest RX7 268 yX7_begin host ∈ lw_tbl := Or.inl (gw_tab (i := 1101) (by decide +kernel) rfl)
theorem lk_X7_271 : Cond.methodLink RX7 271 yX7_behind ∈ gw_tbl ∨ ∃ host, Cond.methodLinkNest RX7 271 yX7_behind host ∈ lw_tbl := Or.inl (gw_tab (i := 1105) (by decide +kernel) rfl)
theorem lk_X7_274 : Cond.methodLink RX7 274 yX7_roadsOf ∈ gw_tbl ∨ ∃ host, Cond.methodLinkNest RX7 274 yX7_roadsOf host ∈ lw_tbl := Or.inl (gw_tab (i := 1201) (by decide +kernel) rfl)
theorem lk_X7_277 : Cond.methodLink RX7 277 yX7_factOf ∈ gw_tbl ∨ ∃ host, Cond.methodLinkNest RX7 277 yX7_factOf host ∈ lw_tbl := Or.inl (gw_tab (i := 1197) (by decide +kernel) rfl)
theorem lk_X7_281 : Cond.methodLink RX7 281 yX7_holds ∈ gw_tbl ∨ ∃ host, Cond.methodLinkNest RX7 281 yX7_holds host ∈ lw_tbl := Or.inl (gw_tab (i := 1193) (by decide +kernel) rfl)
theorem lk_X7_284 : Cond.methodLink RX7 284 yX7_sumOf ∈ gw_tbl ∨ ∃ host, Cond.methodLinkNest RX7 284 yX7_sumOf host ∈ lw_tbl := Or.inl (gw_tab (i := 1189) (by decide +kernel) rfl)
theorem lk_X7_287 : Cond.methodLink RX7 287 yX7_shorten ∈ gw_tbl ∨ ∃ host, Cond.methodLinkNest RX7 287 yX7_shorten host ∈ lw_tbl := Or.inl (gw_tab (i := 1221) (by decide +kernel) rfl)
theorem lk_X7_291 : Cond.methodLink RX7 291 yX7_namesNow ∈ gw_tbl ∨ ∃ host, Cond.methodLinkNest RX7 291 yX7_namesNow host ∈ lw_tbl := Or.inl (gw_tab (i := 1209) (by decide +kernel) rfl)
theorem lk_X7_294 : Cond.methodLink RX7 294 yX7_layLand ∈ gw_tbl ∨ ∃ host, Cond.methodLinkNest RX7 294 yX7_layLand host ∈ lw_tbl := Or.inl (gw_tab (i := 1217) (by decide +kernel) rfl)
theorem lk_X7_297 : Cond.methodLink RX7 297 yX7_towardOf ∈ gw_tbl ∨ ∃ host, Cond.methodLinkNest RX7 297 yX7_towardOf host ∈ lw_tbl := Or.inl (gw_tab (i := 1233) (by decide +kernel) rfl)
theorem lk_X7_300 : Cond.methodLink RX7 300 yX7_nearestNamed ∈ gw_tbl ∨ ∃ host, Cond.methodLinkNest RX7 300 yX7_nearestNamed host ∈ lw_tbl := Or.inl (gw_tab (i := 1249) (by decide +kernel) rfl)
theorem lk_X7_303 : Cond.methodLink RX7 303 yX7_greatestNamed ∈ gw_tbl ∨ ∃ host, Cond.methodLinkNest RX7 303 yX7_greatestNamed host ∈ lw_tbl := Or.inl (gw_tab (i := 1253) (by decide +kernel) rfl)
theorem lk_X7_306 : Cond.methodLink RX7 306 yX7_lastNamed ∈ gw_tbl ∨ ∃ host, Cond.methodLinkNest RX7 306 yX7_lastNamed host ∈ lw_tbl := Or.inl (gw_tab (i := 1257) (by decide +kernel) rfl)
theorem lk_X7_309 : Cond.methodLink RX7 309 yX7_leastNamed ∈ gw_tbl ∨ ∃ host, Cond.methodLinkNest RX7 309 yX7_leastNamed host ∈ lw_tbl := Or.inl (gw_tab (i := 1261) (by decide +kernel) rfl)
theorem lk_X7_312 : Cond.methodLink RX7 312 yX7_goalOf ∈ gw_tbl ∨ ∃ host, Cond.methodLinkNest RX7 312 yX7_goalOf host ∈ lw_tbl := Or.inl (gw_tab (i := 1245) (by decide +kernel) rfl)
theorem lk_X7_315 : Cond.methodLink RX7 315 yX7_turnedTo ∈ gw_tbl ∨ ∃ host, Cond.methodLinkNest RX7 315 yX7_turnedTo host ∈ lw_tbl := Or.inl (gw_tab (i := 1265) (by decide +kernel) rfl)
theorem lk_X7_318 : Cond.methodLink RX7 318 yX7_nextOf ∈ gw_tbl ∨ ∃ host, Cond.methodLinkNest RX7 318 yX7_nextOf host ∈ lw_tbl := Or.inl (gw_tab (i := 1241) (by decide +kernel) rfl)
theorem lk_X7_321 : Cond.methodLink RX7 321 yX7_goes ∈ gw_tbl ∨ ∃ host, Cond.methodLinkNest RX7 321 yX7_goes host ∈ lw_tbl := Or.inl (gw_tab (i := 1273) (by decide +kernel) rfl)
theorem lk_X7_324 : Cond.methodLink RX7 324 yX7_lostMany ∈ gw_tbl ∨ ∃ host, Cond.methodLinkNest RX7 324 yX7_lostMany host ∈ lw_tbl := Or.inl (gw_tab (i := 1281) (by decide +kernel) rfl)
theorem lk_X7_327 : Cond.methodLink RX7 327 yX7_lostPairs ∈ gw_tbl ∨ ∃ host, Cond.methodLinkNest RX7 327 yX7_lostPairs host ∈ lw_tbl := Or.inl (gw_tab (i := 1285) (by decide +kernel) rfl)
theorem lk_X7_330 : Cond.methodLink RX7 330 yX7_chainOf ∈ gw_tbl ∨ ∃ host, Cond.methodLinkNest RX7 330 yX7_chainOf host ∈ lw_tbl := Or.inl (gw_tab (i := 1309) (by decide +kernel) rfl)
theorem lk_X7_333 : Cond.methodLink RX7 333 yX7_allWays ∈ gw_tbl ∨ ∃ host, Cond.methodLinkNest RX7 333 yX7_allWays host ∈ lw_tbl := Or.inl (gw_tab (i := 1325) (by decide +kernel) rfl)
theorem lk_X7_336 : Cond.methodLink RX7 336 yX7_divisor ∈ gw_tbl ∨ ∃ host, Cond.methodLinkNest RX7 336 yX7_divisor host ∈ lw_tbl := Or.inl (gw_tab (i := 1347) (by decide +kernel) rfl)
theorem lk_X7_344 : Cond.methodLink RX7 344 yX7_goStep ∈ gw_tbl ∨ ∃ host, Cond.methodLinkNest RX7 344 yX7_goStep host ∈ lw_tbl := Or.inl (gw_tab (i := 1338) (by decide +kernel) rfl)
theorem lk_X7_347 : Cond.methodLink RX7 347 yX7_lowest ∈ gw_tbl ∨ ∃ host, Cond.methodLinkNest RX7 347 yX7_lowest host ∈ lw_tbl := Or.inl (gw_tab (i := 1343) (by decide +kernel) rfl)
theorem lk_X7_351 : Cond.methodLink RX7 351 yX7_isTape ∈ gw_tbl ∨ ∃ host, Cond.methodLinkNest RX7 351 yX7_isTape host ∈ lw_tbl := Or.inl (gw_tab (i := 1367) (by decide +kernel) rfl)
theorem lk_X7_354 : Cond.methodLink RX7 354 yX7_body ∈ gw_tbl ∨ ∃ host, Cond.methodLinkNest RX7 354 yX7_body host ∈ lw_tbl := Or.inl (gw_tab (i := 1387) (by decide +kernel) rfl)
theorem lk_X7_357 : Cond.methodLink RX7 357 yX7_placePoints ∈ gw_tbl ∨ ∃ host, Cond.methodLinkNest RX7 357 yX7_placePoints host ∈ lw_tbl := Or.inl (gw_tab (i := 1391) (by decide +kernel) rfl)
theorem lk_X7_360 : Cond.methodLink RX7 360 yX7_pointsAct ∈ gw_tbl ∨ ∃ host, Cond.methodLinkNest RX7 360 yX7_pointsAct host ∈ lw_tbl := Or.inl (gw_tab (i := 1383) (by decide +kernel) rfl)
theorem lk_X7_363 : Cond.methodLink RX7 363 yX7_placeNames ∈ gw_tbl ∨ ∃ host, Cond.methodLinkNest RX7 363 yX7_placeNames host ∈ lw_tbl := Or.inl (gw_tab (i := 1403) (by decide +kernel) rfl)
theorem lk_X7_366 : Cond.methodLink RX7 366 yX7_nearNames ∈ gw_tbl ∨ ∃ host, Cond.methodLinkNest RX7 366 yX7_nearNames host ∈ lw_tbl := Or.inl (gw_tab (i := 1399) (by decide +kernel) rfl)
theorem lk_X7_369 : Cond.methodLink RX7 369 yX7_namesAct ∈ gw_tbl ∨ ∃ host, Cond.methodLinkNest RX7 369 yX7_namesAct host ∈ lw_tbl := Or.inl (gw_tab (i := 1395) (by decide +kernel) rfl)
theorem lk_X7_372 : Cond.methodLink RX7 372 yX7_placeTells ∈ gw_tbl ∨ ∃ host, Cond.methodLinkNest RX7 372 yX7_placeTells host ∈ lw_tbl := Or.inl (gw_tab (i := 1411) (by decide +kernel) rfl)
theorem lk_X7_375 : Cond.methodLink RX7 375 yX7_tellsAct ∈ gw_tbl ∨ ∃ host, Cond.methodLinkNest RX7 375 yX7_tellsAct host ∈ lw_tbl := Or.inl (gw_tab (i := 1407) (by decide +kernel) rfl)
theorem lk_X7_378 : Cond.methodLink RX7 378 yX7_narrow ∈ gw_tbl ∨ ∃ host, Cond.methodLinkNest RX7 378 yX7_narrow host ∈ lw_tbl := Or.inl (gw_tab (i := 1435) (by decide +kernel) rfl)
theorem my_J0_charAt_5068e : mjY yJ0_charAt_5068e cJ0_charAt_5068e 2 (some .char) 1 := ⟨gw_tab (i := 568) (by decide +kernel) rfl, gw_tab (i := 11) (by decide +kernel) rfl, ⟨by decide, by decide⟩, by decide +kernel, by decide⟩
theorem mv_J0_charAt_5068e : mjYV yJ0_charAt_5068e := ⟨gw_tab (i := 566) (by decide +kernel) rfl, gw_tab (i := 567) (by decide +kernel) rfl⟩
theorem my_J0_checkIndex_df160 : mjY yJ0_checkIndex_df160 cJ0_checkIndex_df160 2 none 2 := ⟨gw_tab (i := 574) (by decide +kernel) rfl, gw_tab (i := 11) (by decide +kernel) rfl, ⟨by decide, by decide⟩, by decide +kernel, by decide⟩
theorem sy_J0_checkIndex_df160 : Cond.static yJ0_checkIndex_df160 ∈ gw_tbl := gw_tab (i := 573) (by decide +kernel) rfl
theorem my_J0_coder_7d493 : mjY yJ0_coder_7d493 cJ0_coder_7d493 1 (some .byte) 0 := ⟨gw_tab (i := 494) (by decide +kernel) rfl, gw_tab (i := 11) (by decide +kernel) rfl, ⟨by decide, by decide⟩, by decide +kernel, by decide⟩
theorem mv_J0_coder_7d493 : mjYV yJ0_coder_7d493 := ⟨gw_tab (i := 492) (by decide +kernel) rfl, gw_tab (i := 493) (by decide +kernel) rfl⟩
theorem my_J0_indexOf_0f7a4 : mjY yJ0_indexOf_0f7a4 cJ0_indexOf_0f7a4 2 (some .int) 1 := ⟨gw_tab (i := 476) (by decide +kernel) rfl, gw_tab (i := 11) (by decide +kernel) rfl, ⟨by decide, by decide⟩, by decide +kernel, by decide⟩
theorem mv_J0_indexOf_0f7a4 : mjYV yJ0_indexOf_0f7a4 := ⟨gw_tab (i := 474) (by decide +kernel) rfl, gw_tab (i := 475) (by decide +kernel) rfl⟩
theorem my_J0_indexOf_7cf53 : mjY yJ0_indexOf_7cf53 cJ0_indexOf_7cf53 3 (some .int) 2 := ⟨gw_tab (i := 480) (by decide +kernel) rfl, gw_tab (i := 11) (by decide +kernel) rfl, ⟨by decide, by decide⟩, by decide +kernel, by decide⟩
theorem mv_J0_indexOf_7cf53 : mjYV yJ0_indexOf_7cf53 := ⟨gw_tab (i := 478) (by decide +kernel) rfl, gw_tab (i := 479) (by decide +kernel) rfl⟩
theorem my_J0_isLatin1_aae02 : mjY yJ0_isLatin1_aae02 cJ0_isLatin1_aae02 1 (some .boolean) 0 := ⟨gw_tab (i := 484) (by decide +kernel) rfl, gw_tab (i := 11) (by decide +kernel) rfl, ⟨by decide, by decide⟩, by decide +kernel, by decide⟩
theorem mv_J0_isLatin1_aae02 : mjYV yJ0_isLatin1_aae02 := ⟨gw_tab (i := 482) (by decide +kernel) rfl, gw_tab (i := 483) (by decide +kernel) rfl⟩
theorem my_J0_length_8abf5 : mjY yJ0_length_8abf5 cJ0_length_8abf5 1 (some .int) 0 := ⟨gw_tab (i := 490) (by decide +kernel) rfl, gw_tab (i := 11) (by decide +kernel) rfl, ⟨by decide, by decide⟩, by decide +kernel, by decide⟩
theorem mv_J0_length_8abf5 : mjYV yJ0_length_8abf5 := ⟨gw_tab (i := 488) (by decide +kernel) rfl, gw_tab (i := 489) (by decide +kernel) rfl⟩
theorem my_J1_canEncode_9a6ad : mjY yJ1_canEncode_9a6ad cJ1_canEncode_9a6ad 1 (some .boolean) 1 := ⟨gw_tab (i := 500) (by decide +kernel) rfl, gw_tab (i := 12) (by decide +kernel) rfl, ⟨by decide, by decide⟩, by decide +kernel, by decide⟩
theorem sy_J1_canEncode_9a6ad : Cond.static yJ1_canEncode_9a6ad ∈ gw_tbl := gw_tab (i := 499) (by decide +kernel) rfl
theorem my_J1_charAt_3b067 : mjY yJ1_charAt_3b067 cJ1_charAt_3b067 2 (some .char) 2 := ⟨gw_tab (i := 571) (by decide +kernel) rfl, gw_tab (i := 12) (by decide +kernel) rfl, ⟨by decide, by decide⟩, by decide +kernel, by decide⟩
theorem sy_J1_charAt_3b067 : Cond.static yJ1_charAt_3b067 ∈ gw_tbl := gw_tab (i := 570) (by decide +kernel) rfl
theorem my_J1_indexOfChar_4cfef : mjY yJ1_indexOfChar_4cfef cJ1_indexOfChar_4cfef 6 (some .int) 4 := ⟨gw_tab (i := 507) (by decide +kernel) rfl, gw_tab (i := 12) (by decide +kernel) rfl, ⟨by decide, by decide⟩, by decide +kernel, by decide⟩
theorem sy_J1_indexOfChar_4cfef : Cond.static yJ1_indexOfChar_4cfef ∈ gw_tbl := gw_tab (i := 506) (by decide +kernel) rfl
theorem my_J1_indexOf_4cfef : mjY yJ1_indexOf_4cfef cJ1_indexOf_4cfef 4 (some .int) 4 := ⟨gw_tab (i := 497) (by decide +kernel) rfl, gw_tab (i := 12) (by decide +kernel) rfl, ⟨by decide, by decide⟩, by decide +kernel, by decide⟩
theorem sy_J1_indexOf_4cfef : Cond.static yJ1_indexOf_4cfef ∈ gw_tbl := gw_tab (i := 496) (by decide +kernel) rfl
theorem my_J3_checkIndex_8e157 : mjY yJ3_checkIndex_8e157 cJ3_checkIndex_8e157 3 (some .int) 3 := ⟨gw_tab (i := 577) (by decide +kernel) rfl, gw_tab (i := 14) (by decide +kernel) rfl, ⟨by decide, by decide⟩, by decide +kernel, by decide⟩
theorem sy_J3_checkIndex_8e157 : Cond.static yJ3_checkIndex_8e157 ∈ gw_tbl := gw_tab (i := 576) (by decide +kernel) rfl
theorem my_J6_bitCount_0f7a4 : mjY yJ6_bitCount_0f7a4 cJ6_bitCount_0f7a4 1 (some .int) 1 := ⟨gw_tab (i := 321) (by decide +kernel) rfl, gw_tab (i := 9) (by decide +kernel) rfl, ⟨by decide, by decide⟩, by decide +kernel, by decide⟩
theorem sy_J6_bitCount_0f7a4 : Cond.static yJ6_bitCount_0f7a4 ∈ gw_tbl := gw_tab (i := 320) (by decide +kernel) rfl
theorem my_J7_fill_d0a16 : mjY yJ7_fill_d0a16 cJ7_fill_d0a16 5 none 2 := ⟨gw_tab (i := 750) (by decide +kernel) rfl, gw_tab (i := 16) (by decide +kernel) rfl, ⟨by decide, by decide⟩, by decide +kernel, by decide⟩
theorem sy_J7_fill_d0a16 : Cond.static yJ7_fill_d0a16 ∈ gw_tbl := gw_tab (i := 749) (by decide +kernel) rfl
theorem my_X0_begin : mjY yX0_begin cX0_begin 2 none 1 := ⟨gw_tab (i := 815) (by decide +kernel) rfl, gw_tab (i := 6) (by decide +kernel) rfl, ⟨by decide, by decide⟩, by decide +kernel, by decide⟩
theorem mv_X0_begin : mjYV yX0_begin := ⟨gw_tab (i := 814) (by decide +kernel) rfl, gw_sel (n := 5) (i := 60) (by decide +kernel)⟩
theorem my_X0_forget : mjY yX0_forget cX0_forget 1 none 0 := ⟨gw_tab (i := 803) (by decide +kernel) rfl, gw_tab (i := 6) (by decide +kernel) rfl, ⟨by decide, by decide⟩, by decide +kernel, by decide⟩
theorem mv_X0_forget : mjYV yX0_forget := ⟨gw_tab (i := 802) (by decide +kernel) rfl, gw_sel (n := 5) (i := 57) (by decide +kernel)⟩
theorem my_X0_names : mjY yX0_names cX0_names 4 (some .int) 3 := ⟨gw_tab (i := 820) (by decide +kernel) rfl, gw_tab (i := 6) (by decide +kernel) rfl, ⟨by decide, by decide⟩, by decide +kernel, by decide⟩
theorem mv_X0_names : mjYV yX0_names := ⟨gw_tab (i := 819) (by decide +kernel) rfl, gw_sel (n := 5) (i := 61) (by decide +kernel)⟩
theorem my_X0_points : mjY yX0_points cX0_points 4 (some .int) 3 := ⟨gw_tab (i := 811) (by decide +kernel) rfl, gw_tab (i := 6) (by decide +kernel) rfl, ⟨by decide, by decide⟩, by decide +kernel, by decide⟩
theorem mv_X0_points : mjYV yX0_points := ⟨gw_tab (i := 810) (by decide +kernel) rfl, gw_sel (n := 5) (i := 59) (by decide +kernel)⟩
theorem my_X0_standAt : mjY yX0_standAt cX0_standAt 4 none 3 := ⟨gw_tab (i := 807) (by decide +kernel) rfl, gw_tab (i := 6) (by decide +kernel) rfl, ⟨by decide, by decide⟩, by decide +kernel, by decide⟩
theorem mv_X0_standAt : mjYV yX0_standAt := ⟨gw_tab (i := 806) (by decide +kernel) rfl, gw_sel (n := 5) (i := 58) (by decide +kernel)⟩
theorem my_X0_tells : mjY yX0_tells cX0_tells 4 (some .int) 3 := ⟨gw_tab (i := 825) (by decide +kernel) rfl, gw_tab (i := 6) (by decide +kernel) rfl, ⟨by decide, by decide⟩, by decide +kernel, by decide⟩
theorem mv_X0_tells : mjYV yX0_tells := ⟨gw_tab (i := 824) (by decide +kernel) rfl, gw_sel (n := 5) (i := 62) (by decide +kernel)⟩
theorem my_X1_aimAt : mjY yX1_aimAt cX1_aimAt 3 (some .int) 2 := ⟨gw_tab (i := 375) (by decide +kernel) rfl, gw_tab (i := 2) (by decide +kernel) rfl, ⟨by decide, by decide⟩, by decide +kernel, by decide⟩
theorem mv_X1_aimAt : mjYV yX1_aimAt := ⟨gw_tab (i := 374) (by decide +kernel) rfl, gw_sel (n := 15) (i := 15) (by decide +kernel)⟩
theorem my_X1_allWays : mjY yX1_allWays cX1_allWays 4 (some .int) 0 := ⟨gw_tab (i := 730) (by decide +kernel) rfl, gw_tab (i := 2) (by decide +kernel) rfl, ⟨by decide, by decide⟩, by decide +kernel, by decide⟩
theorem mv_X1_allWays : mjYV yX1_allWays := ⟨gw_tab (i := 729) (by decide +kernel) rfl, gw_sel (n := 15) (i := 52) (by decide +kernel)⟩
theorem my_X1_behind : mjY yX1_behind cX1_behind 2 (some .int) 1 := ⟨gw_tab (i := 702) (by decide +kernel) rfl, gw_tab (i := 2) (by decide +kernel) rfl, ⟨by decide, by decide⟩, by decide +kernel, by decide⟩
theorem mv_X1_behind : mjYV yX1_behind := ⟨gw_tab (i := 701) (by decide +kernel) rfl, gw_sel (n := 15) (i := 49) (by decide +kernel)⟩
theorem my_X1_capitalOf : mjY yX1_capitalOf cX1_capitalOf 2 (some .int) 1 := ⟨gw_tab (i := 383) (by decide +kernel) rfl, gw_tab (i := 2) (by decide +kernel) rfl, ⟨by decide, by decide⟩, by decide +kernel, by decide⟩
theorem mv_X1_capitalOf : mjYV yX1_capitalOf := ⟨gw_tab (i := 382) (by decide +kernel) rfl, gw_sel (n := 15) (i := 17) (by decide +kernel)⟩
theorem my_X1_dropFalseArm : mjY yX1_dropFalseArm cX1_dropFalseArm 1 none 0 := ⟨gw_tab (i := 706) (by decide +kernel) rfl, gw_tab (i := 2) (by decide +kernel) rfl, ⟨by decide, by decide⟩, by decide +kernel, by decide⟩
theorem mv_X1_dropFalseArm : mjYV yX1_dropFalseArm := ⟨gw_tab (i := 705) (by decide +kernel) rfl, gw_sel (n := 15) (i := 50) (by decide +kernel)⟩
theorem my_X1_findLongs : mjY yX1_findLongs cX1_findLongs 4 none 0 := ⟨gw_tab (i := 346) (by decide +kernel) rfl, gw_tab (i := 2) (by decide +kernel) rfl, ⟨by decide, by decide⟩, by decide +kernel, by decide⟩
theorem mv_X1_findLongs : mjYV yX1_findLongs := ⟨gw_tab (i := 345) (by decide +kernel) rfl, gw_sel (n := 15) (i := 9) (by decide +kernel)⟩
theorem my_X1_findSizes : mjY yX1_findSizes cX1_findSizes 3 none 1 := ⟨gw_tab (i := 314) (by decide +kernel) rfl, gw_tab (i := 2) (by decide +kernel) rfl, ⟨by decide, by decide⟩, by decide +kernel, by decide⟩
theorem mv_X1_findSizes : mjYV yX1_findSizes := ⟨gw_tab (i := 313) (by decide +kernel) rfl, gw_sel (n := 15) (i := 4) (by decide +kernel)⟩
theorem my_X1_findSteps : mjY yX1_findSteps cX1_findSteps 4 none 0 := ⟨gw_tab (i := 371) (by decide +kernel) rfl, gw_tab (i := 2) (by decide +kernel) rfl, ⟨by decide, by decide⟩, by decide +kernel, by decide⟩
theorem mv_X1_findSteps : mjYV yX1_findSteps := ⟨gw_tab (i := 370) (by decide +kernel) rfl, gw_sel (n := 15) (i := 14) (by decide +kernel)⟩
theorem my_X1_findTowards : mjY yX1_findTowards cX1_findTowards 3 none 0 := ⟨gw_tab (i := 359) (by decide +kernel) rfl, gw_tab (i := 2) (by decide +kernel) rfl, ⟨by decide, by decide⟩, by decide +kernel, by decide⟩
theorem mv_X1_findTowards : mjYV yX1_findTowards := ⟨gw_tab (i := 358) (by decide +kernel) rfl, gw_sel (n := 15) (i := 11) (by decide +kernel)⟩
theorem my_X1_findWays : mjY yX1_findWays cX1_findWays 5 none 0 := ⟨gw_tab (i := 354) (by decide +kernel) rfl, gw_tab (i := 2) (by decide +kernel) rfl, ⟨by decide, by decide⟩, by decide +kernel, by decide⟩
theorem mv_X1_findWays : mjYV yX1_findWays := ⟨gw_tab (i := 353) (by decide +kernel) rfl, gw_sel (n := 15) (i := 10) (by decide +kernel)⟩
theorem my_X1_firstOfWay : mjY yX1_firstOfWay cX1_firstOfWay 5 (some .int) 2 := ⟨gw_tab (i := 363) (by decide +kernel) rfl, gw_tab (i := 2) (by decide +kernel) rfl, ⟨by decide, by decide⟩, by decide +kernel, by decide⟩
theorem mv_X1_firstOfWay : mjYV yX1_firstOfWay := ⟨gw_tab (i := 362) (by decide +kernel) rfl, gw_sel (n := 15) (i := 12) (by decide +kernel)⟩
theorem my_X1_greatestNamed : mjY yX1_greatestNamed cX1_greatestNamed 5 (some .int) 1 := ⟨gw_tab (i := 395) (by decide +kernel) rfl, gw_tab (i := 2) (by decide +kernel) rfl, ⟨by decide, by decide⟩, by decide +kernel, by decide⟩
theorem mv_X1_greatestNamed : mjYV yX1_greatestNamed := ⟨gw_tab (i := 394) (by decide +kernel) rfl, gw_sel (n := 15) (i := 20) (by decide +kernel)⟩
theorem my_X1_lastNamed : mjY yX1_lastNamed cX1_lastNamed 3 (some .int) 1 := ⟨gw_tab (i := 399) (by decide +kernel) rfl, gw_tab (i := 2) (by decide +kernel) rfl, ⟨by decide, by decide⟩, by decide +kernel, by decide⟩
theorem mv_X1_lastNamed : mjYV yX1_lastNamed := ⟨gw_tab (i := 398) (by decide +kernel) rfl, gw_sel (n := 15) (i := 21) (by decide +kernel)⟩
theorem my_X1_leads : mjY yX1_leads cX1_leads 3 (some .boolean) 2 := ⟨gw_tab (i := 367) (by decide +kernel) rfl, gw_tab (i := 2) (by decide +kernel) rfl, ⟨by decide, by decide⟩, by decide +kernel, by decide⟩
theorem mv_X1_leads : mjYV yX1_leads := ⟨gw_tab (i := 366) (by decide +kernel) rfl, gw_sel (n := 15) (i := 13) (by decide +kernel)⟩
theorem my_X1_leastNamed : mjY yX1_leastNamed cX1_leastNamed 3 (some .int) 1 := ⟨gw_tab (i := 387) (by decide +kernel) rfl, gw_tab (i := 2) (by decide +kernel) rfl, ⟨by decide, by decide⟩, by decide +kernel, by decide⟩
theorem mv_X1_leastNamed : mjYV yX1_leastNamed := ⟨gw_tab (i := 386) (by decide +kernel) rfl, gw_sel (n := 15) (i := 18) (by decide +kernel)⟩
theorem my_X1_longestPair : mjY yX1_longestPair cX1_longestPair 5 (some .int) 0 := ⟨gw_tab (i := 674) (by decide +kernel) rfl, gw_tab (i := 2) (by decide +kernel) rfl, ⟨by decide, by decide⟩, by decide +kernel, by decide⟩
theorem mv_X1_longestPair : mjYV yX1_longestPair := ⟨gw_tab (i := 673) (by decide +kernel) rfl, gw_sel (n := 15) (i := 45) (by decide +kernel)⟩
theorem my_X1_lostPairs : mjY yX1_lostPairs cX1_lostPairs 4 (some .int) 0 := ⟨gw_tab (i := 666) (by decide +kernel) rfl, gw_tab (i := 2) (by decide +kernel) rfl, ⟨by decide, by decide⟩, by decide +kernel, by decide⟩
theorem mv_X1_lostPairs : mjYV yX1_lostPairs := ⟨gw_tab (i := 665) (by decide +kernel) rfl, gw_sel (n := 15) (i := 44) (by decide +kernel)⟩
theorem my_X1_lostTravellers : mjY yX1_lostTravellers cX1_lostTravellers 3 (some .int) 0 := ⟨gw_tab (i := 661) (by decide +kernel) rfl, gw_tab (i := 2) (by decide +kernel) rfl, ⟨by decide, by decide⟩, by decide +kernel, by decide⟩
theorem mv_X1_lostTravellers : mjYV yX1_lostTravellers := ⟨gw_tab (i := 660) (by decide +kernel) rfl, gw_sel (n := 15) (i := 43) (by decide +kernel)⟩
theorem my_X1_nearestNamed : mjY yX1_nearestNamed cX1_nearestNamed 5 (some .int) 1 := ⟨gw_tab (i := 391) (by decide +kernel) rfl, gw_tab (i := 2) (by decide +kernel) rfl, ⟨by decide, by decide⟩, by decide +kernel, by decide⟩
theorem mv_X1_nearestNamed : mjYV yX1_nearestNamed := ⟨gw_tab (i := 390) (by decide +kernel) rfl, gw_sel (n := 15) (i := 19) (by decide +kernel)⟩
theorem my_X1_setFalseArm : mjY yX1_setFalseArm cX1_setFalseArm 3 none 2 := ⟨gw_tab (i := 698) (by decide +kernel) rfl, gw_tab (i := 2) (by decide +kernel) rfl, ⟨by decide, by decide⟩, by decide +kernel, by decide⟩
theorem mv_X1_setFalseArm : mjYV yX1_setFalseArm := ⟨gw_tab (i := 697) (by decide +kernel) rfl, gw_sel (n := 15) (i := 48) (by decide +kernel)⟩
theorem my_X1_sharesAt : mjY yX1_sharesAt cX1_sharesAt 6 (some .long) 3 := ⟨gw_tab (i := 747) (by decide +kernel) rfl, gw_tab (i := 2) (by decide +kernel) rfl, ⟨by decide, by decide⟩, by decide +kernel, by decide⟩
theorem mv_X1_sharesAt : mjYV yX1_sharesAt := ⟨gw_tab (i := 746) (by decide +kernel) rfl, gw_sel (n := 15) (i := 54) (by decide +kernel)⟩
theorem my_X1_spread : mjY yX1_spread cX1_spread 5 none 1 := ⟨gw_tab (i := 754) (by decide +kernel) rfl, gw_tab (i := 2) (by decide +kernel) rfl, ⟨by decide, by decide⟩, by decide +kernel, by decide⟩
theorem mv_X1_spread : mjYV yX1_spread := ⟨gw_tab (i := 753) (by decide +kernel) rfl, gw_sel (n := 15) (i := 55) (by decide +kernel)⟩
theorem my_X1_walk : mjY yX1_walk cX1_walk 6 (some .int) 2 := ⟨gw_tab (i := 653) (by decide +kernel) rfl, gw_tab (i := 2) (by decide +kernel) rfl, ⟨by decide, by decide⟩, by decide +kernel, by decide⟩
theorem mv_X1_walk : mjYV yX1_walk := ⟨gw_tab (i := 652) (by decide +kernel) rfl, gw_sel (n := 15) (i := 42) (by decide +kernel)⟩
theorem my_X2_addClause : mjY yX2_addClause cX2_addClause 3 none 2 := ⟨gw_tab (i := 616) (by decide +kernel) rfl, gw_tab (i := 4) (by decide +kernel) rfl, ⟨by decide, by decide⟩, by decide +kernel, by decide⟩
theorem mv_X2_addClause : mjYV yX2_addClause := ⟨gw_tab (i := 615) (by decide +kernel) rfl, gw_sel (n := 7) (i := 39) (by decide +kernel)⟩
theorem my_X2_addCode : mjY yX2_addCode cX2_addCode 2 none 1 := ⟨gw_tab (i := 611) (by decide +kernel) rfl, gw_tab (i := 4) (by decide +kernel) rfl, ⟨by decide, by decide⟩, by decide +kernel, by decide⟩
theorem mv_X2_addCode : mjYV yX2_addCode := ⟨gw_tab (i := 610) (by decide +kernel) rfl, gw_sel (n := 7) (i := 38) (by decide +kernel)⟩
theorem my_X2_addTest : mjY yX2_addTest cX2_addTest 4 none 3 := ⟨gw_tab (i := 607) (by decide +kernel) rfl, gw_tab (i := 4) (by decide +kernel) rfl, ⟨by decide, by decide⟩, by decide +kernel, by decide⟩
theorem mv_X2_addTest : mjYV yX2_addTest := ⟨gw_tab (i := 606) (by decide +kernel) rfl, gw_sel (n := 7) (i := 37) (by decide +kernel)⟩
theorem my_X2_clear : mjY yX2_clear cX2_clear 1 none 0 := ⟨gw_tab (i := 459) (by decide +kernel) rfl, gw_tab (i := 4) (by decide +kernel) rfl, ⟨by decide, by decide⟩, by decide +kernel, by decide⟩
theorem mv_X2_clear : mjYV yX2_clear := ⟨gw_tab (i := 458) (by decide +kernel) rfl, gw_sel (n := 7) (i := 28) (by decide +kernel)⟩
theorem my_X2_holds : mjY yX2_holds cX2_holds 7 (some .boolean) 3 := ⟨gw_tab (i := 339) (by decide +kernel) rfl, gw_tab (i := 4) (by decide +kernel) rfl, ⟨by decide, by decide⟩, by decide +kernel, by decide⟩
theorem mv_X2_holds : mjYV yX2_holds := ⟨gw_tab (i := 338) (by decide +kernel) rfl, gw_sel (n := 7) (i := 8) (by decide +kernel)⟩
theorem my_X2_passes : mjY yX2_passes cX2_passes 4 (some .boolean) 2 := ⟨gw_tab (i := 342) (by decide +kernel) rfl, gw_tab (i := 4) (by decide +kernel) rfl, ⟨by decide, by decide⟩, by decide +kernel, by decide⟩
theorem sy_X2_passes : Cond.static yX2_passes ∈ gw_tbl := gw_tab (i := 341) (by decide +kernel) rfl
theorem my_X2_together : mjY yX2_together cX2_together 6 (some .int) 2 := ⟨gw_tab (i := 335) (by decide +kernel) rfl, gw_tab (i := 4) (by decide +kernel) rfl, ⟨by decide, by decide⟩, by decide +kernel, by decide⟩
theorem mv_X2_together : mjYV yX2_together := ⟨gw_tab (i := 334) (by decide +kernel) rfl, gw_sel (n := 7) (i := 7) (by decide +kernel)⟩
theorem my_X3_addSign : mjY yX3_addSign cX3_addSign 2 (some .int) 1 := ⟨gw_tab (i := 447) (by decide +kernel) rfl, gw_tab (i := 5) (by decide +kernel) rfl, ⟨by decide, by decide⟩, by decide +kernel, by decide⟩
theorem mv_X3_addSign : mjYV yX3_addSign := ⟨gw_tab (i := 446) (by decide +kernel) rfl, gw_sel (n := 4) (i := 26) (by decide +kernel)⟩
theorem my_X3_ahead : mjY yX3_ahead cX3_ahead 1 (some .char) 0 := ⟨gw_tab (i := 467) (by decide +kernel) rfl, gw_tab (i := 5) (by decide +kernel) rfl, ⟨by decide, by decide⟩, by decide +kernel, by decide⟩
theorem mv_X3_ahead : mjYV yX3_ahead := ⟨gw_tab (i := 466) (by decide +kernel) rfl, gw_sel (n := 4) (i := 30) (by decide +kernel)⟩
theorem my_X3_empty : mjY yX3_empty cX3_empty 1 none 0 := ⟨gw_tab (i := 620) (by decide +kernel) rfl, gw_tab (i := 5) (by decide +kernel) rfl, ⟨by decide, by decide⟩, by decide +kernel, by decide⟩
theorem mv_X3_empty : mjYV yX3_empty := ⟨gw_tab (i := 619) (by decide +kernel) rfl, gw_sel (n := 4) (i := 40) (by decide +kernel)⟩
theorem my_X3_faultOf : mjY yX3_faultOf cX3_faultOf 3 (some .int) 1 := ⟨gw_tab (i := 455) (by decide +kernel) rfl, gw_tab (i := 5) (by decide +kernel) rfl, ⟨by decide, by decide⟩, by decide +kernel, by decide⟩
theorem mv_X3_faultOf : mjYV yX3_faultOf := ⟨gw_tab (i := 454) (by decide +kernel) rfl, gw_sel (n := 4) (i := 27) (by decide +kernel)⟩
theorem my_X3_readsClause : mjY yX3_readsClause cX3_readsClause 3 (some .boolean) 0 := ⟨gw_tab (i := 471) (by decide +kernel) rfl, gw_tab (i := 5) (by decide +kernel) rfl, ⟨by decide, by decide⟩, by decide +kernel, by decide⟩
theorem mv_X3_readsClause : mjYV yX3_readsClause := ⟨gw_tab (i := 470) (by decide +kernel) rfl, gw_sel (n := 4) (i := 31) (by decide +kernel)⟩
theorem my_X3_readsEither : mjY yX3_readsEither cX3_readsEither 5 (some .boolean) 1 := ⟨gw_tab (i := 593) (by decide +kernel) rfl, gw_tab (i := 5) (by decide +kernel) rfl, ⟨by decide, by decide⟩, by decide +kernel, by decide⟩
theorem mv_X3_readsEither : mjYV yX3_readsEither := ⟨gw_tab (i := 592) (by decide +kernel) rfl, gw_sel (n := 4) (i := 34) (by decide +kernel)⟩
theorem my_X3_readsPart : mjY yX3_readsPart cX3_readsPart 3 (some .boolean) 1 := ⟨gw_tab (i := 597) (by decide +kernel) rfl, gw_tab (i := 5) (by decide +kernel) rfl, ⟨by decide, by decide⟩, by decide +kernel, by decide⟩
theorem mv_X3_readsPart : mjYV yX3_readsPart := ⟨gw_tab (i := 596) (by decide +kernel) rfl, gw_sel (n := 4) (i := 35) (by decide +kernel)⟩
theorem my_X3_readsTest : mjY yX3_readsTest cX3_readsTest 4 (some .boolean) 0 := ⟨gw_tab (i := 601) (by decide +kernel) rfl, gw_tab (i := 5) (by decide +kernel) rfl, ⟨by decide, by decide⟩, by decide +kernel, by decide⟩
theorem mv_X3_readsTest : mjYV yX3_readsTest := ⟨gw_tab (i := 600) (by decide +kernel) rfl, gw_sel (n := 4) (i := 36) (by decide +kernel)⟩
theorem my_X3_takeNumber : mjY yX3_takeNumber cX3_takeNumber 3 (some .int) 0 := ⟨gw_tab (i := 588) (by decide +kernel) rfl, gw_tab (i := 5) (by decide +kernel) rfl, ⟨by decide, by decide⟩, by decide +kernel, by decide⟩
theorem mv_X3_takeNumber : mjYV yX3_takeNumber := ⟨gw_tab (i := 587) (by decide +kernel) rfl, gw_sel (n := 4) (i := 33) (by decide +kernel)⟩
theorem my_X3_takes : mjY yX3_takes cX3_takes 2 (some .boolean) 1 := ⟨gw_tab (i := 463) (by decide +kernel) rfl, gw_tab (i := 5) (by decide +kernel) rfl, ⟨by decide, by decide⟩, by decide +kernel, by decide⟩
theorem mv_X3_takes : mjYV yX3_takes := ⟨gw_tab (i := 462) (by decide +kernel) rfl, gw_sel (n := 4) (i := 29) (by decide +kernel)⟩
theorem my_X3_takesWord : mjY yX3_takesWord cX3_takesWord 3 (some .boolean) 1 := ⟨gw_tab (i := 563) (by decide +kernel) rfl, gw_tab (i := 5) (by decide +kernel) rfl, ⟨by decide, by decide⟩, by decide +kernel, by decide⟩
theorem mv_X3_takesWord : mjYV yX3_takesWord := ⟨gw_tab (i := 562) (by decide +kernel) rfl, gw_sel (n := 4) (i := 32) (by decide +kernel)⟩
theorem my_X4_asItem : mjY yX4_asItem cX4_asItem 3 (some .long) 1 := ⟨gw_tab (i := 864) (by decide +kernel) rfl, gw_tab (i := 7) (by decide +kernel) rfl, ⟨by decide, by decide⟩, by decide +kernel, by decide⟩
theorem mv_X4_asItem : mjYV yX4_asItem := ⟨gw_tab (i := 863) (by decide +kernel) rfl, gw_sel (n := 3) (i := 65) (by decide +kernel)⟩
theorem my_X4_become : mjY yX4_become cX4_become 3 none 2 := ⟨gw_tab (i := 851) (by decide +kernel) rfl, gw_tab (i := 7) (by decide +kernel) rfl, ⟨by decide, by decide⟩, by decide +kernel, by decide⟩
theorem mv_X4_become : mjYV yX4_become := ⟨gw_tab (i := 850) (by decide +kernel) rfl, gw_sel (n := 3) (i := 63) (by decide +kernel)⟩
theorem my_X4_spans : mjY yX4_spans cX4_spans 3 (some .boolean) 2 := ⟨gw_tab (i := 860) (by decide +kernel) rfl, gw_tab (i := 7) (by decide +kernel) rfl, ⟨by decide, by decide⟩, by decide +kernel, by decide⟩
theorem mv_X4_spans : mjYV yX4_spans := ⟨gw_tab (i := 859) (by decide +kernel) rfl, gw_sel (n := 3) (i := 64) (by decide +kernel)⟩
theorem my_X5_addPlace : mjY yX5_addPlace cX5_addPlace 5 (some .int) 3 := ⟨gw_tab (i := 294) (by decide +kernel) rfl, gw_tab (i := 3) (by decide +kernel) rfl, ⟨by decide, by decide⟩, by decide +kernel, by decide⟩
theorem mv_X5_addPlace : mjYV yX5_addPlace := ⟨gw_tab (i := 293) (by decide +kernel) rfl, gw_sel (n := 13) (i := 0) (by decide +kernel)⟩
theorem my_X5_addTraveller : mjY yX5_addTraveller cX5_addTraveller 5 (some .int) 3 := ⟨gw_tab (i := 439) (by decide +kernel) rfl, gw_tab (i := 3) (by decide +kernel) rfl, ⟨by decide, by decide⟩, by decide +kernel, by decide⟩
theorem mv_X5_addTraveller : mjYV yX5_addTraveller := ⟨gw_tab (i := 438) (by decide +kernel) rfl, gw_sel (n := 13) (i := 25) (by decide +kernel)⟩
theorem my_X5_becomeAs : mjY yX5_becomeAs cX5_becomeAs 2 none 1 := ⟨gw_tab (i := 790) (by decide +kernel) rfl, gw_tab (i := 3) (by decide +kernel) rfl, ⟨by decide, by decide⟩, by decide +kernel, by decide⟩
theorem mv_X5_becomeAs : mjYV yX5_becomeAs := ⟨gw_tab (i := 789) (by decide +kernel) rfl, gw_sel (n := 13) (i := 56) (by decide +kernel)⟩
theorem my_X5_comeToBy : mjY yX5_comeToBy cX5_comeToBy 7 (some .int) 2 := ⟨gw_tab (i := 714) (by decide +kernel) rfl, gw_tab (i := 3) (by decide +kernel) rfl, ⟨by decide, by decide⟩, by decide +kernel, by decide⟩
theorem mv_X5_comeToBy : mjYV yX5_comeToBy := ⟨gw_tab (i := 713) (by decide +kernel) rfl, gw_sel (n := 13) (i := 51) (by decide +kernel)⟩
theorem my_X5_countNames : mjY yX5_countNames cX5_countNames 3 (some .int) 0 := ⟨gw_tab (i := 629) (by decide +kernel) rfl, gw_tab (i := 3) (by decide +kernel) rfl, ⟨by decide, by decide⟩, by decide +kernel, by decide⟩
theorem mv_X5_countNames : mjYV yX5_countNames := ⟨gw_tab (i := 628) (by decide +kernel) rfl, gw_sel (n := 13) (i := 41) (by decide +kernel)⟩
theorem my_X5_has : mjY yX5_has cX5_has 2 (some .boolean) 1 := ⟨gw_tab (i := 302) (by decide +kernel) rfl, gw_tab (i := 3) (by decide +kernel) rfl, ⟨by decide, by decide⟩, by decide +kernel, by decide⟩
theorem mv_X5_has : mjYV yX5_has := ⟨gw_tab (i := 301) (by decide +kernel) rfl, gw_sel (n := 13) (i := 1) (by decide +kernel)⟩
theorem my_X5_names : mjY yX5_names cX5_names 3 (some .boolean) 2 := ⟨gw_tab (i := 379) (by decide +kernel) rfl, gw_tab (i := 3) (by decide +kernel) rfl, ⟨by decide, by decide⟩, by decide +kernel, by decide⟩
theorem mv_X5_names : mjYV yX5_names := ⟨gw_tab (i := 378) (by decide +kernel) rfl, gw_sel (n := 13) (i := 16) (by decide +kernel)⟩
theorem my_X5_roadsOf : mjY yX5_roadsOf cX5_roadsOf 4 (some .int) 1 := ⟨gw_tab (i := 328) (by decide +kernel) rfl, gw_tab (i := 3) (by decide +kernel) rfl, ⟨by decide, by decide⟩, by decide +kernel, by decide⟩
theorem mv_X5_roadsOf : mjYV yX5_roadsOf := ⟨gw_tab (i := 327) (by decide +kernel) rfl, gw_sel (n := 13) (i := 6) (by decide +kernel)⟩
theorem my_X5_setMiles : mjY yX5_setMiles cX5_setMiles 4 none 3 := ⟨gw_tab (i := 409) (by decide +kernel) rfl, gw_tab (i := 3) (by decide +kernel) rfl, ⟨by decide, by decide⟩, by decide +kernel, by decide⟩
theorem mv_X5_setMiles : mjYV yX5_setMiles := ⟨gw_tab (i := 408) (by decide +kernel) rfl, gw_sel (n := 13) (i := 22) (by decide +kernel)⟩
theorem my_X5_tellFacts : mjY yX5_tellFacts cX5_tellFacts 3 none 2 := ⟨gw_tab (i := 318) (by decide +kernel) rfl, gw_tab (i := 3) (by decide +kernel) rfl, ⟨by decide, by decide⟩, by decide +kernel, by decide⟩
theorem mv_X5_tellFacts : mjYV yX5_tellFacts := ⟨gw_tab (i := 317) (by decide +kernel) rfl, gw_sel (n := 13) (i := 5) (by decide +kernel)⟩
theorem my_X5_turnName : mjY yX5_turnName cX5_turnName 3 none 2 := ⟨gw_tab (i := 427) (by decide +kernel) rfl, gw_tab (i := 3) (by decide +kernel) rfl, ⟨by decide, by decide⟩, by decide +kernel, by decide⟩
theorem mv_X5_turnName : mjYV yX5_turnName := ⟨gw_tab (i := 426) (by decide +kernel) rfl, gw_sel (n := 13) (i := 24) (by decide +kernel)⟩
theorem my_X6_allWaysWith : mjY yX6_allWaysWith cX6_allWaysWith 5 (some .int) 3 := ⟨gw_tab (i := 734) (by decide +kernel) rfl, gw_tab (i := 1) (by decide +kernel) rfl, ⟨by decide, by decide⟩, by decide +kernel, by decide⟩
theorem mv_X6_allWaysWith : mjYV yX6_allWaysWith := ⟨gw_tab (i := 733) (by decide +kernel) rfl, gw_sel (n := 10) (i := 53) (by decide +kernel)⟩
theorem my_X6_bestTurn : mjY yX6_bestTurn cX6_bestTurn 8 (some .int) 2 := ⟨gw_tab (i := 682) (by decide +kernel) rfl, gw_tab (i := 1) (by decide +kernel) rfl, ⟨by decide, by decide⟩, by decide +kernel, by decide⟩
theorem mv_X6_bestTurn : mjYV yX6_bestTurn := ⟨gw_tab (i := 681) (by decide +kernel) rfl, gw_sel (n := 10) (i := 46) (by decide +kernel)⟩
theorem my_X6_hasArmFree : mjY yX6_hasArmFree cX6_hasArmFree 2 (some .boolean) 1 := ⟨gw_tab (i := 422) (by decide +kernel) rfl, gw_tab (i := 1) (by decide +kernel) rfl, ⟨by decide, by decide⟩, by decide +kernel, by decide⟩
theorem mv_X6_hasArmFree : mjYV yX6_hasArmFree := ⟨gw_tab (i := 421) (by decide +kernel) rfl, gw_sel (n := 10) (i := 23) (by decide +kernel)⟩
theorem my_X6_holding : mjY yX6_holding cX6_holding 1 (some (.object "NamesBack$Land")) 0 := ⟨gw_tab (i := 310) (by decide +kernel) rfl, gw_tab (i := 1) (by decide +kernel) rfl, ⟨by decide, by decide⟩, by decide +kernel, by decide⟩
theorem mv_X6_holding : mjYV yX6_holding := ⟨gw_tab (i := 309) (by decide +kernel) rfl, gw_sel (n := 10) (i := 3) (by decide +kernel)⟩
theorem my_X6_inLowestTerms : mjY yX6_inLowestTerms cX6_inLowestTerms 12 (some .long) 3 := ⟨gw_tab (i := 763) (by decide +kernel) rfl, gw_tab (i := 1) (by decide +kernel) rfl, ⟨by decide, by decide⟩, by decide +kernel, by decide⟩
theorem sy_X6_inLowestTerms : Cond.static yX6_inLowestTerms ∈ gw_tbl := gw_tab (i := 762) (by decide +kernel) rfl
theorem my_X6_index : mjY yX6_index cX6_index 2 (some .int) 2 := ⟨gw_tab (i := 331) (by decide +kernel) rfl, gw_tab (i := 1) (by decide +kernel) rfl, ⟨by decide, by decide⟩, by decide +kernel, by decide⟩
theorem sy_X6_index : Cond.static yX6_index ∈ gw_tbl := gw_tab (i := 330) (by decide +kernel) rfl
theorem my_X6_isPart : mjY yX6_isPart cX6_isPart 1 (some .boolean) 1 := ⟨gw_tab (i := 649) (by decide +kernel) rfl, gw_tab (i := 1) (by decide +kernel) rfl, ⟨by decide, by decide⟩, by decide +kernel, by decide⟩
theorem sy_X6_isPart : Cond.static yX6_isPart ∈ gw_tbl := gw_tab (i := 648) (by decide +kernel) rfl
theorem my_X6_isTape : mjY yX6_isTape cX6_isTape 1 (some .boolean) 1 := ⟨gw_tab (i := 782) (by decide +kernel) rfl, gw_tab (i := 1) (by decide +kernel) rfl, ⟨by decide, by decide⟩, by decide +kernel, by decide⟩
theorem sy_X6_isTape : Cond.static yX6_isTape ∈ gw_tbl := gw_tab (i := 781) (by decide +kernel) rfl
theorem my_X6_isUnder : mjY yX6_isUnder cX6_isUnder 4 (some .boolean) 2 := ⟨gw_tab (i := 837) (by decide +kernel) rfl, gw_tab (i := 1) (by decide +kernel) rfl, ⟨by decide, by decide⟩, by decide +kernel, by decide⟩
theorem sy_X6_isUnder : Cond.static yX6_isUnder ∈ gw_tbl := gw_tab (i := 836) (by decide +kernel) rfl
theorem my_X6_look : mjY yX6_look cX6_look 1 (some (.object "NamesBack$Journeys")) 0 := ⟨gw_tab (i := 306) (by decide +kernel) rfl, gw_tab (i := 1) (by decide +kernel) rfl, ⟨by decide, by decide⟩, by decide +kernel, by decide⟩
theorem mv_X6_look : mjYV yX6_look := ⟨gw_tab (i := 305) (by decide +kernel) rfl, gw_sel (n := 10) (i := 2) (by decide +kernel)⟩
theorem my_X6_mayName : mjY yX6_mayName cX6_mayName 3 (some .boolean) 2 := ⟨gw_tab (i := 686) (by decide +kernel) rfl, gw_tab (i := 1) (by decide +kernel) rfl, ⟨by decide, by decide⟩, by decide +kernel, by decide⟩
theorem mv_X6_mayName : mjYV yX6_mayName := ⟨gw_tab (i := 685) (by decide +kernel) rfl, gw_sel (n := 10) (i := 47) (by decide +kernel)⟩
theorem my_X7_allWays : mjY yX7_allWays cX7_allWays 4 (some .int) 0 := ⟨gw_tab (i := 1328) (by decide +kernel) rfl, gw_tab (i := 8) (by decide +kernel) rfl, ⟨by decide, by decide⟩, by decide +kernel, by decide⟩
theorem mv_X7_allWays : mjYV yX7_allWays := ⟨gw_tab (i := 1327) (by decide +kernel) rfl, gw_sel (n := 61) (i := 108) (by decide +kernel)⟩
theorem my_X7_arePlaces : mjY yX7_arePlaces cX7_arePlaces 3 (some .boolean) 2 := ⟨gw_tab (i := 1080) (by decide +kernel) rfl, gw_tab (i := 8) (by decide +kernel) rfl, ⟨by decide, by decide⟩, by decide +kernel, by decide⟩
theorem mv_X7_arePlaces : mjYV yX7_arePlaces := ⟨gw_tab (i := 1079) (by decide +kernel) rfl, gw_sel (n := 61) (i := 67) (by decide +kernel)⟩
theorem my_X7_armsNow : mjY yX7_armsNow cX7_armsNow 3 (some .int) 0 := ⟨gw_tab (i := 1100) (by decide +kernel) rfl, gw_tab (i := 8) (by decide +kernel) rfl, ⟨by decide, by decide⟩, by decide +kernel, by decide⟩
theorem mv_X7_armsNow : mjYV yX7_armsNow := ⟨gw_tab (i := 1099) (by decide +kernel) rfl, gw_sel (n := 61) (i := 71) (by decide +kernel)⟩
theorem my_X7_begin : mjY yX7_begin cX7_begin 1 (some .int) 0 := ⟨gw_tab (i := 1104) (by decide +kernel) rfl, gw_tab (i := 8) (by decide +kernel) rfl, ⟨by decide, by decide⟩, by decide +kernel, by decide⟩
theorem mv_X7_begin : mjYV yX7_begin := ⟨gw_tab (i := 1103) (by decide +kernel) rfl, gw_sel (n := 61) (i := 72) (by decide +kernel)⟩
theorem my_X7_behind : mjY yX7_behind cX7_behind 1 (some .int) 0 := ⟨gw_tab (i := 1108) (by decide +kernel) rfl, gw_tab (i := 8) (by decide +kernel) rfl, ⟨by decide, by decide⟩, by decide +kernel, by decide⟩
theorem mv_X7_behind : mjYV yX7_behind := ⟨gw_tab (i := 1107) (by decide +kernel) rfl, gw_sel (n := 61) (i := 73) (by decide +kernel)⟩
theorem my_X7_body : mjY yX7_body cX7_body 2 none 1 := ⟨gw_tab (i := 1390) (by decide +kernel) rfl, gw_tab (i := 8) (by decide +kernel) rfl, ⟨by decide, by decide⟩, by decide +kernel, by decide⟩
theorem mv_X7_body : mjYV yX7_body := ⟨gw_tab (i := 1389) (by decide +kernel) rfl, gw_sel (n := 61) (i := 114) (by decide +kernel)⟩
theorem my_X7_chainOf : mjY yX7_chainOf cX7_chainOf 7 (some .int) 2 := ⟨gw_tab (i := 1312) (by decide +kernel) rfl, gw_tab (i := 8) (by decide +kernel) rfl, ⟨by decide, by decide⟩, by decide +kernel, by decide⟩
theorem mv_X7_chainOf : mjYV yX7_chainOf := ⟨gw_tab (i := 1311) (by decide +kernel) rfl, gw_sel (n := 61) (i := 107) (by decide +kernel)⟩
theorem my_X7_divisor : mjY yX7_divisor cX7_divisor 11 (some .long) 2 := ⟨gw_tab (i := 1350) (by decide +kernel) rfl, gw_tab (i := 8) (by decide +kernel) rfl, ⟨by decide, by decide⟩, by decide +kernel, by decide⟩
theorem mv_X7_divisor : mjYV yX7_divisor := ⟨gw_tab (i := 1349) (by decide +kernel) rfl, gw_sel (n := 61) (i := 111) (by decide +kernel)⟩
theorem my_X7_emits : mjY yX7_emits cX7_emits 2 none 1 := ⟨gw_tab (i := 1176) (by decide +kernel) rfl, gw_tab (i := 8) (by decide +kernel) rfl, ⟨by decide, by decide⟩, by decide +kernel, by decide⟩
theorem mv_X7_emits : mjYV yX7_emits := ⟨gw_tab (i := 1175) (by decide +kernel) rfl, gw_sel (n := 61) (i := 86) (by decide +kernel)⟩
theorem my_X7_factOf : mjY yX7_factOf cX7_factOf 3 (some .int) 2 := ⟨gw_tab (i := 1200) (by decide +kernel) rfl, gw_tab (i := 8) (by decide +kernel) rfl, ⟨by decide, by decide⟩, by decide +kernel, by decide⟩
theorem mv_X7_factOf : mjYV yX7_factOf := ⟨gw_tab (i := 1199) (by decide +kernel) rfl, gw_sel (n := 61) (i := 91) (by decide +kernel)⟩
theorem my_X7_goStep : mjY yX7_goStep cX7_goStep 4 none 0 := ⟨gw_tab (i := 1341) (by decide +kernel) rfl, gw_tab (i := 8) (by decide +kernel) rfl, ⟨by decide, by decide⟩, by decide +kernel, by decide⟩
theorem mv_X7_goStep : mjYV yX7_goStep := ⟨gw_tab (i := 1340) (by decide +kernel) rfl, gw_sel (n := 61) (i := 109) (by decide +kernel)⟩
theorem my_X7_goalOf : mjY yX7_goalOf cX7_goalOf 3 (some .int) 2 := ⟨gw_tab (i := 1248) (by decide +kernel) rfl, gw_tab (i := 8) (by decide +kernel) rfl, ⟨by decide, by decide⟩, by decide +kernel, by decide⟩
theorem mv_X7_goalOf : mjYV yX7_goalOf := ⟨gw_tab (i := 1247) (by decide +kernel) rfl, gw_sel (n := 61) (i := 98) (by decide +kernel)⟩
theorem my_X7_goes : mjY yX7_goes cX7_goes 4 (some .boolean) 2 := ⟨gw_tab (i := 1276) (by decide +kernel) rfl, gw_tab (i := 8) (by decide +kernel) rfl, ⟨by decide, by decide⟩, by decide +kernel, by decide⟩
theorem mv_X7_goes : mjYV yX7_goes := ⟨gw_tab (i := 1275) (by decide +kernel) rfl, gw_sel (n := 61) (i := 104) (by decide +kernel)⟩
theorem my_X7_goesText : mjY yX7_goesText cX7_goesText 3 (some .boolean) 1 := ⟨gw_tab (i := 1132) (by decide +kernel) rfl, gw_tab (i := 8) (by decide +kernel) rfl, ⟨by decide, by decide⟩, by decide +kernel, by decide⟩
theorem mv_X7_goesText : mjYV yX7_goesText := ⟨gw_tab (i := 1131) (by decide +kernel) rfl, gw_sel (n := 61) (i := 75) (by decide +kernel)⟩
theorem my_X7_greatestNamed : mjY yX7_greatestNamed cX7_greatestNamed 4 (some .int) 1 := ⟨gw_tab (i := 1256) (by decide +kernel) rfl, gw_tab (i := 8) (by decide +kernel) rfl, ⟨by decide, by decide⟩, by decide +kernel, by decide⟩
theorem mv_X7_greatestNamed : mjYV yX7_greatestNamed := ⟨gw_tab (i := 1255) (by decide +kernel) rfl, gw_sel (n := 61) (i := 100) (by decide +kernel)⟩
theorem my_X7_has : mjY yX7_has cX7_has 3 (some .boolean) 2 := ⟨gw_tab (i := 1092) (by decide +kernel) rfl, gw_tab (i := 8) (by decide +kernel) rfl, ⟨by decide, by decide⟩, by decide +kernel, by decide⟩
theorem mv_X7_has : mjYV yX7_has := ⟨gw_tab (i := 1091) (by decide +kernel) rfl, gw_sel (n := 61) (i := 69) (by decide +kernel)⟩
theorem my_X7_holds : mjY yX7_holds cX7_holds 8 (some .boolean) 2 := ⟨gw_tab (i := 1196) (by decide +kernel) rfl, gw_tab (i := 8) (by decide +kernel) rfl, ⟨by decide, by decide⟩, by decide +kernel, by decide⟩
theorem mv_X7_holds : mjYV yX7_holds := ⟨gw_tab (i := 1195) (by decide +kernel) rfl, gw_sel (n := 61) (i := 90) (by decide +kernel)⟩
theorem my_X7_in : mjY yX7_in cX7_in 4 (some .boolean) 3 := ⟨gw_tab (i := 1072) (by decide +kernel) rfl, gw_tab (i := 8) (by decide +kernel) rfl, ⟨by decide, by decide⟩, by decide +kernel, by decide⟩
theorem mv_X7_in : mjYV yX7_in := ⟨gw_tab (i := 1071) (by decide +kernel) rfl, gw_sel (n := 61) (i := 66) (by decide +kernel)⟩
theorem my_X7_isDigit : mjY yX7_isDigit cX7_isDigit 1 (some .boolean) 0 := ⟨gw_tab (i := 1160) (by decide +kernel) rfl, gw_tab (i := 8) (by decide +kernel) rfl, ⟨by decide, by decide⟩, by decide +kernel, by decide⟩
theorem mv_X7_isDigit : mjYV yX7_isDigit := ⟨gw_tab (i := 1159) (by decide +kernel) rfl, gw_sel (n := 61) (i := 82) (by decide +kernel)⟩
theorem my_X7_isPlace : mjY yX7_isPlace cX7_isPlace 2 (some .boolean) 1 := ⟨gw_tab (i := 1084) (by decide +kernel) rfl, gw_tab (i := 8) (by decide +kernel) rfl, ⟨by decide, by decide⟩, by decide +kernel, by decide⟩
theorem mv_X7_isPlace : mjYV yX7_isPlace := ⟨gw_tab (i := 1083) (by decide +kernel) rfl, gw_sel (n := 61) (i := 68) (by decide +kernel)⟩
theorem my_X7_isTape : mjY yX7_isTape cX7_isTape 2 (some .boolean) 1 := ⟨gw_tab (i := 1370) (by decide +kernel) rfl, gw_tab (i := 8) (by decide +kernel) rfl, ⟨by decide, by decide⟩, by decide +kernel, by decide⟩
theorem mv_X7_isTape : mjYV yX7_isTape := ⟨gw_tab (i := 1369) (by decide +kernel) rfl, gw_sel (n := 61) (i := 112) (by decide +kernel)⟩
theorem my_X7_lastNamed : mjY yX7_lastNamed cX7_lastNamed 3 (some .int) 1 := ⟨gw_tab (i := 1260) (by decide +kernel) rfl, gw_tab (i := 8) (by decide +kernel) rfl, ⟨by decide, by decide⟩, by decide +kernel, by decide⟩
theorem mv_X7_lastNamed : mjYV yX7_lastNamed := ⟨gw_tab (i := 1259) (by decide +kernel) rfl, gw_sel (n := 61) (i := 101) (by decide +kernel)⟩
theorem my_X7_layLand : mjY yX7_layLand cX7_layLand 4 none 0 := ⟨gw_tab (i := 1220) (by decide +kernel) rfl, gw_tab (i := 8) (by decide +kernel) rfl, ⟨by decide, by decide⟩, by decide +kernel, by decide⟩
theorem mv_X7_layLand : mjYV yX7_layLand := ⟨gw_tab (i := 1219) (by decide +kernel) rfl, gw_sel (n := 61) (i := 94) (by decide +kernel)⟩
theorem my_X7_lays : mjY yX7_lays cX7_lays 4 none 3 := ⟨gw_tab (i := 1112) (by decide +kernel) rfl, gw_tab (i := 8) (by decide +kernel) rfl, ⟨by decide, by decide⟩, by decide +kernel, by decide⟩
theorem mv_X7_lays : mjYV yX7_lays := ⟨gw_tab (i := 1111) (by decide +kernel) rfl, gw_sel (n := 61) (i := 74) (by decide +kernel)⟩
theorem my_X7_leastNamed : mjY yX7_leastNamed cX7_leastNamed 3 (some .int) 1 := ⟨gw_tab (i := 1264) (by decide +kernel) rfl, gw_tab (i := 8) (by decide +kernel) rfl, ⟨by decide, by decide⟩, by decide +kernel, by decide⟩
theorem mv_X7_leastNamed : mjYV yX7_leastNamed := ⟨gw_tab (i := 1263) (by decide +kernel) rfl, gw_sel (n := 61) (i := 102) (by decide +kernel)⟩
theorem my_X7_letterOf : mjY yX7_letterOf cX7_letterOf 2 (some .int) 1 := ⟨gw_tab (i := 1172) (by decide +kernel) rfl, gw_tab (i := 8) (by decide +kernel) rfl, ⟨by decide, by decide⟩, by decide +kernel, by decide⟩
theorem mv_X7_letterOf : mjYV yX7_letterOf := ⟨gw_tab (i := 1171) (by decide +kernel) rfl, gw_sel (n := 61) (i := 85) (by decide +kernel)⟩
theorem my_X7_lostMany : mjY yX7_lostMany cX7_lostMany 3 (some .int) 0 := ⟨gw_tab (i := 1284) (by decide +kernel) rfl, gw_tab (i := 8) (by decide +kernel) rfl, ⟨by decide, by decide⟩, by decide +kernel, by decide⟩
theorem mv_X7_lostMany : mjYV yX7_lostMany := ⟨gw_tab (i := 1283) (by decide +kernel) rfl, gw_sel (n := 61) (i := 105) (by decide +kernel)⟩
theorem my_X7_lostPairs : mjY yX7_lostPairs cX7_lostPairs 4 (some .int) 0 := ⟨gw_tab (i := 1288) (by decide +kernel) rfl, gw_tab (i := 8) (by decide +kernel) rfl, ⟨by decide, by decide⟩, by decide +kernel, by decide⟩
theorem mv_X7_lostPairs : mjYV yX7_lostPairs := ⟨gw_tab (i := 1287) (by decide +kernel) rfl, gw_sel (n := 61) (i := 106) (by decide +kernel)⟩
theorem my_X7_lowest : mjY yX7_lowest cX7_lowest 8 (some .long) 3 := ⟨gw_tab (i := 1346) (by decide +kernel) rfl, gw_tab (i := 8) (by decide +kernel) rfl, ⟨by decide, by decide⟩, by decide +kernel, by decide⟩
theorem mv_X7_lowest : mjYV yX7_lowest := ⟨gw_tab (i := 1345) (by decide +kernel) rfl, gw_sel (n := 61) (i := 110) (by decide +kernel)⟩
theorem my_X7_namesAct : mjY yX7_namesAct cX7_namesAct 4 (some .int) 2 := ⟨gw_tab (i := 1398) (by decide +kernel) rfl, gw_tab (i := 8) (by decide +kernel) rfl, ⟨by decide, by decide⟩, by decide +kernel, by decide⟩
theorem mv_X7_namesAct : mjYV yX7_namesAct := ⟨gw_tab (i := 1397) (by decide +kernel) rfl, gw_sel (n := 61) (i := 116) (by decide +kernel)⟩
theorem my_X7_namesNow : mjY yX7_namesNow cX7_namesNow 3 (some .int) 0 := ⟨gw_tab (i := 1212) (by decide +kernel) rfl, gw_tab (i := 8) (by decide +kernel) rfl, ⟨by decide, by decide⟩, by decide +kernel, by decide⟩
theorem mv_X7_namesNow : mjYV yX7_namesNow := ⟨gw_tab (i := 1211) (by decide +kernel) rfl, gw_sel (n := 61) (i := 93) (by decide +kernel)⟩
theorem my_X7_narrow : mjY yX7_narrow cX7_narrow 4 (some .long) 2 := ⟨gw_tab (i := 1438) (by decide +kernel) rfl, gw_tab (i := 8) (by decide +kernel) rfl, ⟨by decide, by decide⟩, by decide +kernel, by decide⟩
theorem mv_X7_narrow : mjYV yX7_narrow := ⟨gw_tab (i := 1437) (by decide +kernel) rfl, gw_sel (n := 61) (i := 121) (by decide +kernel)⟩
theorem my_X7_nearNames : mjY yX7_nearNames cX7_nearNames 3 (some .int) 2 := ⟨gw_tab (i := 1402) (by decide +kernel) rfl, gw_tab (i := 8) (by decide +kernel) rfl, ⟨by decide, by decide⟩, by decide +kernel, by decide⟩
theorem mv_X7_nearNames : mjYV yX7_nearNames := ⟨gw_tab (i := 1401) (by decide +kernel) rfl, gw_sel (n := 61) (i := 117) (by decide +kernel)⟩
theorem my_X7_nearestNamed : mjY yX7_nearestNamed cX7_nearestNamed 4 (some .int) 1 := ⟨gw_tab (i := 1252) (by decide +kernel) rfl, gw_tab (i := 8) (by decide +kernel) rfl, ⟨by decide, by decide⟩, by decide +kernel, by decide⟩
theorem mv_X7_nearestNamed : mjYV yX7_nearestNamed := ⟨gw_tab (i := 1251) (by decide +kernel) rfl, gw_sel (n := 61) (i := 99) (by decide +kernel)⟩
theorem my_X7_nextOf : mjY yX7_nextOf cX7_nextOf 4 (some .int) 2 := ⟨gw_tab (i := 1244) (by decide +kernel) rfl, gw_tab (i := 8) (by decide +kernel) rfl, ⟨by decide, by decide⟩, by decide +kernel, by decide⟩
theorem mv_X7_nextOf : mjYV yX7_nextOf := ⟨gw_tab (i := 1243) (by decide +kernel) rfl, gw_sel (n := 61) (i := 97) (by decide +kernel)⟩
theorem my_X7_ones : mjY yX7_ones cX7_ones 4 (some .int) 1 := ⟨gw_tab (i := 1096) (by decide +kernel) rfl, gw_tab (i := 8) (by decide +kernel) rfl, ⟨by decide, by decide⟩, by decide +kernel, by decide⟩
theorem mv_X7_ones : mjYV yX7_ones := ⟨gw_tab (i := 1095) (by decide +kernel) rfl, gw_sel (n := 61) (i := 70) (by decide +kernel)⟩
theorem my_X7_peek : mjY yX7_peek cX7_peek 1 (some .int) 0 := ⟨gw_tab (i := 1144) (by decide +kernel) rfl, gw_tab (i := 8) (by decide +kernel) rfl, ⟨by decide, by decide⟩, by decide +kernel, by decide⟩
theorem mv_X7_peek : mjYV yX7_peek := ⟨gw_tab (i := 1143) (by decide +kernel) rfl, gw_sel (n := 61) (i := 78) (by decide +kernel)⟩
theorem my_X7_placeNames : mjY yX7_placeNames cX7_placeNames 3 (some .int) 2 := ⟨gw_tab (i := 1406) (by decide +kernel) rfl, gw_tab (i := 8) (by decide +kernel) rfl, ⟨by decide, by decide⟩, by decide +kernel, by decide⟩
theorem mv_X7_placeNames : mjYV yX7_placeNames := ⟨gw_tab (i := 1405) (by decide +kernel) rfl, gw_sel (n := 61) (i := 118) (by decide +kernel)⟩
theorem my_X7_placePoints : mjY yX7_placePoints cX7_placePoints 3 (some .int) 2 := ⟨gw_tab (i := 1394) (by decide +kernel) rfl, gw_tab (i := 8) (by decide +kernel) rfl, ⟨by decide, by decide⟩, by decide +kernel, by decide⟩
theorem mv_X7_placePoints : mjYV yX7_placePoints := ⟨gw_tab (i := 1393) (by decide +kernel) rfl, gw_sel (n := 61) (i := 115) (by decide +kernel)⟩
theorem my_X7_placeTells : mjY yX7_placeTells cX7_placeTells 3 (some .int) 2 := ⟨gw_tab (i := 1414) (by decide +kernel) rfl, gw_tab (i := 8) (by decide +kernel) rfl, ⟨by decide, by decide⟩, by decide +kernel, by decide⟩
theorem mv_X7_placeTells : mjYV yX7_placeTells := ⟨gw_tab (i := 1413) (by decide +kernel) rfl, gw_sel (n := 61) (i := 120) (by decide +kernel)⟩
theorem my_X7_pointsAct : mjY yX7_pointsAct cX7_pointsAct 3 (some .int) 2 := ⟨gw_tab (i := 1386) (by decide +kernel) rfl, gw_tab (i := 8) (by decide +kernel) rfl, ⟨by decide, by decide⟩, by decide +kernel, by decide⟩
theorem mv_X7_pointsAct : mjYV yX7_pointsAct := ⟨gw_tab (i := 1385) (by decide +kernel) rfl, gw_sel (n := 61) (i := 113) (by decide +kernel)⟩
theorem my_X7_roadsOf : mjY yX7_roadsOf cX7_roadsOf 4 (some .int) 1 := ⟨gw_tab (i := 1204) (by decide +kernel) rfl, gw_tab (i := 8) (by decide +kernel) rfl, ⟨by decide, by decide⟩, by decide +kernel, by decide⟩
theorem mv_X7_roadsOf : mjYV yX7_roadsOf := ⟨gw_tab (i := 1203) (by decide +kernel) rfl, gw_sel (n := 61) (i := 92) (by decide +kernel)⟩
theorem my_X7_settle : mjY yX7_settle cX7_settle 2 none 1 := ⟨gw_tab (i := 1184) (by decide +kernel) rfl, gw_tab (i := 8) (by decide +kernel) rfl, ⟨by decide, by decide⟩, by decide +kernel, by decide⟩
theorem mv_X7_settle : mjYV yX7_settle := ⟨gw_tab (i := 1183) (by decide +kernel) rfl, gw_sel (n := 61) (i := 88) (by decide +kernel)⟩
theorem my_X7_shorten : mjY yX7_shorten cX7_shorten 6 none 3 := ⟨gw_tab (i := 1224) (by decide +kernel) rfl, gw_tab (i := 8) (by decide +kernel) rfl, ⟨by decide, by decide⟩, by decide +kernel, by decide⟩
theorem mv_X7_shorten : mjYV yX7_shorten := ⟨gw_tab (i := 1223) (by decide +kernel) rfl, gw_sel (n := 61) (i := 95) (by decide +kernel)⟩
theorem my_X7_sumOf : mjY yX7_sumOf cX7_sumOf 5 (some .int) 2 := ⟨gw_tab (i := 1192) (by decide +kernel) rfl, gw_tab (i := 8) (by decide +kernel) rfl, ⟨by decide, by decide⟩, by decide +kernel, by decide⟩
theorem mv_X7_sumOf : mjYV yX7_sumOf := ⟨gw_tab (i := 1191) (by decide +kernel) rfl, gw_sel (n := 61) (i := 89) (by decide +kernel)⟩
theorem my_X7_takes : mjY yX7_takes cX7_takes 2 (some .boolean) 1 := ⟨gw_tab (i := 1152) (by decide +kernel) rfl, gw_tab (i := 8) (by decide +kernel) rfl, ⟨by decide, by decide⟩, by decide +kernel, by decide⟩
theorem mv_X7_takes : mjYV yX7_takes := ⟨gw_tab (i := 1151) (by decide +kernel) rfl, gw_sel (n := 61) (i := 80) (by decide +kernel)⟩
theorem my_X7_takesClause : mjY yX7_takesClause cX7_takesClause 2 (some .boolean) 1 := ⟨gw_tab (i := 1136) (by decide +kernel) rfl, gw_tab (i := 8) (by decide +kernel) rfl, ⟨by decide, by decide⟩, by decide +kernel, by decide⟩
theorem mv_X7_takesClause : mjYV yX7_takesClause := ⟨gw_tab (i := 1135) (by decide +kernel) rfl, gw_sel (n := 61) (i := 76) (by decide +kernel)⟩
theorem my_X7_takesE : mjY yX7_takesE cX7_takesE 4 (some .boolean) 1 := ⟨gw_tab (i := 1164) (by decide +kernel) rfl, gw_tab (i := 8) (by decide +kernel) rfl, ⟨by decide, by decide⟩, by decide +kernel, by decide⟩
theorem mv_X7_takesE : mjYV yX7_takesE := ⟨gw_tab (i := 1163) (by decide +kernel) rfl, gw_sel (n := 61) (i := 83) (by decide +kernel)⟩
theorem my_X7_takesHead : mjY yX7_takesHead cX7_takesHead 2 (some .boolean) 1 := ⟨gw_tab (i := 1140) (by decide +kernel) rfl, gw_tab (i := 8) (by decide +kernel) rfl, ⟨by decide, by decide⟩, by decide +kernel, by decide⟩
theorem mv_X7_takesHead : mjYV yX7_takesHead := ⟨gw_tab (i := 1139) (by decide +kernel) rfl, gw_sel (n := 61) (i := 77) (by decide +kernel)⟩
theorem my_X7_takesNumber : mjY yX7_takesNumber cX7_takesNumber 2 (some .boolean) 0 := ⟨gw_tab (i := 1156) (by decide +kernel) rfl, gw_tab (i := 8) (by decide +kernel) rfl, ⟨by decide, by decide⟩, by decide +kernel, by decide⟩
theorem mv_X7_takesNumber : mjYV yX7_takesNumber := ⟨gw_tab (i := 1155) (by decide +kernel) rfl, gw_sel (n := 61) (i := 81) (by decide +kernel)⟩
theorem my_X7_takesTest : mjY yX7_takesTest cX7_takesTest 3 (some .boolean) 0 := ⟨gw_tab (i := 1168) (by decide +kernel) rfl, gw_tab (i := 8) (by decide +kernel) rfl, ⟨by decide, by decide⟩, by decide +kernel, by decide⟩
theorem mv_X7_takesTest : mjYV yX7_takesTest := ⟨gw_tab (i := 1167) (by decide +kernel) rfl, gw_sel (n := 61) (i := 84) (by decide +kernel)⟩
theorem my_X7_takesWord : mjY yX7_takesWord cX7_takesWord 4 (some .boolean) 2 := ⟨gw_tab (i := 1148) (by decide +kernel) rfl, gw_tab (i := 8) (by decide +kernel) rfl, ⟨by decide, by decide⟩, by decide +kernel, by decide⟩
theorem mv_X7_takesWord : mjYV yX7_takesWord := ⟨gw_tab (i := 1147) (by decide +kernel) rfl, gw_sel (n := 61) (i := 79) (by decide +kernel)⟩
theorem my_X7_tellsAct : mjY yX7_tellsAct cX7_tellsAct 4 (some .int) 2 := ⟨gw_tab (i := 1410) (by decide +kernel) rfl, gw_tab (i := 8) (by decide +kernel) rfl, ⟨by decide, by decide⟩, by decide +kernel, by decide⟩
theorem mv_X7_tellsAct : mjYV yX7_tellsAct := ⟨gw_tab (i := 1409) (by decide +kernel) rfl, gw_sel (n := 61) (i := 119) (by decide +kernel)⟩
theorem my_X7_towardOf : mjY yX7_towardOf cX7_towardOf 4 (some .int) 2 := ⟨gw_tab (i := 1236) (by decide +kernel) rfl, gw_tab (i := 8) (by decide +kernel) rfl, ⟨by decide, by decide⟩, by decide +kernel, by decide⟩
theorem mv_X7_towardOf : mjYV yX7_towardOf := ⟨gw_tab (i := 1235) (by decide +kernel) rfl, gw_sel (n := 61) (i := 96) (by decide +kernel)⟩
theorem my_X7_turnedTo : mjY yX7_turnedTo cX7_turnedTo 2 (some .int) 0 := ⟨gw_tab (i := 1268) (by decide +kernel) rfl, gw_tab (i := 8) (by decide +kernel) rfl, ⟨by decide, by decide⟩, by decide +kernel, by decide⟩
theorem mv_X7_turnedTo : mjYV yX7_turnedTo := ⟨gw_tab (i := 1267) (by decide +kernel) rfl, gw_sel (n := 61) (i := 103) (by decide +kernel)⟩
theorem my_X7_whole : mjY yX7_whole cX7_whole 1 none 0 := ⟨gw_tab (i := 1180) (by decide +kernel) rfl, gw_tab (i := 8) (by decide +kernel) rfl, ⟨by decide, by decide⟩, by decide +kernel, by decide⟩
theorem mv_X7_whole : mjYV yX7_whole := ⟨gw_tab (i := 1179) (by decide +kernel) rfl, gw_sel (n := 61) (i := 87) (by decide +kernel)⟩
-- ===== constants =====
theorem kc_J6_265 : Cond.constant RJ6 265 1431655765 ∈ gw_tbl := gw_tab (i := 322) (by decide +kernel) rfl
theorem kc_J6_266 : Cond.constant RJ6 266 858993459 ∈ gw_tbl := gw_tab (i := 323) (by decide +kernel) rfl
theorem kc_J6_267 : Cond.constant RJ6 267 252645135 ∈ gw_tbl := gw_tab (i := 324) (by decide +kernel) rfl
theorem kc_X1_79 : Cond.constant RX1 79 1000000 ∈ gw_tbl := gw_tab (i := 355) (by decide +kernel) rfl
theorem kc_X1_169 : Cond.constantLong RX1 169 60 ∈ gw_tbl := gw_tab (i := 756) (by decide +kernel) rfl
theorem kc_X6_225 : Cond.constantLong RX6 225 (-9223372036854775808) ∈ gw_tbl := gw_tab (i := 743) (by decide +kernel) rfl
theorem kc_X6_231 : Cond.constantLong RX6 231 60 ∈ gw_tbl := gw_tab (i := 760) (by decide +kernel) rfl
theorem kc_X7_340 : Cond.constantLong RX7 340 60 ∈ gw_tbl := gw_tab (i := 1342) (by decide +kernel) rfl
theorem kc_X7_342 : Cond.constantLong RX7 342 (-9223372036854775808) ∈ gw_tbl := gw_tab (i := 1337) (by decide +kernel) rfl
theorem k_m1 : Int32.ofInt (-1) = (-1) := rfl
theorem k_0 : Int32.ofInt 0 = 0 := rfl
theorem k_1 : Int32.ofInt 1 = 1 := rfl
theorem k_2 : Int32.ofInt 2 = 2 := rfl
theorem k_3 : Int32.ofInt 3 = 3 := rfl
theorem k_4 : Int32.ofInt 4 = 4 := rfl
theorem k_5 : Int32.ofInt 5 = 5 := rfl
theorem kb_m38 : (Int8.ofInt (-38)).toInt32 = (-38) := rfl
theorem kb_m33 : (Int8.ofInt (-33)).toInt32 = (-33) := rfl
theorem kb_m14 : (Int8.ofInt (-14)).toInt32 = (-14) := rfl
theorem kb_m13 : (Int8.ofInt (-13)).toInt32 = (-13) := rfl
theorem kb_m12 : (Int8.ofInt (-12)).toInt32 = (-12) := rfl
theorem kb_m11 : (Int8.ofInt (-11)).toInt32 = (-11) := rfl
theorem kb_m10 : (Int8.ofInt (-10)).toInt32 = (-10) := rfl
theorem kb_m5 : (Int8.ofInt (-5)).toInt32 = (-5) := rfl
theorem kb_m4 : (Int8.ofInt (-4)).toInt32 = (-4) := rfl
theorem kb_m3 : (Int8.ofInt (-3)).toInt32 = (-3) := rfl
theorem kb_m2 : (Int8.ofInt (-2)).toInt32 = (-2) := rfl
theorem kb_6 : (Int8.ofInt 6).toInt32 = 6 := rfl
theorem kb_7 : (Int8.ofInt 7).toInt32 = 7 := rfl
theorem kb_8 : (Int8.ofInt 8).toInt32 = 8 := rfl
theorem kb_9 : (Int8.ofInt 9).toInt32 = 9 := rfl
theorem kb_10 : (Int8.ofInt 10).toInt32 = 10 := rfl
theorem kb_11 : (Int8.ofInt 11).toInt32 = 11 := rfl
theorem kb_12 : (Int8.ofInt 12).toInt32 = 12 := rfl
theorem kb_16 : (Int8.ofInt 16).toInt32 = 16 := rfl
theorem kb_19 : (Int8.ofInt 19).toInt32 = 19 := rfl
theorem kb_20 : (Int8.ofInt 20).toInt32 = 20 := rfl
theorem kb_30 : (Int8.ofInt 30).toInt32 = 30 := rfl
theorem kb_32 : (Int8.ofInt 32).toInt32 = 32 := rfl
theorem kb_33 : (Int8.ofInt 33).toInt32 = 33 := rfl
theorem kb_38 : (Int8.ofInt 38).toInt32 = 38 := rfl
theorem kb_40 : (Int8.ofInt 40).toInt32 = 40 := rfl
theorem kb_41 : (Int8.ofInt 41).toInt32 = 41 := rfl
theorem kb_48 : (Int8.ofInt 48).toInt32 = 48 := rfl
theorem kb_49 : (Int8.ofInt 49).toInt32 = 49 := rfl
theorem kb_50 : (Int8.ofInt 50).toInt32 = 50 := rfl
theorem kb_51 : (Int8.ofInt 51).toInt32 = 51 := rfl
theorem kb_57 : (Int8.ofInt 57).toInt32 = 57 := rfl
theorem kb_59 : (Int8.ofInt 59).toInt32 = 59 := rfl
theorem kb_60 : (Int8.ofInt 60).toInt32 = 60 := rfl
theorem kb_62 : (Int8.ofInt 62).toInt32 = 62 := rfl
theorem kb_63 : (Int8.ofInt 63).toInt32 = 63 := rfl
theorem kb_70 : (Int8.ofInt 70).toInt32 = 70 := rfl
theorem kb_71 : (Int8.ofInt 71).toInt32 = 71 := rfl
theorem kb_99 : (Int8.ofInt 99).toInt32 = 99 := rfl
theorem kb_100 : (Int8.ofInt 100).toInt32 = 100 := rfl
theorem kb_124 : (Int8.ofInt 124).toInt32 = 124 := rfl
theorem kb_127 : (Int8.ofInt 127).toInt32 = 127 := rfl
theorem ks_255 : (Int16.ofInt 255).toInt32 = 255 := rfl
theorem ks_300 : (Int16.ofInt 300).toInt32 = 300 := rfl
theorem ks_999 : (Int16.ofInt 999).toInt32 = 999 := rfl
theorem ks_1000 : (Int16.ofInt 1000).toInt32 = 1000 := rfl
theorem km_J1_38 : Cond.methodLink RJ1 38 Lib.Math.min.name ∈ gw_tbl := gw_tab (i := 504) (by decide +kernel) rfl
theorem km_J1_92 : Cond.methodLink RJ1 92 Lib.Math.max.name ∈ gw_tbl := gw_tab (i := 501) (by decide +kernel) rfl
theorem km_X1_74 : Cond.methodLink RX1 74 Lib.Math.min.name ∈ gw_tbl := gw_tab (i := 348) (by decide +kernel) rfl
theorem km_X3_80 : Cond.methodLink RX3 80 Lib.Math.max.name ∈ gw_tbl := gw_tab (i := 589) (by decide +kernel) rfl
theorem kp_X1_155 : Cond.methodLink RX1 155 arraycopyName ∈ gw_tbl := gw_tab (i := 757) (by decide +kernel) rfl
theorem kp_X5_62 : Cond.methodLink RX5 62 arraycopyName ∈ gw_tbl := gw_tab (i := 791) (by decide +kernel) rfl
theorem kp_X6_295 : Cond.methodLink RX6 295 arraycopyName ∈ gw_tbl := gw_tab (i := 873) (by decide +kernel) rfl
