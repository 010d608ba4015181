noncomputable def NB_longest (m : Mm) (a1 : Int32) : Option (Int32 × Mm) :=
  if (NB_isPart a1) = true then
 ((NB_look m).bind fun r1 =>
  (Jo_longestPair r1).bind fun r2 =>
  if a1 = 1 then
 (some (r2.1, r2.2))
 else (if 0 ≤ (r2.1) then
 ((Jo_walk (r2.2) ((r2.1) / 10) ((r2.1) - (r2.1) / 10 * 10)).bind fun r3 =>
  some ((r3.2).1 1 14, r3.2))
 else (some (0, r2.2))))
 else (some ((-1), m))
set_option maxRecDepth 20000 in
set_option maxHeartbeats 4000000 in
theorem NB_longest_ok {G : Gw} (hG : gOk G) (hs : gsh G = shC) {a1 : Int32} {m : Mm} {P : Option Value → Mm → Prop} (h : mjO (NB_longest m a1) (fun r => P (some (.int r.1)) r.2)) : mjR G 5 yX6_longest cX6_longest 3 (some .int) [.ref (gr G 0), .int a1] m P := by
  refine mjR_of hG (by decide) (Nat.le_of_ble_eq_true rfl) ?_
  intro X F
  have F : mjF G X cX6_longest RX6 3 5 (some .int) := F
  show mjV G X 3 0 [(0, .ref (gr G 0)), (1, .int a1)] [] m P
  unfold NB_longest at h
  refine vIloadN F dX6_longest_0 (k := 1) rfl ?_
  refine vCallS F (d' := 0) (As := [.int a1]) (st := []) dX6_longest_1 lk_X6_176 my_X6_isPart sy_X6_isPart (by decide) rfl rfl (Nat.le_of_ble_eq_true rfl) (NB_isPart_ok hG hs ?_)
  show mjV G X 3 4 [(0, .ref (gr G 0)), (1, .int a1)] [.int (bI (NB_isPart a1))] m P
  refine vIfNeB F (tgt := 9) dX6_longest_4 (by decide) (fun c6 => ?_) (fun c6 => ?_)
  · replace h := okT h c6
    refine vAloadN F dX6_longest_9 (k := 0) rfl ?_
    refine vCallV F (d' := 4) (x := 0) (T := TX6) (N := 10) (As := []) (st := []) dX6_longest_10 lk_X6_83 my_X6_look mv_X6_look (cqC_0 hs) rfl (by decide) rfl rfl (Nat.le_of_ble_eq_true rfl) (NB_look_ok hG hs (okB h fun r1 h => ?_))
    show mjV G X 3 13 [(0, .ref (gr G 0)), (1, .int a1)] [.ref (gr G 1)] r1 P
    refine vCallV F (d' := 2) (x := 1) (T := TX1) (N := 15) (As := []) (st := []) dX6_longest_13 lk_X6_194 my_X1_longestPair mv_X1_longestPair (cqC_1 hs) rfl (by decide) rfl rfl (Nat.le_of_ble_eq_true rfl) (Jo_longestPair_ok hG hs (okB h fun r2 h => ?_))
    show mjV G X 3 16 [(0, .ref (gr G 0)), (1, .int a1)] [.int (r2.1)] (r2.2) P
    refine vIstoreN F (L' := [(2, .int (r2.1)), (0, .ref (gr G 0)), (1, .int a1)]) dX6_longest_16 rfl (by decide) rfl ?_
    refine vIloadN F dX6_longest_17 (k := 2) rfl ?_
    refine vIconst F (v := 1) dX6_longest_18 k_1 ?_
    refine vIcmpNe F (tgt := 24) dX6_longest_19 (by decide) (fun c5 => ?_) (fun c5 => ?_)
    · replace h := okF h c5
      refine vIloadN F dX6_longest_24 (k := 0) rfl ?_
      refine vIfGe F (tgt := 30) dX6_longest_25 (by decide) (fun c4 => ?_) (fun c4 => ?_)
      · replace h := okT h c4
        refine vAloadN F dX6_longest_30 (k := 1) rfl ?_
        refine vGetR F (t := 1) dX6_longest_31 fa_X6_12 (cqC_0 hs) rfl ?_
        refine vIloadN F dX6_longest_34 (k := 0) rfl ?_
        refine vBipush F (v := 10) dX6_longest_35 kb_10 ?_
        refine vIdiv F dX6_longest_37 (by decide) ?_
        refine vIloadN F dX6_longest_38 (k := 0) rfl ?_
        refine vBipush F (v := 10) dX6_longest_39 kb_10 ?_
        refine vIrem F dX6_longest_41 (by decide) ?_
        refine vCallV F (d' := 1) (x := 1) (T := TX1) (N := 15) (As := [.int ((r2.1) / 10), .int ((r2.1) - (r2.1) / 10 * 10)]) (st := []) dX6_longest_42 lk_X6_179 my_X1_walk mv_X1_walk (cqC_1 hs) rfl (by decide) rfl rfl (Nat.le_of_ble_eq_true rfl) (Jo_walk_ok hG hs (okB h fun r3 h => ?_))
        show mjV G X 3 45 [(2, .int (r2.1)), (0, .ref (gr G 0)), (1, .int a1)] [.int (r3.1)] (r3.2) P
        refine vPop F dX6_longest_45 rfl ?_
        refine vAloadN F dX6_longest_46 (k := 1) rfl ?_
        refine vGetR F (t := 1) dX6_longest_47 fa_X6_12 (cqC_0 hs) rfl ?_
        refine vGetI F dX6_longest_50 fa_X6_182 (cqC_1 hs) rfl ?_
        have z := okS h
        exact vIret F dX6_longest_53 z
      · replace h := okF h c4
        refine vIconst F (v := 0) dX6_longest_28 k_0 ?_
        have z := okS h
        exact vIret F dX6_longest_29 z
    · replace h := okT h c5
      refine vIloadN F dX6_longest_22 (k := 0) rfl ?_
      have z := okS h
      exact vIret F dX6_longest_23 z
  · replace h := okF h c6
    refine vIconst F (v := (-1)) dX6_longest_7 k_m1 ?_
    have z := okS h
    exact vIret F dX6_longest_8 z
def NB_mayName (m : Mm) (a1 : Int32) (a2 : Int32) : Option (Bool) :=
  (Wo_names 11 m a1 a2).bind fun r1 =>
  if r1 = true then
 (some false)
 else ((NB_hasArmFree m a1).bind fun r2 =>
  if r2 = true then
 ((NB_hasArmFree m a2).bind fun r3 =>
  if r3 = true then
 (some true)
 else (some false))
 else (some false))
set_option maxRecDepth 20000 in
set_option maxHeartbeats 4000000 in
theorem NB_mayName_ok {G : Gw} (hG : gOk G) (hs : gsh G = shC) {a1 : Int32} {a2 : Int32} {m : Mm} {P : Option Value → Mm → Prop} (h : mjO (NB_mayName m a1 a2) (fun r => P (some (.int (bI r))) m)) : mjR G 2 yX6_mayName cX6_mayName 3 (some .boolean) [.ref (gr G 0), .int a1, .int a2] m P := by
  refine mjR_of hG (by decide) (Nat.le_of_ble_eq_true rfl) ?_
  intro X F
  have F : mjF G X cX6_mayName RX6 3 2 (some .boolean) := F
  show mjV G X 3 0 [(0, .ref (gr G 0)), (1, .int a1), (2, .int a2)] [] m P
  unfold NB_mayName at h
  refine vAloadN F dX6_mayName_0 (k := 0) rfl ?_
  refine vGetR F (t := 11) dX6_mayName_1 fa_X6_22 (cqC_0 hs) rfl ?_
  refine vIloadN F dX6_mayName_4 (k := 1) rfl ?_
  refine vIloadN F dX6_mayName_5 (k := 2) rfl ?_
  refine vCallV F (d' := 0) (x := 11) (T := TX5) (N := 13) (As := [.int a1, .int a2]) (st := []) dX6_mayName_6 lk_X6_111 my_X5_names mv_X5_names (is_X5_11 hs).1 rfl (by decide) rfl rfl (Nat.le_of_ble_eq_true rfl) (Wo_names_ok hG hs (is_X5_11 hs) (okB h fun r1 h => ?_))
  show mjV G X 3 9 [(0, .ref (gr G 0)), (1, .int a1), (2, .int a2)] [.int (bI r1)] m P
  refine vIfNeB F (tgt := 32) dX6_mayName_9 (by decide) (fun c6 => ?_) (fun c6 => ?_)
  · replace h := okT h c6
    refine vIconst F (v := 0) dX6_mayName_32 k_0 ?_
    have z := okS h
    exact vZret (x := bI false) F dX6_mayName_33 (nzI _) z
  · replace h := okF h c6
    refine vAloadN F dX6_mayName_12 (k := 0) rfl ?_
    refine vIloadN F dX6_mayName_13 (k := 1) rfl ?_
    refine vCallV F (d' := 1) (x := 0) (T := TX6) (N := 10) (As := [.int a1]) (st := []) dX6_mayName_14 lk_X6_115 my_X6_hasArmFree mv_X6_hasArmFree (cqC_0 hs) rfl (by decide) rfl rfl (Nat.le_of_ble_eq_true rfl) (NB_hasArmFree_ok hG hs (okB h fun r2 h => ?_))
    show mjV G X 3 17 [(0, .ref (gr G 0)), (1, .int a1), (2, .int a2)] [.int (bI r2)] m P
    refine vIfEqB F (tgt := 32) dX6_mayName_17 (by decide) (fun c5 => ?_) (fun c5 => ?_)
    · replace h := okF h c5
      refine vIconst F (v := 0) dX6_mayName_32 k_0 ?_
      have z := okS h
      exact vZret (x := bI false) F dX6_mayName_33 (nzI _) z
    · replace h := okT h c5
      refine vAloadN F dX6_mayName_20 (k := 0) rfl ?_
      refine vIloadN F dX6_mayName_21 (k := 2) rfl ?_
      refine vCallV F (d' := 1) (x := 0) (T := TX6) (N := 10) (As := [.int a2]) (st := []) dX6_mayName_22 lk_X6_115 my_X6_hasArmFree mv_X6_hasArmFree (cqC_0 hs) rfl (by decide) rfl rfl (Nat.le_of_ble_eq_true rfl) (NB_hasArmFree_ok hG hs (okB h fun r3 h => ?_))
      show mjV G X 3 25 [(0, .ref (gr G 0)), (1, .int a1), (2, .int a2)] [.int (bI r3)] m P
      refine vIfEqB F (tgt := 32) dX6_mayName_25 (by decide) (fun c4 => ?_) (fun c4 => ?_)
      · replace h := okF h c4
        refine vIconst F (v := 0) dX6_mayName_32 k_0 ?_
        have z := okS h
        exact vZret (x := bI false) F dX6_mayName_33 (nzI _) z
      · replace h := okT h c4
        refine vIconst F (v := 1) dX6_mayName_28 k_1 ?_
        refine vGoto F (tgt := 33) dX6_mayName_29 (by decide) ?_
        have z := okS h
        exact vZret (x := bI true) F dX6_mayName_33 (nzI _) z
noncomputable def NB_bestTurn_l28 (a1 : Int32) (s1 : Int32 × Int32 × Int32 × Mm) (s3 : Int32 × Int32 × Int32 × Mm) : Option ((Int32 × Int32 × Int32 × Mm) ⊕ (Int32 × Int32 × Mm)) :=
  if ((s3.2.2.2).1 11 0) ≤ (s3.2.2.1) then
 (some (.inr (s3.1, s3.2.1, s3.2.2.2)))
 else (jn (fun (e5 : Unit) => (Wo_turnName 11 (s3.2.2.2) (s1.2.2.1) (s3.2.2.1)).bind fun r7 =>
  (NB_look r7).bind fun r8 =>
  (Jo_lostPairs r8).bind fun r9 =>
  (Wo_turnName 11 (r9.2) (s1.2.2.1) (s3.2.2.1)).bind fun r10 =>
  jn (fun (e11 : Unit) => some (.inl ((10 * (s1.2.2.1)) + (s3.2.2.1), r9.1, (s3.2.2.1) + 1, r10))) fun j12 =>
  if (s3.1) = (-5) then
 (j12 ())
 else (if a1 = 0 then
 (if (r9.1) ≤ (s3.2.1) then
 (some (.inl (s3.1, s3.2.1, (s3.2.2.1) + 1, r10)))
 else (j12 ()))
 else (if (s3.2.1) ≤ (r9.1) then
 (some (.inl (s3.1, s3.2.1, (s3.2.2.1) + 1, r10)))
 else (j12 ())))) fun j6 =>
  if a1 = 0 then
 ((Wo_names 11 (s3.2.2.2) (s1.2.2.1) (s3.2.2.1)).bind fun r17 =>
  if r17 = true then
 (j6 ())
 else (some (.inl (s3.1, s3.2.1, (s3.2.2.1) + 1, s3.2.2.2))))
 else ((NB_mayName (s3.2.2.2) (s1.2.2.1) (s3.2.2.1)).bind fun r19 =>
  if r19 = true then
 (j6 ())
 else (some (.inl (s3.1, s3.2.1, (s3.2.2.1) + 1, s3.2.2.2)))))
noncomputable def NB_bestTurn_l10 (a1 : Int32) (s1 : Int32 × Int32 × Int32 × Mm) : Option ((Int32 × Int32 × Int32 × Mm) ⊕ (Int32 × Int32 × Mm)) :=
  if ((s1.2.2.2).1 11 0) ≤ (s1.2.2.1) then
 (some (.inr (s1.1, s1.2.1, s1.2.2.2)))
 else ((iter (NB_bestTurn_l28 a1 s1) (s1.1, s1.2.1, (s1.2.2.1) + 1, s1.2.2.2)).bind fun e4 =>
  some (.inl (e4.1, e4.2.1, (s1.2.2.1) + 1, e4.2.2)))
noncomputable def NB_bestTurn (m : Mm) (a1 : Int32) (a2 : Int32) : Option (Int32 × Mm) :=
  (iter (NB_bestTurn_l10 a1) ((-5), (-5), 0, m)).bind fun e2 =>
  if a2 = 0 then
 (some (e2.1, e2.2.2))
 else (some (e2.2.1, e2.2.2))
set_option maxRecDepth 20000 in
set_option maxHeartbeats 4000000 in
theorem NB_bestTurn_ok {G : Gw} (hG : gOk G) (hs : gsh G = shC) {a1 : Int32} {a2 : Int32} {m : Mm} {P : Option Value → Mm → Prop} (h : mjO (NB_bestTurn m a1 a2) (fun r => P (some (.int r.1)) r.2)) : mjR G 5 yX6_bestTurn cX6_bestTurn 8 (some .int) [.ref (gr G 0), .int a1, .int a2] m P := by
  refine mjR_of hG (by decide) (Nat.le_of_ble_eq_true rfl) ?_
  intro X F
  have F : mjF G X cX6_bestTurn RX6 8 5 (some .int) := F
  show mjV G X 8 0 [(0, .ref (gr G 0)), (1, .int a1), (2, .int a2)] [] m P
  unfold NB_bestTurn at h
  refine vBipush F (v := (-5)) dX6_bestTurn_0 kb_m5 ?_
  refine vIstoreN F (L' := [(3, .int (-5)), (0, .ref (gr G 0)), (1, .int a1), (2, .int a2)]) dX6_bestTurn_2 rfl (by decide) rfl ?_
  refine vBipush F (v := (-5)) dX6_bestTurn_3 kb_m5 ?_
  refine vIstore F (L' := [(4, .int (-5)), (3, .int (-5)), (0, .ref (gr G 0)), (1, .int a1), (2, .int a2)]) dX6_bestTurn_5 (by decide) rfl ?_
  refine vIconst F (v := 0) dX6_bestTurn_7 k_0 ?_
  refine vIstore F (L' := [(5, .int 0), (4, .int (-5)), (3, .int (-5)), (0, .ref (gr G 0)), (1, .int a1), (2, .int a2)]) dX6_bestTurn_8 (by decide) rfl ?_
  refine vSub [3, 4, 5, 2, 1, 0] rfl ?_
  refine okLoop (s0 := ((-5), (-5), 0, m)) (T := (fun (s1 : Int32 × Int32 × Int32 × Mm) => mjV G X 8 10 [(0, .ref (gr G 0)), (1, .int a1), (2, .int a2), (3, .int (s1.1)), (4, .int (s1.2.1)), (5, .int (s1.2.2.1))] [] (s1.2.2.2) P)) (Ve := (fun (e2 : Int32 × Int32 × Mm) => mjV G X 8 158 [(2, .int a2), (3, .int (e2.1)), (4, .int (e2.2.1))] [] (e2.2.2) P)) h ?_ (fun s1 h => ?_)
  · intro e2 h
    refine vIloadN F dX6_bestTurn_158 (k := 0) rfl ?_
    refine vIfNe F (tgt := 166) dX6_bestTurn_159 (by decide) (fun c25 => ?_) (fun c25 => ?_)
    · replace h := okF h c25
      refine vIload F dX6_bestTurn_166 (k := 2) rfl ?_
      have z := okS h
      exact vIret F dX6_bestTurn_168 z
    · replace h := okT h c25
      refine vIloadN F dX6_bestTurn_162 (k := 1) rfl ?_
      refine vGoto F (tgt := 168) dX6_bestTurn_163 (by decide) ?_
      have z := okS h
      exact vIret F dX6_bestTurn_168 z
  · unfold NB_bestTurn_l10 at h
    refine vIload F dX6_bestTurn_10 (k := 5) rfl ?_
    refine vAloadN F dX6_bestTurn_12 (k := 0) rfl ?_
    refine vGetR F (t := 11) dX6_bestTurn_13 fa_X6_22 (cqC_0 hs) rfl ?_
    refine vGetI F dX6_bestTurn_16 fa_X6_61 (is_X5_11 hs).1 rfl ?_
    refine vIcmpGe F (tgt := 158) dX6_bestTurn_19 (by decide) (fun c24 => ?_) (fun c24 => ?_)
    · replace h := okT h c24
      refine vSub [2, 3, 4] rfl ?_
      have z := okR h
      exact z
    · replace h := okF h c24
      refine vIload F dX6_bestTurn_22 (k := 5) rfl ?_
      refine vIconst F (v := 1) dX6_bestTurn_24 k_1 ?_
      refine vIadd F dX6_bestTurn_25 ?_
      refine vIstore F (L' := [(6, .int ((s1.2.2.1) + 1)), (0, .ref (gr G 0)), (1, .int a1), (2, .int a2), (3, .int (s1.1)), (4, .int (s1.2.1)), (5, .int (s1.2.2.1))]) dX6_bestTurn_26 (by decide) rfl ?_
      refine vSub [1, 2, 3, 4, 5, 6, 0] rfl ?_
      refine okLoop (s0 := (s1.1, s1.2.1, (s1.2.2.1) + 1, s1.2.2.2)) (T := (fun (s3 : Int32 × Int32 × Int32 × Mm) => mjV G X 8 28 [(0, .ref (gr G 0)), (1, .int a1), (2, .int a2), (3, .int (s3.1)), (4, .int (s3.2.1)), (5, .int (s1.2.2.1)), (6, .int (s3.2.2.1))] [] (s3.2.2.2) P)) (Ve := (fun (e4 : Int32 × Int32 × Mm) => mjV G X 8 152 [(0, .ref (gr G 0)), (1, .int a1), (2, .int a2), (3, .int (e4.1)), (4, .int (e4.2.1)), (5, .int (s1.2.2.1))] [] (e4.2.2) P)) h ?_ (fun s3 h => ?_)
      · intro e4 h
        refine vIinc F (v := 1) (k := 5) (L' := [(5, .int ((s1.2.2.1) + 1)), (0, .ref (gr G 0)), (1, .int a1), (2, .int a2), (3, .int (e4.1)), (4, .int (e4.2.1))]) dX6_bestTurn_152 rfl k_1 (by decide) rfl ?_
        refine vGoto F (tgt := 10) dX6_bestTurn_155 (by decide) ?_
        refine vSub [1, 2, 3, 4, 5, 0] rfl ?_
        have z := okL h
        exact z
      · unfold NB_bestTurn_l28 at h
        refine vIload F dX6_bestTurn_28 (k := 6) rfl ?_
        refine vAloadN F dX6_bestTurn_30 (k := 0) rfl ?_
        refine vGetR F (t := 11) dX6_bestTurn_31 fa_X6_22 (cqC_0 hs) rfl ?_
        refine vGetI F dX6_bestTurn_34 fa_X6_61 (is_X5_11 hs).1 rfl ?_
        refine vIcmpGe F (tgt := 152) dX6_bestTurn_37 (by decide) (fun c22 => ?_) (fun c22 => ?_)
        · replace h := okT h c22
          refine vSub [0, 1, 2, 3, 4, 5] rfl ?_
          have z := okR h
          exact z
        · replace h := okF h c22
          refine vIloadN F dX6_bestTurn_40 (k := 1) rfl ?_
          refine okJ (Vj := fun (e5 : Unit) => mjV G X 8 75 [(0, .ref (gr G 0)), (1, .int a1), (2, .int a2), (3, .int (s3.1)), (4, .int (s3.2.1)), (5, .int (s1.2.2.1)), (6, .int (s3.2.2.1))] [] (s3.2.2.2) P) h (fun e5 h => ?_) (fun j6 Jj6 h => ?_)
          · refine vAloadN F dX6_bestTurn_75 (k := 0) rfl ?_
            refine vGetR F (t := 11) dX6_bestTurn_76 fa_X6_22 (cqC_0 hs) rfl ?_
            refine vIload F dX6_bestTurn_79 (k := 5) rfl ?_
            refine vIload F dX6_bestTurn_81 (k := 6) rfl ?_
            refine vCallV F (d' := 0) (x := 11) (T := TX5) (N := 13) (As := [.int (s1.2.2.1), .int (s3.2.2.1)]) (st := []) dX6_bestTurn_83 lk_X6_118 my_X5_turnName mv_X5_turnName (is_X5_11 hs).1 rfl (by decide) rfl rfl (Nat.le_of_ble_eq_true rfl) (Wo_turnName_ok hG hs (is_X5_11 hs) (okB h fun r7 h => ?_))
            show mjV G X 8 86 [(0, .ref (gr G 0)), (1, .int a1), (2, .int a2), (3, .int (s3.1)), (4, .int (s3.2.1)), (5, .int (s1.2.2.1)), (6, .int (s3.2.2.1))] [] r7 P
            refine vAloadN F dX6_bestTurn_86 (k := 0) rfl ?_
            refine vCallV F (d' := 4) (x := 0) (T := TX6) (N := 10) (As := []) (st := []) dX6_bestTurn_87 lk_X6_83 my_X6_look mv_X6_look (cqC_0 hs) rfl (by decide) rfl rfl (Nat.le_of_ble_eq_true rfl) (NB_look_ok hG hs (okB h fun r8 h => ?_))
            show mjV G X 8 90 [(0, .ref (gr G 0)), (1, .int a1), (2, .int a2), (3, .int (s3.1)), (4, .int (s3.2.1)), (5, .int (s1.2.2.1)), (6, .int (s3.2.2.1))] [.ref (gr G 1)] r8 P
            refine vCallV F (d' := 2) (x := 1) (T := TX1) (N := 15) (As := []) (st := []) dX6_bestTurn_90 lk_X6_191 my_X1_lostPairs mv_X1_lostPairs (cqC_1 hs) rfl (by decide) rfl rfl (Nat.le_of_ble_eq_true rfl) (Jo_lostPairs_ok hG hs (okB h fun r9 h => ?_))
            show mjV G X 8 93 [(0, .ref (gr G 0)), (1, .int a1), (2, .int a2), (3, .int (s3.1)), (4, .int (s3.2.1)), (5, .int (s1.2.2.1)), (6, .int (s3.2.2.1))] [.int (r9.1)] (r9.2) P
            refine vIstore F (L' := [(7, .int (r9.1)), (0, .ref (gr G 0)), (1, .int a1), (2, .int a2), (3, .int (s3.1)), (4, .int (s3.2.1)), (5, .int (s1.2.2.1)), (6, .int (s3.2.2.1))]) dX6_bestTurn_93 (by decide) rfl ?_
            refine vAloadN F dX6_bestTurn_95 (k := 1) rfl ?_
            refine vGetR F (t := 11) dX6_bestTurn_96 fa_X6_22 (cqC_0 hs) rfl ?_
            refine vIload F dX6_bestTurn_99 (k := 6) rfl ?_
            refine vIload F dX6_bestTurn_101 (k := 7) rfl ?_
            refine vCallV F (d' := 0) (x := 11) (T := TX5) (N := 13) (As := [.int (s1.2.2.1), .int (s3.2.2.1)]) (st := []) dX6_bestTurn_103 lk_X6_118 my_X5_turnName mv_X5_turnName (is_X5_11 hs).1 rfl (by decide) rfl rfl (Nat.le_of_ble_eq_true rfl) (Wo_turnName_ok hG hs (is_X5_11 hs) (okB h fun r10 h => ?_))
            show mjV G X 8 106 [(7, .int (r9.1)), (0, .ref (gr G 0)), (1, .int a1), (2, .int a2), (3, .int (s3.1)), (4, .int (s3.2.1)), (5, .int (s1.2.2.1)), (6, .int (s3.2.2.1))] [] r10 P
            refine vIloadN F dX6_bestTurn_106 (k := 4) rfl ?_
            refine vBipush F (v := (-5)) dX6_bestTurn_107 kb_m5 ?_
            refine okJ (Vj := fun (e11 : Unit) => mjV G X 8 133 [(0, .ref (gr G 0)), (1, .int a1), (2, .int a2), (5, .int (s1.2.2.1)), (6, .int (s3.2.2.1)), (7, .int (r9.1))] [] r10 P) h (fun e11 h => ?_) (fun j12 Jj12 h => ?_)
            · refine vBipush F (v := 10) dX6_bestTurn_133 kb_10 ?_
              refine vIload F dX6_bestTurn_135 (k := 3) rfl ?_
              refine vImul F dX6_bestTurn_137 ?_
              refine vIload F dX6_bestTurn_138 (k := 4) rfl ?_
              refine vIadd F dX6_bestTurn_140 ?_
              refine vIstoreN F (L' := [(3, .int ((10 * (s1.2.2.1)) + (s3.2.2.1))), (0, .ref (gr G 0)), (1, .int a1), (2, .int a2), (5, .int (s1.2.2.1)), (6, .int (s3.2.2.1)), (7, .int (r9.1))]) dX6_bestTurn_141 rfl (by decide) rfl ?_
              refine vIload F dX6_bestTurn_142 (k := 6) rfl ?_
              refine vIstore F (L' := [(4, .int (r9.1)), (3, .int ((10 * (s1.2.2.1)) + (s3.2.2.1))), (0, .ref (gr G 0)), (1, .int a1), (2, .int a2), (5, .int (s1.2.2.1)), (6, .int (s3.2.2.1)), (7, .int (r9.1))]) dX6_bestTurn_144 (by decide) rfl ?_
              refine vIinc F (v := 1) (k := 6) (L' := [(6, .int ((s3.2.2.1) + 1)), (4, .int (r9.1)), (3, .int ((10 * (s1.2.2.1)) + (s3.2.2.1))), (0, .ref (gr G 0)), (1, .int a1), (2, .int a2), (5, .int (s1.2.2.1)), (7, .int (r9.1))]) dX6_bestTurn_146 rfl k_1 (by decide) rfl ?_
              refine vGoto F (tgt := 28) dX6_bestTurn_149 (by decide) ?_
              refine vSub [3, 4, 5, 2, 1, 6, 0] rfl ?_
              have z := okL h
              exact z
            · refine vIcmpEq F (tgt := 133) dX6_bestTurn_109 (by decide) (fun c16 => ?_) (fun c16 => ?_)
              · replace h := okT h c16
                refine vSub [1, 2, 3, 6, 7, 0] rfl ?_
                exact Jj12 () h
              · replace h := okF h c16
                refine vIloadN F dX6_bestTurn_112 (k := 2) rfl ?_
                refine vIfEq F (tgt := 126) dX6_bestTurn_113 (by decide) (fun c15 => ?_) (fun c15 => ?_)
                · replace h := okT h c15
                  refine vIload F dX6_bestTurn_126 (k := 0) rfl ?_
                  refine vIload F dX6_bestTurn_128 (k := 5) rfl ?_
                  refine vIcmpLe F (tgt := 146) dX6_bestTurn_130 (by decide) (fun c13 => ?_) (fun c13 => ?_)
                  · replace h := okT h c13
                    refine vIinc F (v := 1) (k := 7) (L' := [(6, .int ((s3.2.2.1) + 1)), (7, .int (r9.1)), (0, .ref (gr G 0)), (1, .int a1), (2, .int a2), (3, .int (s3.1)), (4, .int (s3.2.1)), (5, .int (s1.2.2.1))]) dX6_bestTurn_146 rfl k_1 (by decide) rfl ?_
                    refine vGoto F (tgt := 28) dX6_bestTurn_149 (by decide) ?_
                    refine vSub [2, 3, 4, 5, 6, 7, 0] rfl ?_
                    have z := okL h
                    exact z
                  · replace h := okF h c13
                    refine vSub [1, 2, 3, 6, 7, 0] rfl ?_
                    exact Jj12 () h
                · replace h := okF h c15
                  refine vIload F dX6_bestTurn_116 (k := 0) rfl ?_
                  refine vIload F dX6_bestTurn_118 (k := 5) rfl ?_
                  refine vIcmpGe F (tgt := 146) dX6_bestTurn_120 (by decide) (fun c14 => ?_) (fun c14 => ?_)
                  · replace h := okT h c14
                    refine vIinc F (v := 1) (k := 7) (L' := [(6, .int ((s3.2.2.1) + 1)), (7, .int (r9.1)), (0, .ref (gr G 0)), (1, .int a1), (2, .int a2), (3, .int (s3.1)), (4, .int (s3.2.1)), (5, .int (s1.2.2.1))]) dX6_bestTurn_146 rfl k_1 (by decide) rfl ?_
                    refine vGoto F (tgt := 28) dX6_bestTurn_149 (by decide) ?_
                    refine vSub [2, 3, 4, 5, 6, 7, 0] rfl ?_
                    have z := okL h
                    exact z
                  · replace h := okF h c14
                    refine vGoto F (tgt := 133) dX6_bestTurn_123 (by decide) ?_
                    refine vSub [1, 2, 3, 6, 7, 0] rfl ?_
                    exact Jj12 () h
          · refine vIfEq F (tgt := 58) dX6_bestTurn_41 (by decide) (fun c21 => ?_) (fun c21 => ?_)
            · replace h := okT h c21
              refine vAloadN F dX6_bestTurn_58 (k := 0) rfl ?_
              refine vGetR F (t := 11) dX6_bestTurn_59 fa_X6_22 (cqC_0 hs) rfl ?_
              refine vIload F dX6_bestTurn_62 (k := 5) rfl ?_
              refine vIload F dX6_bestTurn_64 (k := 6) rfl ?_
              refine vCallV F (d' := 0) (x := 11) (T := TX5) (N := 13) (As := [.int (s1.2.2.1), .int (s3.2.2.1)]) (st := []) dX6_bestTurn_66 lk_X6_111 my_X5_names mv_X5_names (is_X5_11 hs).1 rfl (by decide) rfl rfl (Nat.le_of_ble_eq_true rfl) (Wo_names_ok hG hs (is_X5_11 hs) (okB h fun r17 h => ?_))
              show mjV G X 8 69 [(0, .ref (gr G 0)), (1, .int a1), (2, .int a2), (3, .int (s3.1)), (4, .int (s3.2.1)), (5, .int (s1.2.2.1)), (6, .int (s3.2.2.1))] [.int (bI r17)] (s3.2.2.2) P
              refine vIfNeB F (tgt := 75) dX6_bestTurn_69 (by decide) (fun c18 => ?_) (fun c18 => ?_)
              · replace h := okT h c18
                exact Jj6 () h
              · replace h := okF h c18
                refine vGoto F (tgt := 146) dX6_bestTurn_72 (by decide) ?_
                refine vIinc F (v := 1) (k := 6) (L' := [(6, .int ((s3.2.2.1) + 1)), (0, .ref (gr G 0)), (1, .int a1), (2, .int a2), (3, .int (s3.1)), (4, .int (s3.2.1)), (5, .int (s1.2.2.1))]) dX6_bestTurn_146 rfl k_1 (by decide) rfl ?_
                refine vGoto F (tgt := 28) dX6_bestTurn_149 (by decide) ?_
                refine vSub [1, 2, 3, 4, 5, 6, 0] rfl ?_
                have z := okL h
                exact z
            · replace h := okF h c21
              refine vAloadN F dX6_bestTurn_44 (k := 0) rfl ?_
              refine vIload F dX6_bestTurn_45 (k := 5) rfl ?_
              refine vIload F dX6_bestTurn_47 (k := 6) rfl ?_
              refine vCallV F (d' := 2) (x := 0) (T := TX6) (N := 10) (As := [.int (s1.2.2.1), .int (s3.2.2.1)]) (st := []) dX6_bestTurn_49 lk_X6_320 my_X6_mayName mv_X6_mayName (cqC_0 hs) rfl (by decide) rfl rfl (Nat.le_of_ble_eq_true rfl) (NB_mayName_ok hG hs (okB h fun r19 h => ?_))
              show mjV G X 8 52 [(0, .ref (gr G 0)), (1, .int a1), (2, .int a2), (3, .int (s3.1)), (4, .int (s3.2.1)), (5, .int (s1.2.2.1)), (6, .int (s3.2.2.1))] [.int (bI r19)] (s3.2.2.2) P
              refine vIfEqB F (tgt := 146) dX6_bestTurn_52 (by decide) (fun c20 => ?_) (fun c20 => ?_)
              · replace h := okF h c20
                refine vIinc F (v := 1) (k := 6) (L' := [(6, .int ((s3.2.2.1) + 1)), (0, .ref (gr G 0)), (1, .int a1), (2, .int a2), (3, .int (s3.1)), (4, .int (s3.2.1)), (5, .int (s1.2.2.1))]) dX6_bestTurn_146 rfl k_1 (by decide) rfl ?_
                refine vGoto F (tgt := 28) dX6_bestTurn_149 (by decide) ?_
                refine vSub [1, 2, 3, 4, 5, 6, 0] rfl ?_
                have z := okL h
                exact z
              · replace h := okT h c20
                refine vGoto F (tgt := 75) dX6_bestTurn_55 (by decide) ?_
                exact Jj6 () h
noncomputable def NB_put (m : Mm) (a1 : Int32) : Option (Int32 × Mm) :=
  if (NB_isPart a1) = true then
 ((NB_bestTurn m 1 a1).bind fun r1 =>
  some (r1.1, r1.2))
 else (some ((-1), m))
set_option maxRecDepth 20000 in
set_option maxHeartbeats 4000000 in
theorem NB_put_ok {G : Gw} (hG : gOk G) (hs : gsh G = shC) {a1 : Int32} {m : Mm} {P : Option Value → Mm → Prop} (h : mjO (NB_put m a1) (fun r => P (some (.int r.1)) r.2)) : mjR G 6 yX6_put cX6_put 2 (some .int) [.ref (gr G 0), .int a1] m P := by
  refine mjR_of hG (by decide) (Nat.le_of_ble_eq_true rfl) ?_
  intro X F
  have F : mjF G X cX6_put RX6 2 6 (some .int) := F
  show mjV G X 2 0 [(0, .ref (gr G 0)), (1, .int a1)] [] m P
  unfold NB_put at h
  refine vIloadN F dX6_put_0 (k := 1) rfl ?_
  refine vCallS F (d' := 0) (As := [.int a1]) (st := []) dX6_put_1 lk_X6_176 my_X6_isPart sy_X6_isPart (by decide) rfl rfl (Nat.le_of_ble_eq_true rfl) (NB_isPart_ok hG hs ?_)
  show mjV G X 2 4 [(0, .ref (gr G 0)), (1, .int a1)] [.int (bI (NB_isPart a1))] m P
  refine vIfEqB F (tgt := 16) dX6_put_4 (by decide) (fun c2 => ?_) (fun c2 => ?_)
  · replace h := okF h c2
    refine vIconst F (v := (-1)) dX6_put_16 k_m1 ?_
    have z := okS h
    exact vIret F dX6_put_17 z
  · replace h := okT h c2
    refine vAloadN F dX6_put_7 (k := 0) rfl ?_
    refine vIconst F (v := 1) dX6_put_8 k_1 ?_
    refine vIloadN F dX6_put_9 (k := 1) rfl ?_
    refine vCallV F (d' := 5) (x := 0) (T := TX6) (N := 10) (As := [.int 1, .int a1]) (st := []) dX6_put_10 lk_X6_197 my_X6_bestTurn mv_X6_bestTurn (cqC_0 hs) rfl (by decide) rfl rfl (Nat.le_of_ble_eq_true rfl) (NB_bestTurn_ok hG hs (okB h fun r1 h => ?_))
    show mjV G X 2 13 [(0, .ref (gr G 0)), (1, .int a1)] [.int (r1.1)] (r1.2) P
    refine vGoto F (tgt := 17) dX6_put_13 (by decide) ?_
    have z := okS h
    exact vIret F dX6_put_17 z
noncomputable def NB_worst (m : Mm) (a1 : Int32) : Option (Int32 × Mm) :=
  if (NB_isPart a1) = true then
 ((NB_bestTurn m 0 a1).bind fun r1 =>
  some (r1.1, r1.2))
 else (some ((-1), m))
set_option maxRecDepth 20000 in
set_option maxHeartbeats 4000000 in
theorem NB_worst_ok {G : Gw} (hG : gOk G) (hs : gsh G = shC) {a1 : Int32} {m : Mm} {P : Option Value → Mm → Prop} (h : mjO (NB_worst m a1) (fun r => P (some (.int r.1)) r.2)) : mjR G 6 yX6_worst cX6_worst 2 (some .int) [.ref (gr G 0), .int a1] m P := by
  refine mjR_of hG (by decide) (Nat.le_of_ble_eq_true rfl) ?_
  intro X F
  have F : mjF G X cX6_worst RX6 2 6 (some .int) := F
  show mjV G X 2 0 [(0, .ref (gr G 0)), (1, .int a1)] [] m P
  unfold NB_worst at h
  refine vIloadN F dX6_worst_0 (k := 1) rfl ?_
  refine vCallS F (d' := 0) (As := [.int a1]) (st := []) dX6_worst_1 lk_X6_176 my_X6_isPart sy_X6_isPart (by decide) rfl rfl (Nat.le_of_ble_eq_true rfl) (NB_isPart_ok hG hs ?_)
  show mjV G X 2 4 [(0, .ref (gr G 0)), (1, .int a1)] [.int (bI (NB_isPart a1))] m P
  refine vIfEqB F (tgt := 16) dX6_worst_4 (by decide) (fun c2 => ?_) (fun c2 => ?_)
  · replace h := okF h c2
    refine vIconst F (v := (-1)) dX6_worst_16 k_m1 ?_
    have z := okS h
    exact vIret F dX6_worst_17 z
  · replace h := okT h c2
    refine vAloadN F dX6_worst_7 (k := 0) rfl ?_
    refine vIconst F (v := 0) dX6_worst_8 k_0 ?_
    refine vIloadN F dX6_worst_9 (k := 1) rfl ?_
    refine vCallV F (d' := 5) (x := 0) (T := TX6) (N := 10) (As := [.int 0, .int a1]) (st := []) dX6_worst_10 lk_X6_197 my_X6_bestTurn mv_X6_bestTurn (cqC_0 hs) rfl (by decide) rfl rfl (Nat.le_of_ble_eq_true rfl) (NB_bestTurn_ok hG hs (okB h fun r1 h => ?_))
    show mjV G X 2 13 [(0, .ref (gr G 0)), (1, .int a1)] [.int (r1.1)] (r1.2) P
    refine vGoto F (tgt := 17) dX6_worst_13 (by decide) ?_
    have z := okS h
    exact vIret F dX6_worst_17 z
noncomputable def NB_turned (m : Mm) (a1 : Int32) (a2 : Int32) : Option (Int32 × Mm) :=
  if (Wo_has 11 m a1) = true then
 (if (Wo_has 11 m a2) = true then
 ((Wo_names 11 m a1 a2).bind fun r1 =>
  if r1 = true then
 ((NB_look (Jo_setFalseArm m a1 a2)).bind fun r2 =>
  (Jo_lostPairs r2).bind fun r3 =>
  some (r3.1, (Jo_dropFalseArm (r3.2))))
 else (some ((-3), m)))
 else (some ((-1), m)))
 else (some ((-1), m))
set_option maxRecDepth 20000 in
set_option maxHeartbeats 4000000 in
theorem NB_turned_ok {G : Gw} (hG : gOk G) (hs : gsh G = shC) {a1 : Int32} {a2 : Int32} {m : Mm} {P : Option Value → Mm → Prop} (h : mjO (NB_turned m a1 a2) (fun r => P (some (.int r.1)) r.2)) : mjR G 5 yX6_turned cX6_turned 4 (some .int) [.ref (gr G 0), .int a1, .int a2] m P := by
  refine mjR_of hG (by decide) (Nat.le_of_ble_eq_true rfl) ?_
  intro X F
  have F : mjF G X cX6_turned RX6 4 5 (some .int) := F
  show mjV G X 4 0 [(0, .ref (gr G 0)), (1, .int a1), (2, .int a2)] [] m P
  unfold NB_turned at h
  refine vAloadN F dX6_turned_0 (k := 0) rfl ?_
  refine vGetR F (t := 11) dX6_turned_1 fa_X6_22 (cqC_0 hs) rfl ?_
  refine vIloadN F dX6_turned_4 (k := 1) rfl ?_
  refine vCallV F (d' := 0) (x := 11) (T := TX5) (N := 13) (As := [.int a1]) (st := []) dX6_turned_5 lk_X6_69 my_X5_has mv_X5_has (is_X5_11 hs).1 rfl (by decide) rfl rfl (Nat.le_of_ble_eq_true rfl) (Wo_has_ok hG hs (is_X5_11 hs) ?_)
  show mjV G X 4 8 [(0, .ref (gr G 0)), (1, .int a1), (2, .int a2)] [.int (bI (Wo_has 11 m a1))] m P
  refine vIfEqB F (tgt := 22) dX6_turned_8 (by decide) (fun c6 => ?_) (fun c6 => ?_)
  · replace h := okF h c6
    refine vIconst F (v := (-1)) dX6_turned_22 k_m1 ?_
    have z := okS h
    exact vIret F dX6_turned_23 z
  · replace h := okT h c6
    refine vAloadN F dX6_turned_11 (k := 0) rfl ?_
    refine vGetR F (t := 11) dX6_turned_12 fa_X6_22 (cqC_0 hs) rfl ?_
    refine vIloadN F dX6_turned_15 (k := 2) rfl ?_
    refine vCallV F (d' := 0) (x := 11) (T := TX5) (N := 13) (As := [.int a2]) (st := []) dX6_turned_16 lk_X6_69 my_X5_has mv_X5_has (is_X5_11 hs).1 rfl (by decide) rfl rfl (Nat.le_of_ble_eq_true rfl) (Wo_has_ok hG hs (is_X5_11 hs) ?_)
    show mjV G X 4 19 [(0, .ref (gr G 0)), (1, .int a1), (2, .int a2)] [.int (bI (Wo_has 11 m a2))] m P
    refine vIfNeB F (tgt := 24) dX6_turned_19 (by decide) (fun c5 => ?_) (fun c5 => ?_)
    · replace h := okT h c5
      refine vAloadN F dX6_turned_24 (k := 0) rfl ?_
      refine vGetR F (t := 11) dX6_turned_25 fa_X6_22 (cqC_0 hs) rfl ?_
      refine vIloadN F dX6_turned_28 (k := 1) rfl ?_
      refine vIloadN F dX6_turned_29 (k := 2) rfl ?_
      refine vCallV F (d' := 0) (x := 11) (T := TX5) (N := 13) (As := [.int a1, .int a2]) (st := []) dX6_turned_30 lk_X6_111 my_X5_names mv_X5_names (is_X5_11 hs).1 rfl (by decide) rfl rfl (Nat.le_of_ble_eq_true rfl) (Wo_names_ok hG hs (is_X5_11 hs) (okB h fun r1 h => ?_))
      show mjV G X 4 33 [(0, .ref (gr G 0)), (1, .int a1), (2, .int a2)] [.int (bI r1)] m P
      refine vIfNeB F (tgt := 39) dX6_turned_33 (by decide) (fun c4 => ?_) (fun c4 => ?_)
      · replace h := okT h c4
        refine vAloadN F dX6_turned_39 (k := 0) rfl ?_
        refine vGetR F (t := 1) dX6_turned_40 fa_X6_12 (cqC_0 hs) rfl ?_
        refine vIloadN F dX6_turned_43 (k := 1) rfl ?_
        refine vIloadN F dX6_turned_44 (k := 2) rfl ?_
        refine vCallV F (d' := 1) (x := 1) (T := TX1) (N := 15) (As := [.int a1, .int a2]) (st := []) dX6_turned_45 lk_X6_201 my_X1_setFalseArm mv_X1_setFalseArm (cqC_1 hs) rfl (by decide) rfl rfl (Nat.le_of_ble_eq_true rfl) (Jo_setFalseArm_ok hG hs ?_)
        show mjV G X 4 48 [(0, .ref (gr G 0)), (1, .int a1), (2, .int a2)] [] (Jo_setFalseArm m a1 a2) P
        refine vAloadN F dX6_turned_48 (k := 0) rfl ?_
        refine vCallV F (d' := 4) (x := 0) (T := TX6) (N := 10) (As := []) (st := []) dX6_turned_49 lk_X6_83 my_X6_look mv_X6_look (cqC_0 hs) rfl (by decide) rfl rfl (Nat.le_of_ble_eq_true rfl) (NB_look_ok hG hs (okB h fun r2 h => ?_))
        show mjV G X 4 52 [(0, .ref (gr G 0)), (1, .int a1), (2, .int a2)] [.ref (gr G 1)] r2 P
        refine vCallV F (d' := 2) (x := 1) (T := TX1) (N := 15) (As := []) (st := []) dX6_turned_52 lk_X6_191 my_X1_lostPairs mv_X1_lostPairs (cqC_1 hs) rfl (by decide) rfl rfl (Nat.le_of_ble_eq_true rfl) (Jo_lostPairs_ok hG hs (okB h fun r3 h => ?_))
        show mjV G X 4 55 [(0, .ref (gr G 0)), (1, .int a1), (2, .int a2)] [.int (r3.1)] (r3.2) P
        refine vIstoreN F (L' := [(3, .int (r3.1)), (0, .ref (gr G 0)), (1, .int a1), (2, .int a2)]) dX6_turned_55 rfl (by decide) rfl ?_
        refine vAloadN F dX6_turned_56 (k := 1) rfl ?_
        refine vGetR F (t := 1) dX6_turned_57 fa_X6_12 (cqC_0 hs) rfl ?_
        refine vCallV F (d' := 0) (x := 1) (T := TX1) (N := 15) (As := []) (st := []) dX6_turned_60 lk_X6_204 my_X1_dropFalseArm mv_X1_dropFalseArm (cqC_1 hs) rfl (by decide) rfl rfl (Nat.le_of_ble_eq_true rfl) (Jo_dropFalseArm_ok hG hs ?_)
        show mjV G X 4 63 [(3, .int (r3.1)), (0, .ref (gr G 0)), (1, .int a1), (2, .int a2)] [] (Jo_dropFalseArm (r3.2)) P
        refine vIloadN F dX6_turned_63 (k := 0) rfl ?_
        have z := okS h
        exact vIret F dX6_turned_64 z
      · replace h := okF h c4
        refine vBipush F (v := (-3)) dX6_turned_36 kb_m3 ?_
        have z := okS h
        exact vIret F dX6_turned_38 z
    · replace h := okF h c5
      refine vIconst F (v := (-1)) dX6_turned_22 k_m1 ?_
      have z := okS h
      exact vIret F dX6_turned_23 z
noncomputable def NB_chain_l34 (m : Mm) (a1 : Int32) (a2 : Int32) (s1 : Int32) : Option ((Int32) ⊕ (Unit ⊕ Int32)) :=
  if 7 ≤ s1 then
 (some (.inr (.inl ())))
 else ((Wo_comeToBy 11 m a1 s1).bind fun r3 =>
  if (r3 &&& (1 <<< (a2 &&& 31))) = 0 then
 (some (.inl (s1 + 1)))
 else (some (.inr (.inr s1))))
noncomputable def NB_chain (m : Mm) (a1 : Int32) (a2 : Int32) : Option (Int32) :=
  if (Wo_has 11 m a1) = true then
 (if (Wo_has 11 m a2) = true then
 (if a1 = a2 then
 (some (-2))
 else ((iter (NB_chain_l34 m a1 a2) (1)).bind (Sum.elim (fun e2 => some (-5)) (fun v6 => some v6))))
 else (some (-1)))
 else (some (-1))
set_option maxRecDepth 20000 in
set_option maxHeartbeats 4000000 in
theorem NB_chain_ok {G : Gw} (hG : gOk G) (hs : gsh G = shC) {a1 : Int32} {a2 : Int32} {m : Mm} {P : Option Value → Mm → Prop} (h : mjO (NB_chain m a1 a2) (fun r => P (some (.int r)) m)) : mjR G 1 yX6_chain cX6_chain 4 (some .int) [.ref (gr G 0), .int a1, .int a2] m P := by
  refine mjR_of hG (by decide) (Nat.le_of_ble_eq_true rfl) ?_
  intro X F
  have F : mjF G X cX6_chain RX6 4 1 (some .int) := F
  show mjV G X 4 0 [(0, .ref (gr G 0)), (1, .int a1), (2, .int a2)] [] m P
  unfold NB_chain at h
  refine vAloadN F dX6_chain_0 (k := 0) rfl ?_
  refine vGetR F (t := 11) dX6_chain_1 fa_X6_22 (cqC_0 hs) rfl ?_
  refine vIloadN F dX6_chain_4 (k := 1) rfl ?_
  refine vCallV F (d' := 0) (x := 11) (T := TX5) (N := 13) (As := [.int a1]) (st := []) dX6_chain_5 lk_X6_69 my_X5_has mv_X5_has (is_X5_11 hs).1 rfl (by decide) rfl rfl (Nat.le_of_ble_eq_true rfl) (Wo_has_ok hG hs (is_X5_11 hs) ?_)
  show mjV G X 4 8 [(0, .ref (gr G 0)), (1, .int a1), (2, .int a2)] [.int (bI (Wo_has 11 m a1))] m P
  refine vIfEqB F (tgt := 22) dX6_chain_8 (by decide) (fun c10 => ?_) (fun c10 => ?_)
  · replace h := okF h c10
    refine vIconst F (v := (-1)) dX6_chain_22 k_m1 ?_
    have z := okS h
    exact vIret F dX6_chain_23 z
  · replace h := okT h c10
    refine vAloadN F dX6_chain_11 (k := 0) rfl ?_
    refine vGetR F (t := 11) dX6_chain_12 fa_X6_22 (cqC_0 hs) rfl ?_
    refine vIloadN F dX6_chain_15 (k := 2) rfl ?_
    refine vCallV F (d' := 0) (x := 11) (T := TX5) (N := 13) (As := [.int a2]) (st := []) dX6_chain_16 lk_X6_69 my_X5_has mv_X5_has (is_X5_11 hs).1 rfl (by decide) rfl rfl (Nat.le_of_ble_eq_true rfl) (Wo_has_ok hG hs (is_X5_11 hs) ?_)
    show mjV G X 4 19 [(0, .ref (gr G 0)), (1, .int a1), (2, .int a2)] [.int (bI (Wo_has 11 m a2))] m P
    refine vIfNeB F (tgt := 24) dX6_chain_19 (by decide) (fun c9 => ?_) (fun c9 => ?_)
    · replace h := okT h c9
      refine vIloadN F dX6_chain_24 (k := 1) rfl ?_
      refine vIloadN F dX6_chain_25 (k := 2) rfl ?_
      refine vIcmpNe F (tgt := 32) dX6_chain_26 (by decide) (fun c8 => ?_) (fun c8 => ?_)
      · replace h := okF h c8
        refine vIconst F (v := 1) dX6_chain_32 k_1 ?_
        refine vIstoreN F (L' := [(3, .int 1), (0, .ref (gr G 0)), (1, .int a1), (2, .int a2)]) dX6_chain_33 rfl (by decide) rfl ?_
        refine vSub [1, 2, 3, 0] rfl ?_
        refine okLoop (s0 := (1)) (T := (fun (s1 : Int32) => mjV G X 4 34 [(0, .ref (gr G 0)), (1, .int a1), (2, .int a2), (3, .int s1)] [] m P)) (Ve := (Sum.elim (fun (e2 : Unit) => mjV G X 4 64 [] [] m P) (fun (v6 : Int32) => P (some (.int v6)) m))) h ?_ (fun s1 h => ?_)
        · intro q h
          rcases q with e2 | v6
          · refine vBipush F (v := (-5)) dX6_chain_64 kb_m5 ?_
            have z := okS h
            exact vIret F dX6_chain_66 z
          · have z := okS h
            exact z
        · unfold NB_chain_l34 at h
          refine vIloadN F dX6_chain_34 (k := 3) rfl ?_
          refine vBipush F (v := 7) dX6_chain_35 kb_7 ?_
          refine vIcmpGe F (tgt := 64) dX6_chain_37 (by decide) (fun c5 => ?_) (fun c5 => ?_)
          · replace h := okT h c5
            refine vSub [] rfl ?_
            have z := okR h
            exact z
          · replace h := okF h c5
            refine vAloadN F dX6_chain_40 (k := 0) rfl ?_
            refine vGetR F (t := 11) dX6_chain_41 fa_X6_22 (cqC_0 hs) rfl ?_
            refine vIloadN F dX6_chain_44 (k := 1) rfl ?_
            refine vIloadN F dX6_chain_45 (k := 3) rfl ?_
            refine vCallV F (d' := 0) (x := 11) (T := TX5) (N := 13) (As := [.int a1, .int s1]) (st := []) dX6_chain_46 lk_X6_207 my_X5_comeToBy mv_X5_comeToBy (is_X5_11 hs).1 rfl (by decide) rfl rfl (Nat.le_of_ble_eq_true rfl) (Wo_comeToBy_ok hG hs (is_X5_11 hs) (okB h fun r3 h => ?_))
            show mjV G X 4 49 [(0, .ref (gr G 0)), (1, .int a1), (2, .int a2), (3, .int s1)] [.int r3] m P
            refine vIconst F (v := 1) dX6_chain_49 k_1 ?_
            refine vIloadN F dX6_chain_50 (k := 2) rfl ?_
            refine vIshl F dX6_chain_51 ?_
            refine vIand F dX6_chain_52 ?_
            refine vIfEq F (tgt := 58) dX6_chain_53 (by decide) (fun c4 => ?_) (fun c4 => ?_)
            · replace h := okT h c4
              refine vIinc F (v := 1) (k := 3) (L' := [(3, .int (s1 + 1)), (0, .ref (gr G 0)), (1, .int a1), (2, .int a2)]) dX6_chain_58 rfl k_1 (by decide) rfl ?_
              refine vGoto F (tgt := 34) dX6_chain_61 (by decide) ?_
              refine vSub [1, 2, 3, 0] rfl ?_
              have z := okL h
              exact z
            · replace h := okF h c4
              refine vIloadN F dX6_chain_56 (k := 3) rfl ?_
              have z := okR h
              exact vIret F dX6_chain_57 z
      · replace h := okT h c8
        refine vBipush F (v := (-2)) dX6_chain_29 kb_m2 ?_
        have z := okS h
        exact vIret F dX6_chain_31 z
    · replace h := okF h c9
      refine vIconst F (v := (-1)) dX6_chain_22 k_m1 ?_
      have z := okS h
      exact vIret F dX6_chain_23 z
noncomputable def NB_allIn_l28 (m : Mm) (a1 : Int32) (s1 : Int32) : Option ((Int32) ⊕ (Unit ⊕ Int32)) :=
  if (m.1 11 0) ≤ s1 then
 (some (.inr (.inl ())))
 else ((Wo_comeToBy 11 m s1 a1).bind fun r3 =>
  if r3 = ((1 <<< ((m.1 11 0) &&& 31)) - 1) then
 (some (.inl (s1 + 1)))
 else (some (.inr (.inr 0))))
noncomputable def NB_allIn (m : Mm) (a1 : Int32) : Option (Int32) :=
  if a1 < 1 then
 (some (-2))
 else (if a1 ≤ 6 then
 ((iter (NB_allIn_l28 m a1) (0)).bind (Sum.elim (fun e2 => some 1) (fun v6 => some v6)))
 else (some (-2)))
set_option maxRecDepth 20000 in
set_option maxHeartbeats 4000000 in
theorem NB_allIn_ok {G : Gw} (hG : gOk G) (hs : gsh G = shC) {a1 : Int32} {m : Mm} {P : Option Value → Mm → Prop} (h : mjO (NB_allIn m a1) (fun r => P (some (.int r)) m)) : mjR G 1 yX6_allIn cX6_allIn 4 (some .int) [.ref (gr G 0), .int a1] m P := by
  refine mjR_of hG (by decide) (Nat.le_of_ble_eq_true rfl) ?_
  intro X F
  have F : mjF G X cX6_allIn RX6 4 1 (some .int) := F
  show mjV G X 4 0 [(0, .ref (gr G 0)), (1, .int a1)] [] m P
  unfold NB_allIn at h
  refine vIloadN F dX6_allIn_0 (k := 1) rfl ?_
  refine vIconst F (v := 1) dX6_allIn_1 k_1 ?_
  refine vIcmpLt F (tgt := 11) dX6_allIn_2 (by decide) (fun c9 => ?_) (fun c9 => ?_)
  · replace h := okT h c9
    refine vBipush F (v := (-2)) dX6_allIn_11 kb_m2 ?_
    have z := okS h
    exact vIret F dX6_allIn_13 z
  · replace h := okF h c9
    refine vIloadN F dX6_allIn_5 (k := 1) rfl ?_
    refine vBipush F (v := 6) dX6_allIn_6 kb_6 ?_
    refine vIcmpLe F (tgt := 14) dX6_allIn_8 (by decide) (fun c8 => ?_) (fun c8 => ?_)
    · replace h := okT h c8
      refine vIconst F (v := 1) dX6_allIn_14 k_1 ?_
      refine vAloadN F dX6_allIn_15 (k := 0) rfl ?_
      refine vGetR F (t := 11) dX6_allIn_16 fa_X6_22 (cqC_0 hs) rfl ?_
      refine vGetI F dX6_allIn_19 fa_X6_61 (is_X5_11 hs).1 rfl ?_
      refine vIshl F dX6_allIn_22 ?_
      refine vIconst F (v := 1) dX6_allIn_23 k_1 ?_
      refine vIsub F dX6_allIn_24 ?_
      refine vIstoreN F (L' := [(2, .int ((1 <<< ((m.1 11 0) &&& 31)) - 1)), (0, .ref (gr G 0)), (1, .int a1)]) dX6_allIn_25 rfl (by decide) rfl ?_
      refine vIconst F (v := 0) dX6_allIn_26 k_0 ?_
      refine vIstoreN F (L' := [(3, .int 0), (2, .int ((1 <<< ((m.1 11 0) &&& 31)) - 1)), (0, .ref (gr G 0)), (1, .int a1)]) dX6_allIn_27 rfl (by decide) rfl ?_
      refine vSub [2, 3, 1, 0] rfl ?_
      refine okLoop (s0 := (0)) (T := (fun (s1 : Int32) => mjV G X 4 28 [(0, .ref (gr G 0)), (1, .int a1), (2, .int ((1 <<< ((m.1 11 0) &&& 31)) - 1)), (3, .int s1)] [] m P)) (Ve := (Sum.elim (fun (e2 : Unit) => mjV G X 4 60 [] [] m P) (fun (v6 : Int32) => P (some (.int v6)) m))) h ?_ (fun s1 h => ?_)
      · intro q h
        rcases q with e2 | v6
        · refine vIconst F (v := 1) dX6_allIn_60 k_1 ?_
          have z := okS h
          exact vIret F dX6_allIn_61 z
        · have z := okS h
          exact z
      · unfold NB_allIn_l28 at h
        refine vIloadN F dX6_allIn_28 (k := 3) rfl ?_
        refine vAloadN F dX6_allIn_29 (k := 0) rfl ?_
        refine vGetR F (t := 11) dX6_allIn_30 fa_X6_22 (cqC_0 hs) rfl ?_
        refine vGetI F dX6_allIn_33 fa_X6_61 (is_X5_11 hs).1 rfl ?_
        refine vIcmpGe F (tgt := 60) dX6_allIn_36 (by decide) (fun c5 => ?_) (fun c5 => ?_)
        · replace h := okT h c5
          refine vSub [] rfl ?_
          have z := okR h
          exact z
        · replace h := okF h c5
          refine vAloadN F dX6_allIn_39 (k := 0) rfl ?_
          refine vGetR F (t := 11) dX6_allIn_40 fa_X6_22 (cqC_0 hs) rfl ?_
          refine vIloadN F dX6_allIn_43 (k := 3) rfl ?_
          refine vIloadN F dX6_allIn_44 (k := 1) rfl ?_
          refine vCallV F (d' := 0) (x := 11) (T := TX5) (N := 13) (As := [.int s1, .int a1]) (st := []) dX6_allIn_45 lk_X6_207 my_X5_comeToBy mv_X5_comeToBy (is_X5_11 hs).1 rfl (by decide) rfl rfl (Nat.le_of_ble_eq_true rfl) (Wo_comeToBy_ok hG hs (is_X5_11 hs) (okB h fun r3 h => ?_))
          show mjV G X 4 48 [(0, .ref (gr G 0)), (1, .int a1), (2, .int ((1 <<< ((m.1 11 0) &&& 31)) - 1)), (3, .int s1)] [.int r3] m P
          refine vIloadN F dX6_allIn_48 (k := 2) rfl ?_
          refine vIcmpEq F (tgt := 54) dX6_allIn_49 (by decide) (fun c4 => ?_) (fun c4 => ?_)
          · replace h := okT h c4
            refine vIinc F (v := 1) (k := 3) (L' := [(3, .int (s1 + 1)), (0, .ref (gr G 0)), (1, .int a1), (2, .int ((1 <<< ((m.1 11 0) &&& 31)) - 1))]) dX6_allIn_54 rfl k_1 (by decide) rfl ?_
            refine vGoto F (tgt := 28) dX6_allIn_57 (by decide) ?_
            refine vSub [1, 2, 3, 0] rfl ?_
            have z := okL h
            exact z
          · replace h := okF h c4
            refine vIconst F (v := 0) dX6_allIn_52 k_0 ?_
            have z := okR h
            exact vIret F dX6_allIn_53 z
    · replace h := okF h c8
      refine vBipush F (v := (-2)) dX6_allIn_11 kb_m2 ?_
      have z := okS h
      exact vIret F dX6_allIn_13 z
def NB_capitals_l6 (m : Mm) (s1 : Int32 × Int32 × Int32) : Option ((Int32 × Int32 × Int32) ⊕ Int32) :=
  if (m.1 11 0) ≤ (s1.2.2) then
 (some (.inr (s1.2.1)))
 else (ga (s1.2.2) 7 (jn (fun (e4 : Int32 × Int32) => if (JI_bitCount (m.1 (11 + 5) (s1.2.2).toNatClampNeg)) = (e4.1) then
 (some (.inl (e4.1, (e4.2) ||| (1 <<< ((s1.2.2) &&& 31)), (s1.2.2) + 1)))
 else (some (.inl (e4.1, e4.2, (s1.2.2) + 1)))) fun j5 =>
  if (JI_bitCount (m.1 (11 + 5) (s1.2.2).toNatClampNeg)) ≤ (s1.1) then
 (j5 (s1.1, s1.2.1))
 else (j5 ((JI_bitCount (m.1 (11 + 5) (s1.2.2).toNatClampNeg)), 0))))
noncomputable def NB_capitals (m : Mm) : Option (Int32) :=
  (iter (NB_capitals_l6 m) (0, 0, 0)).bind fun e2 =>
  some e2
set_option maxRecDepth 20000 in
set_option maxHeartbeats 4000000 in
theorem NB_capitals_ok {G : Gw} (hG : gOk G) (hs : gsh G = shC) {m : Mm} {P : Option Value → Mm → Prop} (h : mjO (NB_capitals m) (fun r => P (some (.int r)) m)) : mjR G 1 yX6_capitals cX6_capitals 5 (some .int) [.ref (gr G 0)] m P := by
  refine mjR_of hG (by decide) (Nat.le_of_ble_eq_true rfl) ?_
  intro X F
  have F : mjF G X cX6_capitals RX6 5 1 (some .int) := F
  show mjV G X 5 0 [(0, .ref (gr G 0))] [] m P
  unfold NB_capitals at h
  refine vIconst F (v := 0) dX6_capitals_0 k_0 ?_
  refine vIstoreN F (L' := [(1, .int 0), (0, .ref (gr G 0))]) dX6_capitals_1 rfl (by decide) rfl ?_
  refine vIconst F (v := 0) dX6_capitals_2 k_0 ?_
  refine vIstoreN F (L' := [(2, .int 0), (1, .int 0), (0, .ref (gr G 0))]) dX6_capitals_3 rfl (by decide) rfl ?_
  refine vIconst F (v := 0) dX6_capitals_4 k_0 ?_
  refine vIstoreN F (L' := [(3, .int 0), (2, .int 0), (1, .int 0), (0, .ref (gr G 0))]) dX6_capitals_5 rfl (by decide) rfl ?_
  refine vSub [3, 2, 1, 0] rfl ?_
  refine okLoop (s0 := (0, 0, 0)) (T := (fun (s1 : Int32 × Int32 × Int32) => mjV G X 5 6 [(0, .ref (gr G 0)), (1, .int (s1.1)), (2, .int (s1.2.1)), (3, .int (s1.2.2))] [] m P)) (Ve := (fun (e2 : Int32) => mjV G X 5 60 [(2, .int e2)] [] m P)) h ?_ (fun s1 h => ?_)
  · intro e2 h
    refine vIloadN F dX6_capitals_60 (k := 0) rfl ?_
    have z := okS h
    exact vIret F dX6_capitals_61 z
  · unfold NB_capitals_l6 at h
    refine vIloadN F dX6_capitals_6 (k := 3) rfl ?_
    refine vAloadN F dX6_capitals_7 (k := 0) rfl ?_
    refine vGetR F (t := 11) dX6_capitals_8 fa_X6_22 (cqC_0 hs) rfl ?_
    refine vGetI F dX6_capitals_11 fa_X6_61 (is_X5_11 hs).1 rfl ?_
    refine vIcmpGe F (tgt := 60) dX6_capitals_14 (by decide) (fun c8 => ?_) (fun c8 => ?_)
    · replace h := okT h c8
      refine vSub [2] rfl ?_
      have z := okR h
      exact z
    · replace h := okF h c8
      refine vAloadN F dX6_capitals_17 (k := 0) rfl ?_
      refine vGetR F (t := 11) dX6_capitals_18 fa_X6_22 (cqC_0 hs) rfl ?_
      refine vGetR F (t := 11 + 5) dX6_capitals_21 fa_X6_90 (is_X5_11 hs).1 rfl ?_
      refine vIloadN F dX6_capitals_24 (k := 3) rfl ?_
      obtain ⟨g3, h⟩ := okga h
      refine vIald F dX6_capitals_25 (is_X5_11 hs).2.2.2.2.2.1 g3 ?_
      refine vCallS F (d' := 0) (As := [.int (m.1 (11 + 5) (s1.2.2).toNatClampNeg)]) (st := []) dX6_capitals_26 lk_X6_122 my_J6_bitCount_0f7a4 sy_J6_bitCount_0f7a4 (by decide) rfl rfl (Nat.le_of_ble_eq_true rfl) (JI_bitCount_ok hG ?_)
      show mjV G X 5 29 [(0, .ref (gr G 0)), (1, .int (s1.1)), (2, .int (s1.2.1)), (3, .int (s1.2.2))] [.int (JI_bitCount (m.1 (11 + 5) (s1.2.2).toNatClampNeg))] m P
      refine vIstore F (L' := [(4, .int (JI_bitCount (m.1 (11 + 5) (s1.2.2).toNatClampNeg))), (0, .ref (gr G 0)), (1, .int (s1.1)), (2, .int (s1.2.1)), (3, .int (s1.2.2))]) dX6_capitals_29 (by decide) rfl ?_
      refine vIload F dX6_capitals_31 (k := 0) rfl ?_
      refine vIloadN F dX6_capitals_33 (k := 2) rfl ?_
      refine okJ (Vj := fun (e4 : Int32 × Int32) => mjV G X 5 42 [(0, .ref (gr G 0)), (1, .int (e4.1)), (2, .int (e4.2)), (3, .int (s1.2.2)), (4, .int (JI_bitCount (m.1 (11 + 5) (s1.2.2).toNatClampNeg)))] [] m P) h (fun e4 h => ?_) (fun j5 Jj5 h => ?_)
      · refine vIload F dX6_capitals_42 (k := 4) rfl ?_
        refine vIloadN F dX6_capitals_44 (k := 1) rfl ?_
        refine vIcmpNe F (tgt := 54) dX6_capitals_45 (by decide) (fun c6 => ?_) (fun c6 => ?_)
        · replace h := okF h c6
          refine vIinc F (v := 1) (k := 3) (L' := [(3, .int ((s1.2.2) + 1)), (0, .ref (gr G 0)), (1, .int (e4.1)), (2, .int (e4.2)), (4, .int (JI_bitCount (m.1 (11 + 5) (s1.2.2).toNatClampNeg)))]) dX6_capitals_54 rfl k_1 (by decide) rfl ?_
          refine vGoto F (tgt := 6) dX6_capitals_57 (by decide) ?_
          refine vSub [1, 2, 3, 0] rfl ?_
          have z := okL h
          exact z
        · replace h := okT h c6
          refine vIloadN F dX6_capitals_48 (k := 2) rfl ?_
          refine vIconst F (v := 1) dX6_capitals_49 k_1 ?_
          refine vIloadN F dX6_capitals_50 (k := 3) rfl ?_
          refine vIshl F dX6_capitals_51 ?_
          refine vIor F dX6_capitals_52 ?_
          refine vIstoreN F (L' := [(2, .int ((e4.2) ||| (1 <<< ((s1.2.2) &&& 31)))), (0, .ref (gr G 0)), (1, .int (e4.1)), (3, .int (s1.2.2)), (4, .int (JI_bitCount (m.1 (11 + 5) (s1.2.2).toNatClampNeg)))]) dX6_capitals_53 rfl (by decide) rfl ?_
          refine vIinc F (v := 1) (k := 3) (L' := [(3, .int ((s1.2.2) + 1)), (2, .int ((e4.2) ||| (1 <<< ((s1.2.2) &&& 31)))), (0, .ref (gr G 0)), (1, .int (e4.1)), (4, .int (JI_bitCount (m.1 (11 + 5) (s1.2.2).toNatClampNeg)))]) dX6_capitals_54 rfl k_1 (by decide) rfl ?_
          refine vGoto F (tgt := 6) dX6_capitals_57 (by decide) ?_
          refine vSub [2, 3, 1, 0] rfl ?_
          have z := okL h
          exact z
      · refine vIcmpLe F (tgt := 42) dX6_capitals_34 (by decide) (fun c7 => ?_) (fun c7 => ?_)
        · replace h := okT h c7
          refine vSub [1, 2, 3, 4, 0] rfl ?_
          exact Jj5 (s1.1, s1.2.1) h
        · replace h := okF h c7
          refine vIload F dX6_capitals_37 (k := 0) rfl ?_
          refine vIstoreN F (L' := [(1, .int (JI_bitCount (m.1 (11 + 5) (s1.2.2).toNatClampNeg))), (4, .int (JI_bitCount (m.1 (11 + 5) (s1.2.2).toNatClampNeg))), (0, .ref (gr G 0)), (2, .int (s1.2.1)), (3, .int (s1.2.2))]) dX6_capitals_39 rfl (by decide) rfl ?_
          refine vIconst F (v := 0) dX6_capitals_40 k_0 ?_
          refine vIstoreN F (L' := [(2, .int 0), (1, .int (JI_bitCount (m.1 (11 + 5) (s1.2.2).toNatClampNeg))), (4, .int (JI_bitCount (m.1 (11 + 5) (s1.2.2).toNatClampNeg))), (0, .ref (gr G 0)), (3, .int (s1.2.2))]) dX6_capitals_41 rfl (by decide) rfl ?_
          refine vSub [3, 1, 0, 4, 2] rfl ?_
          exact Jj5 ((JI_bitCount (m.1 (11 + 5) (s1.2.2).toNatClampNeg)), 0) h
noncomputable def NB_allWaysWith (m : Mm) (a1 : Int32) (a2 : Int32) (a3 : Int32) : Option (Int32 × Mm) :=
  (Wo_setMiles 11 m a1 a2 a3).bind fun r1 =>
  (NB_look r1).bind fun r2 =>
  (Jo_allWays r2).bind fun r3 =>
  (Wo_setMiles 11 r2 a1 a2 0).bind fun r4 =>
  some (r3, r4)
set_option maxRecDepth 20000 in
set_option maxHeartbeats 4000000 in
theorem NB_allWaysWith_ok {G : Gw} (hG : gOk G) (hs : gsh G = shC) {a1 : Int32} {a2 : Int32} {a3 : Int32} {m : Mm} {P : Option Value → Mm → Prop} (h : mjO (NB_allWaysWith m a1 a2 a3) (fun r => P (some (.int r.1)) r.2)) : mjR G 5 yX6_allWaysWith cX6_allWaysWith 5 (some .int) [.ref (gr G 0), .int a1, .int a2, .int a3] m P := by
  refine mjR_of hG (by decide) (Nat.le_of_ble_eq_true rfl) ?_
  intro X F
  have F : mjF G X cX6_allWaysWith RX6 5 5 (some .int) := F
  show mjV G X 5 0 [(0, .ref (gr G 0)), (1, .int a1), (2, .int a2), (3, .int a3)] [] m P
  unfold NB_allWaysWith at h
  refine vAloadN F dX6_allWaysWith_0 (k := 0) rfl ?_
  refine vGetR F (t := 11) dX6_allWaysWith_1 fa_X6_22 (cqC_0 hs) rfl ?_
  refine vIloadN F dX6_allWaysWith_4 (k := 1) rfl ?_
  refine vIloadN F dX6_allWaysWith_5 (k := 2) rfl ?_
  refine vIloadN F dX6_allWaysWith_6 (k := 3) rfl ?_
  refine vCallV F (d' := 1) (x := 11) (T := TX5) (N := 13) (As := [.int a1, .int a2, .int a3]) (st := []) dX6_allWaysWith_7 lk_X6_104 my_X5_setMiles mv_X5_setMiles (is_X5_11 hs).1 rfl (by decide) rfl rfl (Nat.le_of_ble_eq_true rfl) (Wo_setMiles_ok hG hs (is_X5_11 hs) (okB h fun r1 h => ?_))
  show mjV G X 5 10 [(0, .ref (gr G 0)), (1, .int a1), (2, .int a2), (3, .int a3)] [] r1 P
  refine vAloadN F dX6_allWaysWith_10 (k := 0) rfl ?_
  refine vCallV F (d' := 4) (x := 0) (T := TX6) (N := 10) (As := []) (st := []) dX6_allWaysWith_11 lk_X6_83 my_X6_look mv_X6_look (cqC_0 hs) rfl (by decide) rfl rfl (Nat.le_of_ble_eq_true rfl) (NB_look_ok hG hs (okB h fun r2 h => ?_))
  show mjV G X 5 14 [(0, .ref (gr G 0)), (1, .int a1), (2, .int a2), (3, .int a3)] [.ref (gr G 1)] r2 P
  refine vCallV F (d' := 2) (x := 1) (T := TX1) (N := 15) (As := []) (st := []) dX6_allWaysWith_14 lk_X6_210 my_X1_allWays mv_X1_allWays (cqC_1 hs) rfl (by decide) rfl rfl (Nat.le_of_ble_eq_true rfl) (Jo_allWays_ok hG hs (okB h fun r3 h => ?_))
  show mjV G X 5 17 [(0, .ref (gr G 0)), (1, .int a1), (2, .int a2), (3, .int a3)] [.int r3] r2 P
  refine vIstore F (L' := [(4, .int r3), (0, .ref (gr G 0)), (1, .int a1), (2, .int a2), (3, .int a3)]) dX6_allWaysWith_17 (by decide) rfl ?_
  refine vAloadN F dX6_allWaysWith_19 (k := 1) rfl ?_
  refine vGetR F (t := 11) dX6_allWaysWith_20 fa_X6_22 (cqC_0 hs) rfl ?_
  refine vIloadN F dX6_allWaysWith_23 (k := 2) rfl ?_
  refine vIloadN F dX6_allWaysWith_24 (k := 3) rfl ?_
  refine vIconst F (v := 0) dX6_allWaysWith_25 k_0 ?_
  refine vCallV F (d' := 1) (x := 11) (T := TX5) (N := 13) (As := [.int a1, .int a2, .int 0]) (st := []) dX6_allWaysWith_26 lk_X6_104 my_X5_setMiles mv_X5_setMiles (is_X5_11 hs).1 rfl (by decide) rfl rfl (Nat.le_of_ble_eq_true rfl) (Wo_setMiles_ok hG hs (is_X5_11 hs) (okB h fun r4 h => ?_))
  show mjV G X 5 29 [(4, .int r3), (0, .ref (gr G 0)), (1, .int a1), (2, .int a2), (3, .int a3)] [] r4 P
  refine vIload F dX6_allWaysWith_29 (k := 0) rfl ?_
  have z := okS h
  exact vIret F dX6_allWaysWith_31 z
noncomputable def NB_newRoad_l59 (a1 : Int32) (s3 : Int32 × Int32 × Int32 × Mm) (s5 : Int32 × Int32 × Int32 × Mm) : Option ((Int32 × Int32 × Int32 × Mm) ⊕ (Int32 × Int32 × Mm)) :=
  if ((s5.2.2.2).1 11 0) ≤ (s5.2.2.1) then
 (some (.inr (s5.1, s5.2.1, s5.2.2.2)))
 else (ga (NB_index (s3.2.2.1) (s5.2.2.1)) 49 (if ((s5.2.2.2).1 (11 + 4) (NB_index (s3.2.2.1) (s5.2.2.1)).toNatClampNeg) = 0 then
 ((NB_allWaysWith (s5.2.2.2) (s3.2.2.1) (s5.2.2.1) a1).bind fun r8 =>
  jn (fun (e9 : Unit) => some (.inl ((10 * (s3.2.2.1)) + (s5.2.2.1), r8.1, (s5.2.2.1) + 1, r8.2))) fun j10 =>
  if (s5.1) = (-5) then
 (j10 ())
 else (if (s5.2.1) ≤ (r8.1) then
 (some (.inl (s5.1, s5.2.1, (s5.2.2.1) + 1, r8.2)))
 else (j10 ())))
 else (some (.inl (s5.1, s5.2.1, (s5.2.2.1) + 1, s5.2.2.2)))))
noncomputable def NB_newRoad_l41 (a1 : Int32) (s3 : Int32 × Int32 × Int32 × Mm) : Option ((Int32 × Int32 × Int32 × Mm) ⊕ (Int32 × Int32 × Mm)) :=
  if ((s3.2.2.2).1 11 0) ≤ (s3.2.2.1) then
 (some (.inr (s3.1, s3.2.1, s3.2.2.2)))
 else ((iter (NB_newRoad_l59 a1 s3) (s3.1, s3.2.1, (s3.2.2.1) + 1, s3.2.2.2)).bind fun e6 =>
  some (.inl (e6.1, e6.2.1, (s3.2.2.1) + 1, e6.2.2)))
noncomputable def NB_newRoad (m : Mm) (a1 : Int32) (a2 : Int32) : Option (Int32 × Mm) :=
  if (NB_isPart a2) = true then
 (if a1 < 1 then
 (some ((-2), m))
 else (if a1 ≤ 99 then
 ((NB_look m).bind fun r1 =>
  (Jo_allWays r1).bind fun r2 =>
  (iter (NB_newRoad_l41 a1) ((-5), 0, 0, r1)).bind fun e4 =>
  if a2 = 0 then
 (some (e4.1, e4.2.2))
 else (if (e4.1) = (-5) then
 (some (e4.1, e4.2.2))
 else (some (r2 - (e4.2.1), e4.2.2))))
 else (some ((-2), m))))
 else (some ((-1), m))
set_option maxRecDepth 20000 in
set_option maxHeartbeats 4000000 in
theorem NB_newRoad_ok {G : Gw} (hG : gOk G) (hs : gsh G = shC) {a1 : Int32} {a2 : Int32} {m : Mm} {P : Option Value → Mm → Prop} (h : mjO (NB_newRoad m a1 a2) (fun r => P (some (.int r.1)) r.2)) : mjR G 6 yX6_newRoad cX6_newRoad 9 (some .int) [.ref (gr G 0), .int a1, .int a2] m P := by
  refine mjR_of hG (by decide) (Nat.le_of_ble_eq_true rfl) ?_
  intro X F
  have F : mjF G X cX6_newRoad RX6 9 6 (some .int) := F
  show mjV G X 9 0 [(0, .ref (gr G 0)), (1, .int a1), (2, .int a2)] [] m P
  unfold NB_newRoad at h
  refine vIloadN F dX6_newRoad_0 (k := 2) rfl ?_
  refine vCallS F (d' := 0) (As := [.int a2]) (st := []) dX6_newRoad_1 lk_X6_176 my_X6_isPart sy_X6_isPart (by decide) rfl rfl (Nat.le_of_ble_eq_true rfl) (NB_isPart_ok hG hs ?_)
  show mjV G X 9 4 [(0, .ref (gr G 0)), (1, .int a1), (2, .int a2)] [.int (bI (NB_isPart a2))] m P
  refine vIfNeB F (tgt := 9) dX6_newRoad_4 (by decide) (fun c22 => ?_) (fun c22 => ?_)
  · replace h := okT h c22
    refine vIloadN F dX6_newRoad_9 (k := 1) rfl ?_
    refine vIconst F (v := 1) dX6_newRoad_10 k_1 ?_
    refine vIcmpLt F (tgt := 20) dX6_newRoad_11 (by decide) (fun c21 => ?_) (fun c21 => ?_)
    · replace h := okT h c21
      refine vBipush F (v := (-2)) dX6_newRoad_20 kb_m2 ?_
      have z := okS h
      exact vIret F dX6_newRoad_22 z
    · replace h := okF h c21
      refine vIloadN F dX6_newRoad_14 (k := 1) rfl ?_
      refine vBipush F (v := 99) dX6_newRoad_15 kb_99 ?_
      refine vIcmpLe F (tgt := 23) dX6_newRoad_17 (by decide) (fun c20 => ?_) (fun c20 => ?_)
      · replace h := okT h c20
        refine vAloadN F dX6_newRoad_23 (k := 0) rfl ?_
        refine vCallV F (d' := 4) (x := 0) (T := TX6) (N := 10) (As := []) (st := []) dX6_newRoad_24 lk_X6_83 my_X6_look mv_X6_look (cqC_0 hs) rfl (by decide) rfl rfl (Nat.le_of_ble_eq_true rfl) (NB_look_ok hG hs (okB h fun r1 h => ?_))
        show mjV G X 9 27 [(0, .ref (gr G 0)), (1, .int a1), (2, .int a2)] [.ref (gr G 1)] r1 P
        refine vCallV F (d' := 2) (x := 1) (T := TX1) (N := 15) (As := []) (st := []) dX6_newRoad_27 lk_X6_210 my_X1_allWays mv_X1_allWays (cqC_1 hs) rfl (by decide) rfl rfl (Nat.le_of_ble_eq_true rfl) (Jo_allWays_ok hG hs (okB h fun r2 h => ?_))
        show mjV G X 9 30 [(0, .ref (gr G 0)), (1, .int a1), (2, .int a2)] [.int r2] r1 P
        refine vIstoreN F (L' := [(3, .int r2), (0, .ref (gr G 0)), (1, .int a1), (2, .int a2)]) dX6_newRoad_30 rfl (by decide) rfl ?_
        refine vBipush F (v := (-5)) dX6_newRoad_31 kb_m5 ?_
        refine vIstore F (L' := [(4, .int (-5)), (3, .int r2), (0, .ref (gr G 0)), (1, .int a1), (2, .int a2)]) dX6_newRoad_33 (by decide) rfl ?_
        refine vIconst F (v := 0) dX6_newRoad_35 k_0 ?_
        refine vIstore F (L' := [(5, .int 0), (4, .int (-5)), (3, .int r2), (0, .ref (gr G 0)), (1, .int a1), (2, .int a2)]) dX6_newRoad_36 (by decide) rfl ?_
        refine vIconst F (v := 0) dX6_newRoad_38 k_0 ?_
        refine vIstore F (L' := [(6, .int 0), (5, .int 0), (4, .int (-5)), (3, .int r2), (0, .ref (gr G 0)), (1, .int a1), (2, .int a2)]) dX6_newRoad_39 (by decide) rfl ?_
        refine vSub [4, 5, 6, 3, 2, 1, 0] rfl ?_
        refine okLoop (s0 := ((-5), 0, 0, r1)) (T := (fun (s3 : Int32 × Int32 × Int32 × Mm) => mjV G X 9 41 [(0, .ref (gr G 0)), (1, .int a1), (2, .int a2), (3, .int r2), (4, .int (s3.1)), (5, .int (s3.2.1)), (6, .int (s3.2.2.1))] [] (s3.2.2.2) P)) (Ve := (fun (e4 : Int32 × Int32 × Mm) => mjV G X 9 140 [(2, .int a2), (3, .int r2), (4, .int (e4.1)), (5, .int (e4.2.1))] [] (e4.2.2) P)) h ?_ (fun s3 h => ?_)
        · intro e4 h
          refine vIloadN F dX6_newRoad_140 (k := 0) rfl ?_
          refine vIfEq F (tgt := 151) dX6_newRoad_141 (by decide) (fun c18 => ?_) (fun c18 => ?_)
          · replace h := okT h c18
            refine vIload F dX6_newRoad_151 (k := 2) rfl ?_
            refine vGoto F (tgt := 160) dX6_newRoad_153 (by decide) ?_
            have z := okS h
            exact vIret F dX6_newRoad_160 z
          · replace h := okF h c18
            refine vIload F dX6_newRoad_144 (k := 2) rfl ?_
            refine vBipush F (v := (-5)) dX6_newRoad_146 kb_m5 ?_
            refine vIcmpNe F (tgt := 156) dX6_newRoad_148 (by decide) (fun c17 => ?_) (fun c17 => ?_)
            · replace h := okF h c17
              refine vIloadN F dX6_newRoad_156 (k := 1) rfl ?_
              refine vIload F dX6_newRoad_157 (k := 3) rfl ?_
              refine vIsub F dX6_newRoad_159 ?_
              have z := okS h
              exact vIret F dX6_newRoad_160 z
            · replace h := okT h c17
              refine vIload F dX6_newRoad_151 (k := 2) rfl ?_
              refine vGoto F (tgt := 160) dX6_newRoad_153 (by decide) ?_
              have z := okS h
              exact vIret F dX6_newRoad_160 z
        · unfold NB_newRoad_l41 at h
          refine vIload F dX6_newRoad_41 (k := 6) rfl ?_
          refine vAloadN F dX6_newRoad_43 (k := 0) rfl ?_
          refine vGetR F (t := 11) dX6_newRoad_44 fa_X6_22 (cqC_0 hs) rfl ?_
          refine vGetI F dX6_newRoad_47 fa_X6_61 (is_X5_11 hs).1 rfl ?_
          refine vIcmpGe F (tgt := 140) dX6_newRoad_50 (by decide) (fun c16 => ?_) (fun c16 => ?_)
          · replace h := okT h c16
            refine vSub [2, 3, 4, 5] rfl ?_
            have z := okR h
            exact z
          · replace h := okF h c16
            refine vIload F dX6_newRoad_53 (k := 6) rfl ?_
            refine vIconst F (v := 1) dX6_newRoad_55 k_1 ?_
            refine vIadd F dX6_newRoad_56 ?_
            refine vIstore F (L' := [(7, .int ((s3.2.2.1) + 1)), (0, .ref (gr G 0)), (1, .int a1), (2, .int a2), (3, .int r2), (4, .int (s3.1)), (5, .int (s3.2.1)), (6, .int (s3.2.2.1))]) dX6_newRoad_57 (by decide) rfl ?_
            refine vSub [1, 2, 3, 4, 5, 6, 7, 0] rfl ?_
            refine okLoop (s0 := (s3.1, s3.2.1, (s3.2.2.1) + 1, s3.2.2.2)) (T := (fun (s5 : Int32 × Int32 × Int32 × Mm) => mjV G X 9 59 [(0, .ref (gr G 0)), (1, .int a1), (2, .int a2), (3, .int r2), (4, .int (s5.1)), (5, .int (s5.2.1)), (6, .int (s3.2.2.1)), (7, .int (s5.2.2.1))] [] (s5.2.2.2) P)) (Ve := (fun (e6 : Int32 × Int32 × Mm) => mjV G X 9 134 [(0, .ref (gr G 0)), (1, .int a1), (2, .int a2), (3, .int r2), (4, .int (e6.1)), (5, .int (e6.2.1)), (6, .int (s3.2.2.1))] [] (e6.2.2) P)) h ?_ (fun s5 h => ?_)
            · intro e6 h
              refine vIinc F (v := 1) (k := 6) (L' := [(6, .int ((s3.2.2.1) + 1)), (0, .ref (gr G 0)), (1, .int a1), (2, .int a2), (3, .int r2), (4, .int (e6.1)), (5, .int (e6.2.1))]) dX6_newRoad_134 rfl k_1 (by decide) rfl ?_
              refine vGoto F (tgt := 41) dX6_newRoad_137 (by decide) ?_
              refine vSub [1, 2, 3, 4, 5, 6, 0] rfl ?_
              have z := okL h
              exact z
            · unfold NB_newRoad_l59 at h
              refine vIload F dX6_newRoad_59 (k := 7) rfl ?_
              refine vAloadN F dX6_newRoad_61 (k := 0) rfl ?_
              refine vGetR F (t := 11) dX6_newRoad_62 fa_X6_22 (cqC_0 hs) rfl ?_
              refine vGetI F dX6_newRoad_65 fa_X6_61 (is_X5_11 hs).1 rfl ?_
              refine vIcmpGe F (tgt := 134) dX6_newRoad_68 (by decide) (fun c14 => ?_) (fun c14 => ?_)
              · replace h := okT h c14
                refine vSub [0, 1, 2, 3, 4, 5, 6] rfl ?_
                have z := okR h
                exact z
              · replace h := okF h c14
                refine vAloadN F dX6_newRoad_71 (k := 0) rfl ?_
                refine vGetR F (t := 11) dX6_newRoad_72 fa_X6_22 (cqC_0 hs) rfl ?_
                refine vGetR F (t := 11 + 4) dX6_newRoad_75 fa_X6_97 (is_X5_11 hs).1 rfl ?_
                refine vIload F dX6_newRoad_78 (k := 6) rfl ?_
                refine vIload F dX6_newRoad_80 (k := 7) rfl ?_
                refine vCallS F (d' := 0) (As := [.int (s3.2.2.1), .int (s5.2.2.1)]) (st := [.ref (gr G (11 + 4))]) dX6_newRoad_82 lk_X6_100 my_X6_index sy_X6_index (by decide) rfl rfl (Nat.le_of_ble_eq_true rfl) (NB_index_ok hG hs ?_)
                show mjV G X 9 85 [(0, .ref (gr G 0)), (1, .int a1), (2, .int a2), (3, .int r2), (4, .int (s5.1)), (5, .int (s5.2.1)), (6, .int (s3.2.2.1)), (7, .int (s5.2.2.1))] [.int (NB_index (s3.2.2.1) (s5.2.2.1)), .ref (gr G (11 + 4))] (s5.2.2.2) P
                obtain ⟨g7, h⟩ := okga h
                refine vIald F dX6_newRoad_85 (is_X5_11 hs).2.2.2.2.1 g7 ?_
                refine vIfNe F (tgt := 128) dX6_newRoad_86 (by decide) (fun c13 => ?_) (fun c13 => ?_)
                · replace h := okF h c13
                  refine vIinc F (v := 1) (k := 7) (L' := [(7, .int ((s5.2.2.1) + 1)), (0, .ref (gr G 0)), (1, .int a1), (2, .int a2), (3, .int r2), (4, .int (s5.1)), (5, .int (s5.2.1)), (6, .int (s3.2.2.1))]) dX6_newRoad_128 rfl k_1 (by decide) rfl ?_
                  refine vGoto F (tgt := 59) dX6_newRoad_131 (by decide) ?_
                  refine vSub [1, 2, 3, 4, 5, 6, 7, 0] rfl ?_
                  have z := okL h
                  exact z
                · replace h := okT h c13
                  refine vAloadN F dX6_newRoad_89 (k := 0) rfl ?_
                  refine vIload F dX6_newRoad_90 (k := 6) rfl ?_
                  refine vIload F dX6_newRoad_92 (k := 7) rfl ?_
                  refine vIloadN F dX6_newRoad_94 (k := 1) rfl ?_
                  refine vCallV F (d' := 5) (x := 0) (T := TX6) (N := 10) (As := [.int (s3.2.2.1), .int (s5.2.2.1), .int a1]) (st := []) dX6_newRoad_95 lk_X6_213 my_X6_allWaysWith mv_X6_allWaysWith (cqC_0 hs) rfl (by decide) rfl rfl (Nat.le_of_ble_eq_true rfl) (NB_allWaysWith_ok hG hs (okB h fun r8 h => ?_))
                  show mjV G X 9 98 [(0, .ref (gr G 0)), (1, .int a1), (2, .int a2), (3, .int r2), (4, .int (s5.1)), (5, .int (s5.2.1)), (6, .int (s3.2.2.1)), (7, .int (s5.2.2.1))] [.int (r8.1)] (r8.2) P
                  refine vIstore F (L' := [(8, .int (r8.1)), (0, .ref (gr G 0)), (1, .int a1), (2, .int a2), (3, .int r2), (4, .int (s5.1)), (5, .int (s5.2.1)), (6, .int (s3.2.2.1)), (7, .int (s5.2.2.1))]) dX6_newRoad_98 (by decide) rfl ?_
                  refine vIload F dX6_newRoad_100 (k := 5) rfl ?_
                  refine vBipush F (v := (-5)) dX6_newRoad_102 kb_m5 ?_
                  refine okJ (Vj := fun (e9 : Unit) => mjV G X 9 114 [(0, .ref (gr G 0)), (1, .int a1), (2, .int a2), (3, .int r2), (6, .int (s3.2.2.1)), (7, .int (s5.2.2.1)), (8, .int (r8.1))] [] (r8.2) P) h (fun e9 h => ?_) (fun j10 Jj10 h => ?_)
                  · refine vBipush F (v := 10) dX6_newRoad_114 kb_10 ?_
                    refine vIload F dX6_newRoad_116 (k := 4) rfl ?_
                    refine vImul F dX6_newRoad_118 ?_
                    refine vIload F dX6_newRoad_119 (k := 5) rfl ?_
                    refine vIadd F dX6_newRoad_121 ?_
                    refine vIstore F (L' := [(4, .int ((10 * (s3.2.2.1)) + (s5.2.2.1))), (0, .ref (gr G 0)), (1, .int a1), (2, .int a2), (3, .int r2), (6, .int (s3.2.2.1)), (7, .int (s5.2.2.1)), (8, .int (r8.1))]) dX6_newRoad_122 (by decide) rfl ?_
                    refine vIload F dX6_newRoad_124 (k := 7) rfl ?_
                    refine vIstore F (L' := [(5, .int (r8.1)), (4, .int ((10 * (s3.2.2.1)) + (s5.2.2.1))), (0, .ref (gr G 0)), (1, .int a1), (2, .int a2), (3, .int r2), (6, .int (s3.2.2.1)), (7, .int (s5.2.2.1)), (8, .int (r8.1))]) dX6_newRoad_126 (by decide) rfl ?_
                    refine vIinc F (v := 1) (k := 7) (L' := [(7, .int ((s5.2.2.1) + 1)), (5, .int (r8.1)), (4, .int ((10 * (s3.2.2.1)) + (s5.2.2.1))), (0, .ref (gr G 0)), (1, .int a1), (2, .int a2), (3, .int r2), (6, .int (s3.2.2.1)), (8, .int (r8.1))]) dX6_newRoad_128 rfl k_1 (by decide) rfl ?_
                    refine vGoto F (tgt := 59) dX6_newRoad_131 (by decide) ?_
                    refine vSub [3, 4, 5, 6, 2, 1, 7, 0] rfl ?_
                    have z := okL h
                    exact z
                  · refine vIcmpEq F (tgt := 114) dX6_newRoad_104 (by decide) (fun c12 => ?_) (fun c12 => ?_)
                    · replace h := okT h c12
                      refine vSub [1, 2, 3, 4, 7, 8, 0] rfl ?_
                      exact Jj10 () h
                    · replace h := okF h c12
                      refine vIload F dX6_newRoad_107 (k := 0) rfl ?_
                      refine vIload F dX6_newRoad_109 (k := 6) rfl ?_
                      refine vIcmpGe F (tgt := 128) dX6_newRoad_111 (by decide) (fun c11 => ?_) (fun c11 => ?_)
                      · replace h := okT h c11
                        refine vIinc F (v := 1) (k := 8) (L' := [(7, .int ((s5.2.2.1) + 1)), (8, .int (r8.1)), (0, .ref (gr G 0)), (1, .int a1), (2, .int a2), (3, .int r2), (4, .int (s5.1)), (5, .int (s5.2.1)), (6, .int (s3.2.2.1))]) dX6_newRoad_128 rfl k_1 (by decide) rfl ?_
                        refine vGoto F (tgt := 59) dX6_newRoad_131 (by decide) ?_
                        refine vSub [2, 3, 4, 5, 6, 7, 8, 0] rfl ?_
                        have z := okL h
                        exact z
                      · replace h := okF h c11
                        refine vSub [1, 2, 3, 4, 7, 8, 0] rfl ?_
                        exact Jj10 () h
      · replace h := okF h c20
        refine vBipush F (v := (-2)) dX6_newRoad_20 kb_m2 ?_
        have z := okS h
        exact vIret F dX6_newRoad_22 z
  · replace h := okF h c22
    refine vIconst F (v := (-1)) dX6_newRoad_7 k_m1 ?_
    have z := okS h
    exact vIret F dX6_newRoad_8 z
noncomputable def NB_gets_l22 (a1 : Int32) (s2 : Int32 × Int32 × Mm) : Option ((Int32 × Int32 × Mm) ⊕ (Int32 × Mm)) :=
  if ((s2.2.2).1 11 6) ≤ (s2.2.1) then
 (some (.inr (s2.1, s2.2.2)))
 else (ga (s2.2.1) 8 (ga (s2.2.1) 8 ((Jo_walk (s2.2.2) ((s2.2.2).1 (11 + 6) (s2.2.1).toNatClampNeg) ((s2.2.2).1 (11 + 7) (s2.2.1).toNatClampNeg)).bind fun r6 =>
  ga (s2.2.1) 8 (if (r6.1) = ((r6.2).1 (11 + 7) (s2.2.1).toNatClampNeg) then
 (some (.inl (s2.1, (s2.2.1) + 1, r6.2)))
 else (if (r6.1) = a1 then
 (ga (s2.2.1) 8 (some (.inl ((s2.1) + ((r6.2).1 (11 + 8) (s2.2.1).toNatClampNeg), (s2.2.1) + 1, r6.2))))
 else (some (.inl (s2.1, (s2.2.1) + 1, r6.2))))))))
noncomputable def NB_gets (m : Mm) (a1 : Int32) : Option (Int32 × Mm) :=
  if (Wo_has 11 m a1) = true then
 ((NB_look m).bind fun r1 =>
  (iter (NB_gets_l22 a1) (0, 0, r1)).bind fun e3 =>
  some (e3.1, e3.2))
 else (some ((-1), m))
set_option maxRecDepth 20000 in
set_option maxHeartbeats 4000000 in
theorem NB_gets_ok {G : Gw} (hG : gOk G) (hs : gsh G = shC) {a1 : Int32} {m : Mm} {P : Option Value → Mm → Prop} (h : mjO (NB_gets m a1) (fun r => P (some (.int r.1)) r.2)) : mjR G 5 yX6_gets cX6_gets 5 (some .int) [.ref (gr G 0), .int a1] m P := by
  refine mjR_of hG (by decide) (Nat.le_of_ble_eq_true rfl) ?_
  intro X F
  have F : mjF G X cX6_gets RX6 5 5 (some .int) := F
  show mjV G X 5 0 [(0, .ref (gr G 0)), (1, .int a1)] [] m P
  unfold NB_gets at h
  refine vAloadN F dX6_gets_0 (k := 0) rfl ?_
  refine vGetR F (t := 11) dX6_gets_1 fa_X6_22 (cqC_0 hs) rfl ?_
  refine vIloadN F dX6_gets_4 (k := 1) rfl ?_
  refine vCallV F (d' := 0) (x := 11) (T := TX5) (N := 13) (As := [.int a1]) (st := []) dX6_gets_5 lk_X6_69 my_X5_has mv_X5_has (is_X5_11 hs).1 rfl (by decide) rfl rfl (Nat.le_of_ble_eq_true rfl) (Wo_has_ok hG hs (is_X5_11 hs) ?_)
  show mjV G X 5 8 [(0, .ref (gr G 0)), (1, .int a1)] [.int (bI (Wo_has 11 m a1))] m P
  refine vIfNeB F (tgt := 13) dX6_gets_8 (by decide) (fun c13 => ?_) (fun c13 => ?_)
  · replace h := okT h c13
    refine vAloadN F dX6_gets_13 (k := 0) rfl ?_
    refine vCallV F (d' := 4) (x := 0) (T := TX6) (N := 10) (As := []) (st := []) dX6_gets_14 lk_X6_83 my_X6_look mv_X6_look (cqC_0 hs) rfl (by decide) rfl rfl (Nat.le_of_ble_eq_true rfl) (NB_look_ok hG hs (okB h fun r1 h => ?_))
    show mjV G X 5 17 [(0, .ref (gr G 0)), (1, .int a1)] [.ref (gr G 1)] r1 P
    refine vPop F dX6_gets_17 rfl ?_
    refine vIconst F (v := 0) dX6_gets_18 k_0 ?_
    refine vIstoreN F (L' := [(2, .int 0), (0, .ref (gr G 0)), (1, .int a1)]) dX6_gets_19 rfl (by decide) rfl ?_
    refine vIconst F (v := 0) dX6_gets_20 k_0 ?_
    refine vIstoreN F (L' := [(3, .int 0), (2, .int 0), (0, .ref (gr G 0)), (1, .int a1)]) dX6_gets_21 rfl (by decide) rfl ?_
    refine vSub [2, 3, 1, 0] rfl ?_
    refine okLoop (s0 := (0, 0, r1)) (T := (fun (s2 : Int32 × Int32 × Mm) => mjV G X 5 22 [(0, .ref (gr G 0)), (1, .int a1), (2, .int (s2.1)), (3, .int (s2.2.1))] [] (s2.2.2) P)) (Ve := (fun (e3 : Int32 × Mm) => mjV G X 5 98 [(2, .int (e3.1))] [] (e3.2) P)) h ?_ (fun s2 h => ?_)
    · intro e3 h
      refine vIloadN F dX6_gets_98 (k := 0) rfl ?_
      have z := okS h
      exact vIret F dX6_gets_99 z
    · unfold NB_gets_l22 at h
      refine vIloadN F dX6_gets_22 (k := 3) rfl ?_
      refine vAloadN F dX6_gets_23 (k := 0) rfl ?_
      refine vGetR F (t := 11) dX6_gets_24 fa_X6_22 (cqC_0 hs) rfl ?_
      refine vGetI F dX6_gets_27 fa_X6_127 (is_X5_11 hs).1 rfl ?_
      refine vIcmpGe F (tgt := 98) dX6_gets_30 (by decide) (fun c11 => ?_) (fun c11 => ?_)
      · replace h := okT h c11
        refine vSub [2] rfl ?_
        have z := okR h
        exact z
      · replace h := okF h c11
        refine vAloadN F dX6_gets_33 (k := 0) rfl ?_
        refine vGetR F (t := 1) dX6_gets_34 fa_X6_12 (cqC_0 hs) rfl ?_
        refine vAloadN F dX6_gets_37 (k := 0) rfl ?_
        refine vGetR F (t := 11) dX6_gets_38 fa_X6_22 (cqC_0 hs) rfl ?_
        refine vGetR F (t := 11 + 6) dX6_gets_41 fa_X6_216 (is_X5_11 hs).1 rfl ?_
        refine vIloadN F dX6_gets_44 (k := 3) rfl ?_
        obtain ⟨g4, h⟩ := okga h
        refine vIald F dX6_gets_45 (is_X5_11 hs).2.2.2.2.2.2.1 g4 ?_
        refine vAloadN F dX6_gets_46 (k := 0) rfl ?_
        refine vGetR F (t := 11) dX6_gets_47 fa_X6_22 (cqC_0 hs) rfl ?_
        refine vGetR F (t := 11 + 7) dX6_gets_50 fa_X6_219 (is_X5_11 hs).1 rfl ?_
        refine vIloadN F dX6_gets_53 (k := 3) rfl ?_
        obtain ⟨g5, h⟩ := okga h
        refine vIald F dX6_gets_54 (is_X5_11 hs).2.2.2.2.2.2.2.1 g5 ?_
        refine vCallV F (d' := 1) (x := 1) (T := TX1) (N := 15) (As := [.int ((s2.2.2).1 (11 + 6) (s2.2.1).toNatClampNeg), .int ((s2.2.2).1 (11 + 7) (s2.2.1).toNatClampNeg)]) (st := []) dX6_gets_55 lk_X6_179 my_X1_walk mv_X1_walk (cqC_1 hs) rfl (by decide) rfl rfl (Nat.le_of_ble_eq_true rfl) (Jo_walk_ok hG hs (okB h fun r6 h => ?_))
        show mjV G X 5 58 [(0, .ref (gr G 0)), (1, .int a1), (2, .int (s2.1)), (3, .int (s2.2.1))] [.int (r6.1)] (r6.2) P
        refine vIstore F (L' := [(4, .int (r6.1)), (0, .ref (gr G 0)), (1, .int a1), (2, .int (s2.1)), (3, .int (s2.2.1))]) dX6_gets_58 (by decide) rfl ?_
        refine vIload F dX6_gets_60 (k := 0) rfl ?_
        refine vAloadN F dX6_gets_62 (k := 1) rfl ?_
        refine vGetR F (t := 11) dX6_gets_63 fa_X6_22 (cqC_0 hs) rfl ?_
        refine vGetR F (t := 11 + 7) dX6_gets_66 fa_X6_219 (is_X5_11 hs).1 rfl ?_
        refine vIloadN F dX6_gets_69 (k := 4) rfl ?_
        obtain ⟨g7, h⟩ := okga h
        refine vIald F dX6_gets_70 (is_X5_11 hs).2.2.2.2.2.2.2.1 g7 ?_
        refine vIcmpEq F (tgt := 92) dX6_gets_71 (by decide) (fun c10 => ?_) (fun c10 => ?_)
        · replace h := okT h c10
          refine vIinc F (v := 1) (k := 4) (L' := [(3, .int ((s2.2.1) + 1)), (4, .int (r6.1)), (0, .ref (gr G 0)), (1, .int a1), (2, .int (s2.1))]) dX6_gets_92 rfl k_1 (by decide) rfl ?_
          refine vGoto F (tgt := 22) dX6_gets_95 (by decide) ?_
          refine vSub [2, 3, 4, 0] rfl ?_
          have z := okL h
          exact z
        · replace h := okF h c10
          refine vIload F dX6_gets_74 (k := 0) rfl ?_
          refine vIloadN F dX6_gets_76 (k := 2) rfl ?_
          refine vIcmpNe F (tgt := 92) dX6_gets_77 (by decide) (fun c9 => ?_) (fun c9 => ?_)
          · replace h := okF h c9
            refine vIinc F (v := 1) (k := 4) (L' := [(3, .int ((s2.2.1) + 1)), (4, .int (r6.1)), (0, .ref (gr G 0)), (1, .int a1), (2, .int (s2.1))]) dX6_gets_92 rfl k_1 (by decide) rfl ?_
            refine vGoto F (tgt := 22) dX6_gets_95 (by decide) ?_
            refine vSub [2, 3, 4, 0] rfl ?_
            have z := okL h
            exact z
          · replace h := okT h c9
            refine vIloadN F dX6_gets_80 (k := 3) rfl ?_
            refine vAloadN F dX6_gets_81 (k := 1) rfl ?_
            refine vGetR F (t := 11) dX6_gets_82 fa_X6_22 (cqC_0 hs) rfl ?_
            refine vGetR F (t := 11 + 8) dX6_gets_85 fa_X6_222 (is_X5_11 hs).1 rfl ?_
            refine vIloadN F dX6_gets_88 (k := 4) rfl ?_
            obtain ⟨g8, h⟩ := okga h
            refine vIald F dX6_gets_89 (is_X5_11 hs).2.2.2.2.2.2.2.2.1 g8 ?_
            refine vIadd F dX6_gets_90 ?_
            refine vIstoreN F (L' := [(2, .int ((s2.1) + ((r6.2).1 (11 + 8) (s2.2.1).toNatClampNeg))), (4, .int (r6.1)), (0, .ref (gr G 0)), (1, .int a1), (3, .int (s2.2.1))]) dX6_gets_91 rfl (by decide) rfl ?_
            refine vIinc F (v := 1) (k := 4) (L' := [(3, .int ((s2.2.1) + 1)), (2, .int ((s2.1) + ((r6.2).1 (11 + 8) (s2.2.1).toNatClampNeg))), (4, .int (r6.1)), (0, .ref (gr G 0)), (1, .int a1)]) dX6_gets_92 rfl k_1 (by decide) rfl ?_
            refine vGoto F (tgt := 22) dX6_gets_95 (by decide) ?_
            refine vSub [3, 4, 1, 0] rfl ?_
            have z := okL h
            exact z
  · replace h := okF h c13
    refine vIconst F (v := (-1)) dX6_gets_11 k_m1 ?_
    have z := okS h
    exact vIret F dX6_gets_12 z
def NB_inLowestTerms_l9  (s1 : Int64 × Int64 × Int32) : Option ((Int64 × Int64 × Int32) ⊕ Int64) :=
  if 100 ≤ (s1.2.2) then
 (some (.inr (s1.1)))
 else (if (lg_cmp (s1.2.1) 0) = 0 then
 (some (.inr (s1.1)))
 else (gzl (s1.2.1) (some (.inl (s1.2.1, (s1.1) - (s1.1) / (s1.2.1) * (s1.2.1), (s1.2.2) + 1)))))
noncomputable def NB_inLowestTerms (a1 : Int64) (a2 : Int64) (a3 : Int32) : Option (Int64) :=
  (iter (NB_inLowestTerms_l9) (a1, a2, 0)).bind fun e2 =>
  if a3 = 0 then
 (if (lg_cmp e2 0) = 0 then
 (some a1)
 else (gzl e2 (some (a1 / e2))))
 else (if (lg_cmp e2 0) = 0 then
 (some a2)
 else (gzl e2 (some (a2 / e2))))
set_option maxRecDepth 20000 in
set_option maxHeartbeats 4000000 in
theorem NB_inLowestTerms_ok {G : Gw} (hG : gOk G) (hs : gsh G = shC) {a1 : Int64} {a2 : Int64} {a3 : Int32} {m : Mm} {P : Option Value → Mm → Prop} (h : mjO (NB_inLowestTerms a1 a2 a3) (fun r => P (some (.long r)) m)) : mjR G 0 yX6_inLowestTerms cX6_inLowestTerms 12 (some .long) [.long a1, .long a2, .int a3] m P := by
  refine mjR_of hG (by decide) (Nat.le_of_ble_eq_true rfl) ?_
  intro X F
  have F : mjF G X cX6_inLowestTerms RX6 12 0 (some .long) := F
  show mjV G X 12 0 [(0, .long a1), (2, .long a2), (4, .int a3)] [] m P
  unfold NB_inLowestTerms at h
  refine vLloadN F dX6_inLowestTerms_0 (k := 0) rfl ?_
  refine vLstore F (L' := [(5, .long a1), (0, .long a1), (2, .long a2), (4, .int a3)]) dX6_inLowestTerms_1 (by decide) rfl ?_
  refine vLloadN F dX6_inLowestTerms_3 (k := 2) rfl ?_
  refine vLstore F (L' := [(7, .long a2), (5, .long a1), (0, .long a1), (2, .long a2), (4, .int a3)]) dX6_inLowestTerms_4 (by decide) rfl ?_
  refine vIconst F (v := 0) dX6_inLowestTerms_6 k_0 ?_
  refine vIstore F (L' := [(9, .int 0), (7, .long a2), (5, .long a1), (0, .long a1), (2, .long a2), (4, .int a3)]) dX6_inLowestTerms_7 (by decide) rfl ?_
  refine vSub [3, 4, 5, 2, 1, 0] rfl ?_
  refine okLoop (s0 := (a1, a2, 0)) (T := (fun (s1 : Int64 × Int64 × Int32) => mjV G X 12 9 [(0, .long a1), (2, .long a2), (4, .int a3), (5, .long (s1.1)), (7, .long (s1.2.1)), (9, .int (s1.2.2))] [] m P)) (Ve := (fun (e2 : Int64) => mjV G X 12 44 [(0, .long a1), (2, .long a2), (4, .int a3), (5, .long e2)] [] m P)) h ?_ (fun s1 h => ?_)
  · intro e2 h
    refine vIload F dX6_inLowestTerms_44 (k := 2) rfl ?_
    refine vIfNe F (tgt := 53) dX6_inLowestTerms_46 (by decide) (fun c10 => ?_) (fun c10 => ?_)
    · replace h := okF h c10
      refine vLloadN F dX6_inLowestTerms_53 (k := 1) rfl ?_
      refine vLstore F (L' := [(9, .long a2), (0, .long a1), (2, .long a2), (4, .int a3), (5, .long e2)]) dX6_inLowestTerms_54 (by decide) rfl ?_
      refine vLload F dX6_inLowestTerms_56 (k := 4) rfl ?_
      refine vLconst F (v := 0) dX6_inLowestTerms_58 rfl ?_
      refine vLcmp F dX6_inLowestTerms_59 ?_
      refine vIfNe F (tgt := 68) dX6_inLowestTerms_60 (by decide) (fun c7 => ?_) (fun c7 => ?_)
      · replace h := okF h c7
        refine vLload F dX6_inLowestTerms_68 (k := 0) rfl ?_
        refine vLload F dX6_inLowestTerms_70 (k := 4) rfl ?_
        obtain ⟨g6, h⟩ := okgzl h
        refine vLdiv F dX6_inLowestTerms_72 g6 ?_
        have z := okS h
        exact vLret F dX6_inLowestTerms_73 z
      · replace h := okT h c7
        refine vLload F dX6_inLowestTerms_63 (k := 0) rfl ?_
        refine vGoto F (tgt := 73) dX6_inLowestTerms_65 (by decide) ?_
        have z := okS h
        exact vLret F dX6_inLowestTerms_73 z
    · replace h := okT h c10
      refine vLloadN F dX6_inLowestTerms_49 (k := 0) rfl ?_
      refine vGoto F (tgt := 54) dX6_inLowestTerms_50 (by decide) ?_
      refine vLstore F (L' := [(9, .long a1), (0, .long a1), (2, .long a2), (4, .int a3), (5, .long e2)]) dX6_inLowestTerms_54 (by decide) rfl ?_
      refine vLload F dX6_inLowestTerms_56 (k := 4) rfl ?_
      refine vLconst F (v := 0) dX6_inLowestTerms_58 rfl ?_
      refine vLcmp F dX6_inLowestTerms_59 ?_
      refine vIfNe F (tgt := 68) dX6_inLowestTerms_60 (by decide) (fun c9 => ?_) (fun c9 => ?_)
      · replace h := okF h c9
        refine vLload F dX6_inLowestTerms_68 (k := 0) rfl ?_
        refine vLload F dX6_inLowestTerms_70 (k := 4) rfl ?_
        obtain ⟨g8, h⟩ := okgzl h
        refine vLdiv F dX6_inLowestTerms_72 g8 ?_
        have z := okS h
        exact vLret F dX6_inLowestTerms_73 z
      · replace h := okT h c9
        refine vLload F dX6_inLowestTerms_63 (k := 0) rfl ?_
        refine vGoto F (tgt := 73) dX6_inLowestTerms_65 (by decide) ?_
        have z := okS h
        exact vLret F dX6_inLowestTerms_73 z
  · unfold NB_inLowestTerms_l9 at h
    refine vIload F dX6_inLowestTerms_9 (k := 5) rfl ?_
    refine vBipush F (v := 100) dX6_inLowestTerms_11 kb_100 ?_
    refine vIcmpGe F (tgt := 44) dX6_inLowestTerms_13 (by decide) (fun c5 => ?_) (fun c5 => ?_)
    · replace h := okT h c5
      refine vSub [0, 1, 2, 3] rfl ?_
      have z := okR h
      exact z
    · replace h := okF h c5
      refine vLload F dX6_inLowestTerms_16 (k := 4) rfl ?_
      refine vLconst F (v := 0) dX6_inLowestTerms_18 rfl ?_
      refine vLcmp F dX6_inLowestTerms_19 ?_
      refine vIfEq F (tgt := 44) dX6_inLowestTerms_20 (by decide) (fun c4 => ?_) (fun c4 => ?_)
      · replace h := okT h c4
        refine vSub [0, 1, 2, 3] rfl ?_
        have z := okR h
        exact z
      · replace h := okF h c4
        refine vLload F dX6_inLowestTerms_23 (k := 3) rfl ?_
        refine vLload F dX6_inLowestTerms_25 (k := 4) rfl ?_
        obtain ⟨g3, h⟩ := okgzl h
        refine vLrem F dX6_inLowestTerms_27 g3 ?_
        refine vLstore F (L' := [(10, .long ((s1.1) - (s1.1) / (s1.2.1) * (s1.2.1))), (0, .long a1), (2, .long a2), (4, .int a3), (5, .long (s1.1)), (7, .long (s1.2.1)), (9, .int (s1.2.2))]) dX6_inLowestTerms_28 (by decide) rfl ?_
        refine vLload F dX6_inLowestTerms_30 (k := 5) rfl ?_
        refine vLstore F (L' := [(5, .long (s1.2.1)), (10, .long ((s1.1) - (s1.1) / (s1.2.1) * (s1.2.1))), (0, .long a1), (2, .long a2), (4, .int a3), (7, .long (s1.2.1)), (9, .int (s1.2.2))]) dX6_inLowestTerms_32 (by decide) rfl ?_
        refine vLload F dX6_inLowestTerms_34 (k := 1) rfl ?_
        refine vLstore F (L' := [(7, .long ((s1.1) - (s1.1) / (s1.2.1) * (s1.2.1))), (5, .long (s1.2.1)), (10, .long ((s1.1) - (s1.1) / (s1.2.1) * (s1.2.1))), (0, .long a1), (2, .long a2), (4, .int a3), (9, .int (s1.2.2))]) dX6_inLowestTerms_36 (by decide) rfl ?_
        refine vIinc F (v := 1) (k := 6) (L' := [(9, .int ((s1.2.2) + 1)), (7, .long ((s1.1) - (s1.1) / (s1.2.1) * (s1.2.1))), (5, .long (s1.2.1)), (10, .long ((s1.1) - (s1.1) / (s1.2.1) * (s1.2.1))), (0, .long a1), (2, .long a2), (4, .int a3)]) dX6_inLowestTerms_38 rfl k_1 (by decide) rfl ?_
        refine vGoto F (tgt := 9) dX6_inLowestTerms_41 (by decide) ?_
        refine vSub [4, 5, 6, 2, 1, 0] rfl ?_
        have z := okL h
        exact z
def NB_odds_l62 (a3 : Int32) (s3 : Int64 × Int32) : Option ((Int64 × Int32) ⊕ Int64) :=
  if a3 ≤ (s3.2) then
 (some (.inr (s3.1)))
 else (some (.inl ((s3.1) * 60, (s3.2) + 1)))
noncomputable def NB_odds (m : Mm) (a1 : Int32) (a2 : Int32) (a3 : Int32) (a4 : Int32) : Option (Int64 × Mm) :=
  if (Wo_has 11 m a1) = true then
 (if (Wo_has 11 m a2) = true then
 (if a3 < 0 then
 (some ((-9223372036854775808), m))
 else (if 6 < a3 then
 (some ((-9223372036854775808), m))
 else (if (NB_isPart a4) = true then
 ((NB_look m).bind fun r1 =>
  (Jo_sharesAt r1 a1 a2 a3).bind fun r2 =>
  (iter (NB_odds_l62 a3) (1, 0)).bind fun e4 =>
  (NB_inLowestTerms (r2.1) e4 a4).bind fun r6 =>
  some (r6, r2.2))
 else (some ((-9223372036854775808), m)))))
 else (some ((-9223372036854775808), m)))
 else (some ((-9223372036854775808), m))
set_option maxRecDepth 20000 in
set_option maxHeartbeats 4000000 in
theorem NB_odds_ok {G : Gw} (hG : gOk G) (hs : gsh G = shC) {a1 : Int32} {a2 : Int32} {a3 : Int32} {a4 : Int32} {m : Mm} {P : Option Value → Mm → Prop} (h : mjO (NB_odds m a1 a2 a3 a4) (fun r => P (some (.long r.1)) r.2)) : mjR G 5 yX6_odds cX6_odds 10 (some .long) [.ref (gr G 0), .int a1, .int a2, .int a3, .int a4] m P := by
  refine mjR_of hG (by decide) (Nat.le_of_ble_eq_true rfl) ?_
  intro X F
  have F : mjF G X cX6_odds RX6 10 5 (some .long) := F
  show mjV G X 10 0 [(0, .ref (gr G 0)), (1, .int a1), (2, .int a2), (3, .int a3), (4, .int a4)] [] m P
  unfold NB_odds at h
  refine vAloadN F dX6_odds_0 (k := 0) rfl ?_
  refine vGetR F (t := 11) dX6_odds_1 fa_X6_22 (cqC_0 hs) rfl ?_
  refine vIloadN F dX6_odds_4 (k := 1) rfl ?_
  refine vCallV F (d' := 0) (x := 11) (T := TX5) (N := 13) (As := [.int a1]) (st := []) dX6_odds_5 lk_X6_69 my_X5_has mv_X5_has (is_X5_11 hs).1 rfl (by decide) rfl rfl (Nat.le_of_ble_eq_true rfl) (Wo_has_ok hG hs (is_X5_11 hs) ?_)
  show mjV G X 10 8 [(0, .ref (gr G 0)), (1, .int a1), (2, .int a2), (3, .int a3), (4, .int a4)] [.int (bI (Wo_has 11 m a1))] m P
  refine vIfEqB F (tgt := 40) dX6_odds_8 (by decide) (fun c12 => ?_) (fun c12 => ?_)
  · replace h := okF h c12
    refine vLdc2 F dX6_odds_40 kc_X6_225 ?_
    have z := okS h
    exact vLret F dX6_odds_43 z
  · replace h := okT h c12
    refine vAloadN F dX6_odds_11 (k := 0) rfl ?_
    refine vGetR F (t := 11) dX6_odds_12 fa_X6_22 (cqC_0 hs) rfl ?_
    refine vIloadN F dX6_odds_15 (k := 2) rfl ?_
    refine vCallV F (d' := 0) (x := 11) (T := TX5) (N := 13) (As := [.int a2]) (st := []) dX6_odds_16 lk_X6_69 my_X5_has mv_X5_has (is_X5_11 hs).1 rfl (by decide) rfl rfl (Nat.le_of_ble_eq_true rfl) (Wo_has_ok hG hs (is_X5_11 hs) ?_)
    show mjV G X 10 19 [(0, .ref (gr G 0)), (1, .int a1), (2, .int a2), (3, .int a3), (4, .int a4)] [.int (bI (Wo_has 11 m a2))] m P
    refine vIfEqB F (tgt := 40) dX6_odds_19 (by decide) (fun c11 => ?_) (fun c11 => ?_)
    · replace h := okF h c11
      refine vLdc2 F dX6_odds_40 kc_X6_225 ?_
      have z := okS h
      exact vLret F dX6_odds_43 z
    · replace h := okT h c11
      refine vIloadN F dX6_odds_22 (k := 3) rfl ?_
      refine vIfLt F (tgt := 40) dX6_odds_23 (by decide) (fun c10 => ?_) (fun c10 => ?_)
      · replace h := okT h c10
        refine vLdc2 F dX6_odds_40 kc_X6_225 ?_
        have z := okS h
        exact vLret F dX6_odds_43 z
      · replace h := okF h c10
        refine vIloadN F dX6_odds_26 (k := 3) rfl ?_
        refine vBipush F (v := 6) dX6_odds_27 kb_6 ?_
        refine vIcmpGt F (tgt := 40) dX6_odds_29 (by decide) (fun c9 => ?_) (fun c9 => ?_)
        · replace h := okT h c9
          refine vLdc2 F dX6_odds_40 kc_X6_225 ?_
          have z := okS h
          exact vLret F dX6_odds_43 z
        · replace h := okF h c9
          refine vIload F dX6_odds_32 (k := 4) rfl ?_
          refine vCallS F (d' := 0) (As := [.int a4]) (st := []) dX6_odds_34 lk_X6_176 my_X6_isPart sy_X6_isPart (by decide) rfl rfl (Nat.le_of_ble_eq_true rfl) (NB_isPart_ok hG hs ?_)
          show mjV G X 10 37 [(0, .ref (gr G 0)), (1, .int a1), (2, .int a2), (3, .int a3), (4, .int a4)] [.int (bI (NB_isPart a4))] m P
          refine vIfNeB F (tgt := 44) dX6_odds_37 (by decide) (fun c8 => ?_) (fun c8 => ?_)
          · replace h := okT h c8
            refine vAloadN F dX6_odds_44 (k := 0) rfl ?_
            refine vCallV F (d' := 4) (x := 0) (T := TX6) (N := 10) (As := []) (st := []) dX6_odds_45 lk_X6_83 my_X6_look mv_X6_look (cqC_0 hs) rfl (by decide) rfl rfl (Nat.le_of_ble_eq_true rfl) (NB_look_ok hG hs (okB h fun r1 h => ?_))
            show mjV G X 10 48 [(0, .ref (gr G 0)), (1, .int a1), (2, .int a2), (3, .int a3), (4, .int a4)] [.ref (gr G 1)] r1 P
            refine vIloadN F dX6_odds_48 (k := 1) rfl ?_
            refine vIloadN F dX6_odds_49 (k := 2) rfl ?_
            refine vIloadN F dX6_odds_50 (k := 3) rfl ?_
            refine vCallV F (d' := 2) (x := 1) (T := TX1) (N := 15) (As := [.int a1, .int a2, .int a3]) (st := []) dX6_odds_51 lk_X6_227 my_X1_sharesAt mv_X1_sharesAt (cqC_1 hs) rfl (by decide) rfl rfl (Nat.le_of_ble_eq_true rfl) (Jo_sharesAt_ok hG hs (okB h fun r2 h => ?_))
            show mjV G X 10 54 [(0, .ref (gr G 0)), (1, .int a1), (2, .int a2), (3, .int a3), (4, .int a4)] [.long (r2.1)] (r2.2) P
            refine vLstore F (L' := [(5, .long (r2.1)), (0, .ref (gr G 0)), (1, .int a1), (2, .int a2), (3, .int a3), (4, .int a4)]) dX6_odds_54 (by decide) rfl ?_
            refine vLconst F (v := 1) dX6_odds_56 rfl ?_
            refine vLstore F (L' := [(7, .long 1), (5, .long (r2.1)), (0, .ref (gr G 0)), (1, .int a1), (2, .int a2), (3, .int a3), (4, .int a4)]) dX6_odds_57 (by decide) rfl ?_
            refine vIconst F (v := 0) dX6_odds_59 k_0 ?_
            refine vIstore F (L' := [(9, .int 0), (7, .long 1), (5, .long (r2.1)), (0, .ref (gr G 0)), (1, .int a1), (2, .int a2), (3, .int a3), (4, .int a4)]) dX6_odds_60 (by decide) rfl ?_
            refine vSub [6, 7, 2, 1, 0] rfl ?_
            refine okLoop (s0 := (1, 0)) (T := (fun (s3 : Int64 × Int32) => mjV G X 10 62 [(3, .int a3), (4, .int a4), (5, .long (r2.1)), (7, .long (s3.1)), (9, .int (s3.2))] [] (r2.2) P)) (Ve := (fun (e4 : Int64) => mjV G X 10 82 [(4, .int a4), (5, .long (r2.1)), (7, .long e4)] [] (r2.2) P)) h ?_ (fun s3 h => ?_)
            · intro e4 h
              refine vLload F dX6_odds_82 (k := 1) rfl ?_
              refine vLload F dX6_odds_84 (k := 2) rfl ?_
              refine vIload F dX6_odds_86 (k := 0) rfl ?_
              refine vCallS F (d' := 0) (As := [.long (r2.1), .long e4, .int a4]) (st := []) dX6_odds_88 lk_X6_233 my_X6_inLowestTerms sy_X6_inLowestTerms (by decide) rfl rfl (Nat.le_of_ble_eq_true rfl) (NB_inLowestTerms_ok hG hs (okB h fun r6 h => ?_))
              show mjV G X 10 91 [(4, .int a4), (5, .long (r2.1)), (7, .long e4)] [.long r6] (r2.2) P
              have z := okS h
              exact vLret F dX6_odds_91 z
            · unfold NB_odds_l62 at h
              refine vIload F dX6_odds_62 (k := 4) rfl ?_
              refine vIloadN F dX6_odds_64 (k := 0) rfl ?_
              refine vIcmpGe F (tgt := 82) dX6_odds_65 (by decide) (fun c5 => ?_) (fun c5 => ?_)
              · replace h := okT h c5
                refine vSub [1, 2, 3] rfl ?_
                have z := okR h
                exact z
              · replace h := okF h c5
                refine vLload F dX6_odds_68 (k := 3) rfl ?_
                refine vLdc2 F dX6_odds_70 kc_X6_231 ?_
                refine vLmul F dX6_odds_73 ?_
                refine vLstore F (L' := [(7, .long ((s3.1) * 60)), (3, .int a3), (4, .int a4), (5, .long (r2.1)), (9, .int (s3.2))]) dX6_odds_74 (by decide) rfl ?_
                refine vIinc F (v := 1) (k := 4) (L' := [(9, .int ((s3.2) + 1)), (7, .long ((s3.1) * 60)), (3, .int a3), (4, .int a4), (5, .long (r2.1))]) dX6_odds_76 rfl k_1 (by decide) rfl ?_
                refine vGoto F (tgt := 62) dX6_odds_79 (by decide) ?_
                refine vSub [2, 3, 4, 1, 0] rfl ?_
                have z := okL h
                exact z
          · replace h := okF h c8
            refine vLdc2 F dX6_odds_40 kc_X6_225 ?_
            have z := okS h
            exact vLret F dX6_odds_43 z
noncomputable def NB_mean_l39 (s2 : Int64 × Int64 × Int32 × Mm) (s4 : Int64 × Int64 × Int32 × Mm) : Option ((Int64 × Int64 × Int32 × Mm) ⊕ (Int64 × Int64 × Mm)) :=
  if ((s4.2.2.2).1 11 0) ≤ (s4.2.2.1) then
 (some (.inr (s4.1, s4.2.1, s4.2.2.2)))
 else (if (s2.2.2.1) = (s4.2.2.1) then
 (some (.inl (s4.1, s4.2.1, (s4.2.2.1) + 1, s4.2.2.2)))
 else ((Jo_walk (s4.2.2.2) (s2.2.2.1) (s4.2.2.1)).bind fun r6 =>
  if (r6.1) = (s4.2.2.1) then
 (some (.inl ((s4.1) + (((r6.2).1 1 14).toInt64), (s4.2.1) + 1, (s4.2.2.1) + 1, r6.2)))
 else (some (.inl (s4.1, s4.2.1, (s4.2.2.1) + 1, r6.2)))))
noncomputable def NB_mean_l24  (s2 : Int64 × Int64 × Int32 × Mm) : Option ((Int64 × Int64 × Int32 × Mm) ⊕ (Int64 × Int64 × Mm)) :=
  if ((s2.2.2.2).1 11 0) ≤ (s2.2.2.1) then
 (some (.inr (s2.1, s2.2.1, s2.2.2.2)))
 else ((iter (NB_mean_l39 s2) (s2.1, s2.2.1, 0, s2.2.2.2)).bind fun e5 =>
  some (.inl (e5.1, e5.2.1, (s2.2.2.1) + 1, e5.2.2)))
noncomputable def NB_mean (m : Mm) (a1 : Int32) : Option (Int64 × Mm) :=
  if (NB_isPart a1) = true then
 ((NB_look m).bind fun r1 =>
  (iter (NB_mean_l24) (0, 0, 0, r1)).bind fun e3 =>
  if (lg_cmp (e3.2.1) 0) = 0 then
 (some ((-9223372036854775808), e3.2.2))
 else ((NB_inLowestTerms (e3.1) (e3.2.1) a1).bind fun r12 =>
  some (r12, e3.2.2)))
 else (some ((-9223372036854775808), m))
set_option maxRecDepth 20000 in
set_option maxHeartbeats 4000000 in
theorem NB_mean_ok {G : Gw} (hG : gOk G) (hs : gsh G = shC) {a1 : Int32} {m : Mm} {P : Option Value → Mm → Prop} (h : mjO (NB_mean m a1) (fun r => P (some (.long r.1)) r.2)) : mjR G 5 yX6_mean cX6_mean 8 (some .long) [.ref (gr G 0), .int a1] m P := by
  refine mjR_of hG (by decide) (Nat.le_of_ble_eq_true rfl) ?_
  intro X F
  have F : mjF G X cX6_mean RX6 8 5 (some .long) := F
  show mjV G X 8 0 [(0, .ref (gr G 0)), (1, .int a1)] [] m P
  unfold NB_mean at h
  refine vIloadN F dX6_mean_0 (k := 1) rfl ?_
  refine vCallS F (d' := 0) (As := [.int a1]) (st := []) dX6_mean_1 lk_X6_176 my_X6_isPart sy_X6_isPart (by decide) rfl rfl (Nat.le_of_ble_eq_true rfl) (NB_isPart_ok hG hs ?_)
  show mjV G X 8 4 [(0, .ref (gr G 0)), (1, .int a1)] [.int (bI (NB_isPart a1))] m P
  refine vIfNeB F (tgt := 11) dX6_mean_4 (by decide) (fun c15 => ?_) (fun c15 => ?_)
  · replace h := okT h c15
    refine vAloadN F dX6_mean_11 (k := 0) rfl ?_
    refine vCallV F (d' := 4) (x := 0) (T := TX6) (N := 10) (As := []) (st := []) dX6_mean_12 lk_X6_83 my_X6_look mv_X6_look (cqC_0 hs) rfl (by decide) rfl rfl (Nat.le_of_ble_eq_true rfl) (NB_look_ok hG hs (okB h fun r1 h => ?_))
    show mjV G X 8 15 [(0, .ref (gr G 0)), (1, .int a1)] [.ref (gr G 1)] r1 P
    refine vPop F dX6_mean_15 rfl ?_
    refine vLconst F (v := 0) dX6_mean_16 rfl ?_
    refine vLstoreN F (L' := [(2, .long 0), (0, .ref (gr G 0)), (1, .int a1)]) dX6_mean_17 rfl (by decide) rfl ?_
    refine vLconst F (v := 0) dX6_mean_18 rfl ?_
    refine vLstore F (L' := [(4, .long 0), (2, .long 0), (0, .ref (gr G 0)), (1, .int a1)]) dX6_mean_19 (by decide) rfl ?_
    refine vIconst F (v := 0) dX6_mean_21 k_0 ?_
    refine vIstore F (L' := [(6, .int 0), (4, .long 0), (2, .long 0), (0, .ref (gr G 0)), (1, .int a1)]) dX6_mean_22 (by decide) rfl ?_
    refine vSub [3, 4, 2, 1, 0] rfl ?_
    refine okLoop (s0 := (0, 0, 0, r1)) (T := (fun (s2 : Int64 × Int64 × Int32 × Mm) => mjV G X 8 24 [(0, .ref (gr G 0)), (1, .int a1), (2, .long (s2.1)), (4, .long (s2.2.1)), (6, .int (s2.2.2.1))] [] (s2.2.2.2) P)) (Ve := (fun (e3 : Int64 × Int64 × Mm) => mjV G X 8 103 [(1, .int a1), (2, .long (e3.1)), (4, .long (e3.2.1))] [] (e3.2.2) P)) h ?_ (fun s2 h => ?_)
    · intro e3 h
      refine vLload F dX6_mean_103 (k := 2) rfl ?_
      refine vLconst F (v := 0) dX6_mean_105 rfl ?_
      refine vLcmp F dX6_mean_106 ?_
      refine vIfNe F (tgt := 116) dX6_mean_107 (by decide) (fun c13 => ?_) (fun c13 => ?_)
      · replace h := okF h c13
        refine vLloadN F dX6_mean_116 (k := 1) rfl ?_
        refine vLload F dX6_mean_117 (k := 2) rfl ?_
        refine vIloadN F dX6_mean_119 (k := 0) rfl ?_
        refine vCallS F (d' := 0) (As := [.long (e3.1), .long (e3.2.1), .int a1]) (st := []) dX6_mean_120 lk_X6_233 my_X6_inLowestTerms sy_X6_inLowestTerms (by decide) rfl rfl (Nat.le_of_ble_eq_true rfl) (NB_inLowestTerms_ok hG hs (okB h fun r12 h => ?_))
        show mjV G X 8 123 [(1, .int a1), (2, .long (e3.1)), (4, .long (e3.2.1))] [.long r12] (e3.2.2) P
        have z := okS h
        exact vLret F dX6_mean_123 z
      · replace h := okT h c13
        refine vLdc2 F dX6_mean_110 kc_X6_225 ?_
        refine vGoto F (tgt := 123) dX6_mean_113 (by decide) ?_
        have z := okS h
        exact vLret F dX6_mean_123 z
    · unfold NB_mean_l24 at h
      refine vIload F dX6_mean_24 (k := 4) rfl ?_
      refine vAloadN F dX6_mean_26 (k := 0) rfl ?_
      refine vGetR F (t := 11) dX6_mean_27 fa_X6_22 (cqC_0 hs) rfl ?_
      refine vGetI F dX6_mean_30 fa_X6_61 (is_X5_11 hs).1 rfl ?_
      refine vIcmpGe F (tgt := 103) dX6_mean_33 (by decide) (fun c11 => ?_) (fun c11 => ?_)
      · replace h := okT h c11
        refine vSub [1, 2, 3] rfl ?_
        have z := okR h
        exact z
      · replace h := okF h c11
        refine vIconst F (v := 0) dX6_mean_36 k_0 ?_
        refine vIstore F (L' := [(7, .int 0), (0, .ref (gr G 0)), (1, .int a1), (2, .long (s2.1)), (4, .long (s2.2.1)), (6, .int (s2.2.2.1))]) dX6_mean_37 (by decide) rfl ?_
        refine vSub [1, 2, 3, 4, 5, 0] rfl ?_
        refine okLoop (s0 := (s2.1, s2.2.1, 0, s2.2.2.2)) (T := (fun (s4 : Int64 × Int64 × Int32 × Mm) => mjV G X 8 39 [(0, .ref (gr G 0)), (1, .int a1), (2, .long (s4.1)), (4, .long (s4.2.1)), (6, .int (s2.2.2.1)), (7, .int (s4.2.2.1))] [] (s4.2.2.2) P)) (Ve := (fun (e5 : Int64 × Int64 × Mm) => mjV G X 8 97 [(0, .ref (gr G 0)), (1, .int a1), (2, .long (e5.1)), (4, .long (e5.2.1)), (6, .int (s2.2.2.1))] [] (e5.2.2) P)) h ?_ (fun s4 h => ?_)
        · intro e5 h
          refine vIinc F (v := 1) (k := 4) (L' := [(6, .int ((s2.2.2.1) + 1)), (0, .ref (gr G 0)), (1, .int a1), (2, .long (e5.1)), (4, .long (e5.2.1))]) dX6_mean_97 rfl k_1 (by decide) rfl ?_
          refine vGoto F (tgt := 24) dX6_mean_100 (by decide) ?_
          refine vSub [1, 2, 3, 4, 0] rfl ?_
          have z := okL h
          exact z
        · unfold NB_mean_l39 at h
          refine vIload F dX6_mean_39 (k := 5) rfl ?_
          refine vAloadN F dX6_mean_41 (k := 0) rfl ?_
          refine vGetR F (t := 11) dX6_mean_42 fa_X6_22 (cqC_0 hs) rfl ?_
          refine vGetI F dX6_mean_45 fa_X6_61 (is_X5_11 hs).1 rfl ?_
          refine vIcmpGe F (tgt := 97) dX6_mean_48 (by decide) (fun c9 => ?_) (fun c9 => ?_)
          · replace h := okT h c9
            refine vSub [0, 1, 2, 3, 4] rfl ?_
            have z := okR h
            exact z
          · replace h := okF h c9
            refine vIload F dX6_mean_51 (k := 4) rfl ?_
            refine vIload F dX6_mean_53 (k := 5) rfl ?_
            refine vIcmpEq F (tgt := 91) dX6_mean_55 (by decide) (fun c8 => ?_) (fun c8 => ?_)
            · replace h := okT h c8
              refine vIinc F (v := 1) (k := 5) (L' := [(7, .int ((s4.2.2.1) + 1)), (0, .ref (gr G 0)), (1, .int a1), (2, .long (s4.1)), (4, .long (s4.2.1)), (6, .int (s2.2.2.1))]) dX6_mean_91 rfl k_1 (by decide) rfl ?_
              refine vGoto F (tgt := 39) dX6_mean_94 (by decide) ?_
              refine vSub [1, 2, 3, 4, 5, 0] rfl ?_
              have z := okL h
              exact z
            · replace h := okF h c8
              refine vAloadN F dX6_mean_58 (k := 0) rfl ?_
              refine vGetR F (t := 1) dX6_mean_59 fa_X6_12 (cqC_0 hs) rfl ?_
              refine vIload F dX6_mean_62 (k := 4) rfl ?_
              refine vIload F dX6_mean_64 (k := 5) rfl ?_
              refine vCallV F (d' := 1) (x := 1) (T := TX1) (N := 15) (As := [.int (s2.2.2.1), .int (s4.2.2.1)]) (st := []) dX6_mean_66 lk_X6_179 my_X1_walk mv_X1_walk (cqC_1 hs) rfl (by decide) rfl rfl (Nat.le_of_ble_eq_true rfl) (Jo_walk_ok hG hs (okB h fun r6 h => ?_))
              show mjV G X 8 69 [(0, .ref (gr G 0)), (1, .int a1), (2, .long (s4.1)), (4, .long (s4.2.1)), (6, .int (s2.2.2.1)), (7, .int (s4.2.2.1))] [.int (r6.1)] (r6.2) P
              refine vIload F dX6_mean_69 (k := 5) rfl ?_
              refine vIcmpNe F (tgt := 91) dX6_mean_71 (by decide) (fun c7 => ?_) (fun c7 => ?_)
              · replace h := okF h c7
                refine vIinc F (v := 1) (k := 5) (L' := [(7, .int ((s4.2.2.1) + 1)), (0, .ref (gr G 0)), (1, .int a1), (2, .long (s4.1)), (4, .long (s4.2.1)), (6, .int (s2.2.2.1))]) dX6_mean_91 rfl k_1 (by decide) rfl ?_
                refine vGoto F (tgt := 39) dX6_mean_94 (by decide) ?_
                refine vSub [1, 2, 3, 4, 5, 0] rfl ?_
                have z := okL h
                exact z
              · replace h := okT h c7
                refine vLloadN F dX6_mean_74 (k := 2) rfl ?_
                refine vAloadN F dX6_mean_75 (k := 0) rfl ?_
                refine vGetR F (t := 1) dX6_mean_76 fa_X6_12 (cqC_0 hs) rfl ?_
                refine vGetI F dX6_mean_79 fa_X6_182 (cqC_1 hs) rfl ?_
                refine vI2l F dX6_mean_82 ?_
                refine vLadd F dX6_mean_83 ?_
                refine vLstoreN F (L' := [(2, .long ((s4.1) + (((r6.2).1 1 14).toInt64))), (0, .ref (gr G 0)), (1, .int a1), (4, .long (s4.2.1)), (6, .int (s2.2.2.1)), (7, .int (s4.2.2.1))]) dX6_mean_84 rfl (by decide) rfl ?_
                refine vLload F dX6_mean_85 (k := 3) rfl ?_
                refine vLconst F (v := 1) dX6_mean_87 rfl ?_
                refine vLadd F dX6_mean_88 ?_
                refine vLstore F (L' := [(4, .long ((s4.2.1) + 1)), (2, .long ((s4.1) + (((r6.2).1 1 14).toInt64))), (0, .ref (gr G 0)), (1, .int a1), (6, .int (s2.2.2.1)), (7, .int (s4.2.2.1))]) dX6_mean_89 (by decide) rfl ?_
                refine vIinc F (v := 1) (k := 5) (L' := [(7, .int ((s4.2.2.1) + 1)), (4, .long ((s4.2.1) + 1)), (2, .long ((s4.1) + (((r6.2).1 1 14).toInt64))), (0, .ref (gr G 0)), (1, .int a1), (6, .int (s2.2.2.1))]) dX6_mean_91 rfl k_1 (by decide) rfl ?_
                refine vGoto F (tgt := 39) dX6_mean_94 (by decide) ?_
                refine vSub [3, 4, 2, 1, 5, 0] rfl ?_
                have z := okL h
                exact z
  · replace h := okF h c15
    refine vLdc2 F dX6_mean_7 kc_X6_225 ?_
    have z := okS h
    exact vLret F dX6_mean_10 z
def NB_book (m : Mm) (a1 : Int32) : Option (Int32 × Mm) :=
  if a1 = (-1) then
 (some (0, si m 11 10 0))
 else (if (Wo_has 11 m a1) = true then
 (if (m.1 11 10) < 12 then
 (ga (m.1 11 10) 12 (some ((si (si m (11 + 9) (m.1 11 10).toNatClampNeg a1) 11 10 (((si m (11 + 9) (m.1 11 10).toNatClampNeg a1).1 11 10) + 1)).1 11 10, si (si m (11 + 9) (m.1 11 10).toNatClampNeg a1) 11 10 (((si m (11 + 9) (m.1 11 10).toNatClampNeg a1).1 11 10) + 1))))
 else (some ((-4), m)))
 else (some ((-1), m)))
set_option maxRecDepth 20000 in
set_option maxHeartbeats 4000000 in
theorem NB_book_ok {G : Gw} (hG : gOk G) (hs : gsh G = shC) {a1 : Int32} {m : Mm} {P : Option Value → Mm → Prop} (h : mjO (NB_book m a1) (fun r => P (some (.int r.1)) r.2)) : mjR G 1 yX6_book cX6_book 2 (some .int) [.ref (gr G 0), .int a1] m P := by
  refine mjR_of hG (by decide) (Nat.le_of_ble_eq_true rfl) ?_
  intro X F
  have F : mjF G X cX6_book RX6 2 1 (some .int) := F
  show mjV G X 2 0 [(0, .ref (gr G 0)), (1, .int a1)] [] m P
  unfold NB_book at h
  refine vIloadN F dX6_book_0 (k := 1) rfl ?_
  refine vIconst F (v := (-1)) dX6_book_1 k_m1 ?_
  refine vIcmpNe F (tgt := 15) dX6_book_2 (by decide) (fun c4 => ?_) (fun c4 => ?_)
  · replace h := okF h c4
    refine vAloadN F dX6_book_15 (k := 0) rfl ?_
    refine vGetR F (t := 11) dX6_book_16 fa_X6_22 (cqC_0 hs) rfl ?_
    refine vIloadN F dX6_book_19 (k := 1) rfl ?_
    refine vCallV F (d' := 0) (x := 11) (T := TX5) (N := 13) (As := [.int a1]) (st := []) dX6_book_20 lk_X6_69 my_X5_has mv_X5_has (is_X5_11 hs).1 rfl (by decide) rfl rfl (Nat.le_of_ble_eq_true rfl) (Wo_has_ok hG hs (is_X5_11 hs) ?_)
    show mjV G X 2 23 [(0, .ref (gr G 0)), (1, .int a1)] [.int (bI (Wo_has 11 m a1))] m P
    refine vIfNeB F (tgt := 28) dX6_book_23 (by decide) (fun c3 => ?_) (fun c3 => ?_)
    · replace h := okT h c3
      refine vAloadN F dX6_book_28 (k := 0) rfl ?_
      refine vGetR F (t := 11) dX6_book_29 fa_X6_22 (cqC_0 hs) rfl ?_
      refine vGetI F dX6_book_32 fa_X6_237 (is_X5_11 hs).1 rfl ?_
      refine vBipush F (v := 12) dX6_book_35 kb_12 ?_
      refine vIcmpLt F (tgt := 43) dX6_book_37 (by decide) (fun c2 => ?_) (fun c2 => ?_)
      · replace h := okT h c2
        refine vAloadN F dX6_book_43 (k := 0) rfl ?_
        refine vGetR F (t := 11) dX6_book_44 fa_X6_22 (cqC_0 hs) rfl ?_
        refine vGetR F (t := 11 + 9) dX6_book_47 fa_X6_240 (is_X5_11 hs).1 rfl ?_
        refine vAloadN F dX6_book_50 (k := 0) rfl ?_
        refine vGetR F (t := 11) dX6_book_51 fa_X6_22 (cqC_0 hs) rfl ?_
        refine vGetI F dX6_book_54 fa_X6_237 (is_X5_11 hs).1 rfl ?_
        refine vIloadN F dX6_book_57 (k := 1) rfl ?_
        obtain ⟨g1, h⟩ := okga h
        refine vIast F dX6_book_58 (is_X5_11 hs).2.2.2.2.2.2.2.2.2 g1 ?_
        refine vAloadN F dX6_book_59 (k := 0) rfl ?_
        refine vGetR F (t := 11) dX6_book_60 fa_X6_22 (cqC_0 hs) rfl ?_
        refine vDup F dX6_book_63 rfl ?_
        refine vGetI F dX6_book_64 fa_X6_237 (is_X5_11 hs).1 rfl ?_
        refine vIconst F (v := 1) dX6_book_67 k_1 ?_
        refine vIadd F dX6_book_68 ?_
        refine vPutI F dX6_book_69 fw_X6_237 (is_X5_11 hs).1 rfl ⟨rfl, rfl⟩ ?_
        refine vAloadN F dX6_book_72 (k := 0) rfl ?_
        refine vGetR F (t := 11) dX6_book_73 fa_X6_22 (cqC_0 hs) rfl ?_
        refine vGetI F dX6_book_76 fa_X6_237 (is_X5_11 hs).1 rfl ?_
        have z := okS h
        exact vIret F dX6_book_79 z
      · replace h := okF h c2
        refine vBipush F (v := (-4)) dX6_book_40 kb_m4 ?_
        have z := okS h
        exact vIret F dX6_book_42 z
    · replace h := okF h c3
      refine vIconst F (v := (-1)) dX6_book_26 k_m1 ?_
      have z := okS h
      exact vIret F dX6_book_27 z
  · replace h := okT h c4
    refine vAloadN F dX6_book_5 (k := 0) rfl ?_
    refine vGetR F (t := 11) dX6_book_6 fa_X6_22 (cqC_0 hs) rfl ?_
    refine vIconst F (v := 0) dX6_book_9 k_0 ?_
    refine vPutI F dX6_book_10 fw_X6_237 (is_X5_11 hs).1 rfl ⟨rfl, rfl⟩ ?_
    refine vIconst F (v := 0) dX6_book_13 k_0 ?_
    have z := okS h
    exact vIret F dX6_book_14 z
def NB_looked_l20 (a1 : Int32) (r1 : Mm) (s2 : Int32) : Option ((Int32) ⊕ (Unit ⊕ (Int32 × Mm))) :=
  if (r1.1 11 10) ≤ s2 then
 (some (.inr (.inl ())))
 else (ga (s2 - 1) 12 (ga (NB_index (r1.1 (11 + 9) (s2 - 1).toNatClampNeg) a1) 49 (ga s2 12 (if (r1.1 8 (NB_index (r1.1 (11 + 9) (s2 - 1).toNatClampNeg) a1).toNatClampNeg) = (r1.1 (11 + 9) s2.toNatClampNeg) then
 (some (.inl (s2 + 1)))
 else (some (.inr (.inr (s2, r1))))))))
noncomputable def NB_looked (m : Mm) (a1 : Int32) : Option (Int32 × Mm) :=
  if (Wo_has 11 m a1) = true then
 ((NB_look m).bind fun r1 =>
  (iter (NB_looked_l20 a1 r1) (1)).bind (Sum.elim (fun e3 => some ((-5), r1)) (fun v9 => some v9)))
 else (some ((-1), m))
set_option maxRecDepth 20000 in
set_option maxHeartbeats 4000000 in
theorem NB_looked_ok {G : Gw} (hG : gOk G) (hs : gsh G = shC) {a1 : Int32} {m : Mm} {P : Option Value → Mm → Prop} (h : mjO (NB_looked m a1) (fun r => P (some (.int r.1)) r.2)) : mjR G 5 yX6_looked cX6_looked 3 (some .int) [.ref (gr G 0), .int a1] m P := by
  refine mjR_of hG (by decide) (Nat.le_of_ble_eq_true rfl) ?_
  intro X F
  have F : mjF G X cX6_looked RX6 3 5 (some .int) := F
  show mjV G X 3 0 [(0, .ref (gr G 0)), (1, .int a1)] [] m P
  unfold NB_looked at h
  refine vAloadN F dX6_looked_0 (k := 0) rfl ?_
  refine vGetR F (t := 11) dX6_looked_1 fa_X6_22 (cqC_0 hs) rfl ?_
  refine vIloadN F dX6_looked_4 (k := 1) rfl ?_
  refine vCallV F (d' := 0) (x := 11) (T := TX5) (N := 13) (As := [.int a1]) (st := []) dX6_looked_5 lk_X6_69 my_X5_has mv_X5_has (is_X5_11 hs).1 rfl (by decide) rfl rfl (Nat.le_of_ble_eq_true rfl) (Wo_has_ok hG hs (is_X5_11 hs) ?_)
  show mjV G X 3 8 [(0, .ref (gr G 0)), (1, .int a1)] [.int (bI (Wo_has 11 m a1))] m P
  refine vIfNeB F (tgt := 13) dX6_looked_8 (by decide) (fun c11 => ?_) (fun c11 => ?_)
  · replace h := okT h c11
    refine vAloadN F dX6_looked_13 (k := 0) rfl ?_
    refine vCallV F (d' := 4) (x := 0) (T := TX6) (N := 10) (As := []) (st := []) dX6_looked_14 lk_X6_83 my_X6_look mv_X6_look (cqC_0 hs) rfl (by decide) rfl rfl (Nat.le_of_ble_eq_true rfl) (NB_look_ok hG hs (okB h fun r1 h => ?_))
    show mjV G X 3 17 [(0, .ref (gr G 0)), (1, .int a1)] [.ref (gr G 1)] r1 P
    refine vPop F dX6_looked_17 rfl ?_
    refine vIconst F (v := 1) dX6_looked_18 k_1 ?_
    refine vIstoreN F (L' := [(2, .int 1), (0, .ref (gr G 0)), (1, .int a1)]) dX6_looked_19 rfl (by decide) rfl ?_
    refine vSub [1, 2, 0] rfl ?_
    refine okLoop (s0 := (1)) (T := (fun (s2 : Int32) => mjV G X 3 20 [(0, .ref (gr G 0)), (1, .int a1), (2, .int s2)] [] r1 P)) (Ve := (Sum.elim (fun (e3 : Unit) => mjV G X 3 74 [] [] r1 P) (fun (v9 : Int32 × Mm) => P (some (.int v9.1)) v9.2))) h ?_ (fun s2 h => ?_)
    · intro q h
      rcases q with e3 | v9
      · refine vBipush F (v := (-5)) dX6_looked_74 kb_m5 ?_
        have z := okS h
        exact vIret F dX6_looked_76 z
      · have z := okS h
        exact z
    · unfold NB_looked_l20 at h
      refine vIloadN F dX6_looked_20 (k := 2) rfl ?_
      refine vAloadN F dX6_looked_21 (k := 0) rfl ?_
      refine vGetR F (t := 11) dX6_looked_22 fa_X6_22 (cqC_0 hs) rfl ?_
      refine vGetI F dX6_looked_25 fa_X6_237 (is_X5_11 hs).1 rfl ?_
      refine vIcmpGe F (tgt := 74) dX6_looked_28 (by decide) (fun c8 => ?_) (fun c8 => ?_)
      · replace h := okT h c8
        refine vSub [] rfl ?_
        have z := okR h
        exact z
      · replace h := okF h c8
        refine vAloadN F dX6_looked_31 (k := 0) rfl ?_
        refine vGetR F (t := 1) dX6_looked_32 fa_X6_12 (cqC_0 hs) rfl ?_
        refine vGetR F (t := 8) dX6_looked_35 fa_X6_173 (cqC_1 hs) rfl ?_
        refine vAloadN F dX6_looked_38 (k := 0) rfl ?_
        refine vGetR F (t := 11) dX6_looked_39 fa_X6_22 (cqC_0 hs) rfl ?_
        refine vGetR F (t := 11 + 9) dX6_looked_42 fa_X6_240 (is_X5_11 hs).1 rfl ?_
        refine vIloadN F dX6_looked_45 (k := 2) rfl ?_
        refine vIconst F (v := 1) dX6_looked_46 k_1 ?_
        refine vIsub F dX6_looked_47 ?_
        obtain ⟨g4, h⟩ := okga h
        refine vIald F dX6_looked_48 (is_X5_11 hs).2.2.2.2.2.2.2.2.2 g4 ?_
        refine vIloadN F dX6_looked_49 (k := 1) rfl ?_
        refine vCallS F (d' := 0) (As := [.int (r1.1 (11 + 9) (s2 - 1).toNatClampNeg), .int a1]) (st := [.ref (gr G 8)]) dX6_looked_50 lk_X6_100 my_X6_index sy_X6_index (by decide) rfl rfl (Nat.le_of_ble_eq_true rfl) (NB_index_ok hG hs ?_)
        show mjV G X 3 53 [(0, .ref (gr G 0)), (1, .int a1), (2, .int s2)] [.int (NB_index (r1.1 (11 + 9) (s2 - 1).toNatClampNeg) a1), .ref (gr G 8)] r1 P
        obtain ⟨g5, h⟩ := okga h
        refine vIald F dX6_looked_53 (cqC_8 hs) g5 ?_
        refine vAloadN F dX6_looked_54 (k := 0) rfl ?_
        refine vGetR F (t := 11) dX6_looked_55 fa_X6_22 (cqC_0 hs) rfl ?_
        refine vGetR F (t := 11 + 9) dX6_looked_58 fa_X6_240 (is_X5_11 hs).1 rfl ?_
        refine vIloadN F dX6_looked_61 (k := 2) rfl ?_
        obtain ⟨g6, h⟩ := okga h
        refine vIald F dX6_looked_62 (is_X5_11 hs).2.2.2.2.2.2.2.2.2 g6 ?_
        refine vIcmpEq F (tgt := 68) dX6_looked_63 (by decide) (fun c7 => ?_) (fun c7 => ?_)
        · replace h := okT h c7
          refine vIinc F (v := 1) (k := 2) (L' := [(2, .int (s2 + 1)), (0, .ref (gr G 0)), (1, .int a1)]) dX6_looked_68 rfl k_1 (by decide) rfl ?_
          refine vGoto F (tgt := 20) dX6_looked_71 (by decide) ?_
          refine vSub [1, 2, 0] rfl ?_
          have z := okL h
          exact z
        · replace h := okF h c7
          refine vIloadN F dX6_looked_66 (k := 2) rfl ?_
          have z := okR h
          exact vIret F dX6_looked_67 z
  · replace h := okF h c11
    refine vIconst F (v := (-1)) dX6_looked_11 k_m1 ?_
    have z := okS h
    exact vIret F dX6_looked_12 z
