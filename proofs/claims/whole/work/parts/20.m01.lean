noncomputable def Mo_takesHead (m : Mm) (a1 : Int32) : Option (Bool × Mm) :=
  (Mo_peek m).bind fun r1 =>
  if r1 = 102 then
 (ga a1 60 ((Mo_takesWord (si m 11 a1.toNatClampNeg 1) 5 3).bind fun r6 =>
  some (r6.1, r6.2)))
 else (if r1 = 103 then
 (ga a1 60 ((Mo_takesWord (si m 11 a1.toNatClampNeg 0) 0 5).bind fun r9 =>
  some (r9.1, r9.2)))
 else (ga a1 60 ((Mo_takesWord (si m 11 a1.toNatClampNeg 2) 8 4).bind fun r3 =>
  some (r3.1, r3.2))))
set_option maxRecDepth 20000 in
set_option maxHeartbeats 4000000 in
theorem Mo_takesHead_ok {G : Gw} (hG : gOk G) (hs : gsh G = shM) {a1 : Int32} {m : Mm} {P : Option Value → Mm → Prop} (h : mjO (Mo_takesHead m a1) (fun r => P (some (.int (bI r.1))) r.2)) : mjR G 3 yX7_takesHead cX7_takesHead 2 (some .boolean) [.ref (gr G 0), .int a1] m P := by
  refine mjR_of hG (by decide) (Nat.le_of_ble_eq_true rfl) ?_
  intro X F
  have F : mjF G X cX7_takesHead RX7 2 3 (some .boolean) := F
  show mjV G X 2 0 [(0, .ref (gr G 0)), (1, .int a1)] [] m P
  unfold Mo_takesHead at h
  refine vAloadN F dX7_takesHead_0 (k := 0) rfl ?_
  refine vCallV F (d' := 0) (x := 0) (T := TX7) (N := 61) (As := []) (st := []) dX7_takesHead_1 lk_X7_224 my_X7_peek mv_X7_peek (cqM_0 hs) rfl (by decide) rfl rfl (Nat.le_of_ble_eq_true rfl) (Mo_peek_ok hG hs (okB h fun r1 h => ?_))
  show mjV G X 2 4 [(0, .ref (gr G 0)), (1, .int a1)] [.int r1] m P
  by_cases c4 : r1 = 102
  · replace h := okT h c4
    refine vLook F (tgt := 46) dX7_takesHead_4 (by decide) (lk_in 102 c4 (by decide)) (by decide) ?_
    refine vAloadN F dX7_takesHead_46 (k := 0) rfl ?_
    refine vGetR F (t := 11) dX7_takesHead_47 fa_X7_62 (cqM_0 hs) rfl ?_
    refine vIloadN F dX7_takesHead_50 (k := 1) rfl ?_
    refine vIconst F (v := 1) dX7_takesHead_51 k_1 ?_
    obtain ⟨g5, h⟩ := okga h
    refine vIast F dX7_takesHead_52 (cqM_11 hs) g5 ?_
    refine vAloadN F dX7_takesHead_53 (k := 0) rfl ?_
    refine vIconst F (v := 5) dX7_takesHead_54 k_5 ?_
    refine vIconst F (v := 3) dX7_takesHead_55 k_3 ?_
    refine vCallV F (d' := 2) (x := 0) (T := TX7) (N := 61) (As := [.int 5, .int 3]) (st := []) dX7_takesHead_56 lk_X7_253 my_X7_takesWord mv_X7_takesWord (cqM_0 hs) rfl (by decide) rfl rfl (Nat.le_of_ble_eq_true rfl) (Mo_takesWord_ok hG hs (okB h fun r6 h => ?_))
    show mjV G X 2 59 [(0, .ref (gr G 0)), (1, .int a1)] [.int (bI (r6.1))] (r6.2) P
    have z := okS h
    exact vZret (x := bI (r6.1)) F dX7_takesHead_59 (nzI _) z
  replace h := okF h c4
  by_cases c7 : r1 = 103
  · replace h := okT h c7
    refine vLook F (tgt := 32) dX7_takesHead_4 (by decide) ((lv_osw c4 (by decide)).trans (lk_in 103 c7 (by decide))) (by decide) ?_
    refine vAloadN F dX7_takesHead_32 (k := 0) rfl ?_
    refine vGetR F (t := 11) dX7_takesHead_33 fa_X7_62 (cqM_0 hs) rfl ?_
    refine vIloadN F dX7_takesHead_36 (k := 1) rfl ?_
    refine vIconst F (v := 0) dX7_takesHead_37 k_0 ?_
    obtain ⟨g8, h⟩ := okga h
    refine vIast F dX7_takesHead_38 (cqM_11 hs) g8 ?_
    refine vAloadN F dX7_takesHead_39 (k := 0) rfl ?_
    refine vIconst F (v := 0) dX7_takesHead_40 k_0 ?_
    refine vIconst F (v := 5) dX7_takesHead_41 k_5 ?_
    refine vCallV F (d' := 2) (x := 0) (T := TX7) (N := 61) (As := [.int 0, .int 5]) (st := []) dX7_takesHead_42 lk_X7_253 my_X7_takesWord mv_X7_takesWord (cqM_0 hs) rfl (by decide) rfl rfl (Nat.le_of_ble_eq_true rfl) (Mo_takesWord_ok hG hs (okB h fun r9 h => ?_))
    show mjV G X 2 45 [(0, .ref (gr G 0)), (1, .int a1)] [.int (bI (r9.1))] (r9.2) P
    have z := okS h
    exact vZret (x := bI (r9.1)) F dX7_takesHead_45 (nzI _) z
  replace h := okF h c7
  refine vLook F (tgt := 60) dX7_takesHead_4 (by decide) ((lv_osw c4 (by decide)).trans ((lv_osw c7 (by decide)).trans lk_nil)) (by decide) ?_
  refine vAloadN F dX7_takesHead_60 (k := 0) rfl ?_
  refine vGetR F (t := 11) dX7_takesHead_61 fa_X7_62 (cqM_0 hs) rfl ?_
  refine vIloadN F dX7_takesHead_64 (k := 1) rfl ?_
  refine vIconst F (v := 2) dX7_takesHead_65 k_2 ?_
  obtain ⟨g2, h⟩ := okga h
  refine vIast F dX7_takesHead_66 (cqM_11 hs) g2 ?_
  refine vAloadN F dX7_takesHead_67 (k := 0) rfl ?_
  refine vBipush F (v := 8) dX7_takesHead_68 kb_8 ?_
  refine vIconst F (v := 4) dX7_takesHead_70 k_4 ?_
  refine vCallV F (d' := 2) (x := 0) (T := TX7) (N := 61) (As := [.int 8, .int 4]) (st := []) dX7_takesHead_71 lk_X7_253 my_X7_takesWord mv_X7_takesWord (cqM_0 hs) rfl (by decide) rfl rfl (Nat.le_of_ble_eq_true rfl) (Mo_takesWord_ok hG hs (okB h fun r3 h => ?_))
  show mjV G X 2 74 [(0, .ref (gr G 0)), (1, .int a1)] [.int (bI (r3.1))] (r3.2) P
  have z := okS h
  exact vZret (x := bI (r3.1)) F dX7_takesHead_74 (nzI _) z
noncomputable def Mo_takesClause (m : Mm) (a1 : Int32) : Option (Bool × Mm) :=
  (Mo_takesHead m a1).bind fun r1 =>
  if (r1.1) = true then
 ((Mo_takesNumber (r1.2)).bind fun r2 =>
  if (r2.1) = true then
 (ga a1 60 (ga a1 60 (if ((si (r2.2) 12 a1.toNatClampNeg ((r2.2).1 0 14)).1 11 a1.toNatClampNeg) = 2 then
 (some (true, si (r2.2) 12 a1.toNatClampNeg ((r2.2).1 0 14)))
 else ((Mo_takes (si (r2.2) 12 a1.toNatClampNeg ((r2.2).1 0 14)) 32).bind fun r5 =>
  if (r5.1) = true then
 ((Mo_takesE (r5.2) a1).bind fun r6 =>
  if (r6.1) = true then
 (some (true, r6.2))
 else (some (false, r6.2)))
 else (some (false, r5.2))))))
 else (some (false, r2.2)))
 else (some (false, r1.2))
set_option maxRecDepth 20000 in
set_option maxHeartbeats 4000000 in
theorem Mo_takesClause_ok {G : Gw} (hG : gOk G) (hs : gsh G = shM) {a1 : Int32} {m : Mm} {P : Option Value → Mm → Prop} (h : mjO (Mo_takesClause m a1) (fun r => P (some (.int (bI r.1))) r.2)) : mjR G 5 yX7_takesClause cX7_takesClause 2 (some .boolean) [.ref (gr G 0), .int a1] m P := by
  refine mjR_of hG (by decide) (Nat.le_of_ble_eq_true rfl) ?_
  intro X F
  have F : mjF G X cX7_takesClause RX7 2 5 (some .boolean) := F
  show mjV G X 2 0 [(0, .ref (gr G 0)), (1, .int a1)] [] m P
  unfold Mo_takesClause at h
  refine vAloadN F dX7_takesClause_0 (k := 0) rfl ?_
  refine vIloadN F dX7_takesClause_1 (k := 1) rfl ?_
  refine vCallV F (d' := 3) (x := 0) (T := TX7) (N := 61) (As := [.int a1]) (st := []) dX7_takesClause_2 lk_X7_256 my_X7_takesHead mv_X7_takesHead (cqM_0 hs) rfl (by decide) rfl rfl (Nat.le_of_ble_eq_true rfl) (Mo_takesHead_ok hG hs (okB h fun r1 h => ?_))
  show mjV G X 2 5 [(0, .ref (gr G 0)), (1, .int a1)] [.int (bI (r1.1))] (r1.2) P
  refine vIfEqB F (tgt := 15) dX7_takesClause_5 (by decide) (fun c11 => ?_) (fun c11 => ?_)
  · replace h := okF h c11
    refine vIconst F (v := 0) dX7_takesClause_15 k_0 ?_
    have z := okS h
    exact vZret (x := bI false) F dX7_takesClause_16 (nzI _) z
  · replace h := okT h c11
    refine vAloadN F dX7_takesClause_8 (k := 0) rfl ?_
    refine vCallV F (d' := 2) (x := 0) (T := TX7) (N := 61) (As := []) (st := []) dX7_takesClause_9 lk_X7_241 my_X7_takesNumber mv_X7_takesNumber (cqM_0 hs) rfl (by decide) rfl rfl (Nat.le_of_ble_eq_true rfl) (Mo_takesNumber_ok hG hs (okB h fun r2 h => ?_))
    show mjV G X 2 12 [(0, .ref (gr G 0)), (1, .int a1)] [.int (bI (r2.1))] (r2.2) P
    refine vIfNeB F (tgt := 17) dX7_takesClause_12 (by decide) (fun c10 => ?_) (fun c10 => ?_)
    · replace h := okT h c10
      refine vAloadN F dX7_takesClause_17 (k := 0) rfl ?_
      refine vGetR F (t := 12) dX7_takesClause_18 fa_X7_65 (cqM_0 hs) rfl ?_
      refine vIloadN F dX7_takesClause_21 (k := 1) rfl ?_
      refine vAloadN F dX7_takesClause_22 (k := 0) rfl ?_
      refine vGetI F dX7_takesClause_23 fa_X7_53 (cqM_0 hs) rfl ?_
      obtain ⟨g3, h⟩ := okga h
      refine vIast F dX7_takesClause_26 (cqM_12 hs) g3 ?_
      refine vAloadN F dX7_takesClause_27 (k := 0) rfl ?_
      refine vGetR F (t := 11) dX7_takesClause_28 fa_X7_62 (cqM_0 hs) rfl ?_
      refine vIloadN F dX7_takesClause_31 (k := 1) rfl ?_
      obtain ⟨g4, h⟩ := okga h
      refine vIald F dX7_takesClause_32 (cqM_11 hs) g4 ?_
      refine vIconst F (v := 2) dX7_takesClause_33 k_2 ?_
      refine vIcmpEq F (tgt := 54) dX7_takesClause_34 (by decide) (fun c9 => ?_) (fun c9 => ?_)
      · replace h := okT h c9
        refine vIconst F (v := 1) dX7_takesClause_54 k_1 ?_
        refine vGoto F (tgt := 59) dX7_takesClause_55 (by decide) ?_
        have z := okS h
        exact vZret (x := bI true) F dX7_takesClause_59 (nzI _) z
      · replace h := okF h c9
        refine vAloadN F dX7_takesClause_37 (k := 0) rfl ?_
        refine vBipush F (v := 32) dX7_takesClause_38 kb_32 ?_
        refine vCallV F (d' := 1) (x := 0) (T := TX7) (N := 61) (As := [.int 32]) (st := []) dX7_takesClause_40 lk_X7_227 my_X7_takes mv_X7_takes (cqM_0 hs) rfl (by decide) rfl rfl (Nat.le_of_ble_eq_true rfl) (Mo_takes_ok hG hs (okB h fun r5 h => ?_))
        show mjV G X 2 43 [(0, .ref (gr G 0)), (1, .int a1)] [.int (bI (r5.1))] (r5.2) P
        refine vIfEqB F (tgt := 58) dX7_takesClause_43 (by decide) (fun c8 => ?_) (fun c8 => ?_)
        · replace h := okF h c8
          refine vIconst F (v := 0) dX7_takesClause_58 k_0 ?_
          have z := okS h
          exact vZret (x := bI false) F dX7_takesClause_59 (nzI _) z
        · replace h := okT h c8
          refine vAloadN F dX7_takesClause_46 (k := 0) rfl ?_
          refine vIloadN F dX7_takesClause_47 (k := 1) rfl ?_
          refine vCallV F (d' := 4) (x := 0) (T := TX7) (N := 61) (As := [.int a1]) (st := []) dX7_takesClause_48 lk_X7_259 my_X7_takesE mv_X7_takesE (cqM_0 hs) rfl (by decide) rfl rfl (Nat.le_of_ble_eq_true rfl) (Mo_takesE_ok hG hs (okB h fun r6 h => ?_))
          show mjV G X 2 51 [(0, .ref (gr G 0)), (1, .int a1)] [.int (bI (r6.1))] (r6.2) P
          refine vIfEqB F (tgt := 58) dX7_takesClause_51 (by decide) (fun c7 => ?_) (fun c7 => ?_)
          · replace h := okF h c7
            refine vIconst F (v := 0) dX7_takesClause_58 k_0 ?_
            have z := okS h
            exact vZret (x := bI false) F dX7_takesClause_59 (nzI _) z
          · replace h := okT h c7
            refine vIconst F (v := 1) dX7_takesClause_54 k_1 ?_
            refine vGoto F (tgt := 59) dX7_takesClause_55 (by decide) ?_
            have z := okS h
            exact vZret (x := bI true) F dX7_takesClause_59 (nzI _) z
    · replace h := okF h c10
      refine vIconst F (v := 0) dX7_takesClause_15 k_0 ?_
      have z := okS h
      exact vZret (x := bI false) F dX7_takesClause_16 (nzI _) z
noncomputable def Mo_goesText_l15 (a1 : Int32) (s1 : Int32 × Mm) : Option ((Int32 × Mm) ⊕ (Mm ⊕ (Bool × Mm))) :=
  (Mo_takesClause (s1.2) ((10 * a1) + (s1.1))).bind fun r3 =>
  if (r3.1) = true then
 (ga a1 6 (if ((si (r3.2) 10 a1.toNatClampNeg ((s1.1) + 1)).1 0 13) = ((si (r3.2) 10 a1.toNatClampNeg ((s1.1) + 1)).1 0 12) then
 (some (.inr (.inr (true, si (r3.2) 10 a1.toNatClampNeg ((s1.1) + 1)))))
 else (if ((s1.1) + 1) = 10 then
 (some (.inr (.inl (si (r3.2) 10 a1.toNatClampNeg ((s1.1) + 1)))))
 else ((Mo_takes (si (r3.2) 10 a1.toNatClampNeg ((s1.1) + 1)) 59).bind fun r5 =>
  if (r5.1) = true then
 (some (.inl ((s1.1) + 1, r5.2)))
 else (some (.inr (.inl (r5.2))))))))
 else (some (.inr (.inr (false, r3.2))))
noncomputable def Mo_goesText (m : Mm) (a1 : Int32) : Option (Bool × Mm) :=
  (iter (Mo_goesText_l15 a1) (0, si (si m 0 13 0) 0 23 (100 * a1))).bind (Sum.elim (fun e2 => some (false, e2)) (fun v10 => some v10))
set_option maxRecDepth 20000 in
set_option maxHeartbeats 4000000 in
theorem Mo_goesText_ok {G : Gw} (hG : gOk G) (hs : gsh G = shM) {a1 : Int32} {m : Mm} {P : Option Value → Mm → Prop} (h : mjO (Mo_goesText m a1) (fun r => P (some (.int (bI r.1))) r.2)) : mjR G 6 yX7_goesText cX7_goesText 3 (some .boolean) [.ref (gr G 0), .int a1] m P := by
  refine mjR_of hG (by decide) (Nat.le_of_ble_eq_true rfl) ?_
  intro X F
  have F : mjF G X cX7_goesText RX7 3 6 (some .boolean) := F
  show mjV G X 3 0 [(0, .ref (gr G 0)), (1, .int a1)] [] m P
  unfold Mo_goesText at h
  refine vAloadN F dX7_goesText_0 (k := 0) rfl ?_
  refine vIconst F (v := 0) dX7_goesText_1 k_0 ?_
  refine vPutI F dX7_goesText_2 fw_X7_50 (cqM_0 hs) rfl ⟨rfl, rfl⟩ ?_
  refine vAloadN F dX7_goesText_5 (k := 0) rfl ?_
  refine vBipush F (v := 100) dX7_goesText_6 kb_100 ?_
  refine vIloadN F dX7_goesText_8 (k := 1) rfl ?_
  refine vImul F dX7_goesText_9 ?_
  refine vPutI F dX7_goesText_10 fw_X7_80 (cqM_0 hs) rfl ⟨rfl, rfl⟩ ?_
  refine vIconst F (v := 0) dX7_goesText_13 k_0 ?_
  refine vIstoreN F (L' := [(2, .int 0), (0, .ref (gr G 0)), (1, .int a1)]) dX7_goesText_14 rfl (by decide) rfl ?_
  refine vSub [1, 2, 0] rfl ?_
  refine okLoop (s0 := (0, si (si m 0 13 0) 0 23 (100 * a1))) (T := (fun (s1 : Int32 × Mm) => mjV G X 3 15 [(0, .ref (gr G 0)), (1, .int a1), (2, .int (s1.1))] [] (s1.2) P)) (Ve := (Sum.elim (fun (e2 : Mm) => mjV G X 3 68 [] [] e2 P) (fun (v10 : Bool × Mm) => P (some (.int (bI v10.1))) v10.2))) h ?_ (fun s1 h => ?_)
  · intro q h
    rcases q with e2 | v10
    · refine vIconst F (v := 0) dX7_goesText_68 k_0 ?_
      have z := okS h
      exact vZret (x := bI false) F dX7_goesText_69 (nzI _) z
    · have z := okS h
      exact z
  · unfold Mo_goesText_l15 at h
    refine vAloadN F dX7_goesText_15 (k := 0) rfl ?_
    refine vBipush F (v := 10) dX7_goesText_16 kb_10 ?_
    refine vIloadN F dX7_goesText_18 (k := 1) rfl ?_
    refine vImul F dX7_goesText_19 ?_
    refine vIloadN F dX7_goesText_20 (k := 2) rfl ?_
    refine vIadd F dX7_goesText_21 ?_
    refine vCallV F (d' := 5) (x := 0) (T := TX7) (N := 61) (As := [.int ((10 * a1) + (s1.1))]) (st := []) dX7_goesText_22 lk_X7_262 my_X7_takesClause mv_X7_takesClause (cqM_0 hs) rfl (by decide) rfl rfl (Nat.le_of_ble_eq_true rfl) (Mo_takesClause_ok hG hs (okB h fun r3 h => ?_))
    show mjV G X 3 25 [(0, .ref (gr G 0)), (1, .int a1), (2, .int (s1.1))] [.int (bI (r3.1))] (r3.2) P
    refine vIfNeB F (tgt := 30) dX7_goesText_25 (by decide) (fun c9 => ?_) (fun c9 => ?_)
    · replace h := okT h c9
      refine vIinc F (v := 1) (k := 2) (L' := [(2, .int ((s1.1) + 1)), (0, .ref (gr G 0)), (1, .int a1)]) dX7_goesText_30 rfl k_1 (by decide) rfl ?_
      refine vAloadN F dX7_goesText_33 (k := 1) rfl ?_
      refine vGetR F (t := 10) dX7_goesText_34 fa_X7_59 (cqM_0 hs) rfl ?_
      refine vIloadN F dX7_goesText_37 (k := 2) rfl ?_
      refine vIloadN F dX7_goesText_38 (k := 0) rfl ?_
      obtain ⟨g4, h⟩ := okga h
      refine vIast F dX7_goesText_39 (cqM_10 hs) g4 ?_
      refine vAloadN F dX7_goesText_40 (k := 1) rfl ?_
      refine vGetI F dX7_goesText_41 fa_X7_50 (cqM_0 hs) rfl ?_
      refine vAloadN F dX7_goesText_44 (k := 1) rfl ?_
      refine vGetI F dX7_goesText_45 fa_X7_47 (cqM_0 hs) rfl ?_
      refine vIcmpNe F (tgt := 53) dX7_goesText_48 (by decide) (fun c8 => ?_) (fun c8 => ?_)
      · replace h := okF h c8
        refine vIloadN F dX7_goesText_53 (k := 0) rfl ?_
        refine vBipush F (v := 10) dX7_goesText_54 kb_10 ?_
        refine vIcmpEq F (tgt := 68) dX7_goesText_56 (by decide) (fun c7 => ?_) (fun c7 => ?_)
        · replace h := okT h c7
          refine vSub [] rfl ?_
          have z := okR h
          exact z
        · replace h := okF h c7
          refine vAloadN F dX7_goesText_59 (k := 1) rfl ?_
          refine vBipush F (v := 59) dX7_goesText_60 kb_59 ?_
          refine vCallV F (d' := 1) (x := 0) (T := TX7) (N := 61) (As := [.int 59]) (st := []) dX7_goesText_62 lk_X7_227 my_X7_takes mv_X7_takes (cqM_0 hs) rfl (by decide) rfl rfl (Nat.le_of_ble_eq_true rfl) (Mo_takes_ok hG hs (okB h fun r5 h => ?_))
          show mjV G X 3 65 [(2, .int ((s1.1) + 1)), (0, .ref (gr G 0)), (1, .int a1)] [.int (bI (r5.1))] (r5.2) P
          refine vIfNeB F (tgt := 15) dX7_goesText_65 (by decide) (fun c6 => ?_) (fun c6 => ?_)
          · replace h := okT h c6
            refine vSub [1, 2, 0] rfl ?_
            have z := okL h
            exact z
          · replace h := okF h c6
            refine vSub [] rfl ?_
            have z := okR h
            exact z
      · replace h := okT h c8
        refine vIconst F (v := 1) dX7_goesText_51 k_1 ?_
        have z := okR h
        exact vZret (x := bI true) F dX7_goesText_52 (nzI _) z
    · replace h := okF h c9
      refine vIconst F (v := 0) dX7_goesText_28 k_0 ?_
      have z := okR h
      exact vZret (x := bI false) F dX7_goesText_29 (nzI _) z
noncomputable def Mo_land (m : Mm) : Option (Int32 × Mm) :=
  if (m.1 0 10) = 6 then
 (some ((-4), m))
 else ((Mo_goesText m (m.1 0 10)).bind fun r1 =>
  if (r1.1) = true then
 (some ((si (si (si (r1.2) 0 12 0) 0 11 ((si (r1.2) 0 12 0).1 0 10)) 0 10 (((si (si (r1.2) 0 12 0) 0 11 ((si (r1.2) 0 12 0).1 0 10)).1 0 10) + 1)).1 0 11, si (si (si (r1.2) 0 12 0) 0 11 ((si (r1.2) 0 12 0).1 0 10)) 0 10 (((si (si (r1.2) 0 12 0) 0 11 ((si (r1.2) 0 12 0).1 0 10)).1 0 10) + 1)))
 else (some ((-10) - ((si (r1.2) 0 12 0).1 0 13), si (r1.2) 0 12 0)))
set_option maxRecDepth 20000 in
set_option maxHeartbeats 4000000 in
theorem Mo_land_ok {G : Gw} (hG : gOk G) (hs : gsh G = shM) {m : Mm} {P : Option Value → Mm → Prop} (h : mjO (Mo_land m) (fun r => P (some (.int r.1)) r.2)) : mjR G 7 yX7_land cX7_land 2 (some .int) [.ref (gr G 0)] m P := by
  refine mjR_of hG (by decide) (Nat.le_of_ble_eq_true rfl) ?_
  intro X F
  have F : mjF G X cX7_land RX7 2 7 (some .int) := F
  show mjV G X 2 0 [(0, .ref (gr G 0))] [] m P
  unfold Mo_land at h
  refine vAloadN F dX7_land_0 (k := 0) rfl ?_
  refine vGetI F dX7_land_1 fa_X7_41 (cqM_0 hs) rfl ?_
  refine vBipush F (v := 6) dX7_land_4 kb_6 ?_
  refine vIcmpNe F (tgt := 12) dX7_land_6 (by decide) (fun c3 => ?_) (fun c3 => ?_)
  · replace h := okF h c3
    refine vAloadN F dX7_land_12 (k := 0) rfl ?_
    refine vAloadN F dX7_land_13 (k := 0) rfl ?_
    refine vGetI F dX7_land_14 fa_X7_41 (cqM_0 hs) rfl ?_
    refine vCallV F (d' := 6) (x := 0) (T := TX7) (N := 61) (As := [.int (m.1 0 10)]) (st := []) dX7_land_17 lk_X7_265 my_X7_goesText mv_X7_goesText (cqM_0 hs) rfl (by decide) rfl rfl (Nat.le_of_ble_eq_true rfl) (Mo_goesText_ok hG hs (okB h fun r1 h => ?_))
    show mjV G X 2 20 [(0, .ref (gr G 0))] [.int (bI (r1.1))] (r1.2) P
    refine vIstoreN F (L' := [(1, .int (bI (r1.1))), (0, .ref (gr G 0))]) dX7_land_20 rfl (by decide) rfl ?_
    refine vAloadN F dX7_land_21 (k := 1) rfl ?_
    refine vIconst F (v := 0) dX7_land_22 k_0 ?_
    refine vPutI F dX7_land_23 fw_X7_47 (cqM_0 hs) rfl ⟨rfl, rfl⟩ ?_
    refine vIloadN F dX7_land_26 (k := 0) rfl ?_
    refine vIfNeB F (tgt := 38) dX7_land_27 (by decide) (fun c2 => ?_) (fun c2 => ?_)
    · replace h := okT h c2
      refine vAloadN F dX7_land_38 (k := 1) rfl ?_
      refine vAloadN F dX7_land_39 (k := 1) rfl ?_
      refine vGetI F dX7_land_40 fa_X7_41 (cqM_0 hs) rfl ?_
      refine vPutI F dX7_land_43 fw_X7_44 (cqM_0 hs) rfl ⟨rfl, rfl⟩ ?_
      refine vAloadN F dX7_land_46 (k := 1) rfl ?_
      refine vDup F dX7_land_47 rfl ?_
      refine vGetI F dX7_land_48 fa_X7_41 (cqM_0 hs) rfl ?_
      refine vIconst F (v := 1) dX7_land_51 k_1 ?_
      refine vIadd F dX7_land_52 ?_
      refine vPutI F dX7_land_53 fw_X7_41 (cqM_0 hs) rfl ⟨rfl, rfl⟩ ?_
      refine vAloadN F dX7_land_56 (k := 1) rfl ?_
      refine vGetI F dX7_land_57 fa_X7_44 (cqM_0 hs) rfl ?_
      have z := okS h
      exact vIret F dX7_land_60 z
    · replace h := okF h c2
      refine vBipush F (v := (-10)) dX7_land_30 kb_m10 ?_
      refine vAloadN F dX7_land_32 (k := 1) rfl ?_
      refine vGetI F dX7_land_33 fa_X7_50 (cqM_0 hs) rfl ?_
      refine vIsub F dX7_land_36 ?_
      have z := okS h
      exact vIret F dX7_land_37 z
  · replace h := okT h c3
    refine vBipush F (v := (-4)) dX7_land_9 kb_m4 ?_
    have z := okS h
    exact vIret F dX7_land_11 z
noncomputable def Mo_factOf (m : Mm) (a1 : Int32) (a2 : Int32) : Option (Int32) :=
  if a1 = 0 then
 (some a2)
 else (if a1 = 1 then
 (ga a2 7 (some (m.1 1 a2.toNatClampNeg)))
 else (if a1 = 2 then
 (ga a2 7 (some (m.1 2 a2.toNatClampNeg)))
 else (if a1 = 3 then
 (ga a2 7 (some ((m.1 3 a2.toNatClampNeg) / 10)))
 else (if a1 = 4 then
 (ga a2 7 ((Mo_ones (m.1 4 a2.toNatClampNeg)).bind fun r12 =>
  some r12))
 else ((Mo_roadsOf m a2).bind fun r1 =>
  (Mo_ones r1).bind fun r2 =>
  some r2)))))
set_option maxRecDepth 20000 in
set_option maxHeartbeats 4000000 in
theorem Mo_factOf_ok {G : Gw} (hG : gOk G) (hs : gsh G = shM) {a1 : Int32} {a2 : Int32} {m : Mm} {P : Option Value → Mm → Prop} (h : mjO (Mo_factOf m a1 a2) (fun r => P (some (.int r)) m)) : mjR G 1 yX7_factOf cX7_factOf 3 (some .int) [.ref (gr G 0), .int a1, .int a2] m P := by
  refine mjR_of hG (by decide) (Nat.le_of_ble_eq_true rfl) ?_
  intro X F
  have F : mjF G X cX7_factOf RX7 3 1 (some .int) := F
  show mjV G X 3 0 [(0, .ref (gr G 0)), (1, .int a1), (2, .int a2)] [] m P
  unfold Mo_factOf at h
  refine vIloadN F dX7_factOf_0 (k := 1) rfl ?_
  by_cases c3 : a1 = 0
  · replace h := okT h c3
    refine vTabIn F (tgt := 36) dX7_factOf_1 c3 (by decide) (by decide) rfl (by decide) ?_
    refine vIloadN F dX7_factOf_36 (k := 2) rfl ?_
    have z := okS h
    exact vIret F dX7_factOf_37 z
  replace h := okF h c3
  by_cases c4 : a1 = 1
  · replace h := okT h c4
    refine vTabIn F (tgt := 38) dX7_factOf_1 c4 (by decide) (by decide) rfl (by decide) ?_
    refine vAloadN F dX7_factOf_38 (k := 0) rfl ?_
    refine vGetR F (t := 1) dX7_factOf_39 fa_X7_16 (cqM_0 hs) rfl ?_
    refine vIloadN F dX7_factOf_42 (k := 2) rfl ?_
    obtain ⟨g5, h⟩ := okga h
    refine vIald F dX7_factOf_43 (cqM_1 hs) g5 ?_
    have z := okS h
    exact vIret F dX7_factOf_44 z
  replace h := okF h c4
  by_cases c6 : a1 = 2
  · replace h := okT h c6
    refine vTabIn F (tgt := 45) dX7_factOf_1 c6 (by decide) (by decide) rfl (by decide) ?_
    refine vAloadN F dX7_factOf_45 (k := 0) rfl ?_
    refine vGetR F (t := 2) dX7_factOf_46 fa_X7_20 (cqM_0 hs) rfl ?_
    refine vIloadN F dX7_factOf_49 (k := 2) rfl ?_
    obtain ⟨g7, h⟩ := okga h
    refine vIald F dX7_factOf_50 (cqM_2 hs) g7 ?_
    have z := okS h
    exact vIret F dX7_factOf_51 z
  replace h := okF h c6
  by_cases c8 : a1 = 3
  · replace h := okT h c8
    refine vTabIn F (tgt := 52) dX7_factOf_1 c8 (by decide) (by decide) rfl (by decide) ?_
    refine vAloadN F dX7_factOf_52 (k := 0) rfl ?_
    refine vGetR F (t := 3) dX7_factOf_53 fa_X7_23 (cqM_0 hs) rfl ?_
    refine vIloadN F dX7_factOf_56 (k := 2) rfl ?_
    obtain ⟨g9, h⟩ := okga h
    refine vIald F dX7_factOf_57 (cqM_3 hs) g9 ?_
    refine vBipush F (v := 10) dX7_factOf_58 kb_10 ?_
    refine vIdiv F dX7_factOf_60 (by decide) ?_
    have z := okS h
    exact vIret F dX7_factOf_61 z
  replace h := okF h c8
  by_cases c10 : a1 = 4
  · replace h := okT h c10
    refine vTabIn F (tgt := 62) dX7_factOf_1 c10 (by decide) (by decide) rfl (by decide) ?_
    refine vAloadN F dX7_factOf_62 (k := 0) rfl ?_
    refine vAloadN F dX7_factOf_63 (k := 0) rfl ?_
    refine vGetR F (t := 4) dX7_factOf_64 fa_X7_26 (cqM_0 hs) rfl ?_
    refine vIloadN F dX7_factOf_67 (k := 2) rfl ?_
    obtain ⟨g11, h⟩ := okga h
    refine vIald F dX7_factOf_68 (cqM_4 hs) g11 ?_
    refine vCallV F (d' := 0) (x := 0) (T := TX7) (N := 61) (As := [.int (m.1 4 a2.toNatClampNeg)]) (st := []) dX7_factOf_69 lk_X7_212 my_X7_ones mv_X7_ones (cqM_0 hs) rfl (by decide) rfl rfl (Nat.le_of_ble_eq_true rfl) (Mo_ones_ok hG hs (okB h fun r12 h => ?_))
    show mjV G X 3 72 [(0, .ref (gr G 0)), (1, .int a1), (2, .int a2)] [.int r12] m P
    have z := okS h
    exact vIret F dX7_factOf_72 z
  replace h := okF h c10
  replace c3 := lv_neT c3 (a := 0) (by decide)
  replace c4 := lv_neT c4 (a := 1) (by decide)
  replace c6 := lv_neT c6 (a := 2) (by decide)
  replace c8 := lv_neT c8 (a := 3) (by decide)
  replace c10 := lv_neT c10 (a := 4) (by decide)
  refine vTabOut F (tgt := 73) dX7_factOf_1 (by omega) (by decide) ?_
  refine vAloadN F dX7_factOf_73 (k := 0) rfl ?_
  refine vAloadN F dX7_factOf_74 (k := 0) rfl ?_
  refine vIloadN F dX7_factOf_75 (k := 2) rfl ?_
  refine vCallV F (d' := 0) (x := 0) (T := TX7) (N := 61) (As := [.int a2]) (st := [.ref (gr G 0)]) dX7_factOf_76 lk_X7_274 my_X7_roadsOf mv_X7_roadsOf (cqM_0 hs) rfl (by decide) rfl rfl (Nat.le_of_ble_eq_true rfl) (Mo_roadsOf_ok hG hs (okB h fun r1 h => ?_))
  show mjV G X 3 79 [(0, .ref (gr G 0)), (1, .int a1), (2, .int a2)] [.int r1, .ref (gr G 0)] m P
  refine vCallV F (d' := 0) (x := 0) (T := TX7) (N := 61) (As := [.int r1]) (st := []) dX7_factOf_79 lk_X7_212 my_X7_ones mv_X7_ones (cqM_0 hs) rfl (by decide) rfl rfl (Nat.le_of_ble_eq_true rfl) (Mo_ones_ok hG hs (okB h fun r2 h => ?_))
  show mjV G X 3 82 [(0, .ref (gr G 0)), (1, .int a1), (2, .int a2)] [.int r2] m P
  have z := okS h
  exact vIret F dX7_factOf_82 z
noncomputable def Mo_holds_l10 (a1 : Int32) (a2 : Int32) (s2 : Int32 × Int32 × Mm) : Option ((Int32 × Int32 × Mm) ⊕ Mm) :=
  ga a1 60 (if ((s2.2.2).1 14 a1.toNatClampNeg) ≤ (s2.2.1) then
 (some (.inr (s2.2.2)))
 else (ga (s2.2.1) 600 (if ((s2.2.2).1 15 (s2.2.1).toNatClampNeg) = (-33) then
 (ga ((s2.1) - 1) 100 (if ((s2.2.2).1 18 ((s2.1) - 1).toNatClampNeg) = 0 then
 (ga ((s2.1) - 1) 100 (some (.inl (s2.1, (s2.2.1) + 1, si (s2.2.2) 18 ((s2.1) - 1).toNatClampNeg 1))))
 else (ga ((s2.1) - 1) 100 (some (.inl (s2.1, (s2.2.1) + 1, si (s2.2.2) 18 ((s2.1) - 1).toNatClampNeg 0))))))
 else (if 0 ≤ ((s2.2.2).1 15 (s2.2.1).toNatClampNeg) then
 ((Mo_factOf (s2.2.2) (((s2.2.2).1 15 (s2.2.1).toNatClampNeg) / 1000) a2).bind fun r6 =>
  if ((((s2.2.2).1 15 (s2.2.1).toNatClampNeg) / 100) - (((s2.2.2).1 15 (s2.2.1).toNatClampNeg) / 100) / 10 * 10) = 0 then
 (if (((s2.2.2).1 15 (s2.2.1).toNatClampNeg) - ((s2.2.2).1 15 (s2.2.1).toNatClampNeg) / 100 * 100) ≤ r6 then
 (ga (s2.1) 100 (some (.inl ((s2.1) + 1, (s2.2.1) + 1, si (s2.2.2) 18 (s2.1).toNatClampNeg 0))))
 else (ga (s2.1) 100 (some (.inl ((s2.1) + 1, (s2.2.1) + 1, si (s2.2.2) 18 (s2.1).toNatClampNeg 1)))))
 else (if ((((s2.2.2).1 15 (s2.2.1).toNatClampNeg) / 100) - (((s2.2.2).1 15 (s2.2.1).toNatClampNeg) / 100) / 10 * 10) = 1 then
 (if r6 = (((s2.2.2).1 15 (s2.2.1).toNatClampNeg) - ((s2.2.2).1 15 (s2.2.1).toNatClampNeg) / 100 * 100) then
 (ga (s2.1) 100 (some (.inl ((s2.1) + 1, (s2.2.1) + 1, si (s2.2.2) 18 (s2.1).toNatClampNeg 1))))
 else (ga (s2.1) 100 (some (.inl ((s2.1) + 1, (s2.2.1) + 1, si (s2.2.2) 18 (s2.1).toNatClampNeg 0)))))
 else (if r6 ≤ (((s2.2.2).1 15 (s2.2.1).toNatClampNeg) - ((s2.2.2).1 15 (s2.2.1).toNatClampNeg) / 100 * 100) then
 (ga (s2.1) 100 (some (.inl ((s2.1) + 1, (s2.2.1) + 1, si (s2.2.2) 18 (s2.1).toNatClampNeg 0))))
 else (ga (s2.1) 100 (some (.inl ((s2.1) + 1, (s2.2.1) + 1, si (s2.2.2) 18 (s2.1).toNatClampNeg 1)))))))
 else (if ((s2.2.2).1 15 (s2.2.1).toNatClampNeg) = (-38) then
 (ga (((s2.1) + (-1)) - 1) 100 (if ((s2.2.2).1 18 (((s2.1) + (-1)) - 1).toNatClampNeg) = 0 then
 (ga (((s2.1) + (-1)) - 1) 100 (some (.inl ((s2.1) + (-1), (s2.2.1) + 1, si (s2.2.2) 18 (((s2.1) + (-1)) - 1).toNatClampNeg 0))))
 else (ga ((s2.1) + (-1)) 100 (if ((s2.2.2).1 18 ((s2.1) + (-1)).toNatClampNeg) = 0 then
 (ga (((s2.1) + (-1)) - 1) 100 (some (.inl ((s2.1) + (-1), (s2.2.1) + 1, si (s2.2.2) 18 (((s2.1) + (-1)) - 1).toNatClampNeg 0))))
 else (ga (((s2.1) + (-1)) - 1) 100 (some (.inl ((s2.1) + (-1), (s2.2.1) + 1, si (s2.2.2) 18 (((s2.1) + (-1)) - 1).toNatClampNeg 1))))))))
 else (ga (((s2.1) + (-1)) - 1) 100 (if ((s2.2.2).1 18 (((s2.1) + (-1)) - 1).toNatClampNeg) = 0 then
 (ga ((s2.1) + (-1)) 100 (if ((s2.2.2).1 18 ((s2.1) + (-1)).toNatClampNeg) = 0 then
 (ga (((s2.1) + (-1)) - 1) 100 (some (.inl ((s2.1) + (-1), (s2.2.1) + 1, si (s2.2.2) 18 (((s2.1) + (-1)) - 1).toNatClampNeg 0))))
 else (ga (((s2.1) + (-1)) - 1) 100 (some (.inl ((s2.1) + (-1), (s2.2.1) + 1, si (s2.2.2) 18 (((s2.1) + (-1)) - 1).toNatClampNeg 1))))))
 else (ga (((s2.1) + (-1)) - 1) 100 (some (.inl ((s2.1) + (-1), (s2.2.1) + 1, si (s2.2.2) 18 (((s2.1) + (-1)) - 1).toNatClampNeg 1)))))))))))
noncomputable def Mo_holds (m : Mm) (a1 : Int32) (a2 : Int32) : Option (Bool × Mm) :=
  ga a1 60 ((iter (Mo_holds_l10 a1 a2) (0, m.1 13 a1.toNatClampNeg, m)).bind fun e3 =>
  ga 0 100 (gq (decide (e3.1 18 (0 : Int32).toNatClampNeg = bI ((e3.1 18 (0 : Int32).toNatClampNeg) == 1))) (some ((e3.1 18 (0 : Int32).toNatClampNeg == 1), e3))))
set_option maxRecDepth 20000 in
set_option maxHeartbeats 4000000 in
theorem Mo_holds_ok {G : Gw} (hG : gOk G) (hs : gsh G = shM) {a1 : Int32} {a2 : Int32} {m : Mm} {P : Option Value → Mm → Prop} (h : mjO (Mo_holds m a1 a2) (fun r => P (some (.int (bI r.1))) r.2)) : mjR G 2 yX7_holds cX7_holds 8 (some .boolean) [.ref (gr G 0), .int a1, .int a2] m P := by
  refine mjR_of hG (by decide) (Nat.le_of_ble_eq_true rfl) ?_
  intro X F
  have F : mjF G X cX7_holds RX7 8 2 (some .boolean) := F
  show mjV G X 8 0 [(0, .ref (gr G 0)), (1, .int a1), (2, .int a2)] [] m P
  unfold Mo_holds at h
  refine vIconst F (v := 0) dX7_holds_0 k_0 ?_
  refine vIstoreN F (L' := [(3, .int 0), (0, .ref (gr G 0)), (1, .int a1), (2, .int a2)]) dX7_holds_1 rfl (by decide) rfl ?_
  refine vAloadN F dX7_holds_2 (k := 1) rfl ?_
  refine vGetR F (t := 13) dX7_holds_3 fa_X7_68 (cqM_0 hs) rfl ?_
  refine vIloadN F dX7_holds_6 (k := 2) rfl ?_
  obtain ⟨g1, h⟩ := okga h
  refine vIald F dX7_holds_7 (cqM_13 hs) g1 ?_
  refine vIstore F (L' := [(4, .int (m.1 13 a1.toNatClampNeg)), (3, .int 0), (0, .ref (gr G 0)), (1, .int a1), (2, .int a2)]) dX7_holds_8 (by decide) rfl ?_
  refine vSub [2, 3, 4, 1, 0] rfl ?_
  refine okLoop (s0 := (0, m.1 13 a1.toNatClampNeg, m)) (T := (fun (s2 : Int32 × Int32 × Mm) => mjV G X 8 10 [(0, .ref (gr G 0)), (1, .int a1), (2, .int a2), (3, .int (s2.1)), (4, .int (s2.2.1))] [] (s2.2.2) P)) (Ve := (fun (e3 : Mm) => mjV G X 8 243 [(0, .ref (gr G 0))] [] e3 P)) h ?_ (fun s2 h => ?_)
  · intro e3 h
    refine vAloadN F dX7_holds_243 (k := 0) rfl ?_
    refine vGetR F (t := 18) dX7_holds_244 fa_X7_92 (cqM_0 hs) rfl ?_
    refine vIconst F (v := 0) dX7_holds_247 k_0 ?_
    obtain ⟨g40, h⟩ := okga h
    refine vZald F dX7_holds_248 (cqM_18 hs) g40 ?_
    obtain ⟨g41, h⟩ := okgq h
    have z := okS h
    exact vZretE (r := (e3.1 18 (0 : Int32).toNatClampNeg == 1)) F dX7_holds_249 (of_decide_eq_true g41) z
  · unfold Mo_holds_l10 at h
    refine vIload F dX7_holds_10 (k := 4) rfl ?_
    refine vAloadN F dX7_holds_12 (k := 0) rfl ?_
    refine vGetR F (t := 14) dX7_holds_13 fa_X7_71 (cqM_0 hs) rfl ?_
    refine vIloadN F dX7_holds_16 (k := 1) rfl ?_
    obtain ⟨g4, h⟩ := okga h
    refine vIald F dX7_holds_17 (cqM_14 hs) g4 ?_
    refine vIcmpGe F (tgt := 243) dX7_holds_18 (by decide) (fun c39 => ?_) (fun c39 => ?_)
    · replace h := okT h c39
      refine vSub [0] rfl ?_
      have z := okR h
      exact z
    · replace h := okF h c39
      refine vAloadN F dX7_holds_21 (k := 0) rfl ?_
      refine vGetR F (t := 15) dX7_holds_22 fa_X7_74 (cqM_0 hs) rfl ?_
      refine vIload F dX7_holds_25 (k := 4) rfl ?_
      obtain ⟨g5, h⟩ := okga h
      refine vIald F dX7_holds_27 (cqM_15 hs) g5 ?_
      refine vIstore F (L' := [(5, .int ((s2.2.2).1 15 (s2.2.1).toNatClampNeg)), (0, .ref (gr G 0)), (1, .int a1), (2, .int a2), (3, .int (s2.1)), (4, .int (s2.2.1))]) dX7_holds_28 (by decide) rfl ?_
      refine vIload F dX7_holds_30 (k := 0) rfl ?_
      refine vBipush F (v := (-33)) dX7_holds_32 kb_m33 ?_
      refine vIcmpNe F (tgt := 64) dX7_holds_34 (by decide) (fun c38 => ?_) (fun c38 => ?_)
      · replace h := okF h c38
        refine vIload F dX7_holds_64 (k := 0) rfl ?_
        refine vIfGe F (tgt := 143) dX7_holds_66 (by decide) (fun c33 => ?_) (fun c33 => ?_)
        · replace h := okT h c33
          refine vAloadN F dX7_holds_143 (k := 1) rfl ?_
          refine vIload F dX7_holds_144 (k := 0) rfl ?_
          refine vSipush F (v := 1000) dX7_holds_146 ks_1000 ?_
          refine vIdiv F dX7_holds_149 (by decide) ?_
          refine vIloadN F dX7_holds_150 (k := 3) rfl ?_
          refine vCallV F (d' := 1) (x := 0) (T := TX7) (N := 61) (As := [.int (((s2.2.2).1 15 (s2.2.1).toNatClampNeg) / 1000), .int a2]) (st := []) dX7_holds_151 lk_X7_277 my_X7_factOf mv_X7_factOf (cqM_0 hs) rfl (by decide) rfl rfl (Nat.le_of_ble_eq_true rfl) (Mo_factOf_ok hG hs (okB h fun r6 h => ?_))
          show mjV G X 8 154 [(5, .int ((s2.2.2).1 15 (s2.2.1).toNatClampNeg)), (0, .ref (gr G 0)), (1, .int a1), (2, .int a2), (3, .int (s2.1)), (4, .int (s2.2.1))] [.int r6] (s2.2.2) P
          refine vIstore F (L' := [(6, .int r6), (5, .int ((s2.2.2).1 15 (s2.2.1).toNatClampNeg)), (0, .ref (gr G 0)), (1, .int a1), (2, .int a2), (3, .int (s2.1)), (4, .int (s2.2.1))]) dX7_holds_154 (by decide) rfl ?_
          refine vIload F dX7_holds_156 (k := 1) rfl ?_
          refine vBipush F (v := 100) dX7_holds_158 kb_100 ?_
          refine vIdiv F dX7_holds_160 (by decide) ?_
          refine vBipush F (v := 10) dX7_holds_161 kb_10 ?_
          refine vIrem F dX7_holds_163 (by decide) ?_
          refine vIstore F (L' := [(7, .int ((((s2.2.2).1 15 (s2.2.1).toNatClampNeg) / 100) - (((s2.2.2).1 15 (s2.2.1).toNatClampNeg) / 100) / 10 * 10)), (6, .int r6), (5, .int ((s2.2.2).1 15 (s2.2.1).toNatClampNeg)), (0, .ref (gr G 0)), (1, .int a1), (2, .int a2), (3, .int (s2.1)), (4, .int (s2.2.1))]) dX7_holds_164 (by decide) rfl ?_
          refine vAloadN F dX7_holds_166 (k := 3) rfl ?_
          refine vGetR F (t := 18) dX7_holds_167 fa_X7_92 (cqM_0 hs) rfl ?_
          refine vIloadN F dX7_holds_170 (k := 6) rfl ?_
          refine vIload F dX7_holds_171 (k := 0) rfl ?_
          refine vIfNe F (tgt := 194) dX7_holds_173 (by decide) (fun c17 => ?_) (fun c17 => ?_)
          · replace h := okF h c17
            refine vIload F dX7_holds_194 (k := 0) rfl ?_
            refine vIconst F (v := 1) dX7_holds_196 k_1 ?_
            refine vIcmpNe F (tgt := 218) dX7_holds_197 (by decide) (fun c13 => ?_) (fun c13 => ?_)
            · replace h := okF h c13
              refine vIload F dX7_holds_218 (k := 1) rfl ?_
              refine vIload F dX7_holds_220 (k := 2) rfl ?_
              refine vBipush F (v := 100) dX7_holds_222 kb_100 ?_
              refine vIrem F dX7_holds_224 (by decide) ?_
              refine vIcmpLe F (tgt := 232) dX7_holds_225 (by decide) (fun c9 => ?_) (fun c9 => ?_)
              · replace h := okT h c9
                refine vIconst F (v := 0) dX7_holds_232 k_0 ?_
                obtain ⟨g7, h⟩ := okga h
                refine vZast F dX7_holds_233 (cqM_18 hs) g7 (by decide) ?_
                refine vIinc F (v := 1) (k := 6) (L' := [(3, .int ((s2.1) + 1)), (7, .int ((((s2.2.2).1 15 (s2.2.1).toNatClampNeg) / 100) - (((s2.2.2).1 15 (s2.2.1).toNatClampNeg) / 100) / 10 * 10)), (6, .int r6), (5, .int ((s2.2.2).1 15 (s2.2.1).toNatClampNeg)), (0, .ref (gr G 0)), (1, .int a1), (2, .int a2), (4, .int (s2.2.1))]) dX7_holds_234 rfl k_1 (by decide) rfl ?_
                refine vIinc F (v := 1) (k := 7) (L' := [(4, .int ((s2.2.1) + 1)), (3, .int ((s2.1) + 1)), (7, .int ((((s2.2.2).1 15 (s2.2.1).toNatClampNeg) / 100) - (((s2.2.2).1 15 (s2.2.1).toNatClampNeg) / 100) / 10 * 10)), (6, .int r6), (5, .int ((s2.2.2).1 15 (s2.2.1).toNatClampNeg)), (0, .ref (gr G 0)), (1, .int a1), (2, .int a2)]) dX7_holds_237 rfl k_1 (by decide) rfl ?_
                refine vGoto F (tgt := 10) dX7_holds_240 (by decide) ?_
                refine vSub [5, 6, 7, 1, 0] rfl ?_
                have z := okL h
                exact z
              · replace h := okF h c9
                refine vIconst F (v := 1) dX7_holds_228 k_1 ?_
                refine vGoto F (tgt := 233) dX7_holds_229 (by decide) ?_
                obtain ⟨g8, h⟩ := okga h
                refine vZast F dX7_holds_233 (cqM_18 hs) g8 (by decide) ?_
                refine vIinc F (v := 1) (k := 6) (L' := [(3, .int ((s2.1) + 1)), (7, .int ((((s2.2.2).1 15 (s2.2.1).toNatClampNeg) / 100) - (((s2.2.2).1 15 (s2.2.1).toNatClampNeg) / 100) / 10 * 10)), (6, .int r6), (5, .int ((s2.2.2).1 15 (s2.2.1).toNatClampNeg)), (0, .ref (gr G 0)), (1, .int a1), (2, .int a2), (4, .int (s2.2.1))]) dX7_holds_234 rfl k_1 (by decide) rfl ?_
                refine vIinc F (v := 1) (k := 7) (L' := [(4, .int ((s2.2.1) + 1)), (3, .int ((s2.1) + 1)), (7, .int ((((s2.2.2).1 15 (s2.2.1).toNatClampNeg) / 100) - (((s2.2.2).1 15 (s2.2.1).toNatClampNeg) / 100) / 10 * 10)), (6, .int r6), (5, .int ((s2.2.2).1 15 (s2.2.1).toNatClampNeg)), (0, .ref (gr G 0)), (1, .int a1), (2, .int a2)]) dX7_holds_237 rfl k_1 (by decide) rfl ?_
                refine vGoto F (tgt := 10) dX7_holds_240 (by decide) ?_
                refine vSub [5, 6, 7, 1, 0] rfl ?_
                have z := okL h
                exact z
            · replace h := okT h c13
              refine vIload F dX7_holds_200 (k := 1) rfl ?_
              refine vIload F dX7_holds_202 (k := 2) rfl ?_
              refine vBipush F (v := 100) dX7_holds_204 kb_100 ?_
              refine vIrem F dX7_holds_206 (by decide) ?_
              refine vIcmpNe F (tgt := 214) dX7_holds_207 (by decide) (fun c12 => ?_) (fun c12 => ?_)
              · replace h := okF h c12
                refine vIconst F (v := 0) dX7_holds_214 k_0 ?_
                refine vGoto F (tgt := 233) dX7_holds_215 (by decide) ?_
                obtain ⟨g10, h⟩ := okga h
                refine vZast F dX7_holds_233 (cqM_18 hs) g10 (by decide) ?_
                refine vIinc F (v := 1) (k := 6) (L' := [(3, .int ((s2.1) + 1)), (7, .int ((((s2.2.2).1 15 (s2.2.1).toNatClampNeg) / 100) - (((s2.2.2).1 15 (s2.2.1).toNatClampNeg) / 100) / 10 * 10)), (6, .int r6), (5, .int ((s2.2.2).1 15 (s2.2.1).toNatClampNeg)), (0, .ref (gr G 0)), (1, .int a1), (2, .int a2), (4, .int (s2.2.1))]) dX7_holds_234 rfl k_1 (by decide) rfl ?_
                refine vIinc F (v := 1) (k := 7) (L' := [(4, .int ((s2.2.1) + 1)), (3, .int ((s2.1) + 1)), (7, .int ((((s2.2.2).1 15 (s2.2.1).toNatClampNeg) / 100) - (((s2.2.2).1 15 (s2.2.1).toNatClampNeg) / 100) / 10 * 10)), (6, .int r6), (5, .int ((s2.2.2).1 15 (s2.2.1).toNatClampNeg)), (0, .ref (gr G 0)), (1, .int a1), (2, .int a2)]) dX7_holds_237 rfl k_1 (by decide) rfl ?_
                refine vGoto F (tgt := 10) dX7_holds_240 (by decide) ?_
                refine vSub [5, 6, 7, 1, 0] rfl ?_
                have z := okL h
                exact z
              · replace h := okT h c12
                refine vIconst F (v := 1) dX7_holds_210 k_1 ?_
                refine vGoto F (tgt := 233) dX7_holds_211 (by decide) ?_
                obtain ⟨g11, h⟩ := okga h
                refine vZast F dX7_holds_233 (cqM_18 hs) g11 (by decide) ?_
                refine vIinc F (v := 1) (k := 6) (L' := [(3, .int ((s2.1) + 1)), (7, .int ((((s2.2.2).1 15 (s2.2.1).toNatClampNeg) / 100) - (((s2.2.2).1 15 (s2.2.1).toNatClampNeg) / 100) / 10 * 10)), (6, .int r6), (5, .int ((s2.2.2).1 15 (s2.2.1).toNatClampNeg)), (0, .ref (gr G 0)), (1, .int a1), (2, .int a2), (4, .int (s2.2.1))]) dX7_holds_234 rfl k_1 (by decide) rfl ?_
                refine vIinc F (v := 1) (k := 7) (L' := [(4, .int ((s2.2.1) + 1)), (3, .int ((s2.1) + 1)), (7, .int ((((s2.2.2).1 15 (s2.2.1).toNatClampNeg) / 100) - (((s2.2.2).1 15 (s2.2.1).toNatClampNeg) / 100) / 10 * 10)), (6, .int r6), (5, .int ((s2.2.2).1 15 (s2.2.1).toNatClampNeg)), (0, .ref (gr G 0)), (1, .int a1), (2, .int a2)]) dX7_holds_237 rfl k_1 (by decide) rfl ?_
                refine vGoto F (tgt := 10) dX7_holds_240 (by decide) ?_
                refine vSub [5, 6, 7, 1, 0] rfl ?_
                have z := okL h
                exact z
          · replace h := okT h c17
            refine vIload F dX7_holds_176 (k := 1) rfl ?_
            refine vIload F dX7_holds_178 (k := 2) rfl ?_
            refine vBipush F (v := 100) dX7_holds_180 kb_100 ?_
            refine vIrem F dX7_holds_182 (by decide) ?_
            refine vIcmpGe F (tgt := 190) dX7_holds_183 (by decide) (fun c16 => ?_) (fun c16 => ?_)
            · replace h := okT h c16
              refine vIconst F (v := 0) dX7_holds_190 k_0 ?_
              refine vGoto F (tgt := 233) dX7_holds_191 (by decide) ?_
              obtain ⟨g14, h⟩ := okga h
              refine vZast F dX7_holds_233 (cqM_18 hs) g14 (by decide) ?_
              refine vIinc F (v := 1) (k := 6) (L' := [(3, .int ((s2.1) + 1)), (7, .int ((((s2.2.2).1 15 (s2.2.1).toNatClampNeg) / 100) - (((s2.2.2).1 15 (s2.2.1).toNatClampNeg) / 100) / 10 * 10)), (6, .int r6), (5, .int ((s2.2.2).1 15 (s2.2.1).toNatClampNeg)), (0, .ref (gr G 0)), (1, .int a1), (2, .int a2), (4, .int (s2.2.1))]) dX7_holds_234 rfl k_1 (by decide) rfl ?_
              refine vIinc F (v := 1) (k := 7) (L' := [(4, .int ((s2.2.1) + 1)), (3, .int ((s2.1) + 1)), (7, .int ((((s2.2.2).1 15 (s2.2.1).toNatClampNeg) / 100) - (((s2.2.2).1 15 (s2.2.1).toNatClampNeg) / 100) / 10 * 10)), (6, .int r6), (5, .int ((s2.2.2).1 15 (s2.2.1).toNatClampNeg)), (0, .ref (gr G 0)), (1, .int a1), (2, .int a2)]) dX7_holds_237 rfl k_1 (by decide) rfl ?_
              refine vGoto F (tgt := 10) dX7_holds_240 (by decide) ?_
              refine vSub [5, 6, 7, 1, 0] rfl ?_
              have z := okL h
              exact z
            · replace h := okF h c16
              refine vIconst F (v := 1) dX7_holds_186 k_1 ?_
              refine vGoto F (tgt := 233) dX7_holds_187 (by decide) ?_
              obtain ⟨g15, h⟩ := okga h
              refine vZast F dX7_holds_233 (cqM_18 hs) g15 (by decide) ?_
              refine vIinc F (v := 1) (k := 6) (L' := [(3, .int ((s2.1) + 1)), (7, .int ((((s2.2.2).1 15 (s2.2.1).toNatClampNeg) / 100) - (((s2.2.2).1 15 (s2.2.1).toNatClampNeg) / 100) / 10 * 10)), (6, .int r6), (5, .int ((s2.2.2).1 15 (s2.2.1).toNatClampNeg)), (0, .ref (gr G 0)), (1, .int a1), (2, .int a2), (4, .int (s2.2.1))]) dX7_holds_234 rfl k_1 (by decide) rfl ?_
              refine vIinc F (v := 1) (k := 7) (L' := [(4, .int ((s2.2.1) + 1)), (3, .int ((s2.1) + 1)), (7, .int ((((s2.2.2).1 15 (s2.2.1).toNatClampNeg) / 100) - (((s2.2.2).1 15 (s2.2.1).toNatClampNeg) / 100) / 10 * 10)), (6, .int r6), (5, .int ((s2.2.2).1 15 (s2.2.1).toNatClampNeg)), (0, .ref (gr G 0)), (1, .int a1), (2, .int a2)]) dX7_holds_237 rfl k_1 (by decide) rfl ?_
              refine vGoto F (tgt := 10) dX7_holds_240 (by decide) ?_
              refine vSub [5, 6, 7, 1, 0] rfl ?_
              have z := okL h
              exact z
        · replace h := okF h c33
          refine vIinc F (v := (-1)) (k := 4) (L' := [(3, .int ((s2.1) + (-1))), (5, .int ((s2.2.2).1 15 (s2.2.1).toNatClampNeg)), (0, .ref (gr G 0)), (1, .int a1), (2, .int a2), (4, .int (s2.2.1))]) dX7_holds_69 rfl k_m1 (by decide) rfl ?_
          refine vAloadN F dX7_holds_72 (k := 2) rfl ?_
          refine vGetR F (t := 18) dX7_holds_73 fa_X7_92 (cqM_0 hs) rfl ?_
          refine vIloadN F dX7_holds_76 (k := 0) rfl ?_
          refine vIconst F (v := 1) dX7_holds_77 k_1 ?_
          refine vIsub F dX7_holds_78 ?_
          refine vIload F dX7_holds_79 (k := 1) rfl ?_
          refine vBipush F (v := (-38)) dX7_holds_81 kb_m38 ?_
          refine vIcmpNe F (tgt := 114) dX7_holds_83 (by decide) (fun c32 => ?_) (fun c32 => ?_)
          · replace h := okF h c32
            refine vAloadN F dX7_holds_114 (k := 2) rfl ?_
            refine vGetR F (t := 18) dX7_holds_115 fa_X7_92 (cqM_0 hs) rfl ?_
            refine vIloadN F dX7_holds_118 (k := 0) rfl ?_
            refine vIconst F (v := 1) dX7_holds_119 k_1 ?_
            refine vIsub F dX7_holds_120 ?_
            obtain ⟨g18, h⟩ := okga h
            refine vZald F dX7_holds_121 (cqM_18 hs) g18 ?_
            refine vIfNe F (tgt := 134) dX7_holds_122 (by decide) (fun c24 => ?_) (fun c24 => ?_)
            · replace h := okF h c24
              refine vIconst F (v := 1) dX7_holds_134 k_1 ?_
              refine vGoto F (tgt := 139) dX7_holds_135 (by decide) ?_
              obtain ⟨g19, h⟩ := okga h
              refine vZast F dX7_holds_139 (cqM_18 hs) g19 (by decide) ?_
              refine vGoto F (tgt := 237) dX7_holds_140 (by decide) ?_
              refine vIinc F (v := 1) (k := 5) (L' := [(4, .int ((s2.2.1) + 1)), (3, .int ((s2.1) + (-1))), (5, .int ((s2.2.2).1 15 (s2.2.1).toNatClampNeg)), (0, .ref (gr G 0)), (1, .int a1), (2, .int a2)]) dX7_holds_237 rfl k_1 (by decide) rfl ?_
              refine vGoto F (tgt := 10) dX7_holds_240 (by decide) ?_
              refine vSub [3, 4, 5, 1, 0] rfl ?_
              have z := okL h
              exact z
            · replace h := okT h c24
              refine vAloadN F dX7_holds_125 (k := 2) rfl ?_
              refine vGetR F (t := 18) dX7_holds_126 fa_X7_92 (cqM_0 hs) rfl ?_
              refine vIloadN F dX7_holds_129 (k := 0) rfl ?_
              obtain ⟨g20, h⟩ := okga h
              refine vZald F dX7_holds_130 (cqM_18 hs) g20 ?_
              refine vIfEq F (tgt := 138) dX7_holds_131 (by decide) (fun c23 => ?_) (fun c23 => ?_)
              · replace h := okT h c23
                refine vIconst F (v := 0) dX7_holds_138 k_0 ?_
                obtain ⟨g21, h⟩ := okga h
                refine vZast F dX7_holds_139 (cqM_18 hs) g21 (by decide) ?_
                refine vGoto F (tgt := 237) dX7_holds_140 (by decide) ?_
                refine vIinc F (v := 1) (k := 5) (L' := [(4, .int ((s2.2.1) + 1)), (3, .int ((s2.1) + (-1))), (5, .int ((s2.2.2).1 15 (s2.2.1).toNatClampNeg)), (0, .ref (gr G 0)), (1, .int a1), (2, .int a2)]) dX7_holds_237 rfl k_1 (by decide) rfl ?_
                refine vGoto F (tgt := 10) dX7_holds_240 (by decide) ?_
                refine vSub [3, 4, 5, 1, 0] rfl ?_
                have z := okL h
                exact z
              · replace h := okF h c23
                refine vIconst F (v := 1) dX7_holds_134 k_1 ?_
                refine vGoto F (tgt := 139) dX7_holds_135 (by decide) ?_
                obtain ⟨g22, h⟩ := okga h
                refine vZast F dX7_holds_139 (cqM_18 hs) g22 (by decide) ?_
                refine vGoto F (tgt := 237) dX7_holds_140 (by decide) ?_
                refine vIinc F (v := 1) (k := 5) (L' := [(4, .int ((s2.2.1) + 1)), (3, .int ((s2.1) + (-1))), (5, .int ((s2.2.2).1 15 (s2.2.1).toNatClampNeg)), (0, .ref (gr G 0)), (1, .int a1), (2, .int a2)]) dX7_holds_237 rfl k_1 (by decide) rfl ?_
                refine vGoto F (tgt := 10) dX7_holds_240 (by decide) ?_
                refine vSub [3, 4, 5, 1, 0] rfl ?_
                have z := okL h
                exact z
          · replace h := okT h c32
            refine vAloadN F dX7_holds_86 (k := 2) rfl ?_
            refine vGetR F (t := 18) dX7_holds_87 fa_X7_92 (cqM_0 hs) rfl ?_
            refine vIloadN F dX7_holds_90 (k := 0) rfl ?_
            refine vIconst F (v := 1) dX7_holds_91 k_1 ?_
            refine vIsub F dX7_holds_92 ?_
            obtain ⟨g25, h⟩ := okga h
            refine vZald F dX7_holds_93 (cqM_18 hs) g25 ?_
            refine vIfEq F (tgt := 110) dX7_holds_94 (by decide) (fun c31 => ?_) (fun c31 => ?_)
            · replace h := okT h c31
              refine vIconst F (v := 0) dX7_holds_110 k_0 ?_
              refine vGoto F (tgt := 139) dX7_holds_111 (by decide) ?_
              obtain ⟨g26, h⟩ := okga h
              refine vZast F dX7_holds_139 (cqM_18 hs) g26 (by decide) ?_
              refine vGoto F (tgt := 237) dX7_holds_140 (by decide) ?_
              refine vIinc F (v := 1) (k := 5) (L' := [(4, .int ((s2.2.1) + 1)), (3, .int ((s2.1) + (-1))), (5, .int ((s2.2.2).1 15 (s2.2.1).toNatClampNeg)), (0, .ref (gr G 0)), (1, .int a1), (2, .int a2)]) dX7_holds_237 rfl k_1 (by decide) rfl ?_
              refine vGoto F (tgt := 10) dX7_holds_240 (by decide) ?_
              refine vSub [3, 4, 5, 1, 0] rfl ?_
              have z := okL h
              exact z
            · replace h := okF h c31
              refine vAloadN F dX7_holds_97 (k := 2) rfl ?_
              refine vGetR F (t := 18) dX7_holds_98 fa_X7_92 (cqM_0 hs) rfl ?_
              refine vIloadN F dX7_holds_101 (k := 0) rfl ?_
              obtain ⟨g27, h⟩ := okga h
              refine vZald F dX7_holds_102 (cqM_18 hs) g27 ?_
              refine vIfEq F (tgt := 110) dX7_holds_103 (by decide) (fun c30 => ?_) (fun c30 => ?_)
              · replace h := okT h c30
                refine vIconst F (v := 0) dX7_holds_110 k_0 ?_
                refine vGoto F (tgt := 139) dX7_holds_111 (by decide) ?_
                obtain ⟨g28, h⟩ := okga h
                refine vZast F dX7_holds_139 (cqM_18 hs) g28 (by decide) ?_
                refine vGoto F (tgt := 237) dX7_holds_140 (by decide) ?_
                refine vIinc F (v := 1) (k := 5) (L' := [(4, .int ((s2.2.1) + 1)), (3, .int ((s2.1) + (-1))), (5, .int ((s2.2.2).1 15 (s2.2.1).toNatClampNeg)), (0, .ref (gr G 0)), (1, .int a1), (2, .int a2)]) dX7_holds_237 rfl k_1 (by decide) rfl ?_
                refine vGoto F (tgt := 10) dX7_holds_240 (by decide) ?_
                refine vSub [3, 4, 5, 1, 0] rfl ?_
                have z := okL h
                exact z
              · replace h := okF h c30
                refine vIconst F (v := 1) dX7_holds_106 k_1 ?_
                refine vGoto F (tgt := 139) dX7_holds_107 (by decide) ?_
                obtain ⟨g29, h⟩ := okga h
                refine vZast F dX7_holds_139 (cqM_18 hs) g29 (by decide) ?_
                refine vGoto F (tgt := 237) dX7_holds_140 (by decide) ?_
                refine vIinc F (v := 1) (k := 5) (L' := [(4, .int ((s2.2.1) + 1)), (3, .int ((s2.1) + (-1))), (5, .int ((s2.2.2).1 15 (s2.2.1).toNatClampNeg)), (0, .ref (gr G 0)), (1, .int a1), (2, .int a2)]) dX7_holds_237 rfl k_1 (by decide) rfl ?_
                refine vGoto F (tgt := 10) dX7_holds_240 (by decide) ?_
                refine vSub [3, 4, 5, 1, 0] rfl ?_
                have z := okL h
                exact z
      · replace h := okT h c38
        refine vAloadN F dX7_holds_37 (k := 1) rfl ?_
        refine vGetR F (t := 18) dX7_holds_38 fa_X7_92 (cqM_0 hs) rfl ?_
        refine vIloadN F dX7_holds_41 (k := 4) rfl ?_
        refine vIconst F (v := 1) dX7_holds_42 k_1 ?_
        refine vIsub F dX7_holds_43 ?_
        refine vAloadN F dX7_holds_44 (k := 1) rfl ?_
        refine vGetR F (t := 18) dX7_holds_45 fa_X7_92 (cqM_0 hs) rfl ?_
        refine vIloadN F dX7_holds_48 (k := 4) rfl ?_
        refine vIconst F (v := 1) dX7_holds_49 k_1 ?_
        refine vIsub F dX7_holds_50 ?_
        obtain ⟨g34, h⟩ := okga h
        refine vZald F dX7_holds_51 (cqM_18 hs) g34 ?_
        refine vIfNe F (tgt := 59) dX7_holds_52 (by decide) (fun c37 => ?_) (fun c37 => ?_)
        · replace h := okF h c37
          refine vIconst F (v := 0) dX7_holds_59 k_0 ?_
          obtain ⟨g35, h⟩ := okga h
          refine vZast F dX7_holds_60 (cqM_18 hs) g35 (by decide) ?_
          refine vGoto F (tgt := 237) dX7_holds_61 (by decide) ?_
          refine vIinc F (v := 1) (k := 5) (L' := [(4, .int ((s2.2.1) + 1)), (5, .int ((s2.2.2).1 15 (s2.2.1).toNatClampNeg)), (0, .ref (gr G 0)), (1, .int a1), (2, .int a2), (3, .int (s2.1))]) dX7_holds_237 rfl k_1 (by decide) rfl ?_
          refine vGoto F (tgt := 10) dX7_holds_240 (by decide) ?_
          refine vSub [2, 3, 4, 5, 0] rfl ?_
          have z := okL h
          exact z
        · replace h := okT h c37
          refine vIconst F (v := 1) dX7_holds_55 k_1 ?_
          refine vGoto F (tgt := 60) dX7_holds_56 (by decide) ?_
          obtain ⟨g36, h⟩ := okga h
          refine vZast F dX7_holds_60 (cqM_18 hs) g36 (by decide) ?_
          refine vGoto F (tgt := 237) dX7_holds_61 (by decide) ?_
          refine vIinc F (v := 1) (k := 5) (L' := [(4, .int ((s2.2.1) + 1)), (5, .int ((s2.2.2).1 15 (s2.2.1).toNatClampNeg)), (0, .ref (gr G 0)), (1, .int a1), (2, .int a2), (3, .int (s2.1))]) dX7_holds_237 rfl k_1 (by decide) rfl ?_
          refine vGoto F (tgt := 10) dX7_holds_240 (by decide) ?_
          refine vSub [2, 3, 4, 5, 0] rfl ?_
          have z := okL h
          exact z
noncomputable def Mo_sumOf_l8 (a1 : Int32) (a2 : Int32) (s1 : Int32 × Int32 × Mm) : Option ((Int32 × Int32 × Mm) ⊕ (Int32 × Mm)) :=
  (Mo_behind (s1.2.2)).bind fun r3 =>
  if r3 ≤ (s1.2.1) then
 (some (.inr (s1.1, s1.2.2)))
 else (ga (s1.2.1) 60 (if ((s1.2.2).1 11 (s1.2.1).toNatClampNeg) = a1 then
 ((Mo_holds (s1.2.2) (s1.2.1) a2).bind fun r5 =>
  if (r5.1) = true then
 (ga (s1.2.1) 60 (some (.inl ((s1.1) + ((r5.2).1 12 (s1.2.1).toNatClampNeg), (s1.2.1) + 1, r5.2))))
 else (some (.inl ((s1.1) + 0, (s1.2.1) + 1, r5.2))))
 else (some (.inl ((s1.1) + 0, (s1.2.1) + 1, s1.2.2)))))
noncomputable def Mo_sumOf (m : Mm) (a1 : Int32) (a2 : Int32) : Option (Int32 × Mm) :=
  (iter (Mo_sumOf_l8 a1 a2) (0, (Mo_begin m), m)).bind fun e2 =>
  some (e2.1, e2.2)
set_option maxRecDepth 20000 in
set_option maxHeartbeats 4000000 in
theorem Mo_sumOf_ok {G : Gw} (hG : gOk G) (hs : gsh G = shM) {a1 : Int32} {a2 : Int32} {m : Mm} {P : Option Value → Mm → Prop} (h : mjO (Mo_sumOf m a1 a2) (fun r => P (some (.int r.1)) r.2)) : mjR G 3 yX7_sumOf cX7_sumOf 5 (some .int) [.ref (gr G 0), .int a1, .int a2] m P := by
  refine mjR_of hG (by decide) (Nat.le_of_ble_eq_true rfl) ?_
  intro X F
  have F : mjF G X cX7_sumOf RX7 5 3 (some .int) := F
  show mjV G X 5 0 [(0, .ref (gr G 0)), (1, .int a1), (2, .int a2)] [] m P
  unfold Mo_sumOf at h
  refine vIconst F (v := 0) dX7_sumOf_0 k_0 ?_
  refine vIstoreN F (L' := [(3, .int 0), (0, .ref (gr G 0)), (1, .int a1), (2, .int a2)]) dX7_sumOf_1 rfl (by decide) rfl ?_
  refine vAloadN F dX7_sumOf_2 (k := 1) rfl ?_
  refine vCallV F (d' := 0) (x := 0) (T := TX7) (N := 61) (As := []) (st := []) dX7_sumOf_3 lk_X7_268 my_X7_begin mv_X7_begin (cqM_0 hs) rfl (by decide) rfl rfl (Nat.le_of_ble_eq_true rfl) (Mo_begin_ok hG hs ?_)
  show mjV G X 5 6 [(3, .int 0), (0, .ref (gr G 0)), (1, .int a1), (2, .int a2)] [.int (Mo_begin m)] m P
  refine vIstore F (L' := [(4, .int (Mo_begin m)), (3, .int 0), (0, .ref (gr G 0)), (1, .int a1), (2, .int a2)]) dX7_sumOf_6 (by decide) rfl ?_
  refine vSub [2, 3, 4, 1, 0] rfl ?_
  refine okLoop (s0 := (0, (Mo_begin m), m)) (T := (fun (s1 : Int32 × Int32 × Mm) => mjV G X 5 8 [(0, .ref (gr G 0)), (1, .int a1), (2, .int a2), (3, .int (s1.1)), (4, .int (s1.2.1))] [] (s1.2.2) P)) (Ve := (fun (e2 : Int32 × Mm) => mjV G X 5 58 [(3, .int (e2.1))] [] (e2.2) P)) h ?_ (fun s1 h => ?_)
  · intro e2 h
    refine vIloadN F dX7_sumOf_58 (k := 0) rfl ?_
    have z := okS h
    exact vIret F dX7_sumOf_59 z
  · unfold Mo_sumOf_l8 at h
    refine vIload F dX7_sumOf_8 (k := 4) rfl ?_
    refine vAloadN F dX7_sumOf_10 (k := 0) rfl ?_
    refine vCallV F (d' := 0) (x := 0) (T := TX7) (N := 61) (As := []) (st := [.int (s1.2.1)]) dX7_sumOf_11 lk_X7_271 my_X7_behind mv_X7_behind (cqM_0 hs) rfl (by decide) rfl rfl (Nat.le_of_ble_eq_true rfl) (Mo_behind_ok hG hs (okB h fun r3 h => ?_))
    show mjV G X 5 14 [(0, .ref (gr G 0)), (1, .int a1), (2, .int a2), (3, .int (s1.1)), (4, .int (s1.2.1))] [.int r3, .int (s1.2.1)] (s1.2.2) P
    refine vIcmpGe F (tgt := 58) dX7_sumOf_14 (by decide) (fun c9 => ?_) (fun c9 => ?_)
    · replace h := okT h c9
      refine vSub [3] rfl ?_
      have z := okR h
      exact z
    · replace h := okF h c9
      refine vIloadN F dX7_sumOf_17 (k := 3) rfl ?_
      refine vAloadN F dX7_sumOf_18 (k := 0) rfl ?_
      refine vGetR F (t := 11) dX7_sumOf_19 fa_X7_62 (cqM_0 hs) rfl ?_
      refine vIload F dX7_sumOf_22 (k := 4) rfl ?_
      obtain ⟨g4, h⟩ := okga h
      refine vIald F dX7_sumOf_24 (cqM_11 hs) g4 ?_
      refine vIloadN F dX7_sumOf_25 (k := 1) rfl ?_
      refine vIcmpNe F (tgt := 49) dX7_sumOf_26 (by decide) (fun c8 => ?_) (fun c8 => ?_)
      · replace h := okF h c8
        refine vIconst F (v := 0) dX7_sumOf_49 k_0 ?_
        refine vIadd F dX7_sumOf_50 ?_
        refine vIstoreN F (L' := [(3, .int ((s1.1) + 0)), (0, .ref (gr G 0)), (1, .int a1), (2, .int a2), (4, .int (s1.2.1))]) dX7_sumOf_51 rfl (by decide) rfl ?_
        refine vIinc F (v := 1) (k := 4) (L' := [(4, .int ((s1.2.1) + 1)), (3, .int ((s1.1) + 0)), (0, .ref (gr G 0)), (1, .int a1), (2, .int a2)]) dX7_sumOf_52 rfl k_1 (by decide) rfl ?_
        refine vGoto F (tgt := 8) dX7_sumOf_55 (by decide) ?_
        refine vSub [2, 3, 4, 1, 0] rfl ?_
        have z := okL h
        exact z
      · replace h := okT h c8
        refine vAloadN F dX7_sumOf_29 (k := 0) rfl ?_
        refine vIload F dX7_sumOf_30 (k := 4) rfl ?_
        refine vIloadN F dX7_sumOf_32 (k := 2) rfl ?_
        refine vCallV F (d' := 2) (x := 0) (T := TX7) (N := 61) (As := [.int (s1.2.1), .int a2]) (st := [.int (s1.1)]) dX7_sumOf_33 lk_X7_281 my_X7_holds mv_X7_holds (cqM_0 hs) rfl (by decide) rfl rfl (Nat.le_of_ble_eq_true rfl) (Mo_holds_ok hG hs (okB h fun r5 h => ?_))
        show mjV G X 5 36 [(0, .ref (gr G 0)), (1, .int a1), (2, .int a2), (3, .int (s1.1)), (4, .int (s1.2.1))] [.int (bI (r5.1)), .int (s1.1)] (r5.2) P
        refine vIfEqB F (tgt := 49) dX7_sumOf_36 (by decide) (fun c7 => ?_) (fun c7 => ?_)
        · replace h := okF h c7
          refine vIconst F (v := 0) dX7_sumOf_49 k_0 ?_
          refine vIadd F dX7_sumOf_50 ?_
          refine vIstoreN F (L' := [(3, .int ((s1.1) + 0)), (0, .ref (gr G 0)), (1, .int a1), (2, .int a2), (4, .int (s1.2.1))]) dX7_sumOf_51 rfl (by decide) rfl ?_
          refine vIinc F (v := 1) (k := 4) (L' := [(4, .int ((s1.2.1) + 1)), (3, .int ((s1.1) + 0)), (0, .ref (gr G 0)), (1, .int a1), (2, .int a2)]) dX7_sumOf_52 rfl k_1 (by decide) rfl ?_
          refine vGoto F (tgt := 8) dX7_sumOf_55 (by decide) ?_
          refine vSub [2, 3, 4, 1, 0] rfl ?_
          have z := okL h
          exact z
        · replace h := okT h c7
          refine vAloadN F dX7_sumOf_39 (k := 0) rfl ?_
          refine vGetR F (t := 12) dX7_sumOf_40 fa_X7_65 (cqM_0 hs) rfl ?_
          refine vIload F dX7_sumOf_43 (k := 4) rfl ?_
          obtain ⟨g6, h⟩ := okga h
          refine vIald F dX7_sumOf_45 (cqM_12 hs) g6 ?_
          refine vGoto F (tgt := 50) dX7_sumOf_46 (by decide) ?_
          refine vIadd F dX7_sumOf_50 ?_
          refine vIstoreN F (L' := [(3, .int ((s1.1) + ((r5.2).1 12 (s1.2.1).toNatClampNeg))), (0, .ref (gr G 0)), (1, .int a1), (2, .int a2), (4, .int (s1.2.1))]) dX7_sumOf_51 rfl (by decide) rfl ?_
          refine vIinc F (v := 1) (k := 4) (L' := [(4, .int ((s1.2.1) + 1)), (3, .int ((s1.1) + ((r5.2).1 12 (s1.2.1).toNatClampNeg))), (0, .ref (gr G 0)), (1, .int a1), (2, .int a2)]) dX7_sumOf_52 rfl k_1 (by decide) rfl ?_
          refine vGoto F (tgt := 8) dX7_sumOf_55 (by decide) ?_
          refine vSub [2, 3, 4, 1, 0] rfl ?_
          have z := okL h
          exact z
def Mo_shorten (m : Mm) (a1 : Int32) (a2 : Int32) (a3 : Int32) : Option (Mm) :=
  ga ((7 * a1) + a2) 49 (ga ((7 * a2) + a3) 49 (if (m.1 20 ((7 * a1) + a2).toNatClampNeg) < 0 then
 (some m)
 else (if 0 ≤ (m.1 20 ((7 * a2) + a3).toNatClampNeg) then
 (ga ((7 * a1) + a3) 49 (jn (fun (e4 : Unit) => ga ((7 * a1) + a3) 49 (some (si m 20 ((7 * a1) + a3).toNatClampNeg ((m.1 20 ((7 * a1) + a2).toNatClampNeg) + (m.1 20 ((7 * a2) + a3).toNatClampNeg))))) fun j5 =>
  if (m.1 20 ((7 * a1) + a3).toNatClampNeg) < 0 then
 (j5 ())
 else (ga ((7 * a1) + a3) 49 (if (m.1 20 ((7 * a1) + a3).toNatClampNeg) ≤ ((m.1 20 ((7 * a1) + a2).toNatClampNeg) + (m.1 20 ((7 * a2) + a3).toNatClampNeg)) then
 (some m)
 else (j5 ())))))
 else (some m))))
set_option maxRecDepth 20000 in
set_option maxHeartbeats 4000000 in
theorem Mo_shorten_ok {G : Gw} (hG : gOk G) (hs : gsh G = shM) {a1 : Int32} {a2 : Int32} {a3 : Int32} {m : Mm} {P : Option Value → Mm → Prop} (h : mjO (Mo_shorten m a1 a2 a3) (fun r => P none r)) : mjR G 0 yX7_shorten cX7_shorten 6 none [.ref (gr G 0), .int a1, .int a2, .int a3] m P := by
  refine mjR_of hG (by decide) (Nat.le_of_ble_eq_true rfl) ?_
  intro X F
  have F : mjF G X cX7_shorten RX7 6 0 none := F
  show mjV G X 6 0 [(0, .ref (gr G 0)), (1, .int a1), (2, .int a2), (3, .int a3)] [] m P
  unfold Mo_shorten at h
  refine vAloadN F dX7_shorten_0 (k := 0) rfl ?_
  refine vGetR F (t := 20) dX7_shorten_1 fa_X7_99 (cqM_0 hs) rfl ?_
  refine vBipush F (v := 7) dX7_shorten_4 kb_7 ?_
  refine vIloadN F dX7_shorten_6 (k := 1) rfl ?_
  refine vImul F dX7_shorten_7 ?_
  refine vIloadN F dX7_shorten_8 (k := 2) rfl ?_
  refine vIadd F dX7_shorten_9 ?_
  obtain ⟨g1, h⟩ := okga h
  refine vIald F dX7_shorten_10 (cqM_20 hs) g1 ?_
  refine vIstore F (L' := [(4, .int (m.1 20 ((7 * a1) + a2).toNatClampNeg)), (0, .ref (gr G 0)), (1, .int a1), (2, .int a2), (3, .int a3)]) dX7_shorten_11 (by decide) rfl ?_
  refine vAloadN F dX7_shorten_13 (k := 1) rfl ?_
  refine vGetR F (t := 20) dX7_shorten_14 fa_X7_99 (cqM_0 hs) rfl ?_
  refine vBipush F (v := 7) dX7_shorten_17 kb_7 ?_
  refine vIloadN F dX7_shorten_19 (k := 3) rfl ?_
  refine vImul F dX7_shorten_20 ?_
  refine vIloadN F dX7_shorten_21 (k := 4) rfl ?_
  refine vIadd F dX7_shorten_22 ?_
  obtain ⟨g2, h⟩ := okga h
  refine vIald F dX7_shorten_23 (cqM_20 hs) g2 ?_
  refine vIstore F (L' := [(5, .int (m.1 20 ((7 * a2) + a3).toNatClampNeg)), (4, .int (m.1 20 ((7 * a1) + a2).toNatClampNeg)), (0, .ref (gr G 0)), (1, .int a1), (2, .int a2), (3, .int a3)]) dX7_shorten_24 (by decide) rfl ?_
  refine vIload F dX7_shorten_26 (k := 1) rfl ?_
  refine vIfLt F (tgt := 36) dX7_shorten_28 (by decide) (fun c11 => ?_) (fun c11 => ?_)
  · replace h := okT h c11
    have z := okS h
    exact vVret F dX7_shorten_36 z
  · replace h := okF h c11
    refine vIload F dX7_shorten_31 (k := 0) rfl ?_
    refine vIfGe F (tgt := 37) dX7_shorten_33 (by decide) (fun c10 => ?_) (fun c10 => ?_)
    · replace h := okT h c10
      refine vAloadN F dX7_shorten_37 (k := 2) rfl ?_
      refine vGetR F (t := 20) dX7_shorten_38 fa_X7_99 (cqM_0 hs) rfl ?_
      refine vBipush F (v := 7) dX7_shorten_41 kb_7 ?_
      refine vIloadN F dX7_shorten_43 (k := 3) rfl ?_
      refine vImul F dX7_shorten_44 ?_
      refine vIloadN F dX7_shorten_45 (k := 5) rfl ?_
      refine vIadd F dX7_shorten_46 ?_
      obtain ⟨g3, h⟩ := okga h
      refine vIald F dX7_shorten_47 (cqM_20 hs) g3 ?_
      refine okJ (Vj := fun (e4 : Unit) => mjV G X 6 70 [(0, .ref (gr G 0)), (1, .int a1), (3, .int a3), (4, .int (m.1 20 ((7 * a1) + a2).toNatClampNeg)), (5, .int (m.1 20 ((7 * a2) + a3).toNatClampNeg))] [] m P) h (fun e4 h => ?_) (fun j5 Jj5 h => ?_)
      · refine vAloadN F dX7_shorten_70 (k := 0) rfl ?_
        refine vGetR F (t := 20) dX7_shorten_71 fa_X7_99 (cqM_0 hs) rfl ?_
        refine vBipush F (v := 7) dX7_shorten_74 kb_7 ?_
        refine vIloadN F dX7_shorten_76 (k := 1) rfl ?_
        refine vImul F dX7_shorten_77 ?_
        refine vIloadN F dX7_shorten_78 (k := 2) rfl ?_
        refine vIadd F dX7_shorten_79 ?_
        refine vIload F dX7_shorten_80 (k := 3) rfl ?_
        refine vIload F dX7_shorten_82 (k := 4) rfl ?_
        refine vIadd F dX7_shorten_84 ?_
        obtain ⟨g6, h⟩ := okga h
        refine vIast F dX7_shorten_85 (cqM_20 hs) g6 ?_
        have z := okS h
        exact vVret F dX7_shorten_86 z
      · refine vIfLt F (tgt := 70) dX7_shorten_48 (by decide) (fun c9 => ?_) (fun c9 => ?_)
        · replace h := okT h c9
          refine vSub [2, 3, 5, 1, 0] rfl ?_
          exact Jj5 () h
        · replace h := okF h c9
          refine vIload F dX7_shorten_51 (k := 1) rfl ?_
          refine vIload F dX7_shorten_53 (k := 0) rfl ?_
          refine vIadd F dX7_shorten_55 ?_
          refine vAloadN F dX7_shorten_56 (k := 2) rfl ?_
          refine vGetR F (t := 20) dX7_shorten_57 fa_X7_99 (cqM_0 hs) rfl ?_
          refine vBipush F (v := 7) dX7_shorten_60 kb_7 ?_
          refine vIloadN F dX7_shorten_62 (k := 3) rfl ?_
          refine vImul F dX7_shorten_63 ?_
          refine vIloadN F dX7_shorten_64 (k := 5) rfl ?_
          refine vIadd F dX7_shorten_65 ?_
          obtain ⟨g7, h⟩ := okga h
          refine vIald F dX7_shorten_66 (cqM_20 hs) g7 ?_
          refine vIcmpGe F (tgt := 86) dX7_shorten_67 (by decide) (fun c8 => ?_) (fun c8 => ?_)
          · replace h := okT h c8
            have z := okS h
            exact vVret F dX7_shorten_86 z
          · replace h := okF h c8
            refine vSub [2, 3, 5, 1, 0] rfl ?_
            exact Jj5 () h
    · replace h := okF h c10
      have z := okS h
      exact vVret F dX7_shorten_36 z
noncomputable def Mo_layLand_l2  (s1 : Int32 × Mm) : Option ((Int32 × Mm) ⊕ Mm) :=
  if ((s1.2).1 0 0) ≤ (s1.1) then
 (some (.inr (s1.2)))
 else (ga (s1.1) 7 ((Mo_sumOf (s1.2) 0 (s1.1)).bind fun r4 =>
  ga (s1.1) 7 ((Mo_sumOf (si (r4.2) 21 (s1.1).toNatClampNeg (((s1.2).1 3 (s1.1).toNatClampNeg) + (r4.1))) 1 (s1.1)).bind fun r6 =>
  ga (s1.1) 7 (some (.inl ((s1.1) + 1, si (r6.2) 22 (s1.1).toNatClampNeg (r6.1)))))))
def Mo_layLand_l59 (s9 : Int32 × Mm) (s11 : Int32 × Mm) : Option ((Int32 × Mm) ⊕ Mm) :=
  if ((s11.2).1 0 0) ≤ (s11.1) then
 (some (.inr (s11.2)))
 else (ga ((7 * (s9.1)) + (s11.1)) 49 (if ((s11.2).1 5 ((7 * (s9.1)) + (s11.1)).toNatClampNeg) = 0 then
 (ga ((7 * (s9.1)) + (s11.1)) 49 (if (s9.1) = (s11.1) then
 (ga ((7 * (s9.1)) + (s11.1)) 49 (some (.inl ((s11.1) + 1, si (si (s11.2) 19 ((7 * (s9.1)) + (s11.1)).toNatClampNeg 0) 20 ((7 * (s9.1)) + (s11.1)).toNatClampNeg 0))))
 else (if ((s11.2).1 5 ((7 * (s9.1)) + (s11.1)).toNatClampNeg) = 0 then
 (ga ((7 * (s9.1)) + (s11.1)) 49 (some (.inl ((s11.1) + 1, si (si (s11.2) 19 ((7 * (s9.1)) + (s11.1)).toNatClampNeg 0) 20 ((7 * (s9.1)) + (s11.1)).toNatClampNeg (-1)))))
 else (ga ((7 * (s9.1)) + (s11.1)) 49 (ga ((7 * (s9.1)) + (s11.1)) 49 (some (.inl ((s11.1) + 1, si (si (s11.2) 19 ((7 * (s9.1)) + (s11.1)).toNatClampNeg 0) 20 ((7 * (s9.1)) + (s11.1)).toNatClampNeg ((si (s11.2) 19 ((7 * (s9.1)) + (s11.1)).toNatClampNeg 0).1 19 ((7 * (s9.1)) + (s11.1)).toNatClampNeg)))))))))
 else (if (s11.1) ≤ (s9.1) then
 (ga (s11.1) 7 (ga ((7 * (s9.1)) + (s11.1)) 49 (if (s9.1) = (s11.1) then
 (ga ((7 * (s9.1)) + (s11.1)) 49 (some (.inl ((s11.1) + 1, si (si (s11.2) 19 ((7 * (s9.1)) + (s11.1)).toNatClampNeg (((s11.2).1 5 ((7 * (s9.1)) + (s11.1)).toNatClampNeg) + ((s11.2).1 22 (s11.1).toNatClampNeg))) 20 ((7 * (s9.1)) + (s11.1)).toNatClampNeg 0))))
 else (if ((s11.2).1 5 ((7 * (s9.1)) + (s11.1)).toNatClampNeg) = 0 then
 (ga ((7 * (s9.1)) + (s11.1)) 49 (some (.inl ((s11.1) + 1, si (si (s11.2) 19 ((7 * (s9.1)) + (s11.1)).toNatClampNeg (((s11.2).1 5 ((7 * (s9.1)) + (s11.1)).toNatClampNeg) + ((s11.2).1 22 (s11.1).toNatClampNeg))) 20 ((7 * (s9.1)) + (s11.1)).toNatClampNeg (-1)))))
 else (ga ((7 * (s9.1)) + (s11.1)) 49 (ga ((7 * (s9.1)) + (s11.1)) 49 (some (.inl ((s11.1) + 1, si (si (s11.2) 19 ((7 * (s9.1)) + (s11.1)).toNatClampNeg (((s11.2).1 5 ((7 * (s9.1)) + (s11.1)).toNatClampNeg) + ((s11.2).1 22 (s11.1).toNatClampNeg))) 20 ((7 * (s9.1)) + (s11.1)).toNatClampNeg ((si (s11.2) 19 ((7 * (s9.1)) + (s11.1)).toNatClampNeg (((s11.2).1 5 ((7 * (s9.1)) + (s11.1)).toNatClampNeg) + ((s11.2).1 22 (s11.1).toNatClampNeg))).1 19 ((7 * (s9.1)) + (s11.1)).toNatClampNeg))))))))))
 else (ga (s9.1) 7 (ga ((7 * (s9.1)) + (s11.1)) 49 (if (s9.1) = (s11.1) then
 (ga ((7 * (s9.1)) + (s11.1)) 49 (some (.inl ((s11.1) + 1, si (si (s11.2) 19 ((7 * (s9.1)) + (s11.1)).toNatClampNeg (((s11.2).1 5 ((7 * (s9.1)) + (s11.1)).toNatClampNeg) + ((s11.2).1 22 (s9.1).toNatClampNeg))) 20 ((7 * (s9.1)) + (s11.1)).toNatClampNeg 0))))
 else (if ((s11.2).1 5 ((7 * (s9.1)) + (s11.1)).toNatClampNeg) = 0 then
 (ga ((7 * (s9.1)) + (s11.1)) 49 (some (.inl ((s11.1) + 1, si (si (s11.2) 19 ((7 * (s9.1)) + (s11.1)).toNatClampNeg (((s11.2).1 5 ((7 * (s9.1)) + (s11.1)).toNatClampNeg) + ((s11.2).1 22 (s9.1).toNatClampNeg))) 20 ((7 * (s9.1)) + (s11.1)).toNatClampNeg (-1)))))
 else (ga ((7 * (s9.1)) + (s11.1)) 49 (ga ((7 * (s9.1)) + (s11.1)) 49 (some (.inl ((s11.1) + 1, si (si (s11.2) 19 ((7 * (s9.1)) + (s11.1)).toNatClampNeg (((s11.2).1 5 ((7 * (s9.1)) + (s11.1)).toNatClampNeg) + ((s11.2).1 22 (s9.1).toNatClampNeg))) 20 ((7 * (s9.1)) + (s11.1)).toNatClampNeg ((si (s11.2) 19 ((7 * (s9.1)) + (s11.1)).toNatClampNeg (((s11.2).1 5 ((7 * (s9.1)) + (s11.1)).toNatClampNeg) + ((s11.2).1 22 (s9.1).toNatClampNeg))).1 19 ((7 * (s9.1)) + (s11.1)).toNatClampNeg)))))))))))))
noncomputable def Mo_layLand_l49  (s9 : Int32 × Mm) : Option ((Int32 × Mm) ⊕ Mm) :=
  if ((s9.2).1 0 0) ≤ (s9.1) then
 (some (.inr (s9.2)))
 else ((iter (Mo_layLand_l59 s9) (0, s9.2)).bind fun e12 =>
  some (.inl ((s9.1) + 1, e12)))
def Mo_layLand_l188 (s42 : Int32 × Mm) (s44 : Int32 × Mm) (s46 : Int32 × Mm) : Option ((Int32 × Mm) ⊕ Mm) :=
  if ((s46.2).1 0 0) ≤ (s46.1) then
 (some (.inr (s46.2)))
 else ((Mo_shorten (s46.2) (s44.1) (s42.1) (s46.1)).bind fun r48 =>
  some (.inl ((s46.1) + 1, r48)))
noncomputable def Mo_layLand_l178 (s42 : Int32 × Mm) (s44 : Int32 × Mm) : Option ((Int32 × Mm) ⊕ Mm) :=
  if ((s44.2).1 0 0) ≤ (s44.1) then
 (some (.inr (s44.2)))
 else ((iter (Mo_layLand_l188 s42 s44) (0, s44.2)).bind fun e47 =>
  some (.inl ((s44.1) + 1, e47)))
noncomputable def Mo_layLand_l168  (s42 : Int32 × Mm) : Option ((Int32 × Mm) ⊕ Mm) :=
  if ((s42.2).1 0 0) ≤ (s42.1) then
 (some (.inr (s42.2)))
 else ((iter (Mo_layLand_l178 s42) (0, s42.2)).bind fun e45 =>
  some (.inl ((s42.1) + 1, e45)))
noncomputable def Mo_layLand (m : Mm) : Option (Mm) :=
  (iter (Mo_layLand_l2) (0, m)).bind fun e2 =>
  (iter (Mo_layLand_l49) (0, e2)).bind fun e10 =>
  (iter (Mo_layLand_l168) (0, e10)).bind fun e43 =>
  some e43
set_option maxRecDepth 20000 in
set_option maxHeartbeats 4000000 in
theorem Mo_layLand_ok {G : Gw} (hG : gOk G) (hs : gsh G = shM) {m : Mm} {P : Option Value → Mm → Prop} (h : mjO (Mo_layLand m) (fun r => P none r)) : mjR G 4 yX7_layLand cX7_layLand 4 none [.ref (gr G 0)] m P := by
  refine mjR_of hG (by decide) (Nat.le_of_ble_eq_true rfl) ?_
  intro X F
  have F : mjF G X cX7_layLand RX7 4 4 none := F
  show mjV G X 4 0 [(0, .ref (gr G 0))] [] m P
  unfold Mo_layLand at h
  refine vIconst F (v := 0) dX7_layLand_0 k_0 ?_
  refine vIstoreN F (L' := [(1, .int 0), (0, .ref (gr G 0))]) dX7_layLand_1 rfl (by decide) rfl ?_
  refine vSub [1, 0] rfl ?_
  refine okLoop (s0 := (0, m)) (T := (fun (s1 : Int32 × Mm) => mjV G X 4 2 [(0, .ref (gr G 0)), (1, .int (s1.1))] [] (s1.2) P)) (Ve := (fun (e2 : Mm) => mjV G X 4 47 [(0, .ref (gr G 0))] [] e2 P)) h ?_ (fun s1 h => ?_)
  · intro e2 h
    refine vIconst F (v := 0) dX7_layLand_47 k_0 ?_
    refine vIstoreN F (L' := [(1, .int 0), (0, .ref (gr G 0))]) dX7_layLand_48 rfl (by decide) rfl ?_
    refine vSub [1, 0] rfl ?_
    refine okLoop (s0 := (0, e2)) (T := (fun (s9 : Int32 × Mm) => mjV G X 4 49 [(0, .ref (gr G 0)), (1, .int (s9.1))] [] (s9.2) P)) (Ve := (fun (e10 : Mm) => mjV G X 4 166 [(0, .ref (gr G 0))] [] e10 P)) h ?_ (fun s9 h => ?_)
    · intro e10 h
      refine vIconst F (v := 0) dX7_layLand_166 k_0 ?_
      refine vIstoreN F (L' := [(1, .int 0), (0, .ref (gr G 0))]) dX7_layLand_167 rfl (by decide) rfl ?_
      refine vSub [1, 0] rfl ?_
      refine okLoop (s0 := (0, e10)) (T := (fun (s42 : Int32 × Mm) => mjV G X 4 168 [(0, .ref (gr G 0)), (1, .int (s42.1))] [] (s42.2) P)) (Ve := (fun (e43 : Mm) => mjV G X 4 221 [] [] e43 P)) h ?_ (fun s42 h => ?_)
      · intro e43 h
        have z := okS h
        exact vVret F dX7_layLand_221 z
      · unfold Mo_layLand_l168 at h
        refine vIloadN F dX7_layLand_168 (k := 1) rfl ?_
        refine vAloadN F dX7_layLand_169 (k := 0) rfl ?_
        refine vGetI F dX7_layLand_170 fa_X7_7 (cqM_0 hs) rfl ?_
        refine vIcmpGe F (tgt := 221) dX7_layLand_173 (by decide) (fun c53 => ?_) (fun c53 => ?_)
        · replace h := okT h c53
          refine vSub [] rfl ?_
          have z := okR h
          exact z
        · replace h := okF h c53
          refine vIconst F (v := 0) dX7_layLand_176 k_0 ?_
          refine vIstoreN F (L' := [(2, .int 0), (0, .ref (gr G 0)), (1, .int (s42.1))]) dX7_layLand_177 rfl (by decide) rfl ?_
          refine vSub [1, 2, 0] rfl ?_
          refine okLoop (s0 := (0, s42.2)) (T := (fun (s44 : Int32 × Mm) => mjV G X 4 178 [(0, .ref (gr G 0)), (1, .int (s42.1)), (2, .int (s44.1))] [] (s44.2) P)) (Ve := (fun (e45 : Mm) => mjV G X 4 215 [(0, .ref (gr G 0)), (1, .int (s42.1))] [] e45 P)) h ?_ (fun s44 h => ?_)
          · intro e45 h
            refine vIinc F (v := 1) (k := 1) (L' := [(1, .int ((s42.1) + 1)), (0, .ref (gr G 0))]) dX7_layLand_215 rfl k_1 (by decide) rfl ?_
            refine vGoto F (tgt := 168) dX7_layLand_218 (by decide) ?_
            refine vSub [1, 0] rfl ?_
            have z := okL h
            exact z
          · unfold Mo_layLand_l178 at h
            refine vIloadN F dX7_layLand_178 (k := 2) rfl ?_
            refine vAloadN F dX7_layLand_179 (k := 0) rfl ?_
            refine vGetI F dX7_layLand_180 fa_X7_7 (cqM_0 hs) rfl ?_
            refine vIcmpGe F (tgt := 215) dX7_layLand_183 (by decide) (fun c51 => ?_) (fun c51 => ?_)
            · replace h := okT h c51
              refine vSub [0, 1] rfl ?_
              have z := okR h
              exact z
            · replace h := okF h c51
              refine vIconst F (v := 0) dX7_layLand_186 k_0 ?_
              refine vIstoreN F (L' := [(3, .int 0), (0, .ref (gr G 0)), (1, .int (s42.1)), (2, .int (s44.1))]) dX7_layLand_187 rfl (by decide) rfl ?_
              refine vSub [1, 2, 3, 0] rfl ?_
              refine okLoop (s0 := (0, s44.2)) (T := (fun (s46 : Int32 × Mm) => mjV G X 4 188 [(0, .ref (gr G 0)), (1, .int (s42.1)), (2, .int (s44.1)), (3, .int (s46.1))] [] (s46.2) P)) (Ve := (fun (e47 : Mm) => mjV G X 4 209 [(0, .ref (gr G 0)), (1, .int (s42.1)), (2, .int (s44.1))] [] e47 P)) h ?_ (fun s46 h => ?_)
              · intro e47 h
                refine vIinc F (v := 1) (k := 2) (L' := [(2, .int ((s44.1) + 1)), (0, .ref (gr G 0)), (1, .int (s42.1))]) dX7_layLand_209 rfl k_1 (by decide) rfl ?_
                refine vGoto F (tgt := 178) dX7_layLand_212 (by decide) ?_
                refine vSub [1, 2, 0] rfl ?_
                have z := okL h
                exact z
              · unfold Mo_layLand_l188 at h
                refine vIloadN F dX7_layLand_188 (k := 3) rfl ?_
                refine vAloadN F dX7_layLand_189 (k := 0) rfl ?_
                refine vGetI F dX7_layLand_190 fa_X7_7 (cqM_0 hs) rfl ?_
                refine vIcmpGe F (tgt := 209) dX7_layLand_193 (by decide) (fun c49 => ?_) (fun c49 => ?_)
                · replace h := okT h c49
                  refine vSub [0, 1, 2] rfl ?_
                  have z := okR h
                  exact z
                · replace h := okF h c49
                  refine vAloadN F dX7_layLand_196 (k := 0) rfl ?_
                  refine vIloadN F dX7_layLand_197 (k := 2) rfl ?_
                  refine vIloadN F dX7_layLand_198 (k := 1) rfl ?_
                  refine vIloadN F dX7_layLand_199 (k := 3) rfl ?_
                  refine vCallV F (d' := 0) (x := 0) (T := TX7) (N := 61) (As := [.int (s44.1), .int (s42.1), .int (s46.1)]) (st := []) dX7_layLand_200 lk_X7_287 my_X7_shorten mv_X7_shorten (cqM_0 hs) rfl (by decide) rfl rfl (Nat.le_of_ble_eq_true rfl) (Mo_shorten_ok hG hs (okB h fun r48 h => ?_))
                  show mjV G X 4 203 [(0, .ref (gr G 0)), (1, .int (s42.1)), (2, .int (s44.1)), (3, .int (s46.1))] [] r48 P
                  refine vIinc F (v := 1) (k := 3) (L' := [(3, .int ((s46.1) + 1)), (0, .ref (gr G 0)), (1, .int (s42.1)), (2, .int (s44.1))]) dX7_layLand_203 rfl k_1 (by decide) rfl ?_
                  refine vGoto F (tgt := 188) dX7_layLand_206 (by decide) ?_
                  refine vSub [1, 2, 3, 0] rfl ?_
                  have z := okL h
                  exact z
    · unfold Mo_layLand_l49 at h
      refine vIloadN F dX7_layLand_49 (k := 1) rfl ?_
      refine vAloadN F dX7_layLand_50 (k := 0) rfl ?_
      refine vGetI F dX7_layLand_51 fa_X7_7 (cqM_0 hs) rfl ?_
      refine vIcmpGe F (tgt := 166) dX7_layLand_54 (by decide) (fun c41 => ?_) (fun c41 => ?_)
      · replace h := okT h c41
        refine vSub [0] rfl ?_
        have z := okR h
        exact z
      · replace h := okF h c41
        refine vIconst F (v := 0) dX7_layLand_57 k_0 ?_
        refine vIstoreN F (L' := [(2, .int 0), (0, .ref (gr G 0)), (1, .int (s9.1))]) dX7_layLand_58 rfl (by decide) rfl ?_
        refine vSub [1, 2, 0] rfl ?_
        refine okLoop (s0 := (0, s9.2)) (T := (fun (s11 : Int32 × Mm) => mjV G X 4 59 [(0, .ref (gr G 0)), (1, .int (s9.1)), (2, .int (s11.1))] [] (s11.2) P)) (Ve := (fun (e12 : Mm) => mjV G X 4 160 [(0, .ref (gr G 0)), (1, .int (s9.1))] [] e12 P)) h ?_ (fun s11 h => ?_)
        · intro e12 h
          refine vIinc F (v := 1) (k := 1) (L' := [(1, .int ((s9.1) + 1)), (0, .ref (gr G 0))]) dX7_layLand_160 rfl k_1 (by decide) rfl ?_
          refine vGoto F (tgt := 49) dX7_layLand_163 (by decide) ?_
          refine vSub [1, 0] rfl ?_
          have z := okL h
          exact z
        · unfold Mo_layLand_l59 at h
          refine vIloadN F dX7_layLand_59 (k := 2) rfl ?_
          refine vAloadN F dX7_layLand_60 (k := 0) rfl ?_
          refine vGetI F dX7_layLand_61 fa_X7_7 (cqM_0 hs) rfl ?_
          refine vIcmpGe F (tgt := 160) dX7_layLand_64 (by decide) (fun c39 => ?_) (fun c39 => ?_)
          · replace h := okT h c39
            refine vSub [0, 1] rfl ?_
            have z := okR h
            exact z
          · replace h := okF h c39
            refine vAloadN F dX7_layLand_67 (k := 0) rfl ?_
            refine vGetR F (t := 5) dX7_layLand_68 fa_X7_29 (cqM_0 hs) rfl ?_
            refine vBipush F (v := 7) dX7_layLand_71 kb_7 ?_
            refine vIloadN F dX7_layLand_73 (k := 1) rfl ?_
            refine vImul F dX7_layLand_74 ?_
            refine vIloadN F dX7_layLand_75 (k := 2) rfl ?_
            refine vIadd F dX7_layLand_76 ?_
            obtain ⟨g13, h⟩ := okga h
            refine vIald F dX7_layLand_77 (cqM_5 hs) g13 ?_
            refine vIstoreN F (L' := [(3, .int ((s11.2).1 5 ((7 * (s9.1)) + (s11.1)).toNatClampNeg)), (0, .ref (gr G 0)), (1, .int (s9.1)), (2, .int (s11.1))]) dX7_layLand_78 rfl (by decide) rfl ?_
            refine vAloadN F dX7_layLand_79 (k := 1) rfl ?_
            refine vGetR F (t := 19) dX7_layLand_80 fa_X7_96 (cqM_0 hs) rfl ?_
            refine vBipush F (v := 7) dX7_layLand_83 kb_7 ?_
            refine vIloadN F dX7_layLand_85 (k := 2) rfl ?_
            refine vImul F dX7_layLand_86 ?_
            refine vIloadN F dX7_layLand_87 (k := 3) rfl ?_
            refine vIadd F dX7_layLand_88 ?_
            refine vIloadN F dX7_layLand_89 (k := 0) rfl ?_
            refine vIfNe F (tgt := 97) dX7_layLand_90 (by decide) (fun c38 => ?_) (fun c38 => ?_)
            · replace h := okF h c38
              refine vIloadN F dX7_layLand_97 (k := 0) rfl ?_
              refine vAloadN F dX7_layLand_98 (k := 1) rfl ?_
              refine vGetR F (t := 22) dX7_layLand_99 fa_X7_105 (cqM_0 hs) rfl ?_
              refine vIloadN F dX7_layLand_102 (k := 2) rfl ?_
              refine vIloadN F dX7_layLand_103 (k := 3) rfl ?_
              refine vIcmpGe F (tgt := 111) dX7_layLand_104 (by decide) (fun c30 => ?_) (fun c30 => ?_)
              · replace h := okT h c30
                refine vIloadN F dX7_layLand_111 (k := 3) rfl ?_
                obtain ⟨g14, h⟩ := okga h
                refine vIald F dX7_layLand_112 (cqM_22 hs) g14 ?_
                refine vIadd F dX7_layLand_113 ?_
                obtain ⟨g15, h⟩ := okga h
                refine vIast F dX7_layLand_114 (cqM_19 hs) g15 ?_
                refine vAloadN F dX7_layLand_115 (k := 1) rfl ?_
                refine vGetR F (t := 20) dX7_layLand_116 fa_X7_99 (cqM_0 hs) rfl ?_
                refine vBipush F (v := 7) dX7_layLand_119 kb_7 ?_
                refine vIloadN F dX7_layLand_121 (k := 2) rfl ?_
                refine vImul F dX7_layLand_122 ?_
                refine vIloadN F dX7_layLand_123 (k := 3) rfl ?_
                refine vIadd F dX7_layLand_124 ?_
                refine vIloadN F dX7_layLand_125 (k := 2) rfl ?_
                refine vIloadN F dX7_layLand_126 (k := 3) rfl ?_
                refine vIcmpNe F (tgt := 134) dX7_layLand_127 (by decide) (fun c21 => ?_) (fun c21 => ?_)
                · replace h := okF h c21
                  refine vIloadN F dX7_layLand_134 (k := 0) rfl ?_
                  refine vIfNe F (tgt := 142) dX7_layLand_135 (by decide) (fun c19 => ?_) (fun c19 => ?_)
                  · replace h := okF h c19
                    refine vAloadN F dX7_layLand_142 (k := 1) rfl ?_
                    refine vGetR F (t := 19) dX7_layLand_143 fa_X7_96 (cqM_0 hs) rfl ?_
                    refine vBipush F (v := 7) dX7_layLand_146 kb_7 ?_
                    refine vIloadN F dX7_layLand_148 (k := 2) rfl ?_
                    refine vImul F dX7_layLand_149 ?_
                    refine vIloadN F dX7_layLand_150 (k := 3) rfl ?_
                    refine vIadd F dX7_layLand_151 ?_
                    obtain ⟨g16, h⟩ := okga h
                    refine vIald F dX7_layLand_152 (cqM_19 hs) g16 ?_
                    obtain ⟨g17, h⟩ := okga h
                    refine vIast F dX7_layLand_153 (cqM_20 hs) g17 ?_
                    refine vIinc F (v := 1) (k := 3) (L' := [(2, .int ((s11.1) + 1)), (3, .int ((s11.2).1 5 ((7 * (s9.1)) + (s11.1)).toNatClampNeg)), (0, .ref (gr G 0)), (1, .int (s9.1))]) dX7_layLand_154 rfl k_1 (by decide) rfl ?_
                    refine vGoto F (tgt := 59) dX7_layLand_157 (by decide) ?_
                    refine vSub [2, 3, 0] rfl ?_
                    have z := okL h
                    exact z
                  · replace h := okT h c19
                    refine vIconst F (v := (-1)) dX7_layLand_138 k_m1 ?_
                    refine vGoto F (tgt := 153) dX7_layLand_139 (by decide) ?_
                    obtain ⟨g18, h⟩ := okga h
                    refine vIast F dX7_layLand_153 (cqM_20 hs) g18 ?_
                    refine vIinc F (v := 1) (k := 3) (L' := [(2, .int ((s11.1) + 1)), (3, .int ((s11.2).1 5 ((7 * (s9.1)) + (s11.1)).toNatClampNeg)), (0, .ref (gr G 0)), (1, .int (s9.1))]) dX7_layLand_154 rfl k_1 (by decide) rfl ?_
                    refine vGoto F (tgt := 59) dX7_layLand_157 (by decide) ?_
                    refine vSub [2, 3, 0] rfl ?_
                    have z := okL h
                    exact z
                · replace h := okT h c21
                  refine vIconst F (v := 0) dX7_layLand_130 k_0 ?_
                  refine vGoto F (tgt := 153) dX7_layLand_131 (by decide) ?_
                  obtain ⟨g20, h⟩ := okga h
                  refine vIast F dX7_layLand_153 (cqM_20 hs) g20 ?_
                  refine vIinc F (v := 1) (k := 3) (L' := [(2, .int ((s11.1) + 1)), (3, .int ((s11.2).1 5 ((7 * (s9.1)) + (s11.1)).toNatClampNeg)), (0, .ref (gr G 0)), (1, .int (s9.1))]) dX7_layLand_154 rfl k_1 (by decide) rfl ?_
                  refine vGoto F (tgt := 59) dX7_layLand_157 (by decide) ?_
                  refine vSub [2, 3, 0] rfl ?_
                  have z := okL h
                  exact z
              · replace h := okF h c30
                refine vIloadN F dX7_layLand_107 (k := 2) rfl ?_
                refine vGoto F (tgt := 112) dX7_layLand_108 (by decide) ?_
                obtain ⟨g22, h⟩ := okga h
                refine vIald F dX7_layLand_112 (cqM_22 hs) g22 ?_
                refine vIadd F dX7_layLand_113 ?_
                obtain ⟨g23, h⟩ := okga h
                refine vIast F dX7_layLand_114 (cqM_19 hs) g23 ?_
                refine vAloadN F dX7_layLand_115 (k := 1) rfl ?_
                refine vGetR F (t := 20) dX7_layLand_116 fa_X7_99 (cqM_0 hs) rfl ?_
                refine vBipush F (v := 7) dX7_layLand_119 kb_7 ?_
                refine vIloadN F dX7_layLand_121 (k := 2) rfl ?_
                refine vImul F dX7_layLand_122 ?_
                refine vIloadN F dX7_layLand_123 (k := 3) rfl ?_
                refine vIadd F dX7_layLand_124 ?_
                refine vIloadN F dX7_layLand_125 (k := 2) rfl ?_
                refine vIloadN F dX7_layLand_126 (k := 3) rfl ?_
                refine vIcmpNe F (tgt := 134) dX7_layLand_127 (by decide) (fun c29 => ?_) (fun c29 => ?_)
                · replace h := okF h c29
                  refine vIloadN F dX7_layLand_134 (k := 0) rfl ?_
                  refine vIfNe F (tgt := 142) dX7_layLand_135 (by decide) (fun c27 => ?_) (fun c27 => ?_)
                  · replace h := okF h c27
                    refine vAloadN F dX7_layLand_142 (k := 1) rfl ?_
                    refine vGetR F (t := 19) dX7_layLand_143 fa_X7_96 (cqM_0 hs) rfl ?_
                    refine vBipush F (v := 7) dX7_layLand_146 kb_7 ?_
                    refine vIloadN F dX7_layLand_148 (k := 2) rfl ?_
                    refine vImul F dX7_layLand_149 ?_
                    refine vIloadN F dX7_layLand_150 (k := 3) rfl ?_
                    refine vIadd F dX7_layLand_151 ?_
                    obtain ⟨g24, h⟩ := okga h
                    refine vIald F dX7_layLand_152 (cqM_19 hs) g24 ?_
                    obtain ⟨g25, h⟩ := okga h
                    refine vIast F dX7_layLand_153 (cqM_20 hs) g25 ?_
                    refine vIinc F (v := 1) (k := 3) (L' := [(2, .int ((s11.1) + 1)), (3, .int ((s11.2).1 5 ((7 * (s9.1)) + (s11.1)).toNatClampNeg)), (0, .ref (gr G 0)), (1, .int (s9.1))]) dX7_layLand_154 rfl k_1 (by decide) rfl ?_
                    refine vGoto F (tgt := 59) dX7_layLand_157 (by decide) ?_
                    refine vSub [2, 3, 0] rfl ?_
                    have z := okL h
                    exact z
                  · replace h := okT h c27
                    refine vIconst F (v := (-1)) dX7_layLand_138 k_m1 ?_
                    refine vGoto F (tgt := 153) dX7_layLand_139 (by decide) ?_
                    obtain ⟨g26, h⟩ := okga h
                    refine vIast F dX7_layLand_153 (cqM_20 hs) g26 ?_
                    refine vIinc F (v := 1) (k := 3) (L' := [(2, .int ((s11.1) + 1)), (3, .int ((s11.2).1 5 ((7 * (s9.1)) + (s11.1)).toNatClampNeg)), (0, .ref (gr G 0)), (1, .int (s9.1))]) dX7_layLand_154 rfl k_1 (by decide) rfl ?_
                    refine vGoto F (tgt := 59) dX7_layLand_157 (by decide) ?_
                    refine vSub [2, 3, 0] rfl ?_
                    have z := okL h
                    exact z
                · replace h := okT h c29
                  refine vIconst F (v := 0) dX7_layLand_130 k_0 ?_
                  refine vGoto F (tgt := 153) dX7_layLand_131 (by decide) ?_
                  obtain ⟨g28, h⟩ := okga h
                  refine vIast F dX7_layLand_153 (cqM_20 hs) g28 ?_
                  refine vIinc F (v := 1) (k := 3) (L' := [(2, .int ((s11.1) + 1)), (3, .int ((s11.2).1 5 ((7 * (s9.1)) + (s11.1)).toNatClampNeg)), (0, .ref (gr G 0)), (1, .int (s9.1))]) dX7_layLand_154 rfl k_1 (by decide) rfl ?_
                  refine vGoto F (tgt := 59) dX7_layLand_157 (by decide) ?_
                  refine vSub [2, 3, 0] rfl ?_
                  have z := okL h
                  exact z
            · replace h := okT h c38
              refine vIconst F (v := 0) dX7_layLand_93 k_0 ?_
              refine vGoto F (tgt := 114) dX7_layLand_94 (by decide) ?_
              obtain ⟨g31, h⟩ := okga h
              refine vIast F dX7_layLand_114 (cqM_19 hs) g31 ?_
              refine vAloadN F dX7_layLand_115 (k := 1) rfl ?_
              refine vGetR F (t := 20) dX7_layLand_116 fa_X7_99 (cqM_0 hs) rfl ?_
              refine vBipush F (v := 7) dX7_layLand_119 kb_7 ?_
              refine vIloadN F dX7_layLand_121 (k := 2) rfl ?_
              refine vImul F dX7_layLand_122 ?_
              refine vIloadN F dX7_layLand_123 (k := 3) rfl ?_
              refine vIadd F dX7_layLand_124 ?_
              refine vIloadN F dX7_layLand_125 (k := 2) rfl ?_
              refine vIloadN F dX7_layLand_126 (k := 3) rfl ?_
              refine vIcmpNe F (tgt := 134) dX7_layLand_127 (by decide) (fun c37 => ?_) (fun c37 => ?_)
              · replace h := okF h c37
                refine vIloadN F dX7_layLand_134 (k := 0) rfl ?_
                refine vIfNe F (tgt := 142) dX7_layLand_135 (by decide) (fun c35 => ?_) (fun c35 => ?_)
                · replace h := okF h c35
                  refine vAloadN F dX7_layLand_142 (k := 1) rfl ?_
                  refine vGetR F (t := 19) dX7_layLand_143 fa_X7_96 (cqM_0 hs) rfl ?_
                  refine vBipush F (v := 7) dX7_layLand_146 kb_7 ?_
                  refine vIloadN F dX7_layLand_148 (k := 2) rfl ?_
                  refine vImul F dX7_layLand_149 ?_
                  refine vIloadN F dX7_layLand_150 (k := 3) rfl ?_
                  refine vIadd F dX7_layLand_151 ?_
                  obtain ⟨g32, h⟩ := okga h
                  refine vIald F dX7_layLand_152 (cqM_19 hs) g32 ?_
                  obtain ⟨g33, h⟩ := okga h
                  refine vIast F dX7_layLand_153 (cqM_20 hs) g33 ?_
                  refine vIinc F (v := 1) (k := 3) (L' := [(2, .int ((s11.1) + 1)), (3, .int ((s11.2).1 5 ((7 * (s9.1)) + (s11.1)).toNatClampNeg)), (0, .ref (gr G 0)), (1, .int (s9.1))]) dX7_layLand_154 rfl k_1 (by decide) rfl ?_
                  refine vGoto F (tgt := 59) dX7_layLand_157 (by decide) ?_
                  refine vSub [2, 3, 0] rfl ?_
                  have z := okL h
                  exact z
                · replace h := okT h c35
                  refine vIconst F (v := (-1)) dX7_layLand_138 k_m1 ?_
                  refine vGoto F (tgt := 153) dX7_layLand_139 (by decide) ?_
                  obtain ⟨g34, h⟩ := okga h
                  refine vIast F dX7_layLand_153 (cqM_20 hs) g34 ?_
                  refine vIinc F (v := 1) (k := 3) (L' := [(2, .int ((s11.1) + 1)), (3, .int ((s11.2).1 5 ((7 * (s9.1)) + (s11.1)).toNatClampNeg)), (0, .ref (gr G 0)), (1, .int (s9.1))]) dX7_layLand_154 rfl k_1 (by decide) rfl ?_
                  refine vGoto F (tgt := 59) dX7_layLand_157 (by decide) ?_
                  refine vSub [2, 3, 0] rfl ?_
                  have z := okL h
                  exact z
              · replace h := okT h c37
                refine vIconst F (v := 0) dX7_layLand_130 k_0 ?_
                refine vGoto F (tgt := 153) dX7_layLand_131 (by decide) ?_
                obtain ⟨g36, h⟩ := okga h
                refine vIast F dX7_layLand_153 (cqM_20 hs) g36 ?_
                refine vIinc F (v := 1) (k := 3) (L' := [(2, .int ((s11.1) + 1)), (3, .int ((s11.2).1 5 ((7 * (s9.1)) + (s11.1)).toNatClampNeg)), (0, .ref (gr G 0)), (1, .int (s9.1))]) dX7_layLand_154 rfl k_1 (by decide) rfl ?_
                refine vGoto F (tgt := 59) dX7_layLand_157 (by decide) ?_
                refine vSub [2, 3, 0] rfl ?_
                have z := okL h
                exact z
  · unfold Mo_layLand_l2 at h
    refine vIloadN F dX7_layLand_2 (k := 1) rfl ?_
    refine vAloadN F dX7_layLand_3 (k := 0) rfl ?_
    refine vGetI F dX7_layLand_4 fa_X7_7 (cqM_0 hs) rfl ?_
    refine vIcmpGe F (tgt := 47) dX7_layLand_7 (by decide) (fun c8 => ?_) (fun c8 => ?_)
    · replace h := okT h c8
      refine vSub [0] rfl ?_
      have z := okR h
      exact z
    · replace h := okF h c8
      refine vAloadN F dX7_layLand_10 (k := 0) rfl ?_
      refine vGetR F (t := 21) dX7_layLand_11 fa_X7_102 (cqM_0 hs) rfl ?_
      refine vIloadN F dX7_layLand_14 (k := 1) rfl ?_
      refine vAloadN F dX7_layLand_15 (k := 0) rfl ?_
      refine vGetR F (t := 3) dX7_layLand_16 fa_X7_23 (cqM_0 hs) rfl ?_
      refine vIloadN F dX7_layLand_19 (k := 1) rfl ?_
      obtain ⟨g3, h⟩ := okga h
      refine vIald F dX7_layLand_20 (cqM_3 hs) g3 ?_
      refine vAloadN F dX7_layLand_21 (k := 0) rfl ?_
      refine vIconst F (v := 0) dX7_layLand_22 k_0 ?_
      refine vIloadN F dX7_layLand_23 (k := 1) rfl ?_
      refine vCallV F (d' := 3) (x := 0) (T := TX7) (N := 61) (As := [.int 0, .int (s1.1)]) (st := [.int ((s1.2).1 3 (s1.1).toNatClampNeg), .int (s1.1), .ref (gr G 21)]) dX7_layLand_24 lk_X7_284 my_X7_sumOf mv_X7_sumOf (cqM_0 hs) rfl (by decide) rfl rfl (Nat.le_of_ble_eq_true rfl) (Mo_sumOf_ok hG hs (okB h fun r4 h => ?_))
      show mjV G X 4 27 [(0, .ref (gr G 0)), (1, .int (s1.1))] [.int (r4.1), .int ((s1.2).1 3 (s1.1).toNatClampNeg), .int (s1.1), .ref (gr G 21)] (r4.2) P
      refine vIadd F dX7_layLand_27 ?_
      obtain ⟨g5, h⟩ := okga h
      refine vIast F dX7_layLand_28 (cqM_21 hs) g5 ?_
      refine vAloadN F dX7_layLand_29 (k := 0) rfl ?_
      refine vGetR F (t := 22) dX7_layLand_30 fa_X7_105 (cqM_0 hs) rfl ?_
      refine vIloadN F dX7_layLand_33 (k := 1) rfl ?_
      refine vAloadN F dX7_layLand_34 (k := 0) rfl ?_
      refine vIconst F (v := 1) dX7_layLand_35 k_1 ?_
      refine vIloadN F dX7_layLand_36 (k := 1) rfl ?_
      refine vCallV F (d' := 3) (x := 0) (T := TX7) (N := 61) (As := [.int 1, .int (s1.1)]) (st := [.int (s1.1), .ref (gr G 22)]) dX7_layLand_37 lk_X7_284 my_X7_sumOf mv_X7_sumOf (cqM_0 hs) rfl (by decide) rfl rfl (Nat.le_of_ble_eq_true rfl) (Mo_sumOf_ok hG hs (okB h fun r6 h => ?_))
      show mjV G X 4 40 [(0, .ref (gr G 0)), (1, .int (s1.1))] [.int (r6.1), .int (s1.1), .ref (gr G 22)] (r6.2) P
      obtain ⟨g7, h⟩ := okga h
      refine vIast F dX7_layLand_40 (cqM_22 hs) g7 ?_
      refine vIinc F (v := 1) (k := 1) (L' := [(1, .int ((s1.1) + 1)), (0, .ref (gr G 0))]) dX7_layLand_41 rfl k_1 (by decide) rfl ?_
      refine vGoto F (tgt := 2) dX7_layLand_44 (by decide) ?_
      refine vSub [1, 0] rfl ?_
      have z := okL h
      exact z
noncomputable def Mo_of (m : Mm) (a1 : Int32) (a2 : Int32) : Option (Int32 × Mm) :=
  if (Mo_isPlace m a1) = true then
 (if a2 = 0 then
 (ga a1 7 (some (m.1 1 a1.toNatClampNeg, m)))
 else (if a2 = 1 then
 (ga a1 7 (some (m.1 2 a1.toNatClampNeg, m)))
 else (if a2 = 2 then
 (ga a1 7 (some (m.1 3 a1.toNatClampNeg, m)))
 else (if a2 = 3 then
 (ga a1 7 ((Mo_sumOf m 0 a1).bind fun r9 =>
  some ((m.1 3 a1.toNatClampNeg) + (r9.1), r9.2)))
 else (if a2 = 4 then
 (ga a1 7 (some (m.1 4 a1.toNatClampNeg, m)))
 else (if a2 = 5 then
 ((Mo_roadsOf m a1).bind fun r13 =>
  some (r13, m))
 else (some ((-1), m))))))))
 else (some ((-1), m))
set_option maxRecDepth 20000 in
set_option maxHeartbeats 4000000 in
theorem Mo_of_ok {G : Gw} (hG : gOk G) (hs : gsh G = shM) {a1 : Int32} {a2 : Int32} {m : Mm} {P : Option Value → Mm → Prop} (h : mjO (Mo_of m a1 a2) (fun r => P (some (.int r.1)) r.2)) : mjR G 4 yX7_of cX7_of 3 (some .int) [.ref (gr G 0), .int a1, .int a2] m P := by
  refine mjR_of hG (by decide) (Nat.le_of_ble_eq_true rfl) ?_
  intro X F
  have F : mjF G X cX7_of RX7 3 4 (some .int) := F
  show mjV G X 3 0 [(0, .ref (gr G 0)), (1, .int a1), (2, .int a2)] [] m P
  unfold Mo_of at h
  refine vAloadN F dX7_of_0 (k := 0) rfl ?_
  refine vIloadN F dX7_of_1 (k := 1) rfl ?_
  refine vCallV F (d' := 1) (x := 0) (T := TX7) (N := 61) (As := [.int a1]) (st := []) dX7_of_2 lk_X7_201 my_X7_isPlace mv_X7_isPlace (cqM_0 hs) rfl (by decide) rfl rfl (Nat.le_of_ble_eq_true rfl) (Mo_isPlace_ok hG hs ?_)
  show mjV G X 3 5 [(0, .ref (gr G 0)), (1, .int a1), (2, .int a2)] [.int (bI (Mo_isPlace m a1))] m P
  refine vIfNeB F (tgt := 10) dX7_of_5 (by decide) (fun c14 => ?_) (fun c14 => ?_)
  · replace h := okT h c14
    refine vIloadN F dX7_of_10 (k := 2) rfl ?_
    by_cases c1 : a2 = 0
    · replace h := okT h c1
      refine vTabIn F (tgt := 48) dX7_of_11 c1 (by decide) (by decide) rfl (by decide) ?_
      refine vAloadN F dX7_of_48 (k := 0) rfl ?_
      refine vGetR F (t := 1) dX7_of_49 fa_X7_16 (cqM_0 hs) rfl ?_
      refine vIloadN F dX7_of_52 (k := 1) rfl ?_
      obtain ⟨g2, h⟩ := okga h
      refine vIald F dX7_of_53 (cqM_1 hs) g2 ?_
      have z := okS h
      exact vIret F dX7_of_54 z
    replace h := okF h c1
    by_cases c3 : a2 = 1
    · replace h := okT h c3
      refine vTabIn F (tgt := 55) dX7_of_11 c3 (by decide) (by decide) rfl (by decide) ?_
      refine vAloadN F dX7_of_55 (k := 0) rfl ?_
      refine vGetR F (t := 2) dX7_of_56 fa_X7_20 (cqM_0 hs) rfl ?_
      refine vIloadN F dX7_of_59 (k := 1) rfl ?_
      obtain ⟨g4, h⟩ := okga h
      refine vIald F dX7_of_60 (cqM_2 hs) g4 ?_
      have z := okS h
      exact vIret F dX7_of_61 z
    replace h := okF h c3
    by_cases c5 : a2 = 2
    · replace h := okT h c5
      refine vTabIn F (tgt := 62) dX7_of_11 c5 (by decide) (by decide) rfl (by decide) ?_
      refine vAloadN F dX7_of_62 (k := 0) rfl ?_
      refine vGetR F (t := 3) dX7_of_63 fa_X7_23 (cqM_0 hs) rfl ?_
      refine vIloadN F dX7_of_66 (k := 1) rfl ?_
      obtain ⟨g6, h⟩ := okga h
      refine vIald F dX7_of_67 (cqM_3 hs) g6 ?_
      have z := okS h
      exact vIret F dX7_of_68 z
    replace h := okF h c5
    by_cases c7 : a2 = 3
    · replace h := okT h c7
      refine vTabIn F (tgt := 69) dX7_of_11 c7 (by decide) (by decide) rfl (by decide) ?_
      refine vAloadN F dX7_of_69 (k := 0) rfl ?_
      refine vGetR F (t := 3) dX7_of_70 fa_X7_23 (cqM_0 hs) rfl ?_
      refine vIloadN F dX7_of_73 (k := 1) rfl ?_
      obtain ⟨g8, h⟩ := okga h
      refine vIald F dX7_of_74 (cqM_3 hs) g8 ?_
      refine vAloadN F dX7_of_75 (k := 0) rfl ?_
      refine vIconst F (v := 0) dX7_of_76 k_0 ?_
      refine vIloadN F dX7_of_77 (k := 1) rfl ?_
      refine vCallV F (d' := 3) (x := 0) (T := TX7) (N := 61) (As := [.int 0, .int a1]) (st := [.int (m.1 3 a1.toNatClampNeg)]) dX7_of_78 lk_X7_284 my_X7_sumOf mv_X7_sumOf (cqM_0 hs) rfl (by decide) rfl rfl (Nat.le_of_ble_eq_true rfl) (Mo_sumOf_ok hG hs (okB h fun r9 h => ?_))
      show mjV G X 3 81 [(0, .ref (gr G 0)), (1, .int a1), (2, .int a2)] [.int (r9.1), .int (m.1 3 a1.toNatClampNeg)] (r9.2) P
      refine vIadd F dX7_of_81 ?_
      have z := okS h
      exact vIret F dX7_of_82 z
    replace h := okF h c7
    by_cases c10 : a2 = 4
    · replace h := okT h c10
      refine vTabIn F (tgt := 83) dX7_of_11 c10 (by decide) (by decide) rfl (by decide) ?_
      refine vAloadN F dX7_of_83 (k := 0) rfl ?_
      refine vGetR F (t := 4) dX7_of_84 fa_X7_26 (cqM_0 hs) rfl ?_
      refine vIloadN F dX7_of_87 (k := 1) rfl ?_
      obtain ⟨g11, h⟩ := okga h
      refine vIald F dX7_of_88 (cqM_4 hs) g11 ?_
      have z := okS h
      exact vIret F dX7_of_89 z
    replace h := okF h c10
    by_cases c12 : a2 = 5
    · replace h := okT h c12
      refine vTabIn F (tgt := 90) dX7_of_11 c12 (by decide) (by decide) rfl (by decide) ?_
      refine vAloadN F dX7_of_90 (k := 0) rfl ?_
      refine vIloadN F dX7_of_91 (k := 1) rfl ?_
      refine vCallV F (d' := 0) (x := 0) (T := TX7) (N := 61) (As := [.int a1]) (st := []) dX7_of_92 lk_X7_274 my_X7_roadsOf mv_X7_roadsOf (cqM_0 hs) rfl (by decide) rfl rfl (Nat.le_of_ble_eq_true rfl) (Mo_roadsOf_ok hG hs (okB h fun r13 h => ?_))
      show mjV G X 3 95 [(0, .ref (gr G 0)), (1, .int a1), (2, .int a2)] [.int r13] m P
      have z := okS h
      exact vIret F dX7_of_95 z
    replace h := okF h c12
    replace c1 := lv_neT c1 (a := 0) (by decide)
    replace c3 := lv_neT c3 (a := 1) (by decide)
    replace c5 := lv_neT c5 (a := 2) (by decide)
    replace c7 := lv_neT c7 (a := 3) (by decide)
    replace c10 := lv_neT c10 (a := 4) (by decide)
    replace c12 := lv_neT c12 (a := 5) (by decide)
    refine vTabOut F (tgt := 96) dX7_of_11 (by omega) (by decide) ?_
    refine vIconst F (v := (-1)) dX7_of_96 k_m1 ?_
    have z := okS h
    exact vIret F dX7_of_97 z
  · replace h := okF h c14
    refine vIconst F (v := (-1)) dX7_of_8 k_m1 ?_
    have z := okS h
    exact vIret F dX7_of_9 z
noncomputable def Mo_namesNow_l4 (m : Mm) (s1 : Int32 × Int32) : Option ((Int32 × Int32) ⊕ Int32) :=
  if (m.1 0 0) ≤ (s1.2) then
 (some (.inr (s1.1)))
 else (ga (s1.2) 7 ((Mo_ones (m.1 4 (s1.2).toNatClampNeg)).bind fun r4 =>
  some (.inl ((s1.1) + r4, (s1.2) + 1))))
noncomputable def Mo_namesNow (m : Mm) : Option (Int32) :=
  (iter (Mo_namesNow_l4 m) (0, 0)).bind fun e2 =>
  some (e2 / 2)
set_option maxRecDepth 20000 in
set_option maxHeartbeats 4000000 in
theorem Mo_namesNow_ok {G : Gw} (hG : gOk G) (hs : gsh G = shM) {m : Mm} {P : Option Value → Mm → Prop} (h : mjO (Mo_namesNow m) (fun r => P (some (.int r)) m)) : mjR G 1 yX7_namesNow cX7_namesNow 3 (some .int) [.ref (gr G 0)] m P := by
  refine mjR_of hG (by decide) (Nat.le_of_ble_eq_true rfl) ?_
  intro X F
  have F : mjF G X cX7_namesNow RX7 3 1 (some .int) := F
  show mjV G X 3 0 [(0, .ref (gr G 0))] [] m P
  unfold Mo_namesNow at h
  refine vIconst F (v := 0) dX7_namesNow_0 k_0 ?_
  refine vIstoreN F (L' := [(1, .int 0), (0, .ref (gr G 0))]) dX7_namesNow_1 rfl (by decide) rfl ?_
  refine vIconst F (v := 0) dX7_namesNow_2 k_0 ?_
  refine vIstoreN F (L' := [(2, .int 0), (1, .int 0), (0, .ref (gr G 0))]) dX7_namesNow_3 rfl (by decide) rfl ?_
  refine vSub [2, 1, 0] rfl ?_
  refine okLoop (s0 := (0, 0)) (T := (fun (s1 : Int32 × Int32) => mjV G X 3 4 [(0, .ref (gr G 0)), (1, .int (s1.1)), (2, .int (s1.2))] [] m P)) (Ve := (fun (e2 : Int32) => mjV G X 3 31 [(1, .int e2)] [] m P)) h ?_ (fun s1 h => ?_)
  · intro e2 h
    refine vIloadN F dX7_namesNow_31 (k := 0) rfl ?_
    refine vIconst F (v := 2) dX7_namesNow_32 k_2 ?_
    refine vIdiv F dX7_namesNow_33 (by decide) ?_
    have z := okS h
    exact vIret F dX7_namesNow_34 z
  · unfold Mo_namesNow_l4 at h
    refine vIloadN F dX7_namesNow_4 (k := 2) rfl ?_
    refine vAloadN F dX7_namesNow_5 (k := 0) rfl ?_
    refine vGetI F dX7_namesNow_6 fa_X7_7 (cqM_0 hs) rfl ?_
    refine vIcmpGe F (tgt := 31) dX7_namesNow_9 (by decide) (fun c5 => ?_) (fun c5 => ?_)
    · replace h := okT h c5
      refine vSub [1] rfl ?_
      have z := okR h
      exact z
    · replace h := okF h c5
      refine vIloadN F dX7_namesNow_12 (k := 1) rfl ?_
      refine vAloadN F dX7_namesNow_13 (k := 0) rfl ?_
      refine vAloadN F dX7_namesNow_14 (k := 0) rfl ?_
      refine vGetR F (t := 4) dX7_namesNow_15 fa_X7_26 (cqM_0 hs) rfl ?_
      refine vIloadN F dX7_namesNow_18 (k := 2) rfl ?_
      obtain ⟨g3, h⟩ := okga h
      refine vIald F dX7_namesNow_19 (cqM_4 hs) g3 ?_
      refine vCallV F (d' := 0) (x := 0) (T := TX7) (N := 61) (As := [.int (m.1 4 (s1.2).toNatClampNeg)]) (st := [.int (s1.1)]) dX7_namesNow_20 lk_X7_212 my_X7_ones mv_X7_ones (cqM_0 hs) rfl (by decide) rfl rfl (Nat.le_of_ble_eq_true rfl) (Mo_ones_ok hG hs (okB h fun r4 h => ?_))
      show mjV G X 3 23 [(0, .ref (gr G 0)), (1, .int (s1.1)), (2, .int (s1.2))] [.int r4, .int (s1.1)] m P
      refine vIadd F dX7_namesNow_23 ?_
      refine vIstoreN F (L' := [(1, .int ((s1.1) + r4)), (0, .ref (gr G 0)), (2, .int (s1.2))]) dX7_namesNow_24 rfl (by decide) rfl ?_
      refine vIinc F (v := 1) (k := 2) (L' := [(2, .int ((s1.2) + 1)), (1, .int ((s1.1) + r4)), (0, .ref (gr G 0))]) dX7_namesNow_25 rfl k_1 (by decide) rfl ?_
      refine vGoto F (tgt := 4) dX7_namesNow_28 (by decide) ?_
      refine vSub [2, 1, 0] rfl ?_
      have z := okL h
      exact z
noncomputable def Mo_told (m : Mm) (a1 : Int32) : Option (Int32) :=
  if a1 = 0 then
 ((Mo_armsNow m).bind fun r3 =>
  some r3)
 else (if a1 = 1 then
 ((Mo_namesNow m).bind fun r1 =>
  some r1)
 else (some (-1)))
set_option maxRecDepth 20000 in
set_option maxHeartbeats 4000000 in
theorem Mo_told_ok {G : Gw} (hG : gOk G) (hs : gsh G = shM) {a1 : Int32} {m : Mm} {P : Option Value → Mm → Prop} (h : mjO (Mo_told m a1) (fun r => P (some (.int r)) m)) : mjR G 2 yX7_told cX7_told 2 (some .int) [.ref (gr G 0), .int a1] m P := by
  refine mjR_of hG (by decide) (Nat.le_of_ble_eq_true rfl) ?_
  intro X F
  have F : mjF G X cX7_told RX7 2 2 (some .int) := F
  show mjV G X 2 0 [(0, .ref (gr G 0)), (1, .int a1)] [] m P
  unfold Mo_told at h
  refine vIloadN F dX7_told_0 (k := 1) rfl ?_
  refine vIfNe F (tgt := 11) dX7_told_1 (by decide) (fun c4 => ?_) (fun c4 => ?_)
  · replace h := okF h c4
    refine vIloadN F dX7_told_11 (k := 1) rfl ?_
    refine vIconst F (v := 1) dX7_told_12 k_1 ?_
    refine vIcmpNe F (tgt := 23) dX7_told_13 (by decide) (fun c2 => ?_) (fun c2 => ?_)
    · replace h := okF h c2
      refine vIconst F (v := (-1)) dX7_told_23 k_m1 ?_
      have z := okS h
      exact vIret F dX7_told_24 z
    · replace h := okT h c2
      refine vAloadN F dX7_told_16 (k := 0) rfl ?_
      refine vCallV F (d' := 1) (x := 0) (T := TX7) (N := 61) (As := []) (st := []) dX7_told_17 lk_X7_291 my_X7_namesNow mv_X7_namesNow (cqM_0 hs) rfl (by decide) rfl rfl (Nat.le_of_ble_eq_true rfl) (Mo_namesNow_ok hG hs (okB h fun r1 h => ?_))
      show mjV G X 2 20 [(0, .ref (gr G 0)), (1, .int a1)] [.int r1] m P
      refine vGoto F (tgt := 24) dX7_told_20 (by decide) ?_
      have z := okS h
      exact vIret F dX7_told_24 z
  · replace h := okT h c4
    refine vAloadN F dX7_told_4 (k := 0) rfl ?_
    refine vCallV F (d' := 1) (x := 0) (T := TX7) (N := 61) (As := []) (st := []) dX7_told_5 lk_X7_216 my_X7_armsNow mv_X7_armsNow (cqM_0 hs) rfl (by decide) rfl rfl (Nat.le_of_ble_eq_true rfl) (Mo_armsNow_ok hG hs (okB h fun r3 h => ?_))
    show mjV G X 2 8 [(0, .ref (gr G 0)), (1, .int a1)] [.int r3] m P
    refine vGoto F (tgt := 24) dX7_told_8 (by decide) ?_
    have z := okS h
    exact vIret F dX7_told_24 z
noncomputable def Mo_far (m : Mm) (a1 : Int32) (a2 : Int32) : Option (Int32 × Mm) :=
  if (Mo_arePlaces m a1 a2) = true then
 ((Mo_layLand m).bind fun r1 =>
  if a1 = a2 then
 (some (0, r1))
 else (ga ((7 * a1) + a2) 49 (some (r1.1 19 ((7 * a1) + a2).toNatClampNeg, r1))))
 else (some ((-1), m))
set_option maxRecDepth 20000 in
set_option maxHeartbeats 4000000 in
theorem Mo_far_ok {G : Gw} (hG : gOk G) (hs : gsh G = shM) {a1 : Int32} {a2 : Int32} {m : Mm} {P : Option Value → Mm → Prop} (h : mjO (Mo_far m a1 a2) (fun r => P (some (.int r.1)) r.2)) : mjR G 5 yX7_far cX7_far 3 (some .int) [.ref (gr G 0), .int a1, .int a2] m P := by
  refine mjR_of hG (by decide) (Nat.le_of_ble_eq_true rfl) ?_
  intro X F
  have F : mjF G X cX7_far RX7 3 5 (some .int) := F
  show mjV G X 3 0 [(0, .ref (gr G 0)), (1, .int a1), (2, .int a2)] [] m P
  unfold Mo_far at h
  refine vAloadN F dX7_far_0 (k := 0) rfl ?_
  refine vIloadN F dX7_far_1 (k := 1) rfl ?_
  refine vIloadN F dX7_far_2 (k := 2) rfl ?_
  refine vCallV F (d' := 2) (x := 0) (T := TX7) (N := 61) (As := [.int a1, .int a2]) (st := []) dX7_far_3 lk_X7_205 my_X7_arePlaces mv_X7_arePlaces (cqM_0 hs) rfl (by decide) rfl rfl (Nat.le_of_ble_eq_true rfl) (Mo_arePlaces_ok hG hs ?_)
  show mjV G X 3 6 [(0, .ref (gr G 0)), (1, .int a1), (2, .int a2)] [.int (bI (Mo_arePlaces m a1 a2))] m P
  refine vIfNeB F (tgt := 11) dX7_far_6 (by decide) (fun c4 => ?_) (fun c4 => ?_)
  · replace h := okT h c4
    refine vAloadN F dX7_far_11 (k := 0) rfl ?_
    refine vCallV F (d' := 4) (x := 0) (T := TX7) (N := 61) (As := []) (st := []) dX7_far_12 lk_X7_294 my_X7_layLand mv_X7_layLand (cqM_0 hs) rfl (by decide) rfl rfl (Nat.le_of_ble_eq_true rfl) (Mo_layLand_ok hG hs (okB h fun r1 h => ?_))
    show mjV G X 3 15 [(0, .ref (gr G 0)), (1, .int a1), (2, .int a2)] [] r1 P
    refine vIloadN F dX7_far_15 (k := 1) rfl ?_
    refine vIloadN F dX7_far_16 (k := 2) rfl ?_
    refine vIcmpNe F (tgt := 24) dX7_far_17 (by decide) (fun c3 => ?_) (fun c3 => ?_)
    · replace h := okF h c3
      refine vAloadN F dX7_far_24 (k := 0) rfl ?_
      refine vGetR F (t := 19) dX7_far_25 fa_X7_96 (cqM_0 hs) rfl ?_
      refine vBipush F (v := 7) dX7_far_28 kb_7 ?_
      refine vIloadN F dX7_far_30 (k := 1) rfl ?_
      refine vImul F dX7_far_31 ?_
      refine vIloadN F dX7_far_32 (k := 2) rfl ?_
      refine vIadd F dX7_far_33 ?_
      obtain ⟨g2, h⟩ := okga h
      refine vIald F dX7_far_34 (cqM_19 hs) g2 ?_
      have z := okS h
      exact vIret F dX7_far_35 z
    · replace h := okT h c3
      refine vIconst F (v := 0) dX7_far_20 k_0 ?_
      refine vGoto F (tgt := 35) dX7_far_21 (by decide) ?_
      have z := okS h
      exact vIret F dX7_far_35 z
  · replace h := okF h c4
    refine vIconst F (v := (-1)) dX7_far_9 k_m1 ?_
    have z := okS h
    exact vIret F dX7_far_10 z
noncomputable def Mo_way (m : Mm) (a1 : Int32) (a2 : Int32) : Option (Int32 × Mm) :=
  if (Mo_arePlaces m a1 a2) = true then
 ((Mo_layLand m).bind fun r1 =>
  ga ((7 * a1) + a2) 49 (if 0 ≤ (r1.1 20 ((7 * a1) + a2).toNatClampNeg) then
 (ga ((7 * a1) + a2) 49 (some (r1.1 20 ((7 * a1) + a2).toNatClampNeg, r1)))
 else (some ((-5), r1))))
 else (some ((-1), m))
set_option maxRecDepth 20000 in
set_option maxHeartbeats 4000000 in
theorem Mo_way_ok {G : Gw} (hG : gOk G) (hs : gsh G = shM) {a1 : Int32} {a2 : Int32} {m : Mm} {P : Option Value → Mm → Prop} (h : mjO (Mo_way m a1 a2) (fun r => P (some (.int r.1)) r.2)) : mjR G 5 yX7_way cX7_way 3 (some .int) [.ref (gr G 0), .int a1, .int a2] m P := by
  refine mjR_of hG (by decide) (Nat.le_of_ble_eq_true rfl) ?_
  intro X F
  have F : mjF G X cX7_way RX7 3 5 (some .int) := F
  show mjV G X 3 0 [(0, .ref (gr G 0)), (1, .int a1), (2, .int a2)] [] m P
  unfold Mo_way at h
  refine vAloadN F dX7_way_0 (k := 0) rfl ?_
  refine vIloadN F dX7_way_1 (k := 1) rfl ?_
  refine vIloadN F dX7_way_2 (k := 2) rfl ?_
  refine vCallV F (d' := 2) (x := 0) (T := TX7) (N := 61) (As := [.int a1, .int a2]) (st := []) dX7_way_3 lk_X7_205 my_X7_arePlaces mv_X7_arePlaces (cqM_0 hs) rfl (by decide) rfl rfl (Nat.le_of_ble_eq_true rfl) (Mo_arePlaces_ok hG hs ?_)
  show mjV G X 3 6 [(0, .ref (gr G 0)), (1, .int a1), (2, .int a2)] [.int (bI (Mo_arePlaces m a1 a2))] m P
  refine vIfNeB F (tgt := 11) dX7_way_6 (by decide) (fun c5 => ?_) (fun c5 => ?_)
  · replace h := okT h c5
    refine vAloadN F dX7_way_11 (k := 0) rfl ?_
    refine vCallV F (d' := 4) (x := 0) (T := TX7) (N := 61) (As := []) (st := []) dX7_way_12 lk_X7_294 my_X7_layLand mv_X7_layLand (cqM_0 hs) rfl (by decide) rfl rfl (Nat.le_of_ble_eq_true rfl) (Mo_layLand_ok hG hs (okB h fun r1 h => ?_))
    show mjV G X 3 15 [(0, .ref (gr G 0)), (1, .int a1), (2, .int a2)] [] r1 P
    refine vAloadN F dX7_way_15 (k := 0) rfl ?_
    refine vGetR F (t := 20) dX7_way_16 fa_X7_99 (cqM_0 hs) rfl ?_
    refine vBipush F (v := 7) dX7_way_19 kb_7 ?_
    refine vIloadN F dX7_way_21 (k := 1) rfl ?_
    refine vImul F dX7_way_22 ?_
    refine vIloadN F dX7_way_23 (k := 2) rfl ?_
    refine vIadd F dX7_way_24 ?_
    obtain ⟨g2, h⟩ := okga h
    refine vIald F dX7_way_25 (cqM_20 hs) g2 ?_
    refine vIfGe F (tgt := 34) dX7_way_26 (by decide) (fun c4 => ?_) (fun c4 => ?_)
    · replace h := okT h c4
      refine vAloadN F dX7_way_34 (k := 0) rfl ?_
      refine vGetR F (t := 20) dX7_way_35 fa_X7_99 (cqM_0 hs) rfl ?_
      refine vBipush F (v := 7) dX7_way_38 kb_7 ?_
      refine vIloadN F dX7_way_40 (k := 1) rfl ?_
      refine vImul F dX7_way_41 ?_
      refine vIloadN F dX7_way_42 (k := 2) rfl ?_
      refine vIadd F dX7_way_43 ?_
      obtain ⟨g3, h⟩ := okga h
      refine vIald F dX7_way_44 (cqM_20 hs) g3 ?_
      have z := okS h
      exact vIret F dX7_way_45 z
    · replace h := okF h c4
      refine vBipush F (v := (-5)) dX7_way_29 kb_m5 ?_
      refine vGoto F (tgt := 45) dX7_way_31 (by decide) ?_
      have z := okS h
      exact vIret F dX7_way_45 z
  · replace h := okF h c5
    refine vIconst F (v := (-1)) dX7_way_9 k_m1 ?_
    have z := okS h
    exact vIret F dX7_way_10 z
def Mo_towardOf_l24 (m : Mm) (a1 : Int32) (a2 : Int32) (s2 : Int32) : Option ((Int32) ⊕ (Unit ⊕ Int32)) :=
  if (m.1 0 0) ≤ s2 then
 (some (.inr (.inl ())))
 else (ga ((7 * a1) + s2) 49 (if (m.1 19 ((7 * a1) + s2).toNatClampNeg) ≤ 0 then
 (some (.inl (s2 + 1)))
 else (ga ((7 * s2) + a2) 49 (if (m.1 20 ((7 * s2) + a2).toNatClampNeg) < 0 then
 (some (.inl (s2 + 1)))
 else (ga ((7 * a1) + s2) 49 (ga ((7 * s2) + a2) 49 (ga ((7 * a1) + a2) 49 (if ((m.1 19 ((7 * a1) + s2).toNatClampNeg) + (m.1 20 ((7 * s2) + a2).toNatClampNeg)) = (m.1 20 ((7 * a1) + a2).toNatClampNeg) then
 (some (.inr (.inr s2)))
 else (some (.inl (s2 + 1)))))))))))
noncomputable def Mo_towardOf (m : Mm) (a1 : Int32) (a2 : Int32) : Option (Int32) :=
  if a1 = a2 then
 (some (-5))
 else (ga ((7 * a1) + a2) 49 (if 0 ≤ (m.1 20 ((7 * a1) + a2).toNatClampNeg) then
 ((iter (Mo_towardOf_l24 m a1 a2) (0)).bind (Sum.elim (fun e3 => some (-5)) (fun v13 => some v13)))
 else (some (-5))))
set_option maxRecDepth 20000 in
set_option maxHeartbeats 4000000 in
theorem Mo_towardOf_ok {G : Gw} (hG : gOk G) (hs : gsh G = shM) {a1 : Int32} {a2 : Int32} {m : Mm} {P : Option Value → Mm → Prop} (h : mjO (Mo_towardOf m a1 a2) (fun r => P (some (.int r)) m)) : mjR G 0 yX7_towardOf cX7_towardOf 4 (some .int) [.ref (gr G 0), .int a1, .int a2] m P := by
  refine mjR_of hG (by decide) (Nat.le_of_ble_eq_true rfl) ?_
  intro X F
  have F : mjF G X cX7_towardOf RX7 4 0 (some .int) := F
  show mjV G X 4 0 [(0, .ref (gr G 0)), (1, .int a1), (2, .int a2)] [] m P
  unfold Mo_towardOf at h
  refine vIloadN F dX7_towardOf_0 (k := 1) rfl ?_
  refine vIloadN F dX7_towardOf_1 (k := 2) rfl ?_
  refine vIcmpEq F (tgt := 19) dX7_towardOf_2 (by decide) (fun c16 => ?_) (fun c16 => ?_)
  · replace h := okT h c16
    refine vBipush F (v := (-5)) dX7_towardOf_19 kb_m5 ?_
    have z := okS h
    exact vIret F dX7_towardOf_21 z
  · replace h := okF h c16
    refine vAloadN F dX7_towardOf_5 (k := 0) rfl ?_
    refine vGetR F (t := 20) dX7_towardOf_6 fa_X7_99 (cqM_0 hs) rfl ?_
    refine vBipush F (v := 7) dX7_towardOf_9 kb_7 ?_
    refine vIloadN F dX7_towardOf_11 (k := 1) rfl ?_
    refine vImul F dX7_towardOf_12 ?_
    refine vIloadN F dX7_towardOf_13 (k := 2) rfl ?_
    refine vIadd F dX7_towardOf_14 ?_
    obtain ⟨g1, h⟩ := okga h
    refine vIald F dX7_towardOf_15 (cqM_20 hs) g1 ?_
    refine vIfGe F (tgt := 22) dX7_towardOf_16 (by decide) (fun c15 => ?_) (fun c15 => ?_)
    · replace h := okT h c15
      refine vIconst F (v := 0) dX7_towardOf_22 k_0 ?_
      refine vIstoreN F (L' := [(3, .int 0), (0, .ref (gr G 0)), (1, .int a1), (2, .int a2)]) dX7_towardOf_23 rfl (by decide) rfl ?_
      refine vSub [1, 2, 3, 0] rfl ?_
      refine okLoop (s0 := (0)) (T := (fun (s2 : Int32) => mjV G X 4 24 [(0, .ref (gr G 0)), (1, .int a1), (2, .int a2), (3, .int s2)] [] m P)) (Ve := (Sum.elim (fun (e3 : Unit) => mjV G X 4 105 [] [] m P) (fun (v13 : Int32) => P (some (.int v13)) m))) h ?_ (fun s2 h => ?_)
      · intro q h
        rcases q with e3 | v13
        · refine vBipush F (v := (-5)) dX7_towardOf_105 kb_m5 ?_
          have z := okS h
          exact vIret F dX7_towardOf_107 z
        · have z := okS h
          exact z
      · unfold Mo_towardOf_l24 at h
        refine vIloadN F dX7_towardOf_24 (k := 3) rfl ?_
        refine vAloadN F dX7_towardOf_25 (k := 0) rfl ?_
        refine vGetI F dX7_towardOf_26 fa_X7_7 (cqM_0 hs) rfl ?_
        refine vIcmpGe F (tgt := 105) dX7_towardOf_29 (by decide) (fun c12 => ?_) (fun c12 => ?_)
        · replace h := okT h c12
          refine vSub [] rfl ?_
          have z := okR h
          exact z
        · replace h := okF h c12
          refine vAloadN F dX7_towardOf_32 (k := 0) rfl ?_
          refine vGetR F (t := 19) dX7_towardOf_33 fa_X7_96 (cqM_0 hs) rfl ?_
          refine vBipush F (v := 7) dX7_towardOf_36 kb_7 ?_
          refine vIloadN F dX7_towardOf_38 (k := 1) rfl ?_
          refine vImul F dX7_towardOf_39 ?_
          refine vIloadN F dX7_towardOf_40 (k := 3) rfl ?_
          refine vIadd F dX7_towardOf_41 ?_
          obtain ⟨g4, h⟩ := okga h
          refine vIald F dX7_towardOf_42 (cqM_19 hs) g4 ?_
          refine vIfLe F (tgt := 99) dX7_towardOf_43 (by decide) (fun c11 => ?_) (fun c11 => ?_)
          · replace h := okT h c11
            refine vIinc F (v := 1) (k := 3) (L' := [(3, .int (s2 + 1)), (0, .ref (gr G 0)), (1, .int a1), (2, .int a2)]) dX7_towardOf_99 rfl k_1 (by decide) rfl ?_
            refine vGoto F (tgt := 24) dX7_towardOf_102 (by decide) ?_
            refine vSub [1, 2, 3, 0] rfl ?_
            have z := okL h
            exact z
          · replace h := okF h c11
            refine vAloadN F dX7_towardOf_46 (k := 0) rfl ?_
            refine vGetR F (t := 20) dX7_towardOf_47 fa_X7_99 (cqM_0 hs) rfl ?_
            refine vBipush F (v := 7) dX7_towardOf_50 kb_7 ?_
            refine vIloadN F dX7_towardOf_52 (k := 3) rfl ?_
            refine vImul F dX7_towardOf_53 ?_
            refine vIloadN F dX7_towardOf_54 (k := 2) rfl ?_
            refine vIadd F dX7_towardOf_55 ?_
            obtain ⟨g5, h⟩ := okga h
            refine vIald F dX7_towardOf_56 (cqM_20 hs) g5 ?_
            refine vIfLt F (tgt := 99) dX7_towardOf_57 (by decide) (fun c10 => ?_) (fun c10 => ?_)
            · replace h := okT h c10
              refine vIinc F (v := 1) (k := 3) (L' := [(3, .int (s2 + 1)), (0, .ref (gr G 0)), (1, .int a1), (2, .int a2)]) dX7_towardOf_99 rfl k_1 (by decide) rfl ?_
              refine vGoto F (tgt := 24) dX7_towardOf_102 (by decide) ?_
              refine vSub [1, 2, 3, 0] rfl ?_
              have z := okL h
              exact z
            · replace h := okF h c10
              refine vAloadN F dX7_towardOf_60 (k := 0) rfl ?_
              refine vGetR F (t := 19) dX7_towardOf_61 fa_X7_96 (cqM_0 hs) rfl ?_
              refine vBipush F (v := 7) dX7_towardOf_64 kb_7 ?_
              refine vIloadN F dX7_towardOf_66 (k := 1) rfl ?_
              refine vImul F dX7_towardOf_67 ?_
              refine vIloadN F dX7_towardOf_68 (k := 3) rfl ?_
              refine vIadd F dX7_towardOf_69 ?_
              obtain ⟨g6, h⟩ := okga h
              refine vIald F dX7_towardOf_70 (cqM_19 hs) g6 ?_
              refine vAloadN F dX7_towardOf_71 (k := 0) rfl ?_
              refine vGetR F (t := 20) dX7_towardOf_72 fa_X7_99 (cqM_0 hs) rfl ?_
              refine vBipush F (v := 7) dX7_towardOf_75 kb_7 ?_
              refine vIloadN F dX7_towardOf_77 (k := 3) rfl ?_
              refine vImul F dX7_towardOf_78 ?_
              refine vIloadN F dX7_towardOf_79 (k := 2) rfl ?_
              refine vIadd F dX7_towardOf_80 ?_
              obtain ⟨g7, h⟩ := okga h
              refine vIald F dX7_towardOf_81 (cqM_20 hs) g7 ?_
              refine vIadd F dX7_towardOf_82 ?_
              refine vAloadN F dX7_towardOf_83 (k := 0) rfl ?_
              refine vGetR F (t := 20) dX7_towardOf_84 fa_X7_99 (cqM_0 hs) rfl ?_
              refine vBipush F (v := 7) dX7_towardOf_87 kb_7 ?_
              refine vIloadN F dX7_towardOf_89 (k := 1) rfl ?_
              refine vImul F dX7_towardOf_90 ?_
              refine vIloadN F dX7_towardOf_91 (k := 2) rfl ?_
              refine vIadd F dX7_towardOf_92 ?_
              obtain ⟨g8, h⟩ := okga h
              refine vIald F dX7_towardOf_93 (cqM_20 hs) g8 ?_
              refine vIcmpNe F (tgt := 99) dX7_towardOf_94 (by decide) (fun c9 => ?_) (fun c9 => ?_)
              · replace h := okF h c9
                refine vIinc F (v := 1) (k := 3) (L' := [(3, .int (s2 + 1)), (0, .ref (gr G 0)), (1, .int a1), (2, .int a2)]) dX7_towardOf_99 rfl k_1 (by decide) rfl ?_
                refine vGoto F (tgt := 24) dX7_towardOf_102 (by decide) ?_
                refine vSub [1, 2, 3, 0] rfl ?_
                have z := okL h
                exact z
              · replace h := okT h c9
                refine vIloadN F dX7_towardOf_97 (k := 3) rfl ?_
                have z := okR h
                exact vIret F dX7_towardOf_98 z
    · replace h := okF h c15
      refine vBipush F (v := (-5)) dX7_towardOf_19 kb_m5 ?_
      have z := okS h
      exact vIret F dX7_towardOf_21 z
