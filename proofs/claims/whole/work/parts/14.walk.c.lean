/-! LostTent$Register.mondaysOver()I -/
abbrev rm_X2_mondaysOver : Room := { frames := 0, cells := 0, slots := 0, locals := 0 }
def f_X2_mondaysOver (M : xM) : Option Int32 :=
  some (M.1 6)
set_option maxRecDepth 100000 in
set_option maxHeartbeats 8000000 in
theorem c_X2_mondaysOver {l : Launch} {D : va_G} {aI : ClassId} {q t : Nat → Nat} {M : xM} {r : Int32} (hf : f_X2_mondaysOver M = some r) : kM l yX2_mondaysOver (wk yX2_mondaysOver cX2_mondaysOver 1 (some .int)) rm_X2_mondaysOver (cw q aI) D aI t [.ref (q 6)] M (some (.int r)) M := by
  refine kM_of (by decide) (Nat.le_of_ble_eq_true rfl) ?_
  intro p e s m args below meth c A ls X hr hlocks hl I
  have hx := X.1
  have hb := X.2.1
  have hl : lv_has ls 1 [(0, .ref (q 6))] := hl
  rw [f_X2_mondaysOver] at hf
  refine lv_aload_n hx hb dX2_mondaysOver_0 rfl (lv_at hl 0 rfl) ?_
  refine k_get (T := TX2) (N := 9) X I inU2 6 cwG_6 rfl 6 (by decide) uw_1_66 rfl rfl dX2_mondaysOver_1 ?_
  exact k_iretP X I hr hlocks dX2_mondaysOver_4 hf
/-! LostTent$Tent.given()I -/
abbrev rm_X3_given : Room := { frames := 3, cells := 0, slots := 0, locals := 64 }
def f_X3_given (M : xM) : Option Int32 :=
  (f_X3_thingsNotGiven M).bind fun r1 =>
  (f_J6_bitCount_0f7a4 r1).bind fun r2 =>
  some ((M.1 2) - r2)
set_option maxRecDepth 100000 in
set_option maxHeartbeats 8000000 in
theorem c_X3_given {l : Launch} {D : va_G} {aI : ClassId} {q t : Nat → Nat} {M : xM} {r : Int32} (hf : f_X3_given M = some r) : kM l yX3_given (wk yX3_given cX3_given 1 (some .int)) rm_X3_given (cw q aI) D aI t [.ref (q 3)] M (some (.int r)) M := by
  refine kM_of (by decide) (Nat.le_of_ble_eq_true rfl) ?_
  intro p e s m args below meth c A ls X hr hlocks hl I
  have hx := X.1
  have hb := X.2.1
  have hl : lv_has ls 1 [(0, .ref (q 3))] := hl
  rw [f_X3_given] at hf
  refine lv_aload_n hx hb dX3_given_0 rfl (lv_at hl 0 rfl) ?_
  refine k_get (T := TX3) (N := 7) X I inU3 3 cwG_3 rfl 4 (by decide) uw_1_92 rfl rfl dX3_given_1 ?_
  refine lv_aload_n hx hb dX3_given_4 rfl (lv_at hl 0 rfl) ?_
  obtain ⟨r1, h_r1, hf⟩ := k_bind hf
  refine k_callV (n := 0) (As := []) (rest := [.int (M.1 2)]) X I (c_X3_thingsNotGiven h_r1) uw_3_59 uw_2_224 uw_2_225 uw_1_3 uw_2_226 ⟨rfl, rfl⟩ (by decide +kernel) rfl ⟨Nat.le_of_ble_eq_true rfl, Nat.le_of_ble_eq_true rfl⟩ ⟨Nat.le_of_ble_eq_true rfl, Nat.le_of_ble_eq_true rfl⟩ 3 cwG_3 rfl hl.1 rfl (Nat.le_of_ble_eq_true rfl) dX3_given_5 (st1 := [.int r1, .int (M.1 2)]) rfl (fun H locs I => ?_)
  obtain ⟨r2, h_r2, hf⟩ := k_bind hf
  refine k_callS (n := 1) (As := [.int r1]) (rest := [.int (M.1 2)]) X I (c_J6_bitCount_0f7a4 h_r2) uw_2_198 uw_2_199 uw_1_14 uw_2_200 ⟨rfl, rfl⟩ (by decide +kernel) rfl ⟨Nat.le_of_ble_eq_true rfl, Nat.le_of_ble_eq_true rfl⟩ ⟨Nat.le_of_ble_eq_true rfl, Nat.le_of_ble_eq_true rfl⟩ hl.1 rfl (Nat.le_of_ble_eq_true rfl) dX3_given_8 (st1 := [.int r2, .int (M.1 2)]) rfl (fun H locs I => ?_)
  refine lv_isub hx hb dX3_given_11 ?_
  exact k_iretP X I hr hlocks dX3_given_12 hf
/-! LostTent$Tent.claimers()I -/
abbrev rm_X3_claimers : Room := { frames := 0, cells := 0, slots := 0, locals := 0 }
def f_X3_claimers (M : xM) : Option Int32 :=
  some (M.1 3)
set_option maxRecDepth 100000 in
set_option maxHeartbeats 8000000 in
theorem c_X3_claimers {l : Launch} {D : va_G} {aI : ClassId} {q t : Nat → Nat} {M : xM} {r : Int32} (hf : f_X3_claimers M = some r) : kM l yX3_claimers (wk yX3_claimers cX3_claimers 1 (some .int)) rm_X3_claimers (cw q aI) D aI t [.ref (q 3)] M (some (.int r)) M := by
  refine kM_of (by decide) (Nat.le_of_ble_eq_true rfl) ?_
  intro p e s m args below meth c A ls X hr hlocks hl I
  have hx := X.1
  have hb := X.2.1
  have hl : lv_has ls 1 [(0, .ref (q 3))] := hl
  rw [f_X3_claimers] at hf
  refine lv_aload_n hx hb dX3_claimers_0 rfl (lv_at hl 0 rfl) ?_
  refine k_get (T := TX3) (N := 7) X I inU3 3 cwG_3 rfl 5 (by decide) uw_1_93 rfl rfl dX3_claimers_1 ?_
  exact k_iretP X I hr hlocks dX3_claimers_4 hf
/-! LostTent$Register.endMonday(II)V -/
abbrev rm_X2_endMonday : Room := { frames := 2, cells := 0, slots := 0, locals := 43 }
def f_X2_endMonday (x1 : Int32) (x2 : Int32) (M : xM) : Option xM :=
  nmM (xI M 7 ((M.1 7) + x1)) fun M1 =>
  nmM (xI M1 8 ((M1.1 8) + x2)) fun M2 =>
  nmM (xI M2 6 ((M2.1 6) + (1 : Int32))) fun M3 =>
  (f_X2_takeAllBack M3).bind fun M4 =>
  some M4
set_option maxRecDepth 100000 in
set_option maxHeartbeats 8000000 in
theorem c_X2_endMonday {l : Launch} {D : va_G} {aI : ClassId} {q t : Nat → Nat} {x1 : Int32} {x2 : Int32} {M : xM} {Mr : xM} (hf : f_X2_endMonday x1 x2 M = some Mr) : kM l yX2_endMonday (wk yX2_endMonday cX2_endMonday 3 none) rm_X2_endMonday (cw q aI) D aI t [.ref (q 6), .int x1, .int x2] M none Mr := by
  refine kM_of (by decide) (Nat.le_of_ble_eq_true rfl) ?_
  intro p e s m args below meth c A ls X hr hlocks hl I
  have hx := X.1
  have hb := X.2.1
  have hl : lv_has ls 3 [(0, .ref (q 6)), (1, .int x1), (2, .int x2)] := hl
  rw [f_X2_endMonday] at hf
  refine lv_aload_n hx hb dX2_endMonday_0 rfl (lv_at hl 0 rfl) ?_
  refine lv_dup hx hb dX2_endMonday_1 rfl ?_
  refine k_get (T := TX2) (N := 9) X I inU2 6 cwG_6 rfl 7 (by decide) uw_1_67 rfl rfl dX2_endMonday_2 ?_
  refine lv_iload_n hx hb dX2_endMonday_5 rfl (lv_at hl 1 rfl) ?_
  refine lv_iadd hx hb dX2_endMonday_6 ?_
  obtain ⟨M1, e_M1, hf⟩ := k_nm hf
  refine k_put (T := TX2) (N := 9) (M1 := M1) X I inU2 tyX2 tyX2_ok nmX2 6 cwG_6 rfl 7 (by decide) uw_1_67 rfl rfl (tyX2_ok 7 (by decide)) rfl rfl (Nat.le_of_ble_eq_true rfl) dX2_endMonday_7 (cwI_7.trans (congrArg (cw q aI) e_M1)) (fun H locs I => ?_)
  refine lv_aload_n hx hb dX2_endMonday_10 rfl (lv_at hl 0 rfl) ?_
  refine lv_dup hx hb dX2_endMonday_11 rfl ?_
  refine k_get (T := TX2) (N := 9) X I inU2 6 cwG_6 rfl 8 (by decide) uw_1_68 rfl rfl dX2_endMonday_12 ?_
  refine lv_iload_n hx hb dX2_endMonday_15 rfl (lv_at hl 2 rfl) ?_
  refine lv_iadd hx hb dX2_endMonday_16 ?_
  obtain ⟨M2, e_M2, hf⟩ := k_nm hf
  refine k_put (T := TX2) (N := 9) (M1 := M2) X I inU2 tyX2 tyX2_ok nmX2 6 cwG_6 rfl 8 (by decide) uw_1_68 rfl rfl (tyX2_ok 8 (by decide)) rfl rfl (Nat.le_of_ble_eq_true rfl) dX2_endMonday_17 (cwI_8.trans (congrArg (cw q aI) e_M2)) (fun H locs I => ?_)
  refine lv_aload_n hx hb dX2_endMonday_20 rfl (lv_at hl 0 rfl) ?_
  refine lv_dup hx hb dX2_endMonday_21 rfl ?_
  refine k_get (T := TX2) (N := 9) X I inU2 6 cwG_6 rfl 6 (by decide) uw_1_66 rfl rfl dX2_endMonday_22 ?_
  refine lv_iconst (v := 1) hx hb dX2_endMonday_25 (by decide) ?_
  refine lv_iadd hx hb dX2_endMonday_26 ?_
  obtain ⟨M3, e_M3, hf⟩ := k_nm hf
  refine k_put (T := TX2) (N := 9) (M1 := M3) X I inU2 tyX2 tyX2_ok nmX2 6 cwG_6 rfl 6 (by decide) uw_1_66 rfl rfl (tyX2_ok 6 (by decide)) rfl rfl (Nat.le_of_ble_eq_true rfl) dX2_endMonday_27 (cwI_6.trans (congrArg (cw q aI) e_M3)) (fun H locs I => ?_)
  refine lv_aload_n hx hb dX2_endMonday_30 rfl (lv_at hl 0 rfl) ?_
  obtain ⟨M4, h_M4, hf⟩ := k_bind hf
  refine k_callV (n := 0) (As := []) (rest := []) X I (c_X2_takeAllBack h_M4) uw_1_53 uw_1_55 us_0 uw_1_4 uw_1_56 ⟨rfl, rfl⟩ (by decide +kernel) rfl ⟨Nat.le_of_ble_eq_true rfl, Nat.le_of_ble_eq_true rfl⟩ ⟨Nat.le_of_ble_eq_true rfl, Nat.le_of_ble_eq_true rfl⟩ 6 cwG_6 rfl hl.1 rfl (Nat.le_of_ble_eq_true rfl) dX2_endMonday_31 (st1 := []) rfl (fun H locs I => ?_)
  exact k_vret X I hr hlocks dX2_endMonday_34 hf
/-! LostTent.six()I -/
abbrev rm_X5_six : Room := { frames := 4, cells := 0, slots := 0, locals := 84 }
def f_X5_six (M : xM) : Option (Int32 × xM) :=
  (f_X3_stands M).bind fun r1 =>
  if r1 = 0 then
    some ((-103 : Int32), M)
  else
    (f_X2_mondaysOver M).bind fun r3 =>
    if r3 < (99 : Int32) then
      (f_X3_given M).bind fun r5 =>
      (f_X3_things M).bind fun r6 =>
      (f_X3_claimers M).bind fun r7 =>
      (f_X2_endMonday (r6 - r5) (r7 - r5) M).bind fun M8 =>
      some ((r6 - r5), M8)
    else
      some ((-104 : Int32), M)
set_option maxRecDepth 100000 in
set_option maxHeartbeats 8000000 in
theorem c_X5_six {l : Launch} {D : va_G} {aI : ClassId} {q t : Nat → Nat} {M : xM} {r : Int32} {Mr : xM} (hf : f_X5_six M = some (r, Mr)) : kM l yX5_six (wk yX5_six cX5_six 3 (some .int)) rm_X5_six (cw q aI) D aI t [.ref (q 0)] M (some (.int r)) Mr := by
  refine kM_of (by decide) (Nat.le_of_ble_eq_true rfl) ?_
  intro p e s m args below meth c A ls X hr hlocks hl I
  have hx := X.1
  have hb := X.2.1
  have hl : lv_has ls 3 [(0, .ref (q 0))] := hl
  rw [f_X5_six] at hf
  refine lv_aload_n hx hb dX5_six_0 rfl (lv_at hl 0 rfl) ?_
  refine k_get (T := TX5) (N := 5) X I inU5 0 cwG_0 rfl 1 (by decide) uw_1_149 rfl rfl dX5_six_1 ?_
  obtain ⟨r1, h_r1, hf⟩ := k_bind hf
  refine k_callV (n := 0) (As := []) (rest := []) X I (c_X3_stands h_r1) uw_3_47 uw_3_48 uw_3_49 uw_1_3 uw_3_50 ⟨rfl, rfl⟩ (by decide +kernel) rfl ⟨Nat.le_of_ble_eq_true rfl, Nat.le_of_ble_eq_true rfl⟩ ⟨Nat.le_of_ble_eq_true rfl, Nat.le_of_ble_eq_true rfl⟩ 3 cwG_3 rfl hl.1 rfl (Nat.le_of_ble_eq_true rfl) dX5_six_4 (st1 := [.int r1]) rfl (fun H locs I => ?_)
  refine lv_if_ne (tgt := 13) hx hb dX5_six_7 (by decide) (fun c2 => ?_) (fun c2 => ?_)
  · rw [if_neg c2] at hf
    refine lv_aload_n hx hb dX5_six_13 rfl (lv_at hl 0 rfl) ?_
    refine k_get (T := TX5) (N := 5) X I inU5 0 cwG_0 rfl 1 (by decide) uw_1_149 rfl rfl dX5_six_14 ?_
    refine k_callV (n := 0) (As := []) (rest := []) X I c_X3_register uw_2_122 uw_2_123 uw_2_124 uw_1_3 uw_2_125 ⟨rfl, rfl⟩ (by decide +kernel) rfl ⟨Nat.le_of_ble_eq_true rfl, Nat.le_of_ble_eq_true rfl⟩ ⟨Nat.le_of_ble_eq_true rfl, Nat.le_of_ble_eq_true rfl⟩ 3 cwG_3 rfl hl.1 rfl (Nat.le_of_ble_eq_true rfl) dX5_six_17 (st1 := [.ref (q 6)]) rfl (fun H locs I => ?_)
    obtain ⟨r3, h_r3, hf⟩ := k_bind hf
    refine k_callV (n := 0) (As := []) (rest := []) X I (c_X2_mondaysOver h_r3) uw_3_51 uw_3_52 uw_3_53 uw_1_4 uw_3_54 ⟨rfl, rfl⟩ (by decide +kernel) rfl ⟨Nat.le_of_ble_eq_true rfl, Nat.le_of_ble_eq_true rfl⟩ ⟨Nat.le_of_ble_eq_true rfl, Nat.le_of_ble_eq_true rfl⟩ 6 cwG_6 rfl hl.1 rfl (Nat.le_of_ble_eq_true rfl) dX5_six_20 (st1 := [.int r3]) rfl (fun H locs I => ?_)
    refine lv_bipush (v := 99) hx hb dX5_six_23 (by decide) ?_
    refine lv_icmp_lt (tgt := 31) hx hb dX5_six_25 (by decide) (fun c4 => ?_) (fun c4 => ?_)
    · rw [if_pos c4] at hf
      refine lv_aload_n hx hb dX5_six_31 rfl (lv_at hl 0 rfl) ?_
      refine k_get (T := TX5) (N := 5) X I inU5 0 cwG_0 rfl 1 (by decide) uw_1_149 rfl rfl dX5_six_32 ?_
      obtain ⟨r5, h_r5, hf⟩ := k_bind hf
      refine k_callV (n := 0) (As := []) (rest := []) X I (c_X3_given h_r5) uw_3_55 uw_3_56 uw_3_57 uw_1_3 uw_3_58 ⟨rfl, rfl⟩ (by decide +kernel) rfl ⟨Nat.le_of_ble_eq_true rfl, Nat.le_of_ble_eq_true rfl⟩ ⟨Nat.le_of_ble_eq_true rfl, Nat.le_of_ble_eq_true rfl⟩ 3 cwG_3 rfl hl.1 rfl (Nat.le_of_ble_eq_true rfl) dX5_six_35 (st1 := [.int r5]) rfl (fun H locs I => ?_)
      refine lv_istore_n (lv' := [(1, .int r5), (0, .ref (q 0))]) hx hb dX5_six_38 rfl hl (by decide) rfl (fun ls hl => ?_)
      refine lv_aload_n hx hb dX5_six_39 rfl (lv_at hl 1 rfl) ?_
      refine k_get (T := TX5) (N := 5) X I inU5 0 cwG_0 rfl 1 (by decide) uw_1_149 rfl rfl dX5_six_40 ?_
      obtain ⟨r6, h_r6, hf⟩ := k_bind hf
      refine k_callV (n := 0) (As := []) (rest := []) X I (c_X3_things h_r6) uw_2_104 uw_2_105 uw_2_106 uw_1_3 uw_2_107 ⟨rfl, rfl⟩ (by decide +kernel) rfl ⟨Nat.le_of_ble_eq_true rfl, Nat.le_of_ble_eq_true rfl⟩ ⟨Nat.le_of_ble_eq_true rfl, Nat.le_of_ble_eq_true rfl⟩ 3 cwG_3 rfl hl.1 rfl (Nat.le_of_ble_eq_true rfl) dX5_six_43 (st1 := [.int r6]) rfl (fun H locs I => ?_)
      refine lv_iload_n hx hb dX5_six_46 rfl (lv_at hl 0 rfl) ?_
      refine lv_isub hx hb dX5_six_47 ?_
      refine lv_istore_n (lv' := [(2, .int (r6 - r5)), (1, .int r5), (0, .ref (q 0))]) hx hb dX5_six_48 rfl hl (by decide) rfl (fun ls hl => ?_)
      refine lv_aload_n hx hb dX5_six_49 rfl (lv_at hl 2 rfl) ?_
      refine k_get (T := TX5) (N := 5) X I inU5 0 cwG_0 rfl 1 (by decide) uw_1_149 rfl rfl dX5_six_50 ?_
      refine k_callV (n := 0) (As := []) (rest := []) X I c_X3_register uw_2_122 uw_2_123 uw_2_124 uw_1_3 uw_2_125 ⟨rfl, rfl⟩ (by decide +kernel) rfl ⟨Nat.le_of_ble_eq_true rfl, Nat.le_of_ble_eq_true rfl⟩ ⟨Nat.le_of_ble_eq_true rfl, Nat.le_of_ble_eq_true rfl⟩ 3 cwG_3 rfl hl.1 rfl (Nat.le_of_ble_eq_true rfl) dX5_six_53 (st1 := [.ref (q 6)]) rfl (fun H locs I => ?_)
      refine lv_iload_n hx hb dX5_six_56 rfl (lv_at hl 0 rfl) ?_
      refine lv_aload_n hx hb dX5_six_57 rfl (lv_at hl 2 rfl) ?_
      refine k_get (T := TX5) (N := 5) X I inU5 0 cwG_0 rfl 1 (by decide) uw_1_149 rfl rfl dX5_six_58 ?_
      obtain ⟨r7, h_r7, hf⟩ := k_bind hf
      refine k_callV (n := 0) (As := []) (rest := [.int (r6 - r5), .ref (q 6)]) X I (c_X3_claimers h_r7) uw_3_60 uw_3_61 uw_3_62 uw_1_3 uw_3_63 ⟨rfl, rfl⟩ (by decide +kernel) rfl ⟨Nat.le_of_ble_eq_true rfl, Nat.le_of_ble_eq_true rfl⟩ ⟨Nat.le_of_ble_eq_true rfl, Nat.le_of_ble_eq_true rfl⟩ 3 cwG_3 rfl hl.1 rfl (Nat.le_of_ble_eq_true rfl) dX5_six_61 (st1 := [.int r7, .int (r6 - r5), .ref (q 6)]) rfl (fun H locs I => ?_)
      refine lv_iload_n hx hb dX5_six_64 rfl (lv_at hl 1 rfl) ?_
      refine lv_isub hx hb dX5_six_65 ?_
      obtain ⟨M8, h_M8, hf⟩ := k_bind hf
      refine k_callV (n := 2) (As := [.int (r6 - r5), .int (r7 - r5)]) (rest := []) X I (c_X2_endMonday h_M8) uw_3_64 uw_3_65 uw_3_66 uw_1_4 uw_3_67 ⟨rfl, rfl⟩ (by decide +kernel) rfl ⟨Nat.le_of_ble_eq_true rfl, Nat.le_of_ble_eq_true rfl⟩ ⟨Nat.le_of_ble_eq_true rfl, Nat.le_of_ble_eq_true rfl⟩ 6 cwG_6 rfl hl.1 rfl (Nat.le_of_ble_eq_true rfl) dX5_six_66 (st1 := []) rfl (fun H locs I => ?_)
      refine lv_iload_n hx hb dX5_six_69 rfl (lv_at hl 0 rfl) ?_
      exact k_iret X I hr hlocks dX5_six_70 hf
    · rw [if_neg c4] at hf
      refine lv_bipush (v := (-104)) hx hb dX5_six_28 (by decide) ?_
      exact k_iret X I hr hlocks dX5_six_30 hf
  · rw [if_pos c2] at hf
    refine lv_bipush (v := (-103)) hx hb dX5_six_10 (by decide) ?_
    exact k_iret X I hr hlocks dX5_six_12 hf
/-! LostTent.isMatchQuestion(I)Z -/
abbrev rm_X5_isMatchQuestion : Room := { frames := 0, cells := 0, slots := 0, locals := 0 }
def f_X5_isMatchQuestion (x0 : Int32) : Option Int32 :=
  if x0 = 0 then
    xbo (1 : Int32)
  else
    if x0 = (1 : Int32) then
      xbo (1 : Int32)
    else
      if x0 < (10 : Int32) then
        xbo (0 : Int32)
      else
        if (12 : Int32) < x0 then
          xbo (0 : Int32)
        else
          xbo (1 : Int32)
set_option maxRecDepth 100000 in
set_option maxHeartbeats 8000000 in
theorem c_X5_isMatchQuestion {l : Launch} {D : va_G} {aI : ClassId} {q t : Nat → Nat} {x0 : Int32} {M : xM} {r : Int32} (hf : f_X5_isMatchQuestion x0 = some r) : kM l yX5_isMatchQuestion (wk yX5_isMatchQuestion cX5_isMatchQuestion 1 (some .boolean)) rm_X5_isMatchQuestion (cw q aI) D aI t [.int x0] M (some (.int r)) M := by
  refine kM_of (by decide) (Nat.le_of_ble_eq_true rfl) ?_
  intro p e s m args below meth c A ls X hr hlocks hl I
  have hx := X.1
  have hb := X.2.1
  have hl : lv_has ls 1 [(0, .int x0)] := hl
  rw [f_X5_isMatchQuestion] at hf
  refine lv_iload_n hx hb dX5_isMatchQuestion_0 rfl (lv_at hl 0 rfl) ?_
  refine lv_if_eq (tgt := 21) hx hb dX5_isMatchQuestion_1 (by decide) (fun c1 => ?_) (fun c1 => ?_)
  · rw [if_pos c1] at hf
    refine lv_iconst (v := 1) hx hb dX5_isMatchQuestion_21 (by decide) ?_
    refine lv_goto (tgt := 26) hx hb dX5_isMatchQuestion_22 (by decide) ?_
    exact k_zretP X I hr hlocks dX5_isMatchQuestion_26 hf
  · rw [if_neg c1] at hf
    refine lv_iload_n hx hb dX5_isMatchQuestion_4 rfl (lv_at hl 0 rfl) ?_
    refine lv_iconst (v := 1) hx hb dX5_isMatchQuestion_5 (by decide) ?_
    refine lv_icmp_eq (tgt := 21) hx hb dX5_isMatchQuestion_6 (by decide) (fun c2 => ?_) (fun c2 => ?_)
    · rw [if_pos c2] at hf
      refine lv_iconst (v := 1) hx hb dX5_isMatchQuestion_21 (by decide) ?_
      refine lv_goto (tgt := 26) hx hb dX5_isMatchQuestion_22 (by decide) ?_
      exact k_zretP X I hr hlocks dX5_isMatchQuestion_26 hf
    · rw [if_neg c2] at hf
      refine lv_iload_n hx hb dX5_isMatchQuestion_9 rfl (lv_at hl 0 rfl) ?_
      refine lv_bipush (v := 10) hx hb dX5_isMatchQuestion_10 (by decide) ?_
      refine lv_icmp_lt (tgt := 25) hx hb dX5_isMatchQuestion_12 (by decide) (fun c3 => ?_) (fun c3 => ?_)
      · rw [if_pos c3] at hf
        refine lv_iconst (v := 0) hx hb dX5_isMatchQuestion_25 (by decide) ?_
        exact k_zretP X I hr hlocks dX5_isMatchQuestion_26 hf
      · rw [if_neg c3] at hf
        refine lv_iload_n hx hb dX5_isMatchQuestion_15 rfl (lv_at hl 0 rfl) ?_
        refine lv_bipush (v := 12) hx hb dX5_isMatchQuestion_16 (by decide) ?_
        refine lv_icmp_gt (tgt := 25) hx hb dX5_isMatchQuestion_18 (by decide) (fun c4 => ?_) (fun c4 => ?_)
        · rw [if_pos c4] at hf
          refine lv_iconst (v := 0) hx hb dX5_isMatchQuestion_25 (by decide) ?_
          exact k_zretP X I hr hlocks dX5_isMatchQuestion_26 hf
        · rw [if_neg c4] at hf
          refine lv_iconst (v := 1) hx hb dX5_isMatchQuestion_21 (by decide) ?_
          refine lv_goto (tgt := 26) hx hb dX5_isMatchQuestion_22 (by decide) ?_
          exact k_zretP X I hr hlocks dX5_isMatchQuestion_26 hf
/-! LostTent$Matching.setPrices(LLostTent$Tent;)V -/
abbrev rm_X0_setPrices : Room := { frames := 4, cells := 0, slots := 0, locals := 90 }
def f_X0_setPrices_b119 (k10 : Int32 → xM → Option xM) (k44 : Int32 → Int32 → Int32 → xM → Option xM) (x2 : Int32) (x3 : Int32) (x4 : Int32) (y0 : Int32) (y1 : Int32) (Mb : xM) : Option xM :=
  nmM (xA Mb 13 (xp 15 (Mb.2.2 13) y1 y0)) fun M9 =>
  k44 x2 x3 (x4 + 1) M9
def f_X0_setPrices_b91 (k10 : Int32 → xM → Option xM) (k44 : Int32 → Int32 → Int32 → xM → Option xM) (x2 : Int32) (x3 : Int32) (x4 : Int32) (y0 : Int32) (Mb : xM) : Option xM :=
  if y0 = 0 then
    f_X0_setPrices_b119 k10 k44 x2 x3 x4 (-1 : Int32) ((x2 * (5 : Int32)) + x4) Mb
  else
    (f_X3_wrongOf x4 x2 Mb).bind fun r10 =>
    f_X0_setPrices_b119 k10 k44 x2 x3 x4 r10 ((x2 * (5 : Int32)) + x4) Mb
def f_X0_setPrices_b90 (k10 : Int32 → xM → Option xM) (k44 : Int32 → Int32 → Int32 → xM → Option xM) (x2 : Int32) (x3 : Int32) (x4 : Int32) (Mb : xM) : Option xM :=
  f_X0_setPrices_b91 k10 k44 x2 x3 x4 (0 : Int32) Mb
def f_X0_setPrices_l44 (k10 : Int32 → xM → Option xM) : Nat → Int32 → Int32 → Int32 → xM → Option xM
  | 0, _, _, _, _ => none
  | n44 + 1, x2, x3, x4, Mb =>
    if (5 : Int32) ≤ x4 then
      k10 (x2 + 1) Mb
    else
      if x3 = 0 then
        f_X0_setPrices_b90 k10 (f_X0_setPrices_l44 k10 n44) x2 x3 x4 Mb
      else
        (f_X3_hasThing x4 Mb).bind fun r11 =>
        if r11 = 0 then
          f_X0_setPrices_b90 k10 (f_X0_setPrices_l44 k10 n44) x2 x3 x4 Mb
        else
          (f_X2_holderOf x4 Mb).bind fun r13 =>
          if r13 = (-1 : Int32) then
            (f_X3_fits x4 x2 Mb).bind fun r15 =>
            if r15 = 0 then
              f_X0_setPrices_b90 k10 (f_X0_setPrices_l44 k10 n44) x2 x3 x4 Mb
            else
              f_X0_setPrices_b91 k10 (f_X0_setPrices_l44 k10 n44) x2 x3 x4 (1 : Int32) Mb
          else
            f_X0_setPrices_b90 k10 (f_X0_setPrices_l44 k10 n44) x2 x3 x4 Mb
def f_X0_setPrices_b40 (k10 : Int32 → xM → Option xM) (x2 : Int32) (y0 : Int32) (Mb : xM) : Option xM :=
  f_X0_setPrices_l44 k10 xN x2 y0 (0 : Int32) Mb
def f_X0_setPrices_b39 (k10 : Int32 → xM → Option xM) (x2 : Int32) (Mb : xM) : Option xM :=
  f_X0_setPrices_b40 k10 x2 (0 : Int32) Mb
def f_X0_setPrices_l10 : Nat → Int32 → xM → Option xM
  | 0, _, _ => none
  | n10 + 1, x2, Mb =>
    if (3 : Int32) ≤ x2 then
      some Mb
    else
      (f_X3_hasClaimer x2 Mb).bind fun r4 =>
      if r4 = 0 then
        f_X0_setPrices_b39 (f_X0_setPrices_l10 n10) x2 Mb
      else
        (f_X2_thingOf x2 Mb).bind fun r17 =>
        if r17 = (-1 : Int32) then
          f_X0_setPrices_b40 (f_X0_setPrices_l10 n10) x2 (1 : Int32) Mb
        else
          f_X0_setPrices_b39 (f_X0_setPrices_l10 n10) x2 Mb
def f_X0_setPrices (M : xM) : Option xM :=
  (f_X3_things M).bind fun r1 =>
  nmM (xI M 13 r1) fun M2 =>
  f_X0_setPrices_l10 xN (0 : Int32) M2
set_option maxRecDepth 100000 in
set_option maxHeartbeats 8000000 in
theorem c_X0_setPrices {l : Launch} {D : va_G} {aI : ClassId} {q t : Nat → Nat} {M : xM} {Mr : xM} (hf : f_X0_setPrices M = some Mr) : kM l yX0_setPrices (wk yX0_setPrices cX0_setPrices 6 none) rm_X0_setPrices (cw q aI) D aI t [.ref (q 18), .ref (q 3)] M none Mr := by
  refine kM_of (by decide) (Nat.le_of_ble_eq_true rfl) ?_
  intro p e s m args below meth c A ls X hr hlocks hl I
  have hx := X.1
  have hb := X.2.1
  have hl : lv_has ls 6 [(0, .ref (q 18)), (1, .ref (q 3))] := hl
  have B119 : ∀ (k10 : Int32 → xM → Option xM), (∀ (x2 : Int32) (Mb : xM) (H : Heap) (locs : List Loc) (ls : Array Slot), k10 x2 Mb = some Mr → kI (cw q aI) D A s Mb H locs → lv_has ls 6 [(0, .ref (q 18)), (1, .ref (q 3)), (2, .int x2)] → W p l e rm_X0_setPrices s m args below meth c H locs 0 0 (MQ below (kQ (cw q aI) D A none Mr) args s 0 0 A) (F0 m 10 ls [])) → ∀ (k44 : Int32 → Int32 → Int32 → xM → Option xM), (∀ (x2 : Int32) (x3 : Int32) (x4 : Int32) (Mb : xM) (H : Heap) (locs : List Loc) (ls : Array Slot), k44 x2 x3 x4 Mb = some Mr → kI (cw q aI) D A s Mb H locs → lv_has ls 6 [(0, .ref (q 18)), (1, .ref (q 3)), (2, .int x2), (3, .int x3), (4, .int x4)] → W p l e rm_X0_setPrices s m args below meth c H locs 0 0 (MQ below (kQ (cw q aI) D A none Mr) args s 0 0 A) (F0 m 44 ls [])) → ∀ (x2 : Int32) (x3 : Int32) (x4 : Int32) (y0 : Int32) (y1 : Int32) (Mb : xM) (H : Heap) (locs : List Loc) (ls : Array Slot), f_X0_setPrices_b119 k10 k44 x2 x3 x4 y0 y1 Mb = some Mr → kI (cw q aI) D A s Mb H locs → lv_has ls 6 [(0, .ref (q 18)), (1, .ref (q 3)), (2, .int x2), (3, .int x3), (4, .int x4)] → W p l e rm_X0_setPrices s m args below meth c H locs 0 0 (MQ below (kQ (cw q aI) D A none Mr) args s 0 0 A) (F0 m 119 ls [.int y0, .int y1, .ref (q 19)]) := by
    intro k10 hk10 k44 hk44 x2 x3 x4 y0 y1 Mb H locs ls hf I hl
    rw [f_X0_setPrices_b119] at hf
    obtain ⟨M9, e_M9, hf⟩ := k_nm hf
    refine k_callSN (n := 3) (As := [.ref (q 19), .int y1, .int y0]) (rest := []) X I (c_put (M' := M9) 19 cwG_19 (by decide) (cwA_13.trans (congrArg (cw q aI) e_M9))) (List.mem_of_getElem? (i := 12) rfl) uw_1_1 uw_1_58 uw_1_59 ⟨rfl, rfl⟩ (by decide +kernel) rfl ⟨Nat.le_of_ble_eq_true rfl, Nat.le_of_ble_eq_true rfl⟩ ⟨Nat.le_of_ble_eq_true rfl, Nat.le_of_ble_eq_true rfl⟩ hl.1 rfl (Nat.le_of_ble_eq_true rfl) dX0_setPrices_119 (st1 := []) rfl (fun H locs I => ?_)
    refine lv_iinc (v := (x4 + 1)) (lv' := [(4, .int (x4 + 1)), (0, .ref (q 18)), (1, .ref (q 3)), (2, .int x2), (3, .int x3)]) hx hb dX0_setPrices_122 hl (k := 4) rfl rfl (by decide) rfl (fun ls hl => ?_)
    refine lv_goto (tgt := 44) hx hb dX0_setPrices_125 (by decide) ?_
    exact hk44 x2 x3 (x4 + 1) M9 _ _ ls hf I (lv_sub hl [1, 2, 3, 4, 0] rfl)
  have B91 : ∀ (k10 : Int32 → xM → Option xM), (∀ (x2 : Int32) (Mb : xM) (H : Heap) (locs : List Loc) (ls : Array Slot), k10 x2 Mb = some Mr → kI (cw q aI) D A s Mb H locs → lv_has ls 6 [(0, .ref (q 18)), (1, .ref (q 3)), (2, .int x2)] → W p l e rm_X0_setPrices s m args below meth c H locs 0 0 (MQ below (kQ (cw q aI) D A none Mr) args s 0 0 A) (F0 m 10 ls [])) → ∀ (k44 : Int32 → Int32 → Int32 → xM → Option xM), (∀ (x2 : Int32) (x3 : Int32) (x4 : Int32) (Mb : xM) (H : Heap) (locs : List Loc) (ls : Array Slot), k44 x2 x3 x4 Mb = some Mr → kI (cw q aI) D A s Mb H locs → lv_has ls 6 [(0, .ref (q 18)), (1, .ref (q 3)), (2, .int x2), (3, .int x3), (4, .int x4)] → W p l e rm_X0_setPrices s m args below meth c H locs 0 0 (MQ below (kQ (cw q aI) D A none Mr) args s 0 0 A) (F0 m 44 ls [])) → ∀ (x2 : Int32) (x3 : Int32) (x4 : Int32) (y0 : Int32) (Mb : xM) (H : Heap) (locs : List Loc) (ls : Array Slot), f_X0_setPrices_b91 k10 k44 x2 x3 x4 y0 Mb = some Mr → kI (cw q aI) D A s Mb H locs → lv_has ls 6 [(0, .ref (q 18)), (1, .ref (q 3)), (2, .int x2), (3, .int x3), (4, .int x4)] → W p l e rm_X0_setPrices s m args below meth c H locs 0 0 (MQ below (kQ (cw q aI) D A none Mr) args s 0 0 A) (F0 m 91 ls [.int y0]) := by
    intro k10 hk10 k44 hk44 x2 x3 x4 y0 Mb H locs ls hf I hl
    rw [f_X0_setPrices_b91] at hf
    refine lv_istore (lv' := [(5, .int y0), (0, .ref (q 18)), (1, .ref (q 3)), (2, .int x2), (3, .int x3), (4, .int x4)]) hx hb dX0_setPrices_91 hl (by decide) rfl (fun ls hl => ?_)
    refine lv_aload_n hx hb dX0_setPrices_93 rfl (lv_at hl 1 rfl) ?_
    refine k_get (T := TX0) (N := 5) X I inU0 18 cwG_18 rfl 0 (by decide) uw_1_116 rfl rfl dX0_setPrices_94 ?_
    refine lv_iload_n hx hb dX0_setPrices_97 rfl (lv_at hl 3 rfl) ?_
    refine lv_iconst (v := 5) hx hb dX0_setPrices_98 (by decide) ?_
    refine lv_imul hx hb dX0_setPrices_99 ?_
    refine lv_iload hx hb dX0_setPrices_100 (lv_at hl 5 rfl) ?_
    refine lv_iadd hx hb dX0_setPrices_102 ?_
    refine lv_iload hx hb dX0_setPrices_103 (lv_at hl 0 rfl) ?_
    refine lv_if_eq (tgt := 118) hx hb dX0_setPrices_105 (by decide) (fun c8 => ?_) (fun c8 => ?_)
    · rw [if_pos c8] at hf
      refine lv_iconst (v := (-1)) hx hb dX0_setPrices_118 (by decide) ?_
      exact B119 k10 hk10 k44 hk44 x2 x3 x4 (-1 : Int32) ((x2 * (5 : Int32)) + x4) Mb _ _ ls hf I (lv_sub hl [1, 2, 3, 4, 5] rfl)
    · rw [if_neg c8] at hf
      refine lv_aload_n hx hb dX0_setPrices_108 rfl (lv_at hl 2 rfl) ?_
      refine lv_iload hx hb dX0_setPrices_109 (lv_at hl 5 rfl) ?_
      refine lv_iload_n hx hb dX0_setPrices_111 rfl (lv_at hl 3 rfl) ?_
      obtain ⟨r10, h_r10, hf⟩ := k_bind hf
      refine k_callV (n := 2) (As := [.int x4, .int x2]) (rest := [.int ((x2 * (5 : Int32)) + x4), .ref (q 19)]) X I (c_X3_wrongOf h_r10) uw_3_90 uw_3_22 uw_3_23 uw_1_3 uw_3_24 ⟨rfl, rfl⟩ (by decide +kernel) rfl ⟨Nat.le_of_ble_eq_true rfl, Nat.le_of_ble_eq_true rfl⟩ ⟨Nat.le_of_ble_eq_true rfl, Nat.le_of_ble_eq_true rfl⟩ 3 cwG_3 rfl hl.1 rfl (Nat.le_of_ble_eq_true rfl) dX0_setPrices_112 (st1 := [.int r10, .int ((x2 * (5 : Int32)) + x4), .ref (q 19)]) rfl (fun H locs I => ?_)
      refine lv_goto (tgt := 119) hx hb dX0_setPrices_115 (by decide) ?_
      exact B119 k10 hk10 k44 hk44 x2 x3 x4 r10 ((x2 * (5 : Int32)) + x4) Mb _ _ ls hf I (lv_sub hl [1, 2, 3, 4, 5] rfl)
  have B90 : ∀ (k10 : Int32 → xM → Option xM), (∀ (x2 : Int32) (Mb : xM) (H : Heap) (locs : List Loc) (ls : Array Slot), k10 x2 Mb = some Mr → kI (cw q aI) D A s Mb H locs → lv_has ls 6 [(0, .ref (q 18)), (1, .ref (q 3)), (2, .int x2)] → W p l e rm_X0_setPrices s m args below meth c H locs 0 0 (MQ below (kQ (cw q aI) D A none Mr) args s 0 0 A) (F0 m 10 ls [])) → ∀ (k44 : Int32 → Int32 → Int32 → xM → Option xM), (∀ (x2 : Int32) (x3 : Int32) (x4 : Int32) (Mb : xM) (H : Heap) (locs : List Loc) (ls : Array Slot), k44 x2 x3 x4 Mb = some Mr → kI (cw q aI) D A s Mb H locs → lv_has ls 6 [(0, .ref (q 18)), (1, .ref (q 3)), (2, .int x2), (3, .int x3), (4, .int x4)] → W p l e rm_X0_setPrices s m args below meth c H locs 0 0 (MQ below (kQ (cw q aI) D A none Mr) args s 0 0 A) (F0 m 44 ls [])) → ∀ (x2 : Int32) (x3 : Int32) (x4 : Int32) (Mb : xM) (H : Heap) (locs : List Loc) (ls : Array Slot), f_X0_setPrices_b90 k10 k44 x2 x3 x4 Mb = some Mr → kI (cw q aI) D A s Mb H locs → lv_has ls 6 [(0, .ref (q 18)), (1, .ref (q 3)), (2, .int x2), (3, .int x3), (4, .int x4)] → W p l e rm_X0_setPrices s m args below meth c H locs 0 0 (MQ below (kQ (cw q aI) D A none Mr) args s 0 0 A) (F0 m 90 ls []) := by
    intro k10 hk10 k44 hk44 x2 x3 x4 Mb H locs ls hf I hl
    rw [f_X0_setPrices_b90] at hf
    refine lv_iconst (v := 0) hx hb dX0_setPrices_90 (by decide) ?_
    exact B91 k10 hk10 k44 hk44 x2 x3 x4 (0 : Int32) Mb _ _ ls hf I (lv_sub hl [0, 1, 2, 3, 4] rfl)
  have B44 : ∀ (k10 : Int32 → xM → Option xM), (∀ (x2 : Int32) (Mb : xM) (H : Heap) (locs : List Loc) (ls : Array Slot), k10 x2 Mb = some Mr → kI (cw q aI) D A s Mb H locs → lv_has ls 6 [(0, .ref (q 18)), (1, .ref (q 3)), (2, .int x2)] → W p l e rm_X0_setPrices s m args below meth c H locs 0 0 (MQ below (kQ (cw q aI) D A none Mr) args s 0 0 A) (F0 m 10 ls [])) → ∀ (n44 : Nat), ∀ (x2 : Int32) (x3 : Int32) (x4 : Int32) (Mb : xM) (H : Heap) (locs : List Loc) (ls : Array Slot), f_X0_setPrices_l44 k10 n44 x2 x3 x4 Mb = some Mr → kI (cw q aI) D A s Mb H locs → lv_has ls 6 [(0, .ref (q 18)), (1, .ref (q 3)), (2, .int x2), (3, .int x3), (4, .int x4)] → W p l e rm_X0_setPrices s m args below meth c H locs 0 0 (MQ below (kQ (cw q aI) D A none Mr) args s 0 0 A) (F0 m 44 ls []) := by
    intro k10 hk10
    intro n44
    induction n44 with
    | zero =>
      intro x2 x3 x4 Mb H locs ls hf I hl
      rw [f_X0_setPrices_l44] at hf
      cases hf
    | succ n44 ih44 =>
      intro x2 x3 x4 Mb H locs ls hf I hl
      rw [f_X0_setPrices_l44] at hf
      refine lv_iload hx hb dX0_setPrices_44 (lv_at hl 4 rfl) ?_
      refine lv_iconst (v := 5) hx hb dX0_setPrices_46 (by decide) ?_
      refine lv_icmp_ge (tgt := 128) hx hb dX0_setPrices_47 (by decide) (fun c6 => ?_) (fun c6 => ?_)
      · rw [if_pos c6] at hf
        refine lv_iinc (v := (x2 + 1)) (lv' := [(2, .int (x2 + 1)), (0, .ref (q 18)), (1, .ref (q 3)), (3, .int x3), (4, .int x4)]) hx hb dX0_setPrices_128 hl (k := 2) rfl rfl (by decide) rfl (fun ls hl => ?_)
        refine lv_goto (tgt := 10) hx hb dX0_setPrices_131 (by decide) ?_
        exact hk10 (x2 + 1) Mb _ _ ls hf I (lv_sub hl [1, 2, 0] rfl)
      · rw [if_neg c6] at hf
        refine lv_iload_n hx hb dX0_setPrices_50 rfl (lv_at hl 3 rfl) ?_
        refine lv_if_eq (tgt := 90) hx hb dX0_setPrices_51 (by decide) (fun c7 => ?_) (fun c7 => ?_)
        · rw [if_pos c7] at hf
          exact B90 k10 hk10 (f_X0_setPrices_l44 k10 n44) ih44 x2 x3 x4 Mb _ _ ls hf I (lv_sub hl [0, 1, 2, 3, 4] rfl)
        · rw [if_neg c7] at hf
          refine lv_aload_n hx hb dX0_setPrices_54 rfl (lv_at hl 1 rfl) ?_
          refine lv_iload hx hb dX0_setPrices_55 (lv_at hl 4 rfl) ?_
          obtain ⟨r11, h_r11, hf⟩ := k_bind hf
          refine k_callV (n := 1) (As := [.int x4]) (rest := []) X I (c_X3_hasThing h_r11) uw_3_87 uw_2_113 uw_2_114 uw_1_3 uw_2_115 ⟨rfl, rfl⟩ (by decide +kernel) rfl ⟨Nat.le_of_ble_eq_true rfl, Nat.le_of_ble_eq_true rfl⟩ ⟨Nat.le_of_ble_eq_true rfl, Nat.le_of_ble_eq_true rfl⟩ 3 cwG_3 rfl hl.1 rfl (Nat.le_of_ble_eq_true rfl) dX0_setPrices_57 (st1 := [.int r11]) rfl (fun H locs I => ?_)
          refine lv_if_eq (tgt := 90) hx hb dX0_setPrices_60 (by decide) (fun c12 => ?_) (fun c12 => ?_)
          · rw [if_pos c12] at hf
            exact B90 k10 hk10 (f_X0_setPrices_l44 k10 n44) ih44 x2 x3 x4 Mb _ _ ls hf I (lv_sub hl [0, 1, 2, 3, 4] rfl)
          · rw [if_neg c12] at hf
            refine lv_aload_n hx hb dX0_setPrices_63 rfl (lv_at hl 1 rfl) ?_
            refine k_callV (n := 0) (As := []) (rest := []) X I c_X3_register uw_3_85 uw_2_123 uw_2_124 uw_1_3 uw_2_125 ⟨rfl, rfl⟩ (by decide +kernel) rfl ⟨Nat.le_of_ble_eq_true rfl, Nat.le_of_ble_eq_true rfl⟩ ⟨Nat.le_of_ble_eq_true rfl, Nat.le_of_ble_eq_true rfl⟩ 3 cwG_3 rfl hl.1 rfl (Nat.le_of_ble_eq_true rfl) dX0_setPrices_64 (st1 := [.ref (q 6)]) rfl (fun H locs I => ?_)
            refine lv_iload hx hb dX0_setPrices_67 (lv_at hl 4 rfl) ?_
            obtain ⟨r13, h_r13, hf⟩ := k_bind hf
            refine k_callV (n := 1) (As := [.int x4]) (rest := []) X I (c_X2_holderOf h_r13) uw_3_88 uw_2_127 uw_2_128 uw_1_4 uw_2_129 ⟨rfl, rfl⟩ (by decide +kernel) rfl ⟨Nat.le_of_ble_eq_true rfl, Nat.le_of_ble_eq_true rfl⟩ ⟨Nat.le_of_ble_eq_true rfl, Nat.le_of_ble_eq_true rfl⟩ 6 cwG_6 rfl hl.1 rfl (Nat.le_of_ble_eq_true rfl) dX0_setPrices_69 (st1 := [.int r13]) rfl (fun H locs I => ?_)
            refine lv_iconst (v := (-1)) hx hb dX0_setPrices_72 (by decide) ?_
            refine lv_icmp_ne (tgt := 90) hx hb dX0_setPrices_73 (by decide) (fun c14 => ?_) (fun c14 => ?_)
            · rw [if_neg c14] at hf
              exact B90 k10 hk10 (f_X0_setPrices_l44 k10 n44) ih44 x2 x3 x4 Mb _ _ ls hf I (lv_sub hl [0, 1, 2, 3, 4] rfl)
            · rw [if_pos c14] at hf
              refine lv_aload_n hx hb dX0_setPrices_76 rfl (lv_at hl 1 rfl) ?_
              refine lv_iload hx hb dX0_setPrices_77 (lv_at hl 4 rfl) ?_
              refine lv_iload_n hx hb dX0_setPrices_79 rfl (lv_at hl 2 rfl) ?_
              obtain ⟨r15, h_r15, hf⟩ := k_bind hf
              refine k_callV (n := 2) (As := [.int x4, .int x2]) (rest := []) X I (c_X3_fits h_r15) uw_3_89 uw_2_136 uw_2_137 uw_1_3 uw_2_138 ⟨rfl, rfl⟩ (by decide +kernel) rfl ⟨Nat.le_of_ble_eq_true rfl, Nat.le_of_ble_eq_true rfl⟩ ⟨Nat.le_of_ble_eq_true rfl, Nat.le_of_ble_eq_true rfl⟩ 3 cwG_3 rfl hl.1 rfl (Nat.le_of_ble_eq_true rfl) dX0_setPrices_80 (st1 := [.int r15]) rfl (fun H locs I => ?_)
              refine lv_if_eq (tgt := 90) hx hb dX0_setPrices_83 (by decide) (fun c16 => ?_) (fun c16 => ?_)
              · rw [if_pos c16] at hf
                exact B90 k10 hk10 (f_X0_setPrices_l44 k10 n44) ih44 x2 x3 x4 Mb _ _ ls hf I (lv_sub hl [0, 1, 2, 3, 4] rfl)
              · rw [if_neg c16] at hf
                refine lv_iconst (v := 1) hx hb dX0_setPrices_86 (by decide) ?_
                refine lv_goto (tgt := 91) hx hb dX0_setPrices_87 (by decide) ?_
                exact B91 k10 hk10 (f_X0_setPrices_l44 k10 n44) ih44 x2 x3 x4 (1 : Int32) Mb _ _ ls hf I (lv_sub hl [0, 1, 2, 3, 4] rfl)
  have B40 : ∀ (k10 : Int32 → xM → Option xM), (∀ (x2 : Int32) (Mb : xM) (H : Heap) (locs : List Loc) (ls : Array Slot), k10 x2 Mb = some Mr → kI (cw q aI) D A s Mb H locs → lv_has ls 6 [(0, .ref (q 18)), (1, .ref (q 3)), (2, .int x2)] → W p l e rm_X0_setPrices s m args below meth c H locs 0 0 (MQ below (kQ (cw q aI) D A none Mr) args s 0 0 A) (F0 m 10 ls [])) → ∀ (x2 : Int32) (y0 : Int32) (Mb : xM) (H : Heap) (locs : List Loc) (ls : Array Slot), f_X0_setPrices_b40 k10 x2 y0 Mb = some Mr → kI (cw q aI) D A s Mb H locs → lv_has ls 6 [(0, .ref (q 18)), (1, .ref (q 3)), (2, .int x2)] → W p l e rm_X0_setPrices s m args below meth c H locs 0 0 (MQ below (kQ (cw q aI) D A none Mr) args s 0 0 A) (F0 m 40 ls [.int y0]) := by
    intro k10 hk10 x2 y0 Mb H locs ls hf I hl
    rw [f_X0_setPrices_b40] at hf
    refine lv_istore_n (lv' := [(3, .int y0), (0, .ref (q 18)), (1, .ref (q 3)), (2, .int x2)]) hx hb dX0_setPrices_40 rfl hl (by decide) rfl (fun ls hl => ?_)
    refine lv_iconst (v := 0) hx hb dX0_setPrices_41 (by decide) ?_
    refine lv_istore (lv' := [(4, .int (0 : Int32)), (3, .int y0), (0, .ref (q 18)), (1, .ref (q 3)), (2, .int x2)]) hx hb dX0_setPrices_42 hl (by decide) rfl (fun ls hl => ?_)
    exact B44 k10 hk10 xN x2 y0 (0 : Int32) Mb _ _ ls hf I (lv_sub hl [2, 3, 4, 1, 0] rfl)
  have B39 : ∀ (k10 : Int32 → xM → Option xM), (∀ (x2 : Int32) (Mb : xM) (H : Heap) (locs : List Loc) (ls : Array Slot), k10 x2 Mb = some Mr → kI (cw q aI) D A s Mb H locs → lv_has ls 6 [(0, .ref (q 18)), (1, .ref (q 3)), (2, .int x2)] → W p l e rm_X0_setPrices s m args below meth c H locs 0 0 (MQ below (kQ (cw q aI) D A none Mr) args s 0 0 A) (F0 m 10 ls [])) → ∀ (x2 : Int32) (Mb : xM) (H : Heap) (locs : List Loc) (ls : Array Slot), f_X0_setPrices_b39 k10 x2 Mb = some Mr → kI (cw q aI) D A s Mb H locs → lv_has ls 6 [(0, .ref (q 18)), (1, .ref (q 3)), (2, .int x2)] → W p l e rm_X0_setPrices s m args below meth c H locs 0 0 (MQ below (kQ (cw q aI) D A none Mr) args s 0 0 A) (F0 m 39 ls []) := by
    intro k10 hk10 x2 Mb H locs ls hf I hl
    rw [f_X0_setPrices_b39] at hf
    refine lv_iconst (v := 0) hx hb dX0_setPrices_39 (by decide) ?_
    exact B40 k10 hk10 x2 (0 : Int32) Mb _ _ ls hf I (lv_sub hl [0, 1, 2] rfl)
  have B10 : ∀ (n10 : Nat), ∀ (x2 : Int32) (Mb : xM) (H : Heap) (locs : List Loc) (ls : Array Slot), f_X0_setPrices_l10 n10 x2 Mb = some Mr → kI (cw q aI) D A s Mb H locs → lv_has ls 6 [(0, .ref (q 18)), (1, .ref (q 3)), (2, .int x2)] → W p l e rm_X0_setPrices s m args below meth c H locs 0 0 (MQ below (kQ (cw q aI) D A none Mr) args s 0 0 A) (F0 m 10 ls []) := by
    intro n10
    induction n10 with
    | zero =>
      intro x2 Mb H locs ls hf I hl
      rw [f_X0_setPrices_l10] at hf
      cases hf
    | succ n10 ih10 =>
      intro x2 Mb H locs ls hf I hl
      rw [f_X0_setPrices_l10] at hf
      refine lv_iload_n hx hb dX0_setPrices_10 rfl (lv_at hl 2 rfl) ?_
      refine lv_iconst (v := 3) hx hb dX0_setPrices_11 (by decide) ?_
      refine lv_icmp_ge (tgt := 134) hx hb dX0_setPrices_12 (by decide) (fun c3 => ?_) (fun c3 => ?_)
      · rw [if_pos c3] at hf
        exact k_vret X I hr hlocks dX0_setPrices_134 hf
      · rw [if_neg c3] at hf
        refine lv_aload_n hx hb dX0_setPrices_15 rfl (lv_at hl 1 rfl) ?_
        refine lv_iload_n hx hb dX0_setPrices_16 rfl (lv_at hl 2 rfl) ?_
        obtain ⟨r4, h_r4, hf⟩ := k_bind hf
        refine k_callV (n := 1) (As := [.int x2]) (rest := []) X I (c_X3_hasClaimer h_r4) uw_3_84 uw_2_210 uw_2_211 uw_1_3 uw_2_212 ⟨rfl, rfl⟩ (by decide +kernel) rfl ⟨Nat.le_of_ble_eq_true rfl, Nat.le_of_ble_eq_true rfl⟩ ⟨Nat.le_of_ble_eq_true rfl, Nat.le_of_ble_eq_true rfl⟩ 3 cwG_3 rfl hl.1 rfl (Nat.le_of_ble_eq_true rfl) dX0_setPrices_17 (st1 := [.int r4]) rfl (fun H locs I => ?_)
        refine lv_if_eq (tgt := 39) hx hb dX0_setPrices_20 (by decide) (fun c5 => ?_) (fun c5 => ?_)
        · rw [if_pos c5] at hf
          exact B39 (f_X0_setPrices_l10 n10) ih10 x2 Mb _ _ ls hf I (lv_sub hl [0, 1, 2] rfl)
        · rw [if_neg c5] at hf
          refine lv_aload_n hx hb dX0_setPrices_23 rfl (lv_at hl 1 rfl) ?_
          refine k_callV (n := 0) (As := []) (rest := []) X I c_X3_register uw_3_85 uw_2_123 uw_2_124 uw_1_3 uw_2_125 ⟨rfl, rfl⟩ (by decide +kernel) rfl ⟨Nat.le_of_ble_eq_true rfl, Nat.le_of_ble_eq_true rfl⟩ ⟨Nat.le_of_ble_eq_true rfl, Nat.le_of_ble_eq_true rfl⟩ 3 cwG_3 rfl hl.1 rfl (Nat.le_of_ble_eq_true rfl) dX0_setPrices_24 (st1 := [.ref (q 6)]) rfl (fun H locs I => ?_)
          refine lv_iload_n hx hb dX0_setPrices_27 rfl (lv_at hl 2 rfl) ?_
          obtain ⟨r17, h_r17, hf⟩ := k_bind hf
          refine k_callV (n := 1) (As := [.int x2]) (rest := []) X I (c_X2_thingOf h_r17) uw_3_86 uw_2_216 uw_2_217 uw_1_4 uw_2_218 ⟨rfl, rfl⟩ (by decide +kernel) rfl ⟨Nat.le_of_ble_eq_true rfl, Nat.le_of_ble_eq_true rfl⟩ ⟨Nat.le_of_ble_eq_true rfl, Nat.le_of_ble_eq_true rfl⟩ 6 cwG_6 rfl hl.1 rfl (Nat.le_of_ble_eq_true rfl) dX0_setPrices_28 (st1 := [.int r17]) rfl (fun H locs I => ?_)
          refine lv_iconst (v := (-1)) hx hb dX0_setPrices_31 (by decide) ?_
          refine lv_icmp_ne (tgt := 39) hx hb dX0_setPrices_32 (by decide) (fun c18 => ?_) (fun c18 => ?_)
          · rw [if_neg c18] at hf
            exact B39 (f_X0_setPrices_l10 n10) ih10 x2 Mb _ _ ls hf I (lv_sub hl [0, 1, 2] rfl)
          · rw [if_pos c18] at hf
            refine lv_iconst (v := 1) hx hb dX0_setPrices_35 (by decide) ?_
            refine lv_goto (tgt := 40) hx hb dX0_setPrices_36 (by decide) ?_
            exact B40 (f_X0_setPrices_l10 n10) ih10 x2 (1 : Int32) Mb _ _ ls hf I (lv_sub hl [0, 1, 2] rfl)
  rw [f_X0_setPrices] at hf
  refine lv_aload_n hx hb dX0_setPrices_0 rfl (lv_at hl 0 rfl) ?_
  refine lv_aload_n hx hb dX0_setPrices_1 rfl (lv_at hl 1 rfl) ?_
  obtain ⟨r1, h_r1, hf⟩ := k_bind hf
  refine k_callV (n := 0) (As := []) (rest := [.ref (q 18)]) X I (c_X3_things h_r1) uw_3_83 uw_2_105 uw_2_106 uw_1_3 uw_2_107 ⟨rfl, rfl⟩ (by decide +kernel) rfl ⟨Nat.le_of_ble_eq_true rfl, Nat.le_of_ble_eq_true rfl⟩ ⟨Nat.le_of_ble_eq_true rfl, Nat.le_of_ble_eq_true rfl⟩ 3 cwG_3 rfl hl.1 rfl (Nat.le_of_ble_eq_true rfl) dX0_setPrices_2 (st1 := [.int r1, .ref (q 18)]) rfl (fun H locs I => ?_)
  obtain ⟨M2, e_M2, hf⟩ := k_nm hf
  refine k_put (T := TX0) (N := 5) (M1 := M2) X I inU0 tyX0 tyX0_ok nmX0 18 cwG_18 rfl 2 (by decide) uw_1_118 rfl rfl (tyX0_ok 2 (by decide)) rfl rfl (Nat.le_of_ble_eq_true rfl) dX0_setPrices_5 (cwI_13.trans (congrArg (cw q aI) e_M2)) (fun H locs I => ?_)
  refine lv_iconst (v := 0) hx hb dX0_setPrices_8 (by decide) ?_
  refine lv_istore_n (lv' := [(2, .int (0 : Int32)), (0, .ref (q 18)), (1, .ref (q 3))]) hx hb dX0_setPrices_9 rfl hl (by decide) rfl (fun ls hl => ?_)
  exact B10 xN (0 : Int32) M2 _ _ ls hf I (lv_sub hl [1, 2, 0] rfl)
/-! LostTent$Matching.price(II)I -/
abbrev rm_X0_price : Room := { frames := 1, cells := 0, slots := 0, locals := 21 }
def f_X0_price (x1 : Int32) (x2 : Int32) (M : xM) : Option Int32 :=
  some (xe 15 (M.2.2 13) ((x1 * (5 : Int32)) + x2))
set_option maxRecDepth 100000 in
set_option maxHeartbeats 8000000 in
theorem c_X0_price {l : Launch} {D : va_G} {aI : ClassId} {q t : Nat → Nat} {x1 : Int32} {x2 : Int32} {M : xM} {r : Int32} (hf : f_X0_price x1 x2 M = some r) : kM l yX0_price (wk yX0_price cX0_price 3 (some .int)) rm_X0_price (cw q aI) D aI t [.ref (q 18), .int x1, .int x2] M (some (.int r)) M := by
  refine kM_of (by decide) (Nat.le_of_ble_eq_true rfl) ?_
  intro p e s m args below meth c A ls X hr hlocks hl I
  have hx := X.1
  have hb := X.2.1
  have hl : lv_has ls 3 [(0, .ref (q 18)), (1, .int x1), (2, .int x2)] := hl
  rw [f_X0_price] at hf
  refine lv_aload_n hx hb dX0_price_0 rfl (lv_at hl 0 rfl) ?_
  refine k_get (T := TX0) (N := 5) X I inU0 18 cwG_18 rfl 0 (by decide) uw_1_116 rfl rfl dX0_price_1 ?_
  refine lv_iload_n hx hb dX0_price_4 rfl (lv_at hl 1 rfl) ?_
  refine lv_iconst (v := 5) hx hb dX0_price_5 (by decide) ?_
  refine lv_imul hx hb dX0_price_6 ?_
  refine lv_iload_n hx hb dX0_price_7 rfl (lv_at hl 2 rfl) ?_
  refine lv_iadd hx hb dX0_price_8 ?_
  refine k_callSN (n := 2) (As := [.ref (q 19), .int ((x1 * (5 : Int32)) + x2)]) (rest := []) X I (c_entry 19 cwG_19 (by decide)) (List.mem_of_getElem? (i := 13) rfl) uw_1_1 uw_1_198 uw_1_199 ⟨rfl, rfl⟩ (by decide +kernel) rfl ⟨Nat.le_of_ble_eq_true rfl, Nat.le_of_ble_eq_true rfl⟩ ⟨Nat.le_of_ble_eq_true rfl, Nat.le_of_ble_eq_true rfl⟩ hl.1 rfl (Nat.le_of_ble_eq_true rfl) dX0_price_9 (st1 := [.int (xe 15 (M.2.2 13) ((x1 * (5 : Int32)) + x2))]) rfl (fun H locs I => ?_)
  exact k_iretP X I hr hlocks dX0_price_12 hf
/-! LostTent$Matching.may(II)Z -/
abbrev rm_X0_may : Room := { frames := 2, cells := 0, slots := 0, locals := 43 }
def f_X0_may (x1 : Int32) (x2 : Int32) (M : xM) : Option Int32 :=
  if x2 = (-1 : Int32) then
    xbo (1 : Int32)
  else
    (f_X0_price x1 x2 M).bind fun r2 =>
    if r2 = (-1 : Int32) then
      xbo (0 : Int32)
    else
      xbo (1 : Int32)
set_option maxRecDepth 100000 in
set_option maxHeartbeats 8000000 in
theorem c_X0_may {l : Launch} {D : va_G} {aI : ClassId} {q t : Nat → Nat} {x1 : Int32} {x2 : Int32} {M : xM} {r : Int32} (hf : f_X0_may x1 x2 M = some r) : kM l yX0_may (wk yX0_may cX0_may 3 (some .boolean)) rm_X0_may (cw q aI) D aI t [.ref (q 18), .int x1, .int x2] M (some (.int r)) M := by
  refine kM_of (by decide) (Nat.le_of_ble_eq_true rfl) ?_
  intro p e s m args below meth c A ls X hr hlocks hl I
  have hx := X.1
  have hb := X.2.1
  have hl : lv_has ls 3 [(0, .ref (q 18)), (1, .int x1), (2, .int x2)] := hl
  rw [f_X0_may] at hf
  refine lv_iload_n hx hb dX0_may_0 rfl (lv_at hl 2 rfl) ?_
  refine lv_iconst (v := (-1)) hx hb dX0_may_1 (by decide) ?_
  refine lv_icmp_eq (tgt := 15) hx hb dX0_may_2 (by decide) (fun c1 => ?_) (fun c1 => ?_)
  · rw [if_pos c1] at hf
    refine lv_iconst (v := 1) hx hb dX0_may_15 (by decide) ?_
    refine lv_goto (tgt := 20) hx hb dX0_may_16 (by decide) ?_
    exact k_zretP X I hr hlocks dX0_may_20 hf
  · rw [if_neg c1] at hf
    refine lv_aload_n hx hb dX0_may_5 rfl (lv_at hl 0 rfl) ?_
    refine lv_iload_n hx hb dX0_may_6 rfl (lv_at hl 1 rfl) ?_
    refine lv_iload_n hx hb dX0_may_7 rfl (lv_at hl 2 rfl) ?_
    obtain ⟨r2, h_r2, hf⟩ := k_bind hf
    refine k_callV (n := 2) (As := [.int x1, .int x2]) (rest := []) X I (c_X0_price h_r2) uw_3_96 uw_3_98 us_8 uw_1_5 uw_3_99 ⟨rfl, rfl⟩ (by decide +kernel) rfl ⟨Nat.le_of_ble_eq_true rfl, Nat.le_of_ble_eq_true rfl⟩ ⟨Nat.le_of_ble_eq_true rfl, Nat.le_of_ble_eq_true rfl⟩ 18 cwG_18 rfl hl.1 rfl (Nat.le_of_ble_eq_true rfl) dX0_may_8 (st1 := [.int r2]) rfl (fun H locs I => ?_)
    refine lv_iconst (v := (-1)) hx hb dX0_may_11 (by decide) ?_
    refine lv_icmp_eq (tgt := 19) hx hb dX0_may_12 (by decide) (fun c3 => ?_) (fun c3 => ?_)
    · rw [if_pos c3] at hf
      refine lv_iconst (v := 0) hx hb dX0_may_19 (by decide) ?_
      exact k_zretP X I hr hlocks dX0_may_20 hf
    · rw [if_neg c3] at hf
      refine lv_iconst (v := 1) hx hb dX0_may_15 (by decide) ?_
      refine lv_goto (tgt := 20) hx hb dX0_may_16 (by decide) ?_
      exact k_zretP X I hr hlocks dX0_may_20 hf
/-! LostTent$Matching.isTwice(II)Z -/
abbrev rm_X0_isTwice : Room := { frames := 0, cells := 0, slots := 0, locals := 0 }
def f_X0_isTwice (x0 : Int32) (x1 : Int32) : Option Int32 :=
  if x0 = x1 then
    if x0 = (-1 : Int32) then
      xbo (0 : Int32)
    else
      xbo (1 : Int32)
  else
    xbo (0 : Int32)
set_option maxRecDepth 100000 in
set_option maxHeartbeats 8000000 in
theorem c_X0_isTwice {l : Launch} {D : va_G} {aI : ClassId} {q t : Nat → Nat} {x0 : Int32} {x1 : Int32} {M : xM} {r : Int32} (hf : f_X0_isTwice x0 x1 = some r) : kM l yX0_isTwice (wk yX0_isTwice cX0_isTwice 2 (some .boolean)) rm_X0_isTwice (cw q aI) D aI t [.int x0, .int x1] M (some (.int r)) M := by
  refine kM_of (by decide) (Nat.le_of_ble_eq_true rfl) ?_
  intro p e s m args below meth c A ls X hr hlocks hl I
  have hx := X.1
  have hb := X.2.1
  have hl : lv_has ls 2 [(0, .int x0), (1, .int x1)] := hl
  rw [f_X0_isTwice] at hf
  refine lv_iload_n hx hb dX0_isTwice_0 rfl (lv_at hl 0 rfl) ?_
  refine lv_iload_n hx hb dX0_isTwice_1 rfl (lv_at hl 1 rfl) ?_
  refine lv_icmp_ne (tgt := 14) hx hb dX0_isTwice_2 (by decide) (fun c1 => ?_) (fun c1 => ?_)
  · rw [if_neg c1] at hf
    refine lv_iconst (v := 0) hx hb dX0_isTwice_14 (by decide) ?_
    exact k_zretP X I hr hlocks dX0_isTwice_15 hf
  · rw [if_pos c1] at hf
    refine lv_iload_n hx hb dX0_isTwice_5 rfl (lv_at hl 0 rfl) ?_
    refine lv_iconst (v := (-1)) hx hb dX0_isTwice_6 (by decide) ?_
    refine lv_icmp_eq (tgt := 14) hx hb dX0_isTwice_7 (by decide) (fun c2 => ?_) (fun c2 => ?_)
    · rw [if_pos c2] at hf
      refine lv_iconst (v := 0) hx hb dX0_isTwice_14 (by decide) ?_
      exact k_zretP X I hr hlocks dX0_isTwice_15 hf
    · rw [if_neg c2] at hf
      refine lv_iconst (v := 1) hx hb dX0_isTwice_10 (by decide) ?_
      refine lv_goto (tgt := 15) hx hb dX0_isTwice_11 (by decide) ?_
      exact k_zretP X I hr hlocks dX0_isTwice_15 hf
/-! LostTent$Matching.oneIfGiven(I)I -/
abbrev rm_X0_oneIfGiven : Room := { frames := 0, cells := 0, slots := 0, locals := 0 }
def f_X0_oneIfGiven (x0 : Int32) : Option Int32 :=
  if x0 = (-1 : Int32) then
    some (0 : Int32)
  else
    some (1 : Int32)
set_option maxRecDepth 100000 in
set_option maxHeartbeats 8000000 in
theorem c_X0_oneIfGiven {l : Launch} {D : va_G} {aI : ClassId} {q t : Nat → Nat} {x0 : Int32} {M : xM} {r : Int32} (hf : f_X0_oneIfGiven x0 = some r) : kM l yX0_oneIfGiven (wk yX0_oneIfGiven cX0_oneIfGiven 1 (some .int)) rm_X0_oneIfGiven (cw q aI) D aI t [.int x0] M (some (.int r)) M := by
  refine kM_of (by decide) (Nat.le_of_ble_eq_true rfl) ?_
  intro p e s m args below meth c A ls X hr hlocks hl I
  have hx := X.1
  have hb := X.2.1
  have hl : lv_has ls 1 [(0, .int x0)] := hl
  rw [f_X0_oneIfGiven] at hf
  refine lv_iload_n hx hb dX0_oneIfGiven_0 rfl (lv_at hl 0 rfl) ?_
  refine lv_iconst (v := (-1)) hx hb dX0_oneIfGiven_1 (by decide) ?_
  refine lv_icmp_ne (tgt := 9) hx hb dX0_oneIfGiven_2 (by decide) (fun c1 => ?_) (fun c1 => ?_)
  · rw [if_neg c1] at hf
    refine lv_iconst (v := 1) hx hb dX0_oneIfGiven_9 (by decide) ?_
    exact k_iretP X I hr hlocks dX0_oneIfGiven_10 hf
  · rw [if_pos c1] at hf
    refine lv_iconst (v := 0) hx hb dX0_oneIfGiven_5 (by decide) ?_
    refine lv_goto (tgt := 10) hx hb dX0_oneIfGiven_6 (by decide) ?_
    exact k_iretP X I hr hlocks dX0_oneIfGiven_10 hf
/-! LostTent$Matching.priceIfGiven(II)I -/
abbrev rm_X0_priceIfGiven : Room := { frames := 2, cells := 0, slots := 0, locals := 43 }
def f_X0_priceIfGiven (x1 : Int32) (x2 : Int32) (M : xM) : Option Int32 :=
  if x2 = (-1 : Int32) then
    some (0 : Int32)
  else
    (f_X0_price x1 x2 M).bind fun r2 =>
    some r2
set_option maxRecDepth 100000 in
set_option maxHeartbeats 8000000 in
theorem c_X0_priceIfGiven {l : Launch} {D : va_G} {aI : ClassId} {q t : Nat → Nat} {x1 : Int32} {x2 : Int32} {M : xM} {r : Int32} (hf : f_X0_priceIfGiven x1 x2 M = some r) : kM l yX0_priceIfGiven (wk yX0_priceIfGiven cX0_priceIfGiven 3 (some .int)) rm_X0_priceIfGiven (cw q aI) D aI t [.ref (q 18), .int x1, .int x2] M (some (.int r)) M := by
  refine kM_of (by decide) (Nat.le_of_ble_eq_true rfl) ?_
  intro p e s m args below meth c A ls X hr hlocks hl I
  have hx := X.1
  have hb := X.2.1
  have hl : lv_has ls 3 [(0, .ref (q 18)), (1, .int x1), (2, .int x2)] := hl
  rw [f_X0_priceIfGiven] at hf
  refine lv_iload_n hx hb dX0_priceIfGiven_0 rfl (lv_at hl 2 rfl) ?_
  refine lv_iconst (v := (-1)) hx hb dX0_priceIfGiven_1 (by decide) ?_
  refine lv_icmp_ne (tgt := 9) hx hb dX0_priceIfGiven_2 (by decide) (fun c1 => ?_) (fun c1 => ?_)
  · rw [if_neg c1] at hf
    refine lv_aload_n hx hb dX0_priceIfGiven_9 rfl (lv_at hl 0 rfl) ?_
    refine lv_iload_n hx hb dX0_priceIfGiven_10 rfl (lv_at hl 1 rfl) ?_
    refine lv_iload_n hx hb dX0_priceIfGiven_11 rfl (lv_at hl 2 rfl) ?_
    obtain ⟨r2, h_r2, hf⟩ := k_bind hf
    refine k_callV (n := 2) (As := [.int x1, .int x2]) (rest := []) X I (c_X0_price h_r2) uw_3_96 uw_3_98 us_8 uw_1_5 uw_3_99 ⟨rfl, rfl⟩ (by decide +kernel) rfl ⟨Nat.le_of_ble_eq_true rfl, Nat.le_of_ble_eq_true rfl⟩ ⟨Nat.le_of_ble_eq_true rfl, Nat.le_of_ble_eq_true rfl⟩ 18 cwG_18 rfl hl.1 rfl (Nat.le_of_ble_eq_true rfl) dX0_priceIfGiven_12 (st1 := [.int r2]) rfl (fun H locs I => ?_)
    exact k_iretP X I hr hlocks dX0_priceIfGiven_15 hf
  · rw [if_pos c1] at hf
    refine lv_iconst (v := 0) hx hb dX0_priceIfGiven_5 (by decide) ?_
    refine lv_goto (tgt := 15) hx hb dX0_priceIfGiven_6 (by decide) ?_
    exact k_iretP X I hr hlocks dX0_priceIfGiven_15 hf
/-! LostTent$Matching.keepIfBetter(III)V -/
abbrev rm_X0_keepIfBetter : Room := { frames := 3, cells := 0, slots := 0, locals := 65 }
def f_X0_keepIfBetter_b66 (x1 : Int32) (x2 : Int32) (x3 : Int32) (x4 : Int32) (x5 : Int32) (Mb : xM) : Option xM :=
  nmM (xI Mb 14 x4) fun M9 =>
  nmM (xI M9 15 x5) fun M10 =>
  nmM (xA M10 14 (xp 3 (M10.2.2 14) (0 : Int32) x1)) fun M11 =>
  nmM (xA M11 14 (xp 3 (M11.2.2 14) (1 : Int32) x2)) fun M12 =>
  nmM (xA M12 14 (xp 3 (M12.2.2 14) (2 : Int32) x3)) fun M13 =>
  some M13
def f_X0_keepIfBetter (x1 : Int32) (x2 : Int32) (x3 : Int32) (M : xM) : Option xM :=
  (f_X0_oneIfGiven x1).bind fun r1 =>
  (f_X0_oneIfGiven x2).bind fun r2 =>
  (f_X0_oneIfGiven x3).bind fun r3 =>
  (f_X0_priceIfGiven (0 : Int32) x1 M).bind fun r4 =>
  (f_X0_priceIfGiven (1 : Int32) x2 M).bind fun r5 =>
  (f_X0_priceIfGiven (2 : Int32) x3 M).bind fun r6 =>
  if ((r1 + r2) + r3) < (M.1 14) then
    some M
  else
    if ((r1 + r2) + r3) = (M.1 14) then
      if ((r4 + r5) + r6) < (M.1 15) then
        f_X0_keepIfBetter_b66 x1 x2 x3 ((r1 + r2) + r3) ((r4 + r5) + r6) M
      else
        some M
    else
      f_X0_keepIfBetter_b66 x1 x2 x3 ((r1 + r2) + r3) ((r4 + r5) + r6) M
set_option maxRecDepth 100000 in
set_option maxHeartbeats 8000000 in
theorem c_X0_keepIfBetter {l : Launch} {D : va_G} {aI : ClassId} {q t : Nat → Nat} {x1 : Int32} {x2 : Int32} {x3 : Int32} {M : xM} {Mr : xM} (hf : f_X0_keepIfBetter x1 x2 x3 M = some Mr) : kM l yX0_keepIfBetter (wk yX0_keepIfBetter cX0_keepIfBetter 6 none) rm_X0_keepIfBetter (cw q aI) D aI t [.ref (q 18), .int x1, .int x2, .int x3] M none Mr := by
  refine kM_of (by decide) (Nat.le_of_ble_eq_true rfl) ?_
  intro p e s m args below meth c A ls X hr hlocks hl I
  have hx := X.1
  have hb := X.2.1
  have hl : lv_has ls 6 [(0, .ref (q 18)), (1, .int x1), (2, .int x2), (3, .int x3)] := hl
  have B66 : ∀ (x1 : Int32) (x2 : Int32) (x3 : Int32) (x4 : Int32) (x5 : Int32) (Mb : xM) (H : Heap) (locs : List Loc) (ls : Array Slot), f_X0_keepIfBetter_b66 x1 x2 x3 x4 x5 Mb = some Mr → kI (cw q aI) D A s Mb H locs → lv_has ls 6 [(0, .ref (q 18)), (1, .int x1), (2, .int x2), (3, .int x3), (4, .int x4), (5, .int x5)] → W p l e rm_X0_keepIfBetter s m args below meth c H locs 0 0 (MQ below (kQ (cw q aI) D A none Mr) args s 0 0 A) (F0 m 66 ls []) := by
    intro x1 x2 x3 x4 x5 Mb H locs ls hf I hl
    rw [f_X0_keepIfBetter_b66] at hf
    refine lv_aload_n hx hb dX0_keepIfBetter_66 rfl (lv_at hl 0 rfl) ?_
    refine lv_iload hx hb dX0_keepIfBetter_67 (lv_at hl 4 rfl) ?_
    obtain ⟨M9, e_M9, hf⟩ := k_nm hf
    refine k_put (T := TX0) (N := 5) (M1 := M9) X I inU0 tyX0 tyX0_ok nmX0 18 cwG_18 rfl 3 (by decide) uw_1_119 rfl rfl (tyX0_ok 3 (by decide)) rfl rfl (Nat.le_of_ble_eq_true rfl) dX0_keepIfBetter_69 (cwI_14.trans (congrArg (cw q aI) e_M9)) (fun H locs I => ?_)
    refine lv_aload_n hx hb dX0_keepIfBetter_72 rfl (lv_at hl 0 rfl) ?_
    refine lv_iload hx hb dX0_keepIfBetter_73 (lv_at hl 5 rfl) ?_
    obtain ⟨M10, e_M10, hf⟩ := k_nm hf
    refine k_put (T := TX0) (N := 5) (M1 := M10) X I inU0 tyX0 tyX0_ok nmX0 18 cwG_18 rfl 4 (by decide) uw_1_120 rfl rfl (tyX0_ok 4 (by decide)) rfl rfl (Nat.le_of_ble_eq_true rfl) dX0_keepIfBetter_75 (cwI_15.trans (congrArg (cw q aI) e_M10)) (fun H locs I => ?_)
    refine lv_aload_n hx hb dX0_keepIfBetter_78 rfl (lv_at hl 0 rfl) ?_
    refine k_get (T := TX0) (N := 5) X I inU0 18 cwG_18 rfl 1 (by decide) uw_1_117 rfl rfl dX0_keepIfBetter_79 ?_
    refine lv_iconst (v := 0) hx hb dX0_keepIfBetter_82 (by decide) ?_
    refine lv_iload_n hx hb dX0_keepIfBetter_83 rfl (lv_at hl 1 rfl) ?_
    obtain ⟨M11, e_M11, hf⟩ := k_nm hf
    refine k_callSN (n := 3) (As := [.ref (q 20), .int (0 : Int32), .int x1]) (rest := []) X I (c_put (M' := M11) 20 cwG_20 (by decide) (cwA_14.trans (congrArg (cw q aI) e_M11))) (List.mem_of_getElem? (i := 12) rfl) uw_1_1 uw_1_58 uw_1_59 ⟨rfl, rfl⟩ (by decide +kernel) rfl ⟨Nat.le_of_ble_eq_true rfl, Nat.le_of_ble_eq_true rfl⟩ ⟨Nat.le_of_ble_eq_true rfl, Nat.le_of_ble_eq_true rfl⟩ hl.1 rfl (Nat.le_of_ble_eq_true rfl) dX0_keepIfBetter_84 (st1 := []) rfl (fun H locs I => ?_)
    refine lv_aload_n hx hb dX0_keepIfBetter_87 rfl (lv_at hl 0 rfl) ?_
    refine k_get (T := TX0) (N := 5) X I inU0 18 cwG_18 rfl 1 (by decide) uw_1_117 rfl rfl dX0_keepIfBetter_88 ?_
    refine lv_iconst (v := 1) hx hb dX0_keepIfBetter_91 (by decide) ?_
    refine lv_iload_n hx hb dX0_keepIfBetter_92 rfl (lv_at hl 2 rfl) ?_
    obtain ⟨M12, e_M12, hf⟩ := k_nm hf
    refine k_callSN (n := 3) (As := [.ref (q 20), .int (1 : Int32), .int x2]) (rest := []) X I (c_put (M' := M12) 20 cwG_20 (by decide) (cwA_14.trans (congrArg (cw q aI) e_M12))) (List.mem_of_getElem? (i := 12) rfl) uw_1_1 uw_1_58 uw_1_59 ⟨rfl, rfl⟩ (by decide +kernel) rfl ⟨Nat.le_of_ble_eq_true rfl, Nat.le_of_ble_eq_true rfl⟩ ⟨Nat.le_of_ble_eq_true rfl, Nat.le_of_ble_eq_true rfl⟩ hl.1 rfl (Nat.le_of_ble_eq_true rfl) dX0_keepIfBetter_93 (st1 := []) rfl (fun H locs I => ?_)
    refine lv_aload_n hx hb dX0_keepIfBetter_96 rfl (lv_at hl 0 rfl) ?_
    refine k_get (T := TX0) (N := 5) X I inU0 18 cwG_18 rfl 1 (by decide) uw_1_117 rfl rfl dX0_keepIfBetter_97 ?_
    refine lv_iconst (v := 2) hx hb dX0_keepIfBetter_100 (by decide) ?_
    refine lv_iload_n hx hb dX0_keepIfBetter_101 rfl (lv_at hl 3 rfl) ?_
    obtain ⟨M13, e_M13, hf⟩ := k_nm hf
    refine k_callSN (n := 3) (As := [.ref (q 20), .int (2 : Int32), .int x3]) (rest := []) X I (c_put (M' := M13) 20 cwG_20 (by decide) (cwA_14.trans (congrArg (cw q aI) e_M13))) (List.mem_of_getElem? (i := 12) rfl) uw_1_1 uw_1_58 uw_1_59 ⟨rfl, rfl⟩ (by decide +kernel) rfl ⟨Nat.le_of_ble_eq_true rfl, Nat.le_of_ble_eq_true rfl⟩ ⟨Nat.le_of_ble_eq_true rfl, Nat.le_of_ble_eq_true rfl⟩ hl.1 rfl (Nat.le_of_ble_eq_true rfl) dX0_keepIfBetter_102 (st1 := []) rfl (fun H locs I => ?_)
    exact k_vret X I hr hlocks dX0_keepIfBetter_105 hf
  rw [f_X0_keepIfBetter] at hf
  refine lv_iload_n hx hb dX0_keepIfBetter_0 rfl (lv_at hl 1 rfl) ?_
  obtain ⟨r1, h_r1, hf⟩ := k_bind hf
  refine k_callS (n := 1) (As := [.int x1]) (rest := []) X I (c_X0_oneIfGiven h_r1) uw_3_108 uw_3_109 uw_1_5 uw_3_110 ⟨rfl, rfl⟩ (by decide +kernel) rfl ⟨Nat.le_of_ble_eq_true rfl, Nat.le_of_ble_eq_true rfl⟩ ⟨Nat.le_of_ble_eq_true rfl, Nat.le_of_ble_eq_true rfl⟩ hl.1 rfl (Nat.le_of_ble_eq_true rfl) dX0_keepIfBetter_1 (st1 := [.int r1]) rfl (fun H locs I => ?_)
  refine lv_iload_n hx hb dX0_keepIfBetter_4 rfl (lv_at hl 2 rfl) ?_
  obtain ⟨r2, h_r2, hf⟩ := k_bind hf
  refine k_callS (n := 1) (As := [.int x2]) (rest := [.int r1]) X I (c_X0_oneIfGiven h_r2) uw_3_108 uw_3_109 uw_1_5 uw_3_110 ⟨rfl, rfl⟩ (by decide +kernel) rfl ⟨Nat.le_of_ble_eq_true rfl, Nat.le_of_ble_eq_true rfl⟩ ⟨Nat.le_of_ble_eq_true rfl, Nat.le_of_ble_eq_true rfl⟩ hl.1 rfl (Nat.le_of_ble_eq_true rfl) dX0_keepIfBetter_5 (st1 := [.int r2, .int r1]) rfl (fun H locs I => ?_)
  refine lv_iadd hx hb dX0_keepIfBetter_8 ?_
  refine lv_iload_n hx hb dX0_keepIfBetter_9 rfl (lv_at hl 3 rfl) ?_
  obtain ⟨r3, h_r3, hf⟩ := k_bind hf
  refine k_callS (n := 1) (As := [.int x3]) (rest := [.int (r1 + r2)]) X I (c_X0_oneIfGiven h_r3) uw_3_108 uw_3_109 uw_1_5 uw_3_110 ⟨rfl, rfl⟩ (by decide +kernel) rfl ⟨Nat.le_of_ble_eq_true rfl, Nat.le_of_ble_eq_true rfl⟩ ⟨Nat.le_of_ble_eq_true rfl, Nat.le_of_ble_eq_true rfl⟩ hl.1 rfl (Nat.le_of_ble_eq_true rfl) dX0_keepIfBetter_10 (st1 := [.int r3, .int (r1 + r2)]) rfl (fun H locs I => ?_)
  refine lv_iadd hx hb dX0_keepIfBetter_13 ?_
  refine lv_istore (lv' := [(4, .int ((r1 + r2) + r3)), (0, .ref (q 18)), (1, .int x1), (2, .int x2), (3, .int x3)]) hx hb dX0_keepIfBetter_14 hl (by decide) rfl (fun ls hl => ?_)
  refine lv_aload_n hx hb dX0_keepIfBetter_16 rfl (lv_at hl 1 rfl) ?_
  refine lv_iconst (v := 0) hx hb dX0_keepIfBetter_17 (by decide) ?_
  refine lv_iload_n hx hb dX0_keepIfBetter_18 rfl (lv_at hl 2 rfl) ?_
  obtain ⟨r4, h_r4, hf⟩ := k_bind hf
  refine k_callV (n := 2) (As := [.int (0 : Int32), .int x1]) (rest := []) X I (c_X0_priceIfGiven h_r4) uw_3_111 uw_3_113 us_10 uw_1_5 uw_3_114 ⟨rfl, rfl⟩ (by decide +kernel) rfl ⟨Nat.le_of_ble_eq_true rfl, Nat.le_of_ble_eq_true rfl⟩ ⟨Nat.le_of_ble_eq_true rfl, Nat.le_of_ble_eq_true rfl⟩ 18 cwG_18 rfl hl.1 rfl (Nat.le_of_ble_eq_true rfl) dX0_keepIfBetter_19 (st1 := [.int r4]) rfl (fun H locs I => ?_)
  refine lv_aload_n hx hb dX0_keepIfBetter_22 rfl (lv_at hl 1 rfl) ?_
  refine lv_iconst (v := 1) hx hb dX0_keepIfBetter_23 (by decide) ?_
  refine lv_iload_n hx hb dX0_keepIfBetter_24 rfl (lv_at hl 3 rfl) ?_
  obtain ⟨r5, h_r5, hf⟩ := k_bind hf
  refine k_callV (n := 2) (As := [.int (1 : Int32), .int x2]) (rest := [.int r4]) X I (c_X0_priceIfGiven h_r5) uw_3_111 uw_3_113 us_10 uw_1_5 uw_3_114 ⟨rfl, rfl⟩ (by decide +kernel) rfl ⟨Nat.le_of_ble_eq_true rfl, Nat.le_of_ble_eq_true rfl⟩ ⟨Nat.le_of_ble_eq_true rfl, Nat.le_of_ble_eq_true rfl⟩ 18 cwG_18 rfl hl.1 rfl (Nat.le_of_ble_eq_true rfl) dX0_keepIfBetter_25 (st1 := [.int r5, .int r4]) rfl (fun H locs I => ?_)
  refine lv_iadd hx hb dX0_keepIfBetter_28 ?_
  refine lv_aload_n hx hb dX0_keepIfBetter_29 rfl (lv_at hl 1 rfl) ?_
  refine lv_iconst (v := 2) hx hb dX0_keepIfBetter_30 (by decide) ?_
  refine lv_iload_n hx hb dX0_keepIfBetter_31 rfl (lv_at hl 4 rfl) ?_
  obtain ⟨r6, h_r6, hf⟩ := k_bind hf
  refine k_callV (n := 2) (As := [.int (2 : Int32), .int x3]) (rest := [.int (r4 + r5)]) X I (c_X0_priceIfGiven h_r6) uw_3_111 uw_3_113 us_10 uw_1_5 uw_3_114 ⟨rfl, rfl⟩ (by decide +kernel) rfl ⟨Nat.le_of_ble_eq_true rfl, Nat.le_of_ble_eq_true rfl⟩ ⟨Nat.le_of_ble_eq_true rfl, Nat.le_of_ble_eq_true rfl⟩ 18 cwG_18 rfl hl.1 rfl (Nat.le_of_ble_eq_true rfl) dX0_keepIfBetter_32 (st1 := [.int r6, .int (r4 + r5)]) rfl (fun H locs I => ?_)
  refine lv_iadd hx hb dX0_keepIfBetter_35 ?_
  refine lv_istore (lv' := [(5, .int ((r4 + r5) + r6)), (4, .int ((r1 + r2) + r3)), (0, .ref (q 18)), (1, .int x1), (2, .int x2), (3, .int x3)]) hx hb dX0_keepIfBetter_36 hl (by decide) rfl (fun ls hl => ?_)
  refine lv_iload hx hb dX0_keepIfBetter_38 (lv_at hl 1 rfl) ?_
  refine lv_aload_n hx hb dX0_keepIfBetter_40 rfl (lv_at hl 2 rfl) ?_
  refine k_get (T := TX0) (N := 5) X I inU0 18 cwG_18 rfl 3 (by decide) uw_1_119 rfl rfl dX0_keepIfBetter_41 ?_
  refine lv_icmp_lt (tgt := 65) hx hb dX0_keepIfBetter_44 (by decide) (fun c7 => ?_) (fun c7 => ?_)
  · rw [if_pos c7] at hf
    exact k_vret X I hr hlocks dX0_keepIfBetter_65 hf
  · rw [if_neg c7] at hf
    refine lv_iload hx hb dX0_keepIfBetter_47 (lv_at hl 1 rfl) ?_
    refine lv_aload_n hx hb dX0_keepIfBetter_49 rfl (lv_at hl 2 rfl) ?_
    refine k_get (T := TX0) (N := 5) X I inU0 18 cwG_18 rfl 3 (by decide) uw_1_119 rfl rfl dX0_keepIfBetter_50 ?_
    refine lv_icmp_ne (tgt := 66) hx hb dX0_keepIfBetter_53 (by decide) (fun c8 => ?_) (fun c8 => ?_)
    · rw [if_neg c8] at hf
      exact B66 x1 x2 x3 ((r1 + r2) + r3) ((r4 + r5) + r6) M _ _ ls hf I (lv_sub hl [2, 3, 4, 5, 1, 0] rfl)
    · rw [if_pos c8] at hf
      refine lv_iload hx hb dX0_keepIfBetter_56 (lv_at hl 0 rfl) ?_
      refine lv_aload_n hx hb dX0_keepIfBetter_58 rfl (lv_at hl 2 rfl) ?_
      refine k_get (T := TX0) (N := 5) X I inU0 18 cwG_18 rfl 4 (by decide) uw_1_120 rfl rfl dX0_keepIfBetter_59 ?_
      refine lv_icmp_lt (tgt := 66) hx hb dX0_keepIfBetter_62 (by decide) (fun c14 => ?_) (fun c14 => ?_)
      · rw [if_pos c14] at hf
        exact B66 x1 x2 x3 ((r1 + r2) + r3) ((r4 + r5) + r6) M _ _ ls hf I (lv_sub hl [2, 3, 4, 5, 1, 0] rfl)
      · rw [if_neg c14] at hf
        exact k_vret X I hr hlocks dX0_keepIfBetter_65 hf
/-! LostTent$Matching.solve(LLostTent$Tent;)V -/
abbrev rm_X0_solve : Room := { frames := 5, cells := 0, slots := 0, locals := 115 }
def f_X0_solve_b125 (k12 : Int32 → xM → Option xM) (x2 : Int32) (Mb : xM) : Option xM :=
  k12 (x2 + 1) Mb
def f_X0_solve_b119 (k12 : Int32 → xM → Option xM) (k34 : Int32 → Int32 → xM → Option xM) (x2 : Int32) (x3 : Int32) (Mb : xM) : Option xM :=
  k34 x2 (x3 + 1) Mb
def f_X0_solve_b113 (k12 : Int32 → xM → Option xM) (k34 : Int32 → Int32 → xM → Option xM) (k65 : Int32 → Int32 → Int32 → xM → Option xM) (x2 : Int32) (x3 : Int32) (x4 : Int32) (Mb : xM) : Option xM :=
  k65 x2 x3 (x4 + 1) Mb
def f_X0_solve_l65 (k12 : Int32 → xM → Option xM) (k34 : Int32 → Int32 → xM → Option xM) : Nat → Int32 → Int32 → Int32 → xM → Option xM
  | 0, _, _, _, _ => none
  | n65 + 1, x2, x3, x4, Mb =>
    if (Mb.1 13) ≤ x4 then
      f_X0_solve_b119 k12 k34 x2 x3 Mb
    else
      (f_X0_may (2 : Int32) x4 Mb).bind fun r12 =>
      if r12 = 0 then
        f_X0_solve_b113 k12 k34 (f_X0_solve_l65 k12 k34 n65) x2 x3 x4 Mb
      else
        (f_X0_isTwice x2 x4).bind fun r14 =>
        if r14 = 0 then
          (f_X0_isTwice x3 x4).bind fun r16 =>
          if r16 = 0 then
            (f_X0_keepIfBetter x2 x3 x4 Mb).bind fun M18 =>
            f_X0_solve_b113 k12 k34 (f_X0_solve_l65 k12 k34 n65) x2 x3 x4 M18
          else
            f_X0_solve_b113 k12 k34 (f_X0_solve_l65 k12 k34 n65) x2 x3 x4 Mb
        else
          f_X0_solve_b113 k12 k34 (f_X0_solve_l65 k12 k34 n65) x2 x3 x4 Mb
def f_X0_solve_l34 (k12 : Int32 → xM → Option xM) : Nat → Int32 → Int32 → xM → Option xM
  | 0, _, _, _ => none
  | n34 + 1, x2, x3, Mb =>
    if (Mb.1 13) ≤ x3 then
      f_X0_solve_b125 k12 x2 Mb
    else
      (f_X0_may (1 : Int32) x3 Mb).bind fun r7 =>
      if r7 = 0 then
        f_X0_solve_b119 k12 (f_X0_solve_l34 k12 n34) x2 x3 Mb
      else
        (f_X0_isTwice x2 x3).bind fun r9 =>
        if r9 = 0 then
          f_X0_solve_l65 k12 (f_X0_solve_l34 k12 n34) xN x2 x3 (-1 : Int32) Mb
        else
          f_X0_solve_b119 k12 (f_X0_solve_l34 k12 n34) x2 x3 Mb
def f_X0_solve_l12 : Nat → Int32 → xM → Option xM
  | 0, _, _ => none
  | n12 + 1, x2, Mb =>
    if (Mb.1 13) ≤ x2 then
      some Mb
    else
      (f_X0_may (0 : Int32) x2 Mb).bind fun r4 =>
      if r4 = 0 then
        f_X0_solve_b125 (f_X0_solve_l12 n12) x2 Mb
      else
        f_X0_solve_l34 (f_X0_solve_l12 n12) xN x2 (-1 : Int32) Mb
def f_X0_solve (M : xM) : Option xM :=
  (f_X0_setPrices M).bind fun M1 =>
  nmM (xI M1 14 (-1 : Int32)) fun M2 =>
  f_X0_solve_l12 xN (-1 : Int32) M2
set_option maxRecDepth 100000 in
set_option maxHeartbeats 8000000 in
theorem c_X0_solve {l : Launch} {D : va_G} {aI : ClassId} {q t : Nat → Nat} {M : xM} {Mr : xM} (hf : f_X0_solve M = some Mr) : kM l yX0_solve (wk yX0_solve cX0_solve 5 none) rm_X0_solve (cw q aI) D aI t [.ref (q 18), .ref (q 3)] M none Mr := by
  refine kM_of (by decide) (Nat.le_of_ble_eq_true rfl) ?_
  intro p e s m args below meth c A ls X hr hlocks hl I
  have hx := X.1
  have hb := X.2.1
  have hl : lv_has ls 5 [(0, .ref (q 18)), (1, .ref (q 3))] := hl
  have B125 : ∀ (k12 : Int32 → xM → Option xM), (∀ (x2 : Int32) (Mb : xM) (H : Heap) (locs : List Loc) (ls : Array Slot), k12 x2 Mb = some Mr → kI (cw q aI) D A s Mb H locs → lv_has ls 5 [(0, .ref (q 18)), (2, .int x2)] → W p l e rm_X0_solve s m args below meth c H locs 0 0 (MQ below (kQ (cw q aI) D A none Mr) args s 0 0 A) (F0 m 12 ls [])) → ∀ (x2 : Int32) (Mb : xM) (H : Heap) (locs : List Loc) (ls : Array Slot), f_X0_solve_b125 k12 x2 Mb = some Mr → kI (cw q aI) D A s Mb H locs → lv_has ls 5 [(0, .ref (q 18)), (2, .int x2)] → W p l e rm_X0_solve s m args below meth c H locs 0 0 (MQ below (kQ (cw q aI) D A none Mr) args s 0 0 A) (F0 m 125 ls []) := by
    intro k12 hk12 x2 Mb H locs ls hf I hl
    rw [f_X0_solve_b125] at hf
    refine lv_iinc (v := (x2 + 1)) (lv' := [(2, .int (x2 + 1)), (0, .ref (q 18))]) hx hb dX0_solve_125 hl (k := 1) rfl rfl (by decide) rfl (fun ls hl => ?_)
    refine lv_goto (tgt := 12) hx hb dX0_solve_128 (by decide) ?_
    exact hk12 (x2 + 1) Mb _ _ ls hf I (lv_sub hl [1, 0] rfl)
  have B119 : ∀ (k12 : Int32 → xM → Option xM), (∀ (x2 : Int32) (Mb : xM) (H : Heap) (locs : List Loc) (ls : Array Slot), k12 x2 Mb = some Mr → kI (cw q aI) D A s Mb H locs → lv_has ls 5 [(0, .ref (q 18)), (2, .int x2)] → W p l e rm_X0_solve s m args below meth c H locs 0 0 (MQ below (kQ (cw q aI) D A none Mr) args s 0 0 A) (F0 m 12 ls [])) → ∀ (k34 : Int32 → Int32 → xM → Option xM), (∀ (x2 : Int32) (x3 : Int32) (Mb : xM) (H : Heap) (locs : List Loc) (ls : Array Slot), k34 x2 x3 Mb = some Mr → kI (cw q aI) D A s Mb H locs → lv_has ls 5 [(0, .ref (q 18)), (2, .int x2), (3, .int x3)] → W p l e rm_X0_solve s m args below meth c H locs 0 0 (MQ below (kQ (cw q aI) D A none Mr) args s 0 0 A) (F0 m 34 ls [])) → ∀ (x2 : Int32) (x3 : Int32) (Mb : xM) (H : Heap) (locs : List Loc) (ls : Array Slot), f_X0_solve_b119 k12 k34 x2 x3 Mb = some Mr → kI (cw q aI) D A s Mb H locs → lv_has ls 5 [(0, .ref (q 18)), (2, .int x2), (3, .int x3)] → W p l e rm_X0_solve s m args below meth c H locs 0 0 (MQ below (kQ (cw q aI) D A none Mr) args s 0 0 A) (F0 m 119 ls []) := by
    intro k12 hk12 k34 hk34 x2 x3 Mb H locs ls hf I hl
    rw [f_X0_solve_b119] at hf
    refine lv_iinc (v := (x3 + 1)) (lv' := [(3, .int (x3 + 1)), (0, .ref (q 18)), (2, .int x2)]) hx hb dX0_solve_119 hl (k := 2) rfl rfl (by decide) rfl (fun ls hl => ?_)
    refine lv_goto (tgt := 34) hx hb dX0_solve_122 (by decide) ?_
    exact hk34 x2 (x3 + 1) Mb _ _ ls hf I (lv_sub hl [1, 2, 0] rfl)
  have B113 : ∀ (k12 : Int32 → xM → Option xM), (∀ (x2 : Int32) (Mb : xM) (H : Heap) (locs : List Loc) (ls : Array Slot), k12 x2 Mb = some Mr → kI (cw q aI) D A s Mb H locs → lv_has ls 5 [(0, .ref (q 18)), (2, .int x2)] → W p l e rm_X0_solve s m args below meth c H locs 0 0 (MQ below (kQ (cw q aI) D A none Mr) args s 0 0 A) (F0 m 12 ls [])) → ∀ (k34 : Int32 → Int32 → xM → Option xM), (∀ (x2 : Int32) (x3 : Int32) (Mb : xM) (H : Heap) (locs : List Loc) (ls : Array Slot), k34 x2 x3 Mb = some Mr → kI (cw q aI) D A s Mb H locs → lv_has ls 5 [(0, .ref (q 18)), (2, .int x2), (3, .int x3)] → W p l e rm_X0_solve s m args below meth c H locs 0 0 (MQ below (kQ (cw q aI) D A none Mr) args s 0 0 A) (F0 m 34 ls [])) → ∀ (k65 : Int32 → Int32 → Int32 → xM → Option xM), (∀ (x2 : Int32) (x3 : Int32) (x4 : Int32) (Mb : xM) (H : Heap) (locs : List Loc) (ls : Array Slot), k65 x2 x3 x4 Mb = some Mr → kI (cw q aI) D A s Mb H locs → lv_has ls 5 [(0, .ref (q 18)), (2, .int x2), (3, .int x3), (4, .int x4)] → W p l e rm_X0_solve s m args below meth c H locs 0 0 (MQ below (kQ (cw q aI) D A none Mr) args s 0 0 A) (F0 m 65 ls [])) → ∀ (x2 : Int32) (x3 : Int32) (x4 : Int32) (Mb : xM) (H : Heap) (locs : List Loc) (ls : Array Slot), f_X0_solve_b113 k12 k34 k65 x2 x3 x4 Mb = some Mr → kI (cw q aI) D A s Mb H locs → lv_has ls 5 [(0, .ref (q 18)), (2, .int x2), (3, .int x3), (4, .int x4)] → W p l e rm_X0_solve s m args below meth c H locs 0 0 (MQ below (kQ (cw q aI) D A none Mr) args s 0 0 A) (F0 m 113 ls []) := by
    intro k12 hk12 k34 hk34 k65 hk65 x2 x3 x4 Mb H locs ls hf I hl
    rw [f_X0_solve_b113] at hf
    refine lv_iinc (v := (x4 + 1)) (lv' := [(4, .int (x4 + 1)), (0, .ref (q 18)), (2, .int x2), (3, .int x3)]) hx hb dX0_solve_113 hl (k := 3) rfl rfl (by decide) rfl (fun ls hl => ?_)
    refine lv_goto (tgt := 65) hx hb dX0_solve_116 (by decide) ?_
    exact hk65 x2 x3 (x4 + 1) Mb _ _ ls hf I (lv_sub hl [1, 2, 3, 0] rfl)
  have B65 : ∀ (k12 : Int32 → xM → Option xM), (∀ (x2 : Int32) (Mb : xM) (H : Heap) (locs : List Loc) (ls : Array Slot), k12 x2 Mb = some Mr → kI (cw q aI) D A s Mb H locs → lv_has ls 5 [(0, .ref (q 18)), (2, .int x2)] → W p l e rm_X0_solve s m args below meth c H locs 0 0 (MQ below (kQ (cw q aI) D A none Mr) args s 0 0 A) (F0 m 12 ls [])) → ∀ (k34 : Int32 → Int32 → xM → Option xM), (∀ (x2 : Int32) (x3 : Int32) (Mb : xM) (H : Heap) (locs : List Loc) (ls : Array Slot), k34 x2 x3 Mb = some Mr → kI (cw q aI) D A s Mb H locs → lv_has ls 5 [(0, .ref (q 18)), (2, .int x2), (3, .int x3)] → W p l e rm_X0_solve s m args below meth c H locs 0 0 (MQ below (kQ (cw q aI) D A none Mr) args s 0 0 A) (F0 m 34 ls [])) → ∀ (n65 : Nat), ∀ (x2 : Int32) (x3 : Int32) (x4 : Int32) (Mb : xM) (H : Heap) (locs : List Loc) (ls : Array Slot), f_X0_solve_l65 k12 k34 n65 x2 x3 x4 Mb = some Mr → kI (cw q aI) D A s Mb H locs → lv_has ls 5 [(0, .ref (q 18)), (2, .int x2), (3, .int x3), (4, .int x4)] → W p l e rm_X0_solve s m args below meth c H locs 0 0 (MQ below (kQ (cw q aI) D A none Mr) args s 0 0 A) (F0 m 65 ls []) := by
    intro k12 hk12 k34 hk34
    intro n65
    induction n65 with
    | zero =>
      intro x2 x3 x4 Mb H locs ls hf I hl
      rw [f_X0_solve_l65] at hf
      cases hf
    | succ n65 ih65 =>
      intro x2 x3 x4 Mb H locs ls hf I hl
      rw [f_X0_solve_l65] at hf
      refine lv_iload hx hb dX0_solve_65 (lv_at hl 3 rfl) ?_
      refine lv_aload_n hx hb dX0_solve_67 rfl (lv_at hl 0 rfl) ?_
      refine k_get (T := TX0) (N := 5) X I inU0 18 cwG_18 rfl 2 (by decide) uw_1_118 rfl rfl dX0_solve_68 ?_
      refine lv_icmp_ge (tgt := 119) hx hb dX0_solve_71 (by decide) (fun c11 => ?_) (fun c11 => ?_)
      · rw [if_pos c11] at hf
        exact B119 k12 hk12 k34 hk34 x2 x3 Mb _ _ ls hf I (lv_sub hl [0, 1, 2] rfl)
      · rw [if_neg c11] at hf
        refine lv_aload_n hx hb dX0_solve_74 rfl (lv_at hl 0 rfl) ?_
        refine lv_iconst (v := 2) hx hb dX0_solve_75 (by decide) ?_
        refine lv_iload hx hb dX0_solve_76 (lv_at hl 3 rfl) ?_
        obtain ⟨r12, h_r12, hf⟩ := k_bind hf
        refine k_callV (n := 2) (As := [.int (2 : Int32), .int x4]) (rest := []) X I (c_X0_may h_r12) uw_3_92 uw_3_94 us_7 uw_1_5 uw_3_95 ⟨rfl, rfl⟩ (by decide +kernel) rfl ⟨Nat.le_of_ble_eq_true rfl, Nat.le_of_ble_eq_true rfl⟩ ⟨Nat.le_of_ble_eq_true rfl, Nat.le_of_ble_eq_true rfl⟩ 18 cwG_18 rfl hl.1 rfl (Nat.le_of_ble_eq_true rfl) dX0_solve_78 (st1 := [.int r12]) rfl (fun H locs I => ?_)
        refine lv_if_eq (tgt := 113) hx hb dX0_solve_81 (by decide) (fun c13 => ?_) (fun c13 => ?_)
        · rw [if_pos c13] at hf
          exact B113 k12 hk12 k34 hk34 (f_X0_solve_l65 k12 k34 n65) ih65 x2 x3 x4 Mb _ _ ls hf I (lv_sub hl [0, 1, 2, 3] rfl)
        · rw [if_neg c13] at hf
          refine lv_iload_n hx hb dX0_solve_84 rfl (lv_at hl 1 rfl) ?_
          refine lv_iload hx hb dX0_solve_85 (lv_at hl 3 rfl) ?_
          obtain ⟨r14, h_r14, hf⟩ := k_bind hf
          refine k_callS (n := 2) (As := [.int x2, .int x4]) (rest := []) X I (c_X0_isTwice h_r14) uw_3_101 uw_3_102 uw_1_5 uw_3_103 ⟨rfl, rfl⟩ (by decide +kernel) rfl ⟨Nat.le_of_ble_eq_true rfl, Nat.le_of_ble_eq_true rfl⟩ ⟨Nat.le_of_ble_eq_true rfl, Nat.le_of_ble_eq_true rfl⟩ hl.1 rfl (Nat.le_of_ble_eq_true rfl) dX0_solve_87 (st1 := [.int r14]) rfl (fun H locs I => ?_)
          refine lv_if_ne (tgt := 113) hx hb dX0_solve_90 (by decide) (fun c15 => ?_) (fun c15 => ?_)
          · rw [if_neg c15] at hf
            exact B113 k12 hk12 k34 hk34 (f_X0_solve_l65 k12 k34 n65) ih65 x2 x3 x4 Mb _ _ ls hf I (lv_sub hl [0, 1, 2, 3] rfl)
          · rw [if_pos c15] at hf
            refine lv_iload_n hx hb dX0_solve_93 rfl (lv_at hl 2 rfl) ?_
            refine lv_iload hx hb dX0_solve_94 (lv_at hl 3 rfl) ?_
            obtain ⟨r16, h_r16, hf⟩ := k_bind hf
            refine k_callS (n := 2) (As := [.int x3, .int x4]) (rest := []) X I (c_X0_isTwice h_r16) uw_3_101 uw_3_102 uw_1_5 uw_3_103 ⟨rfl, rfl⟩ (by decide +kernel) rfl ⟨Nat.le_of_ble_eq_true rfl, Nat.le_of_ble_eq_true rfl⟩ ⟨Nat.le_of_ble_eq_true rfl, Nat.le_of_ble_eq_true rfl⟩ hl.1 rfl (Nat.le_of_ble_eq_true rfl) dX0_solve_96 (st1 := [.int r16]) rfl (fun H locs I => ?_)
            refine lv_if_eq (tgt := 105) hx hb dX0_solve_99 (by decide) (fun c17 => ?_) (fun c17 => ?_)
            · rw [if_pos c17] at hf
              refine lv_aload_n hx hb dX0_solve_105 rfl (lv_at hl 0 rfl) ?_
              refine lv_iload_n hx hb dX0_solve_106 rfl (lv_at hl 1 rfl) ?_
              refine lv_iload_n hx hb dX0_solve_107 rfl (lv_at hl 2 rfl) ?_
              refine lv_iload hx hb dX0_solve_108 (lv_at hl 3 rfl) ?_
              obtain ⟨M18, h_M18, hf⟩ := k_bind hf
              refine k_callV (n := 3) (As := [.int x2, .int x3, .int x4]) (rest := []) X I (c_X0_keepIfBetter h_M18) uw_3_104 uw_3_106 us_9 uw_1_5 uw_3_107 ⟨rfl, rfl⟩ (by decide +kernel) rfl ⟨Nat.le_of_ble_eq_true rfl, Nat.le_of_ble_eq_true rfl⟩ ⟨Nat.le_of_ble_eq_true rfl, Nat.le_of_ble_eq_true rfl⟩ 18 cwG_18 rfl hl.1 rfl (Nat.le_of_ble_eq_true rfl) dX0_solve_110 (st1 := []) rfl (fun H locs I => ?_)
              exact B113 k12 hk12 k34 hk34 (f_X0_solve_l65 k12 k34 n65) ih65 x2 x3 x4 M18 _ _ ls hf I (lv_sub hl [0, 1, 2, 3] rfl)
            · rw [if_neg c17] at hf
              refine lv_goto (tgt := 113) hx hb dX0_solve_102 (by decide) ?_
              exact B113 k12 hk12 k34 hk34 (f_X0_solve_l65 k12 k34 n65) ih65 x2 x3 x4 Mb _ _ ls hf I (lv_sub hl [0, 1, 2, 3] rfl)
  have B34 : ∀ (k12 : Int32 → xM → Option xM), (∀ (x2 : Int32) (Mb : xM) (H : Heap) (locs : List Loc) (ls : Array Slot), k12 x2 Mb = some Mr → kI (cw q aI) D A s Mb H locs → lv_has ls 5 [(0, .ref (q 18)), (2, .int x2)] → W p l e rm_X0_solve s m args below meth c H locs 0 0 (MQ below (kQ (cw q aI) D A none Mr) args s 0 0 A) (F0 m 12 ls [])) → ∀ (n34 : Nat), ∀ (x2 : Int32) (x3 : Int32) (Mb : xM) (H : Heap) (locs : List Loc) (ls : Array Slot), f_X0_solve_l34 k12 n34 x2 x3 Mb = some Mr → kI (cw q aI) D A s Mb H locs → lv_has ls 5 [(0, .ref (q 18)), (2, .int x2), (3, .int x3)] → W p l e rm_X0_solve s m args below meth c H locs 0 0 (MQ below (kQ (cw q aI) D A none Mr) args s 0 0 A) (F0 m 34 ls []) := by
    intro k12 hk12
    intro n34
    induction n34 with
    | zero =>
      intro x2 x3 Mb H locs ls hf I hl
      rw [f_X0_solve_l34] at hf
      cases hf
    | succ n34 ih34 =>
      intro x2 x3 Mb H locs ls hf I hl
      rw [f_X0_solve_l34] at hf
      refine lv_iload_n hx hb dX0_solve_34 rfl (lv_at hl 2 rfl) ?_
      refine lv_aload_n hx hb dX0_solve_35 rfl (lv_at hl 0 rfl) ?_
      refine k_get (T := TX0) (N := 5) X I inU0 18 cwG_18 rfl 2 (by decide) uw_1_118 rfl rfl dX0_solve_36 ?_
      refine lv_icmp_ge (tgt := 125) hx hb dX0_solve_39 (by decide) (fun c6 => ?_) (fun c6 => ?_)
      · rw [if_pos c6] at hf
        exact B125 k12 hk12 x2 Mb _ _ ls hf I (lv_sub hl [0, 1] rfl)
      · rw [if_neg c6] at hf
        refine lv_aload_n hx hb dX0_solve_42 rfl (lv_at hl 0 rfl) ?_
        refine lv_iconst (v := 1) hx hb dX0_solve_43 (by decide) ?_
        refine lv_iload_n hx hb dX0_solve_44 rfl (lv_at hl 2 rfl) ?_
        obtain ⟨r7, h_r7, hf⟩ := k_bind hf
        refine k_callV (n := 2) (As := [.int (1 : Int32), .int x3]) (rest := []) X I (c_X0_may h_r7) uw_3_92 uw_3_94 us_7 uw_1_5 uw_3_95 ⟨rfl, rfl⟩ (by decide +kernel) rfl ⟨Nat.le_of_ble_eq_true rfl, Nat.le_of_ble_eq_true rfl⟩ ⟨Nat.le_of_ble_eq_true rfl, Nat.le_of_ble_eq_true rfl⟩ 18 cwG_18 rfl hl.1 rfl (Nat.le_of_ble_eq_true rfl) dX0_solve_45 (st1 := [.int r7]) rfl (fun H locs I => ?_)
        refine lv_if_eq (tgt := 119) hx hb dX0_solve_48 (by decide) (fun c8 => ?_) (fun c8 => ?_)
        · rw [if_pos c8] at hf
          exact B119 k12 hk12 (f_X0_solve_l34 k12 n34) ih34 x2 x3 Mb _ _ ls hf I (lv_sub hl [0, 1, 2] rfl)
        · rw [if_neg c8] at hf
          refine lv_iload_n hx hb dX0_solve_51 rfl (lv_at hl 1 rfl) ?_
          refine lv_iload_n hx hb dX0_solve_52 rfl (lv_at hl 2 rfl) ?_
          obtain ⟨r9, h_r9, hf⟩ := k_bind hf
          refine k_callS (n := 2) (As := [.int x2, .int x3]) (rest := []) X I (c_X0_isTwice h_r9) uw_3_101 uw_3_102 uw_1_5 uw_3_103 ⟨rfl, rfl⟩ (by decide +kernel) rfl ⟨Nat.le_of_ble_eq_true rfl, Nat.le_of_ble_eq_true rfl⟩ ⟨Nat.le_of_ble_eq_true rfl, Nat.le_of_ble_eq_true rfl⟩ hl.1 rfl (Nat.le_of_ble_eq_true rfl) dX0_solve_53 (st1 := [.int r9]) rfl (fun H locs I => ?_)
          refine lv_if_eq (tgt := 62) hx hb dX0_solve_56 (by decide) (fun c10 => ?_) (fun c10 => ?_)
          · rw [if_pos c10] at hf
            refine lv_iconst (v := (-1)) hx hb dX0_solve_62 (by decide) ?_
            refine lv_istore (lv' := [(4, .int (-1 : Int32)), (0, .ref (q 18)), (2, .int x2), (3, .int x3)]) hx hb dX0_solve_63 hl (by decide) rfl (fun ls hl => ?_)
            exact B65 k12 hk12 (f_X0_solve_l34 k12 n34) ih34 xN x2 x3 (-1 : Int32) Mb _ _ ls hf I (lv_sub hl [1, 2, 3, 0] rfl)
          · rw [if_neg c10] at hf
            refine lv_goto (tgt := 119) hx hb dX0_solve_59 (by decide) ?_
            exact B119 k12 hk12 (f_X0_solve_l34 k12 n34) ih34 x2 x3 Mb _ _ ls hf I (lv_sub hl [0, 1, 2] rfl)
  have B12 : ∀ (n12 : Nat), ∀ (x2 : Int32) (Mb : xM) (H : Heap) (locs : List Loc) (ls : Array Slot), f_X0_solve_l12 n12 x2 Mb = some Mr → kI (cw q aI) D A s Mb H locs → lv_has ls 5 [(0, .ref (q 18)), (2, .int x2)] → W p l e rm_X0_solve s m args below meth c H locs 0 0 (MQ below (kQ (cw q aI) D A none Mr) args s 0 0 A) (F0 m 12 ls []) := by
    intro n12
    induction n12 with
    | zero =>
      intro x2 Mb H locs ls hf I hl
      rw [f_X0_solve_l12] at hf
      cases hf
    | succ n12 ih12 =>
      intro x2 Mb H locs ls hf I hl
      rw [f_X0_solve_l12] at hf
      refine lv_iload_n hx hb dX0_solve_12 rfl (lv_at hl 1 rfl) ?_
      refine lv_aload_n hx hb dX0_solve_13 rfl (lv_at hl 0 rfl) ?_
      refine k_get (T := TX0) (N := 5) X I inU0 18 cwG_18 rfl 2 (by decide) uw_1_118 rfl rfl dX0_solve_14 ?_
      refine lv_icmp_ge (tgt := 131) hx hb dX0_solve_17 (by decide) (fun c3 => ?_) (fun c3 => ?_)
      · rw [if_pos c3] at hf
        exact k_vret X I hr hlocks dX0_solve_131 hf
      · rw [if_neg c3] at hf
        refine lv_aload_n hx hb dX0_solve_20 rfl (lv_at hl 0 rfl) ?_
        refine lv_iconst (v := 0) hx hb dX0_solve_21 (by decide) ?_
        refine lv_iload_n hx hb dX0_solve_22 rfl (lv_at hl 1 rfl) ?_
        obtain ⟨r4, h_r4, hf⟩ := k_bind hf
        refine k_callV (n := 2) (As := [.int (0 : Int32), .int x2]) (rest := []) X I (c_X0_may h_r4) uw_3_92 uw_3_94 us_7 uw_1_5 uw_3_95 ⟨rfl, rfl⟩ (by decide +kernel) rfl ⟨Nat.le_of_ble_eq_true rfl, Nat.le_of_ble_eq_true rfl⟩ ⟨Nat.le_of_ble_eq_true rfl, Nat.le_of_ble_eq_true rfl⟩ 18 cwG_18 rfl hl.1 rfl (Nat.le_of_ble_eq_true rfl) dX0_solve_23 (st1 := [.int r4]) rfl (fun H locs I => ?_)
        refine lv_if_ne (tgt := 32) hx hb dX0_solve_26 (by decide) (fun c5 => ?_) (fun c5 => ?_)
        · rw [if_neg c5] at hf
          refine lv_iconst (v := (-1)) hx hb dX0_solve_32 (by decide) ?_
          refine lv_istore_n (lv' := [(3, .int (-1 : Int32)), (0, .ref (q 18)), (2, .int x2)]) hx hb dX0_solve_33 rfl hl (by decide) rfl (fun ls hl => ?_)
          exact B34 (f_X0_solve_l12 n12) ih12 xN x2 (-1 : Int32) Mb _ _ ls hf I (lv_sub hl [1, 2, 0] rfl)
        · rw [if_pos c5] at hf
          refine lv_goto (tgt := 125) hx hb dX0_solve_29 (by decide) ?_
          exact B125 (f_X0_solve_l12 n12) ih12 x2 Mb _ _ ls hf I (lv_sub hl [0, 1] rfl)
  rw [f_X0_solve] at hf
  refine lv_aload_n hx hb dX0_solve_0 rfl (lv_at hl 0 rfl) ?_
  refine lv_aload_n hx hb dX0_solve_1 rfl (lv_at hl 1 rfl) ?_
  obtain ⟨M1, h_M1, hf⟩ := k_bind hf
  refine k_callV (n := 1) (As := [.ref (q 3)]) (rest := []) X I (c_X0_setPrices h_M1) uw_3_79 uw_3_81 us_6 uw_1_5 uw_3_82 ⟨rfl, rfl⟩ (by decide +kernel) rfl ⟨Nat.le_of_ble_eq_true rfl, Nat.le_of_ble_eq_true rfl⟩ ⟨Nat.le_of_ble_eq_true rfl, Nat.le_of_ble_eq_true rfl⟩ 18 cwG_18 rfl hl.1 rfl (Nat.le_of_ble_eq_true rfl) dX0_solve_2 (st1 := []) rfl (fun H locs I => ?_)
  refine lv_aload_n hx hb dX0_solve_5 rfl (lv_at hl 0 rfl) ?_
  refine lv_iconst (v := (-1)) hx hb dX0_solve_6 (by decide) ?_
  obtain ⟨M2, e_M2, hf⟩ := k_nm hf
  refine k_put (T := TX0) (N := 5) (M1 := M2) X I inU0 tyX0 tyX0_ok nmX0 18 cwG_18 rfl 3 (by decide) uw_1_119 rfl rfl (tyX0_ok 3 (by decide)) rfl rfl (Nat.le_of_ble_eq_true rfl) dX0_solve_7 (cwI_14.trans (congrArg (cw q aI) e_M2)) (fun H locs I => ?_)
  refine lv_iconst (v := (-1)) hx hb dX0_solve_10 (by decide) ?_
  refine lv_istore_n (lv' := [(2, .int (-1 : Int32)), (0, .ref (q 18)), (1, .ref (q 3))]) hx hb dX0_solve_11 rfl hl (by decide) rfl (fun ls hl => ?_)
  exact B12 xN (-1 : Int32) M2 _ _ ls hf I (lv_sub hl [1, 0] rfl)
/-! LostTent$Matching.tell(I)I -/
abbrev rm_X0_tell : Room := { frames := 1, cells := 0, slots := 0, locals := 21 }
def f_X0_tell (x1 : Int32) (M : xM) : Option Int32 :=
  if x1 = 0 then
    some (M.1 14)
  else
    if x1 = (1 : Int32) then
      some (M.1 15)
    else
      some (xe 3 (M.2.2 14) (x1 - (10 : Int32)))
set_option maxRecDepth 100000 in
set_option maxHeartbeats 8000000 in
theorem c_X0_tell {l : Launch} {D : va_G} {aI : ClassId} {q t : Nat → Nat} {x1 : Int32} {M : xM} {r : Int32} (hf : f_X0_tell x1 M = some r) : kM l yX0_tell (wk yX0_tell cX0_tell 2 (some .int)) rm_X0_tell (cw q aI) D aI t [.ref (q 18), .int x1] M (some (.int r)) M := by
  refine kM_of (by decide) (Nat.le_of_ble_eq_true rfl) ?_
  intro p e s m args below meth c A ls X hr hlocks hl I
  have hx := X.1
  have hb := X.2.1
  have hl : lv_has ls 2 [(0, .ref (q 18)), (1, .int x1)] := hl
  rw [f_X0_tell] at hf
  refine lv_iload_n hx hb dX0_tell_0 rfl (lv_at hl 1 rfl) ?_
  refine lv_if_ne (tgt := 9) hx hb dX0_tell_1 (by decide) (fun c1 => ?_) (fun c1 => ?_)
  · rw [if_neg c1] at hf
    refine lv_iload_n hx hb dX0_tell_9 rfl (lv_at hl 1 rfl) ?_
    refine lv_iconst (v := 1) hx hb dX0_tell_10 (by decide) ?_
    refine lv_icmp_ne (tgt := 19) hx hb dX0_tell_11 (by decide) (fun c2 => ?_) (fun c2 => ?_)
    · rw [if_neg c2] at hf
      refine lv_aload_n hx hb dX0_tell_19 rfl (lv_at hl 0 rfl) ?_
      refine k_get (T := TX0) (N := 5) X I inU0 18 cwG_18 rfl 1 (by decide) uw_1_117 rfl rfl dX0_tell_20 ?_
      refine lv_iload_n hx hb dX0_tell_23 rfl (lv_at hl 1 rfl) ?_
      refine lv_bipush (v := 10) hx hb dX0_tell_24 (by decide) ?_
      refine lv_isub hx hb dX0_tell_26 ?_
      refine k_callSN (n := 2) (As := [.ref (q 20), .int (x1 - (10 : Int32))]) (rest := []) X I (c_entry 20 cwG_20 (by decide)) (List.mem_of_getElem? (i := 13) rfl) uw_1_1 uw_1_198 uw_1_199 ⟨rfl, rfl⟩ (by decide +kernel) rfl ⟨Nat.le_of_ble_eq_true rfl, Nat.le_of_ble_eq_true rfl⟩ ⟨Nat.le_of_ble_eq_true rfl, Nat.le_of_ble_eq_true rfl⟩ hl.1 rfl (Nat.le_of_ble_eq_true rfl) dX0_tell_27 (st1 := [.int (xe 3 (M.2.2 14) (x1 - (10 : Int32)))]) rfl (fun H locs I => ?_)
      exact k_iretP X I hr hlocks dX0_tell_30 hf
    · rw [if_pos c2] at hf
      refine lv_aload_n hx hb dX0_tell_14 rfl (lv_at hl 0 rfl) ?_
      refine k_get (T := TX0) (N := 5) X I inU0 18 cwG_18 rfl 4 (by decide) uw_1_120 rfl rfl dX0_tell_15 ?_
      exact k_iretP X I hr hlocks dX0_tell_18 hf
  · rw [if_pos c1] at hf
    refine lv_aload_n hx hb dX0_tell_4 rfl (lv_at hl 0 rfl) ?_
    refine k_get (T := TX0) (N := 5) X I inU0 18 cwG_18 rfl 3 (by decide) uw_1_119 rfl rfl dX0_tell_5 ?_
    exact k_iretP X I hr hlocks dX0_tell_8 hf
/-! LostTent.match(I)I -/
abbrev rm_X5_match : Room := { frames := 6, cells := 0, slots := 0, locals := 139 }
def f_X5_match (x1 : Int32) (M : xM) : Option (Int32 × xM) :=
  (f_X5_isMatchQuestion x1).bind fun r1 =>
  if r1 = 0 then
    some ((-102 : Int32), M)
  else
    (f_X3_stands M).bind fun r3 =>
    if r3 = 0 then
      some ((-103 : Int32), M)
    else
      (f_X0_solve M).bind fun M5 =>
      (f_X0_tell x1 M5).bind fun r6 =>
      some (r6, M5)
set_option maxRecDepth 100000 in
set_option maxHeartbeats 8000000 in
theorem c_X5_match {l : Launch} {D : va_G} {aI : ClassId} {q t : Nat → Nat} {x1 : Int32} {M : xM} {r : Int32} {Mr : xM} (hf : f_X5_match x1 M = some (r, Mr)) : kM l yX5_match (wk yX5_match cX5_match 2 (some .int)) rm_X5_match (cw q aI) D aI t [.ref (q 0), .int x1] M (some (.int r)) Mr := by
  refine kM_of (by decide) (Nat.le_of_ble_eq_true rfl) ?_
  intro p e s m args below meth c A ls X hr hlocks hl I
  have hx := X.1
  have hb := X.2.1
  have hl : lv_has ls 2 [(0, .ref (q 0)), (1, .int x1)] := hl
  rw [f_X5_match] at hf
  refine lv_iload_n hx hb dX5_match_0 rfl (lv_at hl 1 rfl) ?_
  obtain ⟨r1, h_r1, hf⟩ := k_bind hf
  refine k_callS (n := 1) (As := [.int x1]) (rest := []) X I (c_X5_isMatchQuestion h_r1) uw_3_72 uw_3_73 uw_1_1 uw_3_74 ⟨rfl, rfl⟩ (by decide +kernel) rfl ⟨Nat.le_of_ble_eq_true rfl, Nat.le_of_ble_eq_true rfl⟩ ⟨Nat.le_of_ble_eq_true rfl, Nat.le_of_ble_eq_true rfl⟩ hl.1 rfl (Nat.le_of_ble_eq_true rfl) dX5_match_1 (st1 := [.int r1]) rfl (fun H locs I => ?_)
  refine lv_if_ne (tgt := 10) hx hb dX5_match_4 (by decide) (fun c2 => ?_) (fun c2 => ?_)
  · rw [if_neg c2] at hf
    refine lv_aload_n hx hb dX5_match_10 rfl (lv_at hl 0 rfl) ?_
    refine k_get (T := TX5) (N := 5) X I inU5 0 cwG_0 rfl 1 (by decide) uw_1_149 rfl rfl dX5_match_11 ?_
    obtain ⟨r3, h_r3, hf⟩ := k_bind hf
    refine k_callV (n := 0) (As := []) (rest := []) X I (c_X3_stands h_r3) uw_3_47 uw_3_48 uw_3_49 uw_1_3 uw_3_50 ⟨rfl, rfl⟩ (by decide +kernel) rfl ⟨Nat.le_of_ble_eq_true rfl, Nat.le_of_ble_eq_true rfl⟩ ⟨Nat.le_of_ble_eq_true rfl, Nat.le_of_ble_eq_true rfl⟩ 3 cwG_3 rfl hl.1 rfl (Nat.le_of_ble_eq_true rfl) dX5_match_14 (st1 := [.int r3]) rfl (fun H locs I => ?_)
    refine lv_if_ne (tgt := 23) hx hb dX5_match_17 (by decide) (fun c4 => ?_) (fun c4 => ?_)
    · rw [if_neg c4] at hf
      refine lv_aload_n hx hb dX5_match_23 rfl (lv_at hl 0 rfl) ?_
      refine k_get (T := TX5) (N := 5) X I inU5 0 cwG_0 rfl 2 (by decide) uw_1_150 rfl rfl dX5_match_24 ?_
      refine lv_aload_n hx hb dX5_match_27 rfl (lv_at hl 0 rfl) ?_
      refine k_get (T := TX5) (N := 5) X I inU5 0 cwG_0 rfl 1 (by decide) uw_1_149 rfl rfl dX5_match_28 ?_
      obtain ⟨M5, h_M5, hf⟩ := k_bind hf
      refine k_callV (n := 1) (As := [.ref (q 3)]) (rest := []) X I (c_X0_solve h_M5) uw_3_75 uw_3_76 uw_3_77 uw_1_5 uw_3_78 ⟨rfl, rfl⟩ (by decide +kernel) rfl ⟨Nat.le_of_ble_eq_true rfl, Nat.le_of_ble_eq_true rfl⟩ ⟨Nat.le_of_ble_eq_true rfl, Nat.le_of_ble_eq_true rfl⟩ 18 cwG_18 rfl hl.1 rfl (Nat.le_of_ble_eq_true rfl) dX5_match_31 (st1 := []) rfl (fun H locs I => ?_)
      refine lv_aload_n hx hb dX5_match_34 rfl (lv_at hl 0 rfl) ?_
      refine k_get (T := TX5) (N := 5) X I inU5 0 cwG_0 rfl 2 (by decide) uw_1_150 rfl rfl dX5_match_35 ?_
      refine lv_iload_n hx hb dX5_match_38 rfl (lv_at hl 1 rfl) ?_
      obtain ⟨r6, h_r6, hf⟩ := k_bind hf
      refine k_callV (n := 1) (As := [.int x1]) (rest := []) X I (c_X0_tell h_r6) uw_3_115 uw_3_116 uw_3_117 uw_1_5 uw_3_118 ⟨rfl, rfl⟩ (by decide +kernel) rfl ⟨Nat.le_of_ble_eq_true rfl, Nat.le_of_ble_eq_true rfl⟩ ⟨Nat.le_of_ble_eq_true rfl, Nat.le_of_ble_eq_true rfl⟩ 18 cwG_18 rfl hl.1 rfl (Nat.le_of_ble_eq_true rfl) dX5_match_39 (st1 := [.int r6]) rfl (fun H locs I => ?_)
      exact k_iret X I hr hlocks dX5_match_42 hf
    · rw [if_pos c4] at hf
      refine lv_bipush (v := (-103)) hx hb dX5_match_20 (by decide) ?_
      exact k_iret X I hr hlocks dX5_match_22 hf
  · rw [if_pos c2] at hf
    refine lv_bipush (v := (-102)) hx hb dX5_match_7 (by decide) ?_
    exact k_iret X I hr hlocks dX5_match_9 hf
