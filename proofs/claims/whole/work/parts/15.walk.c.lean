/-! LostTent$Register.noteSeen(IIZ)Z -/
abbrev rm_X2_noteSeen : Room := { frames := 1, cells := 0, slots := 0, locals := 22 }
def f_X2_noteSeen_b52 (y0 : Int32) (y1 : Int32) (Mb : xM) : Option (Int32 × xM) :=
  nmM (xA Mb 7 (xp 8 (Mb.2.2 7) y1 y0)) fun M5 =>
  nmM (xI M5 5 ((M5.1 5) + (1 : Int32))) fun M6 =>
  (xbo (1 : Int32)).bind fun z => some (z, M6)
def f_X2_noteSeen (x1 : Int32) (x2 : Int32) (x3 : Int32) (M : xM) : Option (Int32 × xM) :=
  if (M.1 5) < (8 : Int32) then
    nmM (xA M 5 (xp 8 (M.2.2 5) (M.1 5) x1)) fun M2 =>
    nmM (xA M2 6 (xp 8 (M2.2.2 6) (M2.1 5) x2)) fun M3 =>
    if x3 = 0 then
      f_X2_noteSeen_b52 (0 : Int32) (M3.1 5) M3
    else
      f_X2_noteSeen_b52 (1 : Int32) (M3.1 5) M3
  else
    (xbo (0 : Int32)).bind fun z => some (z, M)
set_option maxRecDepth 100000 in
set_option maxHeartbeats 8000000 in
theorem c_X2_noteSeen {l : Launch} {D : va_G} {aI : ClassId} {q t : Nat → Nat} {x1 : Int32} {x2 : Int32} {x3 : Int32} {M : xM} {r : Int32} {Mr : xM} (hf : f_X2_noteSeen x1 x2 x3 M = some (r, Mr)) : kM l yX2_noteSeen (wk yX2_noteSeen cX2_noteSeen 4 (some .boolean)) rm_X2_noteSeen (cw q aI) D aI t [.ref (q 6), .int x1, .int x2, .int x3] M (some (.int r)) Mr := by
  refine kM_of (by decide) (Nat.le_of_ble_eq_true rfl) ?_
  intro p e s m args below meth c A ls X hr hlocks hl I
  have hx := X.1
  have hb := X.2.1
  have hl : lv_has ls 4 [(0, .ref (q 6)), (1, .int x1), (2, .int x2), (3, .int x3)] := hl
  have B52 : ∀ (y0 : Int32) (y1 : Int32) (Mb : xM) (H : Heap) (locs : List Loc) (ls : Array Slot), f_X2_noteSeen_b52 y0 y1 Mb = some (r, Mr) → kI (cw q aI) D A s Mb H locs → lv_has ls 4 [(0, .ref (q 6))] → W p l e rm_X2_noteSeen s m args below meth c H locs 0 0 (MQ below (kQ (cw q aI) D A (some (.int r)) Mr) args s 0 0 A) (F0 m 52 ls [.int y0, .int y1, .ref (q 11)]) := by
    intro y0 y1 Mb H locs ls hf I hl
    rw [f_X2_noteSeen_b52] at hf
    obtain ⟨M5, e_M5, hf⟩ := k_nm hf
    refine k_callSN (n := 3) (As := [.ref (q 11), .int y1, .int y0]) (rest := []) X I (c_put (M' := M5) 11 cwG_11 (by decide) (cwA_7.trans (congrArg (cw q aI) e_M5))) (List.mem_of_getElem? (i := 0) rfl) uw_1_1 uw_1_58 uw_1_59 ⟨rfl, rfl⟩ (by decide +kernel) rfl ⟨Nat.le_of_ble_eq_true rfl, Nat.le_of_ble_eq_true rfl⟩ ⟨Nat.le_of_ble_eq_true rfl, Nat.le_of_ble_eq_true rfl⟩ hl.1 rfl (Nat.le_of_ble_eq_true rfl) dX2_noteSeen_52 (st1 := []) rfl (fun H locs I => ?_)
    refine lv_aload_n hx hb dX2_noteSeen_55 rfl (lv_at hl 0 rfl) ?_
    refine lv_dup hx hb dX2_noteSeen_56 rfl ?_
    refine k_get (T := TX2) (N := 9) X I inU2 6 cwG_6 rfl 5 (by decide) uw_1_65 rfl rfl dX2_noteSeen_57 ?_
    refine lv_iconst (v := 1) hx hb dX2_noteSeen_60 (by decide) ?_
    refine lv_iadd hx hb dX2_noteSeen_61 ?_
    obtain ⟨M6, e_M6, hf⟩ := k_nm hf
    refine k_put (T := TX2) (N := 9) (M1 := M6) X I inU2 tyX2 tyX2_ok nmX2 6 cwG_6 rfl 5 (by decide) uw_1_65 rfl rfl (tyX2_ok 5 (by decide)) rfl rfl (Nat.le_of_ble_eq_true rfl) dX2_noteSeen_62 (cwI_5.trans (congrArg (cw q aI) e_M6)) (fun H locs I => ?_)
    refine lv_iconst (v := 1) hx hb dX2_noteSeen_65 (by decide) ?_
    exact k_zret X I hr hlocks dX2_noteSeen_66 hf
  rw [f_X2_noteSeen] at hf
  refine lv_aload_n hx hb dX2_noteSeen_0 rfl (lv_at hl 0 rfl) ?_
  refine k_get (T := TX2) (N := 9) X I inU2 6 cwG_6 rfl 5 (by decide) uw_1_65 rfl rfl dX2_noteSeen_1 ?_
  refine lv_bipush (v := 8) hx hb dX2_noteSeen_4 (by decide) ?_
  refine lv_icmp_lt (tgt := 11) hx hb dX2_noteSeen_6 (by decide) (fun c1 => ?_) (fun c1 => ?_)
  · rw [if_pos c1] at hf
    refine lv_aload_n hx hb dX2_noteSeen_11 rfl (lv_at hl 0 rfl) ?_
    refine k_get (T := TX2) (N := 9) X I inU2 6 cwG_6 rfl 2 (by decide) uw_1_62 rfl rfl dX2_noteSeen_12 ?_
    refine lv_aload_n hx hb dX2_noteSeen_15 rfl (lv_at hl 0 rfl) ?_
    refine k_get (T := TX2) (N := 9) X I inU2 6 cwG_6 rfl 5 (by decide) uw_1_65 rfl rfl dX2_noteSeen_16 ?_
    refine lv_iload_n hx hb dX2_noteSeen_19 rfl (lv_at hl 1 rfl) ?_
    obtain ⟨M2, e_M2, hf⟩ := k_nm hf
    refine k_callSN (n := 3) (As := [.ref (q 9), .int (M.1 5), .int x1]) (rest := []) X I (c_put (M' := M2) 9 cwG_9 (by decide) (cwA_5.trans (congrArg (cw q aI) e_M2))) (List.mem_of_getElem? (i := 0) rfl) uw_1_1 uw_1_58 uw_1_59 ⟨rfl, rfl⟩ (by decide +kernel) rfl ⟨Nat.le_of_ble_eq_true rfl, Nat.le_of_ble_eq_true rfl⟩ ⟨Nat.le_of_ble_eq_true rfl, Nat.le_of_ble_eq_true rfl⟩ hl.1 rfl (Nat.le_of_ble_eq_true rfl) dX2_noteSeen_20 (st1 := []) rfl (fun H locs I => ?_)
    refine lv_aload_n hx hb dX2_noteSeen_23 rfl (lv_at hl 0 rfl) ?_
    refine k_get (T := TX2) (N := 9) X I inU2 6 cwG_6 rfl 3 (by decide) uw_1_63 rfl rfl dX2_noteSeen_24 ?_
    refine lv_aload_n hx hb dX2_noteSeen_27 rfl (lv_at hl 0 rfl) ?_
    refine k_get (T := TX2) (N := 9) X I inU2 6 cwG_6 rfl 5 (by decide) uw_1_65 rfl rfl dX2_noteSeen_28 ?_
    refine lv_iload_n hx hb dX2_noteSeen_31 rfl (lv_at hl 2 rfl) ?_
    obtain ⟨M3, e_M3, hf⟩ := k_nm hf
    refine k_callSN (n := 3) (As := [.ref (q 10), .int (M2.1 5), .int x2]) (rest := []) X I (c_put (M' := M3) 10 cwG_10 (by decide) (cwA_6.trans (congrArg (cw q aI) e_M3))) (List.mem_of_getElem? (i := 0) rfl) uw_1_1 uw_1_58 uw_1_59 ⟨rfl, rfl⟩ (by decide +kernel) rfl ⟨Nat.le_of_ble_eq_true rfl, Nat.le_of_ble_eq_true rfl⟩ ⟨Nat.le_of_ble_eq_true rfl, Nat.le_of_ble_eq_true rfl⟩ hl.1 rfl (Nat.le_of_ble_eq_true rfl) dX2_noteSeen_32 (st1 := []) rfl (fun H locs I => ?_)
    refine lv_aload_n hx hb dX2_noteSeen_35 rfl (lv_at hl 0 rfl) ?_
    refine k_get (T := TX2) (N := 9) X I inU2 6 cwG_6 rfl 4 (by decide) uw_1_64 rfl rfl dX2_noteSeen_36 ?_
    refine lv_aload_n hx hb dX2_noteSeen_39 rfl (lv_at hl 0 rfl) ?_
    refine k_get (T := TX2) (N := 9) X I inU2 6 cwG_6 rfl 5 (by decide) uw_1_65 rfl rfl dX2_noteSeen_40 ?_
    refine lv_iload_n hx hb dX2_noteSeen_43 rfl (lv_at hl 3 rfl) ?_
    refine lv_if_eq (tgt := 51) hx hb dX2_noteSeen_44 (by decide) (fun c4 => ?_) (fun c4 => ?_)
    · rw [if_pos c4] at hf
      refine lv_iconst (v := 0) hx hb dX2_noteSeen_51 (by decide) ?_
      exact B52 (0 : Int32) (M3.1 5) M3 _ _ ls hf I (lv_sub hl [0] rfl)
    · rw [if_neg c4] at hf
      refine lv_iconst (v := 1) hx hb dX2_noteSeen_47 (by decide) ?_
      refine lv_goto (tgt := 52) hx hb dX2_noteSeen_48 (by decide) ?_
      exact B52 (1 : Int32) (M3.1 5) M3 _ _ ls hf I (lv_sub hl [0] rfl)
  · rw [if_neg c1] at hf
    refine lv_iconst (v := 0) hx hb dX2_noteSeen_9 (by decide) ?_
    exact k_zret X I hr hlocks dX2_noteSeen_10 hf
/-! LostTent.see(IIZ)I -/
abbrev rm_X5_see : Room := { frames := 3, cells := 0, slots := 0, locals := 64 }
def f_X5_see (x1 : Int32) (x2 : Int32) (x3 : Int32) (M : xM) : Option (Int32 × xM) :=
  (f_X3_hasBoth x1 x2 M).bind fun r1 =>
  if r1 = 0 then
    some ((-101 : Int32), M)
  else
    ob2 (f_X2_noteSeen x1 x2 x3 M) fun r3 M4 =>
    if r3 = 0 then
      some ((-104 : Int32), M4)
    else
      (f_X2_seenInAll M4).bind fun r6 =>
      some (r6, M4)
set_option maxRecDepth 100000 in
set_option maxHeartbeats 8000000 in
theorem c_X5_see {l : Launch} {D : va_G} {aI : ClassId} {q t : Nat → Nat} {x1 : Int32} {x2 : Int32} {x3 : Int32} {M : xM} {r : Int32} {Mr : xM} (hf : f_X5_see x1 x2 x3 M = some (r, Mr)) : kM l yX5_see (wk yX5_see cX5_see 4 (some .int)) rm_X5_see (cw q aI) D aI t [.ref (q 0), .int x1, .int x2, .int x3] M (some (.int r)) Mr := by
  refine kM_of (by decide) (Nat.le_of_ble_eq_true rfl) ?_
  intro p e s m args below meth c A ls X hr hlocks hl I
  have hx := X.1
  have hb := X.2.1
  have hl : lv_has ls 4 [(0, .ref (q 0)), (1, .int x1), (2, .int x2), (3, .int x3)] := hl
  rw [f_X5_see] at hf
  refine lv_aload_n hx hb dX5_see_0 rfl (lv_at hl 0 rfl) ?_
  refine k_get (T := TX5) (N := 5) X I inU5 0 cwG_0 rfl 1 (by decide) uw_1_149 rfl rfl dX5_see_1 ?_
  refine lv_iload_n hx hb dX5_see_4 rfl (lv_at hl 1 rfl) ?_
  refine lv_iload_n hx hb dX5_see_5 rfl (lv_at hl 2 rfl) ?_
  obtain ⟨r1, h_r1, hf⟩ := k_bind hf
  refine k_callV (n := 2) (As := [.int x1, .int x2]) (rest := []) X I (c_X3_hasBoth h_r1) uw_3_15 uw_3_16 uw_3_17 uw_1_3 uw_3_18 ⟨rfl, rfl⟩ (by decide +kernel) rfl ⟨Nat.le_of_ble_eq_true rfl, Nat.le_of_ble_eq_true rfl⟩ ⟨Nat.le_of_ble_eq_true rfl, Nat.le_of_ble_eq_true rfl⟩ 3 cwG_3 rfl hl.1 rfl (Nat.le_of_ble_eq_true rfl) dX5_see_6 (st1 := [.int r1]) rfl (fun H locs I => ?_)
  refine lv_if_ne (tgt := 15) hx hb dX5_see_9 (by decide) (fun c2 => ?_) (fun c2 => ?_)
  · rw [if_neg c2] at hf
    refine lv_aload_n hx hb dX5_see_15 rfl (lv_at hl 0 rfl) ?_
    refine k_get (T := TX5) (N := 5) X I inU5 0 cwG_0 rfl 1 (by decide) uw_1_149 rfl rfl dX5_see_16 ?_
    refine k_callV (n := 0) (As := []) (rest := []) X I c_X3_register uw_2_122 uw_2_123 uw_2_124 uw_1_3 uw_2_125 ⟨rfl, rfl⟩ (by decide +kernel) rfl ⟨Nat.le_of_ble_eq_true rfl, Nat.le_of_ble_eq_true rfl⟩ ⟨Nat.le_of_ble_eq_true rfl, Nat.le_of_ble_eq_true rfl⟩ 3 cwG_3 rfl hl.1 rfl (Nat.le_of_ble_eq_true rfl) dX5_see_19 (st1 := [.ref (q 6)]) rfl (fun H locs I => ?_)
    refine lv_iload_n hx hb dX5_see_22 rfl (lv_at hl 1 rfl) ?_
    refine lv_iload_n hx hb dX5_see_23 rfl (lv_at hl 2 rfl) ?_
    refine lv_iload_n hx hb dX5_see_24 rfl (lv_at hl 3 rfl) ?_
    obtain ⟨r3, M4, h_r3, hf⟩ := k_bind2 hf
    refine k_callV (n := 3) (As := [.int x1, .int x2, .int x3]) (rest := []) X I (c_X2_noteSeen h_r3) uw_3_123 uw_3_124 uw_3_125 uw_1_4 uw_3_126 ⟨rfl, rfl⟩ (by decide +kernel) rfl ⟨Nat.le_of_ble_eq_true rfl, Nat.le_of_ble_eq_true rfl⟩ ⟨Nat.le_of_ble_eq_true rfl, Nat.le_of_ble_eq_true rfl⟩ 6 cwG_6 rfl hl.1 rfl (Nat.le_of_ble_eq_true rfl) dX5_see_25 (st1 := [.int r3]) rfl (fun H locs I => ?_)
    refine lv_if_ne (tgt := 34) hx hb dX5_see_28 (by decide) (fun c5 => ?_) (fun c5 => ?_)
    · rw [if_neg c5] at hf
      refine lv_aload_n hx hb dX5_see_34 rfl (lv_at hl 0 rfl) ?_
      refine k_get (T := TX5) (N := 5) X I inU5 0 cwG_0 rfl 1 (by decide) uw_1_149 rfl rfl dX5_see_35 ?_
      refine k_callV (n := 0) (As := []) (rest := []) X I c_X3_register uw_2_122 uw_2_123 uw_2_124 uw_1_3 uw_2_125 ⟨rfl, rfl⟩ (by decide +kernel) rfl ⟨Nat.le_of_ble_eq_true rfl, Nat.le_of_ble_eq_true rfl⟩ ⟨Nat.le_of_ble_eq_true rfl, Nat.le_of_ble_eq_true rfl⟩ 3 cwG_3 rfl hl.1 rfl (Nat.le_of_ble_eq_true rfl) dX5_see_38 (st1 := [.ref (q 6)]) rfl (fun H locs I => ?_)
      obtain ⟨r6, h_r6, hf⟩ := k_bind hf
      refine k_callV (n := 0) (As := []) (rest := []) X I (c_X2_seenInAll h_r6) uw_3_127 uw_2_175 uw_2_176 uw_1_4 uw_2_177 ⟨rfl, rfl⟩ (by decide +kernel) rfl ⟨Nat.le_of_ble_eq_true rfl, Nat.le_of_ble_eq_true rfl⟩ ⟨Nat.le_of_ble_eq_true rfl, Nat.le_of_ble_eq_true rfl⟩ 6 cwG_6 rfl hl.1 rfl (Nat.le_of_ble_eq_true rfl) dX5_see_41 (st1 := [.int r6]) rfl (fun H locs I => ?_)
      exact k_iret X I hr hlocks dX5_see_44 hf
    · rw [if_pos c5] at hf
      refine lv_bipush (v := (-104)) hx hb dX5_see_31 (by decide) ?_
      exact k_iret X I hr hlocks dX5_see_33 hf
  · rw [if_pos c2] at hf
    refine lv_bipush (v := (-101)) hx hb dX5_see_12 (by decide) ?_
    exact k_iret X I hr hlocks dX5_see_14 hf
/-! LostTent$Register.clearSeen()V -/
abbrev rm_X2_clearSeen : Room := { frames := 0, cells := 0, slots := 0, locals := 0 }
def f_X2_clearSeen (M : xM) : Option xM :=
  nmM (xI M 5 (0 : Int32)) fun M1 =>
  some M1
set_option maxRecDepth 100000 in
set_option maxHeartbeats 8000000 in
theorem c_X2_clearSeen {l : Launch} {D : va_G} {aI : ClassId} {q t : Nat → Nat} {M : xM} {Mr : xM} (hf : f_X2_clearSeen M = some Mr) : kM l yX2_clearSeen (wk yX2_clearSeen cX2_clearSeen 1 none) rm_X2_clearSeen (cw q aI) D aI t [.ref (q 6)] M none Mr := by
  refine kM_of (by decide) (Nat.le_of_ble_eq_true rfl) ?_
  intro p e s m args below meth c A ls X hr hlocks hl I
  have hx := X.1
  have hb := X.2.1
  have hl : lv_has ls 1 [(0, .ref (q 6))] := hl
  rw [f_X2_clearSeen] at hf
  refine lv_aload_n hx hb dX2_clearSeen_0 rfl (lv_at hl 0 rfl) ?_
  refine lv_iconst (v := 0) hx hb dX2_clearSeen_1 (by decide) ?_
  obtain ⟨M1, e_M1, hf⟩ := k_nm hf
  refine k_put (T := TX2) (N := 9) (M1 := M1) X I inU2 tyX2 tyX2_ok nmX2 6 cwG_6 rfl 5 (by decide) uw_1_65 rfl rfl (tyX2_ok 5 (by decide)) rfl rfl (Nat.le_of_ble_eq_true rfl) dX2_clearSeen_2 (cwI_5.trans (congrArg (cw q aI) e_M1)) (fun H locs I => ?_)
  exact k_vret X I hr hlocks dX2_clearSeen_5 hf
/-! LostTent.forget()I -/
abbrev rm_X5_forget : Room := { frames := 1, cells := 0, slots := 0, locals := 20 }
def f_X5_forget (M : xM) : Option (Int32 × xM) :=
  (f_X2_seenInAll M).bind fun r1 =>
  (f_X2_clearSeen M).bind fun M2 =>
  some (r1, M2)
set_option maxRecDepth 100000 in
set_option maxHeartbeats 8000000 in
theorem c_X5_forget {l : Launch} {D : va_G} {aI : ClassId} {q t : Nat → Nat} {M : xM} {r : Int32} {Mr : xM} (hf : f_X5_forget M = some (r, Mr)) : kM l yX5_forget (wk yX5_forget cX5_forget 2 (some .int)) rm_X5_forget (cw q aI) D aI t [.ref (q 0)] M (some (.int r)) Mr := by
  refine kM_of (by decide) (Nat.le_of_ble_eq_true rfl) ?_
  intro p e s m args below meth c A ls X hr hlocks hl I
  have hx := X.1
  have hb := X.2.1
  have hl : lv_has ls 2 [(0, .ref (q 0))] := hl
  rw [f_X5_forget] at hf
  refine lv_aload_n hx hb dX5_forget_0 rfl (lv_at hl 0 rfl) ?_
  refine k_get (T := TX5) (N := 5) X I inU5 0 cwG_0 rfl 1 (by decide) uw_1_149 rfl rfl dX5_forget_1 ?_
  refine k_callV (n := 0) (As := []) (rest := []) X I c_X3_register uw_2_122 uw_2_123 uw_2_124 uw_1_3 uw_2_125 ⟨rfl, rfl⟩ (by decide +kernel) rfl ⟨Nat.le_of_ble_eq_true rfl, Nat.le_of_ble_eq_true rfl⟩ ⟨Nat.le_of_ble_eq_true rfl, Nat.le_of_ble_eq_true rfl⟩ 3 cwG_3 rfl hl.1 rfl (Nat.le_of_ble_eq_true rfl) dX5_forget_4 (st1 := [.ref (q 6)]) rfl (fun H locs I => ?_)
  obtain ⟨r1, h_r1, hf⟩ := k_bind hf
  refine k_callV (n := 0) (As := []) (rest := []) X I (c_X2_seenInAll h_r1) uw_3_127 uw_2_175 uw_2_176 uw_1_4 uw_2_177 ⟨rfl, rfl⟩ (by decide +kernel) rfl ⟨Nat.le_of_ble_eq_true rfl, Nat.le_of_ble_eq_true rfl⟩ ⟨Nat.le_of_ble_eq_true rfl, Nat.le_of_ble_eq_true rfl⟩ 6 cwG_6 rfl hl.1 rfl (Nat.le_of_ble_eq_true rfl) dX5_forget_7 (st1 := [.int r1]) rfl (fun H locs I => ?_)
  refine lv_istore_n (lv' := [(1, .int r1), (0, .ref (q 0))]) hx hb dX5_forget_10 rfl hl (by decide) rfl (fun ls hl => ?_)
  refine lv_aload_n hx hb dX5_forget_11 rfl (lv_at hl 1 rfl) ?_
  refine k_get (T := TX5) (N := 5) X I inU5 0 cwG_0 rfl 1 (by decide) uw_1_149 rfl rfl dX5_forget_12 ?_
  refine k_callV (n := 0) (As := []) (rest := []) X I c_X3_register uw_2_122 uw_2_123 uw_2_124 uw_1_3 uw_2_125 ⟨rfl, rfl⟩ (by decide +kernel) rfl ⟨Nat.le_of_ble_eq_true rfl, Nat.le_of_ble_eq_true rfl⟩ ⟨Nat.le_of_ble_eq_true rfl, Nat.le_of_ble_eq_true rfl⟩ 3 cwG_3 rfl hl.1 rfl (Nat.le_of_ble_eq_true rfl) dX5_forget_15 (st1 := [.ref (q 6)]) rfl (fun H locs I => ?_)
  obtain ⟨M2, h_M2, hf⟩ := k_bind hf
  refine k_callV (n := 0) (As := []) (rest := []) X I (c_X2_clearSeen h_M2) uw_3_132 uw_3_133 uw_3_134 uw_1_4 uw_3_135 ⟨rfl, rfl⟩ (by decide +kernel) rfl ⟨Nat.le_of_ble_eq_true rfl, Nat.le_of_ble_eq_true rfl⟩ ⟨Nat.le_of_ble_eq_true rfl, Nat.le_of_ble_eq_true rfl⟩ 6 cwG_6 rfl hl.1 rfl (Nat.le_of_ble_eq_true rfl) dX5_forget_18 (st1 := []) rfl (fun H locs I => ?_)
  refine lv_iload_n hx hb dX5_forget_21 rfl (lv_at hl 0 rfl) ?_
  exact k_iret X I hr hlocks dX5_forget_22 hf
/-! LostTent$Visits.draw(I)I -/
abbrev rm_X4_draw : Room := { frames := 0, cells := 0, slots := 0, locals := 0 }
def f_X4_draw (x1 : Int32) (M : xM) : Option (Int32 × xM) :=
  nmM (xL M ((((1103515245 : Int64) * M.2.1) + (12345 : Int64)) - (((1103515245 : Int64) * M.2.1) + (12345 : Int64)) / (2147483648 : Int64) * (2147483648 : Int64))) fun M1 =>
  if x1 ≤ 0 then
    some ((0 : Int32), M1)
  else
    (xlr (M1.2.1 / (65536 : Int64)) x1.toInt64).bind fun r3 =>
    some (r3.toInt32, M1)
set_option maxRecDepth 100000 in
set_option maxHeartbeats 8000000 in
theorem c_X4_draw {l : Launch} {D : va_G} {aI : ClassId} {q t : Nat → Nat} {x1 : Int32} {M : xM} {r : Int32} {Mr : xM} (hf : f_X4_draw x1 M = some (r, Mr)) : kM l yX4_draw (wk yX4_draw cX4_draw 2 (some .int)) rm_X4_draw (cw q aI) D aI t [.ref (q 21), .int x1] M (some (.int r)) Mr := by
  refine kM_of (by decide) (Nat.le_of_ble_eq_true rfl) ?_
  intro p e s m args below meth c A ls X hr hlocks hl I
  have hx := X.1
  have hb := X.2.1
  have hl : lv_has ls 2 [(0, .ref (q 21)), (1, .int x1)] := hl
  rw [f_X4_draw] at hf
  refine lv_aload_n hx hb dX4_draw_0 rfl (lv_at hl 0 rfl) ?_
  refine lv_ldc2 (v := 1103515245) hx hb X.2.2.2.1 (X.2.2.2.2.1 _ uw_3_149) dX4_draw_1 ?_
  refine lv_aload_n hx hb dX4_draw_4 rfl (lv_at hl 0 rfl) ?_
  refine k_get (T := TX4) (N := 3) X I inU4 21 cwG_21 rfl 0 (by decide) uw_1_138 rfl rfl dX4_draw_5 ?_
  refine lv_lmul hx hb dX4_draw_8 ?_
  refine lv_ldc2 (v := 12345) hx hb X.2.2.2.1 (X.2.2.2.2.1 _ uw_3_150) dX4_draw_9 ?_
  refine lv_ladd hx hb dX4_draw_12 ?_
  refine lv_ldc2 (v := 2147483648) hx hb X.2.2.2.1 (X.2.2.2.2.1 _ uw_3_151) dX4_draw_13 ?_
  refine lv_lrem hx hb dX4_draw_16 (by decide) ?_
  obtain ⟨M1, e_M1, hf⟩ := k_nm hf
  refine k_put (T := TX4) (N := 3) (M1 := M1) X I inU4 tyX4 tyX4_ok nmX4 21 cwG_21 rfl 0 (by decide) uw_1_138 rfl rfl (tyX4_ok 0 (by decide)) rfl rfl (Nat.le_of_ble_eq_true rfl) dX4_draw_17 (cwL.trans (congrArg (cw q aI) e_M1)) (fun H locs I => ?_)
  refine lv_iload_n hx hb dX4_draw_20 rfl (lv_at hl 1 rfl) ?_
  refine lv_if_le (tgt := 39) hx hb dX4_draw_21 (by decide) (fun c2 => ?_) (fun c2 => ?_)
  · rw [if_pos c2] at hf
    refine lv_iconst (v := 0) hx hb dX4_draw_39 (by decide) ?_
    exact k_iret X I hr hlocks dX4_draw_40 hf
  · rw [if_neg c2] at hf
    refine lv_aload_n hx hb dX4_draw_24 rfl (lv_at hl 0 rfl) ?_
    refine k_get (T := TX4) (N := 3) X I inU4 21 cwG_21 rfl 0 (by decide) uw_1_138 rfl rfl dX4_draw_25 ?_
    refine lv_ldc2 (v := 65536) hx hb X.2.2.2.1 (X.2.2.2.2.1 _ uw_3_152) dX4_draw_28 ?_
    refine lv_ldiv hx hb dX4_draw_31 (by decide) ?_
    refine lv_iload_n hx hb dX4_draw_32 rfl (lv_at hl 1 rfl) ?_
    refine lv_i2l hx hb dX4_draw_33 rfl ?_
    obtain ⟨r3, h_r3, hf⟩ := k_bind hf
    refine k_lrem X h_r3 dX4_draw_34 ?_
    refine lv_l2i hx hb dX4_draw_35 rfl ?_
    refine lv_goto (tgt := 40) hx hb dX4_draw_36 (by decide) ?_
    exact k_iret X I hr hlocks dX4_draw_40 hf
/-! LostTent$Visits.addIfFit(II)V -/
abbrev rm_X4_addIfFit : Room := { frames := 2, cells := 0, slots := 0, locals := 42 }
def f_X4_addIfFit (x1 : Int32) (x2 : Int32) (M : xM) : Option xM :=
  (f_X5_isFit x1 x2).bind fun r1 =>
  if r1 = 0 then
    some M
  else
    nmM (xI M 16 ((M.1 16) + (1 : Int32))) fun M3 =>
    nmM (xI M3 17 ((M3.1 17) + x2)) fun M4 =>
    some M4
set_option maxRecDepth 100000 in
set_option maxHeartbeats 8000000 in
theorem c_X4_addIfFit {l : Launch} {D : va_G} {aI : ClassId} {q t : Nat → Nat} {x1 : Int32} {x2 : Int32} {M : xM} {Mr : xM} (hf : f_X4_addIfFit x1 x2 M = some Mr) : kM l yX4_addIfFit (wk yX4_addIfFit cX4_addIfFit 3 none) rm_X4_addIfFit (cw q aI) D aI t [.ref (q 21), .int x1, .int x2] M none Mr := by
  refine kM_of (by decide) (Nat.le_of_ble_eq_true rfl) ?_
  intro p e s m args below meth c A ls X hr hlocks hl I
  have hx := X.1
  have hb := X.2.1
  have hl : lv_has ls 3 [(0, .ref (q 21)), (1, .int x1), (2, .int x2)] := hl
  rw [f_X4_addIfFit] at hf
  refine lv_iload_n hx hb dX4_addIfFit_0 rfl (lv_at hl 1 rfl) ?_
  refine lv_iload_n hx hb dX4_addIfFit_1 rfl (lv_at hl 2 rfl) ?_
  obtain ⟨r1, h_r1, hf⟩ := k_bind hf
  refine k_callSN (n := 2) (As := [.int x1, .int x2]) (rest := []) X I (c_X5_isFit h_r1) (List.mem_of_getElem? (i := 17) rfl) uw_1_1 uw_2_166 uw_2_167 ⟨rfl, rfl⟩ (by decide +kernel) rfl ⟨Nat.le_of_ble_eq_true rfl, Nat.le_of_ble_eq_true rfl⟩ ⟨Nat.le_of_ble_eq_true rfl, Nat.le_of_ble_eq_true rfl⟩ hl.1 rfl (Nat.le_of_ble_eq_true rfl) dX4_addIfFit_2 (st1 := [.int r1]) rfl (fun H locs I => ?_)
  refine lv_if_ne (tgt := 9) hx hb dX4_addIfFit_5 (by decide) (fun c2 => ?_) (fun c2 => ?_)
  · rw [if_neg c2] at hf
    refine lv_aload_n hx hb dX4_addIfFit_9 rfl (lv_at hl 0 rfl) ?_
    refine lv_dup hx hb dX4_addIfFit_10 rfl ?_
    refine k_get (T := TX4) (N := 3) X I inU4 21 cwG_21 rfl 1 (by decide) uw_1_139 rfl rfl dX4_addIfFit_11 ?_
    refine lv_iconst (v := 1) hx hb dX4_addIfFit_14 (by decide) ?_
    refine lv_iadd hx hb dX4_addIfFit_15 ?_
    obtain ⟨M3, e_M3, hf⟩ := k_nm hf
    refine k_put (T := TX4) (N := 3) (M1 := M3) X I inU4 tyX4 tyX4_ok nmX4 21 cwG_21 rfl 1 (by decide) uw_1_139 rfl rfl (tyX4_ok 1 (by decide)) rfl rfl (Nat.le_of_ble_eq_true rfl) dX4_addIfFit_16 (cwI_16.trans (congrArg (cw q aI) e_M3)) (fun H locs I => ?_)
    refine lv_aload_n hx hb dX4_addIfFit_19 rfl (lv_at hl 0 rfl) ?_
    refine lv_dup hx hb dX4_addIfFit_20 rfl ?_
    refine k_get (T := TX4) (N := 3) X I inU4 21 cwG_21 rfl 2 (by decide) uw_1_140 rfl rfl dX4_addIfFit_21 ?_
    refine lv_iload_n hx hb dX4_addIfFit_24 rfl (lv_at hl 2 rfl) ?_
    refine lv_iadd hx hb dX4_addIfFit_25 ?_
    obtain ⟨M4, e_M4, hf⟩ := k_nm hf
    refine k_put (T := TX4) (N := 3) (M1 := M4) X I inU4 tyX4 tyX4_ok nmX4 21 cwG_21 rfl 2 (by decide) uw_1_140 rfl rfl (tyX4_ok 2 (by decide)) rfl rfl (Nat.le_of_ble_eq_true rfl) dX4_addIfFit_26 (cwI_17.trans (congrArg (cw q aI) e_M4)) (fun H locs I => ?_)
    exact k_vret X I hr hlocks dX4_addIfFit_29 hf
  · rw [if_pos c2] at hf
    exact k_vret X I hr hlocks dX4_addIfFit_8 hf
/-! LostTent$Visits.play(LLostTent$Tent;II)V -/
abbrev rm_X4_play : Room := { frames := 3, cells := 0, slots := 0, locals := 64 }
def f_X4_play_b137 (k19 : Int32 → Int32 → xM → Option xM) (k76 : Int32 → Int32 → Int32 → Int32 → Int32 → Int32 → Int32 → xM → Option xM) (x2 : Int32) (x4 : Int32) (x5 : Int32) (x6 : Int32) (x7 : Int32) (x8 : Int32) (x9 : Int32) (y0 : Int32) (y1 : Int32) (y2 : Int32) (y3 : Int32) (y4 : Int32) (Mb : xM) : Option xM :=
  (f_X5_wrongBy y3 y2 y1 y0).bind fun r22 =>
  (f_X4_addIfFit y4 r22 Mb).bind fun M23 =>
  k76 x2 x4 x5 x6 x7 x8 (x9 + 1) M23
def f_X4_play_b120 (k19 : Int32 → Int32 → xM → Option xM) (k76 : Int32 → Int32 → Int32 → Int32 → Int32 → Int32 → Int32 → xM → Option xM) (x2 : Int32) (x4 : Int32) (x5 : Int32) (x6 : Int32) (x7 : Int32) (x8 : Int32) (x9 : Int32) (y0 : Int32) (y1 : Int32) (y2 : Int32) (y3 : Int32) (Mb : xM) : Option xM :=
  (f_X3_signOf x9 (2 : Int32) Mb).bind fun r20 =>
  if r20 = x8 then
    f_X4_play_b137 k19 k76 x2 x4 x5 x6 x7 x8 x9 (0 : Int32) y0 y1 y2 y3 Mb
  else
    f_X4_play_b137 k19 k76 x2 x4 x5 x6 x7 x8 x9 (1 : Int32) y0 y1 y2 y3 Mb
def f_X4_play_l76 (k19 : Int32 → Int32 → xM → Option xM) : Nat → Int32 → Int32 → Int32 → Int32 → Int32 → Int32 → Int32 → xM → Option xM
  | 0, _, _, _, _, _, _, _, _ => none
  | n76 + 1, x2, x4, x5, x6, x7, x8, x9, Mb =>
    (f_X3_things Mb).bind fun r15 =>
    if r15 ≤ x9 then
      k19 x2 (x4 + 1) Mb
    else
      (f_X3_signOf x9 (0 : Int32) Mb).bind fun r17 =>
      (f_X3_signOf x9 (1 : Int32) Mb).bind fun r18 =>
      if r18 = x7 then
        f_X4_play_b120 k19 (f_X4_play_l76 k19 n76) x2 x4 x5 x6 x7 x8 x9 (0 : Int32) (if 0 ≤ (r17 - x6) then (r17 - x6) else 0 - (r17 - x6)) x5 x5 Mb
      else
        f_X4_play_b120 k19 (f_X4_play_l76 k19 n76) x2 x4 x5 x6 x7 x8 x9 (1 : Int32) (if 0 ≤ (r17 - x6) then (r17 - x6) else 0 - (r17 - x6)) x5 x5 Mb
def f_X4_play_l19 : Nat → Int32 → Int32 → xM → Option xM
  | 0, _, _, _ => none
  | n19 + 1, x2, x4, Mb =>
    if x2 ≤ x4 then
      some Mb
    else
      (f_X3_claimers Mb).bind fun r5 =>
      ob2 (f_X4_draw r5 Mb) fun r6 M7 =>
      (f_X3_kindOf r6 M7).bind fun r8 =>
      ob2 (f_X4_draw (10 : Int32) M7) fun r9 M10 =>
      ob2 (f_X4_draw (xe 3 (xT [10, 6, 5]) (1 : Int32)) M10) fun r11 M12 =>
      ob2 (f_X4_draw (xe 3 (xT [10, 6, 5]) (2 : Int32)) M12) fun r13 M14 =>
      f_X4_play_l76 (f_X4_play_l19 n19) xN x2 x4 r8 r9 r11 r13 (0 : Int32) M14
def f_X4_play (x2 : Int32) (x3 : Int32) (M : xM) : Option xM :=
  nmM (xL M x3.toInt64) fun M1 =>
  nmM (xI M1 16 (0 : Int32)) fun M2 =>
  nmM (xI M2 17 (0 : Int32)) fun M3 =>
  f_X4_play_l19 xN x2 (0 : Int32) M3
set_option maxRecDepth 100000 in
set_option maxHeartbeats 8000000 in
theorem c_X4_play {l : Launch} {D : va_G} {aI : ClassId} {q t : Nat → Nat} {x2 : Int32} {x3 : Int32} {M : xM} {Mr : xM} (hf : f_X4_play x2 x3 M = some Mr) : kM l yX4_play (wk yX4_play cX4_play 10 none) rm_X4_play (cw q aI) D aI t [.ref (q 21), .ref (q 3), .int x2, .int x3] M none Mr := by
  refine kM_of (by decide) (Nat.le_of_ble_eq_true rfl) ?_
  intro p e s m args below meth c A ls X hr hlocks hl I
  have hx := X.1
  have hb := X.2.1
  have hl : lv_has ls 10 [(0, .ref (q 21)), (1, .ref (q 3)), (2, .int x2), (3, .int x3)] := hl
  have B137 : ∀ (k19 : Int32 → Int32 → xM → Option xM), (∀ (x2 : Int32) (x4 : Int32) (Mb : xM) (H : Heap) (locs : List Loc) (ls : Array Slot), k19 x2 x4 Mb = some Mr → kI (cw q aI) D A s Mb H locs → lv_has ls 10 [(0, .ref (q 21)), (1, .ref (q 3)), (2, .int x2), (4, .int x4)] → W p l e rm_X4_play s m args below meth c H locs 0 0 (MQ below (kQ (cw q aI) D A none Mr) args s 0 0 A) (F0 m 19 ls [])) → ∀ (k76 : Int32 → Int32 → Int32 → Int32 → Int32 → Int32 → Int32 → xM → Option xM), (∀ (x2 : Int32) (x4 : Int32) (x5 : Int32) (x6 : Int32) (x7 : Int32) (x8 : Int32) (x9 : Int32) (Mb : xM) (H : Heap) (locs : List Loc) (ls : Array Slot), k76 x2 x4 x5 x6 x7 x8 x9 Mb = some Mr → kI (cw q aI) D A s Mb H locs → lv_has ls 10 [(0, .ref (q 21)), (1, .ref (q 3)), (2, .int x2), (4, .int x4), (5, .int x5), (6, .int x6), (7, .int x7), (8, .int x8), (9, .int x9)] → W p l e rm_X4_play s m args below meth c H locs 0 0 (MQ below (kQ (cw q aI) D A none Mr) args s 0 0 A) (F0 m 76 ls [])) → ∀ (x2 : Int32) (x4 : Int32) (x5 : Int32) (x6 : Int32) (x7 : Int32) (x8 : Int32) (x9 : Int32) (y0 : Int32) (y1 : Int32) (y2 : Int32) (y3 : Int32) (y4 : Int32) (Mb : xM) (H : Heap) (locs : List Loc) (ls : Array Slot), f_X4_play_b137 k19 k76 x2 x4 x5 x6 x7 x8 x9 y0 y1 y2 y3 y4 Mb = some Mr → kI (cw q aI) D A s Mb H locs → lv_has ls 10 [(0, .ref (q 21)), (1, .ref (q 3)), (2, .int x2), (4, .int x4), (5, .int x5), (6, .int x6), (7, .int x7), (8, .int x8), (9, .int x9)] → W p l e rm_X4_play s m args below meth c H locs 0 0 (MQ below (kQ (cw q aI) D A none Mr) args s 0 0 A) (F0 m 137 ls [.int y0, .int y1, .int y2, .int y3, .int y4, .ref (q 21)]) := by
    intro k19 hk19 k76 hk76 x2 x4 x5 x6 x7 x8 x9 y0 y1 y2 y3 y4 Mb H locs ls hf I hl
    rw [f_X4_play_b137] at hf
    obtain ⟨r22, h_r22, hf⟩ := k_bind hf
    refine k_callSN (n := 4) (As := [.int y3, .int y2, .int y1, .int y0]) (rest := [.int y4, .ref (q 21)]) X I (c_X5_wrongBy h_r22) (List.mem_of_getElem? (i := 16) rfl) uw_1_1 uw_2_156 uw_2_157 ⟨rfl, rfl⟩ (by decide +kernel) rfl ⟨Nat.le_of_ble_eq_true rfl, Nat.le_of_ble_eq_true rfl⟩ ⟨Nat.le_of_ble_eq_true rfl, Nat.le_of_ble_eq_true rfl⟩ hl.1 rfl (Nat.le_of_ble_eq_true rfl) dX4_play_137 (st1 := [.int r22, .int y4, .ref (q 21)]) rfl (fun H locs I => ?_)
    obtain ⟨M23, h_M23, hf⟩ := k_bind hf
    refine k_callV (n := 2) (As := [.int y4, .int r22]) (rest := []) X I (c_X4_addIfFit h_M23) uw_3_160 uw_3_162 us_12 uw_1_6 uw_3_163 ⟨rfl, rfl⟩ (by decide +kernel) rfl ⟨Nat.le_of_ble_eq_true rfl, Nat.le_of_ble_eq_true rfl⟩ ⟨Nat.le_of_ble_eq_true rfl, Nat.le_of_ble_eq_true rfl⟩ 21 cwG_21 rfl hl.1 rfl (Nat.le_of_ble_eq_true rfl) dX4_play_140 (st1 := []) rfl (fun H locs I => ?_)
    refine lv_iinc (v := (x9 + 1)) (lv' := [(9, .int (x9 + 1)), (0, .ref (q 21)), (1, .ref (q 3)), (2, .int x2), (4, .int x4), (5, .int x5), (6, .int x6), (7, .int x7), (8, .int x8)]) hx hb dX4_play_143 hl (k := 8) rfl rfl (by decide) rfl (fun ls hl => ?_)
    refine lv_goto (tgt := 76) hx hb dX4_play_146 (by decide) ?_
    exact hk76 x2 x4 x5 x6 x7 x8 (x9 + 1) M23 _ _ ls hf I (lv_sub hl [1, 2, 3, 4, 5, 6, 7, 8, 0] rfl)
  have B120 : ∀ (k19 : Int32 → Int32 → xM → Option xM), (∀ (x2 : Int32) (x4 : Int32) (Mb : xM) (H : Heap) (locs : List Loc) (ls : Array Slot), k19 x2 x4 Mb = some Mr → kI (cw q aI) D A s Mb H locs → lv_has ls 10 [(0, .ref (q 21)), (1, .ref (q 3)), (2, .int x2), (4, .int x4)] → W p l e rm_X4_play s m args below meth c H locs 0 0 (MQ below (kQ (cw q aI) D A none Mr) args s 0 0 A) (F0 m 19 ls [])) → ∀ (k76 : Int32 → Int32 → Int32 → Int32 → Int32 → Int32 → Int32 → xM → Option xM), (∀ (x2 : Int32) (x4 : Int32) (x5 : Int32) (x6 : Int32) (x7 : Int32) (x8 : Int32) (x9 : Int32) (Mb : xM) (H : Heap) (locs : List Loc) (ls : Array Slot), k76 x2 x4 x5 x6 x7 x8 x9 Mb = some Mr → kI (cw q aI) D A s Mb H locs → lv_has ls 10 [(0, .ref (q 21)), (1, .ref (q 3)), (2, .int x2), (4, .int x4), (5, .int x5), (6, .int x6), (7, .int x7), (8, .int x8), (9, .int x9)] → W p l e rm_X4_play s m args below meth c H locs 0 0 (MQ below (kQ (cw q aI) D A none Mr) args s 0 0 A) (F0 m 76 ls [])) → ∀ (x2 : Int32) (x4 : Int32) (x5 : Int32) (x6 : Int32) (x7 : Int32) (x8 : Int32) (x9 : Int32) (y0 : Int32) (y1 : Int32) (y2 : Int32) (y3 : Int32) (Mb : xM) (H : Heap) (locs : List Loc) (ls : Array Slot), f_X4_play_b120 k19 k76 x2 x4 x5 x6 x7 x8 x9 y0 y1 y2 y3 Mb = some Mr → kI (cw q aI) D A s Mb H locs → lv_has ls 10 [(0, .ref (q 21)), (1, .ref (q 3)), (2, .int x2), (4, .int x4), (5, .int x5), (6, .int x6), (7, .int x7), (8, .int x8), (9, .int x9)] → W p l e rm_X4_play s m args below meth c H locs 0 0 (MQ below (kQ (cw q aI) D A none Mr) args s 0 0 A) (F0 m 120 ls [.int y0, .int y1, .int y2, .int y3, .ref (q 21)]) := by
    intro k19 hk19 k76 hk76 x2 x4 x5 x6 x7 x8 x9 y0 y1 y2 y3 Mb H locs ls hf I hl
    rw [f_X4_play_b120] at hf
    refine lv_aload_n hx hb dX4_play_120 rfl (lv_at hl 1 rfl) ?_
    refine lv_iload hx hb dX4_play_121 (lv_at hl 8 rfl) ?_
    refine lv_iconst (v := 2) hx hb dX4_play_123 (by decide) ?_
    obtain ⟨r20, h_r20, hf⟩ := k_bind hf
    refine k_callV (n := 2) (As := [.int x9, .int (2 : Int32)]) (rest := [.int y0, .int y1, .int y2, .int y3, .ref (q 21)]) X I (c_X3_signOf h_r20) uw_3_157 uw_2_118 uw_2_119 uw_1_3 uw_2_120 ⟨rfl, rfl⟩ (by decide +kernel) rfl ⟨Nat.le_of_ble_eq_true rfl, Nat.le_of_ble_eq_true rfl⟩ ⟨Nat.le_of_ble_eq_true rfl, Nat.le_of_ble_eq_true rfl⟩ 3 cwG_3 rfl hl.1 rfl (Nat.le_of_ble_eq_true rfl) dX4_play_124 (st1 := [.int r20, .int y0, .int y1, .int y2, .int y3, .ref (q 21)]) rfl (fun H locs I => ?_)
    refine lv_iload hx hb dX4_play_127 (lv_at hl 7 rfl) ?_
    refine lv_icmp_eq (tgt := 136) hx hb dX4_play_129 (by decide) (fun c21 => ?_) (fun c21 => ?_)
    · rw [if_pos c21] at hf
      refine lv_iconst (v := 0) hx hb dX4_play_136 (by decide) ?_
      exact B137 k19 hk19 k76 hk76 x2 x4 x5 x6 x7 x8 x9 (0 : Int32) y0 y1 y2 y3 Mb _ _ ls hf I (lv_sub hl [0, 1, 2, 3, 4, 5, 6, 7, 8] rfl)
    · rw [if_neg c21] at hf
      refine lv_iconst (v := 1) hx hb dX4_play_132 (by decide) ?_
      refine lv_goto (tgt := 137) hx hb dX4_play_133 (by decide) ?_
      exact B137 k19 hk19 k76 hk76 x2 x4 x5 x6 x7 x8 x9 (1 : Int32) y0 y1 y2 y3 Mb _ _ ls hf I (lv_sub hl [0, 1, 2, 3, 4, 5, 6, 7, 8] rfl)
  have B76 : ∀ (k19 : Int32 → Int32 → xM → Option xM), (∀ (x2 : Int32) (x4 : Int32) (Mb : xM) (H : Heap) (locs : List Loc) (ls : Array Slot), k19 x2 x4 Mb = some Mr → kI (cw q aI) D A s Mb H locs → lv_has ls 10 [(0, .ref (q 21)), (1, .ref (q 3)), (2, .int x2), (4, .int x4)] → W p l e rm_X4_play s m args below meth c H locs 0 0 (MQ below (kQ (cw q aI) D A none Mr) args s 0 0 A) (F0 m 19 ls [])) → ∀ (n76 : Nat), ∀ (x2 : Int32) (x4 : Int32) (x5 : Int32) (x6 : Int32) (x7 : Int32) (x8 : Int32) (x9 : Int32) (Mb : xM) (H : Heap) (locs : List Loc) (ls : Array Slot), f_X4_play_l76 k19 n76 x2 x4 x5 x6 x7 x8 x9 Mb = some Mr → kI (cw q aI) D A s Mb H locs → lv_has ls 10 [(0, .ref (q 21)), (1, .ref (q 3)), (2, .int x2), (4, .int x4), (5, .int x5), (6, .int x6), (7, .int x7), (8, .int x8), (9, .int x9)] → W p l e rm_X4_play s m args below meth c H locs 0 0 (MQ below (kQ (cw q aI) D A none Mr) args s 0 0 A) (F0 m 76 ls []) := by
    intro k19 hk19
    intro n76
    induction n76 with
    | zero =>
      intro x2 x4 x5 x6 x7 x8 x9 Mb H locs ls hf I hl
      rw [f_X4_play_l76] at hf
      cases hf
    | succ n76 ih76 =>
      intro x2 x4 x5 x6 x7 x8 x9 Mb H locs ls hf I hl
      rw [f_X4_play_l76] at hf
      refine lv_iload hx hb dX4_play_76 (lv_at hl 8 rfl) ?_
      refine lv_aload_n hx hb dX4_play_78 rfl (lv_at hl 1 rfl) ?_
      obtain ⟨r15, h_r15, hf⟩ := k_bind hf
      refine k_callV (n := 0) (As := []) (rest := [.int x9]) X I (c_X3_things h_r15) uw_3_156 uw_2_105 uw_2_106 uw_1_3 uw_2_107 ⟨rfl, rfl⟩ (by decide +kernel) rfl ⟨Nat.le_of_ble_eq_true rfl, Nat.le_of_ble_eq_true rfl⟩ ⟨Nat.le_of_ble_eq_true rfl, Nat.le_of_ble_eq_true rfl⟩ 3 cwG_3 rfl hl.1 rfl (Nat.le_of_ble_eq_true rfl) dX4_play_79 (st1 := [.int r15, .int x9]) rfl (fun H locs I => ?_)
      refine lv_icmp_ge (tgt := 149) hx hb dX4_play_82 (by decide) (fun c16 => ?_) (fun c16 => ?_)
      · rw [if_pos c16] at hf
        refine lv_iinc (v := (x4 + 1)) (lv' := [(4, .int (x4 + 1)), (0, .ref (q 21)), (1, .ref (q 3)), (2, .int x2), (5, .int x5), (6, .int x6), (7, .int x7), (8, .int x8), (9, .int x9)]) hx hb dX4_play_149 hl (k := 3) rfl rfl (by decide) rfl (fun ls hl => ?_)
        refine lv_goto (tgt := 19) hx hb dX4_play_152 (by decide) ?_
        exact hk19 x2 (x4 + 1) Mb _ _ ls hf I (lv_sub hl [1, 2, 3, 0] rfl)
      · rw [if_neg c16] at hf
        refine lv_aload_n hx hb dX4_play_85 rfl (lv_at hl 0 rfl) ?_
        refine lv_iload hx hb dX4_play_86 (lv_at hl 4 rfl) ?_
        refine lv_iload hx hb dX4_play_88 (lv_at hl 4 rfl) ?_
        refine lv_aload_n hx hb dX4_play_90 rfl (lv_at hl 1 rfl) ?_
        refine lv_iload hx hb dX4_play_91 (lv_at hl 8 rfl) ?_
        refine lv_iconst (v := 0) hx hb dX4_play_93 (by decide) ?_
        obtain ⟨r17, h_r17, hf⟩ := k_bind hf
        refine k_callV (n := 2) (As := [.int x9, .int (0 : Int32)]) (rest := [.int x5, .int x5, .ref (q 21)]) X I (c_X3_signOf h_r17) uw_3_157 uw_2_118 uw_2_119 uw_1_3 uw_2_120 ⟨rfl, rfl⟩ (by decide +kernel) rfl ⟨Nat.le_of_ble_eq_true rfl, Nat.le_of_ble_eq_true rfl⟩ ⟨Nat.le_of_ble_eq_true rfl, Nat.le_of_ble_eq_true rfl⟩ 3 cwG_3 rfl hl.1 rfl (Nat.le_of_ble_eq_true rfl) dX4_play_94 (st1 := [.int r17, .int x5, .int x5, .ref (q 21)]) rfl (fun H locs I => ?_)
        refine lv_iload hx hb dX4_play_97 (lv_at hl 5 rfl) ?_
        refine lv_isub hx hb dX4_play_99 ?_
        refine k_mabs (rest := [.int x5, .int x5, .ref (q 21)]) X hl.1 uw_3_158 ⟨Nat.le_of_ble_eq_true rfl, Nat.le_of_ble_eq_true rfl⟩ (Nat.le_of_ble_eq_true rfl) ⟨Nat.le_of_ble_eq_true rfl, Nat.le_of_ble_eq_true rfl⟩ dX4_play_100 ?_
        refine lv_aload_n hx hb dX4_play_103 rfl (lv_at hl 1 rfl) ?_
        refine lv_iload hx hb dX4_play_104 (lv_at hl 8 rfl) ?_
        refine lv_iconst (v := 1) hx hb dX4_play_106 (by decide) ?_
        obtain ⟨r18, h_r18, hf⟩ := k_bind hf
        refine k_callV (n := 2) (As := [.int x9, .int (1 : Int32)]) (rest := [.int (if 0 ≤ (r17 - x6) then (r17 - x6) else 0 - (r17 - x6)), .int x5, .int x5, .ref (q 21)]) X I (c_X3_signOf h_r18) uw_3_157 uw_2_118 uw_2_119 uw_1_3 uw_2_120 ⟨rfl, rfl⟩ (by decide +kernel) rfl ⟨Nat.le_of_ble_eq_true rfl, Nat.le_of_ble_eq_true rfl⟩ ⟨Nat.le_of_ble_eq_true rfl, Nat.le_of_ble_eq_true rfl⟩ 3 cwG_3 rfl hl.1 rfl (Nat.le_of_ble_eq_true rfl) dX4_play_107 (st1 := [.int r18, .int (if 0 ≤ (r17 - x6) then (r17 - x6) else 0 - (r17 - x6)), .int x5, .int x5, .ref (q 21)]) rfl (fun H locs I => ?_)
        refine lv_iload hx hb dX4_play_110 (lv_at hl 6 rfl) ?_
        refine lv_icmp_eq (tgt := 119) hx hb dX4_play_112 (by decide) (fun c19 => ?_) (fun c19 => ?_)
        · rw [if_pos c19] at hf
          refine lv_iconst (v := 0) hx hb dX4_play_119 (by decide) ?_
          exact B120 k19 hk19 (f_X4_play_l76 k19 n76) ih76 x2 x4 x5 x6 x7 x8 x9 (0 : Int32) (if 0 ≤ (r17 - x6) then (r17 - x6) else 0 - (r17 - x6)) x5 x5 Mb _ _ ls hf I (lv_sub hl [0, 1, 2, 3, 4, 5, 6, 7, 8] rfl)
        · rw [if_neg c19] at hf
          refine lv_iconst (v := 1) hx hb dX4_play_115 (by decide) ?_
          refine lv_goto (tgt := 120) hx hb dX4_play_116 (by decide) ?_
          exact B120 k19 hk19 (f_X4_play_l76 k19 n76) ih76 x2 x4 x5 x6 x7 x8 x9 (1 : Int32) (if 0 ≤ (r17 - x6) then (r17 - x6) else 0 - (r17 - x6)) x5 x5 Mb _ _ ls hf I (lv_sub hl [0, 1, 2, 3, 4, 5, 6, 7, 8] rfl)
  have B19 : ∀ (n19 : Nat), ∀ (x2 : Int32) (x4 : Int32) (Mb : xM) (H : Heap) (locs : List Loc) (ls : Array Slot), f_X4_play_l19 n19 x2 x4 Mb = some Mr → kI (cw q aI) D A s Mb H locs → lv_has ls 10 [(0, .ref (q 21)), (1, .ref (q 3)), (2, .int x2), (4, .int x4)] → W p l e rm_X4_play s m args below meth c H locs 0 0 (MQ below (kQ (cw q aI) D A none Mr) args s 0 0 A) (F0 m 19 ls []) := by
    intro n19
    induction n19 with
    | zero =>
      intro x2 x4 Mb H locs ls hf I hl
      rw [f_X4_play_l19] at hf
      cases hf
    | succ n19 ih19 =>
      intro x2 x4 Mb H locs ls hf I hl
      rw [f_X4_play_l19] at hf
      refine lv_iload hx hb dX4_play_19 (lv_at hl 3 rfl) ?_
      refine lv_iload_n hx hb dX4_play_21 rfl (lv_at hl 2 rfl) ?_
      refine lv_icmp_ge (tgt := 155) hx hb dX4_play_22 (by decide) (fun c4 => ?_) (fun c4 => ?_)
      · rw [if_pos c4] at hf
        exact k_vret X I hr hlocks dX4_play_155 hf
      · rw [if_neg c4] at hf
        refine lv_aload_n hx hb dX4_play_25 rfl (lv_at hl 1 rfl) ?_
        refine lv_aload_n hx hb dX4_play_26 rfl (lv_at hl 0 rfl) ?_
        refine lv_aload_n hx hb dX4_play_27 rfl (lv_at hl 1 rfl) ?_
        obtain ⟨r5, h_r5, hf⟩ := k_bind hf
        refine k_callV (n := 0) (As := []) (rest := [.ref (q 21), .ref (q 3)]) X I (c_X3_claimers h_r5) uw_3_144 uw_3_61 uw_3_62 uw_1_3 uw_3_63 ⟨rfl, rfl⟩ (by decide +kernel) rfl ⟨Nat.le_of_ble_eq_true rfl, Nat.le_of_ble_eq_true rfl⟩ ⟨Nat.le_of_ble_eq_true rfl, Nat.le_of_ble_eq_true rfl⟩ 3 cwG_3 rfl hl.1 rfl (Nat.le_of_ble_eq_true rfl) dX4_play_28 (st1 := [.int r5, .ref (q 21), .ref (q 3)]) rfl (fun H locs I => ?_)
        obtain ⟨r6, M7, h_r6, hf⟩ := k_bind2 hf
        refine k_callV (n := 1) (As := [.int r5]) (rest := [.ref (q 3)]) X I (c_X4_draw h_r6) uw_3_145 uw_3_147 us_11 uw_1_6 uw_3_148 ⟨rfl, rfl⟩ (by decide +kernel) rfl ⟨Nat.le_of_ble_eq_true rfl, Nat.le_of_ble_eq_true rfl⟩ ⟨Nat.le_of_ble_eq_true rfl, Nat.le_of_ble_eq_true rfl⟩ 21 cwG_21 rfl hl.1 rfl (Nat.le_of_ble_eq_true rfl) dX4_play_31 (st1 := [.int r6, .ref (q 3)]) rfl (fun H locs I => ?_)
        obtain ⟨r8, h_r8, hf⟩ := k_bind hf
        refine k_callV (n := 1) (As := [.int r6]) (rest := []) X I (c_X3_kindOf h_r8) uw_3_153 uw_2_140 uw_2_141 uw_1_3 uw_2_142 ⟨rfl, rfl⟩ (by decide +kernel) rfl ⟨Nat.le_of_ble_eq_true rfl, Nat.le_of_ble_eq_true rfl⟩ ⟨Nat.le_of_ble_eq_true rfl, Nat.le_of_ble_eq_true rfl⟩ 3 cwG_3 rfl hl.1 rfl (Nat.le_of_ble_eq_true rfl) dX4_play_34 (st1 := [.int r8]) rfl (fun H locs I => ?_)
        refine lv_istore (lv' := [(5, .int r8), (0, .ref (q 21)), (1, .ref (q 3)), (2, .int x2), (4, .int x4)]) hx hb dX4_play_37 hl (by decide) rfl (fun ls hl => ?_)
        refine lv_aload_n hx hb dX4_play_39 rfl (lv_at hl 1 rfl) ?_
        refine lv_bipush (v := 10) hx hb dX4_play_40 (by decide) ?_
        obtain ⟨r9, M10, h_r9, hf⟩ := k_bind2 hf
        refine k_callV (n := 1) (As := [.int (10 : Int32)]) (rest := []) X I (c_X4_draw h_r9) uw_3_145 uw_3_147 us_11 uw_1_6 uw_3_148 ⟨rfl, rfl⟩ (by decide +kernel) rfl ⟨Nat.le_of_ble_eq_true rfl, Nat.le_of_ble_eq_true rfl⟩ ⟨Nat.le_of_ble_eq_true rfl, Nat.le_of_ble_eq_true rfl⟩ 21 cwG_21 rfl hl.1 rfl (Nat.le_of_ble_eq_true rfl) dX4_play_42 (st1 := [.int r9]) rfl (fun H locs I => ?_)
        refine lv_istore (lv' := [(6, .int r9), (5, .int r8), (0, .ref (q 21)), (1, .ref (q 3)), (2, .int x2), (4, .int x4)]) hx hb dX4_play_45 hl (by decide) rfl (fun ls hl => ?_)
        refine lv_aload_n hx hb dX4_play_47 rfl (lv_at hl 2 rfl) ?_
        refine k_getsN X I (cZ_0 X.2.2.2.2.2.2.1) (List.mem_of_getElem? (i := 14) rfl) rfl dX4_play_48 ?_
        refine lv_iconst (v := 1) hx hb dX4_play_51 (by decide) ?_
        refine k_callSN (n := 2) (As := [.ref (t 0), .int (1 : Int32)]) (rest := [.ref (q 21)]) X I (c_entryT cT_0 (by decide)) (List.mem_of_getElem? (i := 15) rfl) uw_1_1 uw_1_198 uw_1_199 ⟨rfl, rfl⟩ (by decide +kernel) rfl ⟨Nat.le_of_ble_eq_true rfl, Nat.le_of_ble_eq_true rfl⟩ ⟨Nat.le_of_ble_eq_true rfl, Nat.le_of_ble_eq_true rfl⟩ hl.1 rfl (Nat.le_of_ble_eq_true rfl) dX4_play_52 (st1 := [.int (xe 3 (xT [10, 6, 5]) (1 : Int32)), .ref (q 21)]) rfl (fun H locs I => ?_)
        obtain ⟨r11, M12, h_r11, hf⟩ := k_bind2 hf
        refine k_callV (n := 1) (As := [.int (xe 3 (xT [10, 6, 5]) (1 : Int32))]) (rest := []) X I (c_X4_draw h_r11) uw_3_145 uw_3_147 us_11 uw_1_6 uw_3_148 ⟨rfl, rfl⟩ (by decide +kernel) rfl ⟨Nat.le_of_ble_eq_true rfl, Nat.le_of_ble_eq_true rfl⟩ ⟨Nat.le_of_ble_eq_true rfl, Nat.le_of_ble_eq_true rfl⟩ 21 cwG_21 rfl hl.1 rfl (Nat.le_of_ble_eq_true rfl) dX4_play_55 (st1 := [.int r11]) rfl (fun H locs I => ?_)
        refine lv_istore (lv' := [(7, .int r11), (6, .int r9), (5, .int r8), (0, .ref (q 21)), (1, .ref (q 3)), (2, .int x2), (4, .int x4)]) hx hb dX4_play_58 hl (by decide) rfl (fun ls hl => ?_)
        refine lv_aload_n hx hb dX4_play_60 rfl (lv_at hl 3 rfl) ?_
        refine k_getsN X I (cZ_0 X.2.2.2.2.2.2.1) (List.mem_of_getElem? (i := 14) rfl) rfl dX4_play_61 ?_
        refine lv_iconst (v := 2) hx hb dX4_play_64 (by decide) ?_
        refine k_callSN (n := 2) (As := [.ref (t 0), .int (2 : Int32)]) (rest := [.ref (q 21)]) X I (c_entryT cT_0 (by decide)) (List.mem_of_getElem? (i := 15) rfl) uw_1_1 uw_1_198 uw_1_199 ⟨rfl, rfl⟩ (by decide +kernel) rfl ⟨Nat.le_of_ble_eq_true rfl, Nat.le_of_ble_eq_true rfl⟩ ⟨Nat.le_of_ble_eq_true rfl, Nat.le_of_ble_eq_true rfl⟩ hl.1 rfl (Nat.le_of_ble_eq_true rfl) dX4_play_65 (st1 := [.int (xe 3 (xT [10, 6, 5]) (2 : Int32)), .ref (q 21)]) rfl (fun H locs I => ?_)
        obtain ⟨r13, M14, h_r13, hf⟩ := k_bind2 hf
        refine k_callV (n := 1) (As := [.int (xe 3 (xT [10, 6, 5]) (2 : Int32))]) (rest := []) X I (c_X4_draw h_r13) uw_3_145 uw_3_147 us_11 uw_1_6 uw_3_148 ⟨rfl, rfl⟩ (by decide +kernel) rfl ⟨Nat.le_of_ble_eq_true rfl, Nat.le_of_ble_eq_true rfl⟩ ⟨Nat.le_of_ble_eq_true rfl, Nat.le_of_ble_eq_true rfl⟩ 21 cwG_21 rfl hl.1 rfl (Nat.le_of_ble_eq_true rfl) dX4_play_68 (st1 := [.int r13]) rfl (fun H locs I => ?_)
        refine lv_istore (lv' := [(8, .int r13), (7, .int r11), (6, .int r9), (5, .int r8), (0, .ref (q 21)), (1, .ref (q 3)), (2, .int x2), (4, .int x4)]) hx hb dX4_play_71 hl (by decide) rfl (fun ls hl => ?_)
        refine lv_iconst (v := 0) hx hb dX4_play_73 (by decide) ?_
        refine lv_istore (lv' := [(9, .int (0 : Int32)), (8, .int r13), (7, .int r11), (6, .int r9), (5, .int r8), (0, .ref (q 21)), (1, .ref (q 3)), (2, .int x2), (4, .int x4)]) hx hb dX4_play_74 hl (by decide) rfl (fun ls hl => ?_)
        exact B76 (f_X4_play_l19 n19) ih19 xN x2 x4 r8 r9 r11 r13 (0 : Int32) M14 _ _ ls hf I (lv_sub hl [5, 6, 7, 8, 4, 3, 2, 1, 0] rfl)
  rw [f_X4_play] at hf
  refine lv_aload_n hx hb dX4_play_0 rfl (lv_at hl 0 rfl) ?_
  refine lv_iload_n hx hb dX4_play_1 rfl (lv_at hl 3 rfl) ?_
  refine lv_i2l hx hb dX4_play_2 rfl ?_
  obtain ⟨M1, e_M1, hf⟩ := k_nm hf
  refine k_put (T := TX4) (N := 3) (M1 := M1) X I inU4 tyX4 tyX4_ok nmX4 21 cwG_21 rfl 0 (by decide) uw_1_138 rfl rfl (tyX4_ok 0 (by decide)) rfl rfl (Nat.le_of_ble_eq_true rfl) dX4_play_3 (cwL.trans (congrArg (cw q aI) e_M1)) (fun H locs I => ?_)
  refine lv_aload_n hx hb dX4_play_6 rfl (lv_at hl 0 rfl) ?_
  refine lv_iconst (v := 0) hx hb dX4_play_7 (by decide) ?_
  obtain ⟨M2, e_M2, hf⟩ := k_nm hf
  refine k_put (T := TX4) (N := 3) (M1 := M2) X I inU4 tyX4 tyX4_ok nmX4 21 cwG_21 rfl 1 (by decide) uw_1_139 rfl rfl (tyX4_ok 1 (by decide)) rfl rfl (Nat.le_of_ble_eq_true rfl) dX4_play_8 (cwI_16.trans (congrArg (cw q aI) e_M2)) (fun H locs I => ?_)
  refine lv_aload_n hx hb dX4_play_11 rfl (lv_at hl 0 rfl) ?_
  refine lv_iconst (v := 0) hx hb dX4_play_12 (by decide) ?_
  obtain ⟨M3, e_M3, hf⟩ := k_nm hf
  refine k_put (T := TX4) (N := 3) (M1 := M3) X I inU4 tyX4 tyX4_ok nmX4 21 cwG_21 rfl 2 (by decide) uw_1_140 rfl rfl (tyX4_ok 2 (by decide)) rfl rfl (Nat.le_of_ble_eq_true rfl) dX4_play_13 (cwI_17.trans (congrArg (cw q aI) e_M3)) (fun H locs I => ?_)
  refine lv_iconst (v := 0) hx hb dX4_play_16 (by decide) ?_
  refine lv_istore (lv' := [(4, .int (0 : Int32)), (0, .ref (q 21)), (1, .ref (q 3)), (2, .int x2), (3, .int x3)]) hx hb dX4_play_17 hl (by decide) rfl (fun ls hl => ?_)
  exact B19 xN x2 (0 : Int32) M3 _ _ ls hf I (lv_sub hl [1, 2, 3, 0] rfl)
/-! LostTent$Visits.tell(I)I -/
abbrev rm_X4_tell : Room := { frames := 0, cells := 0, slots := 0, locals := 0 }
def f_X4_tell (x1 : Int32) (M : xM) : Option Int32 :=
  if x1 = 0 then
    some (M.1 16)
  else
    if x1 = (1 : Int32) then
      some (M.1 17)
    else
      some M.2.1.toInt32
set_option maxRecDepth 100000 in
set_option maxHeartbeats 8000000 in
theorem c_X4_tell {l : Launch} {D : va_G} {aI : ClassId} {q t : Nat → Nat} {x1 : Int32} {M : xM} {r : Int32} (hf : f_X4_tell x1 M = some r) : kM l yX4_tell (wk yX4_tell cX4_tell 2 (some .int)) rm_X4_tell (cw q aI) D aI t [.ref (q 21), .int x1] M (some (.int r)) M := by
  refine kM_of (by decide) (Nat.le_of_ble_eq_true rfl) ?_
  intro p e s m args below meth c A ls X hr hlocks hl I
  have hx := X.1
  have hb := X.2.1
  have hl : lv_has ls 2 [(0, .ref (q 21)), (1, .int x1)] := hl
  rw [f_X4_tell] at hf
  refine lv_iload_n hx hb dX4_tell_0 rfl (lv_at hl 1 rfl) ?_
  refine lv_if_ne (tgt := 9) hx hb dX4_tell_1 (by decide) (fun c1 => ?_) (fun c1 => ?_)
  · rw [if_neg c1] at hf
    refine lv_iload_n hx hb dX4_tell_9 rfl (lv_at hl 1 rfl) ?_
    refine lv_iconst (v := 1) hx hb dX4_tell_10 (by decide) ?_
    refine lv_icmp_ne (tgt := 19) hx hb dX4_tell_11 (by decide) (fun c2 => ?_) (fun c2 => ?_)
    · rw [if_neg c2] at hf
      refine lv_aload_n hx hb dX4_tell_19 rfl (lv_at hl 0 rfl) ?_
      refine k_get (T := TX4) (N := 3) X I inU4 21 cwG_21 rfl 0 (by decide) uw_1_138 rfl rfl dX4_tell_20 ?_
      refine lv_l2i hx hb dX4_tell_23 rfl ?_
      exact k_iretP X I hr hlocks dX4_tell_24 hf
    · rw [if_pos c2] at hf
      refine lv_aload_n hx hb dX4_tell_14 rfl (lv_at hl 0 rfl) ?_
      refine k_get (T := TX4) (N := 3) X I inU4 21 cwG_21 rfl 2 (by decide) uw_1_140 rfl rfl dX4_tell_15 ?_
      exact k_iretP X I hr hlocks dX4_tell_18 hf
  · rw [if_pos c1] at hf
    refine lv_aload_n hx hb dX4_tell_4 rfl (lv_at hl 0 rfl) ?_
    refine k_get (T := TX4) (N := 3) X I inU4 21 cwG_21 rfl 1 (by decide) uw_1_139 rfl rfl dX4_tell_5 ?_
    exact k_iretP X I hr hlocks dX4_tell_8 hf
/-! LostTent.mondays(III)I -/
abbrev rm_X5_mondays : Room := { frames := 4, cells := 0, slots := 0, locals := 93 }
def f_X5_mondays (x1 : Int32) (x2 : Int32) (x3 : Int32) (M : xM) : Option (Int32 × xM) :=
  if x1 < (1 : Int32) then
    some ((-102 : Int32), M)
  else
    if (60 : Int32) < x1 then
      some ((-102 : Int32), M)
    else
      if x2 < 0 then
        some ((-102 : Int32), M)
      else
        if x3 < 0 then
          some ((-102 : Int32), M)
        else
          if x3 ≤ (2 : Int32) then
            (f_X3_stands M).bind fun r6 =>
            if r6 = 0 then
              some ((-103 : Int32), M)
            else
              (f_X4_play x1 x2 M).bind fun M8 =>
              (f_X4_tell x3 M8).bind fun r9 =>
              some (r9, M8)
          else
            some ((-102 : Int32), M)
set_option maxRecDepth 100000 in
set_option maxHeartbeats 8000000 in
theorem c_X5_mondays {l : Launch} {D : va_G} {aI : ClassId} {q t : Nat → Nat} {x1 : Int32} {x2 : Int32} {x3 : Int32} {M : xM} {r : Int32} {Mr : xM} (hf : f_X5_mondays x1 x2 x3 M = some (r, Mr)) : kM l yX5_mondays (wk yX5_mondays cX5_mondays 4 (some .int)) rm_X5_mondays (cw q aI) D aI t [.ref (q 0), .int x1, .int x2, .int x3] M (some (.int r)) Mr := by
  refine kM_of (by decide) (Nat.le_of_ble_eq_true rfl) ?_
  intro p e s m args below meth c A ls X hr hlocks hl I
  have hx := X.1
  have hb := X.2.1
  have hl : lv_has ls 4 [(0, .ref (q 0)), (1, .int x1), (2, .int x2), (3, .int x3)] := hl
  rw [f_X5_mondays] at hf
  refine lv_iload_n hx hb dX5_mondays_0 rfl (lv_at hl 1 rfl) ?_
  refine lv_iconst (v := 1) hx hb dX5_mondays_1 (by decide) ?_
  refine lv_icmp_lt (tgt := 24) hx hb dX5_mondays_2 (by decide) (fun c1 => ?_) (fun c1 => ?_)
  · rw [if_pos c1] at hf
    refine lv_bipush (v := (-102)) hx hb dX5_mondays_24 (by decide) ?_
    exact k_iret X I hr hlocks dX5_mondays_26 hf
  · rw [if_neg c1] at hf
    refine lv_iload_n hx hb dX5_mondays_5 rfl (lv_at hl 1 rfl) ?_
    refine lv_bipush (v := 60) hx hb dX5_mondays_6 (by decide) ?_
    refine lv_icmp_gt (tgt := 24) hx hb dX5_mondays_8 (by decide) (fun c2 => ?_) (fun c2 => ?_)
    · rw [if_pos c2] at hf
      refine lv_bipush (v := (-102)) hx hb dX5_mondays_24 (by decide) ?_
      exact k_iret X I hr hlocks dX5_mondays_26 hf
    · rw [if_neg c2] at hf
      refine lv_iload_n hx hb dX5_mondays_11 rfl (lv_at hl 2 rfl) ?_
      refine lv_if_lt (tgt := 24) hx hb dX5_mondays_12 (by decide) (fun c3 => ?_) (fun c3 => ?_)
      · rw [if_pos c3] at hf
        refine lv_bipush (v := (-102)) hx hb dX5_mondays_24 (by decide) ?_
        exact k_iret X I hr hlocks dX5_mondays_26 hf
      · rw [if_neg c3] at hf
        refine lv_iload_n hx hb dX5_mondays_15 rfl (lv_at hl 3 rfl) ?_
        refine lv_if_lt (tgt := 24) hx hb dX5_mondays_16 (by decide) (fun c4 => ?_) (fun c4 => ?_)
        · rw [if_pos c4] at hf
          refine lv_bipush (v := (-102)) hx hb dX5_mondays_24 (by decide) ?_
          exact k_iret X I hr hlocks dX5_mondays_26 hf
        · rw [if_neg c4] at hf
          refine lv_iload_n hx hb dX5_mondays_19 rfl (lv_at hl 3 rfl) ?_
          refine lv_iconst (v := 2) hx hb dX5_mondays_20 (by decide) ?_
          refine lv_icmp_le (tgt := 27) hx hb dX5_mondays_21 (by decide) (fun c5 => ?_) (fun c5 => ?_)
          · rw [if_pos c5] at hf
            refine lv_aload_n hx hb dX5_mondays_27 rfl (lv_at hl 0 rfl) ?_
            refine k_get (T := TX5) (N := 5) X I inU5 0 cwG_0 rfl 1 (by decide) uw_1_149 rfl rfl dX5_mondays_28 ?_
            obtain ⟨r6, h_r6, hf⟩ := k_bind hf
            refine k_callV (n := 0) (As := []) (rest := []) X I (c_X3_stands h_r6) uw_3_47 uw_3_48 uw_3_49 uw_1_3 uw_3_50 ⟨rfl, rfl⟩ (by decide +kernel) rfl ⟨Nat.le_of_ble_eq_true rfl, Nat.le_of_ble_eq_true rfl⟩ ⟨Nat.le_of_ble_eq_true rfl, Nat.le_of_ble_eq_true rfl⟩ 3 cwG_3 rfl hl.1 rfl (Nat.le_of_ble_eq_true rfl) dX5_mondays_31 (st1 := [.int r6]) rfl (fun H locs I => ?_)
            refine lv_if_ne (tgt := 40) hx hb dX5_mondays_34 (by decide) (fun c7 => ?_) (fun c7 => ?_)
            · rw [if_neg c7] at hf
              refine lv_aload_n hx hb dX5_mondays_40 rfl (lv_at hl 0 rfl) ?_
              refine k_get (T := TX5) (N := 5) X I inU5 0 cwG_0 rfl 3 (by decide) uw_1_151 rfl rfl dX5_mondays_41 ?_
              refine lv_aload_n hx hb dX5_mondays_44 rfl (lv_at hl 0 rfl) ?_
              refine k_get (T := TX5) (N := 5) X I inU5 0 cwG_0 rfl 1 (by decide) uw_1_149 rfl rfl dX5_mondays_45 ?_
              refine lv_iload_n hx hb dX5_mondays_48 rfl (lv_at hl 1 rfl) ?_
              refine lv_iload_n hx hb dX5_mondays_49 rfl (lv_at hl 2 rfl) ?_
              obtain ⟨M8, h_M8, hf⟩ := k_bind hf
              refine k_callV (n := 3) (As := [.ref (q 3), .int x1, .int x2]) (rest := []) X I (c_X4_play h_M8) uw_3_140 uw_3_141 uw_3_142 uw_1_6 uw_3_143 ⟨rfl, rfl⟩ (by decide +kernel) rfl ⟨Nat.le_of_ble_eq_true rfl, Nat.le_of_ble_eq_true rfl⟩ ⟨Nat.le_of_ble_eq_true rfl, Nat.le_of_ble_eq_true rfl⟩ 21 cwG_21 rfl hl.1 rfl (Nat.le_of_ble_eq_true rfl) dX5_mondays_50 (st1 := []) rfl (fun H locs I => ?_)
              refine lv_aload_n hx hb dX5_mondays_53 rfl (lv_at hl 0 rfl) ?_
              refine k_get (T := TX5) (N := 5) X I inU5 0 cwG_0 rfl 3 (by decide) uw_1_151 rfl rfl dX5_mondays_54 ?_
              refine lv_iload_n hx hb dX5_mondays_57 rfl (lv_at hl 3 rfl) ?_
              obtain ⟨r9, h_r9, hf⟩ := k_bind hf
              refine k_callV (n := 1) (As := [.int x3]) (rest := []) X I (c_X4_tell h_r9) uw_3_165 uw_3_166 uw_3_167 uw_1_6 uw_3_168 ⟨rfl, rfl⟩ (by decide +kernel) rfl ⟨Nat.le_of_ble_eq_true rfl, Nat.le_of_ble_eq_true rfl⟩ ⟨Nat.le_of_ble_eq_true rfl, Nat.le_of_ble_eq_true rfl⟩ 21 cwG_21 rfl hl.1 rfl (Nat.le_of_ble_eq_true rfl) dX5_mondays_58 (st1 := [.int r9]) rfl (fun H locs I => ?_)
              exact k_iret X I hr hlocks dX5_mondays_61 hf
            · rw [if_pos c7] at hf
              refine lv_bipush (v := (-103)) hx hb dX5_mondays_37 (by decide) ?_
              exact k_iret X I hr hlocks dX5_mondays_39 hf
          · rw [if_neg c5] at hf
            refine lv_bipush (v := (-102)) hx hb dX5_mondays_24 (by decide) ?_
            exact k_iret X I hr hlocks dX5_mondays_26 hf
/-! LostTent$Register.copyFrom(LLostTent$Register;)V -/
abbrev rm_X2_copyFrom : Room := { frames := 1, cells := 0, slots := 0, locals := 22 }
def f_X2_copyFrom (M : xM) : Option xM :=
  nmM (xA M 8 (xc 5 5 (M.2.2 3) (M.2.2 8))) fun M1 =>
  nmM (xA M1 9 (xc 9 9 (M1.2.2 4) (M1.2.2 9))) fun M2 =>
  nmM (xA M2 10 (xc 8 8 (M2.2.2 5) (M2.2.2 10))) fun M3 =>
  nmM (xA M3 11 (xc 8 8 (M3.2.2 6) (M3.2.2 11))) fun M4 =>
  nmM (xA M4 12 (xc 8 8 (M4.2.2 7) (M4.2.2 12))) fun M5 =>
  nmM (xI M5 9 (M5.1 5)) fun M6 =>
  nmM (xI M6 10 (M6.1 6)) fun M7 =>
  nmM (xI M7 11 (M7.1 7)) fun M8 =>
  nmM (xI M8 12 (M8.1 8)) fun M9 =>
  some M9
set_option maxRecDepth 100000 in
set_option maxHeartbeats 8000000 in
theorem c_X2_copyFrom {l : Launch} {D : va_G} {aI : ClassId} {q t : Nat → Nat} {M : xM} {Mr : xM} (hf : f_X2_copyFrom M = some Mr) : kM l yX2_copyFrom (wk yX2_copyFrom cX2_copyFrom 2 none) rm_X2_copyFrom (cw q aI) D aI t [.ref (q 12), .ref (q 6)] M none Mr := by
  refine kM_of (by decide) (Nat.le_of_ble_eq_true rfl) ?_
  intro p e s m args below meth c A ls X hr hlocks hl I
  have hx := X.1
  have hb := X.2.1
  have hl : lv_has ls 2 [(0, .ref (q 12)), (1, .ref (q 6))] := hl
  rw [f_X2_copyFrom] at hf
  refine lv_aload_n hx hb dX2_copyFrom_0 rfl (lv_at hl 1 rfl) ?_
  refine k_get (T := TX2) (N := 9) X I inU2 6 cwG_6 rfl 0 (by decide) uw_1_60 rfl rfl dX2_copyFrom_1 ?_
  refine lv_aload_n hx hb dX2_copyFrom_4 rfl (lv_at hl 0 rfl) ?_
  refine k_get (T := TX2) (N := 9) X I inU2 12 cwG_12 rfl 0 (by decide) uw_1_60 rfl rfl dX2_copyFrom_5 ?_
  obtain ⟨M1, e_M1, hf⟩ := k_nm hf
  refine k_callSN (n := 2) (As := [.ref (q 7), .ref (q 13)]) (rest := []) X I (c_copy 7 13 cwG_7 cwG_13 (by decide) (by decide) (by decide) (fun g => xA M 8 g) (fun g => cwA_8) e_M1) (List.mem_of_getElem? (i := 18) rfl) uw_1_1 uw_3_182 uw_3_183 ⟨rfl, rfl⟩ (by decide +kernel) rfl ⟨Nat.le_of_ble_eq_true rfl, Nat.le_of_ble_eq_true rfl⟩ ⟨Nat.le_of_ble_eq_true rfl, Nat.le_of_ble_eq_true rfl⟩ hl.1 rfl (Nat.le_of_ble_eq_true rfl) dX2_copyFrom_8 (st1 := []) rfl (fun H locs I => ?_)
  refine lv_aload_n hx hb dX2_copyFrom_11 rfl (lv_at hl 1 rfl) ?_
  refine k_get (T := TX2) (N := 9) X I inU2 6 cwG_6 rfl 1 (by decide) uw_1_61 rfl rfl dX2_copyFrom_12 ?_
  refine lv_aload_n hx hb dX2_copyFrom_15 rfl (lv_at hl 0 rfl) ?_
  refine k_get (T := TX2) (N := 9) X I inU2 12 cwG_12 rfl 1 (by decide) uw_1_61 rfl rfl dX2_copyFrom_16 ?_
  obtain ⟨M2, e_M2, hf⟩ := k_nm hf
  refine k_callSN (n := 2) (As := [.ref (q 8), .ref (q 14)]) (rest := []) X I (c_copy 8 14 cwG_8 cwG_14 (by decide) (by decide) (by decide) (fun g => xA M1 9 g) (fun g => cwA_9) e_M2) (List.mem_of_getElem? (i := 18) rfl) uw_1_1 uw_3_182 uw_3_183 ⟨rfl, rfl⟩ (by decide +kernel) rfl ⟨Nat.le_of_ble_eq_true rfl, Nat.le_of_ble_eq_true rfl⟩ ⟨Nat.le_of_ble_eq_true rfl, Nat.le_of_ble_eq_true rfl⟩ hl.1 rfl (Nat.le_of_ble_eq_true rfl) dX2_copyFrom_19 (st1 := []) rfl (fun H locs I => ?_)
  refine lv_aload_n hx hb dX2_copyFrom_22 rfl (lv_at hl 1 rfl) ?_
  refine k_get (T := TX2) (N := 9) X I inU2 6 cwG_6 rfl 2 (by decide) uw_1_62 rfl rfl dX2_copyFrom_23 ?_
  refine lv_aload_n hx hb dX2_copyFrom_26 rfl (lv_at hl 0 rfl) ?_
  refine k_get (T := TX2) (N := 9) X I inU2 12 cwG_12 rfl 2 (by decide) uw_1_62 rfl rfl dX2_copyFrom_27 ?_
  obtain ⟨M3, e_M3, hf⟩ := k_nm hf
  refine k_callSN (n := 2) (As := [.ref (q 9), .ref (q 15)]) (rest := []) X I (c_copy 9 15 cwG_9 cwG_15 (by decide) (by decide) (by decide) (fun g => xA M2 10 g) (fun g => cwA_10) e_M3) (List.mem_of_getElem? (i := 18) rfl) uw_1_1 uw_3_182 uw_3_183 ⟨rfl, rfl⟩ (by decide +kernel) rfl ⟨Nat.le_of_ble_eq_true rfl, Nat.le_of_ble_eq_true rfl⟩ ⟨Nat.le_of_ble_eq_true rfl, Nat.le_of_ble_eq_true rfl⟩ hl.1 rfl (Nat.le_of_ble_eq_true rfl) dX2_copyFrom_30 (st1 := []) rfl (fun H locs I => ?_)
  refine lv_aload_n hx hb dX2_copyFrom_33 rfl (lv_at hl 1 rfl) ?_
  refine k_get (T := TX2) (N := 9) X I inU2 6 cwG_6 rfl 3 (by decide) uw_1_63 rfl rfl dX2_copyFrom_34 ?_
  refine lv_aload_n hx hb dX2_copyFrom_37 rfl (lv_at hl 0 rfl) ?_
  refine k_get (T := TX2) (N := 9) X I inU2 12 cwG_12 rfl 3 (by decide) uw_1_63 rfl rfl dX2_copyFrom_38 ?_
  obtain ⟨M4, e_M4, hf⟩ := k_nm hf
  refine k_callSN (n := 2) (As := [.ref (q 10), .ref (q 16)]) (rest := []) X I (c_copy 10 16 cwG_10 cwG_16 (by decide) (by decide) (by decide) (fun g => xA M3 11 g) (fun g => cwA_11) e_M4) (List.mem_of_getElem? (i := 18) rfl) uw_1_1 uw_3_182 uw_3_183 ⟨rfl, rfl⟩ (by decide +kernel) rfl ⟨Nat.le_of_ble_eq_true rfl, Nat.le_of_ble_eq_true rfl⟩ ⟨Nat.le_of_ble_eq_true rfl, Nat.le_of_ble_eq_true rfl⟩ hl.1 rfl (Nat.le_of_ble_eq_true rfl) dX2_copyFrom_41 (st1 := []) rfl (fun H locs I => ?_)
  refine lv_aload_n hx hb dX2_copyFrom_44 rfl (lv_at hl 1 rfl) ?_
  refine k_get (T := TX2) (N := 9) X I inU2 6 cwG_6 rfl 4 (by decide) uw_1_64 rfl rfl dX2_copyFrom_45 ?_
  refine lv_aload_n hx hb dX2_copyFrom_48 rfl (lv_at hl 0 rfl) ?_
  refine k_get (T := TX2) (N := 9) X I inU2 12 cwG_12 rfl 4 (by decide) uw_1_64 rfl rfl dX2_copyFrom_49 ?_
  obtain ⟨M5, e_M5, hf⟩ := k_nm hf
  refine k_callSN (n := 2) (As := [.ref (q 11), .ref (q 17)]) (rest := []) X I (c_copy 11 17 cwG_11 cwG_17 (by decide) (by decide) (by decide) (fun g => xA M4 12 g) (fun g => cwA_12) e_M5) (List.mem_of_getElem? (i := 18) rfl) uw_1_1 uw_3_182 uw_3_183 ⟨rfl, rfl⟩ (by decide +kernel) rfl ⟨Nat.le_of_ble_eq_true rfl, Nat.le_of_ble_eq_true rfl⟩ ⟨Nat.le_of_ble_eq_true rfl, Nat.le_of_ble_eq_true rfl⟩ hl.1 rfl (Nat.le_of_ble_eq_true rfl) dX2_copyFrom_52 (st1 := []) rfl (fun H locs I => ?_)
  refine lv_aload_n hx hb dX2_copyFrom_55 rfl (lv_at hl 0 rfl) ?_
  refine lv_aload_n hx hb dX2_copyFrom_56 rfl (lv_at hl 1 rfl) ?_
  refine k_get (T := TX2) (N := 9) X I inU2 6 cwG_6 rfl 5 (by decide) uw_1_65 rfl rfl dX2_copyFrom_57 ?_
  obtain ⟨M6, e_M6, hf⟩ := k_nm hf
  refine k_put (T := TX2) (N := 9) (M1 := M6) X I inU2 tyX2 tyX2_ok nmX2 12 cwG_12 rfl 5 (by decide) uw_1_65 rfl rfl (tyX2_ok 5 (by decide)) rfl rfl (Nat.le_of_ble_eq_true rfl) dX2_copyFrom_60 (cwI_9.trans (congrArg (cw q aI) e_M6)) (fun H locs I => ?_)
  refine lv_aload_n hx hb dX2_copyFrom_63 rfl (lv_at hl 0 rfl) ?_
  refine lv_aload_n hx hb dX2_copyFrom_64 rfl (lv_at hl 1 rfl) ?_
  refine k_get (T := TX2) (N := 9) X I inU2 6 cwG_6 rfl 6 (by decide) uw_1_66 rfl rfl dX2_copyFrom_65 ?_
  obtain ⟨M7, e_M7, hf⟩ := k_nm hf
  refine k_put (T := TX2) (N := 9) (M1 := M7) X I inU2 tyX2 tyX2_ok nmX2 12 cwG_12 rfl 6 (by decide) uw_1_66 rfl rfl (tyX2_ok 6 (by decide)) rfl rfl (Nat.le_of_ble_eq_true rfl) dX2_copyFrom_68 (cwI_10.trans (congrArg (cw q aI) e_M7)) (fun H locs I => ?_)
  refine lv_aload_n hx hb dX2_copyFrom_71 rfl (lv_at hl 0 rfl) ?_
  refine lv_aload_n hx hb dX2_copyFrom_72 rfl (lv_at hl 1 rfl) ?_
  refine k_get (T := TX2) (N := 9) X I inU2 6 cwG_6 rfl 7 (by decide) uw_1_67 rfl rfl dX2_copyFrom_73 ?_
  obtain ⟨M8, e_M8, hf⟩ := k_nm hf
  refine k_put (T := TX2) (N := 9) (M1 := M8) X I inU2 tyX2 tyX2_ok nmX2 12 cwG_12 rfl 7 (by decide) uw_1_67 rfl rfl (tyX2_ok 7 (by decide)) rfl rfl (Nat.le_of_ble_eq_true rfl) dX2_copyFrom_76 (cwI_11.trans (congrArg (cw q aI) e_M8)) (fun H locs I => ?_)
  refine lv_aload_n hx hb dX2_copyFrom_79 rfl (lv_at hl 0 rfl) ?_
  refine lv_aload_n hx hb dX2_copyFrom_80 rfl (lv_at hl 1 rfl) ?_
  refine k_get (T := TX2) (N := 9) X I inU2 6 cwG_6 rfl 8 (by decide) uw_1_68 rfl rfl dX2_copyFrom_81 ?_
  obtain ⟨M9, e_M9, hf⟩ := k_nm hf
  refine k_put (T := TX2) (N := 9) (M1 := M9) X I inU2 tyX2 tyX2_ok nmX2 12 cwG_12 rfl 8 (by decide) uw_1_68 rfl rfl (tyX2_ok 8 (by decide)) rfl rfl (Nat.le_of_ble_eq_true rfl) dX2_copyFrom_84 (cwI_12.trans (congrArg (cw q aI) e_M9)) (fun H locs I => ?_)
  exact k_vret X I hr hlocks dX2_copyFrom_87 hf
/-! LostTent$Tent.keepImage()V -/
abbrev rm_X3_keepImage : Room := { frames := 2, cells := 0, slots := 0, locals := 43 }
def f_X3_keepImage (M : xM) : Option xM :=
  (f_X2_copyFrom M).bind fun M1 =>
  nmM (xI M1 4 (1 : Int32)) fun M2 =>
  some M2
set_option maxRecDepth 100000 in
set_option maxHeartbeats 8000000 in
theorem c_X3_keepImage {l : Launch} {D : va_G} {aI : ClassId} {q t : Nat → Nat} {M : xM} {Mr : xM} (hf : f_X3_keepImage M = some Mr) : kM l yX3_keepImage (wk yX3_keepImage cX3_keepImage 1 none) rm_X3_keepImage (cw q aI) D aI t [.ref (q 3)] M none Mr := by
  refine kM_of (by decide) (Nat.le_of_ble_eq_true rfl) ?_
  intro p e s m args below meth c A ls X hr hlocks hl I
  have hx := X.1
  have hb := X.2.1
  have hl : lv_has ls 1 [(0, .ref (q 3))] := hl
  rw [f_X3_keepImage] at hf
  refine lv_aload_n hx hb dX3_keepImage_0 rfl (lv_at hl 0 rfl) ?_
  refine k_get (T := TX3) (N := 7) X I inU3 3 cwG_3 rfl 3 (by decide) uw_1_91 rfl rfl dX3_keepImage_1 ?_
  refine lv_aload_n hx hb dX3_keepImage_4 rfl (lv_at hl 0 rfl) ?_
  refine k_get (T := TX3) (N := 7) X I inU3 3 cwG_3 rfl 2 (by decide) uw_1_90 rfl rfl dX3_keepImage_5 ?_
  obtain ⟨M1, h_M1, hf⟩ := k_bind hf
  refine k_callV (n := 1) (As := [.ref (q 6)]) (rest := []) X I (c_X2_copyFrom h_M1) uw_3_177 uw_3_178 uw_3_179 uw_1_4 uw_3_180 ⟨rfl, rfl⟩ (by decide +kernel) rfl ⟨Nat.le_of_ble_eq_true rfl, Nat.le_of_ble_eq_true rfl⟩ ⟨Nat.le_of_ble_eq_true rfl, Nat.le_of_ble_eq_true rfl⟩ 12 cwG_12 rfl hl.1 rfl (Nat.le_of_ble_eq_true rfl) dX3_keepImage_8 (st1 := []) rfl (fun H locs I => ?_)
  refine lv_aload_n hx hb dX3_keepImage_11 rfl (lv_at hl 0 rfl) ?_
  refine lv_iconst (v := 1) hx hb dX3_keepImage_12 (by decide) ?_
  obtain ⟨M2, e_M2, hf⟩ := k_nm hf
  refine k_put (T := TX3) (N := 7) (M1 := M2) X I inU3 tyX3 tyX3_ok nmX3 3 cwG_3 rfl 6 (by decide) uw_1_94 rfl rfl (tyX3_ok 6 (by decide)) (by decide) (by decide) (Nat.le_of_ble_eq_true rfl) dX3_keepImage_13 (cwI_4.trans (congrArg (cw q aI) e_M2)) (fun H locs I => ?_)
  exact k_vret X I hr hlocks dX3_keepImage_16 hf
/-! LostTent.image()I -/
abbrev rm_X5_image : Room := { frames := 3, cells := 0, slots := 0, locals := 63 }
def f_X5_image (M : xM) : Option (Int32 × xM) :=
  (f_X3_stands M).bind fun r1 =>
  if r1 = 0 then
    some ((-103 : Int32), M)
  else
    (f_X3_keepImage M).bind fun M3 =>
    (f_X2_mondaysOver M3).bind fun r4 =>
    some (r4, M3)
set_option maxRecDepth 100000 in
set_option maxHeartbeats 8000000 in
theorem c_X5_image {l : Launch} {D : va_G} {aI : ClassId} {q t : Nat → Nat} {M : xM} {r : Int32} {Mr : xM} (hf : f_X5_image M = some (r, Mr)) : kM l yX5_image (wk yX5_image cX5_image 1 (some .int)) rm_X5_image (cw q aI) D aI t [.ref (q 0)] M (some (.int r)) Mr := by
  refine kM_of (by decide) (Nat.le_of_ble_eq_true rfl) ?_
  intro p e s m args below meth c A ls X hr hlocks hl I
  have hx := X.1
  have hb := X.2.1
  have hl : lv_has ls 1 [(0, .ref (q 0))] := hl
  rw [f_X5_image] at hf
  refine lv_aload_n hx hb dX5_image_0 rfl (lv_at hl 0 rfl) ?_
  refine k_get (T := TX5) (N := 5) X I inU5 0 cwG_0 rfl 1 (by decide) uw_1_149 rfl rfl dX5_image_1 ?_
  obtain ⟨r1, h_r1, hf⟩ := k_bind hf
  refine k_callV (n := 0) (As := []) (rest := []) X I (c_X3_stands h_r1) uw_3_47 uw_3_48 uw_3_49 uw_1_3 uw_3_50 ⟨rfl, rfl⟩ (by decide +kernel) rfl ⟨Nat.le_of_ble_eq_true rfl, Nat.le_of_ble_eq_true rfl⟩ ⟨Nat.le_of_ble_eq_true rfl, Nat.le_of_ble_eq_true rfl⟩ 3 cwG_3 rfl hl.1 rfl (Nat.le_of_ble_eq_true rfl) dX5_image_4 (st1 := [.int r1]) rfl (fun H locs I => ?_)
  refine lv_if_ne (tgt := 13) hx hb dX5_image_7 (by decide) (fun c2 => ?_) (fun c2 => ?_)
  · rw [if_neg c2] at hf
    refine lv_aload_n hx hb dX5_image_13 rfl (lv_at hl 0 rfl) ?_
    refine k_get (T := TX5) (N := 5) X I inU5 0 cwG_0 rfl 1 (by decide) uw_1_149 rfl rfl dX5_image_14 ?_
    obtain ⟨M3, h_M3, hf⟩ := k_bind hf
    refine k_callV (n := 0) (As := []) (rest := []) X I (c_X3_keepImage h_M3) uw_3_173 uw_3_174 uw_3_175 uw_1_3 uw_3_176 ⟨rfl, rfl⟩ (by decide +kernel) rfl ⟨Nat.le_of_ble_eq_true rfl, Nat.le_of_ble_eq_true rfl⟩ ⟨Nat.le_of_ble_eq_true rfl, Nat.le_of_ble_eq_true rfl⟩ 3 cwG_3 rfl hl.1 rfl (Nat.le_of_ble_eq_true rfl) dX5_image_17 (st1 := []) rfl (fun H locs I => ?_)
    refine lv_aload_n hx hb dX5_image_20 rfl (lv_at hl 0 rfl) ?_
    refine k_get (T := TX5) (N := 5) X I inU5 0 cwG_0 rfl 1 (by decide) uw_1_149 rfl rfl dX5_image_21 ?_
    refine k_callV (n := 0) (As := []) (rest := []) X I c_X3_register uw_2_122 uw_2_123 uw_2_124 uw_1_3 uw_2_125 ⟨rfl, rfl⟩ (by decide +kernel) rfl ⟨Nat.le_of_ble_eq_true rfl, Nat.le_of_ble_eq_true rfl⟩ ⟨Nat.le_of_ble_eq_true rfl, Nat.le_of_ble_eq_true rfl⟩ 3 cwG_3 rfl hl.1 rfl (Nat.le_of_ble_eq_true rfl) dX5_image_24 (st1 := [.ref (q 6)]) rfl (fun H locs I => ?_)
    obtain ⟨r4, h_r4, hf⟩ := k_bind hf
    refine k_callV (n := 0) (As := []) (rest := []) X I (c_X2_mondaysOver h_r4) uw_3_51 uw_3_52 uw_3_53 uw_1_4 uw_3_54 ⟨rfl, rfl⟩ (by decide +kernel) rfl ⟨Nat.le_of_ble_eq_true rfl, Nat.le_of_ble_eq_true rfl⟩ ⟨Nat.le_of_ble_eq_true rfl, Nat.le_of_ble_eq_true rfl⟩ 6 cwG_6 rfl hl.1 rfl (Nat.le_of_ble_eq_true rfl) dX5_image_27 (st1 := [.int r4]) rfl (fun H locs I => ?_)
    exact k_iret X I hr hlocks dX5_image_30 hf
  · rw [if_pos c2] at hf
    refine lv_bipush (v := (-103)) hx hb dX5_image_10 (by decide) ?_
    exact k_iret X I hr hlocks dX5_image_12 hf
/-! LostTent$Tent.hasImage()Z -/
abbrev rm_X3_hasImage : Room := { frames := 0, cells := 0, slots := 0, locals := 0 }
def f_X3_hasImage (M : xM) : Option Int32 :=
  xbo (M.1 4)
set_option maxRecDepth 100000 in
set_option maxHeartbeats 8000000 in
theorem c_X3_hasImage {l : Launch} {D : va_G} {aI : ClassId} {q t : Nat → Nat} {M : xM} {r : Int32} (hf : f_X3_hasImage M = some r) : kM l yX3_hasImage (wk yX3_hasImage cX3_hasImage 1 (some .boolean)) rm_X3_hasImage (cw q aI) D aI t [.ref (q 3)] M (some (.int r)) M := by
  refine kM_of (by decide) (Nat.le_of_ble_eq_true rfl) ?_
  intro p e s m args below meth c A ls X hr hlocks hl I
  have hx := X.1
  have hb := X.2.1
  have hl : lv_has ls 1 [(0, .ref (q 3))] := hl
  rw [f_X3_hasImage] at hf
  refine lv_aload_n hx hb dX3_hasImage_0 rfl (lv_at hl 0 rfl) ?_
  refine k_get (T := TX3) (N := 7) X I inU3 3 cwG_3 rfl 6 (by decide) uw_1_94 rfl rfl dX3_hasImage_1 ?_
  exact k_zretP X I hr hlocks dX3_hasImage_4 hf
/-! LostTent$Register.copyFrom(LLostTent$Register;)V -/
abbrev rm_X2_copyFrom_v1 : Room := { frames := 1, cells := 0, slots := 0, locals := 22 }
def f_X2_copyFrom_v1 (M : xM) : Option xM :=
  nmM (xA M 3 (xc 5 5 (M.2.2 8) (M.2.2 3))) fun M1 =>
  nmM (xA M1 4 (xc 9 9 (M1.2.2 9) (M1.2.2 4))) fun M2 =>
  nmM (xA M2 5 (xc 8 8 (M2.2.2 10) (M2.2.2 5))) fun M3 =>
  nmM (xA M3 6 (xc 8 8 (M3.2.2 11) (M3.2.2 6))) fun M4 =>
  nmM (xA M4 7 (xc 8 8 (M4.2.2 12) (M4.2.2 7))) fun M5 =>
  nmM (xI M5 5 (M5.1 9)) fun M6 =>
  nmM (xI M6 6 (M6.1 10)) fun M7 =>
  nmM (xI M7 7 (M7.1 11)) fun M8 =>
  nmM (xI M8 8 (M8.1 12)) fun M9 =>
  some M9
set_option maxRecDepth 100000 in
set_option maxHeartbeats 8000000 in
theorem c_X2_copyFrom_v1 {l : Launch} {D : va_G} {aI : ClassId} {q t : Nat → Nat} {M : xM} {Mr : xM} (hf : f_X2_copyFrom_v1 M = some Mr) : kM l yX2_copyFrom (wk yX2_copyFrom cX2_copyFrom 2 none) rm_X2_copyFrom_v1 (cw q aI) D aI t [.ref (q 6), .ref (q 12)] M none Mr := by
  refine kM_of (by decide) (Nat.le_of_ble_eq_true rfl) ?_
  intro p e s m args below meth c A ls X hr hlocks hl I
  have hx := X.1
  have hb := X.2.1
  have hl : lv_has ls 2 [(0, .ref (q 6)), (1, .ref (q 12))] := hl
  rw [f_X2_copyFrom_v1] at hf
  refine lv_aload_n hx hb dX2_copyFrom_0 rfl (lv_at hl 1 rfl) ?_
  refine k_get (T := TX2) (N := 9) X I inU2 12 cwG_12 rfl 0 (by decide) uw_1_60 rfl rfl dX2_copyFrom_1 ?_
  refine lv_aload_n hx hb dX2_copyFrom_4 rfl (lv_at hl 0 rfl) ?_
  refine k_get (T := TX2) (N := 9) X I inU2 6 cwG_6 rfl 0 (by decide) uw_1_60 rfl rfl dX2_copyFrom_5 ?_
  obtain ⟨M1, e_M1, hf⟩ := k_nm hf
  refine k_callSN (n := 2) (As := [.ref (q 13), .ref (q 7)]) (rest := []) X I (c_copy 13 7 cwG_13 cwG_7 (by decide) (by decide) (by decide) (fun g => xA M 3 g) (fun g => cwA_3) e_M1) (List.mem_of_getElem? (i := 18) rfl) uw_1_1 uw_3_182 uw_3_183 ⟨rfl, rfl⟩ (by decide +kernel) rfl ⟨Nat.le_of_ble_eq_true rfl, Nat.le_of_ble_eq_true rfl⟩ ⟨Nat.le_of_ble_eq_true rfl, Nat.le_of_ble_eq_true rfl⟩ hl.1 rfl (Nat.le_of_ble_eq_true rfl) dX2_copyFrom_8 (st1 := []) rfl (fun H locs I => ?_)
  refine lv_aload_n hx hb dX2_copyFrom_11 rfl (lv_at hl 1 rfl) ?_
  refine k_get (T := TX2) (N := 9) X I inU2 12 cwG_12 rfl 1 (by decide) uw_1_61 rfl rfl dX2_copyFrom_12 ?_
  refine lv_aload_n hx hb dX2_copyFrom_15 rfl (lv_at hl 0 rfl) ?_
  refine k_get (T := TX2) (N := 9) X I inU2 6 cwG_6 rfl 1 (by decide) uw_1_61 rfl rfl dX2_copyFrom_16 ?_
  obtain ⟨M2, e_M2, hf⟩ := k_nm hf
  refine k_callSN (n := 2) (As := [.ref (q 14), .ref (q 8)]) (rest := []) X I (c_copy 14 8 cwG_14 cwG_8 (by decide) (by decide) (by decide) (fun g => xA M1 4 g) (fun g => cwA_4) e_M2) (List.mem_of_getElem? (i := 18) rfl) uw_1_1 uw_3_182 uw_3_183 ⟨rfl, rfl⟩ (by decide +kernel) rfl ⟨Nat.le_of_ble_eq_true rfl, Nat.le_of_ble_eq_true rfl⟩ ⟨Nat.le_of_ble_eq_true rfl, Nat.le_of_ble_eq_true rfl⟩ hl.1 rfl (Nat.le_of_ble_eq_true rfl) dX2_copyFrom_19 (st1 := []) rfl (fun H locs I => ?_)
  refine lv_aload_n hx hb dX2_copyFrom_22 rfl (lv_at hl 1 rfl) ?_
  refine k_get (T := TX2) (N := 9) X I inU2 12 cwG_12 rfl 2 (by decide) uw_1_62 rfl rfl dX2_copyFrom_23 ?_
  refine lv_aload_n hx hb dX2_copyFrom_26 rfl (lv_at hl 0 rfl) ?_
  refine k_get (T := TX2) (N := 9) X I inU2 6 cwG_6 rfl 2 (by decide) uw_1_62 rfl rfl dX2_copyFrom_27 ?_
  obtain ⟨M3, e_M3, hf⟩ := k_nm hf
  refine k_callSN (n := 2) (As := [.ref (q 15), .ref (q 9)]) (rest := []) X I (c_copy 15 9 cwG_15 cwG_9 (by decide) (by decide) (by decide) (fun g => xA M2 5 g) (fun g => cwA_5) e_M3) (List.mem_of_getElem? (i := 18) rfl) uw_1_1 uw_3_182 uw_3_183 ⟨rfl, rfl⟩ (by decide +kernel) rfl ⟨Nat.le_of_ble_eq_true rfl, Nat.le_of_ble_eq_true rfl⟩ ⟨Nat.le_of_ble_eq_true rfl, Nat.le_of_ble_eq_true rfl⟩ hl.1 rfl (Nat.le_of_ble_eq_true rfl) dX2_copyFrom_30 (st1 := []) rfl (fun H locs I => ?_)
  refine lv_aload_n hx hb dX2_copyFrom_33 rfl (lv_at hl 1 rfl) ?_
  refine k_get (T := TX2) (N := 9) X I inU2 12 cwG_12 rfl 3 (by decide) uw_1_63 rfl rfl dX2_copyFrom_34 ?_
  refine lv_aload_n hx hb dX2_copyFrom_37 rfl (lv_at hl 0 rfl) ?_
  refine k_get (T := TX2) (N := 9) X I inU2 6 cwG_6 rfl 3 (by decide) uw_1_63 rfl rfl dX2_copyFrom_38 ?_
  obtain ⟨M4, e_M4, hf⟩ := k_nm hf
  refine k_callSN (n := 2) (As := [.ref (q 16), .ref (q 10)]) (rest := []) X I (c_copy 16 10 cwG_16 cwG_10 (by decide) (by decide) (by decide) (fun g => xA M3 6 g) (fun g => cwA_6) e_M4) (List.mem_of_getElem? (i := 18) rfl) uw_1_1 uw_3_182 uw_3_183 ⟨rfl, rfl⟩ (by decide +kernel) rfl ⟨Nat.le_of_ble_eq_true rfl, Nat.le_of_ble_eq_true rfl⟩ ⟨Nat.le_of_ble_eq_true rfl, Nat.le_of_ble_eq_true rfl⟩ hl.1 rfl (Nat.le_of_ble_eq_true rfl) dX2_copyFrom_41 (st1 := []) rfl (fun H locs I => ?_)
  refine lv_aload_n hx hb dX2_copyFrom_44 rfl (lv_at hl 1 rfl) ?_
  refine k_get (T := TX2) (N := 9) X I inU2 12 cwG_12 rfl 4 (by decide) uw_1_64 rfl rfl dX2_copyFrom_45 ?_
  refine lv_aload_n hx hb dX2_copyFrom_48 rfl (lv_at hl 0 rfl) ?_
  refine k_get (T := TX2) (N := 9) X I inU2 6 cwG_6 rfl 4 (by decide) uw_1_64 rfl rfl dX2_copyFrom_49 ?_
  obtain ⟨M5, e_M5, hf⟩ := k_nm hf
  refine k_callSN (n := 2) (As := [.ref (q 17), .ref (q 11)]) (rest := []) X I (c_copy 17 11 cwG_17 cwG_11 (by decide) (by decide) (by decide) (fun g => xA M4 7 g) (fun g => cwA_7) e_M5) (List.mem_of_getElem? (i := 18) rfl) uw_1_1 uw_3_182 uw_3_183 ⟨rfl, rfl⟩ (by decide +kernel) rfl ⟨Nat.le_of_ble_eq_true rfl, Nat.le_of_ble_eq_true rfl⟩ ⟨Nat.le_of_ble_eq_true rfl, Nat.le_of_ble_eq_true rfl⟩ hl.1 rfl (Nat.le_of_ble_eq_true rfl) dX2_copyFrom_52 (st1 := []) rfl (fun H locs I => ?_)
  refine lv_aload_n hx hb dX2_copyFrom_55 rfl (lv_at hl 0 rfl) ?_
  refine lv_aload_n hx hb dX2_copyFrom_56 rfl (lv_at hl 1 rfl) ?_
  refine k_get (T := TX2) (N := 9) X I inU2 12 cwG_12 rfl 5 (by decide) uw_1_65 rfl rfl dX2_copyFrom_57 ?_
  obtain ⟨M6, e_M6, hf⟩ := k_nm hf
  refine k_put (T := TX2) (N := 9) (M1 := M6) X I inU2 tyX2 tyX2_ok nmX2 6 cwG_6 rfl 5 (by decide) uw_1_65 rfl rfl (tyX2_ok 5 (by decide)) rfl rfl (Nat.le_of_ble_eq_true rfl) dX2_copyFrom_60 (cwI_5.trans (congrArg (cw q aI) e_M6)) (fun H locs I => ?_)
  refine lv_aload_n hx hb dX2_copyFrom_63 rfl (lv_at hl 0 rfl) ?_
  refine lv_aload_n hx hb dX2_copyFrom_64 rfl (lv_at hl 1 rfl) ?_
  refine k_get (T := TX2) (N := 9) X I inU2 12 cwG_12 rfl 6 (by decide) uw_1_66 rfl rfl dX2_copyFrom_65 ?_
  obtain ⟨M7, e_M7, hf⟩ := k_nm hf
  refine k_put (T := TX2) (N := 9) (M1 := M7) X I inU2 tyX2 tyX2_ok nmX2 6 cwG_6 rfl 6 (by decide) uw_1_66 rfl rfl (tyX2_ok 6 (by decide)) rfl rfl (Nat.le_of_ble_eq_true rfl) dX2_copyFrom_68 (cwI_6.trans (congrArg (cw q aI) e_M7)) (fun H locs I => ?_)
  refine lv_aload_n hx hb dX2_copyFrom_71 rfl (lv_at hl 0 rfl) ?_
  refine lv_aload_n hx hb dX2_copyFrom_72 rfl (lv_at hl 1 rfl) ?_
  refine k_get (T := TX2) (N := 9) X I inU2 12 cwG_12 rfl 7 (by decide) uw_1_67 rfl rfl dX2_copyFrom_73 ?_
  obtain ⟨M8, e_M8, hf⟩ := k_nm hf
  refine k_put (T := TX2) (N := 9) (M1 := M8) X I inU2 tyX2 tyX2_ok nmX2 6 cwG_6 rfl 7 (by decide) uw_1_67 rfl rfl (tyX2_ok 7 (by decide)) rfl rfl (Nat.le_of_ble_eq_true rfl) dX2_copyFrom_76 (cwI_7.trans (congrArg (cw q aI) e_M8)) (fun H locs I => ?_)
  refine lv_aload_n hx hb dX2_copyFrom_79 rfl (lv_at hl 0 rfl) ?_
  refine lv_aload_n hx hb dX2_copyFrom_80 rfl (lv_at hl 1 rfl) ?_
  refine k_get (T := TX2) (N := 9) X I inU2 12 cwG_12 rfl 8 (by decide) uw_1_68 rfl rfl dX2_copyFrom_81 ?_
  obtain ⟨M9, e_M9, hf⟩ := k_nm hf
  refine k_put (T := TX2) (N := 9) (M1 := M9) X I inU2 tyX2 tyX2_ok nmX2 6 cwG_6 rfl 8 (by decide) uw_1_68 rfl rfl (tyX2_ok 8 (by decide)) rfl rfl (Nat.le_of_ble_eq_true rfl) dX2_copyFrom_84 (cwI_8.trans (congrArg (cw q aI) e_M9)) (fun H locs I => ?_)
  exact k_vret X I hr hlocks dX2_copyFrom_87 hf
/-! LostTent$Tent.goOnFromImage()V -/
abbrev rm_X3_goOnFromImage : Room := { frames := 2, cells := 0, slots := 0, locals := 43 }
def f_X3_goOnFromImage (M : xM) : Option xM :=
  (f_X2_copyFrom_v1 M).bind fun M1 =>
  some M1
set_option maxRecDepth 100000 in
set_option maxHeartbeats 8000000 in
theorem c_X3_goOnFromImage {l : Launch} {D : va_G} {aI : ClassId} {q t : Nat → Nat} {M : xM} {Mr : xM} (hf : f_X3_goOnFromImage M = some Mr) : kM l yX3_goOnFromImage (wk yX3_goOnFromImage cX3_goOnFromImage 1 none) rm_X3_goOnFromImage (cw q aI) D aI t [.ref (q 3)] M none Mr := by
  refine kM_of (by decide) (Nat.le_of_ble_eq_true rfl) ?_
  intro p e s m args below meth c A ls X hr hlocks hl I
  have hx := X.1
  have hb := X.2.1
  have hl : lv_has ls 1 [(0, .ref (q 3))] := hl
  rw [f_X3_goOnFromImage] at hf
  refine lv_aload_n hx hb dX3_goOnFromImage_0 rfl (lv_at hl 0 rfl) ?_
  refine k_get (T := TX3) (N := 7) X I inU3 3 cwG_3 rfl 2 (by decide) uw_1_90 rfl rfl dX3_goOnFromImage_1 ?_
  refine lv_aload_n hx hb dX3_goOnFromImage_4 rfl (lv_at hl 0 rfl) ?_
  refine k_get (T := TX3) (N := 7) X I inU3 3 cwG_3 rfl 3 (by decide) uw_1_91 rfl rfl dX3_goOnFromImage_5 ?_
  obtain ⟨M1, h_M1, hf⟩ := k_bind hf
  refine k_callV (n := 1) (As := [.ref (q 12)]) (rest := []) X I (c_X2_copyFrom_v1 h_M1) uw_3_177 uw_3_178 uw_3_179 uw_1_4 uw_3_180 ⟨rfl, rfl⟩ (by decide +kernel) rfl ⟨Nat.le_of_ble_eq_true rfl, Nat.le_of_ble_eq_true rfl⟩ ⟨Nat.le_of_ble_eq_true rfl, Nat.le_of_ble_eq_true rfl⟩ 6 cwG_6 rfl hl.1 rfl (Nat.le_of_ble_eq_true rfl) dX3_goOnFromImage_8 (st1 := []) rfl (fun H locs I => ?_)
  exact k_vret X I hr hlocks dX3_goOnFromImage_11 hf
/-! LostTent.restore()I -/
abbrev rm_X5_restore : Room := { frames := 3, cells := 0, slots := 0, locals := 63 }
def f_X5_restore (M : xM) : Option (Int32 × xM) :=
  (f_X3_hasImage M).bind fun r1 =>
  if r1 = 0 then
    some ((-103 : Int32), M)
  else
    (f_X3_goOnFromImage M).bind fun M3 =>
    (f_X2_mondaysOver M3).bind fun r4 =>
    some (r4, M3)
set_option maxRecDepth 100000 in
set_option maxHeartbeats 8000000 in
theorem c_X5_restore {l : Launch} {D : va_G} {aI : ClassId} {q t : Nat → Nat} {M : xM} {r : Int32} {Mr : xM} (hf : f_X5_restore M = some (r, Mr)) : kM l yX5_restore (wk yX5_restore cX5_restore 1 (some .int)) rm_X5_restore (cw q aI) D aI t [.ref (q 0)] M (some (.int r)) Mr := by
  refine kM_of (by decide) (Nat.le_of_ble_eq_true rfl) ?_
  intro p e s m args below meth c A ls X hr hlocks hl I
  have hx := X.1
  have hb := X.2.1
  have hl : lv_has ls 1 [(0, .ref (q 0))] := hl
  rw [f_X5_restore] at hf
  refine lv_aload_n hx hb dX5_restore_0 rfl (lv_at hl 0 rfl) ?_
  refine k_get (T := TX5) (N := 5) X I inU5 0 cwG_0 rfl 1 (by decide) uw_1_149 rfl rfl dX5_restore_1 ?_
  obtain ⟨r1, h_r1, hf⟩ := k_bind hf
  refine k_callV (n := 0) (As := []) (rest := []) X I (c_X3_hasImage h_r1) uw_3_188 uw_3_189 uw_3_190 uw_1_3 uw_3_191 ⟨rfl, rfl⟩ (by decide +kernel) rfl ⟨Nat.le_of_ble_eq_true rfl, Nat.le_of_ble_eq_true rfl⟩ ⟨Nat.le_of_ble_eq_true rfl, Nat.le_of_ble_eq_true rfl⟩ 3 cwG_3 rfl hl.1 rfl (Nat.le_of_ble_eq_true rfl) dX5_restore_4 (st1 := [.int r1]) rfl (fun H locs I => ?_)
  refine lv_if_ne (tgt := 13) hx hb dX5_restore_7 (by decide) (fun c2 => ?_) (fun c2 => ?_)
  · rw [if_neg c2] at hf
    refine lv_aload_n hx hb dX5_restore_13 rfl (lv_at hl 0 rfl) ?_
    refine k_get (T := TX5) (N := 5) X I inU5 0 cwG_0 rfl 1 (by decide) uw_1_149 rfl rfl dX5_restore_14 ?_
    obtain ⟨M3, h_M3, hf⟩ := k_bind hf
    refine k_callV (n := 0) (As := []) (rest := []) X I (c_X3_goOnFromImage h_M3) uw_3_192 uw_3_193 uw_3_194 uw_1_3 uw_3_195 ⟨rfl, rfl⟩ (by decide +kernel) rfl ⟨Nat.le_of_ble_eq_true rfl, Nat.le_of_ble_eq_true rfl⟩ ⟨Nat.le_of_ble_eq_true rfl, Nat.le_of_ble_eq_true rfl⟩ 3 cwG_3 rfl hl.1 rfl (Nat.le_of_ble_eq_true rfl) dX5_restore_17 (st1 := []) rfl (fun H locs I => ?_)
    refine lv_aload_n hx hb dX5_restore_20 rfl (lv_at hl 0 rfl) ?_
    refine k_get (T := TX5) (N := 5) X I inU5 0 cwG_0 rfl 1 (by decide) uw_1_149 rfl rfl dX5_restore_21 ?_
    refine k_callV (n := 0) (As := []) (rest := []) X I c_X3_register uw_2_122 uw_2_123 uw_2_124 uw_1_3 uw_2_125 ⟨rfl, rfl⟩ (by decide +kernel) rfl ⟨Nat.le_of_ble_eq_true rfl, Nat.le_of_ble_eq_true rfl⟩ ⟨Nat.le_of_ble_eq_true rfl, Nat.le_of_ble_eq_true rfl⟩ 3 cwG_3 rfl hl.1 rfl (Nat.le_of_ble_eq_true rfl) dX5_restore_24 (st1 := [.ref (q 6)]) rfl (fun H locs I => ?_)
    obtain ⟨r4, h_r4, hf⟩ := k_bind hf
    refine k_callV (n := 0) (As := []) (rest := []) X I (c_X2_mondaysOver h_r4) uw_3_51 uw_3_52 uw_3_53 uw_1_4 uw_3_54 ⟨rfl, rfl⟩ (by decide +kernel) rfl ⟨Nat.le_of_ble_eq_true rfl, Nat.le_of_ble_eq_true rfl⟩ ⟨Nat.le_of_ble_eq_true rfl, Nat.le_of_ble_eq_true rfl⟩ 6 cwG_6 rfl hl.1 rfl (Nat.le_of_ble_eq_true rfl) dX5_restore_27 (st1 := [.int r4]) rfl (fun H locs I => ?_)
    exact k_iret X I hr hlocks dX5_restore_30 hf
  · rw [if_pos c2] at hf
    refine lv_bipush (v := (-103)) hx hb dX5_restore_10 (by decide) ?_
    exact k_iret X I hr hlocks dX5_restore_12 hf
