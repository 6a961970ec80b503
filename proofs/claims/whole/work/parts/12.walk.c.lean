/-! LostTent$Tent.wrongIfLostIn(III)I -/
abbrev rm_X3_wrongIfLostIn : Room := { frames := 2, cells := 0, slots := 0, locals := 45 }
def f_X3_wrongIfLostIn_b65 (y0 : Int32) (y1 : Int32) (y2 : Int32) (y3 : Int32) (M : xM) : Option Int32 :=
  (f_X5_wrongBy y3 y2 y1 y0).bind fun r9 =>
  some r9
def f_X3_wrongIfLostIn_b42 (x2 : Int32) (x3 : Int32) (y0 : Int32) (y1 : Int32) (y2 : Int32) (M : xM) : Option Int32 :=
  (f_X3_signOf x2 (2 : Int32) M).bind fun r6 =>
  (f_X2_memoryOf x3 (2 : Int32) M).bind fun r7 =>
  if r6 = r7 then
    f_X3_wrongIfLostIn_b65 (0 : Int32) y0 y1 y2 M
  else
    f_X3_wrongIfLostIn_b65 (1 : Int32) y0 y1 y2 M
def f_X3_wrongIfLostIn (x1 : Int32) (x2 : Int32) (x3 : Int32) (M : xM) : Option Int32 :=
  (f_X3_kindOf x3 M).bind fun r1 =>
  (f_X2_memoryOf x3 (0 : Int32) M).bind fun r2 =>
  (f_X3_signOf x2 (1 : Int32) M).bind fun r3 =>
  (f_X2_memoryOf x3 (1 : Int32) M).bind fun r4 =>
  if r3 = r4 then
    f_X3_wrongIfLostIn_b42 x2 x3 (0 : Int32) (if 0 ≤ (x1 - r2) then (x1 - r2) else 0 - (x1 - r2)) r1 M
  else
    f_X3_wrongIfLostIn_b42 x2 x3 (1 : Int32) (if 0 ≤ (x1 - r2) then (x1 - r2) else 0 - (x1 - r2)) r1 M
set_option maxRecDepth 100000 in
set_option maxHeartbeats 8000000 in
theorem c_X3_wrongIfLostIn {l : Launch} {D : va_G} {aI : ClassId} {q t : Nat → Nat} {x1 : Int32} {x2 : Int32} {x3 : Int32} {M : xM} {r : Int32} (hf : f_X3_wrongIfLostIn x1 x2 x3 M = some r) : kM l yX3_wrongIfLostIn (wk yX3_wrongIfLostIn cX3_wrongIfLostIn 4 (some .int)) rm_X3_wrongIfLostIn (cw q aI) D aI t [.ref (q 3), .int x1, .int x2, .int x3] M (some (.int r)) M := by
  refine kM_of (by decide) (Nat.le_of_ble_eq_true rfl) ?_
  intro p e s m args below meth c A ls X hr hlocks hl I
  have hx := X.1
  have hb := X.2.1
  have hl : lv_has ls 4 [(0, .ref (q 3)), (1, .int x1), (2, .int x2), (3, .int x3)] := hl
  have B65 : ∀ (y0 : Int32) (y1 : Int32) (y2 : Int32) (y3 : Int32) (H : Heap) (locs : List Loc) (ls : Array Slot), f_X3_wrongIfLostIn_b65 y0 y1 y2 y3 M = some r → kI (cw q aI) D A s M H locs → lv_has ls 4 [] → W p l e rm_X3_wrongIfLostIn s m args below meth c H locs 0 0 (MQ below (kQ (cw q aI) D A (some (.int r)) M) args s 0 0 A) (F0 m 65 ls [.int y0, .int y1, .int y2, .int y3]) := by
    intro y0 y1 y2 y3 H locs ls hf I hl
    rw [f_X3_wrongIfLostIn_b65] at hf
    obtain ⟨r9, h_r9, hf⟩ := k_bind hf
    refine k_callSN (n := 4) (As := [.int y3, .int y2, .int y1, .int y0]) (rest := []) X I (c_X5_wrongBy h_r9) (List.mem_of_getElem? (i := 9) rfl) uw_1_1 uw_2_156 uw_2_157 ⟨rfl, rfl⟩ (by decide +kernel) rfl ⟨Nat.le_of_ble_eq_true rfl, Nat.le_of_ble_eq_true rfl⟩ ⟨Nat.le_of_ble_eq_true rfl, Nat.le_of_ble_eq_true rfl⟩ hl.1 rfl (Nat.le_of_ble_eq_true rfl) dX3_wrongIfLostIn_65 (st1 := [.int r9]) rfl (fun H locs I => ?_)
    exact k_iretP X I hr hlocks dX3_wrongIfLostIn_68 hf
  have B42 : ∀ (x2 : Int32) (x3 : Int32) (y0 : Int32) (y1 : Int32) (y2 : Int32) (H : Heap) (locs : List Loc) (ls : Array Slot), f_X3_wrongIfLostIn_b42 x2 x3 y0 y1 y2 M = some r → kI (cw q aI) D A s M H locs → lv_has ls 4 [(0, .ref (q 3)), (2, .int x2), (3, .int x3)] → W p l e rm_X3_wrongIfLostIn s m args below meth c H locs 0 0 (MQ below (kQ (cw q aI) D A (some (.int r)) M) args s 0 0 A) (F0 m 42 ls [.int y0, .int y1, .int y2]) := by
    intro x2 x3 y0 y1 y2 H locs ls hf I hl
    rw [f_X3_wrongIfLostIn_b42] at hf
    refine lv_aload_n hx hb dX3_wrongIfLostIn_42 rfl (lv_at hl 0 rfl) ?_
    refine lv_iload_n hx hb dX3_wrongIfLostIn_43 rfl (lv_at hl 1 rfl) ?_
    refine lv_iconst (v := 2) hx hb dX3_wrongIfLostIn_44 (by decide) ?_
    obtain ⟨r6, h_r6, hf⟩ := k_bind hf
    refine k_callV (n := 2) (As := [.int x2, .int (2 : Int32)]) (rest := [.int y0, .int y1, .int y2]) X I (c_X3_signOf h_r6) uw_2_143 uw_2_118 uw_2_119 uw_1_3 uw_2_120 ⟨rfl, rfl⟩ (by decide +kernel) rfl ⟨Nat.le_of_ble_eq_true rfl, Nat.le_of_ble_eq_true rfl⟩ ⟨Nat.le_of_ble_eq_true rfl, Nat.le_of_ble_eq_true rfl⟩ 3 cwG_3 rfl hl.1 rfl (Nat.le_of_ble_eq_true rfl) dX3_wrongIfLostIn_45 (st1 := [.int r6, .int y0, .int y1, .int y2]) rfl (fun H locs I => ?_)
    refine lv_aload_n hx hb dX3_wrongIfLostIn_48 rfl (lv_at hl 0 rfl) ?_
    refine k_get (T := TX3) (N := 7) X I inU3 3 cwG_3 rfl 2 (by decide) uw_1_90 rfl rfl dX3_wrongIfLostIn_49 ?_
    refine lv_iload_n hx hb dX3_wrongIfLostIn_52 rfl (lv_at hl 2 rfl) ?_
    refine lv_iconst (v := 2) hx hb dX3_wrongIfLostIn_53 (by decide) ?_
    obtain ⟨r7, h_r7, hf⟩ := k_bind hf
    refine k_callV (n := 2) (As := [.int x3, .int (2 : Int32)]) (rest := [.int r6, .int y0, .int y1, .int y2]) X I (c_X2_memoryOf h_r7) uw_2_148 uw_2_149 uw_2_150 uw_1_4 uw_2_151 ⟨rfl, rfl⟩ (by decide +kernel) rfl ⟨Nat.le_of_ble_eq_true rfl, Nat.le_of_ble_eq_true rfl⟩ ⟨Nat.le_of_ble_eq_true rfl, Nat.le_of_ble_eq_true rfl⟩ 6 cwG_6 rfl hl.1 rfl (Nat.le_of_ble_eq_true rfl) dX3_wrongIfLostIn_54 (st1 := [.int r7, .int r6, .int y0, .int y1, .int y2]) rfl (fun H locs I => ?_)
    refine lv_icmp_eq (tgt := 64) hx hb dX3_wrongIfLostIn_57 (by decide) (fun c8 => ?_) (fun c8 => ?_)
    · rw [if_pos c8] at hf
      refine lv_iconst (v := 0) hx hb dX3_wrongIfLostIn_64 (by decide) ?_
      exact B65 (0 : Int32) y0 y1 y2 _ _ ls hf I (lv_sub hl [] rfl)
    · rw [if_neg c8] at hf
      refine lv_iconst (v := 1) hx hb dX3_wrongIfLostIn_60 (by decide) ?_
      refine lv_goto (tgt := 65) hx hb dX3_wrongIfLostIn_61 (by decide) ?_
      exact B65 (1 : Int32) y0 y1 y2 _ _ ls hf I (lv_sub hl [] rfl)
  rw [f_X3_wrongIfLostIn] at hf
  refine lv_aload_n hx hb dX3_wrongIfLostIn_0 rfl (lv_at hl 0 rfl) ?_
  refine lv_iload_n hx hb dX3_wrongIfLostIn_1 rfl (lv_at hl 3 rfl) ?_
  obtain ⟨r1, h_r1, hf⟩ := k_bind hf
  refine k_callV (n := 1) (As := [.int x3]) (rest := []) X I (c_X3_kindOf h_r1) uw_2_139 uw_2_140 uw_2_141 uw_1_3 uw_2_142 ⟨rfl, rfl⟩ (by decide +kernel) rfl ⟨Nat.le_of_ble_eq_true rfl, Nat.le_of_ble_eq_true rfl⟩ ⟨Nat.le_of_ble_eq_true rfl, Nat.le_of_ble_eq_true rfl⟩ 3 cwG_3 rfl hl.1 rfl (Nat.le_of_ble_eq_true rfl) dX3_wrongIfLostIn_2 (st1 := [.int r1]) rfl (fun H locs I => ?_)
  refine lv_iload_n hx hb dX3_wrongIfLostIn_5 rfl (lv_at hl 1 rfl) ?_
  refine lv_aload_n hx hb dX3_wrongIfLostIn_6 rfl (lv_at hl 0 rfl) ?_
  refine k_get (T := TX3) (N := 7) X I inU3 3 cwG_3 rfl 2 (by decide) uw_1_90 rfl rfl dX3_wrongIfLostIn_7 ?_
  refine lv_iload_n hx hb dX3_wrongIfLostIn_10 rfl (lv_at hl 3 rfl) ?_
  refine lv_iconst (v := 0) hx hb dX3_wrongIfLostIn_11 (by decide) ?_
  obtain ⟨r2, h_r2, hf⟩ := k_bind hf
  refine k_callV (n := 2) (As := [.int x3, .int (0 : Int32)]) (rest := [.int x1, .int r1]) X I (c_X2_memoryOf h_r2) uw_2_148 uw_2_149 uw_2_150 uw_1_4 uw_2_151 ⟨rfl, rfl⟩ (by decide +kernel) rfl ⟨Nat.le_of_ble_eq_true rfl, Nat.le_of_ble_eq_true rfl⟩ ⟨Nat.le_of_ble_eq_true rfl, Nat.le_of_ble_eq_true rfl⟩ 6 cwG_6 rfl hl.1 rfl (Nat.le_of_ble_eq_true rfl) dX3_wrongIfLostIn_12 (st1 := [.int r2, .int x1, .int r1]) rfl (fun H locs I => ?_)
  refine lv_isub hx hb dX3_wrongIfLostIn_15 ?_
  refine k_mabs (rest := [.int r1]) X hl.1 uw_2_152 ⟨Nat.le_of_ble_eq_true rfl, Nat.le_of_ble_eq_true rfl⟩ (Nat.le_of_ble_eq_true rfl) ⟨Nat.le_of_ble_eq_true rfl, Nat.le_of_ble_eq_true rfl⟩ dX3_wrongIfLostIn_16 ?_
  refine lv_aload_n hx hb dX3_wrongIfLostIn_19 rfl (lv_at hl 0 rfl) ?_
  refine lv_iload_n hx hb dX3_wrongIfLostIn_20 rfl (lv_at hl 2 rfl) ?_
  refine lv_iconst (v := 1) hx hb dX3_wrongIfLostIn_21 (by decide) ?_
  obtain ⟨r3, h_r3, hf⟩ := k_bind hf
  refine k_callV (n := 2) (As := [.int x2, .int (1 : Int32)]) (rest := [.int (if 0 ≤ (x1 - r2) then (x1 - r2) else 0 - (x1 - r2)), .int r1]) X I (c_X3_signOf h_r3) uw_2_143 uw_2_118 uw_2_119 uw_1_3 uw_2_120 ⟨rfl, rfl⟩ (by decide +kernel) rfl ⟨Nat.le_of_ble_eq_true rfl, Nat.le_of_ble_eq_true rfl⟩ ⟨Nat.le_of_ble_eq_true rfl, Nat.le_of_ble_eq_true rfl⟩ 3 cwG_3 rfl hl.1 rfl (Nat.le_of_ble_eq_true rfl) dX3_wrongIfLostIn_22 (st1 := [.int r3, .int (if 0 ≤ (x1 - r2) then (x1 - r2) else 0 - (x1 - r2)), .int r1]) rfl (fun H locs I => ?_)
  refine lv_aload_n hx hb dX3_wrongIfLostIn_25 rfl (lv_at hl 0 rfl) ?_
  refine k_get (T := TX3) (N := 7) X I inU3 3 cwG_3 rfl 2 (by decide) uw_1_90 rfl rfl dX3_wrongIfLostIn_26 ?_
  refine lv_iload_n hx hb dX3_wrongIfLostIn_29 rfl (lv_at hl 3 rfl) ?_
  refine lv_iconst (v := 1) hx hb dX3_wrongIfLostIn_30 (by decide) ?_
  obtain ⟨r4, h_r4, hf⟩ := k_bind hf
  refine k_callV (n := 2) (As := [.int x3, .int (1 : Int32)]) (rest := [.int r3, .int (if 0 ≤ (x1 - r2) then (x1 - r2) else 0 - (x1 - r2)), .int r1]) X I (c_X2_memoryOf h_r4) uw_2_148 uw_2_149 uw_2_150 uw_1_4 uw_2_151 ⟨rfl, rfl⟩ (by decide +kernel) rfl ⟨Nat.le_of_ble_eq_true rfl, Nat.le_of_ble_eq_true rfl⟩ ⟨Nat.le_of_ble_eq_true rfl, Nat.le_of_ble_eq_true rfl⟩ 6 cwG_6 rfl hl.1 rfl (Nat.le_of_ble_eq_true rfl) dX3_wrongIfLostIn_31 (st1 := [.int r4, .int r3, .int (if 0 ≤ (x1 - r2) then (x1 - r2) else 0 - (x1 - r2)), .int r1]) rfl (fun H locs I => ?_)
  refine lv_icmp_eq (tgt := 41) hx hb dX3_wrongIfLostIn_34 (by decide) (fun c5 => ?_) (fun c5 => ?_)
  · rw [if_pos c5] at hf
    refine lv_iconst (v := 0) hx hb dX3_wrongIfLostIn_41 (by decide) ?_
    exact B42 x2 x3 (0 : Int32) (if 0 ≤ (x1 - r2) then (x1 - r2) else 0 - (x1 - r2)) r1 _ _ ls hf I (lv_sub hl [0, 2, 3] rfl)
  · rw [if_neg c5] at hf
    refine lv_iconst (v := 1) hx hb dX3_wrongIfLostIn_37 (by decide) ?_
    refine lv_goto (tgt := 42) hx hb dX3_wrongIfLostIn_38 (by decide) ?_
    exact B42 x2 x3 (1 : Int32) (if 0 ≤ (x1 - r2) then (x1 - r2) else 0 - (x1 - r2)) r1 _ _ ls hf I (lv_sub hl [0, 2, 3] rfl)
/-! LostTent.isFit(II)Z -/
abbrev rm_X5_isFit : Room := { frames := 1, cells := 0, slots := 0, locals := 21 }
def f_X5_isFit (x0 : Int32) (x1 : Int32) : Option Int32 :=
  if (xe 5 (xT [2, 2, 2, 2, 4]) x0) < x1 then
    xbo (0 : Int32)
  else
    xbo (1 : Int32)
set_option maxRecDepth 100000 in
set_option maxHeartbeats 8000000 in
theorem c_X5_isFit {l : Launch} {D : va_G} {aI : ClassId} {q t : Nat → Nat} {x0 : Int32} {x1 : Int32} {M : xM} {r : Int32} (hf : f_X5_isFit x0 x1 = some r) : kM l yX5_isFit (wk yX5_isFit cX5_isFit 2 (some .boolean)) rm_X5_isFit (cw q aI) D aI t [.int x0, .int x1] M (some (.int r)) M := by
  refine kM_of (by decide) (Nat.le_of_ble_eq_true rfl) ?_
  intro p e s m args below meth c A ls X hr hlocks hl I
  have hx := X.1
  have hb := X.2.1
  have hl : lv_has ls 2 [(0, .int x0), (1, .int x1)] := hl
  rw [f_X5_isFit] at hf
  refine lv_iload_n hx hb dX5_isFit_0 rfl (lv_at hl 1 rfl) ?_
  refine k_gets X I (cZ_4 X.2.2.2.2.2.2.1) uw_2_168 rfl dX5_isFit_1 ?_
  refine lv_iload_n hx hb dX5_isFit_4 rfl (lv_at hl 0 rfl) ?_
  refine k_callS (n := 2) (As := [.ref (t 4), .int x0]) (rest := [.int x1]) X I (c_entryT cT_4 (by decide)) uw_2_160 uw_1_198 uw_1_1 uw_1_199 ⟨rfl, rfl⟩ (by decide +kernel) rfl ⟨Nat.le_of_ble_eq_true rfl, Nat.le_of_ble_eq_true rfl⟩ ⟨Nat.le_of_ble_eq_true rfl, Nat.le_of_ble_eq_true rfl⟩ hl.1 rfl (Nat.le_of_ble_eq_true rfl) dX5_isFit_5 (st1 := [.int (xe 5 (xT [2, 2, 2, 2, 4]) x0), .int x1]) rfl (fun H locs I => ?_)
  refine lv_icmp_gt (tgt := 15) hx hb dX5_isFit_8 (by decide) (fun c1 => ?_) (fun c1 => ?_)
  · rw [if_pos c1] at hf
    refine lv_iconst (v := 0) hx hb dX5_isFit_15 (by decide) ?_
    exact k_zretP X I hr hlocks dX5_isFit_16 hf
  · rw [if_neg c1] at hf
    refine lv_iconst (v := 1) hx hb dX5_isFit_11 (by decide) ?_
    refine lv_goto (tgt := 16) hx hb dX5_isFit_12 (by decide) ?_
    exact k_zretP X I hr hlocks dX5_isFit_16 hf
/-! LostTent$Tent.fits(II)Z -/
abbrev rm_X3_fits : Room := { frames := 3, cells := 0, slots := 0, locals := 68 }
def f_X3_fits (x1 : Int32) (x2 : Int32) (M : xM) : Option Int32 :=
  (f_X3_kindOf x2 M).bind fun r1 =>
  (f_X3_signOf x1 (0 : Int32) M).bind fun r2 =>
  (f_X3_wrongIfLostIn r2 x1 x2 M).bind fun r3 =>
  (f_X5_isFit r1 r3).bind fun r4 =>
  xbo r4
set_option maxRecDepth 100000 in
set_option maxHeartbeats 8000000 in
theorem c_X3_fits {l : Launch} {D : va_G} {aI : ClassId} {q t : Nat → Nat} {x1 : Int32} {x2 : Int32} {M : xM} {r : Int32} (hf : f_X3_fits x1 x2 M = some r) : kM l yX3_fits (wk yX3_fits cX3_fits 3 (some .boolean)) rm_X3_fits (cw q aI) D aI t [.ref (q 3), .int x1, .int x2] M (some (.int r)) M := by
  refine kM_of (by decide) (Nat.le_of_ble_eq_true rfl) ?_
  intro p e s m args below meth c A ls X hr hlocks hl I
  have hx := X.1
  have hb := X.2.1
  have hl : lv_has ls 3 [(0, .ref (q 3)), (1, .int x1), (2, .int x2)] := hl
  rw [f_X3_fits] at hf
  refine lv_aload_n hx hb dX3_fits_0 rfl (lv_at hl 0 rfl) ?_
  refine lv_iload_n hx hb dX3_fits_1 rfl (lv_at hl 2 rfl) ?_
  obtain ⟨r1, h_r1, hf⟩ := k_bind hf
  refine k_callV (n := 1) (As := [.int x2]) (rest := []) X I (c_X3_kindOf h_r1) uw_2_139 uw_2_140 uw_2_141 uw_1_3 uw_2_142 ⟨rfl, rfl⟩ (by decide +kernel) rfl ⟨Nat.le_of_ble_eq_true rfl, Nat.le_of_ble_eq_true rfl⟩ ⟨Nat.le_of_ble_eq_true rfl, Nat.le_of_ble_eq_true rfl⟩ 3 cwG_3 rfl hl.1 rfl (Nat.le_of_ble_eq_true rfl) dX3_fits_2 (st1 := [.int r1]) rfl (fun H locs I => ?_)
  refine lv_aload_n hx hb dX3_fits_5 rfl (lv_at hl 0 rfl) ?_
  refine lv_aload_n hx hb dX3_fits_6 rfl (lv_at hl 0 rfl) ?_
  refine lv_iload_n hx hb dX3_fits_7 rfl (lv_at hl 1 rfl) ?_
  refine lv_iconst (v := 0) hx hb dX3_fits_8 (by decide) ?_
  obtain ⟨r2, h_r2, hf⟩ := k_bind hf
  refine k_callV (n := 2) (As := [.int x1, .int (0 : Int32)]) (rest := [.ref (q 3), .int r1]) X I (c_X3_signOf h_r2) uw_2_143 uw_2_118 uw_2_119 uw_1_3 uw_2_120 ⟨rfl, rfl⟩ (by decide +kernel) rfl ⟨Nat.le_of_ble_eq_true rfl, Nat.le_of_ble_eq_true rfl⟩ ⟨Nat.le_of_ble_eq_true rfl, Nat.le_of_ble_eq_true rfl⟩ 3 cwG_3 rfl hl.1 rfl (Nat.le_of_ble_eq_true rfl) dX3_fits_9 (st1 := [.int r2, .ref (q 3), .int r1]) rfl (fun H locs I => ?_)
  refine lv_iload_n hx hb dX3_fits_12 rfl (lv_at hl 1 rfl) ?_
  refine lv_iload_n hx hb dX3_fits_13 rfl (lv_at hl 2 rfl) ?_
  obtain ⟨r3, h_r3, hf⟩ := k_bind hf
  refine k_callV (n := 3) (As := [.int r2, .int x1, .int x2]) (rest := [.int r1]) X I (c_X3_wrongIfLostIn h_r3) uw_2_144 uw_2_146 us_2 uw_1_3 uw_2_147 ⟨rfl, rfl⟩ (by decide +kernel) rfl ⟨Nat.le_of_ble_eq_true rfl, Nat.le_of_ble_eq_true rfl⟩ ⟨Nat.le_of_ble_eq_true rfl, Nat.le_of_ble_eq_true rfl⟩ 3 cwG_3 rfl hl.1 rfl (Nat.le_of_ble_eq_true rfl) dX3_fits_14 (st1 := [.int r3, .int r1]) rfl (fun H locs I => ?_)
  obtain ⟨r4, h_r4, hf⟩ := k_bind hf
  refine k_callSN (n := 2) (As := [.int r1, .int r3]) (rest := []) X I (c_X5_isFit h_r4) (List.mem_of_getElem? (i := 10) rfl) uw_1_1 uw_2_166 uw_2_167 ⟨rfl, rfl⟩ (by decide +kernel) rfl ⟨Nat.le_of_ble_eq_true rfl, Nat.le_of_ble_eq_true rfl⟩ ⟨Nat.le_of_ble_eq_true rfl, Nat.le_of_ble_eq_true rfl⟩ hl.1 rfl (Nat.le_of_ble_eq_true rfl) dX3_fits_17 (st1 := [.int r4]) rfl (fun H locs I => ?_)
  exact k_zretP X I hr hlocks dX3_fits_20 hf
/-! LostTent$Tent.claimersFitted(I)I -/
abbrev rm_X3_claimersFitted : Room := { frames := 4, cells := 0, slots := 0, locals := 90 }
def f_X3_claimersFitted_b27 (k4 : Int32 → Int32 → Int32 → xM → Option Int32) (x1 : Int32) (x2 : Int32) (x3 : Int32) (M : xM) : Option Int32 :=
  k4 x1 x2 (x3 + 1) M
def f_X3_claimersFitted_l4 : Nat → Int32 → Int32 → Int32 → xM → Option Int32
  | 0, _, _, _, _ => none
  | n4 + 1, x1, x2, x3, M =>
    if (M.1 3) ≤ x3 then
      some x2
    else
      (f_X3_fits x1 x3 M).bind fun r2 =>
      if r2 = 0 then
        f_X3_claimersFitted_b27 (f_X3_claimersFitted_l4 n4) x1 x2 x3 M
      else
        f_X3_claimersFitted_b27 (f_X3_claimersFitted_l4 n4) x1 (x2 ||| ((1 : Int32) <<< (x3 &&& 31))) x3 M
def f_X3_claimersFitted (x1 : Int32) (M : xM) : Option Int32 :=
  f_X3_claimersFitted_l4 xN x1 (0 : Int32) (0 : Int32) M
set_option maxRecDepth 100000 in
set_option maxHeartbeats 8000000 in
theorem c_X3_claimersFitted {l : Launch} {D : va_G} {aI : ClassId} {q t : Nat → Nat} {x1 : Int32} {M : xM} {r : Int32} (hf : f_X3_claimersFitted x1 M = some r) : kM l yX3_claimersFitted (wk yX3_claimersFitted cX3_claimersFitted 4 (some .int)) rm_X3_claimersFitted (cw q aI) D aI t [.ref (q 3), .int x1] M (some (.int r)) M := by
  refine kM_of (by decide) (Nat.le_of_ble_eq_true rfl) ?_
  intro p e s m args below meth c A ls X hr hlocks hl I
  have hx := X.1
  have hb := X.2.1
  have hl : lv_has ls 4 [(0, .ref (q 3)), (1, .int x1)] := hl
  have B27 : ∀ (k4 : Int32 → Int32 → Int32 → xM → Option Int32), (∀ (x1 : Int32) (x2 : Int32) (x3 : Int32) (H : Heap) (locs : List Loc) (ls : Array Slot), k4 x1 x2 x3 M = some r → kI (cw q aI) D A s M H locs → lv_has ls 4 [(0, .ref (q 3)), (1, .int x1), (2, .int x2), (3, .int x3)] → W p l e rm_X3_claimersFitted s m args below meth c H locs 0 0 (MQ below (kQ (cw q aI) D A (some (.int r)) M) args s 0 0 A) (F0 m 4 ls [])) → ∀ (x1 : Int32) (x2 : Int32) (x3 : Int32) (H : Heap) (locs : List Loc) (ls : Array Slot), f_X3_claimersFitted_b27 k4 x1 x2 x3 M = some r → kI (cw q aI) D A s M H locs → lv_has ls 4 [(0, .ref (q 3)), (1, .int x1), (2, .int x2), (3, .int x3)] → W p l e rm_X3_claimersFitted s m args below meth c H locs 0 0 (MQ below (kQ (cw q aI) D A (some (.int r)) M) args s 0 0 A) (F0 m 27 ls []) := by
    intro k4 hk4 x1 x2 x3 H locs ls hf I hl
    rw [f_X3_claimersFitted_b27] at hf
    refine lv_iinc (v := (x3 + 1)) (lv' := [(3, .int (x3 + 1)), (0, .ref (q 3)), (1, .int x1), (2, .int x2)]) hx hb dX3_claimersFitted_27 hl (k := 3) rfl rfl (by decide) rfl (fun ls hl => ?_)
    refine lv_goto (tgt := 4) hx hb dX3_claimersFitted_30 (by decide) ?_
    exact hk4 x1 x2 (x3 + 1) _ _ ls hf I (lv_sub hl [1, 2, 3, 0] rfl)
  have B4 : ∀ (n4 : Nat), ∀ (x1 : Int32) (x2 : Int32) (x3 : Int32) (H : Heap) (locs : List Loc) (ls : Array Slot), f_X3_claimersFitted_l4 n4 x1 x2 x3 M = some r → kI (cw q aI) D A s M H locs → lv_has ls 4 [(0, .ref (q 3)), (1, .int x1), (2, .int x2), (3, .int x3)] → W p l e rm_X3_claimersFitted s m args below meth c H locs 0 0 (MQ below (kQ (cw q aI) D A (some (.int r)) M) args s 0 0 A) (F0 m 4 ls []) := by
    intro n4
    induction n4 with
    | zero =>
      intro x1 x2 x3 H locs ls hf I hl
      rw [f_X3_claimersFitted_l4] at hf
      cases hf
    | succ n4 ih4 =>
      intro x1 x2 x3 H locs ls hf I hl
      rw [f_X3_claimersFitted_l4] at hf
      refine lv_iload_n hx hb dX3_claimersFitted_4 rfl (lv_at hl 3 rfl) ?_
      refine lv_aload_n hx hb dX3_claimersFitted_5 rfl (lv_at hl 0 rfl) ?_
      refine k_get (T := TX3) (N := 7) X I inU3 3 cwG_3 rfl 5 (by decide) uw_1_93 rfl rfl dX3_claimersFitted_6 ?_
      refine lv_icmp_ge (tgt := 33) hx hb dX3_claimersFitted_9 (by decide) (fun c1 => ?_) (fun c1 => ?_)
      · rw [if_pos c1] at hf
        refine lv_iload_n hx hb dX3_claimersFitted_33 rfl (lv_at hl 2 rfl) ?_
        exact k_iretP X I hr hlocks dX3_claimersFitted_34 hf
      · rw [if_neg c1] at hf
        refine lv_aload_n hx hb dX3_claimersFitted_12 rfl (lv_at hl 0 rfl) ?_
        refine lv_iload_n hx hb dX3_claimersFitted_13 rfl (lv_at hl 1 rfl) ?_
        refine lv_iload_n hx hb dX3_claimersFitted_14 rfl (lv_at hl 3 rfl) ?_
        obtain ⟨r2, h_r2, hf⟩ := k_bind hf
        refine k_callV (n := 2) (As := [.int x1, .int x3]) (rest := []) X I (c_X3_fits h_r2) uw_2_135 uw_2_136 uw_2_137 uw_1_3 uw_2_138 ⟨rfl, rfl⟩ (by decide +kernel) rfl ⟨Nat.le_of_ble_eq_true rfl, Nat.le_of_ble_eq_true rfl⟩ ⟨Nat.le_of_ble_eq_true rfl, Nat.le_of_ble_eq_true rfl⟩ 3 cwG_3 rfl hl.1 rfl (Nat.le_of_ble_eq_true rfl) dX3_claimersFitted_15 (st1 := [.int r2]) rfl (fun H locs I => ?_)
        refine lv_if_eq (tgt := 27) hx hb dX3_claimersFitted_18 (by decide) (fun c3 => ?_) (fun c3 => ?_)
        · rw [if_pos c3] at hf
          exact B27 (f_X3_claimersFitted_l4 n4) ih4 x1 x2 x3 _ _ ls hf I (lv_sub hl [0, 1, 2, 3] rfl)
        · rw [if_neg c3] at hf
          refine lv_iload_n hx hb dX3_claimersFitted_21 rfl (lv_at hl 2 rfl) ?_
          refine lv_iconst (v := 1) hx hb dX3_claimersFitted_22 (by decide) ?_
          refine lv_iload_n hx hb dX3_claimersFitted_23 rfl (lv_at hl 3 rfl) ?_
          refine lv_ishl hx hb dX3_claimersFitted_24 ?_
          refine lv_ior hx hb dX3_claimersFitted_25 ?_
          refine lv_istore_n (lv' := [(2, .int (x2 ||| ((1 : Int32) <<< (x3 &&& 31)))), (0, .ref (q 3)), (1, .int x1), (3, .int x3)]) hx hb dX3_claimersFitted_26 rfl hl (by decide) rfl (fun ls hl => ?_)
          exact B27 (f_X3_claimersFitted_l4 n4) ih4 x1 (x2 ||| ((1 : Int32) <<< (x3 &&& 31))) x3 _ _ ls hf I (lv_sub hl [1, 2, 0, 3] rfl)
  rw [f_X3_claimersFitted] at hf
  refine lv_iconst (v := 0) hx hb dX3_claimersFitted_0 (by decide) ?_
  refine lv_istore_n (lv' := [(2, .int (0 : Int32)), (0, .ref (q 3)), (1, .int x1)]) hx hb dX3_claimersFitted_1 rfl hl (by decide) rfl (fun ls hl => ?_)
  refine lv_iconst (v := 0) hx hb dX3_claimersFitted_2 (by decide) ?_
  refine lv_istore_n (lv' := [(3, .int (0 : Int32)), (2, .int (0 : Int32)), (0, .ref (q 3)), (1, .int x1)]) hx hb dX3_claimersFitted_3 rfl hl (by decide) rfl (fun ls hl => ?_)
  exact B4 xN x1 (0 : Int32) (0 : Int32) _ _ ls hf I (lv_sub hl [2, 3, 1, 0] rfl)
/-! LostTent$Register.seenInAll()I -/
abbrev rm_X2_seenInAll : Room := { frames := 0, cells := 0, slots := 0, locals := 0 }
def f_X2_seenInAll (M : xM) : Option Int32 :=
  some (M.1 5)
set_option maxRecDepth 100000 in
set_option maxHeartbeats 8000000 in
theorem c_X2_seenInAll {l : Launch} {D : va_G} {aI : ClassId} {q t : Nat → Nat} {M : xM} {r : Int32} (hf : f_X2_seenInAll M = some r) : kM l yX2_seenInAll (wk yX2_seenInAll cX2_seenInAll 1 (some .int)) rm_X2_seenInAll (cw q aI) D aI t [.ref (q 6)] M (some (.int r)) M := by
  refine kM_of (by decide) (Nat.le_of_ble_eq_true rfl) ?_
  intro p e s m args below meth c A ls X hr hlocks hl I
  have hx := X.1
  have hb := X.2.1
  have hl : lv_has ls 1 [(0, .ref (q 6))] := hl
  rw [f_X2_seenInAll] at hf
  refine lv_aload_n hx hb dX2_seenInAll_0 rfl (lv_at hl 0 rfl) ?_
  refine k_get (T := TX2) (N := 9) X I inU2 6 cwG_6 rfl 5 (by decide) uw_1_65 rfl rfl dX2_seenInAll_1 ?_
  exact k_iretP X I hr hlocks dX2_seenInAll_4 hf
/-! LostTent$Register.seenThing(I)I -/
abbrev rm_X2_seenThing : Room := { frames := 1, cells := 0, slots := 0, locals := 21 }
def f_X2_seenThing (x1 : Int32) (M : xM) : Option Int32 :=
  some (xe 8 (M.2.2 5) x1)
set_option maxRecDepth 100000 in
set_option maxHeartbeats 8000000 in
theorem c_X2_seenThing {l : Launch} {D : va_G} {aI : ClassId} {q t : Nat → Nat} {x1 : Int32} {M : xM} {r : Int32} (hf : f_X2_seenThing x1 M = some r) : kM l yX2_seenThing (wk yX2_seenThing cX2_seenThing 2 (some .int)) rm_X2_seenThing (cw q aI) D aI t [.ref (q 6), .int x1] M (some (.int r)) M := by
  refine kM_of (by decide) (Nat.le_of_ble_eq_true rfl) ?_
  intro p e s m args below meth c A ls X hr hlocks hl I
  have hx := X.1
  have hb := X.2.1
  have hl : lv_has ls 2 [(0, .ref (q 6)), (1, .int x1)] := hl
  rw [f_X2_seenThing] at hf
  refine lv_aload_n hx hb dX2_seenThing_0 rfl (lv_at hl 0 rfl) ?_
  refine k_get (T := TX2) (N := 9) X I inU2 6 cwG_6 rfl 2 (by decide) uw_1_62 rfl rfl dX2_seenThing_1 ?_
  refine lv_iload_n hx hb dX2_seenThing_4 rfl (lv_at hl 1 rfl) ?_
  refine k_callSN (n := 2) (As := [.ref (q 9), .int x1]) (rest := []) X I (c_entry 9 cwG_9 (by decide)) (List.mem_of_getElem? (i := 8) rfl) uw_1_1 uw_1_198 uw_1_199 ⟨rfl, rfl⟩ (by decide +kernel) rfl ⟨Nat.le_of_ble_eq_true rfl, Nat.le_of_ble_eq_true rfl⟩ ⟨Nat.le_of_ble_eq_true rfl, Nat.le_of_ble_eq_true rfl⟩ hl.1 rfl (Nat.le_of_ble_eq_true rfl) dX2_seenThing_5 (st1 := [.int (xe 8 (M.2.2 5) x1)]) rfl (fun H locs I => ?_)
  exact k_iretP X I hr hlocks dX2_seenThing_8 hf
/-! LostTent$Register.seenClaimer(I)I -/
abbrev rm_X2_seenClaimer : Room := { frames := 1, cells := 0, slots := 0, locals := 21 }
def f_X2_seenClaimer (x1 : Int32) (M : xM) : Option Int32 :=
  some (xe 8 (M.2.2 6) x1)
set_option maxRecDepth 100000 in
set_option maxHeartbeats 8000000 in
theorem c_X2_seenClaimer {l : Launch} {D : va_G} {aI : ClassId} {q t : Nat → Nat} {x1 : Int32} {M : xM} {r : Int32} (hf : f_X2_seenClaimer x1 M = some r) : kM l yX2_seenClaimer (wk yX2_seenClaimer cX2_seenClaimer 2 (some .int)) rm_X2_seenClaimer (cw q aI) D aI t [.ref (q 6), .int x1] M (some (.int r)) M := by
  refine kM_of (by decide) (Nat.le_of_ble_eq_true rfl) ?_
  intro p e s m args below meth c A ls X hr hlocks hl I
  have hx := X.1
  have hb := X.2.1
  have hl : lv_has ls 2 [(0, .ref (q 6)), (1, .int x1)] := hl
  rw [f_X2_seenClaimer] at hf
  refine lv_aload_n hx hb dX2_seenClaimer_0 rfl (lv_at hl 0 rfl) ?_
  refine k_get (T := TX2) (N := 9) X I inU2 6 cwG_6 rfl 3 (by decide) uw_1_63 rfl rfl dX2_seenClaimer_1 ?_
  refine lv_iload_n hx hb dX2_seenClaimer_4 rfl (lv_at hl 1 rfl) ?_
  refine k_callSN (n := 2) (As := [.ref (q 10), .int x1]) (rest := []) X I (c_entry 10 cwG_10 (by decide)) (List.mem_of_getElem? (i := 8) rfl) uw_1_1 uw_1_198 uw_1_199 ⟨rfl, rfl⟩ (by decide +kernel) rfl ⟨Nat.le_of_ble_eq_true rfl, Nat.le_of_ble_eq_true rfl⟩ ⟨Nat.le_of_ble_eq_true rfl, Nat.le_of_ble_eq_true rfl⟩ hl.1 rfl (Nat.le_of_ble_eq_true rfl) dX2_seenClaimer_5 (st1 := [.int (xe 8 (M.2.2 6) x1)]) rfl (fun H locs I => ?_)
  exact k_iretP X I hr hlocks dX2_seenClaimer_8 hf
/-! LostTent$Tent.yearsFitting(II)I -/
abbrev rm_X3_yearsFitting : Room := { frames := 3, cells := 0, slots := 0, locals := 68 }
def f_X3_yearsFitting_b38 (k5 : Int32 → Int32 → Int32 → Int32 → xM → Option Int32) (x1 : Int32) (x2 : Int32) (x3 : Int32) (x4 : Int32) (M : xM) : Option Int32 :=
  k5 x1 x2 x3 (x4 + 1) M
def f_X3_yearsFitting_l5 : Nat → Int32 → Int32 → Int32 → Int32 → xM → Option Int32
  | 0, _, _, _, _, _ => none
  | n5 + 1, x1, x2, x3, x4, M =>
    if (10 : Int32) ≤ x4 then
      some x3
    else
      (f_X3_kindOf x2 M).bind fun r2 =>
      (f_X3_wrongIfLostIn x4 x1 x2 M).bind fun r3 =>
      (f_X5_isFit r2 r3).bind fun r4 =>
      if r4 = 0 then
        f_X3_yearsFitting_b38 (f_X3_yearsFitting_l5 n5) x1 x2 x3 x4 M
      else
        f_X3_yearsFitting_b38 (f_X3_yearsFitting_l5 n5) x1 x2 (x3 ||| ((1 : Int32) <<< (x4 &&& 31))) x4 M
def f_X3_yearsFitting (x1 : Int32) (x2 : Int32) (M : xM) : Option Int32 :=
  f_X3_yearsFitting_l5 xN x1 x2 (0 : Int32) (0 : Int32) M
set_option maxRecDepth 100000 in
set_option maxHeartbeats 8000000 in
theorem c_X3_yearsFitting {l : Launch} {D : va_G} {aI : ClassId} {q t : Nat → Nat} {x1 : Int32} {x2 : Int32} {M : xM} {r : Int32} (hf : f_X3_yearsFitting x1 x2 M = some r) : kM l yX3_yearsFitting (wk yX3_yearsFitting cX3_yearsFitting 5 (some .int)) rm_X3_yearsFitting (cw q aI) D aI t [.ref (q 3), .int x1, .int x2] M (some (.int r)) M := by
  refine kM_of (by decide) (Nat.le_of_ble_eq_true rfl) ?_
  intro p e s m args below meth c A ls X hr hlocks hl I
  have hx := X.1
  have hb := X.2.1
  have hl : lv_has ls 5 [(0, .ref (q 3)), (1, .int x1), (2, .int x2)] := hl
  have B38 : ∀ (k5 : Int32 → Int32 → Int32 → Int32 → xM → Option Int32), (∀ (x1 : Int32) (x2 : Int32) (x3 : Int32) (x4 : Int32) (H : Heap) (locs : List Loc) (ls : Array Slot), k5 x1 x2 x3 x4 M = some r → kI (cw q aI) D A s M H locs → lv_has ls 5 [(0, .ref (q 3)), (1, .int x1), (2, .int x2), (3, .int x3), (4, .int x4)] → W p l e rm_X3_yearsFitting s m args below meth c H locs 0 0 (MQ below (kQ (cw q aI) D A (some (.int r)) M) args s 0 0 A) (F0 m 5 ls [])) → ∀ (x1 : Int32) (x2 : Int32) (x3 : Int32) (x4 : Int32) (H : Heap) (locs : List Loc) (ls : Array Slot), f_X3_yearsFitting_b38 k5 x1 x2 x3 x4 M = some r → kI (cw q aI) D A s M H locs → lv_has ls 5 [(0, .ref (q 3)), (1, .int x1), (2, .int x2), (3, .int x3), (4, .int x4)] → W p l e rm_X3_yearsFitting s m args below meth c H locs 0 0 (MQ below (kQ (cw q aI) D A (some (.int r)) M) args s 0 0 A) (F0 m 38 ls []) := by
    intro k5 hk5 x1 x2 x3 x4 H locs ls hf I hl
    rw [f_X3_yearsFitting_b38] at hf
    refine lv_iinc (v := (x4 + 1)) (lv' := [(4, .int (x4 + 1)), (0, .ref (q 3)), (1, .int x1), (2, .int x2), (3, .int x3)]) hx hb dX3_yearsFitting_38 hl (k := 4) rfl rfl (by decide) rfl (fun ls hl => ?_)
    refine lv_goto (tgt := 5) hx hb dX3_yearsFitting_41 (by decide) ?_
    exact hk5 x1 x2 x3 (x4 + 1) _ _ ls hf I (lv_sub hl [1, 2, 3, 4, 0] rfl)
  have B5 : ∀ (n5 : Nat), ∀ (x1 : Int32) (x2 : Int32) (x3 : Int32) (x4 : Int32) (H : Heap) (locs : List Loc) (ls : Array Slot), f_X3_yearsFitting_l5 n5 x1 x2 x3 x4 M = some r → kI (cw q aI) D A s M H locs → lv_has ls 5 [(0, .ref (q 3)), (1, .int x1), (2, .int x2), (3, .int x3), (4, .int x4)] → W p l e rm_X3_yearsFitting s m args below meth c H locs 0 0 (MQ below (kQ (cw q aI) D A (some (.int r)) M) args s 0 0 A) (F0 m 5 ls []) := by
    intro n5
    induction n5 with
    | zero =>
      intro x1 x2 x3 x4 H locs ls hf I hl
      rw [f_X3_yearsFitting_l5] at hf
      cases hf
    | succ n5 ih5 =>
      intro x1 x2 x3 x4 H locs ls hf I hl
      rw [f_X3_yearsFitting_l5] at hf
      refine lv_iload hx hb dX3_yearsFitting_5 (lv_at hl 4 rfl) ?_
      refine lv_bipush (v := 10) hx hb dX3_yearsFitting_7 (by decide) ?_
      refine lv_icmp_ge (tgt := 44) hx hb dX3_yearsFitting_9 (by decide) (fun c1 => ?_) (fun c1 => ?_)
      · rw [if_pos c1] at hf
        refine lv_iload_n hx hb dX3_yearsFitting_44 rfl (lv_at hl 3 rfl) ?_
        exact k_iretP X I hr hlocks dX3_yearsFitting_45 hf
      · rw [if_neg c1] at hf
        refine lv_aload_n hx hb dX3_yearsFitting_12 rfl (lv_at hl 0 rfl) ?_
        refine lv_iload_n hx hb dX3_yearsFitting_13 rfl (lv_at hl 2 rfl) ?_
        obtain ⟨r2, h_r2, hf⟩ := k_bind hf
        refine k_callV (n := 1) (As := [.int x2]) (rest := []) X I (c_X3_kindOf h_r2) uw_2_139 uw_2_140 uw_2_141 uw_1_3 uw_2_142 ⟨rfl, rfl⟩ (by decide +kernel) rfl ⟨Nat.le_of_ble_eq_true rfl, Nat.le_of_ble_eq_true rfl⟩ ⟨Nat.le_of_ble_eq_true rfl, Nat.le_of_ble_eq_true rfl⟩ 3 cwG_3 rfl hl.1 rfl (Nat.le_of_ble_eq_true rfl) dX3_yearsFitting_14 (st1 := [.int r2]) rfl (fun H locs I => ?_)
        refine lv_aload_n hx hb dX3_yearsFitting_17 rfl (lv_at hl 0 rfl) ?_
        refine lv_iload hx hb dX3_yearsFitting_18 (lv_at hl 4 rfl) ?_
        refine lv_iload_n hx hb dX3_yearsFitting_20 rfl (lv_at hl 1 rfl) ?_
        refine lv_iload_n hx hb dX3_yearsFitting_21 rfl (lv_at hl 2 rfl) ?_
        obtain ⟨r3, h_r3, hf⟩ := k_bind hf
        refine k_callV (n := 3) (As := [.int x4, .int x1, .int x2]) (rest := [.int r2]) X I (c_X3_wrongIfLostIn h_r3) uw_2_144 uw_2_146 us_2 uw_1_3 uw_2_147 ⟨rfl, rfl⟩ (by decide +kernel) rfl ⟨Nat.le_of_ble_eq_true rfl, Nat.le_of_ble_eq_true rfl⟩ ⟨Nat.le_of_ble_eq_true rfl, Nat.le_of_ble_eq_true rfl⟩ 3 cwG_3 rfl hl.1 rfl (Nat.le_of_ble_eq_true rfl) dX3_yearsFitting_22 (st1 := [.int r3, .int r2]) rfl (fun H locs I => ?_)
        obtain ⟨r4, h_r4, hf⟩ := k_bind hf
        refine k_callSN (n := 2) (As := [.int r2, .int r3]) (rest := []) X I (c_X5_isFit h_r4) (List.mem_of_getElem? (i := 10) rfl) uw_1_1 uw_2_166 uw_2_167 ⟨rfl, rfl⟩ (by decide +kernel) rfl ⟨Nat.le_of_ble_eq_true rfl, Nat.le_of_ble_eq_true rfl⟩ ⟨Nat.le_of_ble_eq_true rfl, Nat.le_of_ble_eq_true rfl⟩ hl.1 rfl (Nat.le_of_ble_eq_true rfl) dX3_yearsFitting_25 (st1 := [.int r4]) rfl (fun H locs I => ?_)
        refine lv_if_eq (tgt := 38) hx hb dX3_yearsFitting_28 (by decide) (fun c5 => ?_) (fun c5 => ?_)
        · rw [if_pos c5] at hf
          exact B38 (f_X3_yearsFitting_l5 n5) ih5 x1 x2 x3 x4 _ _ ls hf I (lv_sub hl [0, 1, 2, 3, 4] rfl)
        · rw [if_neg c5] at hf
          refine lv_iload_n hx hb dX3_yearsFitting_31 rfl (lv_at hl 3 rfl) ?_
          refine lv_iconst (v := 1) hx hb dX3_yearsFitting_32 (by decide) ?_
          refine lv_iload hx hb dX3_yearsFitting_33 (lv_at hl 4 rfl) ?_
          refine lv_ishl hx hb dX3_yearsFitting_35 ?_
          refine lv_ior hx hb dX3_yearsFitting_36 ?_
          refine lv_istore_n (lv' := [(3, .int (x3 ||| ((1 : Int32) <<< (x4 &&& 31)))), (0, .ref (q 3)), (1, .int x1), (2, .int x2), (4, .int x4)]) hx hb dX3_yearsFitting_37 rfl hl (by decide) rfl (fun ls hl => ?_)
          exact B38 (f_X3_yearsFitting_l5 n5) ih5 x1 x2 (x3 ||| ((1 : Int32) <<< (x4 &&& 31))) x4 _ _ ls hf I (lv_sub hl [1, 2, 3, 0, 4] rfl)
  rw [f_X3_yearsFitting] at hf
  refine lv_iconst (v := 0) hx hb dX3_yearsFitting_0 (by decide) ?_
  refine lv_istore_n (lv' := [(3, .int (0 : Int32)), (0, .ref (q 3)), (1, .int x1), (2, .int x2)]) hx hb dX3_yearsFitting_1 rfl hl (by decide) rfl (fun ls hl => ?_)
  refine lv_iconst (v := 0) hx hb dX3_yearsFitting_2 (by decide) ?_
  refine lv_istore (lv' := [(4, .int (0 : Int32)), (3, .int (0 : Int32)), (0, .ref (q 3)), (1, .int x1), (2, .int x2)]) hx hb dX3_yearsFitting_3 hl (by decide) rfl (fun ls hl => ?_)
  exact B5 xN x1 x2 (0 : Int32) (0 : Int32) _ _ ls hf I (lv_sub hl [2, 3, 4, 1, 0] rfl)
/-! LostTent$Register.seenFitted(I)Z -/
abbrev rm_X2_seenFitted : Room := { frames := 1, cells := 0, slots := 0, locals := 21 }
def f_X2_seenFitted (x1 : Int32) (M : xM) : Option Int32 :=
  if (xe 8 (M.2.2 7) x1) = (1 : Int32) then
    xbo (1 : Int32)
  else
    xbo (0 : Int32)
set_option maxRecDepth 100000 in
set_option maxHeartbeats 8000000 in
theorem c_X2_seenFitted {l : Launch} {D : va_G} {aI : ClassId} {q t : Nat → Nat} {x1 : Int32} {M : xM} {r : Int32} (hf : f_X2_seenFitted x1 M = some r) : kM l yX2_seenFitted (wk yX2_seenFitted cX2_seenFitted 2 (some .boolean)) rm_X2_seenFitted (cw q aI) D aI t [.ref (q 6), .int x1] M (some (.int r)) M := by
  refine kM_of (by decide) (Nat.le_of_ble_eq_true rfl) ?_
  intro p e s m args below meth c A ls X hr hlocks hl I
  have hx := X.1
  have hb := X.2.1
  have hl : lv_has ls 2 [(0, .ref (q 6)), (1, .int x1)] := hl
  rw [f_X2_seenFitted] at hf
  refine lv_aload_n hx hb dX2_seenFitted_0 rfl (lv_at hl 0 rfl) ?_
  refine k_get (T := TX2) (N := 9) X I inU2 6 cwG_6 rfl 4 (by decide) uw_1_64 rfl rfl dX2_seenFitted_1 ?_
  refine lv_iload_n hx hb dX2_seenFitted_4 rfl (lv_at hl 1 rfl) ?_
  refine k_callSN (n := 2) (As := [.ref (q 11), .int x1]) (rest := []) X I (c_entry 11 cwG_11 (by decide)) (List.mem_of_getElem? (i := 8) rfl) uw_1_1 uw_1_198 uw_1_199 ⟨rfl, rfl⟩ (by decide +kernel) rfl ⟨Nat.le_of_ble_eq_true rfl, Nat.le_of_ble_eq_true rfl⟩ ⟨Nat.le_of_ble_eq_true rfl, Nat.le_of_ble_eq_true rfl⟩ hl.1 rfl (Nat.le_of_ble_eq_true rfl) dX2_seenFitted_5 (st1 := [.int (xe 8 (M.2.2 7) x1)]) rfl (fun H locs I => ?_)
  refine lv_iconst (v := 1) hx hb dX2_seenFitted_8 (by decide) ?_
  refine lv_icmp_ne (tgt := 16) hx hb dX2_seenFitted_9 (by decide) (fun c1 => ?_) (fun c1 => ?_)
  · rw [if_neg c1] at hf
    refine lv_iconst (v := 0) hx hb dX2_seenFitted_16 (by decide) ?_
    exact k_zretP X I hr hlocks dX2_seenFitted_17 hf
  · rw [if_pos c1] at hf
    refine lv_iconst (v := 1) hx hb dX2_seenFitted_12 (by decide) ?_
    refine lv_goto (tgt := 17) hx hb dX2_seenFitted_13 (by decide) ?_
    exact k_zretP X I hr hlocks dX2_seenFitted_17 hf
/-! LostTent$Tent.yearsOf(I)I -/
abbrev rm_X3_yearsOf : Room := { frames := 4, cells := 0, slots := 0, locals := 92 }
def f_X3_yearsOf_b67 (k6 : Int32 → Int32 → Int32 → xM → Option Int32) (x1 : Int32) (x2 : Int32) (x3 : Int32) (M : xM) : Option Int32 :=
  k6 x1 x2 (x3 + 1) M
def f_X3_yearsOf_b65 (k6 : Int32 → Int32 → Int32 → xM → Option Int32) (x1 : Int32) (x3 : Int32) (y0 : Int32) (y1 : Int32) (M : xM) : Option Int32 :=
  f_X3_yearsOf_b67 k6 x1 (y1 &&& y0) x3 M
def f_X3_yearsOf_l6 : Nat → Int32 → Int32 → Int32 → xM → Option Int32
  | 0, _, _, _, _ => none
  | n6 + 1, x1, x2, x3, M =>
    (f_X2_seenInAll M).bind fun r1 =>
    if r1 ≤ x3 then
      some x2
    else
      (f_X2_seenThing x3 M).bind fun r3 =>
      if r3 = x1 then
        (f_X2_seenClaimer x3 M).bind fun r5 =>
        (f_X3_yearsFitting x1 r5 M).bind fun r6 =>
        (f_X2_seenFitted x3 M).bind fun r7 =>
        if r7 = 0 then
          f_X3_yearsOf_b65 (f_X3_yearsOf_l6 n6) x1 x3 (r6 ^^^ (-1 : Int32)) x2 M
        else
          f_X3_yearsOf_b65 (f_X3_yearsOf_l6 n6) x1 x3 r6 x2 M
      else
        f_X3_yearsOf_b67 (f_X3_yearsOf_l6 n6) x1 x2 x3 M
def f_X3_yearsOf (x1 : Int32) (M : xM) : Option Int32 :=
  f_X3_yearsOf_l6 xN x1 (1023 : Int32) (0 : Int32) M
set_option maxRecDepth 100000 in
set_option maxHeartbeats 8000000 in
theorem c_X3_yearsOf {l : Launch} {D : va_G} {aI : ClassId} {q t : Nat → Nat} {x1 : Int32} {M : xM} {r : Int32} (hf : f_X3_yearsOf x1 M = some r) : kM l yX3_yearsOf (wk yX3_yearsOf cX3_yearsOf 5 (some .int)) rm_X3_yearsOf (cw q aI) D aI t [.ref (q 3), .int x1] M (some (.int r)) M := by
  refine kM_of (by decide) (Nat.le_of_ble_eq_true rfl) ?_
  intro p e s m args below meth c A ls X hr hlocks hl I
  have hx := X.1
  have hb := X.2.1
  have hl : lv_has ls 5 [(0, .ref (q 3)), (1, .int x1)] := hl
  have B67 : ∀ (k6 : Int32 → Int32 → Int32 → xM → Option Int32), (∀ (x1 : Int32) (x2 : Int32) (x3 : Int32) (H : Heap) (locs : List Loc) (ls : Array Slot), k6 x1 x2 x3 M = some r → kI (cw q aI) D A s M H locs → lv_has ls 5 [(0, .ref (q 3)), (1, .int x1), (2, .int x2), (3, .int x3)] → W p l e rm_X3_yearsOf s m args below meth c H locs 0 0 (MQ below (kQ (cw q aI) D A (some (.int r)) M) args s 0 0 A) (F0 m 6 ls [])) → ∀ (x1 : Int32) (x2 : Int32) (x3 : Int32) (H : Heap) (locs : List Loc) (ls : Array Slot), f_X3_yearsOf_b67 k6 x1 x2 x3 M = some r → kI (cw q aI) D A s M H locs → lv_has ls 5 [(0, .ref (q 3)), (1, .int x1), (2, .int x2), (3, .int x3)] → W p l e rm_X3_yearsOf s m args below meth c H locs 0 0 (MQ below (kQ (cw q aI) D A (some (.int r)) M) args s 0 0 A) (F0 m 67 ls []) := by
    intro k6 hk6 x1 x2 x3 H locs ls hf I hl
    rw [f_X3_yearsOf_b67] at hf
    refine lv_iinc (v := (x3 + 1)) (lv' := [(3, .int (x3 + 1)), (0, .ref (q 3)), (1, .int x1), (2, .int x2)]) hx hb dX3_yearsOf_67 hl (k := 3) rfl rfl (by decide) rfl (fun ls hl => ?_)
    refine lv_goto (tgt := 6) hx hb dX3_yearsOf_70 (by decide) ?_
    exact hk6 x1 x2 (x3 + 1) _ _ ls hf I (lv_sub hl [1, 2, 3, 0] rfl)
  have B65 : ∀ (k6 : Int32 → Int32 → Int32 → xM → Option Int32), (∀ (x1 : Int32) (x2 : Int32) (x3 : Int32) (H : Heap) (locs : List Loc) (ls : Array Slot), k6 x1 x2 x3 M = some r → kI (cw q aI) D A s M H locs → lv_has ls 5 [(0, .ref (q 3)), (1, .int x1), (2, .int x2), (3, .int x3)] → W p l e rm_X3_yearsOf s m args below meth c H locs 0 0 (MQ below (kQ (cw q aI) D A (some (.int r)) M) args s 0 0 A) (F0 m 6 ls [])) → ∀ (x1 : Int32) (x3 : Int32) (y0 : Int32) (y1 : Int32) (H : Heap) (locs : List Loc) (ls : Array Slot), f_X3_yearsOf_b65 k6 x1 x3 y0 y1 M = some r → kI (cw q aI) D A s M H locs → lv_has ls 5 [(0, .ref (q 3)), (1, .int x1), (3, .int x3)] → W p l e rm_X3_yearsOf s m args below meth c H locs 0 0 (MQ below (kQ (cw q aI) D A (some (.int r)) M) args s 0 0 A) (F0 m 65 ls [.int y0, .int y1]) := by
    intro k6 hk6 x1 x3 y0 y1 H locs ls hf I hl
    rw [f_X3_yearsOf_b65] at hf
    refine lv_iand hx hb dX3_yearsOf_65 ?_
    refine lv_istore_n (lv' := [(2, .int (y1 &&& y0)), (0, .ref (q 3)), (1, .int x1), (3, .int x3)]) hx hb dX3_yearsOf_66 rfl hl (by decide) rfl (fun ls hl => ?_)
    exact B67 k6 hk6 x1 (y1 &&& y0) x3 _ _ ls hf I (lv_sub hl [1, 2, 0, 3] rfl)
  have B6 : ∀ (n6 : Nat), ∀ (x1 : Int32) (x2 : Int32) (x3 : Int32) (H : Heap) (locs : List Loc) (ls : Array Slot), f_X3_yearsOf_l6 n6 x1 x2 x3 M = some r → kI (cw q aI) D A s M H locs → lv_has ls 5 [(0, .ref (q 3)), (1, .int x1), (2, .int x2), (3, .int x3)] → W p l e rm_X3_yearsOf s m args below meth c H locs 0 0 (MQ below (kQ (cw q aI) D A (some (.int r)) M) args s 0 0 A) (F0 m 6 ls []) := by
    intro n6
    induction n6 with
    | zero =>
      intro x1 x2 x3 H locs ls hf I hl
      rw [f_X3_yearsOf_l6] at hf
      cases hf
    | succ n6 ih6 =>
      intro x1 x2 x3 H locs ls hf I hl
      rw [f_X3_yearsOf_l6] at hf
      refine lv_iload_n hx hb dX3_yearsOf_6 rfl (lv_at hl 3 rfl) ?_
      refine lv_aload_n hx hb dX3_yearsOf_7 rfl (lv_at hl 0 rfl) ?_
      refine k_get (T := TX3) (N := 7) X I inU3 3 cwG_3 rfl 2 (by decide) uw_1_90 rfl rfl dX3_yearsOf_8 ?_
      obtain ⟨r1, h_r1, hf⟩ := k_bind hf
      refine k_callV (n := 0) (As := []) (rest := [.int x3]) X I (c_X2_seenInAll h_r1) uw_2_174 uw_2_175 uw_2_176 uw_1_4 uw_2_177 ⟨rfl, rfl⟩ (by decide +kernel) rfl ⟨Nat.le_of_ble_eq_true rfl, Nat.le_of_ble_eq_true rfl⟩ ⟨Nat.le_of_ble_eq_true rfl, Nat.le_of_ble_eq_true rfl⟩ 6 cwG_6 rfl hl.1 rfl (Nat.le_of_ble_eq_true rfl) dX3_yearsOf_11 (st1 := [.int r1, .int x3]) rfl (fun H locs I => ?_)
      refine lv_icmp_ge (tgt := 73) hx hb dX3_yearsOf_14 (by decide) (fun c2 => ?_) (fun c2 => ?_)
      · rw [if_pos c2] at hf
        refine lv_iload_n hx hb dX3_yearsOf_73 rfl (lv_at hl 2 rfl) ?_
        exact k_iretP X I hr hlocks dX3_yearsOf_74 hf
      · rw [if_neg c2] at hf
        refine lv_aload_n hx hb dX3_yearsOf_17 rfl (lv_at hl 0 rfl) ?_
        refine k_get (T := TX3) (N := 7) X I inU3 3 cwG_3 rfl 2 (by decide) uw_1_90 rfl rfl dX3_yearsOf_18 ?_
        refine lv_iload_n hx hb dX3_yearsOf_21 rfl (lv_at hl 3 rfl) ?_
        obtain ⟨r3, h_r3, hf⟩ := k_bind hf
        refine k_callV (n := 1) (As := [.int x3]) (rest := []) X I (c_X2_seenThing h_r3) uw_2_178 uw_2_179 uw_2_180 uw_1_4 uw_2_181 ⟨rfl, rfl⟩ (by decide +kernel) rfl ⟨Nat.le_of_ble_eq_true rfl, Nat.le_of_ble_eq_true rfl⟩ ⟨Nat.le_of_ble_eq_true rfl, Nat.le_of_ble_eq_true rfl⟩ 6 cwG_6 rfl hl.1 rfl (Nat.le_of_ble_eq_true rfl) dX3_yearsOf_22 (st1 := [.int r3]) rfl (fun H locs I => ?_)
        refine lv_iload_n hx hb dX3_yearsOf_25 rfl (lv_at hl 1 rfl) ?_
        refine lv_icmp_ne (tgt := 67) hx hb dX3_yearsOf_26 (by decide) (fun c4 => ?_) (fun c4 => ?_)
        · rw [if_neg c4] at hf
          exact B67 (f_X3_yearsOf_l6 n6) ih6 x1 x2 x3 _ _ ls hf I (lv_sub hl [0, 1, 2, 3] rfl)
        · rw [if_pos c4] at hf
          refine lv_aload_n hx hb dX3_yearsOf_29 rfl (lv_at hl 0 rfl) ?_
          refine lv_iload_n hx hb dX3_yearsOf_30 rfl (lv_at hl 1 rfl) ?_
          refine lv_aload_n hx hb dX3_yearsOf_31 rfl (lv_at hl 0 rfl) ?_
          refine k_get (T := TX3) (N := 7) X I inU3 3 cwG_3 rfl 2 (by decide) uw_1_90 rfl rfl dX3_yearsOf_32 ?_
          refine lv_iload_n hx hb dX3_yearsOf_35 rfl (lv_at hl 3 rfl) ?_
          obtain ⟨r5, h_r5, hf⟩ := k_bind hf
          refine k_callV (n := 1) (As := [.int x3]) (rest := [.int x1, .ref (q 3)]) X I (c_X2_seenClaimer h_r5) uw_2_182 uw_2_183 uw_2_184 uw_1_4 uw_2_185 ⟨rfl, rfl⟩ (by decide +kernel) rfl ⟨Nat.le_of_ble_eq_true rfl, Nat.le_of_ble_eq_true rfl⟩ ⟨Nat.le_of_ble_eq_true rfl, Nat.le_of_ble_eq_true rfl⟩ 6 cwG_6 rfl hl.1 rfl (Nat.le_of_ble_eq_true rfl) dX3_yearsOf_36 (st1 := [.int r5, .int x1, .ref (q 3)]) rfl (fun H locs I => ?_)
          obtain ⟨r6, h_r6, hf⟩ := k_bind hf
          refine k_callV (n := 2) (As := [.int x1, .int r5]) (rest := []) X I (c_X3_yearsFitting h_r6) uw_2_186 uw_2_188 us_3 uw_1_3 uw_2_189 ⟨rfl, rfl⟩ (by decide +kernel) rfl ⟨Nat.le_of_ble_eq_true rfl, Nat.le_of_ble_eq_true rfl⟩ ⟨Nat.le_of_ble_eq_true rfl, Nat.le_of_ble_eq_true rfl⟩ 3 cwG_3 rfl hl.1 rfl (Nat.le_of_ble_eq_true rfl) dX3_yearsOf_39 (st1 := [.int r6]) rfl (fun H locs I => ?_)
          refine lv_istore (lv' := [(4, .int r6), (0, .ref (q 3)), (1, .int x1), (2, .int x2), (3, .int x3)]) hx hb dX3_yearsOf_42 hl (by decide) rfl (fun ls hl => ?_)
          refine lv_iload_n hx hb dX3_yearsOf_44 rfl (lv_at hl 3 rfl) ?_
          refine lv_aload_n hx hb dX3_yearsOf_45 rfl (lv_at hl 1 rfl) ?_
          refine k_get (T := TX3) (N := 7) X I inU3 3 cwG_3 rfl 2 (by decide) uw_1_90 rfl rfl dX3_yearsOf_46 ?_
          refine lv_iload_n hx hb dX3_yearsOf_49 rfl (lv_at hl 4 rfl) ?_
          obtain ⟨r7, h_r7, hf⟩ := k_bind hf
          refine k_callV (n := 1) (As := [.int x3]) (rest := [.int x2]) X I (c_X2_seenFitted h_r7) uw_2_190 uw_2_191 uw_2_192 uw_1_4 uw_2_193 ⟨rfl, rfl⟩ (by decide +kernel) rfl ⟨Nat.le_of_ble_eq_true rfl, Nat.le_of_ble_eq_true rfl⟩ ⟨Nat.le_of_ble_eq_true rfl, Nat.le_of_ble_eq_true rfl⟩ 6 cwG_6 rfl hl.1 rfl (Nat.le_of_ble_eq_true rfl) dX3_yearsOf_50 (st1 := [.int r7, .int x2]) rfl (fun H locs I => ?_)
          refine lv_if_eq (tgt := 61) hx hb dX3_yearsOf_53 (by decide) (fun c8 => ?_) (fun c8 => ?_)
          · rw [if_pos c8] at hf
            refine lv_iload hx hb dX3_yearsOf_61 (lv_at hl 0 rfl) ?_
            refine lv_iconst (v := (-1)) hx hb dX3_yearsOf_63 (by decide) ?_
            refine lv_ixor hx hb dX3_yearsOf_64 ?_
            exact B65 (f_X3_yearsOf_l6 n6) ih6 x1 x3 (r6 ^^^ (-1 : Int32)) x2 _ _ ls hf I (lv_sub hl [1, 2, 4] rfl)
          · rw [if_neg c8] at hf
            refine lv_iload hx hb dX3_yearsOf_56 (lv_at hl 0 rfl) ?_
            refine lv_goto (tgt := 65) hx hb dX3_yearsOf_58 (by decide) ?_
            exact B65 (f_X3_yearsOf_l6 n6) ih6 x1 x3 r6 x2 _ _ ls hf I (lv_sub hl [1, 2, 4] rfl)
  rw [f_X3_yearsOf] at hf
  refine lv_sipush (v := 1023) hx hb dX3_yearsOf_0 (by decide) ?_
  refine lv_istore_n (lv' := [(2, .int (1023 : Int32)), (0, .ref (q 3)), (1, .int x1)]) hx hb dX3_yearsOf_3 rfl hl (by decide) rfl (fun ls hl => ?_)
  refine lv_iconst (v := 0) hx hb dX3_yearsOf_4 (by decide) ?_
  refine lv_istore_n (lv' := [(3, .int (0 : Int32)), (2, .int (1023 : Int32)), (0, .ref (q 3)), (1, .int x1)]) hx hb dX3_yearsOf_5 rfl hl (by decide) rfl (fun ls hl => ?_)
  exact B6 xN x1 (1023 : Int32) (0 : Int32) _ _ ls hf I (lv_sub hl [2, 3, 1, 0] rfl)
/-! java/lang/Integer.bitCount(I)I -/
abbrev rm_J6_bitCount_0f7a4 : Room := { frames := 0, cells := 0, slots := 0, locals := 0 }
def f_J6_bitCount_0f7a4 (x0 : Int32) : Option Int32 :=
  some ((((((((x0 - (((x0).toUInt32 >>> (((1 : Int32)).toUInt32 &&& Int32.toUInt32 31)).toInt32 &&& (1431655765 : Int32))) &&& (858993459 : Int32)) + ((((x0 - (((x0).toUInt32 >>> (((1 : Int32)).toUInt32 &&& Int32.toUInt32 31)).toInt32 &&& (1431655765 : Int32)))).toUInt32 >>> (((2 : Int32)).toUInt32 &&& Int32.toUInt32 31)).toInt32 &&& (858993459 : Int32))) + (((((x0 - (((x0).toUInt32 >>> (((1 : Int32)).toUInt32 &&& Int32.toUInt32 31)).toInt32 &&& (1431655765 : Int32))) &&& (858993459 : Int32)) + ((((x0 - (((x0).toUInt32 >>> (((1 : Int32)).toUInt32 &&& Int32.toUInt32 31)).toInt32 &&& (1431655765 : Int32)))).toUInt32 >>> (((2 : Int32)).toUInt32 &&& Int32.toUInt32 31)).toInt32 &&& (858993459 : Int32)))).toUInt32 >>> (((4 : Int32)).toUInt32 &&& Int32.toUInt32 31)).toInt32) &&& (252645135 : Int32)) + (((((((x0 - (((x0).toUInt32 >>> (((1 : Int32)).toUInt32 &&& Int32.toUInt32 31)).toInt32 &&& (1431655765 : Int32))) &&& (858993459 : Int32)) + ((((x0 - (((x0).toUInt32 >>> (((1 : Int32)).toUInt32 &&& Int32.toUInt32 31)).toInt32 &&& (1431655765 : Int32)))).toUInt32 >>> (((2 : Int32)).toUInt32 &&& Int32.toUInt32 31)).toInt32 &&& (858993459 : Int32))) + (((((x0 - (((x0).toUInt32 >>> (((1 : Int32)).toUInt32 &&& Int32.toUInt32 31)).toInt32 &&& (1431655765 : Int32))) &&& (858993459 : Int32)) + ((((x0 - (((x0).toUInt32 >>> (((1 : Int32)).toUInt32 &&& Int32.toUInt32 31)).toInt32 &&& (1431655765 : Int32)))).toUInt32 >>> (((2 : Int32)).toUInt32 &&& Int32.toUInt32 31)).toInt32 &&& (858993459 : Int32)))).toUInt32 >>> (((4 : Int32)).toUInt32 &&& Int32.toUInt32 31)).toInt32) &&& (252645135 : Int32))).toUInt32 >>> (((8 : Int32)).toUInt32 &&& Int32.toUInt32 31)).toInt32) + ((((((((x0 - (((x0).toUInt32 >>> (((1 : Int32)).toUInt32 &&& Int32.toUInt32 31)).toInt32 &&& (1431655765 : Int32))) &&& (858993459 : Int32)) + ((((x0 - (((x0).toUInt32 >>> (((1 : Int32)).toUInt32 &&& Int32.toUInt32 31)).toInt32 &&& (1431655765 : Int32)))).toUInt32 >>> (((2 : Int32)).toUInt32 &&& Int32.toUInt32 31)).toInt32 &&& (858993459 : Int32))) + (((((x0 - (((x0).toUInt32 >>> (((1 : Int32)).toUInt32 &&& Int32.toUInt32 31)).toInt32 &&& (1431655765 : Int32))) &&& (858993459 : Int32)) + ((((x0 - (((x0).toUInt32 >>> (((1 : Int32)).toUInt32 &&& Int32.toUInt32 31)).toInt32 &&& (1431655765 : Int32)))).toUInt32 >>> (((2 : Int32)).toUInt32 &&& Int32.toUInt32 31)).toInt32 &&& (858993459 : Int32)))).toUInt32 >>> (((4 : Int32)).toUInt32 &&& Int32.toUInt32 31)).toInt32) &&& (252645135 : Int32)) + (((((((x0 - (((x0).toUInt32 >>> (((1 : Int32)).toUInt32 &&& Int32.toUInt32 31)).toInt32 &&& (1431655765 : Int32))) &&& (858993459 : Int32)) + ((((x0 - (((x0).toUInt32 >>> (((1 : Int32)).toUInt32 &&& Int32.toUInt32 31)).toInt32 &&& (1431655765 : Int32)))).toUInt32 >>> (((2 : Int32)).toUInt32 &&& Int32.toUInt32 31)).toInt32 &&& (858993459 : Int32))) + (((((x0 - (((x0).toUInt32 >>> (((1 : Int32)).toUInt32 &&& Int32.toUInt32 31)).toInt32 &&& (1431655765 : Int32))) &&& (858993459 : Int32)) + ((((x0 - (((x0).toUInt32 >>> (((1 : Int32)).toUInt32 &&& Int32.toUInt32 31)).toInt32 &&& (1431655765 : Int32)))).toUInt32 >>> (((2 : Int32)).toUInt32 &&& Int32.toUInt32 31)).toInt32 &&& (858993459 : Int32)))).toUInt32 >>> (((4 : Int32)).toUInt32 &&& Int32.toUInt32 31)).toInt32) &&& (252645135 : Int32))).toUInt32 >>> (((8 : Int32)).toUInt32 &&& Int32.toUInt32 31)).toInt32)).toUInt32 >>> (((16 : Int32)).toUInt32 &&& Int32.toUInt32 31)).toInt32) &&& (63 : Int32))
set_option maxRecDepth 100000 in
set_option maxHeartbeats 8000000 in
theorem c_J6_bitCount_0f7a4 {l : Launch} {D : va_G} {aI : ClassId} {q t : Nat → Nat} {x0 : Int32} {M : xM} {r : Int32} (hf : f_J6_bitCount_0f7a4 x0 = some r) : kM l yJ6_bitCount_0f7a4 (wk yJ6_bitCount_0f7a4 cJ6_bitCount_0f7a4 1 (some .int)) rm_J6_bitCount_0f7a4 (cw q aI) D aI t [.int x0] M (some (.int r)) M := by
  refine kM_of (by decide) (Nat.le_of_ble_eq_true rfl) ?_
  intro p e s m args below meth c A ls X hr hlocks hl I
  have hx := X.1
  have hb := X.2.1
  have hl : lv_has ls 1 [(0, .int x0)] := hl
  rw [f_J6_bitCount_0f7a4] at hf
  refine lv_iload_n hx hb dJ6_bitCount_0f7a4_0 rfl (lv_at hl 0 rfl) ?_
  refine lv_iload_n hx hb dJ6_bitCount_0f7a4_1 rfl (lv_at hl 0 rfl) ?_
  refine lv_iconst (v := 1) hx hb dJ6_bitCount_0f7a4_2 (by decide) ?_
  refine lv_iushr hx hb dJ6_bitCount_0f7a4_3 rfl ?_
  refine lv_ldcw (v := 1431655765) hx hb X.2.2.2.1 (X.2.2.2.2.1 _ uw_2_201) dJ6_bitCount_0f7a4_4 ?_
  refine lv_iand hx hb dJ6_bitCount_0f7a4_7 ?_
  refine lv_isub hx hb dJ6_bitCount_0f7a4_8 ?_
  refine lv_istore_n (lv' := [(0, .int (x0 - (((x0).toUInt32 >>> (((1 : Int32)).toUInt32 &&& Int32.toUInt32 31)).toInt32 &&& (1431655765 : Int32))))]) hx hb dJ6_bitCount_0f7a4_9 rfl hl (by decide) rfl (fun ls hl => ?_)
  refine lv_iload_n hx hb dJ6_bitCount_0f7a4_10 rfl (lv_at hl 0 rfl) ?_
  refine lv_ldcw (v := 858993459) hx hb X.2.2.2.1 (X.2.2.2.2.1 _ uw_2_202) dJ6_bitCount_0f7a4_11 ?_
  refine lv_iand hx hb dJ6_bitCount_0f7a4_14 ?_
  refine lv_iload_n hx hb dJ6_bitCount_0f7a4_15 rfl (lv_at hl 0 rfl) ?_
  refine lv_iconst (v := 2) hx hb dJ6_bitCount_0f7a4_16 (by decide) ?_
  refine lv_iushr hx hb dJ6_bitCount_0f7a4_17 rfl ?_
  refine lv_ldcw (v := 858993459) hx hb X.2.2.2.1 (X.2.2.2.2.1 _ uw_2_202) dJ6_bitCount_0f7a4_18 ?_
  refine lv_iand hx hb dJ6_bitCount_0f7a4_21 ?_
  refine lv_iadd hx hb dJ6_bitCount_0f7a4_22 ?_
  refine lv_istore_n (lv' := [(0, .int (((x0 - (((x0).toUInt32 >>> (((1 : Int32)).toUInt32 &&& Int32.toUInt32 31)).toInt32 &&& (1431655765 : Int32))) &&& (858993459 : Int32)) + ((((x0 - (((x0).toUInt32 >>> (((1 : Int32)).toUInt32 &&& Int32.toUInt32 31)).toInt32 &&& (1431655765 : Int32)))).toUInt32 >>> (((2 : Int32)).toUInt32 &&& Int32.toUInt32 31)).toInt32 &&& (858993459 : Int32))))]) hx hb dJ6_bitCount_0f7a4_23 rfl hl (by decide) rfl (fun ls hl => ?_)
  refine lv_iload_n hx hb dJ6_bitCount_0f7a4_24 rfl (lv_at hl 0 rfl) ?_
  refine lv_iload_n hx hb dJ6_bitCount_0f7a4_25 rfl (lv_at hl 0 rfl) ?_
  refine lv_iconst (v := 4) hx hb dJ6_bitCount_0f7a4_26 (by decide) ?_
  refine lv_iushr hx hb dJ6_bitCount_0f7a4_27 rfl ?_
  refine lv_iadd hx hb dJ6_bitCount_0f7a4_28 ?_
  refine lv_ldcw (v := 252645135) hx hb X.2.2.2.1 (X.2.2.2.2.1 _ uw_2_203) dJ6_bitCount_0f7a4_29 ?_
  refine lv_iand hx hb dJ6_bitCount_0f7a4_32 ?_
  refine lv_istore_n (lv' := [(0, .int (((((x0 - (((x0).toUInt32 >>> (((1 : Int32)).toUInt32 &&& Int32.toUInt32 31)).toInt32 &&& (1431655765 : Int32))) &&& (858993459 : Int32)) + ((((x0 - (((x0).toUInt32 >>> (((1 : Int32)).toUInt32 &&& Int32.toUInt32 31)).toInt32 &&& (1431655765 : Int32)))).toUInt32 >>> (((2 : Int32)).toUInt32 &&& Int32.toUInt32 31)).toInt32 &&& (858993459 : Int32))) + (((((x0 - (((x0).toUInt32 >>> (((1 : Int32)).toUInt32 &&& Int32.toUInt32 31)).toInt32 &&& (1431655765 : Int32))) &&& (858993459 : Int32)) + ((((x0 - (((x0).toUInt32 >>> (((1 : Int32)).toUInt32 &&& Int32.toUInt32 31)).toInt32 &&& (1431655765 : Int32)))).toUInt32 >>> (((2 : Int32)).toUInt32 &&& Int32.toUInt32 31)).toInt32 &&& (858993459 : Int32)))).toUInt32 >>> (((4 : Int32)).toUInt32 &&& Int32.toUInt32 31)).toInt32) &&& (252645135 : Int32)))]) hx hb dJ6_bitCount_0f7a4_33 rfl hl (by decide) rfl (fun ls hl => ?_)
  refine lv_iload_n hx hb dJ6_bitCount_0f7a4_34 rfl (lv_at hl 0 rfl) ?_
  refine lv_iload_n hx hb dJ6_bitCount_0f7a4_35 rfl (lv_at hl 0 rfl) ?_
  refine lv_bipush (v := 8) hx hb dJ6_bitCount_0f7a4_36 (by decide) ?_
  refine lv_iushr hx hb dJ6_bitCount_0f7a4_38 rfl ?_
  refine lv_iadd hx hb dJ6_bitCount_0f7a4_39 ?_
  refine lv_istore_n (lv' := [(0, .int ((((((x0 - (((x0).toUInt32 >>> (((1 : Int32)).toUInt32 &&& Int32.toUInt32 31)).toInt32 &&& (1431655765 : Int32))) &&& (858993459 : Int32)) + ((((x0 - (((x0).toUInt32 >>> (((1 : Int32)).toUInt32 &&& Int32.toUInt32 31)).toInt32 &&& (1431655765 : Int32)))).toUInt32 >>> (((2 : Int32)).toUInt32 &&& Int32.toUInt32 31)).toInt32 &&& (858993459 : Int32))) + (((((x0 - (((x0).toUInt32 >>> (((1 : Int32)).toUInt32 &&& Int32.toUInt32 31)).toInt32 &&& (1431655765 : Int32))) &&& (858993459 : Int32)) + ((((x0 - (((x0).toUInt32 >>> (((1 : Int32)).toUInt32 &&& Int32.toUInt32 31)).toInt32 &&& (1431655765 : Int32)))).toUInt32 >>> (((2 : Int32)).toUInt32 &&& Int32.toUInt32 31)).toInt32 &&& (858993459 : Int32)))).toUInt32 >>> (((4 : Int32)).toUInt32 &&& Int32.toUInt32 31)).toInt32) &&& (252645135 : Int32)) + (((((((x0 - (((x0).toUInt32 >>> (((1 : Int32)).toUInt32 &&& Int32.toUInt32 31)).toInt32 &&& (1431655765 : Int32))) &&& (858993459 : Int32)) + ((((x0 - (((x0).toUInt32 >>> (((1 : Int32)).toUInt32 &&& Int32.toUInt32 31)).toInt32 &&& (1431655765 : Int32)))).toUInt32 >>> (((2 : Int32)).toUInt32 &&& Int32.toUInt32 31)).toInt32 &&& (858993459 : Int32))) + (((((x0 - (((x0).toUInt32 >>> (((1 : Int32)).toUInt32 &&& Int32.toUInt32 31)).toInt32 &&& (1431655765 : Int32))) &&& (858993459 : Int32)) + ((((x0 - (((x0).toUInt32 >>> (((1 : Int32)).toUInt32 &&& Int32.toUInt32 31)).toInt32 &&& (1431655765 : Int32)))).toUInt32 >>> (((2 : Int32)).toUInt32 &&& Int32.toUInt32 31)).toInt32 &&& (858993459 : Int32)))).toUInt32 >>> (((4 : Int32)).toUInt32 &&& Int32.toUInt32 31)).toInt32) &&& (252645135 : Int32))).toUInt32 >>> (((8 : Int32)).toUInt32 &&& Int32.toUInt32 31)).toInt32))]) hx hb dJ6_bitCount_0f7a4_40 rfl hl (by decide) rfl (fun ls hl => ?_)
  refine lv_iload_n hx hb dJ6_bitCount_0f7a4_41 rfl (lv_at hl 0 rfl) ?_
  refine lv_iload_n hx hb dJ6_bitCount_0f7a4_42 rfl (lv_at hl 0 rfl) ?_
  refine lv_bipush (v := 16) hx hb dJ6_bitCount_0f7a4_43 (by decide) ?_
  refine lv_iushr hx hb dJ6_bitCount_0f7a4_45 rfl ?_
  refine lv_iadd hx hb dJ6_bitCount_0f7a4_46 ?_
  refine lv_istore_n (lv' := [(0, .int (((((((x0 - (((x0).toUInt32 >>> (((1 : Int32)).toUInt32 &&& Int32.toUInt32 31)).toInt32 &&& (1431655765 : Int32))) &&& (858993459 : Int32)) + ((((x0 - (((x0).toUInt32 >>> (((1 : Int32)).toUInt32 &&& Int32.toUInt32 31)).toInt32 &&& (1431655765 : Int32)))).toUInt32 >>> (((2 : Int32)).toUInt32 &&& Int32.toUInt32 31)).toInt32 &&& (858993459 : Int32))) + (((((x0 - (((x0).toUInt32 >>> (((1 : Int32)).toUInt32 &&& Int32.toUInt32 31)).toInt32 &&& (1431655765 : Int32))) &&& (858993459 : Int32)) + ((((x0 - (((x0).toUInt32 >>> (((1 : Int32)).toUInt32 &&& Int32.toUInt32 31)).toInt32 &&& (1431655765 : Int32)))).toUInt32 >>> (((2 : Int32)).toUInt32 &&& Int32.toUInt32 31)).toInt32 &&& (858993459 : Int32)))).toUInt32 >>> (((4 : Int32)).toUInt32 &&& Int32.toUInt32 31)).toInt32) &&& (252645135 : Int32)) + (((((((x0 - (((x0).toUInt32 >>> (((1 : Int32)).toUInt32 &&& Int32.toUInt32 31)).toInt32 &&& (1431655765 : Int32))) &&& (858993459 : Int32)) + ((((x0 - (((x0).toUInt32 >>> (((1 : Int32)).toUInt32 &&& Int32.toUInt32 31)).toInt32 &&& (1431655765 : Int32)))).toUInt32 >>> (((2 : Int32)).toUInt32 &&& Int32.toUInt32 31)).toInt32 &&& (858993459 : Int32))) + (((((x0 - (((x0).toUInt32 >>> (((1 : Int32)).toUInt32 &&& Int32.toUInt32 31)).toInt32 &&& (1431655765 : Int32))) &&& (858993459 : Int32)) + ((((x0 - (((x0).toUInt32 >>> (((1 : Int32)).toUInt32 &&& Int32.toUInt32 31)).toInt32 &&& (1431655765 : Int32)))).toUInt32 >>> (((2 : Int32)).toUInt32 &&& Int32.toUInt32 31)).toInt32 &&& (858993459 : Int32)))).toUInt32 >>> (((4 : Int32)).toUInt32 &&& Int32.toUInt32 31)).toInt32) &&& (252645135 : Int32))).toUInt32 >>> (((8 : Int32)).toUInt32 &&& Int32.toUInt32 31)).toInt32) + ((((((((x0 - (((x0).toUInt32 >>> (((1 : Int32)).toUInt32 &&& Int32.toUInt32 31)).toInt32 &&& (1431655765 : Int32))) &&& (858993459 : Int32)) + ((((x0 - (((x0).toUInt32 >>> (((1 : Int32)).toUInt32 &&& Int32.toUInt32 31)).toInt32 &&& (1431655765 : Int32)))).toUInt32 >>> (((2 : Int32)).toUInt32 &&& Int32.toUInt32 31)).toInt32 &&& (858993459 : Int32))) + (((((x0 - (((x0).toUInt32 >>> (((1 : Int32)).toUInt32 &&& Int32.toUInt32 31)).toInt32 &&& (1431655765 : Int32))) &&& (858993459 : Int32)) + ((((x0 - (((x0).toUInt32 >>> (((1 : Int32)).toUInt32 &&& Int32.toUInt32 31)).toInt32 &&& (1431655765 : Int32)))).toUInt32 >>> (((2 : Int32)).toUInt32 &&& Int32.toUInt32 31)).toInt32 &&& (858993459 : Int32)))).toUInt32 >>> (((4 : Int32)).toUInt32 &&& Int32.toUInt32 31)).toInt32) &&& (252645135 : Int32)) + (((((((x0 - (((x0).toUInt32 >>> (((1 : Int32)).toUInt32 &&& Int32.toUInt32 31)).toInt32 &&& (1431655765 : Int32))) &&& (858993459 : Int32)) + ((((x0 - (((x0).toUInt32 >>> (((1 : Int32)).toUInt32 &&& Int32.toUInt32 31)).toInt32 &&& (1431655765 : Int32)))).toUInt32 >>> (((2 : Int32)).toUInt32 &&& Int32.toUInt32 31)).toInt32 &&& (858993459 : Int32))) + (((((x0 - (((x0).toUInt32 >>> (((1 : Int32)).toUInt32 &&& Int32.toUInt32 31)).toInt32 &&& (1431655765 : Int32))) &&& (858993459 : Int32)) + ((((x0 - (((x0).toUInt32 >>> (((1 : Int32)).toUInt32 &&& Int32.toUInt32 31)).toInt32 &&& (1431655765 : Int32)))).toUInt32 >>> (((2 : Int32)).toUInt32 &&& Int32.toUInt32 31)).toInt32 &&& (858993459 : Int32)))).toUInt32 >>> (((4 : Int32)).toUInt32 &&& Int32.toUInt32 31)).toInt32) &&& (252645135 : Int32))).toUInt32 >>> (((8 : Int32)).toUInt32 &&& Int32.toUInt32 31)).toInt32)).toUInt32 >>> (((16 : Int32)).toUInt32 &&& Int32.toUInt32 31)).toInt32))]) hx hb dJ6_bitCount_0f7a4_47 rfl hl (by decide) rfl (fun ls hl => ?_)
  refine lv_iload_n hx hb dJ6_bitCount_0f7a4_48 rfl (lv_at hl 0 rfl) ?_
  refine lv_bipush (v := 63) hx hb dJ6_bitCount_0f7a4_49 (by decide) ?_
  refine lv_iand hx hb dJ6_bitCount_0f7a4_51 ?_
  exact k_iretP X I hr hlocks dJ6_bitCount_0f7a4_52 hf
/-! LostTent$Tent.claimerToShow(II)I -/
abbrev rm_X3_claimerToShow : Room := { frames := 4, cells := 0, slots := 0, locals := 92 }
def f_X3_claimerToShow_b72 (k14 : Int32 → Int32 → Int32 → Int32 → Int32 → xM → Option Int32) (x1 : Int32) (x2 : Int32) (x3 : Int32) (x4 : Int32) (x5 : Int32) (M : xM) : Option Int32 :=
  k14 x1 x2 x3 x4 (x5 + 1) M
def f_X3_claimerToShow_b65 (k14 : Int32 → Int32 → Int32 → Int32 → Int32 → xM → Option Int32) (x1 : Int32) (x2 : Int32) (x5 : Int32) (x7 : Int32) (M : xM) : Option Int32 :=
  f_X3_claimerToShow_b72 k14 x1 x2 x5 x7 x5 M
def f_X3_claimerToShow_l14 : Nat → Int32 → Int32 → Int32 → Int32 → Int32 → xM → Option Int32
  | 0, _, _, _, _, _, _ => none
  | n14 + 1, x1, x2, x3, x4, x5, M =>
    if (M.1 3) ≤ x5 then
      some x3
    else
      (f_X3_yearsFitting x1 x5 M).bind fun r3 =>
      (f_J6_bitCount_0f7a4 (x2 &&& r3)).bind fun r4 =>
      (f_J6_bitCount_0f7a4 (x2 &&& (r3 ^^^ (-1 : Int32)))).bind fun r5 =>
      if x3 = (-1 : Int32) then
        f_X3_claimerToShow_b65 (f_X3_claimerToShow_l14 n14) x1 x2 x5 (if r4 < r5 then r5 else r4) M
      else
        if x4 ≤ (if r4 < r5 then r5 else r4) then
          f_X3_claimerToShow_b72 (f_X3_claimerToShow_l14 n14) x1 x2 x3 x4 x5 M
        else
          f_X3_claimerToShow_b65 (f_X3_claimerToShow_l14 n14) x1 x2 x5 (if r4 < r5 then r5 else r4) M
def f_X3_claimerToShow (x1 : Int32) (x2 : Int32) (M : xM) : Option Int32 :=
  if x2 = 0 then
    some (-1 : Int32)
  else
    f_X3_claimerToShow_l14 xN x1 x2 (-1 : Int32) (0 : Int32) (0 : Int32) M
set_option maxRecDepth 100000 in
set_option maxHeartbeats 8000000 in
theorem c_X3_claimerToShow {l : Launch} {D : va_G} {aI : ClassId} {q t : Nat → Nat} {x1 : Int32} {x2 : Int32} {M : xM} {r : Int32} (hf : f_X3_claimerToShow x1 x2 M = some r) : kM l yX3_claimerToShow (wk yX3_claimerToShow cX3_claimerToShow 8 (some .int)) rm_X3_claimerToShow (cw q aI) D aI t [.ref (q 3), .int x1, .int x2] M (some (.int r)) M := by
  refine kM_of (by decide) (Nat.le_of_ble_eq_true rfl) ?_
  intro p e s m args below meth c A ls X hr hlocks hl I
  have hx := X.1
  have hb := X.2.1
  have hl : lv_has ls 8 [(0, .ref (q 3)), (1, .int x1), (2, .int x2)] := hl
  have B72 : ∀ (k14 : Int32 → Int32 → Int32 → Int32 → Int32 → xM → Option Int32), (∀ (x1 : Int32) (x2 : Int32) (x3 : Int32) (x4 : Int32) (x5 : Int32) (H : Heap) (locs : List Loc) (ls : Array Slot), k14 x1 x2 x3 x4 x5 M = some r → kI (cw q aI) D A s M H locs → lv_has ls 8 [(0, .ref (q 3)), (1, .int x1), (2, .int x2), (3, .int x3), (4, .int x4), (5, .int x5)] → W p l e rm_X3_claimerToShow s m args below meth c H locs 0 0 (MQ below (kQ (cw q aI) D A (some (.int r)) M) args s 0 0 A) (F0 m 14 ls [])) → ∀ (x1 : Int32) (x2 : Int32) (x3 : Int32) (x4 : Int32) (x5 : Int32) (H : Heap) (locs : List Loc) (ls : Array Slot), f_X3_claimerToShow_b72 k14 x1 x2 x3 x4 x5 M = some r → kI (cw q aI) D A s M H locs → lv_has ls 8 [(0, .ref (q 3)), (1, .int x1), (2, .int x2), (3, .int x3), (4, .int x4), (5, .int x5)] → W p l e rm_X3_claimerToShow s m args below meth c H locs 0 0 (MQ below (kQ (cw q aI) D A (some (.int r)) M) args s 0 0 A) (F0 m 72 ls []) := by
    intro k14 hk14 x1 x2 x3 x4 x5 H locs ls hf I hl
    rw [f_X3_claimerToShow_b72] at hf
    refine lv_iinc (v := (x5 + 1)) (lv' := [(5, .int (x5 + 1)), (0, .ref (q 3)), (1, .int x1), (2, .int x2), (3, .int x3), (4, .int x4)]) hx hb dX3_claimerToShow_72 hl (k := 5) rfl rfl (by decide) rfl (fun ls hl => ?_)
    refine lv_goto (tgt := 14) hx hb dX3_claimerToShow_75 (by decide) ?_
    exact hk14 x1 x2 x3 x4 (x5 + 1) _ _ ls hf I (lv_sub hl [1, 2, 3, 4, 5, 0] rfl)
  have B65 : ∀ (k14 : Int32 → Int32 → Int32 → Int32 → Int32 → xM → Option Int32), (∀ (x1 : Int32) (x2 : Int32) (x3 : Int32) (x4 : Int32) (x5 : Int32) (H : Heap) (locs : List Loc) (ls : Array Slot), k14 x1 x2 x3 x4 x5 M = some r → kI (cw q aI) D A s M H locs → lv_has ls 8 [(0, .ref (q 3)), (1, .int x1), (2, .int x2), (3, .int x3), (4, .int x4), (5, .int x5)] → W p l e rm_X3_claimerToShow s m args below meth c H locs 0 0 (MQ below (kQ (cw q aI) D A (some (.int r)) M) args s 0 0 A) (F0 m 14 ls [])) → ∀ (x1 : Int32) (x2 : Int32) (x5 : Int32) (x7 : Int32) (H : Heap) (locs : List Loc) (ls : Array Slot), f_X3_claimerToShow_b65 k14 x1 x2 x5 x7 M = some r → kI (cw q aI) D A s M H locs → lv_has ls 8 [(0, .ref (q 3)), (1, .int x1), (2, .int x2), (5, .int x5), (7, .int x7)] → W p l e rm_X3_claimerToShow s m args below meth c H locs 0 0 (MQ below (kQ (cw q aI) D A (some (.int r)) M) args s 0 0 A) (F0 m 65 ls []) := by
    intro k14 hk14 x1 x2 x5 x7 H locs ls hf I hl
    rw [f_X3_claimerToShow_b65] at hf
    refine lv_iload hx hb dX3_claimerToShow_65 (lv_at hl 3 rfl) ?_
    refine lv_istore_n (lv' := [(3, .int x5), (0, .ref (q 3)), (1, .int x1), (2, .int x2), (5, .int x5), (7, .int x7)]) hx hb dX3_claimerToShow_67 rfl hl (by decide) rfl (fun ls hl => ?_)
    refine lv_iload hx hb dX3_claimerToShow_68 (lv_at hl 5 rfl) ?_
    refine lv_istore (lv' := [(4, .int x7), (3, .int x5), (0, .ref (q 3)), (1, .int x1), (2, .int x2), (5, .int x5), (7, .int x7)]) hx hb dX3_claimerToShow_70 hl (by decide) rfl (fun ls hl => ?_)
    exact B72 k14 hk14 x1 x2 x5 x7 x5 _ _ ls hf I (lv_sub hl [2, 3, 4, 1, 0, 5] rfl)
  have B14 : ∀ (n14 : Nat), ∀ (x1 : Int32) (x2 : Int32) (x3 : Int32) (x4 : Int32) (x5 : Int32) (H : Heap) (locs : List Loc) (ls : Array Slot), f_X3_claimerToShow_l14 n14 x1 x2 x3 x4 x5 M = some r → kI (cw q aI) D A s M H locs → lv_has ls 8 [(0, .ref (q 3)), (1, .int x1), (2, .int x2), (3, .int x3), (4, .int x4), (5, .int x5)] → W p l e rm_X3_claimerToShow s m args below meth c H locs 0 0 (MQ below (kQ (cw q aI) D A (some (.int r)) M) args s 0 0 A) (F0 m 14 ls []) := by
    intro n14
    induction n14 with
    | zero =>
      intro x1 x2 x3 x4 x5 H locs ls hf I hl
      rw [f_X3_claimerToShow_l14] at hf
      cases hf
    | succ n14 ih14 =>
      intro x1 x2 x3 x4 x5 H locs ls hf I hl
      rw [f_X3_claimerToShow_l14] at hf
      refine lv_iload hx hb dX3_claimerToShow_14 (lv_at hl 5 rfl) ?_
      refine lv_aload_n hx hb dX3_claimerToShow_16 rfl (lv_at hl 0 rfl) ?_
      refine k_get (T := TX3) (N := 7) X I inU3 3 cwG_3 rfl 5 (by decide) uw_1_93 rfl rfl dX3_claimerToShow_17 ?_
      refine lv_icmp_ge (tgt := 78) hx hb dX3_claimerToShow_20 (by decide) (fun c2 => ?_) (fun c2 => ?_)
      · rw [if_pos c2] at hf
        refine lv_iload_n hx hb dX3_claimerToShow_78 rfl (lv_at hl 3 rfl) ?_
        exact k_iretP X I hr hlocks dX3_claimerToShow_79 hf
      · rw [if_neg c2] at hf
        refine lv_aload_n hx hb dX3_claimerToShow_23 rfl (lv_at hl 0 rfl) ?_
        refine lv_iload_n hx hb dX3_claimerToShow_24 rfl (lv_at hl 1 rfl) ?_
        refine lv_iload hx hb dX3_claimerToShow_25 (lv_at hl 5 rfl) ?_
        obtain ⟨r3, h_r3, hf⟩ := k_bind hf
        refine k_callV (n := 2) (As := [.int x1, .int x5]) (rest := []) X I (c_X3_yearsFitting h_r3) uw_2_186 uw_2_188 us_3 uw_1_3 uw_2_189 ⟨rfl, rfl⟩ (by decide +kernel) rfl ⟨Nat.le_of_ble_eq_true rfl, Nat.le_of_ble_eq_true rfl⟩ ⟨Nat.le_of_ble_eq_true rfl, Nat.le_of_ble_eq_true rfl⟩ 3 cwG_3 rfl hl.1 rfl (Nat.le_of_ble_eq_true rfl) dX3_claimerToShow_27 (st1 := [.int r3]) rfl (fun H locs I => ?_)
        refine lv_istore (lv' := [(6, .int r3), (0, .ref (q 3)), (1, .int x1), (2, .int x2), (3, .int x3), (4, .int x4), (5, .int x5)]) hx hb dX3_claimerToShow_30 hl (by decide) rfl (fun ls hl => ?_)
        refine lv_iload_n hx hb dX3_claimerToShow_32 rfl (lv_at hl 3 rfl) ?_
        refine lv_iload hx hb dX3_claimerToShow_33 (lv_at hl 0 rfl) ?_
        refine lv_iand hx hb dX3_claimerToShow_35 ?_
        obtain ⟨r4, h_r4, hf⟩ := k_bind hf
        refine k_callS (n := 1) (As := [.int (x2 &&& r3)]) (rest := []) X I (c_J6_bitCount_0f7a4 h_r4) uw_2_198 uw_2_199 uw_1_14 uw_2_200 ⟨rfl, rfl⟩ (by decide +kernel) rfl ⟨Nat.le_of_ble_eq_true rfl, Nat.le_of_ble_eq_true rfl⟩ ⟨Nat.le_of_ble_eq_true rfl, Nat.le_of_ble_eq_true rfl⟩ hl.1 rfl (Nat.le_of_ble_eq_true rfl) dX3_claimerToShow_36 (st1 := [.int r4]) rfl (fun H locs I => ?_)
        refine lv_iload_n hx hb dX3_claimerToShow_39 rfl (lv_at hl 3 rfl) ?_
        refine lv_iload hx hb dX3_claimerToShow_40 (lv_at hl 0 rfl) ?_
        refine lv_iconst (v := (-1)) hx hb dX3_claimerToShow_42 (by decide) ?_
        refine lv_ixor hx hb dX3_claimerToShow_43 ?_
        refine lv_iand hx hb dX3_claimerToShow_44 ?_
        obtain ⟨r5, h_r5, hf⟩ := k_bind hf
        refine k_callS (n := 1) (As := [.int (x2 &&& (r3 ^^^ (-1 : Int32)))]) (rest := [.int r4]) X I (c_J6_bitCount_0f7a4 h_r5) uw_2_198 uw_2_199 uw_1_14 uw_2_200 ⟨rfl, rfl⟩ (by decide +kernel) rfl ⟨Nat.le_of_ble_eq_true rfl, Nat.le_of_ble_eq_true rfl⟩ ⟨Nat.le_of_ble_eq_true rfl, Nat.le_of_ble_eq_true rfl⟩ hl.1 rfl (Nat.le_of_ble_eq_true rfl) dX3_claimerToShow_45 (st1 := [.int r5, .int r4]) rfl (fun H locs I => ?_)
        refine k_mmax (rest := []) X hl.1 uw_2_204 ⟨Nat.le_of_ble_eq_true rfl, Nat.le_of_ble_eq_true rfl⟩ (Nat.le_of_ble_eq_true rfl) ⟨Nat.le_of_ble_eq_true rfl, Nat.le_of_ble_eq_true rfl⟩ dX3_claimerToShow_48 ?_
        refine lv_istore (lv' := [(7, .int (if r4 < r5 then r5 else r4)), (6, .int r3), (0, .ref (q 3)), (1, .int x1), (2, .int x2), (3, .int x3), (4, .int x4), (5, .int x5)]) hx hb dX3_claimerToShow_51 hl (by decide) rfl (fun ls hl => ?_)
        refine lv_iload_n hx hb dX3_claimerToShow_53 rfl (lv_at hl 5 rfl) ?_
        refine lv_iconst (v := (-1)) hx hb dX3_claimerToShow_54 (by decide) ?_
        refine lv_icmp_eq (tgt := 65) hx hb dX3_claimerToShow_55 (by decide) (fun c6 => ?_) (fun c6 => ?_)
        · rw [if_pos c6] at hf
          exact B65 (f_X3_claimerToShow_l14 n14) ih14 x1 x2 x5 (if r4 < r5 then r5 else r4) _ _ ls hf I (lv_sub hl [2, 3, 4, 7, 0] rfl)
        · rw [if_neg c6] at hf
          refine lv_iload hx hb dX3_claimerToShow_58 (lv_at hl 0 rfl) ?_
          refine lv_iload hx hb dX3_claimerToShow_60 (lv_at hl 6 rfl) ?_
          refine lv_icmp_ge (tgt := 72) hx hb dX3_claimerToShow_62 (by decide) (fun c7 => ?_) (fun c7 => ?_)
          · rw [if_pos c7] at hf
            exact B72 (f_X3_claimerToShow_l14 n14) ih14 x1 x2 x3 x4 x5 _ _ ls hf I (lv_sub hl [2, 3, 4, 5, 6, 7] rfl)
          · rw [if_neg c7] at hf
            exact B65 (f_X3_claimerToShow_l14 n14) ih14 x1 x2 x5 (if r4 < r5 then r5 else r4) _ _ ls hf I (lv_sub hl [2, 3, 4, 7, 0] rfl)
  rw [f_X3_claimerToShow] at hf
  refine lv_iload_n hx hb dX3_claimerToShow_0 rfl (lv_at hl 2 rfl) ?_
  refine lv_if_ne (tgt := 6) hx hb dX3_claimerToShow_1 (by decide) (fun c1 => ?_) (fun c1 => ?_)
  · rw [if_neg c1] at hf
    refine lv_iconst (v := (-1)) hx hb dX3_claimerToShow_6 (by decide) ?_
    refine lv_istore_n (lv' := [(3, .int (-1 : Int32)), (0, .ref (q 3)), (1, .int x1), (2, .int x2)]) hx hb dX3_claimerToShow_7 rfl hl (by decide) rfl (fun ls hl => ?_)
    refine lv_iconst (v := 0) hx hb dX3_claimerToShow_8 (by decide) ?_
    refine lv_istore (lv' := [(4, .int (0 : Int32)), (3, .int (-1 : Int32)), (0, .ref (q 3)), (1, .int x1), (2, .int x2)]) hx hb dX3_claimerToShow_9 hl (by decide) rfl (fun ls hl => ?_)
    refine lv_iconst (v := 0) hx hb dX3_claimerToShow_11 (by decide) ?_
    refine lv_istore (lv' := [(5, .int (0 : Int32)), (4, .int (0 : Int32)), (3, .int (-1 : Int32)), (0, .ref (q 3)), (1, .int x1), (2, .int x2)]) hx hb dX3_claimerToShow_12 hl (by decide) rfl (fun ls hl => ?_)
    exact B14 xN x1 x2 (-1 : Int32) (0 : Int32) (0 : Int32) _ _ ls hf I (lv_sub hl [3, 4, 5, 2, 1, 0] rfl)
  · rw [if_pos c1] at hf
    refine lv_iconst (v := (-1)) hx hb dX3_claimerToShow_4 (by decide) ?_
    exact k_iretP X I hr hlocks dX3_claimerToShow_5 hf
/-! LostTent.thing(II)I -/
abbrev rm_X5_thing : Room := { frames := 5, cells := 0, slots := 0, locals := 119 }
def f_X5_thing_b56 (x1 : Int32) (x2 : Int32) (M : xM) : Option Int32 :=
  (f_X3_signOf x1 x2 M).bind fun r4 =>
  some r4
def f_X5_thing (x1 : Int32) (x2 : Int32) (M : xM) : Option Int32 :=
  (f_X3_hasThing x1 M).bind fun r1 =>
  if r1 = 0 then
    some (-101 : Int32)
  else
    if x2 = 0 then
      f_X5_thing_b56 x1 x2 M
    else
    if x2 = 1 then
      f_X5_thing_b56 x1 x2 M
    else
    if x2 = 2 then
      f_X5_thing_b56 x1 x2 M
    else
    if x2 = 3 then
      (f_X2_holderOf x1 M).bind fun r8 =>
      some r8
    else
    if x2 = 4 then
      (f_X3_claimersFitted x1 M).bind fun r10 =>
      some r10
    else
    if x2 = 5 then
      (f_X3_yearsOf x1 M).bind fun r12 =>
      some r12
    else
    if x2 = 6 then
      (f_X3_yearsOf x1 M).bind fun r14 =>
      (f_X3_claimerToShow x1 r14 M).bind fun r15 =>
      some r15
    else
    some (-102 : Int32)
set_option maxRecDepth 100000 in
set_option maxHeartbeats 8000000 in
theorem c_X5_thing {l : Launch} {D : va_G} {aI : ClassId} {q t : Nat → Nat} {x1 : Int32} {x2 : Int32} {M : xM} {r : Int32} (hf : f_X5_thing x1 x2 M = some r) : kM l yX5_thing (wk yX5_thing cX5_thing 3 (some .int)) rm_X5_thing (cw q aI) D aI t [.ref (q 0), .int x1, .int x2] M (some (.int r)) M := by
  refine kM_of (by decide) (Nat.le_of_ble_eq_true rfl) ?_
  intro p e s m args below meth c A ls X hr hlocks hl I
  have hx := X.1
  have hb := X.2.1
  have hl : lv_has ls 3 [(0, .ref (q 0)), (1, .int x1), (2, .int x2)] := hl
  have B56 : ∀ (x1 : Int32) (x2 : Int32) (H : Heap) (locs : List Loc) (ls : Array Slot), f_X5_thing_b56 x1 x2 M = some r → kI (cw q aI) D A s M H locs → lv_has ls 3 [(0, .ref (q 0)), (1, .int x1), (2, .int x2)] → W p l e rm_X5_thing s m args below meth c H locs 0 0 (MQ below (kQ (cw q aI) D A (some (.int r)) M) args s 0 0 A) (F0 m 56 ls []) := by
    intro x1 x2 H locs ls hf I hl
    rw [f_X5_thing_b56] at hf
    refine lv_aload_n hx hb dX5_thing_56 rfl (lv_at hl 0 rfl) ?_
    refine k_get (T := TX5) (N := 5) X I inU5 0 cwG_0 rfl 1 (by decide) uw_1_149 rfl rfl dX5_thing_57 ?_
    refine lv_iload_n hx hb dX5_thing_60 rfl (lv_at hl 1 rfl) ?_
    refine lv_iload_n hx hb dX5_thing_61 rfl (lv_at hl 2 rfl) ?_
    obtain ⟨r4, h_r4, hf⟩ := k_bind hf
    refine k_callV (n := 2) (As := [.int x1, .int x2]) (rest := []) X I (c_X3_signOf h_r4) uw_2_117 uw_2_118 uw_2_119 uw_1_3 uw_2_120 ⟨rfl, rfl⟩ (by decide +kernel) rfl ⟨Nat.le_of_ble_eq_true rfl, Nat.le_of_ble_eq_true rfl⟩ ⟨Nat.le_of_ble_eq_true rfl, Nat.le_of_ble_eq_true rfl⟩ 3 cwG_3 rfl hl.1 rfl (Nat.le_of_ble_eq_true rfl) dX5_thing_62 (st1 := [.int r4]) rfl (fun H locs I => ?_)
    exact k_iretP X I hr hlocks dX5_thing_65 hf
  rw [f_X5_thing] at hf
  refine lv_aload_n hx hb dX5_thing_0 rfl (lv_at hl 0 rfl) ?_
  refine k_get (T := TX5) (N := 5) X I inU5 0 cwG_0 rfl 1 (by decide) uw_1_149 rfl rfl dX5_thing_1 ?_
  refine lv_iload_n hx hb dX5_thing_4 rfl (lv_at hl 1 rfl) ?_
  obtain ⟨r1, h_r1, hf⟩ := k_bind hf
  refine k_callV (n := 1) (As := [.int x1]) (rest := []) X I (c_X3_hasThing h_r1) uw_2_112 uw_2_113 uw_2_114 uw_1_3 uw_2_115 ⟨rfl, rfl⟩ (by decide +kernel) rfl ⟨Nat.le_of_ble_eq_true rfl, Nat.le_of_ble_eq_true rfl⟩ ⟨Nat.le_of_ble_eq_true rfl, Nat.le_of_ble_eq_true rfl⟩ 3 cwG_3 rfl hl.1 rfl (Nat.le_of_ble_eq_true rfl) dX5_thing_5 (st1 := [.int r1]) rfl (fun H locs I => ?_)
  refine lv_if_ne (tgt := 14) hx hb dX5_thing_8 (by decide) (fun c2 => ?_) (fun c2 => ?_)
  · rw [if_neg c2] at hf
    refine lv_iload_n hx hb dX5_thing_14 rfl (lv_at hl 2 rfl) ?_
    by_cases c3 : x2 = 0
    · rw [if_pos c3] at hf
      refine lv_tableIn (off := 41) (tgt := 56) hx hb dX5_thing_15 (by rw [c3]; decide) (by rw [c3]; decide) (by rw [c3]; rfl) (by decide) ?_
      exact B56 x1 x2 _ _ ls hf I (lv_sub hl [0, 1, 2] rfl)
    rw [if_neg c3] at hf
    by_cases c5 : x2 = 1
    · rw [if_pos c5] at hf
      refine lv_tableIn (off := 41) (tgt := 56) hx hb dX5_thing_15 (by rw [c5]; decide) (by rw [c5]; decide) (by rw [c5]; rfl) (by decide) ?_
      exact B56 x1 x2 _ _ ls hf I (lv_sub hl [0, 1, 2] rfl)
    rw [if_neg c5] at hf
    by_cases c6 : x2 = 2
    · rw [if_pos c6] at hf
      refine lv_tableIn (off := 41) (tgt := 56) hx hb dX5_thing_15 (by rw [c6]; decide) (by rw [c6]; decide) (by rw [c6]; rfl) (by decide) ?_
      exact B56 x1 x2 _ _ ls hf I (lv_sub hl [0, 1, 2] rfl)
    rw [if_neg c6] at hf
    by_cases c7 : x2 = 3
    · rw [if_pos c7] at hf
      refine lv_tableIn (off := 51) (tgt := 66) hx hb dX5_thing_15 (by rw [c7]; decide) (by rw [c7]; decide) (by rw [c7]; rfl) (by decide) ?_
      refine lv_aload_n hx hb dX5_thing_66 rfl (lv_at hl 0 rfl) ?_
      refine k_get (T := TX5) (N := 5) X I inU5 0 cwG_0 rfl 1 (by decide) uw_1_149 rfl rfl dX5_thing_67 ?_
      refine k_callV (n := 0) (As := []) (rest := []) X I c_X3_register uw_2_122 uw_2_123 uw_2_124 uw_1_3 uw_2_125 ⟨rfl, rfl⟩ (by decide +kernel) rfl ⟨Nat.le_of_ble_eq_true rfl, Nat.le_of_ble_eq_true rfl⟩ ⟨Nat.le_of_ble_eq_true rfl, Nat.le_of_ble_eq_true rfl⟩ 3 cwG_3 rfl hl.1 rfl (Nat.le_of_ble_eq_true rfl) dX5_thing_70 (st1 := [.ref (q 6)]) rfl (fun H locs I => ?_)
      refine lv_iload_n hx hb dX5_thing_73 rfl (lv_at hl 1 rfl) ?_
      obtain ⟨r8, h_r8, hf⟩ := k_bind hf
      refine k_callV (n := 1) (As := [.int x1]) (rest := []) X I (c_X2_holderOf h_r8) uw_2_126 uw_2_127 uw_2_128 uw_1_4 uw_2_129 ⟨rfl, rfl⟩ (by decide +kernel) rfl ⟨Nat.le_of_ble_eq_true rfl, Nat.le_of_ble_eq_true rfl⟩ ⟨Nat.le_of_ble_eq_true rfl, Nat.le_of_ble_eq_true rfl⟩ 6 cwG_6 rfl hl.1 rfl (Nat.le_of_ble_eq_true rfl) dX5_thing_74 (st1 := [.int r8]) rfl (fun H locs I => ?_)
      exact k_iretP X I hr hlocks dX5_thing_77 hf
    rw [if_neg c7] at hf
    by_cases c9 : x2 = 4
    · rw [if_pos c9] at hf
      refine lv_tableIn (off := 63) (tgt := 78) hx hb dX5_thing_15 (by rw [c9]; decide) (by rw [c9]; decide) (by rw [c9]; rfl) (by decide) ?_
      refine lv_aload_n hx hb dX5_thing_78 rfl (lv_at hl 0 rfl) ?_
      refine k_get (T := TX5) (N := 5) X I inU5 0 cwG_0 rfl 1 (by decide) uw_1_149 rfl rfl dX5_thing_79 ?_
      refine lv_iload_n hx hb dX5_thing_82 rfl (lv_at hl 1 rfl) ?_
      obtain ⟨r10, h_r10, hf⟩ := k_bind hf
      refine k_callV (n := 1) (As := [.int x1]) (rest := []) X I (c_X3_claimersFitted h_r10) uw_2_131 uw_2_132 uw_2_133 uw_1_3 uw_2_134 ⟨rfl, rfl⟩ (by decide +kernel) rfl ⟨Nat.le_of_ble_eq_true rfl, Nat.le_of_ble_eq_true rfl⟩ ⟨Nat.le_of_ble_eq_true rfl, Nat.le_of_ble_eq_true rfl⟩ 3 cwG_3 rfl hl.1 rfl (Nat.le_of_ble_eq_true rfl) dX5_thing_83 (st1 := [.int r10]) rfl (fun H locs I => ?_)
      exact k_iretP X I hr hlocks dX5_thing_86 hf
    rw [if_neg c9] at hf
    by_cases c11 : x2 = 5
    · rw [if_pos c11] at hf
      refine lv_tableIn (off := 72) (tgt := 87) hx hb dX5_thing_15 (by rw [c11]; decide) (by rw [c11]; decide) (by rw [c11]; rfl) (by decide) ?_
      refine lv_aload_n hx hb dX5_thing_87 rfl (lv_at hl 0 rfl) ?_
      refine k_get (T := TX5) (N := 5) X I inU5 0 cwG_0 rfl 1 (by decide) uw_1_149 rfl rfl dX5_thing_88 ?_
      refine lv_iload_n hx hb dX5_thing_91 rfl (lv_at hl 1 rfl) ?_
      obtain ⟨r12, h_r12, hf⟩ := k_bind hf
      refine k_callV (n := 1) (As := [.int x1]) (rest := []) X I (c_X3_yearsOf h_r12) uw_2_170 uw_2_171 uw_2_172 uw_1_3 uw_2_173 ⟨rfl, rfl⟩ (by decide +kernel) rfl ⟨Nat.le_of_ble_eq_true rfl, Nat.le_of_ble_eq_true rfl⟩ ⟨Nat.le_of_ble_eq_true rfl, Nat.le_of_ble_eq_true rfl⟩ 3 cwG_3 rfl hl.1 rfl (Nat.le_of_ble_eq_true rfl) dX5_thing_92 (st1 := [.int r12]) rfl (fun H locs I => ?_)
      exact k_iretP X I hr hlocks dX5_thing_95 hf
    rw [if_neg c11] at hf
    by_cases c13 : x2 = 6
    · rw [if_pos c13] at hf
      refine lv_tableIn (off := 81) (tgt := 96) hx hb dX5_thing_15 (by rw [c13]; decide) (by rw [c13]; decide) (by rw [c13]; rfl) (by decide) ?_
      refine lv_aload_n hx hb dX5_thing_96 rfl (lv_at hl 0 rfl) ?_
      refine k_get (T := TX5) (N := 5) X I inU5 0 cwG_0 rfl 1 (by decide) uw_1_149 rfl rfl dX5_thing_97 ?_
      refine lv_iload_n hx hb dX5_thing_100 rfl (lv_at hl 1 rfl) ?_
      refine lv_aload_n hx hb dX5_thing_101 rfl (lv_at hl 0 rfl) ?_
      refine k_get (T := TX5) (N := 5) X I inU5 0 cwG_0 rfl 1 (by decide) uw_1_149 rfl rfl dX5_thing_102 ?_
      refine lv_iload_n hx hb dX5_thing_105 rfl (lv_at hl 1 rfl) ?_
      obtain ⟨r14, h_r14, hf⟩ := k_bind hf
      refine k_callV (n := 1) (As := [.int x1]) (rest := [.int x1, .ref (q 3)]) X I (c_X3_yearsOf h_r14) uw_2_170 uw_2_171 uw_2_172 uw_1_3 uw_2_173 ⟨rfl, rfl⟩ (by decide +kernel) rfl ⟨Nat.le_of_ble_eq_true rfl, Nat.le_of_ble_eq_true rfl⟩ ⟨Nat.le_of_ble_eq_true rfl, Nat.le_of_ble_eq_true rfl⟩ 3 cwG_3 rfl hl.1 rfl (Nat.le_of_ble_eq_true rfl) dX5_thing_106 (st1 := [.int r14, .int x1, .ref (q 3)]) rfl (fun H locs I => ?_)
      obtain ⟨r15, h_r15, hf⟩ := k_bind hf
      refine k_callV (n := 2) (As := [.int x1, .int r14]) (rest := []) X I (c_X3_claimerToShow h_r15) uw_2_194 uw_2_195 uw_2_196 uw_1_3 uw_2_197 ⟨rfl, rfl⟩ (by decide +kernel) rfl ⟨Nat.le_of_ble_eq_true rfl, Nat.le_of_ble_eq_true rfl⟩ ⟨Nat.le_of_ble_eq_true rfl, Nat.le_of_ble_eq_true rfl⟩ 3 cwG_3 rfl hl.1 rfl (Nat.le_of_ble_eq_true rfl) dX5_thing_109 (st1 := [.int r15]) rfl (fun H locs I => ?_)
      exact k_iretP X I hr hlocks dX5_thing_112 hf
    rw [if_neg c13] at hf
    refine lv_tableOut (tgt := 113) hx hb dX5_thing_15 (sw_out fun k h1 h2 h3 => by
        have h4 : k = 0 ∨ k = 1 ∨ k = 2 ∨ k = 3 ∨ k = 4 ∨ k = 5 ∨ k = 6 := by omega
        rcases h4 with rfl | rfl | rfl | rfl | rfl | rfl | rfl
        · exact c3 (sw_eq h3 (by decide))
        · exact c5 (sw_eq h3 (by decide))
        · exact c6 (sw_eq h3 (by decide))
        · exact c7 (sw_eq h3 (by decide))
        · exact c9 (sw_eq h3 (by decide))
        · exact c11 (sw_eq h3 (by decide))
        · exact c13 (sw_eq h3 (by decide))) (by decide) ?_
    refine lv_bipush (v := (-102)) hx hb dX5_thing_113 (by decide) ?_
    exact k_iretP X I hr hlocks dX5_thing_115 hf
  · rw [if_pos c2] at hf
    refine lv_bipush (v := (-101)) hx hb dX5_thing_11 (by decide) ?_
    exact k_iretP X I hr hlocks dX5_thing_13 hf
/-! LostTent$Tent.hasClaimer(I)Z -/
abbrev rm_X3_hasClaimer : Room := { frames := 1, cells := 0, slots := 0, locals := 21 }
def f_X3_hasClaimer (x1 : Int32) (M : xM) : Option Int32 :=
  (f_X5_isBelow x1 (M.1 3)).bind fun r1 =>
  xbo r1
set_option maxRecDepth 100000 in
set_option maxHeartbeats 8000000 in
theorem c_X3_hasClaimer {l : Launch} {D : va_G} {aI : ClassId} {q t : Nat → Nat} {x1 : Int32} {M : xM} {r : Int32} (hf : f_X3_hasClaimer x1 M = some r) : kM l yX3_hasClaimer (wk yX3_hasClaimer cX3_hasClaimer 2 (some .boolean)) rm_X3_hasClaimer (cw q aI) D aI t [.ref (q 3), .int x1] M (some (.int r)) M := by
  refine kM_of (by decide) (Nat.le_of_ble_eq_true rfl) ?_
  intro p e s m args below meth c A ls X hr hlocks hl I
  have hx := X.1
  have hb := X.2.1
  have hl : lv_has ls 2 [(0, .ref (q 3)), (1, .int x1)] := hl
  rw [f_X3_hasClaimer] at hf
  refine lv_iload_n hx hb dX3_hasClaimer_0 rfl (lv_at hl 1 rfl) ?_
  refine lv_aload_n hx hb dX3_hasClaimer_1 rfl (lv_at hl 0 rfl) ?_
  refine k_get (T := TX3) (N := 7) X I inU3 3 cwG_3 rfl 5 (by decide) uw_1_93 rfl rfl dX3_hasClaimer_2 ?_
  obtain ⟨r1, h_r1, hf⟩ := k_bind hf
  refine k_callSN (n := 2) (As := [.int x1, .int (M.1 3)]) (rest := []) X I (c_X5_isBelow h_r1) (List.mem_of_getElem? (i := 6) rfl) uw_1_1 uw_1_209 uw_1_210 ⟨rfl, rfl⟩ (by decide +kernel) rfl ⟨Nat.le_of_ble_eq_true rfl, Nat.le_of_ble_eq_true rfl⟩ ⟨Nat.le_of_ble_eq_true rfl, Nat.le_of_ble_eq_true rfl⟩ hl.1 rfl (Nat.le_of_ble_eq_true rfl) dX3_hasClaimer_5 (st1 := [.int r1]) rfl (fun H locs I => ?_)
  exact k_zretP X I hr hlocks dX3_hasClaimer_8 hf
/-! LostTent$Register.thingOf(I)I -/
abbrev rm_X2_thingOf : Room := { frames := 1, cells := 0, slots := 0, locals := 21 }
def f_X2_thingOf_l2 : Nat → Int32 → Int32 → xM → Option Int32
  | 0, _, _, _ => none
  | n2 + 1, x1, x2, M =>
    if (5 : Int32) ≤ x2 then
      some (-1 : Int32)
    else
      if (xe 5 (M.2.2 3) x2) = x1 then
        some x2
      else
        (f_X2_thingOf_l2 n2) x1 (x2 + 1) M
def f_X2_thingOf (x1 : Int32) (M : xM) : Option Int32 :=
  f_X2_thingOf_l2 xN x1 (0 : Int32) M
set_option maxRecDepth 100000 in
set_option maxHeartbeats 8000000 in
theorem c_X2_thingOf {l : Launch} {D : va_G} {aI : ClassId} {q t : Nat → Nat} {x1 : Int32} {M : xM} {r : Int32} (hf : f_X2_thingOf x1 M = some r) : kM l yX2_thingOf (wk yX2_thingOf cX2_thingOf 3 (some .int)) rm_X2_thingOf (cw q aI) D aI t [.ref (q 6), .int x1] M (some (.int r)) M := by
  refine kM_of (by decide) (Nat.le_of_ble_eq_true rfl) ?_
  intro p e s m args below meth c A ls X hr hlocks hl I
  have hx := X.1
  have hb := X.2.1
  have hl : lv_has ls 3 [(0, .ref (q 6)), (1, .int x1)] := hl
  have B2 : ∀ (n2 : Nat), ∀ (x1 : Int32) (x2 : Int32) (H : Heap) (locs : List Loc) (ls : Array Slot), f_X2_thingOf_l2 n2 x1 x2 M = some r → kI (cw q aI) D A s M H locs → lv_has ls 3 [(0, .ref (q 6)), (1, .int x1), (2, .int x2)] → W p l e rm_X2_thingOf s m args below meth c H locs 0 0 (MQ below (kQ (cw q aI) D A (some (.int r)) M) args s 0 0 A) (F0 m 2 ls []) := by
    intro n2
    induction n2 with
    | zero =>
      intro x1 x2 H locs ls hf I hl
      rw [f_X2_thingOf_l2] at hf
      cases hf
    | succ n2 ih2 =>
      intro x1 x2 H locs ls hf I hl
      rw [f_X2_thingOf_l2] at hf
      refine lv_iload_n hx hb dX2_thingOf_2 rfl (lv_at hl 2 rfl) ?_
      refine lv_iconst (v := 5) hx hb dX2_thingOf_3 (by decide) ?_
      refine lv_icmp_ge (tgt := 27) hx hb dX2_thingOf_4 (by decide) (fun c1 => ?_) (fun c1 => ?_)
      · rw [if_pos c1] at hf
        refine lv_iconst (v := (-1)) hx hb dX2_thingOf_27 (by decide) ?_
        exact k_iretP X I hr hlocks dX2_thingOf_28 hf
      · rw [if_neg c1] at hf
        refine lv_aload_n hx hb dX2_thingOf_7 rfl (lv_at hl 0 rfl) ?_
        refine k_get (T := TX2) (N := 9) X I inU2 6 cwG_6 rfl 0 (by decide) uw_1_60 rfl rfl dX2_thingOf_8 ?_
        refine lv_iload_n hx hb dX2_thingOf_11 rfl (lv_at hl 2 rfl) ?_
        refine k_callSN (n := 2) (As := [.ref (q 7), .int x2]) (rest := []) X I (c_entry 7 cwG_7 (by decide)) (List.mem_of_getElem? (i := 8) rfl) uw_1_1 uw_1_198 uw_1_199 ⟨rfl, rfl⟩ (by decide +kernel) rfl ⟨Nat.le_of_ble_eq_true rfl, Nat.le_of_ble_eq_true rfl⟩ ⟨Nat.le_of_ble_eq_true rfl, Nat.le_of_ble_eq_true rfl⟩ hl.1 rfl (Nat.le_of_ble_eq_true rfl) dX2_thingOf_12 (st1 := [.int (xe 5 (M.2.2 3) x2)]) rfl (fun H locs I => ?_)
        refine lv_iload_n hx hb dX2_thingOf_15 rfl (lv_at hl 1 rfl) ?_
        refine lv_icmp_ne (tgt := 21) hx hb dX2_thingOf_16 (by decide) (fun c2 => ?_) (fun c2 => ?_)
        · rw [if_neg c2] at hf
          refine lv_iinc (v := (x2 + 1)) (lv' := [(2, .int (x2 + 1)), (0, .ref (q 6)), (1, .int x1)]) hx hb dX2_thingOf_21 hl (k := 2) rfl rfl (by decide) rfl (fun ls hl => ?_)
          refine lv_goto (tgt := 2) hx hb dX2_thingOf_24 (by decide) ?_
          exact ih2 x1 (x2 + 1) _ _ ls hf I (lv_sub hl [1, 2, 0] rfl)
        · rw [if_pos c2] at hf
          refine lv_iload_n hx hb dX2_thingOf_19 rfl (lv_at hl 2 rfl) ?_
          exact k_iretP X I hr hlocks dX2_thingOf_20 hf
  rw [f_X2_thingOf] at hf
  refine lv_iconst (v := 0) hx hb dX2_thingOf_0 (by decide) ?_
  refine lv_istore_n (lv' := [(2, .int (0 : Int32)), (0, .ref (q 6)), (1, .int x1)]) hx hb dX2_thingOf_1 rfl hl (by decide) rfl (fun ls hl => ?_)
  exact B2 xN x1 (0 : Int32) _ _ ls hf I (lv_sub hl [1, 2, 0] rfl)
/-! LostTent$Tent.thingsFitting(I)I -/
abbrev rm_X3_thingsFitting : Room := { frames := 4, cells := 0, slots := 0, locals := 90 }
def f_X3_thingsFitting_b27 (k4 : Int32 → Int32 → Int32 → xM → Option Int32) (x1 : Int32) (x2 : Int32) (x3 : Int32) (M : xM) : Option Int32 :=
  k4 x1 x2 (x3 + 1) M
def f_X3_thingsFitting_l4 : Nat → Int32 → Int32 → Int32 → xM → Option Int32
  | 0, _, _, _, _ => none
  | n4 + 1, x1, x2, x3, M =>
    if (M.1 2) ≤ x3 then
      some x2
    else
      (f_X3_fits x3 x1 M).bind fun r2 =>
      if r2 = 0 then
        f_X3_thingsFitting_b27 (f_X3_thingsFitting_l4 n4) x1 x2 x3 M
      else
        f_X3_thingsFitting_b27 (f_X3_thingsFitting_l4 n4) x1 (x2 ||| ((1 : Int32) <<< (x3 &&& 31))) x3 M
def f_X3_thingsFitting (x1 : Int32) (M : xM) : Option Int32 :=
  f_X3_thingsFitting_l4 xN x1 (0 : Int32) (0 : Int32) M
set_option maxRecDepth 100000 in
set_option maxHeartbeats 8000000 in
theorem c_X3_thingsFitting {l : Launch} {D : va_G} {aI : ClassId} {q t : Nat → Nat} {x1 : Int32} {M : xM} {r : Int32} (hf : f_X3_thingsFitting x1 M = some r) : kM l yX3_thingsFitting (wk yX3_thingsFitting cX3_thingsFitting 4 (some .int)) rm_X3_thingsFitting (cw q aI) D aI t [.ref (q 3), .int x1] M (some (.int r)) M := by
  refine kM_of (by decide) (Nat.le_of_ble_eq_true rfl) ?_
  intro p e s m args below meth c A ls X hr hlocks hl I
  have hx := X.1
  have hb := X.2.1
  have hl : lv_has ls 4 [(0, .ref (q 3)), (1, .int x1)] := hl
  have B27 : ∀ (k4 : Int32 → Int32 → Int32 → xM → Option Int32), (∀ (x1 : Int32) (x2 : Int32) (x3 : Int32) (H : Heap) (locs : List Loc) (ls : Array Slot), k4 x1 x2 x3 M = some r → kI (cw q aI) D A s M H locs → lv_has ls 4 [(0, .ref (q 3)), (1, .int x1), (2, .int x2), (3, .int x3)] → W p l e rm_X3_thingsFitting s m args below meth c H locs 0 0 (MQ below (kQ (cw q aI) D A (some (.int r)) M) args s 0 0 A) (F0 m 4 ls [])) → ∀ (x1 : Int32) (x2 : Int32) (x3 : Int32) (H : Heap) (locs : List Loc) (ls : Array Slot), f_X3_thingsFitting_b27 k4 x1 x2 x3 M = some r → kI (cw q aI) D A s M H locs → lv_has ls 4 [(0, .ref (q 3)), (1, .int x1), (2, .int x2), (3, .int x3)] → W p l e rm_X3_thingsFitting s m args below meth c H locs 0 0 (MQ below (kQ (cw q aI) D A (some (.int r)) M) args s 0 0 A) (F0 m 27 ls []) := by
    intro k4 hk4 x1 x2 x3 H locs ls hf I hl
    rw [f_X3_thingsFitting_b27] at hf
    refine lv_iinc (v := (x3 + 1)) (lv' := [(3, .int (x3 + 1)), (0, .ref (q 3)), (1, .int x1), (2, .int x2)]) hx hb dX3_thingsFitting_27 hl (k := 3) rfl rfl (by decide) rfl (fun ls hl => ?_)
    refine lv_goto (tgt := 4) hx hb dX3_thingsFitting_30 (by decide) ?_
    exact hk4 x1 x2 (x3 + 1) _ _ ls hf I (lv_sub hl [1, 2, 3, 0] rfl)
  have B4 : ∀ (n4 : Nat), ∀ (x1 : Int32) (x2 : Int32) (x3 : Int32) (H : Heap) (locs : List Loc) (ls : Array Slot), f_X3_thingsFitting_l4 n4 x1 x2 x3 M = some r → kI (cw q aI) D A s M H locs → lv_has ls 4 [(0, .ref (q 3)), (1, .int x1), (2, .int x2), (3, .int x3)] → W p l e rm_X3_thingsFitting s m args below meth c H locs 0 0 (MQ below (kQ (cw q aI) D A (some (.int r)) M) args s 0 0 A) (F0 m 4 ls []) := by
    intro n4
    induction n4 with
    | zero =>
      intro x1 x2 x3 H locs ls hf I hl
      rw [f_X3_thingsFitting_l4] at hf
      cases hf
    | succ n4 ih4 =>
      intro x1 x2 x3 H locs ls hf I hl
      rw [f_X3_thingsFitting_l4] at hf
      refine lv_iload_n hx hb dX3_thingsFitting_4 rfl (lv_at hl 3 rfl) ?_
      refine lv_aload_n hx hb dX3_thingsFitting_5 rfl (lv_at hl 0 rfl) ?_
      refine k_get (T := TX3) (N := 7) X I inU3 3 cwG_3 rfl 4 (by decide) uw_1_92 rfl rfl dX3_thingsFitting_6 ?_
      refine lv_icmp_ge (tgt := 33) hx hb dX3_thingsFitting_9 (by decide) (fun c1 => ?_) (fun c1 => ?_)
      · rw [if_pos c1] at hf
        refine lv_iload_n hx hb dX3_thingsFitting_33 rfl (lv_at hl 2 rfl) ?_
        exact k_iretP X I hr hlocks dX3_thingsFitting_34 hf
      · rw [if_neg c1] at hf
        refine lv_aload_n hx hb dX3_thingsFitting_12 rfl (lv_at hl 0 rfl) ?_
        refine lv_iload_n hx hb dX3_thingsFitting_13 rfl (lv_at hl 3 rfl) ?_
        refine lv_iload_n hx hb dX3_thingsFitting_14 rfl (lv_at hl 1 rfl) ?_
        obtain ⟨r2, h_r2, hf⟩ := k_bind hf
        refine k_callV (n := 2) (As := [.int x3, .int x1]) (rest := []) X I (c_X3_fits h_r2) uw_2_135 uw_2_136 uw_2_137 uw_1_3 uw_2_138 ⟨rfl, rfl⟩ (by decide +kernel) rfl ⟨Nat.le_of_ble_eq_true rfl, Nat.le_of_ble_eq_true rfl⟩ ⟨Nat.le_of_ble_eq_true rfl, Nat.le_of_ble_eq_true rfl⟩ 3 cwG_3 rfl hl.1 rfl (Nat.le_of_ble_eq_true rfl) dX3_thingsFitting_15 (st1 := [.int r2]) rfl (fun H locs I => ?_)
        refine lv_if_eq (tgt := 27) hx hb dX3_thingsFitting_18 (by decide) (fun c3 => ?_) (fun c3 => ?_)
        · rw [if_pos c3] at hf
          exact B27 (f_X3_thingsFitting_l4 n4) ih4 x1 x2 x3 _ _ ls hf I (lv_sub hl [0, 1, 2, 3] rfl)
        · rw [if_neg c3] at hf
          refine lv_iload_n hx hb dX3_thingsFitting_21 rfl (lv_at hl 2 rfl) ?_
          refine lv_iconst (v := 1) hx hb dX3_thingsFitting_22 (by decide) ?_
          refine lv_iload_n hx hb dX3_thingsFitting_23 rfl (lv_at hl 3 rfl) ?_
          refine lv_ishl hx hb dX3_thingsFitting_24 ?_
          refine lv_ior hx hb dX3_thingsFitting_25 ?_
          refine lv_istore_n (lv' := [(2, .int (x2 ||| ((1 : Int32) <<< (x3 &&& 31)))), (0, .ref (q 3)), (1, .int x1), (3, .int x3)]) hx hb dX3_thingsFitting_26 rfl hl (by decide) rfl (fun ls hl => ?_)
          exact B27 (f_X3_thingsFitting_l4 n4) ih4 x1 (x2 ||| ((1 : Int32) <<< (x3 &&& 31))) x3 _ _ ls hf I (lv_sub hl [1, 2, 0, 3] rfl)
  rw [f_X3_thingsFitting] at hf
  refine lv_iconst (v := 0) hx hb dX3_thingsFitting_0 (by decide) ?_
  refine lv_istore_n (lv' := [(2, .int (0 : Int32)), (0, .ref (q 3)), (1, .int x1)]) hx hb dX3_thingsFitting_1 rfl hl (by decide) rfl (fun ls hl => ?_)
  refine lv_iconst (v := 0) hx hb dX3_thingsFitting_2 (by decide) ?_
  refine lv_istore_n (lv' := [(3, .int (0 : Int32)), (2, .int (0 : Int32)), (0, .ref (q 3)), (1, .int x1)]) hx hb dX3_thingsFitting_3 rfl hl (by decide) rfl (fun ls hl => ?_)
  exact B4 xN x1 (0 : Int32) (0 : Int32) _ _ ls hf I (lv_sub hl [2, 3, 1, 0] rfl)
