/-! LostTentModel.forget()I -/
abbrev rm_X6_forget : Room := { frames := 0, cells := 0, slots := 0, locals := 0 }
def f_X6_forget (M : xM) : Option (Int32 × xM) :=
  nmM (xI M 8 (0 : Int32)) fun M1 =>
  some ((M.1 8), M1)
set_option maxRecDepth 100000 in
set_option maxHeartbeats 8000000 in
theorem c_X6_forget {l : Launch} {D : va_G} {aI : ClassId} {q t : Nat → Nat} {M : xM} {r : Int32} {Mr : xM} (hf : f_X6_forget M = some (r, Mr)) : kM l yX6_forget (wk yX6_forget cX6_forget 2 (some .int)) rm_X6_forget (dw q aI) D aI t [.ref (q 0)] M (some (.int r)) Mr := by
  refine kM_of (by decide) (Nat.le_of_ble_eq_true rfl) ?_
  intro p e s m args below meth c A ls X hr hlocks hl I
  have hx := X.1
  have hb := X.2.1
  have hl : lv_has ls 2 [(0, .ref (q 0))] := hl
  rw [f_X6_forget] at hf
  refine lv_aload_n hx hb dX6_forget_0 rfl (lv_at hl 0 rfl) ?_
  refine k_get (T := TX6) (N := 27) X I inU6 0 dwG_0 rfl 14 (by decide) uw_4_13 rfl rfl dX6_forget_1 ?_
  refine lv_istore_n (lv' := [(1, .int (M.1 8)), (0, .ref (q 0))]) hx hb dX6_forget_4 rfl hl (by decide) rfl (fun ls hl => ?_)
  refine lv_aload_n hx hb dX6_forget_5 rfl (lv_at hl 1 rfl) ?_
  refine lv_iconst (v := 0) hx hb dX6_forget_6 (by decide) ?_
  obtain ⟨M1, e_M1, hf⟩ := k_nm hf
  refine k_put (T := TX6) (N := 27) (M1 := M1) X I inU6 tyX6 tyX6_ok nmX6 0 dwG_0 rfl 14 (by decide) uw_4_13 rfl rfl (tyX6_ok 14 (by decide)) rfl rfl (Nat.le_of_ble_eq_true rfl) dX6_forget_7 (dwI_8.trans (congrArg (dw q aI) e_M1)) (fun H locs I => ?_)
  refine lv_iload_n hx hb dX6_forget_10 rfl (lv_at hl 0 rfl) ?_
  exact k_iret X I hr hlocks dX6_forget_11 hf
/-! LostTentModel.draw(I)I -/
abbrev rm_X6_draw : Room := { frames := 0, cells := 0, slots := 0, locals := 0 }
def f_X6_draw (x1 : Int32) (M : xM) : Option (Int32 × xM) :=
  nmM (xI M 9 (((((1103515245 : Int64) * (M.1 9).toInt64) + (12345 : Int64)) &&& (2147483647 : Int64)).toInt32)) fun M1 =>
  (xrm ((M1.1 9) / (65536 : Int32)) x1).bind fun r2 =>
  some (r2, M1)
set_option maxRecDepth 100000 in
set_option maxHeartbeats 8000000 in
theorem c_X6_draw {l : Launch} {D : va_G} {aI : ClassId} {q t : Nat → Nat} {x1 : Int32} {M : xM} {r : Int32} {Mr : xM} (hf : f_X6_draw x1 M = some (r, Mr)) : kM l yX6_draw (wk yX6_draw cX6_draw 2 (some .int)) rm_X6_draw (dw q aI) D aI t [.ref (q 0), .int x1] M (some (.int r)) Mr := by
  refine kM_of (by decide) (Nat.le_of_ble_eq_true rfl) ?_
  intro p e s m args below meth c A ls X hr hlocks hl I
  have hx := X.1
  have hb := X.2.1
  have hl : lv_has ls 2 [(0, .ref (q 0)), (1, .int x1)] := hl
  rw [f_X6_draw] at hf
  refine lv_aload_n hx hb dX6_draw_0 rfl (lv_at hl 0 rfl) ?_
  refine lv_ldc2 (v := 1103515245) hx hb X.2.2.2.1 (X.2.2.2.2.1 _ uw_5_3) dX6_draw_1 ?_
  refine lv_aload_n hx hb dX6_draw_4 rfl (lv_at hl 0 rfl) ?_
  refine k_get (T := TX6) (N := 27) X I inU6 0 dwG_0 rfl 16 (by decide) uw_4_15 rfl rfl dX6_draw_5 ?_
  refine lv_i2l hx hb dX6_draw_8 rfl ?_
  refine lv_lmul hx hb dX6_draw_9 ?_
  refine lv_ldc2 (v := 12345) hx hb X.2.2.2.1 (X.2.2.2.2.1 _ uw_5_4) dX6_draw_10 ?_
  refine lv_ladd hx hb dX6_draw_13 ?_
  refine lv_ldc2 (v := 2147483647) hx hb X.2.2.2.1 (X.2.2.2.2.1 _ uw_5_5) dX6_draw_14 ?_
  refine lv_land hx hb dX6_draw_17 ?_
  refine lv_l2i hx hb dX6_draw_18 rfl ?_
  obtain ⟨M1, e_M1, hf⟩ := k_nm hf
  refine k_put (T := TX6) (N := 27) (M1 := M1) X I inU6 tyX6 tyX6_ok nmX6 0 dwG_0 rfl 16 (by decide) uw_4_15 rfl rfl (tyX6_ok 16 (by decide)) rfl rfl (Nat.le_of_ble_eq_true rfl) dX6_draw_19 (dwI_9.trans (congrArg (dw q aI) e_M1)) (fun H locs I => ?_)
  refine lv_aload_n hx hb dX6_draw_22 rfl (lv_at hl 0 rfl) ?_
  refine k_get (T := TX6) (N := 27) X I inU6 0 dwG_0 rfl 16 (by decide) uw_4_15 rfl rfl dX6_draw_23 ?_
  refine lv_ldc (v := 65536) hx hb X.2.2.2.1 (X.2.2.2.2.1 _ uw_5_6) dX6_draw_26 ?_
  refine lv_idiv hx hb dX6_draw_28 (by decide) ?_
  refine lv_iload_n hx hb dX6_draw_29 rfl (lv_at hl 1 rfl) ?_
  obtain ⟨r2, h_r2, hf⟩ := k_bind hf
  refine k_irem X h_r2 dX6_draw_30 ?_
  exact k_iret X I hr hlocks dX6_draw_31 hf
/-! LostTentModel.mondays(III)I -/
abbrev rm_X6_mondays : Room := { frames := 3, cells := 0, slots := 0, locals := 72 }
def f_X6_mondays_b178 (k66 : Int32 → Int32 → Int32 → Int32 → Int32 → xM → Option (Int32 × xM)) (k123 : Int32 → Int32 → Int32 → Int32 → Int32 → Int32 → Int32 → xM → Option (Int32 × xM)) (x1 : Int32) (x3 : Int32) (x4 : Int32) (x6 : Int32) (x7 : Int32) (x8 : Int32) (y0 : Int32) (y1 : Int32) (Mb : xM) : Option (Int32 × xM) :=
  k123 x1 x3 x4 (y1 + y0) x6 x7 (x8 + 1) Mb
def f_X6_mondays_b150 (k66 : Int32 → Int32 → Int32 → Int32 → Int32 → xM → Option (Int32 × xM)) (k123 : Int32 → Int32 → Int32 → Int32 → Int32 → Int32 → Int32 → xM → Option (Int32 × xM)) (x1 : Int32) (x3 : Int32) (x5 : Int32) (x6 : Int32) (x7 : Int32) (x8 : Int32) (y0 : Int32) (y1 : Int32) (Mb : xM) : Option (Int32 × xM) :=
  (f_X6_fits x8 x7 Mb).bind fun r20 =>
  if r20 = 0 then
    f_X6_mondays_b178 k66 k123 x1 x3 (y1 + y0) x6 x7 x8 (0 : Int32) x5 Mb
  else
    (f_X6_wrongOf x8 x7 Mb).bind fun r22 =>
    f_X6_mondays_b178 k66 k123 x1 x3 (y1 + y0) x6 x7 x8 r22 x5 Mb
def f_X6_mondays_l123 (k66 : Int32 → Int32 → Int32 → Int32 → Int32 → xM → Option (Int32 × xM)) : Nat → Int32 → Int32 → Int32 → Int32 → Int32 → Int32 → Int32 → xM → Option (Int32 × xM)
  | 0, _, _, _, _, _, _, _, _ => none
  | n123 + 1, x1, x3, x4, x5, x6, x7, x8, Mb =>
    if (Mb.1 2) ≤ x8 then
      k66 x1 x3 x4 x5 (x6 + 1) Mb
    else
      (f_X6_fits x8 x7 Mb).bind fun r18 =>
      if r18 = 0 then
        f_X6_mondays_b150 k66 (f_X6_mondays_l123 k66 n123) x1 x3 x5 x6 x7 x8 (0 : Int32) x4 Mb
      else
        f_X6_mondays_b150 k66 (f_X6_mondays_l123 k66 n123) x1 x3 x5 x6 x7 x8 (1 : Int32) x4 Mb
def f_X6_mondays_l85 (k66 : Int32 → Int32 → Int32 → Int32 → Int32 → xM → Option (Int32 × xM)) : Nat → Int32 → Int32 → Int32 → Int32 → Int32 → Int32 → Int32 → xM → Option (Int32 × xM)
  | 0, _, _, _, _, _, _, _, _ => none
  | n85 + 1, x1, x3, x4, x5, x6, x7, x8, Mb =>
    if (3 : Int32) ≤ x8 then
      f_X6_mondays_l123 k66 xN x1 x3 x4 x5 x6 x7 (0 : Int32) Mb
    else
      (f_X6_mostOf x8).bind fun r23 =>
      ob2 (f_X6_draw (r23 + (1 : Int32)) Mb) fun r24 M25 =>
      (xst 15 (M25.2.2 2) (((5 : Int32) * x7) + x8) r24).bind fun g26 =>
      nmM (xA M25 2 g26) fun M27 =>
      (f_X6_mondays_l85 k66 n85) x1 x3 x4 x5 x6 x7 (x8 + 1) M27
def f_X6_mondays_l66 : Nat → Int32 → Int32 → Int32 → Int32 → Int32 → xM → Option (Int32 × xM)
  | 0, _, _, _, _, _, _ => none
  | n66 + 1, x1, x3, x4, x5, x6, Mb =>
    if x1 ≤ x6 then
      nmM (xA Mb 2 (xc 15 15 (Mb.2.2 7) (Mb.2.2 2))) fun M11 =>
      if x3 = 0 then
        some (x4, M11)
      else
        if x3 = (1 : Int32) then
          some (x5, M11)
        else
          some ((M11.1 9), M11)
    else
      ob2 (f_X6_draw (Mb.1 3) Mb) fun r14 M15 =>
      f_X6_mondays_l85 (f_X6_mondays_l66 n66) xN x1 x3 x4 x5 x6 r14 (0 : Int32) M15
def f_X6_mondays (x1 : Int32) (x2 : Int32) (x3 : Int32) (M : xM) : Option (Int32 × xM) :=
  (f_X6_in x1.toInt64 (1 : Int64) (60 : Int64)).bind fun r1 =>
  if r1 = 0 then
    some ((-102 : Int32), M)
  else
    if x2 < 0 then
      some ((-102 : Int32), M)
    else
      (f_X6_in x3.toInt64 (0 : Int64) (2 : Int64)).bind fun r4 =>
      if r4 = 0 then
        some ((-102 : Int32), M)
      else
        (f_X6_lacks M).bind fun r6 =>
        if r6 = 0 then
          nmM (xA M 7 (xc 15 15 (M.2.2 2) (M.2.2 7))) fun M8 =>
          nmM (xI M8 9 x2) fun M9 =>
          f_X6_mondays_l66 xN x1 x3 (0 : Int32) (0 : Int32) (0 : Int32) M9
        else
          some ((-103 : Int32), M)
set_option maxRecDepth 100000 in
set_option maxHeartbeats 8000000 in
theorem c_X6_mondays {l : Launch} {D : va_G} {aI : ClassId} {q t : Nat → Nat} {x1 : Int32} {x2 : Int32} {x3 : Int32} {M : xM} {r : Int32} {Mr : xM} (hf : f_X6_mondays x1 x2 x3 M = some (r, Mr)) : kM l yX6_mondays (wk yX6_mondays cX6_mondays 9 (some .int)) rm_X6_mondays (dw q aI) D aI t [.ref (q 0), .int x1, .int x2, .int x3] M (some (.int r)) Mr := by
  refine kM_of (by decide) (Nat.le_of_ble_eq_true rfl) ?_
  intro p e s m args below meth c A ls X hr hlocks hl I
  have hx := X.1
  have hb := X.2.1
  have hl : lv_has ls 9 [(0, .ref (q 0)), (1, .int x1), (2, .int x2), (3, .int x3)] := hl
  have B178 : ∀ (k66 : Int32 → Int32 → Int32 → Int32 → Int32 → xM → Option (Int32 × xM)), (∀ (x1 : Int32) (x3 : Int32) (x4 : Int32) (x5 : Int32) (x6 : Int32) (Mb : xM) (H : Heap) (locs : List Loc) (ls : Array Slot), k66 x1 x3 x4 x5 x6 Mb = some (r, Mr) → kI (dw q aI) D A s Mb H locs → lv_has ls 9 [(0, .ref (q 0)), (1, .int x1), (3, .int x3), (4, .int x4), (5, .int x5), (6, .int x6)] → W p l e rm_X6_mondays s m args below meth c H locs 0 0 (MQ below (kQ (dw q aI) D A (some (.int r)) Mr) args s 0 0 A) (F0 m 66 ls [])) → ∀ (k123 : Int32 → Int32 → Int32 → Int32 → Int32 → Int32 → Int32 → xM → Option (Int32 × xM)), (∀ (x1 : Int32) (x3 : Int32) (x4 : Int32) (x5 : Int32) (x6 : Int32) (x7 : Int32) (x8 : Int32) (Mb : xM) (H : Heap) (locs : List Loc) (ls : Array Slot), k123 x1 x3 x4 x5 x6 x7 x8 Mb = some (r, Mr) → kI (dw q aI) D A s Mb H locs → lv_has ls 9 [(0, .ref (q 0)), (1, .int x1), (3, .int x3), (4, .int x4), (5, .int x5), (6, .int x6), (7, .int x7), (8, .int x8)] → W p l e rm_X6_mondays s m args below meth c H locs 0 0 (MQ below (kQ (dw q aI) D A (some (.int r)) Mr) args s 0 0 A) (F0 m 123 ls [])) → ∀ (x1 : Int32) (x3 : Int32) (x4 : Int32) (x6 : Int32) (x7 : Int32) (x8 : Int32) (y0 : Int32) (y1 : Int32) (Mb : xM) (H : Heap) (locs : List Loc) (ls : Array Slot), f_X6_mondays_b178 k66 k123 x1 x3 x4 x6 x7 x8 y0 y1 Mb = some (r, Mr) → kI (dw q aI) D A s Mb H locs → lv_has ls 9 [(0, .ref (q 0)), (1, .int x1), (3, .int x3), (4, .int x4), (6, .int x6), (7, .int x7), (8, .int x8)] → W p l e rm_X6_mondays s m args below meth c H locs 0 0 (MQ below (kQ (dw q aI) D A (some (.int r)) Mr) args s 0 0 A) (F0 m 178 ls [.int y0, .int y1]) := by
    intro k66 hk66 k123 hk123 x1 x3 x4 x6 x7 x8 y0 y1 Mb H locs ls hf I hl
    rw [f_X6_mondays_b178] at hf
    refine lv_iadd hx hb dX6_mondays_178 ?_
    refine lv_istore (lv' := [(5, .int (y1 + y0)), (0, .ref (q 0)), (1, .int x1), (3, .int x3), (4, .int x4), (6, .int x6), (7, .int x7), (8, .int x8)]) hx hb dX6_mondays_179 hl (by decide) rfl (fun ls hl => ?_)
    refine lv_iinc (v := (x8 + 1)) (lv' := [(8, .int (x8 + 1)), (5, .int (y1 + y0)), (0, .ref (q 0)), (1, .int x1), (3, .int x3), (4, .int x4), (6, .int x6), (7, .int x7)]) hx hb dX6_mondays_181 hl (k := 7) rfl rfl (by decide) rfl (fun ls hl => ?_)
    refine lv_goto (tgt := 123) hx hb dX6_mondays_184 (by decide) ?_
    exact hk123 x1 x3 x4 (y1 + y0) x6 x7 (x8 + 1) Mb _ _ ls hf I (lv_sub hl [2, 3, 4, 5, 1, 6, 7, 0] rfl)
  have B150 : ∀ (k66 : Int32 → Int32 → Int32 → Int32 → Int32 → xM → Option (Int32 × xM)), (∀ (x1 : Int32) (x3 : Int32) (x4 : Int32) (x5 : Int32) (x6 : Int32) (Mb : xM) (H : Heap) (locs : List Loc) (ls : Array Slot), k66 x1 x3 x4 x5 x6 Mb = some (r, Mr) → kI (dw q aI) D A s Mb H locs → lv_has ls 9 [(0, .ref (q 0)), (1, .int x1), (3, .int x3), (4, .int x4), (5, .int x5), (6, .int x6)] → W p l e rm_X6_mondays s m args below meth c H locs 0 0 (MQ below (kQ (dw q aI) D A (some (.int r)) Mr) args s 0 0 A) (F0 m 66 ls [])) → ∀ (k123 : Int32 → Int32 → Int32 → Int32 → Int32 → Int32 → Int32 → xM → Option (Int32 × xM)), (∀ (x1 : Int32) (x3 : Int32) (x4 : Int32) (x5 : Int32) (x6 : Int32) (x7 : Int32) (x8 : Int32) (Mb : xM) (H : Heap) (locs : List Loc) (ls : Array Slot), k123 x1 x3 x4 x5 x6 x7 x8 Mb = some (r, Mr) → kI (dw q aI) D A s Mb H locs → lv_has ls 9 [(0, .ref (q 0)), (1, .int x1), (3, .int x3), (4, .int x4), (5, .int x5), (6, .int x6), (7, .int x7), (8, .int x8)] → W p l e rm_X6_mondays s m args below meth c H locs 0 0 (MQ below (kQ (dw q aI) D A (some (.int r)) Mr) args s 0 0 A) (F0 m 123 ls [])) → ∀ (x1 : Int32) (x3 : Int32) (x5 : Int32) (x6 : Int32) (x7 : Int32) (x8 : Int32) (y0 : Int32) (y1 : Int32) (Mb : xM) (H : Heap) (locs : List Loc) (ls : Array Slot), f_X6_mondays_b150 k66 k123 x1 x3 x5 x6 x7 x8 y0 y1 Mb = some (r, Mr) → kI (dw q aI) D A s Mb H locs → lv_has ls 9 [(0, .ref (q 0)), (1, .int x1), (3, .int x3), (5, .int x5), (6, .int x6), (7, .int x7), (8, .int x8)] → W p l e rm_X6_mondays s m args below meth c H locs 0 0 (MQ below (kQ (dw q aI) D A (some (.int r)) Mr) args s 0 0 A) (F0 m 150 ls [.int y0, .int y1]) := by
    intro k66 hk66 k123 hk123 x1 x3 x5 x6 x7 x8 y0 y1 Mb H locs ls hf I hl
    rw [f_X6_mondays_b150] at hf
    refine lv_iadd hx hb dX6_mondays_150 ?_
    refine lv_istore (lv' := [(4, .int (y1 + y0)), (0, .ref (q 0)), (1, .int x1), (3, .int x3), (5, .int x5), (6, .int x6), (7, .int x7), (8, .int x8)]) hx hb dX6_mondays_151 hl (by decide) rfl (fun ls hl => ?_)
    refine lv_iload hx hb dX6_mondays_153 (lv_at hl 4 rfl) ?_
    refine lv_aload_n hx hb dX6_mondays_155 rfl (lv_at hl 1 rfl) ?_
    refine lv_iload hx hb dX6_mondays_156 (lv_at hl 7 rfl) ?_
    refine lv_iload hx hb dX6_mondays_158 (lv_at hl 6 rfl) ?_
    obtain ⟨r20, h_r20, hf⟩ := k_bind hf
    refine k_callV (n := 2) (As := [.int x8, .int x7]) (rest := [.int x5]) X I (c_X6_fits h_r20) uw_4_131 uw_4_133 us_18 uw_1_7 uw_4_134 ⟨rfl, rfl⟩ (by decide +kernel) rfl ⟨Nat.le_of_ble_eq_true rfl, Nat.le_of_ble_eq_true rfl⟩ ⟨Nat.le_of_ble_eq_true rfl, Nat.le_of_ble_eq_true rfl⟩ 0 dwG_0 rfl hl.1 rfl (Nat.le_of_ble_eq_true rfl) dX6_mondays_160 (st1 := [.int r20, .int x5]) rfl (fun H locs I => ?_)
    refine lv_if_eq (tgt := 177) hx hb dX6_mondays_163 (by decide) (fun c21 => ?_) (fun c21 => ?_)
    · rw [if_pos c21] at hf
      refine lv_iconst (v := 0) hx hb dX6_mondays_177 (by decide) ?_
      exact B178 k66 hk66 k123 hk123 x1 x3 (y1 + y0) x6 x7 x8 (0 : Int32) x5 Mb _ _ ls hf I (lv_sub hl [1, 2, 3, 0, 5, 6, 7] rfl)
    · rw [if_neg c21] at hf
      refine lv_aload_n hx hb dX6_mondays_166 rfl (lv_at hl 1 rfl) ?_
      refine lv_iload hx hb dX6_mondays_167 (lv_at hl 7 rfl) ?_
      refine lv_iload hx hb dX6_mondays_169 (lv_at hl 6 rfl) ?_
      obtain ⟨r22, h_r22, hf⟩ := k_bind hf
      refine k_callV (n := 2) (As := [.int x8, .int x7]) (rest := [.int x5]) X I (c_X6_wrongOf h_r22) uw_4_135 uw_4_137 us_19 uw_1_7 uw_4_138 ⟨rfl, rfl⟩ (by decide +kernel) rfl ⟨Nat.le_of_ble_eq_true rfl, Nat.le_of_ble_eq_true rfl⟩ ⟨Nat.le_of_ble_eq_true rfl, Nat.le_of_ble_eq_true rfl⟩ 0 dwG_0 rfl hl.1 rfl (Nat.le_of_ble_eq_true rfl) dX6_mondays_171 (st1 := [.int r22, .int x5]) rfl (fun H locs I => ?_)
      refine lv_goto (tgt := 178) hx hb dX6_mondays_174 (by decide) ?_
      exact B178 k66 hk66 k123 hk123 x1 x3 (y1 + y0) x6 x7 x8 r22 x5 Mb _ _ ls hf I (lv_sub hl [1, 2, 3, 0, 5, 6, 7] rfl)
  have B123 : ∀ (k66 : Int32 → Int32 → Int32 → Int32 → Int32 → xM → Option (Int32 × xM)), (∀ (x1 : Int32) (x3 : Int32) (x4 : Int32) (x5 : Int32) (x6 : Int32) (Mb : xM) (H : Heap) (locs : List Loc) (ls : Array Slot), k66 x1 x3 x4 x5 x6 Mb = some (r, Mr) → kI (dw q aI) D A s Mb H locs → lv_has ls 9 [(0, .ref (q 0)), (1, .int x1), (3, .int x3), (4, .int x4), (5, .int x5), (6, .int x6)] → W p l e rm_X6_mondays s m args below meth c H locs 0 0 (MQ below (kQ (dw q aI) D A (some (.int r)) Mr) args s 0 0 A) (F0 m 66 ls [])) → ∀ (n123 : Nat), ∀ (x1 : Int32) (x3 : Int32) (x4 : Int32) (x5 : Int32) (x6 : Int32) (x7 : Int32) (x8 : Int32) (Mb : xM) (H : Heap) (locs : List Loc) (ls : Array Slot), f_X6_mondays_l123 k66 n123 x1 x3 x4 x5 x6 x7 x8 Mb = some (r, Mr) → kI (dw q aI) D A s Mb H locs → lv_has ls 9 [(0, .ref (q 0)), (1, .int x1), (3, .int x3), (4, .int x4), (5, .int x5), (6, .int x6), (7, .int x7), (8, .int x8)] → W p l e rm_X6_mondays s m args below meth c H locs 0 0 (MQ below (kQ (dw q aI) D A (some (.int r)) Mr) args s 0 0 A) (F0 m 123 ls []) := by
    intro k66 hk66
    intro n123
    induction n123 with
    | zero =>
      intro x1 x3 x4 x5 x6 x7 x8 Mb H locs ls hf I hl
      rw [f_X6_mondays_l123] at hf
      cases hf
    | succ n123 ih123 =>
      intro x1 x3 x4 x5 x6 x7 x8 Mb H locs ls hf I hl
      rw [f_X6_mondays_l123] at hf
      refine lv_iload hx hb dX6_mondays_123 (lv_at hl 7 rfl) ?_
      refine lv_aload_n hx hb dX6_mondays_125 rfl (lv_at hl 0 rfl) ?_
      refine k_get (T := TX6) (N := 27) X I inU6 0 dwG_0 rfl 3 (by decide) uw_4_2 rfl rfl dX6_mondays_126 ?_
      refine lv_icmp_ge (tgt := 187) hx hb dX6_mondays_129 (by decide) (fun c17 => ?_) (fun c17 => ?_)
      · rw [if_pos c17] at hf
        refine lv_iinc (v := (x6 + 1)) (lv' := [(6, .int (x6 + 1)), (0, .ref (q 0)), (1, .int x1), (3, .int x3), (4, .int x4), (5, .int x5), (7, .int x7), (8, .int x8)]) hx hb dX6_mondays_187 hl (k := 5) rfl rfl (by decide) rfl (fun ls hl => ?_)
        refine lv_goto (tgt := 66) hx hb dX6_mondays_190 (by decide) ?_
        exact hk66 x1 x3 x4 x5 (x6 + 1) Mb _ _ ls hf I (lv_sub hl [1, 2, 3, 4, 5, 0] rfl)
      · rw [if_neg c17] at hf
        refine lv_iload hx hb dX6_mondays_132 (lv_at hl 3 rfl) ?_
        refine lv_aload_n hx hb dX6_mondays_134 rfl (lv_at hl 0 rfl) ?_
        refine lv_iload hx hb dX6_mondays_135 (lv_at hl 7 rfl) ?_
        refine lv_iload hx hb dX6_mondays_137 (lv_at hl 6 rfl) ?_
        obtain ⟨r18, h_r18, hf⟩ := k_bind hf
        refine k_callV (n := 2) (As := [.int x8, .int x7]) (rest := [.int x4]) X I (c_X6_fits h_r18) uw_4_131 uw_4_133 us_18 uw_1_7 uw_4_134 ⟨rfl, rfl⟩ (by decide +kernel) rfl ⟨Nat.le_of_ble_eq_true rfl, Nat.le_of_ble_eq_true rfl⟩ ⟨Nat.le_of_ble_eq_true rfl, Nat.le_of_ble_eq_true rfl⟩ 0 dwG_0 rfl hl.1 rfl (Nat.le_of_ble_eq_true rfl) dX6_mondays_139 (st1 := [.int r18, .int x4]) rfl (fun H locs I => ?_)
        refine lv_if_eq (tgt := 149) hx hb dX6_mondays_142 (by decide) (fun c19 => ?_) (fun c19 => ?_)
        · rw [if_pos c19] at hf
          refine lv_iconst (v := 0) hx hb dX6_mondays_149 (by decide) ?_
          exact B150 k66 hk66 (f_X6_mondays_l123 k66 n123) ih123 x1 x3 x5 x6 x7 x8 (0 : Int32) x4 Mb _ _ ls hf I (lv_sub hl [0, 1, 2, 4, 5, 6, 7] rfl)
        · rw [if_neg c19] at hf
          refine lv_iconst (v := 1) hx hb dX6_mondays_145 (by decide) ?_
          refine lv_goto (tgt := 150) hx hb dX6_mondays_146 (by decide) ?_
          exact B150 k66 hk66 (f_X6_mondays_l123 k66 n123) ih123 x1 x3 x5 x6 x7 x8 (1 : Int32) x4 Mb _ _ ls hf I (lv_sub hl [0, 1, 2, 4, 5, 6, 7] rfl)
  have B85 : ∀ (k66 : Int32 → Int32 → Int32 → Int32 → Int32 → xM → Option (Int32 × xM)), (∀ (x1 : Int32) (x3 : Int32) (x4 : Int32) (x5 : Int32) (x6 : Int32) (Mb : xM) (H : Heap) (locs : List Loc) (ls : Array Slot), k66 x1 x3 x4 x5 x6 Mb = some (r, Mr) → kI (dw q aI) D A s Mb H locs → lv_has ls 9 [(0, .ref (q 0)), (1, .int x1), (3, .int x3), (4, .int x4), (5, .int x5), (6, .int x6)] → W p l e rm_X6_mondays s m args below meth c H locs 0 0 (MQ below (kQ (dw q aI) D A (some (.int r)) Mr) args s 0 0 A) (F0 m 66 ls [])) → ∀ (n85 : Nat), ∀ (x1 : Int32) (x3 : Int32) (x4 : Int32) (x5 : Int32) (x6 : Int32) (x7 : Int32) (x8 : Int32) (Mb : xM) (H : Heap) (locs : List Loc) (ls : Array Slot), f_X6_mondays_l85 k66 n85 x1 x3 x4 x5 x6 x7 x8 Mb = some (r, Mr) → kI (dw q aI) D A s Mb H locs → lv_has ls 9 [(0, .ref (q 0)), (1, .int x1), (3, .int x3), (4, .int x4), (5, .int x5), (6, .int x6), (7, .int x7), (8, .int x8)] → W p l e rm_X6_mondays s m args below meth c H locs 0 0 (MQ below (kQ (dw q aI) D A (some (.int r)) Mr) args s 0 0 A) (F0 m 85 ls []) := by
    intro k66 hk66
    intro n85
    induction n85 with
    | zero =>
      intro x1 x3 x4 x5 x6 x7 x8 Mb H locs ls hf I hl
      rw [f_X6_mondays_l85] at hf
      cases hf
    | succ n85 ih85 =>
      intro x1 x3 x4 x5 x6 x7 x8 Mb H locs ls hf I hl
      rw [f_X6_mondays_l85] at hf
      refine lv_iload hx hb dX6_mondays_85 (lv_at hl 7 rfl) ?_
      refine lv_iconst (v := 3) hx hb dX6_mondays_87 (by decide) ?_
      refine lv_icmp_ge (tgt := 120) hx hb dX6_mondays_88 (by decide) (fun c16 => ?_) (fun c16 => ?_)
      · rw [if_pos c16] at hf
        refine lv_iconst (v := 0) hx hb dX6_mondays_120 (by decide) ?_
        refine lv_istore (lv' := [(8, .int (0 : Int32)), (0, .ref (q 0)), (1, .int x1), (3, .int x3), (4, .int x4), (5, .int x5), (6, .int x6), (7, .int x7)]) hx hb dX6_mondays_121 hl (by decide) rfl (fun ls hl => ?_)
        exact B123 k66 hk66 xN x1 x3 x4 x5 x6 x7 (0 : Int32) Mb _ _ ls hf I (lv_sub hl [1, 2, 3, 4, 5, 6, 7, 0] rfl)
      · rw [if_neg c16] at hf
        refine lv_aload_n hx hb dX6_mondays_91 rfl (lv_at hl 0 rfl) ?_
        refine k_get (T := TX6) (N := 27) X I inU6 0 dwG_0 rfl 10 (by decide) uw_4_9 rfl rfl dX6_mondays_92 ?_
        refine lv_iconst (v := 5) hx hb dX6_mondays_95 (by decide) ?_
        refine lv_iload hx hb dX6_mondays_96 (lv_at hl 6 rfl) ?_
        refine lv_imul hx hb dX6_mondays_98 ?_
        refine lv_iload hx hb dX6_mondays_99 (lv_at hl 7 rfl) ?_
        refine lv_iadd hx hb dX6_mondays_101 ?_
        refine lv_aload_n hx hb dX6_mondays_102 rfl (lv_at hl 0 rfl) ?_
        refine lv_iload hx hb dX6_mondays_103 (lv_at hl 7 rfl) ?_
        obtain ⟨r23, h_r23, hf⟩ := k_bind hf
        refine k_callS (n := 1) (As := [.int x8]) (rest := [.ref (q 0), .int (((5 : Int32) * x7) + x8), .ref (q 3)]) X I (c_X6_mostOf h_r23) uw_4_105 uw_4_106 uw_1_7 uw_4_107 ⟨rfl, rfl⟩ (by decide +kernel) rfl ⟨Nat.le_of_ble_eq_true rfl, Nat.le_of_ble_eq_true rfl⟩ ⟨Nat.le_of_ble_eq_true rfl, Nat.le_of_ble_eq_true rfl⟩ hl.1 rfl (Nat.le_of_ble_eq_true rfl) dX6_mondays_105 (st1 := [.int r23, .ref (q 0), .int (((5 : Int32) * x7) + x8), .ref (q 3)]) rfl (fun H locs I => ?_)
        refine lv_iconst (v := 1) hx hb dX6_mondays_108 (by decide) ?_
        refine lv_iadd hx hb dX6_mondays_109 ?_
        obtain ⟨r24, M25, h_r24, hf⟩ := k_bind2 hf
        refine k_callV (n := 1) (As := [.int (r23 + (1 : Int32))]) (rest := [.int (((5 : Int32) * x7) + x8), .ref (q 3)]) X I (c_X6_draw h_r24) uw_4_239 uw_5_1 us_32 uw_1_7 uw_5_2 ⟨rfl, rfl⟩ (by decide +kernel) rfl ⟨Nat.le_of_ble_eq_true rfl, Nat.le_of_ble_eq_true rfl⟩ ⟨Nat.le_of_ble_eq_true rfl, Nat.le_of_ble_eq_true rfl⟩ 0 dwG_0 rfl hl.1 rfl (Nat.le_of_ble_eq_true rfl) dX6_mondays_110 (st1 := [.int r24, .int (((5 : Int32) * x7) + x8), .ref (q 3)]) rfl (fun H locs I => ?_)
        obtain ⟨g26, h_g26, hf⟩ := k_bind hf
        obtain ⟨M27, e_M27, hf⟩ := k_nm hf
        refine k_ast (M1 := M27) X I h_g26 3 dwG_3 dX6_mondays_113 (dwA_2.trans (congrArg (dw q aI) e_M27)) (fun H locs I => ?_)
        refine lv_iinc (v := (x8 + 1)) (lv' := [(8, .int (x8 + 1)), (0, .ref (q 0)), (1, .int x1), (3, .int x3), (4, .int x4), (5, .int x5), (6, .int x6), (7, .int x7)]) hx hb dX6_mondays_114 hl (k := 7) rfl rfl (by decide) rfl (fun ls hl => ?_)
        refine lv_goto (tgt := 85) hx hb dX6_mondays_117 (by decide) ?_
        exact ih85 x1 x3 x4 x5 x6 x7 (x8 + 1) M27 _ _ ls hf I (lv_sub hl [1, 2, 3, 4, 5, 6, 7, 0] rfl)
  have B66 : ∀ (n66 : Nat), ∀ (x1 : Int32) (x3 : Int32) (x4 : Int32) (x5 : Int32) (x6 : Int32) (Mb : xM) (H : Heap) (locs : List Loc) (ls : Array Slot), f_X6_mondays_l66 n66 x1 x3 x4 x5 x6 Mb = some (r, Mr) → kI (dw q aI) D A s Mb H locs → lv_has ls 9 [(0, .ref (q 0)), (1, .int x1), (3, .int x3), (4, .int x4), (5, .int x5), (6, .int x6)] → W p l e rm_X6_mondays s m args below meth c H locs 0 0 (MQ below (kQ (dw q aI) D A (some (.int r)) Mr) args s 0 0 A) (F0 m 66 ls []) := by
    intro n66
    induction n66 with
    | zero =>
      intro x1 x3 x4 x5 x6 Mb H locs ls hf I hl
      rw [f_X6_mondays_l66] at hf
      cases hf
    | succ n66 ih66 =>
      intro x1 x3 x4 x5 x6 Mb H locs ls hf I hl
      rw [f_X6_mondays_l66] at hf
      refine lv_iload hx hb dX6_mondays_66 (lv_at hl 5 rfl) ?_
      refine lv_iload_n hx hb dX6_mondays_68 rfl (lv_at hl 1 rfl) ?_
      refine lv_icmp_ge (tgt := 193) hx hb dX6_mondays_69 (by decide) (fun c10 => ?_) (fun c10 => ?_)
      · rw [if_pos c10] at hf
        refine lv_aload_n hx hb dX6_mondays_193 rfl (lv_at hl 0 rfl) ?_
        refine k_get (T := TX6) (N := 27) X I inU6 0 dwG_0 rfl 17 (by decide) uw_4_16 rfl rfl dX6_mondays_194 ?_
        refine lv_aload_n hx hb dX6_mondays_197 rfl (lv_at hl 0 rfl) ?_
        refine k_get (T := TX6) (N := 27) X I inU6 0 dwG_0 rfl 10 (by decide) uw_4_9 rfl rfl dX6_mondays_198 ?_
        obtain ⟨M11, e_M11, hf⟩ := k_nm hf
        refine k_callS (n := 2) (As := [.ref (q 8), .ref (q 3)]) (rest := []) X I (d_copy 8 3 dwG_8 dwG_3 (by decide) (by decide) (by decide) (fun g => xA Mb 2 g) (fun g => dwA_2) e_M11) uw_4_223 uw_4_224 uw_1_7 uw_4_225 ⟨rfl, rfl⟩ (by decide +kernel) rfl ⟨Nat.le_of_ble_eq_true rfl, Nat.le_of_ble_eq_true rfl⟩ ⟨Nat.le_of_ble_eq_true rfl, Nat.le_of_ble_eq_true rfl⟩ hl.1 rfl (Nat.le_of_ble_eq_true rfl) dX6_mondays_201 (st1 := []) rfl (fun H locs I => ?_)
        refine lv_iload_n hx hb dX6_mondays_204 rfl (lv_at hl 2 rfl) ?_
        refine lv_if_ne (tgt := 213) hx hb dX6_mondays_205 (by decide) (fun c12 => ?_) (fun c12 => ?_)
        · rw [if_neg c12] at hf
          refine lv_iload_n hx hb dX6_mondays_213 rfl (lv_at hl 2 rfl) ?_
          refine lv_iconst (v := 1) hx hb dX6_mondays_214 (by decide) ?_
          refine lv_icmp_ne (tgt := 223) hx hb dX6_mondays_215 (by decide) (fun c13 => ?_) (fun c13 => ?_)
          · rw [if_neg c13] at hf
            refine lv_aload_n hx hb dX6_mondays_223 rfl (lv_at hl 0 rfl) ?_
            refine k_get (T := TX6) (N := 27) X I inU6 0 dwG_0 rfl 16 (by decide) uw_4_15 rfl rfl dX6_mondays_224 ?_
            exact k_iret X I hr hlocks dX6_mondays_227 hf
          · rw [if_pos c13] at hf
            refine lv_iload hx hb dX6_mondays_218 (lv_at hl 4 rfl) ?_
            refine lv_goto (tgt := 227) hx hb dX6_mondays_220 (by decide) ?_
            exact k_iret X I hr hlocks dX6_mondays_227 hf
        · rw [if_pos c12] at hf
          refine lv_iload hx hb dX6_mondays_208 (lv_at hl 3 rfl) ?_
          refine lv_goto (tgt := 227) hx hb dX6_mondays_210 (by decide) ?_
          exact k_iret X I hr hlocks dX6_mondays_227 hf
      · rw [if_neg c10] at hf
        refine lv_aload_n hx hb dX6_mondays_72 rfl (lv_at hl 0 rfl) ?_
        refine lv_aload_n hx hb dX6_mondays_73 rfl (lv_at hl 0 rfl) ?_
        refine k_get (T := TX6) (N := 27) X I inU6 0 dwG_0 rfl 4 (by decide) uw_4_3 rfl rfl dX6_mondays_74 ?_
        obtain ⟨r14, M15, h_r14, hf⟩ := k_bind2 hf
        refine k_callV (n := 1) (As := [.int (Mb.1 3)]) (rest := []) X I (c_X6_draw h_r14) uw_4_239 uw_5_1 us_32 uw_1_7 uw_5_2 ⟨rfl, rfl⟩ (by decide +kernel) rfl ⟨Nat.le_of_ble_eq_true rfl, Nat.le_of_ble_eq_true rfl⟩ ⟨Nat.le_of_ble_eq_true rfl, Nat.le_of_ble_eq_true rfl⟩ 0 dwG_0 rfl hl.1 rfl (Nat.le_of_ble_eq_true rfl) dX6_mondays_77 (st1 := [.int r14]) rfl (fun H locs I => ?_)
        refine lv_istore (lv' := [(7, .int r14), (0, .ref (q 0)), (1, .int x1), (3, .int x3), (4, .int x4), (5, .int x5), (6, .int x6)]) hx hb dX6_mondays_80 hl (by decide) rfl (fun ls hl => ?_)
        refine lv_iconst (v := 0) hx hb dX6_mondays_82 (by decide) ?_
        refine lv_istore (lv' := [(8, .int (0 : Int32)), (7, .int r14), (0, .ref (q 0)), (1, .int x1), (3, .int x3), (4, .int x4), (5, .int x5), (6, .int x6)]) hx hb dX6_mondays_83 hl (by decide) rfl (fun ls hl => ?_)
        exact B85 (f_X6_mondays_l66 n66) ih66 xN x1 x3 x4 x5 x6 r14 (0 : Int32) M15 _ _ ls hf I (lv_sub hl [2, 3, 4, 5, 6, 7, 1, 0] rfl)
  rw [f_X6_mondays] at hf
  refine lv_iload_n hx hb dX6_mondays_0 rfl (lv_at hl 1 rfl) ?_
  refine lv_i2l hx hb dX6_mondays_1 rfl ?_
  refine lv_lconst (v := 1) hx hb dX6_mondays_2 (by decide) ?_
  refine lv_ldc2 (v := 60) hx hb X.2.2.2.1 (X.2.2.2.2.1 _ uw_4_238) dX6_mondays_3 ?_
  obtain ⟨r1, h_r1, hf⟩ := k_bind hf
  refine k_callS (n := 3) (As := [.long x1.toInt64, .long (1 : Int64), .long (60 : Int64)]) (rest := []) X I (c_X6_in h_r1) uw_4_86 uw_4_87 uw_1_7 uw_4_88 ⟨rfl, rfl⟩ (by decide +kernel) rfl ⟨Nat.le_of_ble_eq_true rfl, Nat.le_of_ble_eq_true rfl⟩ ⟨Nat.le_of_ble_eq_true rfl, Nat.le_of_ble_eq_true rfl⟩ hl.1 rfl (Nat.le_of_ble_eq_true rfl) dX6_mondays_6 (st1 := [.int r1]) rfl (fun H locs I => ?_)
  refine lv_if_eq (tgt := 28) hx hb dX6_mondays_9 (by decide) (fun c2 => ?_) (fun c2 => ?_)
  · rw [if_pos c2] at hf
    refine lv_bipush (v := (-102)) hx hb dX6_mondays_28 (by decide) ?_
    exact k_iret X I hr hlocks dX6_mondays_30 hf
  · rw [if_neg c2] at hf
    refine lv_iload_n hx hb dX6_mondays_12 rfl (lv_at hl 2 rfl) ?_
    refine lv_if_lt (tgt := 28) hx hb dX6_mondays_13 (by decide) (fun c3 => ?_) (fun c3 => ?_)
    · rw [if_pos c3] at hf
      refine lv_bipush (v := (-102)) hx hb dX6_mondays_28 (by decide) ?_
      exact k_iret X I hr hlocks dX6_mondays_30 hf
    · rw [if_neg c3] at hf
      refine lv_iload_n hx hb dX6_mondays_16 rfl (lv_at hl 3 rfl) ?_
      refine lv_i2l hx hb dX6_mondays_17 rfl ?_
      refine lv_lconst (v := 0) hx hb dX6_mondays_18 (by decide) ?_
      refine lv_ldc2 (v := 2) hx hb X.2.2.2.1 (X.2.2.2.2.1 _ uw_4_196) dX6_mondays_19 ?_
      obtain ⟨r4, h_r4, hf⟩ := k_bind hf
      refine k_callS (n := 3) (As := [.long x3.toInt64, .long (0 : Int64), .long (2 : Int64)]) (rest := []) X I (c_X6_in h_r4) uw_4_86 uw_4_87 uw_1_7 uw_4_88 ⟨rfl, rfl⟩ (by decide +kernel) rfl ⟨Nat.le_of_ble_eq_true rfl, Nat.le_of_ble_eq_true rfl⟩ ⟨Nat.le_of_ble_eq_true rfl, Nat.le_of_ble_eq_true rfl⟩ hl.1 rfl (Nat.le_of_ble_eq_true rfl) dX6_mondays_22 (st1 := [.int r4]) rfl (fun H locs I => ?_)
      refine lv_if_ne (tgt := 31) hx hb dX6_mondays_25 (by decide) (fun c5 => ?_) (fun c5 => ?_)
      · rw [if_neg c5] at hf
        refine lv_aload_n hx hb dX6_mondays_31 rfl (lv_at hl 0 rfl) ?_
        obtain ⟨r6, h_r6, hf⟩ := k_bind hf
        refine k_callV (n := 0) (As := []) (rest := []) X I (c_X6_lacks h_r6) uw_4_201 uw_4_203 us_28 uw_1_7 uw_4_204 ⟨rfl, rfl⟩ (by decide +kernel) rfl ⟨Nat.le_of_ble_eq_true rfl, Nat.le_of_ble_eq_true rfl⟩ ⟨Nat.le_of_ble_eq_true rfl, Nat.le_of_ble_eq_true rfl⟩ 0 dwG_0 rfl hl.1 rfl (Nat.le_of_ble_eq_true rfl) dX6_mondays_32 (st1 := [.int r6]) rfl (fun H locs I => ?_)
        refine lv_if_eq (tgt := 41) hx hb dX6_mondays_35 (by decide) (fun c7 => ?_) (fun c7 => ?_)
        · rw [if_pos c7] at hf
          refine lv_aload_n hx hb dX6_mondays_41 rfl (lv_at hl 0 rfl) ?_
          refine k_get (T := TX6) (N := 27) X I inU6 0 dwG_0 rfl 10 (by decide) uw_4_9 rfl rfl dX6_mondays_42 ?_
          refine lv_aload_n hx hb dX6_mondays_45 rfl (lv_at hl 0 rfl) ?_
          refine k_get (T := TX6) (N := 27) X I inU6 0 dwG_0 rfl 17 (by decide) uw_4_16 rfl rfl dX6_mondays_46 ?_
          obtain ⟨M8, e_M8, hf⟩ := k_nm hf
          refine k_callS (n := 2) (As := [.ref (q 3), .ref (q 8)]) (rest := []) X I (d_copy 3 8 dwG_3 dwG_8 (by decide) (by decide) (by decide) (fun g => xA M 7 g) (fun g => dwA_7) e_M8) uw_4_223 uw_4_224 uw_1_7 uw_4_225 ⟨rfl, rfl⟩ (by decide +kernel) rfl ⟨Nat.le_of_ble_eq_true rfl, Nat.le_of_ble_eq_true rfl⟩ ⟨Nat.le_of_ble_eq_true rfl, Nat.le_of_ble_eq_true rfl⟩ hl.1 rfl (Nat.le_of_ble_eq_true rfl) dX6_mondays_49 (st1 := []) rfl (fun H locs I => ?_)
          refine lv_aload_n hx hb dX6_mondays_52 rfl (lv_at hl 0 rfl) ?_
          refine lv_iload_n hx hb dX6_mondays_53 rfl (lv_at hl 2 rfl) ?_
          obtain ⟨M9, e_M9, hf⟩ := k_nm hf
          refine k_put (T := TX6) (N := 27) (M1 := M9) X I inU6 tyX6 tyX6_ok nmX6 0 dwG_0 rfl 16 (by decide) uw_4_15 rfl rfl (tyX6_ok 16 (by decide)) rfl rfl (Nat.le_of_ble_eq_true rfl) dX6_mondays_54 (dwI_9.trans (congrArg (dw q aI) e_M9)) (fun H locs I => ?_)
          refine lv_iconst (v := 0) hx hb dX6_mondays_57 (by decide) ?_
          refine lv_istore (lv' := [(4, .int (0 : Int32)), (0, .ref (q 0)), (1, .int x1), (2, .int x2), (3, .int x3)]) hx hb dX6_mondays_58 hl (by decide) rfl (fun ls hl => ?_)
          refine lv_iconst (v := 0) hx hb dX6_mondays_60 (by decide) ?_
          refine lv_istore (lv' := [(5, .int (0 : Int32)), (4, .int (0 : Int32)), (0, .ref (q 0)), (1, .int x1), (2, .int x2), (3, .int x3)]) hx hb dX6_mondays_61 hl (by decide) rfl (fun ls hl => ?_)
          refine lv_iconst (v := 0) hx hb dX6_mondays_63 (by decide) ?_
          refine lv_istore (lv' := [(6, .int (0 : Int32)), (5, .int (0 : Int32)), (4, .int (0 : Int32)), (0, .ref (q 0)), (1, .int x1), (2, .int x2), (3, .int x3)]) hx hb dX6_mondays_64 hl (by decide) rfl (fun ls hl => ?_)
          exact B66 xN x1 x3 (0 : Int32) (0 : Int32) (0 : Int32) M9 _ _ ls hf I (lv_sub hl [3, 4, 6, 2, 1, 0] rfl)
        · rw [if_neg c7] at hf
          refine lv_bipush (v := (-103)) hx hb dX6_mondays_38 (by decide) ?_
          exact k_iret X I hr hlocks dX6_mondays_40 hf
      · rw [if_pos c5] at hf
        refine lv_bipush (v := (-102)) hx hb dX6_mondays_28 (by decide) ?_
        exact k_iret X I hr hlocks dX6_mondays_30 hf
/-! LostTentModel.image()I -/
abbrev rm_X6_image : Room := { frames := 1, cells := 0, slots := 0, locals := 22 }
def f_X6_image (M : xM) : Option (Int32 × xM) :=
  (f_X6_lacks M).bind fun r1 =>
  if r1 = 0 then
    nmM (xA M 8 (xc 20 20 (M.2.2 1) (M.2.2 8))) fun M3 =>
    nmM (xA M3 9 (xc 15 15 (M3.2.2 2) (M3.2.2 9))) fun M4 =>
    nmM (xA M4 10 (xc 24 24 (M4.2.2 6) (M4.2.2 10))) fun M5 =>
    nmM (xI M5 11 (M5.1 4)) fun M6 =>
    nmM (xI M6 12 (M6.1 5)) fun M7 =>
    nmM (xI M7 13 (M7.1 6)) fun M8 =>
    nmM (xI M8 14 (M8.1 8)) fun M9 =>
    nmM (xI M9 10 (M9.1 7)) fun M10 =>
    some ((M10.1 4), M10)
  else
    some ((-103 : Int32), M)
set_option maxRecDepth 100000 in
set_option maxHeartbeats 8000000 in
theorem c_X6_image {l : Launch} {D : va_G} {aI : ClassId} {q t : Nat → Nat} {M : xM} {r : Int32} {Mr : xM} (hf : f_X6_image M = some (r, Mr)) : kM l yX6_image (wk yX6_image cX6_image 1 (some .int)) rm_X6_image (dw q aI) D aI t [.ref (q 0)] M (some (.int r)) Mr := by
  refine kM_of (by decide) (Nat.le_of_ble_eq_true rfl) ?_
  intro p e s m args below meth c A ls X hr hlocks hl I
  have hx := X.1
  have hb := X.2.1
  have hl : lv_has ls 1 [(0, .ref (q 0))] := hl
  rw [f_X6_image] at hf
  refine lv_aload_n hx hb dX6_image_0 rfl (lv_at hl 0 rfl) ?_
  obtain ⟨r1, h_r1, hf⟩ := k_bind hf
  refine k_callV (n := 0) (As := []) (rest := []) X I (c_X6_lacks h_r1) uw_4_201 uw_4_203 us_28 uw_1_7 uw_4_204 ⟨rfl, rfl⟩ (by decide +kernel) rfl ⟨Nat.le_of_ble_eq_true rfl, Nat.le_of_ble_eq_true rfl⟩ ⟨Nat.le_of_ble_eq_true rfl, Nat.le_of_ble_eq_true rfl⟩ 0 dwG_0 rfl hl.1 rfl (Nat.le_of_ble_eq_true rfl) dX6_image_1 (st1 := [.int r1]) rfl (fun H locs I => ?_)
  refine lv_if_eq (tgt := 10) hx hb dX6_image_4 (by decide) (fun c2 => ?_) (fun c2 => ?_)
  · rw [if_pos c2] at hf
    refine lv_aload_n hx hb dX6_image_10 rfl (lv_at hl 0 rfl) ?_
    refine k_get (T := TX6) (N := 27) X I inU6 0 dwG_0 rfl 9 (by decide) uw_4_8 rfl rfl dX6_image_11 ?_
    refine lv_aload_n hx hb dX6_image_14 rfl (lv_at hl 0 rfl) ?_
    refine k_get (T := TX6) (N := 27) X I inU6 0 dwG_0 rfl 23 (by decide) uw_4_22 rfl rfl dX6_image_15 ?_
    obtain ⟨M3, e_M3, hf⟩ := k_nm hf
    refine k_callS (n := 2) (As := [.ref (q 2), .ref (q 9)]) (rest := []) X I (d_copy 2 9 dwG_2 dwG_9 (by decide) (by decide) (by decide) (fun g => xA M 8 g) (fun g => dwA_8) e_M3) uw_4_223 uw_4_224 uw_1_7 uw_4_225 ⟨rfl, rfl⟩ (by decide +kernel) rfl ⟨Nat.le_of_ble_eq_true rfl, Nat.le_of_ble_eq_true rfl⟩ ⟨Nat.le_of_ble_eq_true rfl, Nat.le_of_ble_eq_true rfl⟩ hl.1 rfl (Nat.le_of_ble_eq_true rfl) dX6_image_18 (st1 := []) rfl (fun H locs I => ?_)
    refine lv_aload_n hx hb dX6_image_21 rfl (lv_at hl 0 rfl) ?_
    refine k_get (T := TX6) (N := 27) X I inU6 0 dwG_0 rfl 10 (by decide) uw_4_9 rfl rfl dX6_image_22 ?_
    refine lv_aload_n hx hb dX6_image_25 rfl (lv_at hl 0 rfl) ?_
    refine k_get (T := TX6) (N := 27) X I inU6 0 dwG_0 rfl 24 (by decide) uw_4_23 rfl rfl dX6_image_26 ?_
    obtain ⟨M4, e_M4, hf⟩ := k_nm hf
    refine k_callS (n := 2) (As := [.ref (q 3), .ref (q 10)]) (rest := []) X I (d_copy 3 10 dwG_3 dwG_10 (by decide) (by decide) (by decide) (fun g => xA M3 9 g) (fun g => dwA_9) e_M4) uw_4_223 uw_4_224 uw_1_7 uw_4_225 ⟨rfl, rfl⟩ (by decide +kernel) rfl ⟨Nat.le_of_ble_eq_true rfl, Nat.le_of_ble_eq_true rfl⟩ ⟨Nat.le_of_ble_eq_true rfl, Nat.le_of_ble_eq_true rfl⟩ hl.1 rfl (Nat.le_of_ble_eq_true rfl) dX6_image_29 (st1 := []) rfl (fun H locs I => ?_)
    refine lv_aload_n hx hb dX6_image_32 rfl (lv_at hl 0 rfl) ?_
    refine k_get (T := TX6) (N := 27) X I inU6 0 dwG_0 rfl 15 (by decide) uw_4_14 rfl rfl dX6_image_33 ?_
    refine lv_aload_n hx hb dX6_image_36 rfl (lv_at hl 0 rfl) ?_
    refine k_get (T := TX6) (N := 27) X I inU6 0 dwG_0 rfl 25 (by decide) uw_4_24 rfl rfl dX6_image_37 ?_
    obtain ⟨M5, e_M5, hf⟩ := k_nm hf
    refine k_callS (n := 2) (As := [.ref (q 7), .ref (q 11)]) (rest := []) X I (d_copy 7 11 dwG_7 dwG_11 (by decide) (by decide) (by decide) (fun g => xA M4 10 g) (fun g => dwA_10) e_M5) uw_4_223 uw_4_224 uw_1_7 uw_4_225 ⟨rfl, rfl⟩ (by decide +kernel) rfl ⟨Nat.le_of_ble_eq_true rfl, Nat.le_of_ble_eq_true rfl⟩ ⟨Nat.le_of_ble_eq_true rfl, Nat.le_of_ble_eq_true rfl⟩ hl.1 rfl (Nat.le_of_ble_eq_true rfl) dX6_image_40 (st1 := []) rfl (fun H locs I => ?_)
    refine lv_aload_n hx hb dX6_image_43 rfl (lv_at hl 0 rfl) ?_
    refine lv_aload_n hx hb dX6_image_44 rfl (lv_at hl 0 rfl) ?_
    refine k_get (T := TX6) (N := 27) X I inU6 0 dwG_0 rfl 5 (by decide) uw_4_4 rfl rfl dX6_image_45 ?_
    obtain ⟨M6, e_M6, hf⟩ := k_nm hf
    refine k_put (T := TX6) (N := 27) (M1 := M6) X I inU6 tyX6 tyX6_ok nmX6 0 dwG_0 rfl 19 (by decide) uw_4_18 rfl rfl (tyX6_ok 19 (by decide)) rfl rfl (Nat.le_of_ble_eq_true rfl) dX6_image_48 (dwI_11.trans (congrArg (dw q aI) e_M6)) (fun H locs I => ?_)
    refine lv_aload_n hx hb dX6_image_51 rfl (lv_at hl 0 rfl) ?_
    refine lv_aload_n hx hb dX6_image_52 rfl (lv_at hl 0 rfl) ?_
    refine k_get (T := TX6) (N := 27) X I inU6 0 dwG_0 rfl 6 (by decide) uw_4_5 rfl rfl dX6_image_53 ?_
    obtain ⟨M7, e_M7, hf⟩ := k_nm hf
    refine k_put (T := TX6) (N := 27) (M1 := M7) X I inU6 tyX6 tyX6_ok nmX6 0 dwG_0 rfl 20 (by decide) uw_4_19 rfl rfl (tyX6_ok 20 (by decide)) rfl rfl (Nat.le_of_ble_eq_true rfl) dX6_image_56 (dwI_12.trans (congrArg (dw q aI) e_M7)) (fun H locs I => ?_)
    refine lv_aload_n hx hb dX6_image_59 rfl (lv_at hl 0 rfl) ?_
    refine lv_aload_n hx hb dX6_image_60 rfl (lv_at hl 0 rfl) ?_
    refine k_get (T := TX6) (N := 27) X I inU6 0 dwG_0 rfl 7 (by decide) uw_4_6 rfl rfl dX6_image_61 ?_
    obtain ⟨M8, e_M8, hf⟩ := k_nm hf
    refine k_put (T := TX6) (N := 27) (M1 := M8) X I inU6 tyX6 tyX6_ok nmX6 0 dwG_0 rfl 21 (by decide) uw_4_20 rfl rfl (tyX6_ok 21 (by decide)) rfl rfl (Nat.le_of_ble_eq_true rfl) dX6_image_64 (dwI_13.trans (congrArg (dw q aI) e_M8)) (fun H locs I => ?_)
    refine lv_aload_n hx hb dX6_image_67 rfl (lv_at hl 0 rfl) ?_
    refine lv_aload_n hx hb dX6_image_68 rfl (lv_at hl 0 rfl) ?_
    refine k_get (T := TX6) (N := 27) X I inU6 0 dwG_0 rfl 14 (by decide) uw_4_13 rfl rfl dX6_image_69 ?_
    obtain ⟨M9, e_M9, hf⟩ := k_nm hf
    refine k_put (T := TX6) (N := 27) (M1 := M9) X I inU6 tyX6 tyX6_ok nmX6 0 dwG_0 rfl 22 (by decide) uw_4_21 rfl rfl (tyX6_ok 22 (by decide)) rfl rfl (Nat.le_of_ble_eq_true rfl) dX6_image_72 (dwI_14.trans (congrArg (dw q aI) e_M9)) (fun H locs I => ?_)
    refine lv_aload_n hx hb dX6_image_75 rfl (lv_at hl 0 rfl) ?_
    refine lv_aload_n hx hb dX6_image_76 rfl (lv_at hl 0 rfl) ?_
    refine k_get (T := TX6) (N := 27) X I inU6 0 dwG_0 rfl 8 (by decide) uw_4_7 rfl rfl dX6_image_77 ?_
    obtain ⟨M10, e_M10, hf⟩ := k_nm hf
    refine k_put (T := TX6) (N := 27) (M1 := M10) X I inU6 tyX6 tyX6_ok nmX6 0 dwG_0 rfl 18 (by decide) uw_4_17 rfl rfl (tyX6_ok 18 (by decide)) rfl rfl (Nat.le_of_ble_eq_true rfl) dX6_image_80 (dwI_10.trans (congrArg (dw q aI) e_M10)) (fun H locs I => ?_)
    refine lv_aload_n hx hb dX6_image_83 rfl (lv_at hl 0 rfl) ?_
    refine k_get (T := TX6) (N := 27) X I inU6 0 dwG_0 rfl 5 (by decide) uw_4_4 rfl rfl dX6_image_84 ?_
    exact k_iret X I hr hlocks dX6_image_87 hf
  · rw [if_neg c2] at hf
    refine lv_bipush (v := (-103)) hx hb dX6_image_7 (by decide) ?_
    exact k_iret X I hr hlocks dX6_image_9 hf
/-! LostTentModel.restore()I -/
abbrev rm_X6_restore : Room := { frames := 1, cells := 0, slots := 0, locals := 22 }
def f_X6_restore (M : xM) : Option (Int32 × xM) :=
  if (M.1 10) = (M.1 7) then
    nmM (xA M 1 (xc 20 20 (M.2.2 8) (M.2.2 1))) fun M2 =>
    nmM (xA M2 2 (xc 15 15 (M2.2.2 9) (M2.2.2 2))) fun M3 =>
    nmM (xA M3 6 (xc 24 24 (M3.2.2 10) (M3.2.2 6))) fun M4 =>
    nmM (xI M4 4 (M4.1 11)) fun M5 =>
    nmM (xI M5 5 (M5.1 12)) fun M6 =>
    nmM (xI M6 6 (M6.1 13)) fun M7 =>
    nmM (xI M7 8 (M7.1 14)) fun M8 =>
    some ((M8.1 4), M8)
  else
    some ((-103 : Int32), M)
set_option maxRecDepth 100000 in
set_option maxHeartbeats 8000000 in
theorem c_X6_restore {l : Launch} {D : va_G} {aI : ClassId} {q t : Nat → Nat} {M : xM} {r : Int32} {Mr : xM} (hf : f_X6_restore M = some (r, Mr)) : kM l yX6_restore (wk yX6_restore cX6_restore 1 (some .int)) rm_X6_restore (dw q aI) D aI t [.ref (q 0)] M (some (.int r)) Mr := by
  refine kM_of (by decide) (Nat.le_of_ble_eq_true rfl) ?_
  intro p e s m args below meth c A ls X hr hlocks hl I
  have hx := X.1
  have hb := X.2.1
  have hl : lv_has ls 1 [(0, .ref (q 0))] := hl
  rw [f_X6_restore] at hf
  refine lv_aload_n hx hb dX6_restore_0 rfl (lv_at hl 0 rfl) ?_
  refine k_get (T := TX6) (N := 27) X I inU6 0 dwG_0 rfl 18 (by decide) uw_4_17 rfl rfl dX6_restore_1 ?_
  refine lv_aload_n hx hb dX6_restore_4 rfl (lv_at hl 0 rfl) ?_
  refine k_get (T := TX6) (N := 27) X I inU6 0 dwG_0 rfl 8 (by decide) uw_4_7 rfl rfl dX6_restore_5 ?_
  refine lv_icmp_eq (tgt := 14) hx hb dX6_restore_8 (by decide) (fun c1 => ?_) (fun c1 => ?_)
  · rw [if_pos c1] at hf
    refine lv_aload_n hx hb dX6_restore_14 rfl (lv_at hl 0 rfl) ?_
    refine k_get (T := TX6) (N := 27) X I inU6 0 dwG_0 rfl 23 (by decide) uw_4_22 rfl rfl dX6_restore_15 ?_
    refine lv_aload_n hx hb dX6_restore_18 rfl (lv_at hl 0 rfl) ?_
    refine k_get (T := TX6) (N := 27) X I inU6 0 dwG_0 rfl 9 (by decide) uw_4_8 rfl rfl dX6_restore_19 ?_
    obtain ⟨M2, e_M2, hf⟩ := k_nm hf
    refine k_callS (n := 2) (As := [.ref (q 9), .ref (q 2)]) (rest := []) X I (d_copy 9 2 dwG_9 dwG_2 (by decide) (by decide) (by decide) (fun g => xA M 1 g) (fun g => dwA_1) e_M2) uw_4_223 uw_4_224 uw_1_7 uw_4_225 ⟨rfl, rfl⟩ (by decide +kernel) rfl ⟨Nat.le_of_ble_eq_true rfl, Nat.le_of_ble_eq_true rfl⟩ ⟨Nat.le_of_ble_eq_true rfl, Nat.le_of_ble_eq_true rfl⟩ hl.1 rfl (Nat.le_of_ble_eq_true rfl) dX6_restore_22 (st1 := []) rfl (fun H locs I => ?_)
    refine lv_aload_n hx hb dX6_restore_25 rfl (lv_at hl 0 rfl) ?_
    refine k_get (T := TX6) (N := 27) X I inU6 0 dwG_0 rfl 24 (by decide) uw_4_23 rfl rfl dX6_restore_26 ?_
    refine lv_aload_n hx hb dX6_restore_29 rfl (lv_at hl 0 rfl) ?_
    refine k_get (T := TX6) (N := 27) X I inU6 0 dwG_0 rfl 10 (by decide) uw_4_9 rfl rfl dX6_restore_30 ?_
    obtain ⟨M3, e_M3, hf⟩ := k_nm hf
    refine k_callS (n := 2) (As := [.ref (q 10), .ref (q 3)]) (rest := []) X I (d_copy 10 3 dwG_10 dwG_3 (by decide) (by decide) (by decide) (fun g => xA M2 2 g) (fun g => dwA_2) e_M3) uw_4_223 uw_4_224 uw_1_7 uw_4_225 ⟨rfl, rfl⟩ (by decide +kernel) rfl ⟨Nat.le_of_ble_eq_true rfl, Nat.le_of_ble_eq_true rfl⟩ ⟨Nat.le_of_ble_eq_true rfl, Nat.le_of_ble_eq_true rfl⟩ hl.1 rfl (Nat.le_of_ble_eq_true rfl) dX6_restore_33 (st1 := []) rfl (fun H locs I => ?_)
    refine lv_aload_n hx hb dX6_restore_36 rfl (lv_at hl 0 rfl) ?_
    refine k_get (T := TX6) (N := 27) X I inU6 0 dwG_0 rfl 25 (by decide) uw_4_24 rfl rfl dX6_restore_37 ?_
    refine lv_aload_n hx hb dX6_restore_40 rfl (lv_at hl 0 rfl) ?_
    refine k_get (T := TX6) (N := 27) X I inU6 0 dwG_0 rfl 15 (by decide) uw_4_14 rfl rfl dX6_restore_41 ?_
    obtain ⟨M4, e_M4, hf⟩ := k_nm hf
    refine k_callS (n := 2) (As := [.ref (q 11), .ref (q 7)]) (rest := []) X I (d_copy 11 7 dwG_11 dwG_7 (by decide) (by decide) (by decide) (fun g => xA M3 6 g) (fun g => dwA_6) e_M4) uw_4_223 uw_4_224 uw_1_7 uw_4_225 ⟨rfl, rfl⟩ (by decide +kernel) rfl ⟨Nat.le_of_ble_eq_true rfl, Nat.le_of_ble_eq_true rfl⟩ ⟨Nat.le_of_ble_eq_true rfl, Nat.le_of_ble_eq_true rfl⟩ hl.1 rfl (Nat.le_of_ble_eq_true rfl) dX6_restore_44 (st1 := []) rfl (fun H locs I => ?_)
    refine lv_aload_n hx hb dX6_restore_47 rfl (lv_at hl 0 rfl) ?_
    refine lv_aload_n hx hb dX6_restore_48 rfl (lv_at hl 0 rfl) ?_
    refine k_get (T := TX6) (N := 27) X I inU6 0 dwG_0 rfl 19 (by decide) uw_4_18 rfl rfl dX6_restore_49 ?_
    obtain ⟨M5, e_M5, hf⟩ := k_nm hf
    refine k_put (T := TX6) (N := 27) (M1 := M5) X I inU6 tyX6 tyX6_ok nmX6 0 dwG_0 rfl 5 (by decide) uw_4_4 rfl rfl (tyX6_ok 5 (by decide)) rfl rfl (Nat.le_of_ble_eq_true rfl) dX6_restore_52 (dwI_4.trans (congrArg (dw q aI) e_M5)) (fun H locs I => ?_)
    refine lv_aload_n hx hb dX6_restore_55 rfl (lv_at hl 0 rfl) ?_
    refine lv_aload_n hx hb dX6_restore_56 rfl (lv_at hl 0 rfl) ?_
    refine k_get (T := TX6) (N := 27) X I inU6 0 dwG_0 rfl 20 (by decide) uw_4_19 rfl rfl dX6_restore_57 ?_
    obtain ⟨M6, e_M6, hf⟩ := k_nm hf
    refine k_put (T := TX6) (N := 27) (M1 := M6) X I inU6 tyX6 tyX6_ok nmX6 0 dwG_0 rfl 6 (by decide) uw_4_5 rfl rfl (tyX6_ok 6 (by decide)) rfl rfl (Nat.le_of_ble_eq_true rfl) dX6_restore_60 (dwI_5.trans (congrArg (dw q aI) e_M6)) (fun H locs I => ?_)
    refine lv_aload_n hx hb dX6_restore_63 rfl (lv_at hl 0 rfl) ?_
    refine lv_aload_n hx hb dX6_restore_64 rfl (lv_at hl 0 rfl) ?_
    refine k_get (T := TX6) (N := 27) X I inU6 0 dwG_0 rfl 21 (by decide) uw_4_20 rfl rfl dX6_restore_65 ?_
    obtain ⟨M7, e_M7, hf⟩ := k_nm hf
    refine k_put (T := TX6) (N := 27) (M1 := M7) X I inU6 tyX6 tyX6_ok nmX6 0 dwG_0 rfl 7 (by decide) uw_4_6 rfl rfl (tyX6_ok 7 (by decide)) rfl rfl (Nat.le_of_ble_eq_true rfl) dX6_restore_68 (dwI_6.trans (congrArg (dw q aI) e_M7)) (fun H locs I => ?_)
    refine lv_aload_n hx hb dX6_restore_71 rfl (lv_at hl 0 rfl) ?_
    refine lv_aload_n hx hb dX6_restore_72 rfl (lv_at hl 0 rfl) ?_
    refine k_get (T := TX6) (N := 27) X I inU6 0 dwG_0 rfl 22 (by decide) uw_4_21 rfl rfl dX6_restore_73 ?_
    obtain ⟨M8, e_M8, hf⟩ := k_nm hf
    refine k_put (T := TX6) (N := 27) (M1 := M8) X I inU6 tyX6 tyX6_ok nmX6 0 dwG_0 rfl 14 (by decide) uw_4_13 rfl rfl (tyX6_ok 14 (by decide)) rfl rfl (Nat.le_of_ble_eq_true rfl) dX6_restore_76 (dwI_8.trans (congrArg (dw q aI) e_M8)) (fun H locs I => ?_)
    refine lv_aload_n hx hb dX6_restore_79 rfl (lv_at hl 0 rfl) ?_
    refine k_get (T := TX6) (N := 27) X I inU6 0 dwG_0 rfl 5 (by decide) uw_4_4 rfl rfl dX6_restore_80 ?_
    exact k_iret X I hr hlocks dX6_restore_83 hf
  · rw [if_neg c1] at hf
    refine lv_bipush (v := (-103)) hx hb dX6_restore_11 (by decide) ?_
    exact k_iret X I hr hlocks dX6_restore_13 hf
/-! LostTentModel.givenFit()I -/
abbrev rm_X6_givenFit : Room := { frames := 3, cells := 0, slots := 0, locals := 72 }
def f_X6_givenFit_b50 (k4 : Int32 → Int32 → xM → Option Int32) (x2 : Int32) (y0 : Int32) (y1 : Int32) (M : xM) : Option Int32 :=
  k4 (y1 + y0) (x2 + 1) M
def f_X6_givenFit_b49 (k4 : Int32 → Int32 → xM → Option Int32) (x2 : Int32) (y0 : Int32) (M : xM) : Option Int32 :=
  f_X6_givenFit_b50 k4 x2 (0 : Int32) y0 M
def f_X6_givenFit_l4 : Nat → Int32 → Int32 → xM → Option Int32
  | 0, _, _, _ => none
  | n4 + 1, x1, x2, M =>
    if (M.1 3) ≤ x2 then
      some x1
    else
      (xld 15 (M.2.2 2) (((5 : Int32) * x2) + (4 : Int32))).bind fun r2 =>
      if r2 = (-1 : Int32) then
        f_X6_givenFit_b49 (f_X6_givenFit_l4 n4) x2 x1 M
      else
        (xld 15 (M.2.2 2) (((5 : Int32) * x2) + (4 : Int32))).bind fun r4 =>
        (f_X6_fits r4 x2 M).bind fun r5 =>
        if r5 = 0 then
          f_X6_givenFit_b49 (f_X6_givenFit_l4 n4) x2 x1 M
        else
          f_X6_givenFit_b50 (f_X6_givenFit_l4 n4) x2 (1 : Int32) x1 M
def f_X6_givenFit (M : xM) : Option Int32 :=
  f_X6_givenFit_l4 xN (0 : Int32) (0 : Int32) M
set_option maxRecDepth 100000 in
set_option maxHeartbeats 8000000 in
theorem c_X6_givenFit {l : Launch} {D : va_G} {aI : ClassId} {q t : Nat → Nat} {M : xM} {r : Int32} (hf : f_X6_givenFit M = some r) : kM l yX6_givenFit (wk yX6_givenFit cX6_givenFit 3 (some .int)) rm_X6_givenFit (dw q aI) D aI t [.ref (q 0)] M (some (.int r)) M := by
  refine kM_of (by decide) (Nat.le_of_ble_eq_true rfl) ?_
  intro p e s m args below meth c A ls X hr hlocks hl I
  have hx := X.1
  have hb := X.2.1
  have hl : lv_has ls 3 [(0, .ref (q 0))] := hl
  have B50 : ∀ (k4 : Int32 → Int32 → xM → Option Int32), (∀ (x1 : Int32) (x2 : Int32) (H : Heap) (locs : List Loc) (ls : Array Slot), k4 x1 x2 M = some r → kI (dw q aI) D A s M H locs → lv_has ls 3 [(0, .ref (q 0)), (1, .int x1), (2, .int x2)] → W p l e rm_X6_givenFit s m args below meth c H locs 0 0 (MQ below (kQ (dw q aI) D A (some (.int r)) M) args s 0 0 A) (F0 m 4 ls [])) → ∀ (x2 : Int32) (y0 : Int32) (y1 : Int32) (H : Heap) (locs : List Loc) (ls : Array Slot), f_X6_givenFit_b50 k4 x2 y0 y1 M = some r → kI (dw q aI) D A s M H locs → lv_has ls 3 [(0, .ref (q 0)), (2, .int x2)] → W p l e rm_X6_givenFit s m args below meth c H locs 0 0 (MQ below (kQ (dw q aI) D A (some (.int r)) M) args s 0 0 A) (F0 m 50 ls [.int y0, .int y1]) := by
    intro k4 hk4 x2 y0 y1 H locs ls hf I hl
    rw [f_X6_givenFit_b50] at hf
    refine lv_iadd hx hb dX6_givenFit_50 ?_
    refine lv_istore_n (lv' := [(1, .int (y1 + y0)), (0, .ref (q 0)), (2, .int x2)]) hx hb dX6_givenFit_51 rfl hl (by decide) rfl (fun ls hl => ?_)
    refine lv_iinc (v := (x2 + 1)) (lv' := [(2, .int (x2 + 1)), (1, .int (y1 + y0)), (0, .ref (q 0))]) hx hb dX6_givenFit_52 hl (k := 2) rfl rfl (by decide) rfl (fun ls hl => ?_)
    refine lv_goto (tgt := 4) hx hb dX6_givenFit_55 (by decide) ?_
    exact hk4 (y1 + y0) (x2 + 1) _ _ ls hf I (lv_sub hl [2, 1, 0] rfl)
  have B49 : ∀ (k4 : Int32 → Int32 → xM → Option Int32), (∀ (x1 : Int32) (x2 : Int32) (H : Heap) (locs : List Loc) (ls : Array Slot), k4 x1 x2 M = some r → kI (dw q aI) D A s M H locs → lv_has ls 3 [(0, .ref (q 0)), (1, .int x1), (2, .int x2)] → W p l e rm_X6_givenFit s m args below meth c H locs 0 0 (MQ below (kQ (dw q aI) D A (some (.int r)) M) args s 0 0 A) (F0 m 4 ls [])) → ∀ (x2 : Int32) (y0 : Int32) (H : Heap) (locs : List Loc) (ls : Array Slot), f_X6_givenFit_b49 k4 x2 y0 M = some r → kI (dw q aI) D A s M H locs → lv_has ls 3 [(0, .ref (q 0)), (2, .int x2)] → W p l e rm_X6_givenFit s m args below meth c H locs 0 0 (MQ below (kQ (dw q aI) D A (some (.int r)) M) args s 0 0 A) (F0 m 49 ls [.int y0]) := by
    intro k4 hk4 x2 y0 H locs ls hf I hl
    rw [f_X6_givenFit_b49] at hf
    refine lv_iconst (v := 0) hx hb dX6_givenFit_49 (by decide) ?_
    exact B50 k4 hk4 x2 (0 : Int32) y0 _ _ ls hf I (lv_sub hl [0, 1] rfl)
  have B4 : ∀ (n4 : Nat), ∀ (x1 : Int32) (x2 : Int32) (H : Heap) (locs : List Loc) (ls : Array Slot), f_X6_givenFit_l4 n4 x1 x2 M = some r → kI (dw q aI) D A s M H locs → lv_has ls 3 [(0, .ref (q 0)), (1, .int x1), (2, .int x2)] → W p l e rm_X6_givenFit s m args below meth c H locs 0 0 (MQ below (kQ (dw q aI) D A (some (.int r)) M) args s 0 0 A) (F0 m 4 ls []) := by
    intro n4
    induction n4 with
    | zero =>
      intro x1 x2 H locs ls hf I hl
      rw [f_X6_givenFit_l4] at hf
      cases hf
    | succ n4 ih4 =>
      intro x1 x2 H locs ls hf I hl
      rw [f_X6_givenFit_l4] at hf
      refine lv_iload_n hx hb dX6_givenFit_4 rfl (lv_at hl 2 rfl) ?_
      refine lv_aload_n hx hb dX6_givenFit_5 rfl (lv_at hl 0 rfl) ?_
      refine k_get (T := TX6) (N := 27) X I inU6 0 dwG_0 rfl 4 (by decide) uw_4_3 rfl rfl dX6_givenFit_6 ?_
      refine lv_icmp_ge (tgt := 58) hx hb dX6_givenFit_9 (by decide) (fun c1 => ?_) (fun c1 => ?_)
      · rw [if_pos c1] at hf
        refine lv_iload_n hx hb dX6_givenFit_58 rfl (lv_at hl 1 rfl) ?_
        exact k_iretP X I hr hlocks dX6_givenFit_59 hf
      · rw [if_neg c1] at hf
        refine lv_iload_n hx hb dX6_givenFit_12 rfl (lv_at hl 1 rfl) ?_
        refine lv_aload_n hx hb dX6_givenFit_13 rfl (lv_at hl 0 rfl) ?_
        refine k_get (T := TX6) (N := 27) X I inU6 0 dwG_0 rfl 10 (by decide) uw_4_9 rfl rfl dX6_givenFit_14 ?_
        refine lv_iconst (v := 5) hx hb dX6_givenFit_17 (by decide) ?_
        refine lv_iload_n hx hb dX6_givenFit_18 rfl (lv_at hl 2 rfl) ?_
        refine lv_imul hx hb dX6_givenFit_19 ?_
        refine lv_iconst (v := 4) hx hb dX6_givenFit_20 (by decide) ?_
        refine lv_iadd hx hb dX6_givenFit_21 ?_
        obtain ⟨r2, h_r2, hf⟩ := k_bind hf
        refine k_ald X I h_r2 3 dwG_3 dX6_givenFit_22 ?_
        refine lv_iconst (v := (-1)) hx hb dX6_givenFit_23 (by decide) ?_
        refine lv_icmp_eq (tgt := 49) hx hb dX6_givenFit_24 (by decide) (fun c3 => ?_) (fun c3 => ?_)
        · rw [if_pos c3] at hf
          exact B49 (f_X6_givenFit_l4 n4) ih4 x2 x1 _ _ ls hf I (lv_sub hl [0, 2] rfl)
        · rw [if_neg c3] at hf
          refine lv_aload_n hx hb dX6_givenFit_27 rfl (lv_at hl 0 rfl) ?_
          refine lv_aload_n hx hb dX6_givenFit_28 rfl (lv_at hl 0 rfl) ?_
          refine k_get (T := TX6) (N := 27) X I inU6 0 dwG_0 rfl 10 (by decide) uw_4_9 rfl rfl dX6_givenFit_29 ?_
          refine lv_iconst (v := 5) hx hb dX6_givenFit_32 (by decide) ?_
          refine lv_iload_n hx hb dX6_givenFit_33 rfl (lv_at hl 2 rfl) ?_
          refine lv_imul hx hb dX6_givenFit_34 ?_
          refine lv_iconst (v := 4) hx hb dX6_givenFit_35 (by decide) ?_
          refine lv_iadd hx hb dX6_givenFit_36 ?_
          obtain ⟨r4, h_r4, hf⟩ := k_bind hf
          refine k_ald X I h_r4 3 dwG_3 dX6_givenFit_37 ?_
          refine lv_iload_n hx hb dX6_givenFit_38 rfl (lv_at hl 2 rfl) ?_
          obtain ⟨r5, h_r5, hf⟩ := k_bind hf
          refine k_callV (n := 2) (As := [.int r4, .int x2]) (rest := [.int x1]) X I (c_X6_fits h_r5) uw_4_131 uw_4_133 us_18 uw_1_7 uw_4_134 ⟨rfl, rfl⟩ (by decide +kernel) rfl ⟨Nat.le_of_ble_eq_true rfl, Nat.le_of_ble_eq_true rfl⟩ ⟨Nat.le_of_ble_eq_true rfl, Nat.le_of_ble_eq_true rfl⟩ 0 dwG_0 rfl hl.1 rfl (Nat.le_of_ble_eq_true rfl) dX6_givenFit_39 (st1 := [.int r5, .int x1]) rfl (fun H locs I => ?_)
          refine lv_if_eq (tgt := 49) hx hb dX6_givenFit_42 (by decide) (fun c6 => ?_) (fun c6 => ?_)
          · rw [if_pos c6] at hf
            exact B49 (f_X6_givenFit_l4 n4) ih4 x2 x1 _ _ ls hf I (lv_sub hl [0, 2] rfl)
          · rw [if_neg c6] at hf
            refine lv_iconst (v := 1) hx hb dX6_givenFit_45 (by decide) ?_
            refine lv_goto (tgt := 50) hx hb dX6_givenFit_46 (by decide) ?_
            exact B50 (f_X6_givenFit_l4 n4) ih4 x2 (1 : Int32) x1 _ _ ls hf I (lv_sub hl [0, 2] rfl)
  rw [f_X6_givenFit] at hf
  refine lv_iconst (v := 0) hx hb dX6_givenFit_0 (by decide) ?_
  refine lv_istore_n (lv' := [(1, .int (0 : Int32)), (0, .ref (q 0))]) hx hb dX6_givenFit_1 rfl hl (by decide) rfl (fun ls hl => ?_)
  refine lv_iconst (v := 0) hx hb dX6_givenFit_2 (by decide) ?_
  refine lv_istore_n (lv' := [(2, .int (0 : Int32)), (1, .int (0 : Int32)), (0, .ref (q 0))]) hx hb dX6_givenFit_3 rfl hl (by decide) rfl (fun ls hl => ?_)
  exact B4 xN (0 : Int32) (0 : Int32) _ _ ls hf I (lv_sub hl [2, 1, 0] rfl)
/-! LostTentModel.givenWrong()I -/
abbrev rm_X6_givenWrong : Room := { frames := 2, cells := 0, slots := 0, locals := 50 }
def f_X6_givenWrong_b46 (k4 : Int32 → Int32 → xM → Option Int32) (x2 : Int32) (y0 : Int32) (y1 : Int32) (M : xM) : Option Int32 :=
  k4 (y1 + y0) (x2 + 1) M
def f_X6_givenWrong_l4 : Nat → Int32 → Int32 → xM → Option Int32
  | 0, _, _, _ => none
  | n4 + 1, x1, x2, M =>
    if (M.1 3) ≤ x2 then
      some x1
    else
      (xld 15 (M.2.2 2) (((5 : Int32) * x2) + (4 : Int32))).bind fun r2 =>
      if r2 = (-1 : Int32) then
        f_X6_givenWrong_b46 (f_X6_givenWrong_l4 n4) x2 (0 : Int32) x1 M
      else
        (xld 15 (M.2.2 2) (((5 : Int32) * x2) + (4 : Int32))).bind fun r4 =>
        (f_X6_wrongOf r4 x2 M).bind fun r5 =>
        f_X6_givenWrong_b46 (f_X6_givenWrong_l4 n4) x2 r5 x1 M
def f_X6_givenWrong (M : xM) : Option Int32 :=
  f_X6_givenWrong_l4 xN (0 : Int32) (0 : Int32) M
set_option maxRecDepth 100000 in
set_option maxHeartbeats 8000000 in
theorem c_X6_givenWrong {l : Launch} {D : va_G} {aI : ClassId} {q t : Nat → Nat} {M : xM} {r : Int32} (hf : f_X6_givenWrong M = some r) : kM l yX6_givenWrong (wk yX6_givenWrong cX6_givenWrong 3 (some .int)) rm_X6_givenWrong (dw q aI) D aI t [.ref (q 0)] M (some (.int r)) M := by
  refine kM_of (by decide) (Nat.le_of_ble_eq_true rfl) ?_
  intro p e s m args below meth c A ls X hr hlocks hl I
  have hx := X.1
  have hb := X.2.1
  have hl : lv_has ls 3 [(0, .ref (q 0))] := hl
  have B46 : ∀ (k4 : Int32 → Int32 → xM → Option Int32), (∀ (x1 : Int32) (x2 : Int32) (H : Heap) (locs : List Loc) (ls : Array Slot), k4 x1 x2 M = some r → kI (dw q aI) D A s M H locs → lv_has ls 3 [(0, .ref (q 0)), (1, .int x1), (2, .int x2)] → W p l e rm_X6_givenWrong s m args below meth c H locs 0 0 (MQ below (kQ (dw q aI) D A (some (.int r)) M) args s 0 0 A) (F0 m 4 ls [])) → ∀ (x2 : Int32) (y0 : Int32) (y1 : Int32) (H : Heap) (locs : List Loc) (ls : Array Slot), f_X6_givenWrong_b46 k4 x2 y0 y1 M = some r → kI (dw q aI) D A s M H locs → lv_has ls 3 [(0, .ref (q 0)), (2, .int x2)] → W p l e rm_X6_givenWrong s m args below meth c H locs 0 0 (MQ below (kQ (dw q aI) D A (some (.int r)) M) args s 0 0 A) (F0 m 46 ls [.int y0, .int y1]) := by
    intro k4 hk4 x2 y0 y1 H locs ls hf I hl
    rw [f_X6_givenWrong_b46] at hf
    refine lv_iadd hx hb dX6_givenWrong_46 ?_
    refine lv_istore_n (lv' := [(1, .int (y1 + y0)), (0, .ref (q 0)), (2, .int x2)]) hx hb dX6_givenWrong_47 rfl hl (by decide) rfl (fun ls hl => ?_)
    refine lv_iinc (v := (x2 + 1)) (lv' := [(2, .int (x2 + 1)), (1, .int (y1 + y0)), (0, .ref (q 0))]) hx hb dX6_givenWrong_48 hl (k := 2) rfl rfl (by decide) rfl (fun ls hl => ?_)
    refine lv_goto (tgt := 4) hx hb dX6_givenWrong_51 (by decide) ?_
    exact hk4 (y1 + y0) (x2 + 1) _ _ ls hf I (lv_sub hl [2, 1, 0] rfl)
  have B4 : ∀ (n4 : Nat), ∀ (x1 : Int32) (x2 : Int32) (H : Heap) (locs : List Loc) (ls : Array Slot), f_X6_givenWrong_l4 n4 x1 x2 M = some r → kI (dw q aI) D A s M H locs → lv_has ls 3 [(0, .ref (q 0)), (1, .int x1), (2, .int x2)] → W p l e rm_X6_givenWrong s m args below meth c H locs 0 0 (MQ below (kQ (dw q aI) D A (some (.int r)) M) args s 0 0 A) (F0 m 4 ls []) := by
    intro n4
    induction n4 with
    | zero =>
      intro x1 x2 H locs ls hf I hl
      rw [f_X6_givenWrong_l4] at hf
      cases hf
    | succ n4 ih4 =>
      intro x1 x2 H locs ls hf I hl
      rw [f_X6_givenWrong_l4] at hf
      refine lv_iload_n hx hb dX6_givenWrong_4 rfl (lv_at hl 2 rfl) ?_
      refine lv_aload_n hx hb dX6_givenWrong_5 rfl (lv_at hl 0 rfl) ?_
      refine k_get (T := TX6) (N := 27) X I inU6 0 dwG_0 rfl 4 (by decide) uw_4_3 rfl rfl dX6_givenWrong_6 ?_
      refine lv_icmp_ge (tgt := 54) hx hb dX6_givenWrong_9 (by decide) (fun c1 => ?_) (fun c1 => ?_)
      · rw [if_pos c1] at hf
        refine lv_iload_n hx hb dX6_givenWrong_54 rfl (lv_at hl 1 rfl) ?_
        exact k_iretP X I hr hlocks dX6_givenWrong_55 hf
      · rw [if_neg c1] at hf
        refine lv_iload_n hx hb dX6_givenWrong_12 rfl (lv_at hl 1 rfl) ?_
        refine lv_aload_n hx hb dX6_givenWrong_13 rfl (lv_at hl 0 rfl) ?_
        refine k_get (T := TX6) (N := 27) X I inU6 0 dwG_0 rfl 10 (by decide) uw_4_9 rfl rfl dX6_givenWrong_14 ?_
        refine lv_iconst (v := 5) hx hb dX6_givenWrong_17 (by decide) ?_
        refine lv_iload_n hx hb dX6_givenWrong_18 rfl (lv_at hl 2 rfl) ?_
        refine lv_imul hx hb dX6_givenWrong_19 ?_
        refine lv_iconst (v := 4) hx hb dX6_givenWrong_20 (by decide) ?_
        refine lv_iadd hx hb dX6_givenWrong_21 ?_
        obtain ⟨r2, h_r2, hf⟩ := k_bind hf
        refine k_ald X I h_r2 3 dwG_3 dX6_givenWrong_22 ?_
        refine lv_iconst (v := (-1)) hx hb dX6_givenWrong_23 (by decide) ?_
        refine lv_icmp_ne (tgt := 31) hx hb dX6_givenWrong_24 (by decide) (fun c3 => ?_) (fun c3 => ?_)
        · rw [if_neg c3] at hf
          refine lv_aload_n hx hb dX6_givenWrong_31 rfl (lv_at hl 0 rfl) ?_
          refine lv_aload_n hx hb dX6_givenWrong_32 rfl (lv_at hl 0 rfl) ?_
          refine k_get (T := TX6) (N := 27) X I inU6 0 dwG_0 rfl 10 (by decide) uw_4_9 rfl rfl dX6_givenWrong_33 ?_
          refine lv_iconst (v := 5) hx hb dX6_givenWrong_36 (by decide) ?_
          refine lv_iload_n hx hb dX6_givenWrong_37 rfl (lv_at hl 2 rfl) ?_
          refine lv_imul hx hb dX6_givenWrong_38 ?_
          refine lv_iconst (v := 4) hx hb dX6_givenWrong_39 (by decide) ?_
          refine lv_iadd hx hb dX6_givenWrong_40 ?_
          obtain ⟨r4, h_r4, hf⟩ := k_bind hf
          refine k_ald X I h_r4 3 dwG_3 dX6_givenWrong_41 ?_
          refine lv_iload_n hx hb dX6_givenWrong_42 rfl (lv_at hl 2 rfl) ?_
          obtain ⟨r5, h_r5, hf⟩ := k_bind hf
          refine k_callV (n := 2) (As := [.int r4, .int x2]) (rest := [.int x1]) X I (c_X6_wrongOf h_r5) uw_4_135 uw_4_137 us_19 uw_1_7 uw_4_138 ⟨rfl, rfl⟩ (by decide +kernel) rfl ⟨Nat.le_of_ble_eq_true rfl, Nat.le_of_ble_eq_true rfl⟩ ⟨Nat.le_of_ble_eq_true rfl, Nat.le_of_ble_eq_true rfl⟩ 0 dwG_0 rfl hl.1 rfl (Nat.le_of_ble_eq_true rfl) dX6_givenWrong_43 (st1 := [.int r5, .int x1]) rfl (fun H locs I => ?_)
          exact B46 (f_X6_givenWrong_l4 n4) ih4 x2 r5 x1 _ _ ls hf I (lv_sub hl [0, 2] rfl)
        · rw [if_pos c3] at hf
          refine lv_iconst (v := 0) hx hb dX6_givenWrong_27 (by decide) ?_
          refine lv_goto (tgt := 46) hx hb dX6_givenWrong_28 (by decide) ?_
          exact B46 (f_X6_givenWrong_l4 n4) ih4 x2 (0 : Int32) x1 _ _ ls hf I (lv_sub hl [0, 2] rfl)
  rw [f_X6_givenWrong] at hf
  refine lv_iconst (v := 0) hx hb dX6_givenWrong_0 (by decide) ?_
  refine lv_istore_n (lv' := [(1, .int (0 : Int32)), (0, .ref (q 0))]) hx hb dX6_givenWrong_1 rfl hl (by decide) rfl (fun ls hl => ?_)
  refine lv_iconst (v := 0) hx hb dX6_givenWrong_2 (by decide) ?_
  refine lv_istore_n (lv' := [(2, .int (0 : Int32)), (1, .int (0 : Int32)), (0, .ref (q 0))]) hx hb dX6_givenWrong_3 rfl hl (by decide) rfl (fun ls hl => ?_)
  exact B4 xN (0 : Int32) (0 : Int32) _ _ ls hf I (lv_sub hl [2, 1, 0] rfl)
/-! LostTentModel.countOf(I)I -/
abbrev rm_X6_countOf : Room := { frames := 4, cells := 0, slots := 0, locals := 94 }
def f_X6_countOf (x1 : Int32) (M : xM) : Option Int32 :=
  if x1 = 0 then
    some (M.1 2)
  else
  if x1 = 1 then
    some (M.1 3)
  else
  if x1 = 2 then
    (f_X6_givenMany M).bind fun r4 =>
    some r4
  else
  if x1 = 3 then
    (f_X6_givenFit M).bind fun r6 =>
    some r6
  else
  if x1 = 4 then
    (f_X6_givenWrong M).bind fun r8 =>
    some r8
  else
  if x1 = 5 then
    some (M.1 4)
  else
  if x1 = 6 then
    some (M.1 5)
  else
  if x1 = 7 then
    some (M.1 6)
  else
  if x1 = 8 then
    some (M.1 8)
  else
  if x1 = 9 then
    some (M.1 0)
  else
  if x1 = 10 then
    some (M.1 7)
  else
  some (-102 : Int32)
set_option maxRecDepth 100000 in
set_option maxHeartbeats 8000000 in
theorem c_X6_countOf {l : Launch} {D : va_G} {aI : ClassId} {q t : Nat → Nat} {x1 : Int32} {M : xM} {r : Int32} (hf : f_X6_countOf x1 M = some r) : kM l yX6_countOf (wk yX6_countOf cX6_countOf 2 (some .int)) rm_X6_countOf (dw q aI) D aI t [.ref (q 0), .int x1] M (some (.int r)) M := by
  refine kM_of (by decide) (Nat.le_of_ble_eq_true rfl) ?_
  intro p e s m args below meth c A ls X hr hlocks hl I
  have hx := X.1
  have hb := X.2.1
  have hl : lv_has ls 2 [(0, .ref (q 0)), (1, .int x1)] := hl
  rw [f_X6_countOf] at hf
  refine lv_iload_n hx hb dX6_countOf_0 rfl (lv_at hl 1 rfl) ?_
  by_cases c1 : x1 = 0
  · rw [if_pos c1] at hf
    refine lv_tableIn (off := 59) (tgt := 60) hx hb dX6_countOf_1 (by rw [c1]; decide) (by rw [c1]; decide) (by rw [c1]; rfl) (by decide) ?_
    refine lv_aload_n hx hb dX6_countOf_60 rfl (lv_at hl 0 rfl) ?_
    refine k_get (T := TX6) (N := 27) X I inU6 0 dwG_0 rfl 3 (by decide) uw_4_2 rfl rfl dX6_countOf_61 ?_
    exact k_iretP X I hr hlocks dX6_countOf_64 hf
  rw [if_neg c1] at hf
  by_cases c2 : x1 = 1
  · rw [if_pos c2] at hf
    refine lv_tableIn (off := 64) (tgt := 65) hx hb dX6_countOf_1 (by rw [c2]; decide) (by rw [c2]; decide) (by rw [c2]; rfl) (by decide) ?_
    refine lv_aload_n hx hb dX6_countOf_65 rfl (lv_at hl 0 rfl) ?_
    refine k_get (T := TX6) (N := 27) X I inU6 0 dwG_0 rfl 4 (by decide) uw_4_3 rfl rfl dX6_countOf_66 ?_
    exact k_iretP X I hr hlocks dX6_countOf_69 hf
  rw [if_neg c2] at hf
  by_cases c3 : x1 = 2
  · rw [if_pos c3] at hf
    refine lv_tableIn (off := 69) (tgt := 70) hx hb dX6_countOf_1 (by rw [c3]; decide) (by rw [c3]; decide) (by rw [c3]; rfl) (by decide) ?_
    refine lv_aload_n hx hb dX6_countOf_70 rfl (lv_at hl 0 rfl) ?_
    obtain ⟨r4, h_r4, hf⟩ := k_bind hf
    refine k_callV (n := 0) (As := []) (rest := []) X I (c_X6_givenMany h_r4) uw_4_205 uw_4_207 us_29 uw_1_7 uw_4_208 ⟨rfl, rfl⟩ (by decide +kernel) rfl ⟨Nat.le_of_ble_eq_true rfl, Nat.le_of_ble_eq_true rfl⟩ ⟨Nat.le_of_ble_eq_true rfl, Nat.le_of_ble_eq_true rfl⟩ 0 dwG_0 rfl hl.1 rfl (Nat.le_of_ble_eq_true rfl) dX6_countOf_71 (st1 := [.int r4]) rfl (fun H locs I => ?_)
    exact k_iretP X I hr hlocks dX6_countOf_74 hf
  rw [if_neg c3] at hf
  by_cases c5 : x1 = 3
  · rw [if_pos c5] at hf
    refine lv_tableIn (off := 74) (tgt := 75) hx hb dX6_countOf_1 (by rw [c5]; decide) (by rw [c5]; decide) (by rw [c5]; rfl) (by decide) ?_
    refine lv_aload_n hx hb dX6_countOf_75 rfl (lv_at hl 0 rfl) ?_
    obtain ⟨r6, h_r6, hf⟩ := k_bind hf
    refine k_callV (n := 0) (As := []) (rest := []) X I (c_X6_givenFit h_r6) uw_5_23 uw_5_25 us_34 uw_1_7 uw_5_26 ⟨rfl, rfl⟩ (by decide +kernel) rfl ⟨Nat.le_of_ble_eq_true rfl, Nat.le_of_ble_eq_true rfl⟩ ⟨Nat.le_of_ble_eq_true rfl, Nat.le_of_ble_eq_true rfl⟩ 0 dwG_0 rfl hl.1 rfl (Nat.le_of_ble_eq_true rfl) dX6_countOf_76 (st1 := [.int r6]) rfl (fun H locs I => ?_)
    exact k_iretP X I hr hlocks dX6_countOf_79 hf
  rw [if_neg c5] at hf
  by_cases c7 : x1 = 4
  · rw [if_pos c7] at hf
    refine lv_tableIn (off := 79) (tgt := 80) hx hb dX6_countOf_1 (by rw [c7]; decide) (by rw [c7]; decide) (by rw [c7]; rfl) (by decide) ?_
    refine lv_aload_n hx hb dX6_countOf_80 rfl (lv_at hl 0 rfl) ?_
    obtain ⟨r8, h_r8, hf⟩ := k_bind hf
    refine k_callV (n := 0) (As := []) (rest := []) X I (c_X6_givenWrong h_r8) uw_5_27 uw_5_29 us_35 uw_1_7 uw_5_30 ⟨rfl, rfl⟩ (by decide +kernel) rfl ⟨Nat.le_of_ble_eq_true rfl, Nat.le_of_ble_eq_true rfl⟩ ⟨Nat.le_of_ble_eq_true rfl, Nat.le_of_ble_eq_true rfl⟩ 0 dwG_0 rfl hl.1 rfl (Nat.le_of_ble_eq_true rfl) dX6_countOf_81 (st1 := [.int r8]) rfl (fun H locs I => ?_)
    exact k_iretP X I hr hlocks dX6_countOf_84 hf
  rw [if_neg c7] at hf
  by_cases c9 : x1 = 5
  · rw [if_pos c9] at hf
    refine lv_tableIn (off := 84) (tgt := 85) hx hb dX6_countOf_1 (by rw [c9]; decide) (by rw [c9]; decide) (by rw [c9]; rfl) (by decide) ?_
    refine lv_aload_n hx hb dX6_countOf_85 rfl (lv_at hl 0 rfl) ?_
    refine k_get (T := TX6) (N := 27) X I inU6 0 dwG_0 rfl 5 (by decide) uw_4_4 rfl rfl dX6_countOf_86 ?_
    exact k_iretP X I hr hlocks dX6_countOf_89 hf
  rw [if_neg c9] at hf
  by_cases c10 : x1 = 6
  · rw [if_pos c10] at hf
    refine lv_tableIn (off := 89) (tgt := 90) hx hb dX6_countOf_1 (by rw [c10]; decide) (by rw [c10]; decide) (by rw [c10]; rfl) (by decide) ?_
    refine lv_aload_n hx hb dX6_countOf_90 rfl (lv_at hl 0 rfl) ?_
    refine k_get (T := TX6) (N := 27) X I inU6 0 dwG_0 rfl 6 (by decide) uw_4_5 rfl rfl dX6_countOf_91 ?_
    exact k_iretP X I hr hlocks dX6_countOf_94 hf
  rw [if_neg c10] at hf
  by_cases c11 : x1 = 7
  · rw [if_pos c11] at hf
    refine lv_tableIn (off := 94) (tgt := 95) hx hb dX6_countOf_1 (by rw [c11]; decide) (by rw [c11]; decide) (by rw [c11]; rfl) (by decide) ?_
    refine lv_aload_n hx hb dX6_countOf_95 rfl (lv_at hl 0 rfl) ?_
    refine k_get (T := TX6) (N := 27) X I inU6 0 dwG_0 rfl 7 (by decide) uw_4_6 rfl rfl dX6_countOf_96 ?_
    exact k_iretP X I hr hlocks dX6_countOf_99 hf
  rw [if_neg c11] at hf
  by_cases c12 : x1 = 8
  · rw [if_pos c12] at hf
    refine lv_tableIn (off := 99) (tgt := 100) hx hb dX6_countOf_1 (by rw [c12]; decide) (by rw [c12]; decide) (by rw [c12]; rfl) (by decide) ?_
    refine lv_aload_n hx hb dX6_countOf_100 rfl (lv_at hl 0 rfl) ?_
    refine k_get (T := TX6) (N := 27) X I inU6 0 dwG_0 rfl 14 (by decide) uw_4_13 rfl rfl dX6_countOf_101 ?_
    exact k_iretP X I hr hlocks dX6_countOf_104 hf
  rw [if_neg c12] at hf
  by_cases c13 : x1 = 9
  · rw [if_pos c13] at hf
    refine lv_tableIn (off := 104) (tgt := 105) hx hb dX6_countOf_1 (by rw [c13]; decide) (by rw [c13]; decide) (by rw [c13]; rfl) (by decide) ?_
    refine lv_aload_n hx hb dX6_countOf_105 rfl (lv_at hl 0 rfl) ?_
    refine k_get (T := TX6) (N := 27) X I inU6 0 dwG_0 rfl 1 (by decide) uw_4_0 rfl rfl dX6_countOf_106 ?_
    exact k_iretP X I hr hlocks dX6_countOf_109 hf
  rw [if_neg c13] at hf
  by_cases c14 : x1 = 10
  · rw [if_pos c14] at hf
    refine lv_tableIn (off := 109) (tgt := 110) hx hb dX6_countOf_1 (by rw [c14]; decide) (by rw [c14]; decide) (by rw [c14]; rfl) (by decide) ?_
    refine lv_aload_n hx hb dX6_countOf_110 rfl (lv_at hl 0 rfl) ?_
    refine k_get (T := TX6) (N := 27) X I inU6 0 dwG_0 rfl 8 (by decide) uw_4_7 rfl rfl dX6_countOf_111 ?_
    exact k_iretP X I hr hlocks dX6_countOf_114 hf
  rw [if_neg c14] at hf
  refine lv_tableOut (tgt := 115) hx hb dX6_countOf_1 (sw_out fun k h1 h2 h3 => by
      have h4 : k = 0 ∨ k = 1 ∨ k = 2 ∨ k = 3 ∨ k = 4 ∨ k = 5 ∨ k = 6 ∨ k = 7 ∨ k = 8 ∨ k = 9 ∨ k = 10 := by omega
      rcases h4 with rfl | rfl | rfl | rfl | rfl | rfl | rfl | rfl | rfl | rfl | rfl
      · exact c1 (sw_eq h3 (by decide))
      · exact c2 (sw_eq h3 (by decide))
      · exact c3 (sw_eq h3 (by decide))
      · exact c5 (sw_eq h3 (by decide))
      · exact c7 (sw_eq h3 (by decide))
      · exact c9 (sw_eq h3 (by decide))
      · exact c10 (sw_eq h3 (by decide))
      · exact c11 (sw_eq h3 (by decide))
      · exact c12 (sw_eq h3 (by decide))
      · exact c13 (sw_eq h3 (by decide))
      · exact c14 (sw_eq h3 (by decide))) (by decide) ?_
  refine lv_bipush (v := (-102)) hx hb dX6_countOf_115 (by decide) ?_
  exact k_iretP X I hr hlocks dX6_countOf_117 hf
/-! LostTentModel.count(I)I -/
abbrev rm_X6_count : Room := { frames := 5, cells := 0, slots := 0, locals := 115 }
def f_X6_count (x1 : Int32) (M : xM) : Option Int32 :=
  (f_X6_countOf x1 M).bind fun r1 =>
  some r1
set_option maxRecDepth 100000 in
set_option maxHeartbeats 8000000 in
theorem c_X6_count {l : Launch} {D : va_G} {aI : ClassId} {q t : Nat → Nat} {x1 : Int32} {M : xM} {r : Int32} (hf : f_X6_count x1 M = some r) : kM l yX6_count (wk yX6_count cX6_count 2 (some .int)) rm_X6_count (dw q aI) D aI t [.ref (q 0), .int x1] M (some (.int r)) M := by
  refine kM_of (by decide) (Nat.le_of_ble_eq_true rfl) ?_
  intro p e s m args below meth c A ls X hr hlocks hl I
  have hx := X.1
  have hb := X.2.1
  have hl : lv_has ls 2 [(0, .ref (q 0)), (1, .int x1)] := hl
  rw [f_X6_count] at hf
  refine lv_aload_n hx hb dX6_count_0 rfl (lv_at hl 0 rfl) ?_
  refine lv_iload_n hx hb dX6_count_1 rfl (lv_at hl 1 rfl) ?_
  obtain ⟨r1, h_r1, hf⟩ := k_bind hf
  refine k_callV (n := 1) (As := [.int x1]) (rest := []) X I (c_X6_countOf h_r1) uw_5_19 uw_5_21 us_33 uw_1_7 uw_5_22 ⟨rfl, rfl⟩ (by decide +kernel) rfl ⟨Nat.le_of_ble_eq_true rfl, Nat.le_of_ble_eq_true rfl⟩ ⟨Nat.le_of_ble_eq_true rfl, Nat.le_of_ble_eq_true rfl⟩ 0 dwG_0 rfl hl.1 rfl (Nat.le_of_ble_eq_true rfl) dX6_count_2 (st1 := [.int r1]) rfl (fun H locs I => ?_)
  exact k_iretP X I hr hlocks dX6_count_5 hf
/-! LostTentModel.say(J)V -/
abbrev rm_X6_say : Room := { frames := 0, cells := 0, slots := 0, locals := 0 }
def f_X6_say (x1 : Int64) (M : xM) : Option xM :=
  nmM (xL M (((31 : Int64) * M.2.1) + x1)) fun M1 =>
  some M1
set_option maxRecDepth 100000 in
set_option maxHeartbeats 8000000 in
theorem c_X6_say {l : Launch} {D : va_G} {aI : ClassId} {q t : Nat → Nat} {x1 : Int64} {M : xM} {Mr : xM} (hf : f_X6_say x1 M = some Mr) : kM l yX6_say (wk yX6_say cX6_say 3 none) rm_X6_say (dw q aI) D aI t [.ref (q 0), .long x1] M none Mr := by
  refine kM_of (by decide) (Nat.le_of_ble_eq_true rfl) ?_
  intro p e s m args below meth c A ls X hr hlocks hl I
  have hx := X.1
  have hb := X.2.1
  have hl : lv_has ls 3 [(0, .ref (q 0)), (1, .long x1)] := hl
  rw [f_X6_say] at hf
  refine lv_aload_n hx hb dX6_say_0 rfl (lv_at hl 0 rfl) ?_
  refine lv_ldc2 (v := 31) hx hb X.2.2.2.1 (X.2.2.2.2.1 _ uw_5_40) dX6_say_1 ?_
  refine lv_aload_n hx hb dX6_say_4 rfl (lv_at hl 0 rfl) ?_
  refine k_get (T := TX6) (N := 27) X I inU6 0 dwG_0 rfl 26 (by decide) uw_4_25 rfl rfl dX6_say_5 ?_
  refine lv_lmul hx hb dX6_say_8 ?_
  refine lv_lload_n hx hb dX6_say_9 rfl (lv_at hl 1 rfl) ?_
  refine lv_ladd hx hb dX6_say_10 ?_
  obtain ⟨M1, e_M1, hf⟩ := k_nm hf
  refine k_put (T := TX6) (N := 27) (M1 := M1) X I inU6 tyX6 tyX6_ok nmX6 0 dwG_0 rfl 26 (by decide) uw_4_25 rfl rfl (tyX6_ok 26 (by decide)) rfl rfl (Nat.le_of_ble_eq_true rfl) dX6_say_11 (dwL.trans (congrArg (dw q aI) e_M1)) (fun H locs I => ?_)
  exact k_vret X I hr hlocks dX6_say_14 hf
/-! LostTentModel.digest()J -/
abbrev rm_X6_digest : Room := { frames := 5, cells := 0, slots := 0, locals := 126 }
def f_X6_digest_l197 : Nat → Int32 → xM → Option (Int64 × xM)
  | 0, _, _ => none
  | n197 + 1, x1, Mb =>
    if (11 : Int32) ≤ x1 then
      some (Mb.2.1, Mb)
    else
      (f_X6_countOf x1 Mb).bind fun r8 =>
      (f_X6_say r8.toInt64 Mb).bind fun M9 =>
      (f_X6_digest_l197 n197) (x1 + 1) M9
def f_X6_digest_l170 : Nat → Int32 → xM → Option (Int64 × xM)
  | 0, _, _ => none
  | n170 + 1, x1, Mb =>
    if (Mb.1 0) ≤ x1 then
      f_X6_digest_l197 xN (0 : Int32) Mb
    else
      (xld 36 (Mb.2.2 0) x1).bind fun r10 =>
      (f_X6_say r10.toInt64 Mb).bind fun M11 =>
      (f_X6_digest_l170 n170) (x1 + 1) M11
def f_X6_digest_b168 (Mb : xM) : Option (Int64 × xM) :=
  f_X6_digest_l170 xN (0 : Int32) Mb
def f_X6_digest_l146 : Nat → Int32 → xM → Option (Int64 × xM)
  | 0, _, _ => none
  | n146 + 1, x1, Mb =>
    if (13 : Int32) ≤ x1 then
      f_X6_digest_b168 Mb
    else
      ob2 (f_X6_matchOf x1 Mb) fun r19 M20 =>
      (f_X6_say r19.toInt64 M20).bind fun M21 =>
      (f_X6_digest_l146 n146) (x1 + 1) M21
def f_X6_digest_l85 (k50 : Int32 → xM → Option (Int64 × xM)) : Nat → Int32 → Int32 → xM → Option (Int64 × xM)
  | 0, _, _, _ => none
  | n85 + 1, x1, x2, Mb =>
    if (Mb.1 2) ≤ x2 then
      k50 (x1 + 1) Mb
    else
      (f_X6_wrongOf x2 x1 Mb).bind fun r24 =>
      (f_X6_say r24.toInt64 Mb).bind fun M25 =>
      (f_X6_digest_l85 k50 n85) x1 (x2 + 1) M25
def f_X6_digest_l60 (k50 : Int32 → xM → Option (Int64 × xM)) : Nat → Int32 → Int32 → xM → Option (Int64 × xM)
  | 0, _, _, _ => none
  | n60 + 1, x1, x2, Mb =>
    if (7 : Int32) ≤ x2 then
      f_X6_digest_l85 k50 xN x1 (0 : Int32) Mb
    else
      ob2 (f_X6_tellClaimer x1 x2 Mb) fun r26 M27 =>
      (f_X6_say r26.toInt64 M27).bind fun M28 =>
      (f_X6_digest_l60 k50 n60) x1 (x2 + 1) M28
def f_X6_digest_l50 : Nat → Int32 → xM → Option (Int64 × xM)
  | 0, _, _ => none
  | n50 + 1, x1, Mb =>
    if (Mb.1 3) ≤ x1 then
      (f_X6_lacks Mb).bind fun r4 =>
      if r4 = 0 then
        ob2 (f_X6_matchOf (0 : Int32) Mb) fun r12 M13 =>
        (f_X6_say r12.toInt64 M13).bind fun M14 =>
        ob2 (f_X6_matchOf (1 : Int32) M14) fun r15 M16 =>
        (f_X6_say r15.toInt64 M16).bind fun M17 =>
        f_X6_digest_l146 xN (10 : Int32) M17
      else
        f_X6_digest_b168 Mb
    else
      f_X6_digest_l60 (f_X6_digest_l50 n50) xN x1 (0 : Int32) Mb
def f_X6_digest_l19 (k9 : Int32 → xM → Option (Int64 × xM)) : Nat → Int32 → Int32 → xM → Option (Int64 × xM)
  | 0, _, _, _ => none
  | n19 + 1, x1, x2, Mb =>
    if (7 : Int32) ≤ x2 then
      k9 (x1 + 1) Mb
    else
      (f_X6_tellThing x1 x2 Mb).bind fun r30 =>
      (f_X6_say r30.toInt64 Mb).bind fun M31 =>
      (f_X6_digest_l19 k9 n19) x1 (x2 + 1) M31
def f_X6_digest_l9 : Nat → Int32 → xM → Option (Int64 × xM)
  | 0, _, _ => none
  | n9 + 1, x1, Mb =>
    if (Mb.1 2) ≤ x1 then
      f_X6_digest_l50 xN (0 : Int32) Mb
    else
      f_X6_digest_l19 (f_X6_digest_l9 n9) xN x1 (0 : Int32) Mb
def f_X6_digest (M : xM) : Option (Int64 × xM) :=
  nmM (xL M (1087 : Int64)) fun M1 =>
  f_X6_digest_l9 xN (0 : Int32) M1
set_option maxRecDepth 100000 in
set_option maxHeartbeats 8000000 in
theorem c_X6_digest {l : Launch} {D : va_G} {aI : ClassId} {q t : Nat → Nat} {M : xM} {r : Int64} {Mr : xM} (hf : f_X6_digest M = some (r, Mr)) : kM l yX6_digest (wk yX6_digest cX6_digest 3 (some .long)) rm_X6_digest (dw q aI) D aI t [.ref (q 0)] M (some (.long r)) Mr := by
  refine kM_of (by decide) (Nat.le_of_ble_eq_true rfl) ?_
  intro p e s m args below meth c A ls X hr hlocks hl I
  have hx := X.1
  have hb := X.2.1
  have hl : lv_has ls 3 [(0, .ref (q 0))] := hl
  have B197 : ∀ (n197 : Nat), ∀ (x1 : Int32) (Mb : xM) (H : Heap) (locs : List Loc) (ls : Array Slot), f_X6_digest_l197 n197 x1 Mb = some (r, Mr) → kI (dw q aI) D A s Mb H locs → lv_has ls 3 [(0, .ref (q 0)), (1, .int x1)] → W p l e rm_X6_digest s m args below meth c H locs 0 0 (MQ below (kQ (dw q aI) D A (some (.long r)) Mr) args s 0 0 A) (F0 m 197 ls []) := by
    intro n197
    induction n197 with
    | zero =>
      intro x1 Mb H locs ls hf I hl
      rw [f_X6_digest_l197] at hf
      cases hf
    | succ n197 ih197 =>
      intro x1 Mb H locs ls hf I hl
      rw [f_X6_digest_l197] at hf
      refine lv_iload_n hx hb dX6_digest_197 rfl (lv_at hl 1 rfl) ?_
      refine lv_bipush (v := 11) hx hb dX6_digest_198 (by decide) ?_
      refine lv_icmp_ge (tgt := 219) hx hb dX6_digest_200 (by decide) (fun c7 => ?_) (fun c7 => ?_)
      · rw [if_pos c7] at hf
        refine lv_aload_n hx hb dX6_digest_219 rfl (lv_at hl 0 rfl) ?_
        refine k_get (T := TX6) (N := 27) X I inU6 0 dwG_0 rfl 26 (by decide) uw_4_25 rfl rfl dX6_digest_220 ?_
        exact k_lret X I hr hlocks dX6_digest_223 hf
      · rw [if_neg c7] at hf
        refine lv_aload_n hx hb dX6_digest_203 rfl (lv_at hl 0 rfl) ?_
        refine lv_aload_n hx hb dX6_digest_204 rfl (lv_at hl 0 rfl) ?_
        refine lv_iload_n hx hb dX6_digest_205 rfl (lv_at hl 1 rfl) ?_
        obtain ⟨r8, h_r8, hf⟩ := k_bind hf
        refine k_callV (n := 1) (As := [.int x1]) (rest := [.ref (q 0)]) X I (c_X6_countOf h_r8) uw_5_19 uw_5_21 us_33 uw_1_7 uw_5_22 ⟨rfl, rfl⟩ (by decide +kernel) rfl ⟨Nat.le_of_ble_eq_true rfl, Nat.le_of_ble_eq_true rfl⟩ ⟨Nat.le_of_ble_eq_true rfl, Nat.le_of_ble_eq_true rfl⟩ 0 dwG_0 rfl hl.1 rfl (Nat.le_of_ble_eq_true rfl) dX6_digest_206 (st1 := [.int r8, .ref (q 0)]) rfl (fun H locs I => ?_)
        refine lv_i2l hx hb dX6_digest_209 rfl ?_
        obtain ⟨M9, h_M9, hf⟩ := k_bind hf
        refine k_callV (n := 1) (As := [.long r8.toInt64]) (rest := []) X I (c_X6_say h_M9) uw_5_36 uw_5_38 us_36 uw_1_7 uw_5_39 ⟨rfl, rfl⟩ (by decide +kernel) rfl ⟨Nat.le_of_ble_eq_true rfl, Nat.le_of_ble_eq_true rfl⟩ ⟨Nat.le_of_ble_eq_true rfl, Nat.le_of_ble_eq_true rfl⟩ 0 dwG_0 rfl hl.1 rfl (Nat.le_of_ble_eq_true rfl) dX6_digest_210 (st1 := []) rfl (fun H locs I => ?_)
        refine lv_iinc (v := (x1 + 1)) (lv' := [(1, .int (x1 + 1)), (0, .ref (q 0))]) hx hb dX6_digest_213 hl (k := 1) rfl rfl (by decide) rfl (fun ls hl => ?_)
        refine lv_goto (tgt := 197) hx hb dX6_digest_216 (by decide) ?_
        exact ih197 (x1 + 1) M9 _ _ ls hf I (lv_sub hl [1, 0] rfl)
  have B170 : ∀ (n170 : Nat), ∀ (x1 : Int32) (Mb : xM) (H : Heap) (locs : List Loc) (ls : Array Slot), f_X6_digest_l170 n170 x1 Mb = some (r, Mr) → kI (dw q aI) D A s Mb H locs → lv_has ls 3 [(0, .ref (q 0)), (1, .int x1)] → W p l e rm_X6_digest s m args below meth c H locs 0 0 (MQ below (kQ (dw q aI) D A (some (.long r)) Mr) args s 0 0 A) (F0 m 170 ls []) := by
    intro n170
    induction n170 with
    | zero =>
      intro x1 Mb H locs ls hf I hl
      rw [f_X6_digest_l170] at hf
      cases hf
    | succ n170 ih170 =>
      intro x1 Mb H locs ls hf I hl
      rw [f_X6_digest_l170] at hf
      refine lv_iload_n hx hb dX6_digest_170 rfl (lv_at hl 1 rfl) ?_
      refine lv_aload_n hx hb dX6_digest_171 rfl (lv_at hl 0 rfl) ?_
      refine k_get (T := TX6) (N := 27) X I inU6 0 dwG_0 rfl 1 (by decide) uw_4_0 rfl rfl dX6_digest_172 ?_
      refine lv_icmp_ge (tgt := 195) hx hb dX6_digest_175 (by decide) (fun c6 => ?_) (fun c6 => ?_)
      · rw [if_pos c6] at hf
        refine lv_iconst (v := 0) hx hb dX6_digest_195 (by decide) ?_
        refine lv_istore_n (lv' := [(1, .int (0 : Int32)), (0, .ref (q 0))]) hx hb dX6_digest_196 rfl hl (by decide) rfl (fun ls hl => ?_)
        exact B197 xN (0 : Int32) Mb _ _ ls hf I (lv_sub hl [1, 0] rfl)
      · rw [if_neg c6] at hf
        refine lv_aload_n hx hb dX6_digest_178 rfl (lv_at hl 0 rfl) ?_
        refine lv_aload_n hx hb dX6_digest_179 rfl (lv_at hl 0 rfl) ?_
        refine k_get (T := TX6) (N := 27) X I inU6 0 dwG_0 rfl 0 (by decide) uw_3_239 rfl rfl dX6_digest_180 ?_
        refine lv_iload_n hx hb dX6_digest_183 rfl (lv_at hl 1 rfl) ?_
        obtain ⟨r10, h_r10, hf⟩ := k_bind hf
        refine k_ald X I h_r10 1 dwG_1 dX6_digest_184 ?_
        refine lv_i2l hx hb dX6_digest_185 rfl ?_
        obtain ⟨M11, h_M11, hf⟩ := k_bind hf
        refine k_callV (n := 1) (As := [.long r10.toInt64]) (rest := []) X I (c_X6_say h_M11) uw_5_36 uw_5_38 us_36 uw_1_7 uw_5_39 ⟨rfl, rfl⟩ (by decide +kernel) rfl ⟨Nat.le_of_ble_eq_true rfl, Nat.le_of_ble_eq_true rfl⟩ ⟨Nat.le_of_ble_eq_true rfl, Nat.le_of_ble_eq_true rfl⟩ 0 dwG_0 rfl hl.1 rfl (Nat.le_of_ble_eq_true rfl) dX6_digest_186 (st1 := []) rfl (fun H locs I => ?_)
        refine lv_iinc (v := (x1 + 1)) (lv' := [(1, .int (x1 + 1)), (0, .ref (q 0))]) hx hb dX6_digest_189 hl (k := 1) rfl rfl (by decide) rfl (fun ls hl => ?_)
        refine lv_goto (tgt := 170) hx hb dX6_digest_192 (by decide) ?_
        exact ih170 (x1 + 1) M11 _ _ ls hf I (lv_sub hl [1, 0] rfl)
  have B168 : ∀ (Mb : xM) (H : Heap) (locs : List Loc) (ls : Array Slot), f_X6_digest_b168 Mb = some (r, Mr) → kI (dw q aI) D A s Mb H locs → lv_has ls 3 [(0, .ref (q 0))] → W p l e rm_X6_digest s m args below meth c H locs 0 0 (MQ below (kQ (dw q aI) D A (some (.long r)) Mr) args s 0 0 A) (F0 m 168 ls []) := by
    intro Mb H locs ls hf I hl
    rw [f_X6_digest_b168] at hf
    refine lv_iconst (v := 0) hx hb dX6_digest_168 (by decide) ?_
    refine lv_istore_n (lv' := [(1, .int (0 : Int32)), (0, .ref (q 0))]) hx hb dX6_digest_169 rfl hl (by decide) rfl (fun ls hl => ?_)
    exact B170 xN (0 : Int32) Mb _ _ ls hf I (lv_sub hl [1, 0] rfl)
  have B146 : ∀ (n146 : Nat), ∀ (x1 : Int32) (Mb : xM) (H : Heap) (locs : List Loc) (ls : Array Slot), f_X6_digest_l146 n146 x1 Mb = some (r, Mr) → kI (dw q aI) D A s Mb H locs → lv_has ls 3 [(0, .ref (q 0)), (1, .int x1)] → W p l e rm_X6_digest s m args below meth c H locs 0 0 (MQ below (kQ (dw q aI) D A (some (.long r)) Mr) args s 0 0 A) (F0 m 146 ls []) := by
    intro n146
    induction n146 with
    | zero =>
      intro x1 Mb H locs ls hf I hl
      rw [f_X6_digest_l146] at hf
      cases hf
    | succ n146 ih146 =>
      intro x1 Mb H locs ls hf I hl
      rw [f_X6_digest_l146] at hf
      refine lv_iload_n hx hb dX6_digest_146 rfl (lv_at hl 1 rfl) ?_
      refine lv_bipush (v := 13) hx hb dX6_digest_147 (by decide) ?_
      refine lv_icmp_ge (tgt := 168) hx hb dX6_digest_149 (by decide) (fun c18 => ?_) (fun c18 => ?_)
      · rw [if_pos c18] at hf
        exact B168 Mb _ _ ls hf I (lv_sub hl [0] rfl)
      · rw [if_neg c18] at hf
        refine lv_aload_n hx hb dX6_digest_152 rfl (lv_at hl 0 rfl) ?_
        refine lv_aload_n hx hb dX6_digest_153 rfl (lv_at hl 0 rfl) ?_
        refine lv_iload_n hx hb dX6_digest_154 rfl (lv_at hl 1 rfl) ?_
        obtain ⟨r19, M20, h_r19, hf⟩ := k_bind2 hf
        refine k_callV (n := 1) (As := [.int x1]) (rest := [.ref (q 0)]) X I (c_X6_matchOf h_r19) uw_4_215 uw_4_217 us_30 uw_1_7 uw_4_218 ⟨rfl, rfl⟩ (by decide +kernel) rfl ⟨Nat.le_of_ble_eq_true rfl, Nat.le_of_ble_eq_true rfl⟩ ⟨Nat.le_of_ble_eq_true rfl, Nat.le_of_ble_eq_true rfl⟩ 0 dwG_0 rfl hl.1 rfl (Nat.le_of_ble_eq_true rfl) dX6_digest_155 (st1 := [.int r19, .ref (q 0)]) rfl (fun H locs I => ?_)
        refine lv_i2l hx hb dX6_digest_158 rfl ?_
        obtain ⟨M21, h_M21, hf⟩ := k_bind hf
        refine k_callV (n := 1) (As := [.long r19.toInt64]) (rest := []) X I (c_X6_say h_M21) uw_5_36 uw_5_38 us_36 uw_1_7 uw_5_39 ⟨rfl, rfl⟩ (by decide +kernel) rfl ⟨Nat.le_of_ble_eq_true rfl, Nat.le_of_ble_eq_true rfl⟩ ⟨Nat.le_of_ble_eq_true rfl, Nat.le_of_ble_eq_true rfl⟩ 0 dwG_0 rfl hl.1 rfl (Nat.le_of_ble_eq_true rfl) dX6_digest_159 (st1 := []) rfl (fun H locs I => ?_)
        refine lv_iinc (v := (x1 + 1)) (lv' := [(1, .int (x1 + 1)), (0, .ref (q 0))]) hx hb dX6_digest_162 hl (k := 1) rfl rfl (by decide) rfl (fun ls hl => ?_)
        refine lv_goto (tgt := 146) hx hb dX6_digest_165 (by decide) ?_
        exact ih146 (x1 + 1) M21 _ _ ls hf I (lv_sub hl [1, 0] rfl)
  have B85 : ∀ (k50 : Int32 → xM → Option (Int64 × xM)), (∀ (x1 : Int32) (Mb : xM) (H : Heap) (locs : List Loc) (ls : Array Slot), k50 x1 Mb = some (r, Mr) → kI (dw q aI) D A s Mb H locs → lv_has ls 3 [(0, .ref (q 0)), (1, .int x1)] → W p l e rm_X6_digest s m args below meth c H locs 0 0 (MQ below (kQ (dw q aI) D A (some (.long r)) Mr) args s 0 0 A) (F0 m 50 ls [])) → ∀ (n85 : Nat), ∀ (x1 : Int32) (x2 : Int32) (Mb : xM) (H : Heap) (locs : List Loc) (ls : Array Slot), f_X6_digest_l85 k50 n85 x1 x2 Mb = some (r, Mr) → kI (dw q aI) D A s Mb H locs → lv_has ls 3 [(0, .ref (q 0)), (1, .int x1), (2, .int x2)] → W p l e rm_X6_digest s m args below meth c H locs 0 0 (MQ below (kQ (dw q aI) D A (some (.long r)) Mr) args s 0 0 A) (F0 m 85 ls []) := by
    intro k50 hk50
    intro n85
    induction n85 with
    | zero =>
      intro x1 x2 Mb H locs ls hf I hl
      rw [f_X6_digest_l85] at hf
      cases hf
    | succ n85 ih85 =>
      intro x1 x2 Mb H locs ls hf I hl
      rw [f_X6_digest_l85] at hf
      refine lv_iload_n hx hb dX6_digest_85 rfl (lv_at hl 2 rfl) ?_
      refine lv_aload_n hx hb dX6_digest_86 rfl (lv_at hl 0 rfl) ?_
      refine k_get (T := TX6) (N := 27) X I inU6 0 dwG_0 rfl 3 (by decide) uw_4_2 rfl rfl dX6_digest_87 ?_
      refine lv_icmp_ge (tgt := 110) hx hb dX6_digest_90 (by decide) (fun c23 => ?_) (fun c23 => ?_)
      · rw [if_pos c23] at hf
        refine lv_iinc (v := (x1 + 1)) (lv' := [(1, .int (x1 + 1)), (0, .ref (q 0)), (2, .int x2)]) hx hb dX6_digest_110 hl (k := 1) rfl rfl (by decide) rfl (fun ls hl => ?_)
        refine lv_goto (tgt := 50) hx hb dX6_digest_113 (by decide) ?_
        exact hk50 (x1 + 1) Mb _ _ ls hf I (lv_sub hl [1, 0] rfl)
      · rw [if_neg c23] at hf
        refine lv_aload_n hx hb dX6_digest_93 rfl (lv_at hl 0 rfl) ?_
        refine lv_aload_n hx hb dX6_digest_94 rfl (lv_at hl 0 rfl) ?_
        refine lv_iload_n hx hb dX6_digest_95 rfl (lv_at hl 2 rfl) ?_
        refine lv_iload_n hx hb dX6_digest_96 rfl (lv_at hl 1 rfl) ?_
        obtain ⟨r24, h_r24, hf⟩ := k_bind hf
        refine k_callV (n := 2) (As := [.int x2, .int x1]) (rest := [.ref (q 0)]) X I (c_X6_wrongOf h_r24) uw_4_135 uw_4_137 us_19 uw_1_7 uw_4_138 ⟨rfl, rfl⟩ (by decide +kernel) rfl ⟨Nat.le_of_ble_eq_true rfl, Nat.le_of_ble_eq_true rfl⟩ ⟨Nat.le_of_ble_eq_true rfl, Nat.le_of_ble_eq_true rfl⟩ 0 dwG_0 rfl hl.1 rfl (Nat.le_of_ble_eq_true rfl) dX6_digest_97 (st1 := [.int r24, .ref (q 0)]) rfl (fun H locs I => ?_)
        refine lv_i2l hx hb dX6_digest_100 rfl ?_
        obtain ⟨M25, h_M25, hf⟩ := k_bind hf
        refine k_callV (n := 1) (As := [.long r24.toInt64]) (rest := []) X I (c_X6_say h_M25) uw_5_36 uw_5_38 us_36 uw_1_7 uw_5_39 ⟨rfl, rfl⟩ (by decide +kernel) rfl ⟨Nat.le_of_ble_eq_true rfl, Nat.le_of_ble_eq_true rfl⟩ ⟨Nat.le_of_ble_eq_true rfl, Nat.le_of_ble_eq_true rfl⟩ 0 dwG_0 rfl hl.1 rfl (Nat.le_of_ble_eq_true rfl) dX6_digest_101 (st1 := []) rfl (fun H locs I => ?_)
        refine lv_iinc (v := (x2 + 1)) (lv' := [(2, .int (x2 + 1)), (0, .ref (q 0)), (1, .int x1)]) hx hb dX6_digest_104 hl (k := 2) rfl rfl (by decide) rfl (fun ls hl => ?_)
        refine lv_goto (tgt := 85) hx hb dX6_digest_107 (by decide) ?_
        exact ih85 x1 (x2 + 1) M25 _ _ ls hf I (lv_sub hl [1, 2, 0] rfl)
  have B60 : ∀ (k50 : Int32 → xM → Option (Int64 × xM)), (∀ (x1 : Int32) (Mb : xM) (H : Heap) (locs : List Loc) (ls : Array Slot), k50 x1 Mb = some (r, Mr) → kI (dw q aI) D A s Mb H locs → lv_has ls 3 [(0, .ref (q 0)), (1, .int x1)] → W p l e rm_X6_digest s m args below meth c H locs 0 0 (MQ below (kQ (dw q aI) D A (some (.long r)) Mr) args s 0 0 A) (F0 m 50 ls [])) → ∀ (n60 : Nat), ∀ (x1 : Int32) (x2 : Int32) (Mb : xM) (H : Heap) (locs : List Loc) (ls : Array Slot), f_X6_digest_l60 k50 n60 x1 x2 Mb = some (r, Mr) → kI (dw q aI) D A s Mb H locs → lv_has ls 3 [(0, .ref (q 0)), (1, .int x1), (2, .int x2)] → W p l e rm_X6_digest s m args below meth c H locs 0 0 (MQ below (kQ (dw q aI) D A (some (.long r)) Mr) args s 0 0 A) (F0 m 60 ls []) := by
    intro k50 hk50
    intro n60
    induction n60 with
    | zero =>
      intro x1 x2 Mb H locs ls hf I hl
      rw [f_X6_digest_l60] at hf
      cases hf
    | succ n60 ih60 =>
      intro x1 x2 Mb H locs ls hf I hl
      rw [f_X6_digest_l60] at hf
      refine lv_iload_n hx hb dX6_digest_60 rfl (lv_at hl 2 rfl) ?_
      refine lv_bipush (v := 7) hx hb dX6_digest_61 (by decide) ?_
      refine lv_icmp_ge (tgt := 83) hx hb dX6_digest_63 (by decide) (fun c22 => ?_) (fun c22 => ?_)
      · rw [if_pos c22] at hf
        refine lv_iconst (v := 0) hx hb dX6_digest_83 (by decide) ?_
        refine lv_istore_n (lv' := [(2, .int (0 : Int32)), (0, .ref (q 0)), (1, .int x1)]) hx hb dX6_digest_84 rfl hl (by decide) rfl (fun ls hl => ?_)
        exact B85 k50 hk50 xN x1 (0 : Int32) Mb _ _ ls hf I (lv_sub hl [1, 2, 0] rfl)
      · rw [if_neg c22] at hf
        refine lv_aload_n hx hb dX6_digest_66 rfl (lv_at hl 0 rfl) ?_
        refine lv_aload_n hx hb dX6_digest_67 rfl (lv_at hl 0 rfl) ?_
        refine lv_iload_n hx hb dX6_digest_68 rfl (lv_at hl 1 rfl) ?_
        refine lv_iload_n hx hb dX6_digest_69 rfl (lv_at hl 2 rfl) ?_
        obtain ⟨r26, M27, h_r26, hf⟩ := k_bind2 hf
        refine k_callV (n := 2) (As := [.int x1, .int x2]) (rest := [.ref (q 0)]) X I (c_X6_tellClaimer h_r26) uw_4_163 uw_4_165 us_25 uw_1_7 uw_4_166 ⟨rfl, rfl⟩ (by decide +kernel) rfl ⟨Nat.le_of_ble_eq_true rfl, Nat.le_of_ble_eq_true rfl⟩ ⟨Nat.le_of_ble_eq_true rfl, Nat.le_of_ble_eq_true rfl⟩ 0 dwG_0 rfl hl.1 rfl (Nat.le_of_ble_eq_true rfl) dX6_digest_70 (st1 := [.int r26, .ref (q 0)]) rfl (fun H locs I => ?_)
        refine lv_i2l hx hb dX6_digest_73 rfl ?_
        obtain ⟨M28, h_M28, hf⟩ := k_bind hf
        refine k_callV (n := 1) (As := [.long r26.toInt64]) (rest := []) X I (c_X6_say h_M28) uw_5_36 uw_5_38 us_36 uw_1_7 uw_5_39 ⟨rfl, rfl⟩ (by decide +kernel) rfl ⟨Nat.le_of_ble_eq_true rfl, Nat.le_of_ble_eq_true rfl⟩ ⟨Nat.le_of_ble_eq_true rfl, Nat.le_of_ble_eq_true rfl⟩ 0 dwG_0 rfl hl.1 rfl (Nat.le_of_ble_eq_true rfl) dX6_digest_74 (st1 := []) rfl (fun H locs I => ?_)
        refine lv_iinc (v := (x2 + 1)) (lv' := [(2, .int (x2 + 1)), (0, .ref (q 0)), (1, .int x1)]) hx hb dX6_digest_77 hl (k := 2) rfl rfl (by decide) rfl (fun ls hl => ?_)
        refine lv_goto (tgt := 60) hx hb dX6_digest_80 (by decide) ?_
        exact ih60 x1 (x2 + 1) M28 _ _ ls hf I (lv_sub hl [1, 2, 0] rfl)
  have B50 : ∀ (n50 : Nat), ∀ (x1 : Int32) (Mb : xM) (H : Heap) (locs : List Loc) (ls : Array Slot), f_X6_digest_l50 n50 x1 Mb = some (r, Mr) → kI (dw q aI) D A s Mb H locs → lv_has ls 3 [(0, .ref (q 0)), (1, .int x1)] → W p l e rm_X6_digest s m args below meth c H locs 0 0 (MQ below (kQ (dw q aI) D A (some (.long r)) Mr) args s 0 0 A) (F0 m 50 ls []) := by
    intro n50
    induction n50 with
    | zero =>
      intro x1 Mb H locs ls hf I hl
      rw [f_X6_digest_l50] at hf
      cases hf
    | succ n50 ih50 =>
      intro x1 Mb H locs ls hf I hl
      rw [f_X6_digest_l50] at hf
      refine lv_iload_n hx hb dX6_digest_50 rfl (lv_at hl 1 rfl) ?_
      refine lv_aload_n hx hb dX6_digest_51 rfl (lv_at hl 0 rfl) ?_
      refine k_get (T := TX6) (N := 27) X I inU6 0 dwG_0 rfl 4 (by decide) uw_4_3 rfl rfl dX6_digest_52 ?_
      refine lv_icmp_ge (tgt := 116) hx hb dX6_digest_55 (by decide) (fun c3 => ?_) (fun c3 => ?_)
      · rw [if_pos c3] at hf
        refine lv_aload_n hx hb dX6_digest_116 rfl (lv_at hl 0 rfl) ?_
        obtain ⟨r4, h_r4, hf⟩ := k_bind hf
        refine k_callV (n := 0) (As := []) (rest := []) X I (c_X6_lacks h_r4) uw_4_201 uw_4_203 us_28 uw_1_7 uw_4_204 ⟨rfl, rfl⟩ (by decide +kernel) rfl ⟨Nat.le_of_ble_eq_true rfl, Nat.le_of_ble_eq_true rfl⟩ ⟨Nat.le_of_ble_eq_true rfl, Nat.le_of_ble_eq_true rfl⟩ 0 dwG_0 rfl hl.1 rfl (Nat.le_of_ble_eq_true rfl) dX6_digest_117 (st1 := [.int r4]) rfl (fun H locs I => ?_)
        refine lv_if_ne (tgt := 168) hx hb dX6_digest_120 (by decide) (fun c5 => ?_) (fun c5 => ?_)
        · rw [if_neg c5] at hf
          exact B168 Mb _ _ ls hf I (lv_sub hl [0] rfl)
        · rw [if_pos c5] at hf
          refine lv_aload_n hx hb dX6_digest_123 rfl (lv_at hl 0 rfl) ?_
          refine lv_aload_n hx hb dX6_digest_124 rfl (lv_at hl 0 rfl) ?_
          refine lv_iconst (v := 0) hx hb dX6_digest_125 (by decide) ?_
          obtain ⟨r12, M13, h_r12, hf⟩ := k_bind2 hf
          refine k_callV (n := 1) (As := [.int (0 : Int32)]) (rest := [.ref (q 0)]) X I (c_X6_matchOf h_r12) uw_4_215 uw_4_217 us_30 uw_1_7 uw_4_218 ⟨rfl, rfl⟩ (by decide +kernel) rfl ⟨Nat.le_of_ble_eq_true rfl, Nat.le_of_ble_eq_true rfl⟩ ⟨Nat.le_of_ble_eq_true rfl, Nat.le_of_ble_eq_true rfl⟩ 0 dwG_0 rfl hl.1 rfl (Nat.le_of_ble_eq_true rfl) dX6_digest_126 (st1 := [.int r12, .ref (q 0)]) rfl (fun H locs I => ?_)
          refine lv_i2l hx hb dX6_digest_129 rfl ?_
          obtain ⟨M14, h_M14, hf⟩ := k_bind hf
          refine k_callV (n := 1) (As := [.long r12.toInt64]) (rest := []) X I (c_X6_say h_M14) uw_5_36 uw_5_38 us_36 uw_1_7 uw_5_39 ⟨rfl, rfl⟩ (by decide +kernel) rfl ⟨Nat.le_of_ble_eq_true rfl, Nat.le_of_ble_eq_true rfl⟩ ⟨Nat.le_of_ble_eq_true rfl, Nat.le_of_ble_eq_true rfl⟩ 0 dwG_0 rfl hl.1 rfl (Nat.le_of_ble_eq_true rfl) dX6_digest_130 (st1 := []) rfl (fun H locs I => ?_)
          refine lv_aload_n hx hb dX6_digest_133 rfl (lv_at hl 0 rfl) ?_
          refine lv_aload_n hx hb dX6_digest_134 rfl (lv_at hl 0 rfl) ?_
          refine lv_iconst (v := 1) hx hb dX6_digest_135 (by decide) ?_
          obtain ⟨r15, M16, h_r15, hf⟩ := k_bind2 hf
          refine k_callV (n := 1) (As := [.int (1 : Int32)]) (rest := [.ref (q 0)]) X I (c_X6_matchOf h_r15) uw_4_215 uw_4_217 us_30 uw_1_7 uw_4_218 ⟨rfl, rfl⟩ (by decide +kernel) rfl ⟨Nat.le_of_ble_eq_true rfl, Nat.le_of_ble_eq_true rfl⟩ ⟨Nat.le_of_ble_eq_true rfl, Nat.le_of_ble_eq_true rfl⟩ 0 dwG_0 rfl hl.1 rfl (Nat.le_of_ble_eq_true rfl) dX6_digest_136 (st1 := [.int r15, .ref (q 0)]) rfl (fun H locs I => ?_)
          refine lv_i2l hx hb dX6_digest_139 rfl ?_
          obtain ⟨M17, h_M17, hf⟩ := k_bind hf
          refine k_callV (n := 1) (As := [.long r15.toInt64]) (rest := []) X I (c_X6_say h_M17) uw_5_36 uw_5_38 us_36 uw_1_7 uw_5_39 ⟨rfl, rfl⟩ (by decide +kernel) rfl ⟨Nat.le_of_ble_eq_true rfl, Nat.le_of_ble_eq_true rfl⟩ ⟨Nat.le_of_ble_eq_true rfl, Nat.le_of_ble_eq_true rfl⟩ 0 dwG_0 rfl hl.1 rfl (Nat.le_of_ble_eq_true rfl) dX6_digest_140 (st1 := []) rfl (fun H locs I => ?_)
          refine lv_bipush (v := 10) hx hb dX6_digest_143 (by decide) ?_
          refine lv_istore_n (lv' := [(1, .int (10 : Int32)), (0, .ref (q 0))]) hx hb dX6_digest_145 rfl hl (by decide) rfl (fun ls hl => ?_)
          exact B146 xN (10 : Int32) M17 _ _ ls hf I (lv_sub hl [1, 0] rfl)
      · rw [if_neg c3] at hf
        refine lv_iconst (v := 0) hx hb dX6_digest_58 (by decide) ?_
        refine lv_istore_n (lv' := [(2, .int (0 : Int32)), (0, .ref (q 0)), (1, .int x1)]) hx hb dX6_digest_59 rfl hl (by decide) rfl (fun ls hl => ?_)
        exact B60 (f_X6_digest_l50 n50) ih50 xN x1 (0 : Int32) Mb _ _ ls hf I (lv_sub hl [1, 2, 0] rfl)
  have B19 : ∀ (k9 : Int32 → xM → Option (Int64 × xM)), (∀ (x1 : Int32) (Mb : xM) (H : Heap) (locs : List Loc) (ls : Array Slot), k9 x1 Mb = some (r, Mr) → kI (dw q aI) D A s Mb H locs → lv_has ls 3 [(0, .ref (q 0)), (1, .int x1)] → W p l e rm_X6_digest s m args below meth c H locs 0 0 (MQ below (kQ (dw q aI) D A (some (.long r)) Mr) args s 0 0 A) (F0 m 9 ls [])) → ∀ (n19 : Nat), ∀ (x1 : Int32) (x2 : Int32) (Mb : xM) (H : Heap) (locs : List Loc) (ls : Array Slot), f_X6_digest_l19 k9 n19 x1 x2 Mb = some (r, Mr) → kI (dw q aI) D A s Mb H locs → lv_has ls 3 [(0, .ref (q 0)), (1, .int x1), (2, .int x2)] → W p l e rm_X6_digest s m args below meth c H locs 0 0 (MQ below (kQ (dw q aI) D A (some (.long r)) Mr) args s 0 0 A) (F0 m 19 ls []) := by
    intro k9 hk9
    intro n19
    induction n19 with
    | zero =>
      intro x1 x2 Mb H locs ls hf I hl
      rw [f_X6_digest_l19] at hf
      cases hf
    | succ n19 ih19 =>
      intro x1 x2 Mb H locs ls hf I hl
      rw [f_X6_digest_l19] at hf
      refine lv_iload_n hx hb dX6_digest_19 rfl (lv_at hl 2 rfl) ?_
      refine lv_bipush (v := 7) hx hb dX6_digest_20 (by decide) ?_
      refine lv_icmp_ge (tgt := 42) hx hb dX6_digest_22 (by decide) (fun c29 => ?_) (fun c29 => ?_)
      · rw [if_pos c29] at hf
        refine lv_iinc (v := (x1 + 1)) (lv' := [(1, .int (x1 + 1)), (0, .ref (q 0)), (2, .int x2)]) hx hb dX6_digest_42 hl (k := 1) rfl rfl (by decide) rfl (fun ls hl => ?_)
        refine lv_goto (tgt := 9) hx hb dX6_digest_45 (by decide) ?_
        exact hk9 (x1 + 1) Mb _ _ ls hf I (lv_sub hl [1, 0] rfl)
      · rw [if_neg c29] at hf
        refine lv_aload_n hx hb dX6_digest_25 rfl (lv_at hl 0 rfl) ?_
        refine lv_aload_n hx hb dX6_digest_26 rfl (lv_at hl 0 rfl) ?_
        refine lv_iload_n hx hb dX6_digest_27 rfl (lv_at hl 1 rfl) ?_
        refine lv_iload_n hx hb dX6_digest_28 rfl (lv_at hl 2 rfl) ?_
        obtain ⟨r30, h_r30, hf⟩ := k_bind hf
        refine k_callV (n := 2) (As := [.int x1, .int x2]) (rest := [.ref (q 0)]) X I (c_X6_tellThing h_r30) uw_4_123 uw_4_125 us_16 uw_1_7 uw_4_126 ⟨rfl, rfl⟩ (by decide +kernel) rfl ⟨Nat.le_of_ble_eq_true rfl, Nat.le_of_ble_eq_true rfl⟩ ⟨Nat.le_of_ble_eq_true rfl, Nat.le_of_ble_eq_true rfl⟩ 0 dwG_0 rfl hl.1 rfl (Nat.le_of_ble_eq_true rfl) dX6_digest_29 (st1 := [.int r30, .ref (q 0)]) rfl (fun H locs I => ?_)
        refine lv_i2l hx hb dX6_digest_32 rfl ?_
        obtain ⟨M31, h_M31, hf⟩ := k_bind hf
        refine k_callV (n := 1) (As := [.long r30.toInt64]) (rest := []) X I (c_X6_say h_M31) uw_5_36 uw_5_38 us_36 uw_1_7 uw_5_39 ⟨rfl, rfl⟩ (by decide +kernel) rfl ⟨Nat.le_of_ble_eq_true rfl, Nat.le_of_ble_eq_true rfl⟩ ⟨Nat.le_of_ble_eq_true rfl, Nat.le_of_ble_eq_true rfl⟩ 0 dwG_0 rfl hl.1 rfl (Nat.le_of_ble_eq_true rfl) dX6_digest_33 (st1 := []) rfl (fun H locs I => ?_)
        refine lv_iinc (v := (x2 + 1)) (lv' := [(2, .int (x2 + 1)), (0, .ref (q 0)), (1, .int x1)]) hx hb dX6_digest_36 hl (k := 2) rfl rfl (by decide) rfl (fun ls hl => ?_)
        refine lv_goto (tgt := 19) hx hb dX6_digest_39 (by decide) ?_
        exact ih19 x1 (x2 + 1) M31 _ _ ls hf I (lv_sub hl [1, 2, 0] rfl)
  have B9 : ∀ (n9 : Nat), ∀ (x1 : Int32) (Mb : xM) (H : Heap) (locs : List Loc) (ls : Array Slot), f_X6_digest_l9 n9 x1 Mb = some (r, Mr) → kI (dw q aI) D A s Mb H locs → lv_has ls 3 [(0, .ref (q 0)), (1, .int x1)] → W p l e rm_X6_digest s m args below meth c H locs 0 0 (MQ below (kQ (dw q aI) D A (some (.long r)) Mr) args s 0 0 A) (F0 m 9 ls []) := by
    intro n9
    induction n9 with
    | zero =>
      intro x1 Mb H locs ls hf I hl
      rw [f_X6_digest_l9] at hf
      cases hf
    | succ n9 ih9 =>
      intro x1 Mb H locs ls hf I hl
      rw [f_X6_digest_l9] at hf
      refine lv_iload_n hx hb dX6_digest_9 rfl (lv_at hl 1 rfl) ?_
      refine lv_aload_n hx hb dX6_digest_10 rfl (lv_at hl 0 rfl) ?_
      refine k_get (T := TX6) (N := 27) X I inU6 0 dwG_0 rfl 3 (by decide) uw_4_2 rfl rfl dX6_digest_11 ?_
      refine lv_icmp_ge (tgt := 48) hx hb dX6_digest_14 (by decide) (fun c2 => ?_) (fun c2 => ?_)
      · rw [if_pos c2] at hf
        refine lv_iconst (v := 0) hx hb dX6_digest_48 (by decide) ?_
        refine lv_istore_n (lv' := [(1, .int (0 : Int32)), (0, .ref (q 0))]) hx hb dX6_digest_49 rfl hl (by decide) rfl (fun ls hl => ?_)
        exact B50 xN (0 : Int32) Mb _ _ ls hf I (lv_sub hl [1, 0] rfl)
      · rw [if_neg c2] at hf
        refine lv_iconst (v := 0) hx hb dX6_digest_17 (by decide) ?_
        refine lv_istore_n (lv' := [(2, .int (0 : Int32)), (0, .ref (q 0)), (1, .int x1)]) hx hb dX6_digest_18 rfl hl (by decide) rfl (fun ls hl => ?_)
        exact B19 (f_X6_digest_l9 n9) ih9 xN x1 (0 : Int32) Mb _ _ ls hf I (lv_sub hl [1, 2, 0] rfl)
  rw [f_X6_digest] at hf
  refine lv_aload_n hx hb dX6_digest_0 rfl (lv_at hl 0 rfl) ?_
  refine lv_ldc2 (v := 1087) hx hb X.2.2.2.1 (X.2.2.2.2.1 _ uw_5_35) dX6_digest_1 ?_
  obtain ⟨M1, e_M1, hf⟩ := k_nm hf
  refine k_put (T := TX6) (N := 27) (M1 := M1) X I inU6 tyX6 tyX6_ok nmX6 0 dwG_0 rfl 26 (by decide) uw_4_25 rfl rfl (tyX6_ok 26 (by decide)) rfl rfl (Nat.le_of_ble_eq_true rfl) dX6_digest_4 (dwL.trans (congrArg (dw q aI) e_M1)) (fun H locs I => ?_)
  refine lv_iconst (v := 0) hx hb dX6_digest_7 (by decide) ?_
  refine lv_istore_n (lv' := [(1, .int (0 : Int32)), (0, .ref (q 0))]) hx hb dX6_digest_8 rfl hl (by decide) rfl (fun ls hl => ?_)
  exact B9 xN (0 : Int32) M1 _ _ ls hf I (lv_sub hl [1, 0] rfl)
