/-! LostTentModel.fitsBy(II)Z -/
abbrev rm_X6_fitsBy : Room := { frames := 0, cells := 0, slots := 0, locals := 0 }
def f_X6_fitsBy_b20 (y0 : Int32) (y1 : Int32) (M : xM) : Option Int32 :=
  if y0 < y1 then
    xbo (0 : Int32)
  else
    xbo (1 : Int32)
def f_X6_fitsBy (x1 : Int32) (x2 : Int32) (M : xM) : Option Int32 :=
  (xld 15 (M.2.2 2) (((5 : Int32) * x1) + (3 : Int32))).bind fun r1 =>
  if r1 = (4 : Int32) then
    f_X6_fitsBy_b20 (4 : Int32) x2 M
  else
    f_X6_fitsBy_b20 (2 : Int32) x2 M
set_option maxRecDepth 100000 in
set_option maxHeartbeats 8000000 in
theorem c_X6_fitsBy {l : Launch} {D : va_G} {aI : ClassId} {q t : Nat → Nat} {x1 : Int32} {x2 : Int32} {M : xM} {r : Int32} (hf : f_X6_fitsBy x1 x2 M = some r) : kM l yX6_fitsBy (wk yX6_fitsBy cX6_fitsBy 3 (some .boolean)) rm_X6_fitsBy (dw q aI) D aI t [.ref (q 0), .int x1, .int x2] M (some (.int r)) M := by
  refine kM_of (by decide) (Nat.le_of_ble_eq_true rfl) ?_
  intro p e s m args below meth c A ls X hr hlocks hl I
  have hx := X.1
  have hb := X.2.1
  have hl : lv_has ls 3 [(0, .ref (q 0)), (1, .int x1), (2, .int x2)] := hl
  have B20 : ∀ (y0 : Int32) (y1 : Int32) (H : Heap) (locs : List Loc) (ls : Array Slot), f_X6_fitsBy_b20 y0 y1 M = some r → kI (dw q aI) D A s M H locs → lv_has ls 3 [] → W p l e rm_X6_fitsBy s m args below meth c H locs 0 0 (MQ below (kQ (dw q aI) D A (some (.int r)) M) args s 0 0 A) (F0 m 20 ls [.int y0, .int y1]) := by
    intro y0 y1 H locs ls hf I hl
    rw [f_X6_fitsBy_b20] at hf
    refine lv_icmp_gt (tgt := 27) hx hb dX6_fitsBy_20 (by decide) (fun c3 => ?_) (fun c3 => ?_)
    · rw [if_pos c3] at hf
      refine lv_iconst (v := 0) hx hb dX6_fitsBy_27 (by decide) ?_
      exact k_zretP X I hr hlocks dX6_fitsBy_28 hf
    · rw [if_neg c3] at hf
      refine lv_iconst (v := 1) hx hb dX6_fitsBy_23 (by decide) ?_
      refine lv_goto (tgt := 28) hx hb dX6_fitsBy_24 (by decide) ?_
      exact k_zretP X I hr hlocks dX6_fitsBy_28 hf
  rw [f_X6_fitsBy] at hf
  refine lv_iload_n hx hb dX6_fitsBy_0 rfl (lv_at hl 2 rfl) ?_
  refine lv_aload_n hx hb dX6_fitsBy_1 rfl (lv_at hl 0 rfl) ?_
  refine k_get (T := TX6) (N := 27) X I inU6 0 dwG_0 rfl 10 (by decide) uw_4_9 rfl rfl dX6_fitsBy_2 ?_
  refine lv_iconst (v := 5) hx hb dX6_fitsBy_5 (by decide) ?_
  refine lv_iload_n hx hb dX6_fitsBy_6 rfl (lv_at hl 1 rfl) ?_
  refine lv_imul hx hb dX6_fitsBy_7 ?_
  refine lv_iconst (v := 3) hx hb dX6_fitsBy_8 (by decide) ?_
  refine lv_iadd hx hb dX6_fitsBy_9 ?_
  obtain ⟨r1, h_r1, hf⟩ := k_bind hf
  refine k_ald X I h_r1 3 dwG_3 dX6_fitsBy_10 ?_
  refine lv_iconst (v := 4) hx hb dX6_fitsBy_11 (by decide) ?_
  refine lv_icmp_ne (tgt := 19) hx hb dX6_fitsBy_12 (by decide) (fun c2 => ?_) (fun c2 => ?_)
  · rw [if_neg c2] at hf
    refine lv_iconst (v := 2) hx hb dX6_fitsBy_19 (by decide) ?_
    exact B20 (2 : Int32) x2 _ _ ls hf I (lv_sub hl [] rfl)
  · rw [if_pos c2] at hf
    refine lv_iconst (v := 4) hx hb dX6_fitsBy_15 (by decide) ?_
    refine lv_goto (tgt := 20) hx hb dX6_fitsBy_16 (by decide) ?_
    exact B20 (4 : Int32) x2 _ _ ls hf I (lv_sub hl [] rfl)
/-! LostTentModel.fits(II)Z -/
abbrev rm_X6_fits : Room := { frames := 2, cells := 0, slots := 0, locals := 50 }
def f_X6_fits (x1 : Int32) (x2 : Int32) (M : xM) : Option Int32 :=
  (f_X6_wrongOf x1 x2 M).bind fun r1 =>
  (f_X6_fitsBy x2 r1 M).bind fun r2 =>
  xbo r2
set_option maxRecDepth 100000 in
set_option maxHeartbeats 8000000 in
theorem c_X6_fits {l : Launch} {D : va_G} {aI : ClassId} {q t : Nat → Nat} {x1 : Int32} {x2 : Int32} {M : xM} {r : Int32} (hf : f_X6_fits x1 x2 M = some r) : kM l yX6_fits (wk yX6_fits cX6_fits 3 (some .boolean)) rm_X6_fits (dw q aI) D aI t [.ref (q 0), .int x1, .int x2] M (some (.int r)) M := by
  refine kM_of (by decide) (Nat.le_of_ble_eq_true rfl) ?_
  intro p e s m args below meth c A ls X hr hlocks hl I
  have hx := X.1
  have hb := X.2.1
  have hl : lv_has ls 3 [(0, .ref (q 0)), (1, .int x1), (2, .int x2)] := hl
  rw [f_X6_fits] at hf
  refine lv_aload_n hx hb dX6_fits_0 rfl (lv_at hl 0 rfl) ?_
  refine lv_iload_n hx hb dX6_fits_1 rfl (lv_at hl 2 rfl) ?_
  refine lv_aload_n hx hb dX6_fits_2 rfl (lv_at hl 0 rfl) ?_
  refine lv_iload_n hx hb dX6_fits_3 rfl (lv_at hl 1 rfl) ?_
  refine lv_iload_n hx hb dX6_fits_4 rfl (lv_at hl 2 rfl) ?_
  obtain ⟨r1, h_r1, hf⟩ := k_bind hf
  refine k_callV (n := 2) (As := [.int x1, .int x2]) (rest := [.int x2, .ref (q 0)]) X I (c_X6_wrongOf h_r1) uw_4_135 uw_4_137 us_19 uw_1_7 uw_4_138 ⟨rfl, rfl⟩ (by decide +kernel) rfl ⟨Nat.le_of_ble_eq_true rfl, Nat.le_of_ble_eq_true rfl⟩ ⟨Nat.le_of_ble_eq_true rfl, Nat.le_of_ble_eq_true rfl⟩ 0 dwG_0 rfl hl.1 rfl (Nat.le_of_ble_eq_true rfl) dX6_fits_5 (st1 := [.int r1, .int x2, .ref (q 0)]) rfl (fun H locs I => ?_)
  obtain ⟨r2, h_r2, hf⟩ := k_bind hf
  refine k_callV (n := 2) (As := [.int x2, .int r1]) (rest := []) X I (c_X6_fitsBy h_r2) uw_4_143 uw_4_145 us_21 uw_1_7 uw_4_146 ⟨rfl, rfl⟩ (by decide +kernel) rfl ⟨Nat.le_of_ble_eq_true rfl, Nat.le_of_ble_eq_true rfl⟩ ⟨Nat.le_of_ble_eq_true rfl, Nat.le_of_ble_eq_true rfl⟩ 0 dwG_0 rfl hl.1 rfl (Nat.le_of_ble_eq_true rfl) dX6_fits_8 (st1 := [.int r2]) rfl (fun H locs I => ?_)
  exact k_zretP X I hr hlocks dX6_fits_11 hf
/-! LostTentModel.claimersOf(I)I -/
abbrev rm_X6_claimersOf : Room := { frames := 3, cells := 0, slots := 0, locals := 72 }
def f_X6_claimersOf_b29 (k4 : Int32 → Int32 → Int32 → xM → Option Int32) (x1 : Int32) (x3 : Int32) (y0 : Int32) (y1 : Int32) (M : xM) : Option Int32 :=
  k4 x1 (y1 ||| y0) (x3 + 1) M
def f_X6_claimersOf_l4 : Nat → Int32 → Int32 → Int32 → xM → Option Int32
  | 0, _, _, _, _ => none
  | n4 + 1, x1, x2, x3, M =>
    if (M.1 3) ≤ x3 then
      some x2
    else
      (f_X6_fits x1 x3 M).bind fun r2 =>
      if r2 = 0 then
        f_X6_claimersOf_b29 (f_X6_claimersOf_l4 n4) x1 x3 (0 : Int32) x2 M
      else
        f_X6_claimersOf_b29 (f_X6_claimersOf_l4 n4) x1 x3 ((1 : Int32) <<< (x3 &&& 31)) x2 M
def f_X6_claimersOf (x1 : Int32) (M : xM) : Option Int32 :=
  f_X6_claimersOf_l4 xN x1 (0 : Int32) (0 : Int32) M
set_option maxRecDepth 100000 in
set_option maxHeartbeats 8000000 in
theorem c_X6_claimersOf {l : Launch} {D : va_G} {aI : ClassId} {q t : Nat → Nat} {x1 : Int32} {M : xM} {r : Int32} (hf : f_X6_claimersOf x1 M = some r) : kM l yX6_claimersOf (wk yX6_claimersOf cX6_claimersOf 4 (some .int)) rm_X6_claimersOf (dw q aI) D aI t [.ref (q 0), .int x1] M (some (.int r)) M := by
  refine kM_of (by decide) (Nat.le_of_ble_eq_true rfl) ?_
  intro p e s m args below meth c A ls X hr hlocks hl I
  have hx := X.1
  have hb := X.2.1
  have hl : lv_has ls 4 [(0, .ref (q 0)), (1, .int x1)] := hl
  have B29 : ∀ (k4 : Int32 → Int32 → Int32 → xM → Option Int32), (∀ (x1 : Int32) (x2 : Int32) (x3 : Int32) (H : Heap) (locs : List Loc) (ls : Array Slot), k4 x1 x2 x3 M = some r → kI (dw q aI) D A s M H locs → lv_has ls 4 [(0, .ref (q 0)), (1, .int x1), (2, .int x2), (3, .int x3)] → W p l e rm_X6_claimersOf s m args below meth c H locs 0 0 (MQ below (kQ (dw q aI) D A (some (.int r)) M) args s 0 0 A) (F0 m 4 ls [])) → ∀ (x1 : Int32) (x3 : Int32) (y0 : Int32) (y1 : Int32) (H : Heap) (locs : List Loc) (ls : Array Slot), f_X6_claimersOf_b29 k4 x1 x3 y0 y1 M = some r → kI (dw q aI) D A s M H locs → lv_has ls 4 [(0, .ref (q 0)), (1, .int x1), (3, .int x3)] → W p l e rm_X6_claimersOf s m args below meth c H locs 0 0 (MQ below (kQ (dw q aI) D A (some (.int r)) M) args s 0 0 A) (F0 m 29 ls [.int y0, .int y1]) := by
    intro k4 hk4 x1 x3 y0 y1 H locs ls hf I hl
    rw [f_X6_claimersOf_b29] at hf
    refine lv_ior hx hb dX6_claimersOf_29 ?_
    refine lv_istore_n (lv' := [(2, .int (y1 ||| y0)), (0, .ref (q 0)), (1, .int x1), (3, .int x3)]) hx hb dX6_claimersOf_30 rfl hl (by decide) rfl (fun ls hl => ?_)
    refine lv_iinc (v := (x3 + 1)) (lv' := [(3, .int (x3 + 1)), (2, .int (y1 ||| y0)), (0, .ref (q 0)), (1, .int x1)]) hx hb dX6_claimersOf_31 hl (k := 3) rfl rfl (by decide) rfl (fun ls hl => ?_)
    refine lv_goto (tgt := 4) hx hb dX6_claimersOf_34 (by decide) ?_
    exact hk4 x1 (y1 ||| y0) (x3 + 1) _ _ ls hf I (lv_sub hl [2, 3, 1, 0] rfl)
  have B4 : ∀ (n4 : Nat), ∀ (x1 : Int32) (x2 : Int32) (x3 : Int32) (H : Heap) (locs : List Loc) (ls : Array Slot), f_X6_claimersOf_l4 n4 x1 x2 x3 M = some r → kI (dw q aI) D A s M H locs → lv_has ls 4 [(0, .ref (q 0)), (1, .int x1), (2, .int x2), (3, .int x3)] → W p l e rm_X6_claimersOf s m args below meth c H locs 0 0 (MQ below (kQ (dw q aI) D A (some (.int r)) M) args s 0 0 A) (F0 m 4 ls []) := by
    intro n4
    induction n4 with
    | zero =>
      intro x1 x2 x3 H locs ls hf I hl
      rw [f_X6_claimersOf_l4] at hf
      cases hf
    | succ n4 ih4 =>
      intro x1 x2 x3 H locs ls hf I hl
      rw [f_X6_claimersOf_l4] at hf
      refine lv_iload_n hx hb dX6_claimersOf_4 rfl (lv_at hl 3 rfl) ?_
      refine lv_aload_n hx hb dX6_claimersOf_5 rfl (lv_at hl 0 rfl) ?_
      refine k_get (T := TX6) (N := 27) X I inU6 0 dwG_0 rfl 4 (by decide) uw_4_3 rfl rfl dX6_claimersOf_6 ?_
      refine lv_icmp_ge (tgt := 37) hx hb dX6_claimersOf_9 (by decide) (fun c1 => ?_) (fun c1 => ?_)
      · rw [if_pos c1] at hf
        refine lv_iload_n hx hb dX6_claimersOf_37 rfl (lv_at hl 2 rfl) ?_
        exact k_iretP X I hr hlocks dX6_claimersOf_38 hf
      · rw [if_neg c1] at hf
        refine lv_iload_n hx hb dX6_claimersOf_12 rfl (lv_at hl 2 rfl) ?_
        refine lv_aload_n hx hb dX6_claimersOf_13 rfl (lv_at hl 0 rfl) ?_
        refine lv_iload_n hx hb dX6_claimersOf_14 rfl (lv_at hl 1 rfl) ?_
        refine lv_iload_n hx hb dX6_claimersOf_15 rfl (lv_at hl 3 rfl) ?_
        obtain ⟨r2, h_r2, hf⟩ := k_bind hf
        refine k_callV (n := 2) (As := [.int x1, .int x3]) (rest := [.int x2]) X I (c_X6_fits h_r2) uw_4_131 uw_4_133 us_18 uw_1_7 uw_4_134 ⟨rfl, rfl⟩ (by decide +kernel) rfl ⟨Nat.le_of_ble_eq_true rfl, Nat.le_of_ble_eq_true rfl⟩ ⟨Nat.le_of_ble_eq_true rfl, Nat.le_of_ble_eq_true rfl⟩ 0 dwG_0 rfl hl.1 rfl (Nat.le_of_ble_eq_true rfl) dX6_claimersOf_16 (st1 := [.int r2, .int x2]) rfl (fun H locs I => ?_)
        refine lv_if_eq (tgt := 28) hx hb dX6_claimersOf_19 (by decide) (fun c3 => ?_) (fun c3 => ?_)
        · rw [if_pos c3] at hf
          refine lv_iconst (v := 0) hx hb dX6_claimersOf_28 (by decide) ?_
          exact B29 (f_X6_claimersOf_l4 n4) ih4 x1 x3 (0 : Int32) x2 _ _ ls hf I (lv_sub hl [0, 1, 3] rfl)
        · rw [if_neg c3] at hf
          refine lv_iconst (v := 1) hx hb dX6_claimersOf_22 (by decide) ?_
          refine lv_iload_n hx hb dX6_claimersOf_23 rfl (lv_at hl 3 rfl) ?_
          refine lv_ishl hx hb dX6_claimersOf_24 ?_
          refine lv_goto (tgt := 29) hx hb dX6_claimersOf_25 (by decide) ?_
          exact B29 (f_X6_claimersOf_l4 n4) ih4 x1 x3 ((1 : Int32) <<< (x3 &&& 31)) x2 _ _ ls hf I (lv_sub hl [0, 1, 3] rfl)
  rw [f_X6_claimersOf] at hf
  refine lv_iconst (v := 0) hx hb dX6_claimersOf_0 (by decide) ?_
  refine lv_istore_n (lv' := [(2, .int (0 : Int32)), (0, .ref (q 0)), (1, .int x1)]) hx hb dX6_claimersOf_1 rfl hl (by decide) rfl (fun ls hl => ?_)
  refine lv_iconst (v := 0) hx hb dX6_claimersOf_2 (by decide) ?_
  refine lv_istore_n (lv' := [(3, .int (0 : Int32)), (2, .int (0 : Int32)), (0, .ref (q 0)), (1, .int x1)]) hx hb dX6_claimersOf_3 rfl hl (by decide) rfl (fun ls hl => ?_)
  exact B4 xN x1 (0 : Int32) (0 : Int32) _ _ ls hf I (lv_sub hl [2, 3, 1, 0] rfl)
/-! LostTentModel.yearsOf(I)I -/
abbrev rm_X6_yearsOf : Room := { frames := 1, cells := 0, slots := 0, locals := 28 }
def f_X6_yearsOf_b122 (k4 : Int32 → Int32 → Int32 → xM → Option Int32) (x1 : Int32) (x3 : Int32) (y0 : Int32) (y1 : Int32) (M : xM) : Option Int32 :=
  k4 x1 (y1 ||| y0) (x3 + 1) M
def f_X6_yearsOf_b101 (k4 : Int32 → Int32 → Int32 → xM → Option Int32) (k16 : Int32 → Int32 → Int32 → Int32 → Int32 → xM → Option Int32) (x1 : Int32) (x2 : Int32) (x3 : Int32) (x5 : Int32) (y0 : Int32) (M : xM) : Option Int32 :=
  k16 x1 x2 x3 y0 (x5 + 1) M
def f_X6_yearsOf_b100 (k4 : Int32 → Int32 → Int32 → xM → Option Int32) (k16 : Int32 → Int32 → Int32 → Int32 → Int32 → xM → Option Int32) (x1 : Int32) (x2 : Int32) (x3 : Int32) (x5 : Int32) (M : xM) : Option Int32 :=
  f_X6_yearsOf_b101 k4 k16 x1 x2 x3 x5 (0 : Int32) M
def f_X6_yearsOf_b96 (k4 : Int32 → Int32 → Int32 → xM → Option Int32) (k16 : Int32 → Int32 → Int32 → Int32 → Int32 → xM → Option Int32) (x1 : Int32) (x2 : Int32) (x3 : Int32) (x5 : Int32) (M : xM) : Option Int32 :=
  f_X6_yearsOf_b101 k4 k16 x1 x2 x3 x5 (1 : Int32) M
def f_X6_yearsOf_b60 (k4 : Int32 → Int32 → Int32 → xM → Option Int32) (k16 : Int32 → Int32 → Int32 → Int32 → Int32 → xM → Option Int32) (x1 : Int32) (x2 : Int32) (x3 : Int32) (x4 : Int32) (x5 : Int32) (y0 : Int32) (M : xM) : Option Int32 :=
  if x4 = 0 then
    f_X6_yearsOf_b100 k4 k16 x1 x2 x3 x5 M
  else
    (xld 24 (M.2.2 6) ((3 : Int32) * x5)).bind fun r9 =>
    if r9 = x1 then
      (xld 24 (M.2.2 6) (((3 : Int32) * x5) + (2 : Int32))).bind fun r11 =>
      if y0 = r11 then
        f_X6_yearsOf_b96 k4 k16 x1 x2 x3 x5 M
      else
        f_X6_yearsOf_b100 k4 k16 x1 x2 x3 x5 M
    else
      f_X6_yearsOf_b96 k4 k16 x1 x2 x3 x5 M
def f_X6_yearsOf_l16 (k4 : Int32 → Int32 → Int32 → xM → Option Int32) : Nat → Int32 → Int32 → Int32 → Int32 → Int32 → xM → Option Int32
  | 0, _, _, _, _, _, _ => none
  | n16 + 1, x1, x2, x3, x4, x5, M =>
    if (M.1 8) ≤ x5 then
      if x4 = 0 then
        f_X6_yearsOf_b122 k4 x1 x3 (0 : Int32) x2 M
      else
        f_X6_yearsOf_b122 k4 x1 x3 ((1 : Int32) <<< (x3 &&& 31)) x2 M
    else
      (xld 24 (M.2.2 6) (((3 : Int32) * x5) + (1 : Int32))).bind fun r4 =>
      (f_X6_wrongIn x1 r4 x3 M).bind fun r5 =>
      (f_X6_fitsBy r4 r5 M).bind fun r6 =>
      if r6 = 0 then
        f_X6_yearsOf_b60 k4 (f_X6_yearsOf_l16 k4 n16) x1 x2 x3 x4 x5 (0 : Int32) M
      else
        f_X6_yearsOf_b60 k4 (f_X6_yearsOf_l16 k4 n16) x1 x2 x3 x4 x5 (1 : Int32) M
def f_X6_yearsOf_l4 : Nat → Int32 → Int32 → Int32 → xM → Option Int32
  | 0, _, _, _, _ => none
  | n4 + 1, x1, x2, x3, M =>
    if (10 : Int32) ≤ x3 then
      some x2
    else
      f_X6_yearsOf_l16 (f_X6_yearsOf_l4 n4) xN x1 x2 x3 (1 : Int32) (0 : Int32) M
def f_X6_yearsOf (x1 : Int32) (M : xM) : Option Int32 :=
  f_X6_yearsOf_l4 xN x1 (0 : Int32) (0 : Int32) M
set_option maxRecDepth 100000 in
set_option maxHeartbeats 8000000 in
theorem c_X6_yearsOf {l : Launch} {D : va_G} {aI : ClassId} {q t : Nat → Nat} {x1 : Int32} {M : xM} {r : Int32} (hf : f_X6_yearsOf x1 M = some r) : kM l yX6_yearsOf (wk yX6_yearsOf cX6_yearsOf 8 (some .int)) rm_X6_yearsOf (dw q aI) D aI t [.ref (q 0), .int x1] M (some (.int r)) M := by
  refine kM_of (by decide) (Nat.le_of_ble_eq_true rfl) ?_
  intro p e s m args below meth c A ls X hr hlocks hl I
  have hx := X.1
  have hb := X.2.1
  have hl : lv_has ls 8 [(0, .ref (q 0)), (1, .int x1)] := hl
  have B122 : ∀ (k4 : Int32 → Int32 → Int32 → xM → Option Int32), (∀ (x1 : Int32) (x2 : Int32) (x3 : Int32) (H : Heap) (locs : List Loc) (ls : Array Slot), k4 x1 x2 x3 M = some r → kI (dw q aI) D A s M H locs → lv_has ls 8 [(0, .ref (q 0)), (1, .int x1), (2, .int x2), (3, .int x3)] → W p l e rm_X6_yearsOf s m args below meth c H locs 0 0 (MQ below (kQ (dw q aI) D A (some (.int r)) M) args s 0 0 A) (F0 m 4 ls [])) → ∀ (x1 : Int32) (x3 : Int32) (y0 : Int32) (y1 : Int32) (H : Heap) (locs : List Loc) (ls : Array Slot), f_X6_yearsOf_b122 k4 x1 x3 y0 y1 M = some r → kI (dw q aI) D A s M H locs → lv_has ls 8 [(0, .ref (q 0)), (1, .int x1), (3, .int x3)] → W p l e rm_X6_yearsOf s m args below meth c H locs 0 0 (MQ below (kQ (dw q aI) D A (some (.int r)) M) args s 0 0 A) (F0 m 122 ls [.int y0, .int y1]) := by
    intro k4 hk4 x1 x3 y0 y1 H locs ls hf I hl
    rw [f_X6_yearsOf_b122] at hf
    refine lv_ior hx hb dX6_yearsOf_122 ?_
    refine lv_istore_n (lv' := [(2, .int (y1 ||| y0)), (0, .ref (q 0)), (1, .int x1), (3, .int x3)]) hx hb dX6_yearsOf_123 rfl hl (by decide) rfl (fun ls hl => ?_)
    refine lv_iinc (v := (x3 + 1)) (lv' := [(3, .int (x3 + 1)), (2, .int (y1 ||| y0)), (0, .ref (q 0)), (1, .int x1)]) hx hb dX6_yearsOf_124 hl (k := 3) rfl rfl (by decide) rfl (fun ls hl => ?_)
    refine lv_goto (tgt := 4) hx hb dX6_yearsOf_127 (by decide) ?_
    exact hk4 x1 (y1 ||| y0) (x3 + 1) _ _ ls hf I (lv_sub hl [2, 3, 1, 0] rfl)
  have B101 : ∀ (k4 : Int32 → Int32 → Int32 → xM → Option Int32), (∀ (x1 : Int32) (x2 : Int32) (x3 : Int32) (H : Heap) (locs : List Loc) (ls : Array Slot), k4 x1 x2 x3 M = some r → kI (dw q aI) D A s M H locs → lv_has ls 8 [(0, .ref (q 0)), (1, .int x1), (2, .int x2), (3, .int x3)] → W p l e rm_X6_yearsOf s m args below meth c H locs 0 0 (MQ below (kQ (dw q aI) D A (some (.int r)) M) args s 0 0 A) (F0 m 4 ls [])) → ∀ (k16 : Int32 → Int32 → Int32 → Int32 → Int32 → xM → Option Int32), (∀ (x1 : Int32) (x2 : Int32) (x3 : Int32) (x4 : Int32) (x5 : Int32) (H : Heap) (locs : List Loc) (ls : Array Slot), k16 x1 x2 x3 x4 x5 M = some r → kI (dw q aI) D A s M H locs → lv_has ls 8 [(0, .ref (q 0)), (1, .int x1), (2, .int x2), (3, .int x3), (4, .int x4), (5, .int x5)] → W p l e rm_X6_yearsOf s m args below meth c H locs 0 0 (MQ below (kQ (dw q aI) D A (some (.int r)) M) args s 0 0 A) (F0 m 16 ls [])) → ∀ (x1 : Int32) (x2 : Int32) (x3 : Int32) (x5 : Int32) (y0 : Int32) (H : Heap) (locs : List Loc) (ls : Array Slot), f_X6_yearsOf_b101 k4 k16 x1 x2 x3 x5 y0 M = some r → kI (dw q aI) D A s M H locs → lv_has ls 8 [(0, .ref (q 0)), (1, .int x1), (2, .int x2), (3, .int x3), (5, .int x5)] → W p l e rm_X6_yearsOf s m args below meth c H locs 0 0 (MQ below (kQ (dw q aI) D A (some (.int r)) M) args s 0 0 A) (F0 m 101 ls [.int y0]) := by
    intro k4 hk4 k16 hk16 x1 x2 x3 x5 y0 H locs ls hf I hl
    rw [f_X6_yearsOf_b101] at hf
    refine lv_istore (lv' := [(4, .int y0), (0, .ref (q 0)), (1, .int x1), (2, .int x2), (3, .int x3), (5, .int x5)]) hx hb dX6_yearsOf_101 hl (by decide) rfl (fun ls hl => ?_)
    refine lv_iinc (v := (x5 + 1)) (lv' := [(5, .int (x5 + 1)), (4, .int y0), (0, .ref (q 0)), (1, .int x1), (2, .int x2), (3, .int x3)]) hx hb dX6_yearsOf_103 hl (k := 5) rfl rfl (by decide) rfl (fun ls hl => ?_)
    refine lv_goto (tgt := 16) hx hb dX6_yearsOf_106 (by decide) ?_
    exact hk16 x1 x2 x3 y0 (x5 + 1) _ _ ls hf I (lv_sub hl [2, 3, 4, 5, 1, 0] rfl)
  have B100 : ∀ (k4 : Int32 → Int32 → Int32 → xM → Option Int32), (∀ (x1 : Int32) (x2 : Int32) (x3 : Int32) (H : Heap) (locs : List Loc) (ls : Array Slot), k4 x1 x2 x3 M = some r → kI (dw q aI) D A s M H locs → lv_has ls 8 [(0, .ref (q 0)), (1, .int x1), (2, .int x2), (3, .int x3)] → W p l e rm_X6_yearsOf s m args below meth c H locs 0 0 (MQ below (kQ (dw q aI) D A (some (.int r)) M) args s 0 0 A) (F0 m 4 ls [])) → ∀ (k16 : Int32 → Int32 → Int32 → Int32 → Int32 → xM → Option Int32), (∀ (x1 : Int32) (x2 : Int32) (x3 : Int32) (x4 : Int32) (x5 : Int32) (H : Heap) (locs : List Loc) (ls : Array Slot), k16 x1 x2 x3 x4 x5 M = some r → kI (dw q aI) D A s M H locs → lv_has ls 8 [(0, .ref (q 0)), (1, .int x1), (2, .int x2), (3, .int x3), (4, .int x4), (5, .int x5)] → W p l e rm_X6_yearsOf s m args below meth c H locs 0 0 (MQ below (kQ (dw q aI) D A (some (.int r)) M) args s 0 0 A) (F0 m 16 ls [])) → ∀ (x1 : Int32) (x2 : Int32) (x3 : Int32) (x5 : Int32) (H : Heap) (locs : List Loc) (ls : Array Slot), f_X6_yearsOf_b100 k4 k16 x1 x2 x3 x5 M = some r → kI (dw q aI) D A s M H locs → lv_has ls 8 [(0, .ref (q 0)), (1, .int x1), (2, .int x2), (3, .int x3), (5, .int x5)] → W p l e rm_X6_yearsOf s m args below meth c H locs 0 0 (MQ below (kQ (dw q aI) D A (some (.int r)) M) args s 0 0 A) (F0 m 100 ls []) := by
    intro k4 hk4 k16 hk16 x1 x2 x3 x5 H locs ls hf I hl
    rw [f_X6_yearsOf_b100] at hf
    refine lv_iconst (v := 0) hx hb dX6_yearsOf_100 (by decide) ?_
    exact B101 k4 hk4 k16 hk16 x1 x2 x3 x5 (0 : Int32) _ _ ls hf I (lv_sub hl [0, 1, 2, 3, 4] rfl)
  have B96 : ∀ (k4 : Int32 → Int32 → Int32 → xM → Option Int32), (∀ (x1 : Int32) (x2 : Int32) (x3 : Int32) (H : Heap) (locs : List Loc) (ls : Array Slot), k4 x1 x2 x3 M = some r → kI (dw q aI) D A s M H locs → lv_has ls 8 [(0, .ref (q 0)), (1, .int x1), (2, .int x2), (3, .int x3)] → W p l e rm_X6_yearsOf s m args below meth c H locs 0 0 (MQ below (kQ (dw q aI) D A (some (.int r)) M) args s 0 0 A) (F0 m 4 ls [])) → ∀ (k16 : Int32 → Int32 → Int32 → Int32 → Int32 → xM → Option Int32), (∀ (x1 : Int32) (x2 : Int32) (x3 : Int32) (x4 : Int32) (x5 : Int32) (H : Heap) (locs : List Loc) (ls : Array Slot), k16 x1 x2 x3 x4 x5 M = some r → kI (dw q aI) D A s M H locs → lv_has ls 8 [(0, .ref (q 0)), (1, .int x1), (2, .int x2), (3, .int x3), (4, .int x4), (5, .int x5)] → W p l e rm_X6_yearsOf s m args below meth c H locs 0 0 (MQ below (kQ (dw q aI) D A (some (.int r)) M) args s 0 0 A) (F0 m 16 ls [])) → ∀ (x1 : Int32) (x2 : Int32) (x3 : Int32) (x5 : Int32) (H : Heap) (locs : List Loc) (ls : Array Slot), f_X6_yearsOf_b96 k4 k16 x1 x2 x3 x5 M = some r → kI (dw q aI) D A s M H locs → lv_has ls 8 [(0, .ref (q 0)), (1, .int x1), (2, .int x2), (3, .int x3), (5, .int x5)] → W p l e rm_X6_yearsOf s m args below meth c H locs 0 0 (MQ below (kQ (dw q aI) D A (some (.int r)) M) args s 0 0 A) (F0 m 96 ls []) := by
    intro k4 hk4 k16 hk16 x1 x2 x3 x5 H locs ls hf I hl
    rw [f_X6_yearsOf_b96] at hf
    refine lv_iconst (v := 1) hx hb dX6_yearsOf_96 (by decide) ?_
    refine lv_goto (tgt := 101) hx hb dX6_yearsOf_97 (by decide) ?_
    exact B101 k4 hk4 k16 hk16 x1 x2 x3 x5 (1 : Int32) _ _ ls hf I (lv_sub hl [0, 1, 2, 3, 4] rfl)
  have B60 : ∀ (k4 : Int32 → Int32 → Int32 → xM → Option Int32), (∀ (x1 : Int32) (x2 : Int32) (x3 : Int32) (H : Heap) (locs : List Loc) (ls : Array Slot), k4 x1 x2 x3 M = some r → kI (dw q aI) D A s M H locs → lv_has ls 8 [(0, .ref (q 0)), (1, .int x1), (2, .int x2), (3, .int x3)] → W p l e rm_X6_yearsOf s m args below meth c H locs 0 0 (MQ below (kQ (dw q aI) D A (some (.int r)) M) args s 0 0 A) (F0 m 4 ls [])) → ∀ (k16 : Int32 → Int32 → Int32 → Int32 → Int32 → xM → Option Int32), (∀ (x1 : Int32) (x2 : Int32) (x3 : Int32) (x4 : Int32) (x5 : Int32) (H : Heap) (locs : List Loc) (ls : Array Slot), k16 x1 x2 x3 x4 x5 M = some r → kI (dw q aI) D A s M H locs → lv_has ls 8 [(0, .ref (q 0)), (1, .int x1), (2, .int x2), (3, .int x3), (4, .int x4), (5, .int x5)] → W p l e rm_X6_yearsOf s m args below meth c H locs 0 0 (MQ below (kQ (dw q aI) D A (some (.int r)) M) args s 0 0 A) (F0 m 16 ls [])) → ∀ (x1 : Int32) (x2 : Int32) (x3 : Int32) (x4 : Int32) (x5 : Int32) (y0 : Int32) (H : Heap) (locs : List Loc) (ls : Array Slot), f_X6_yearsOf_b60 k4 k16 x1 x2 x3 x4 x5 y0 M = some r → kI (dw q aI) D A s M H locs → lv_has ls 8 [(0, .ref (q 0)), (1, .int x1), (2, .int x2), (3, .int x3), (4, .int x4), (5, .int x5)] → W p l e rm_X6_yearsOf s m args below meth c H locs 0 0 (MQ below (kQ (dw q aI) D A (some (.int r)) M) args s 0 0 A) (F0 m 60 ls [.int y0]) := by
    intro k4 hk4 k16 hk16 x1 x2 x3 x4 x5 y0 H locs ls hf I hl
    rw [f_X6_yearsOf_b60] at hf
    refine lv_istore (lv' := [(7, .int y0), (0, .ref (q 0)), (1, .int x1), (2, .int x2), (3, .int x3), (4, .int x4), (5, .int x5)]) hx hb dX6_yearsOf_60 hl (by decide) rfl (fun ls hl => ?_)
    refine lv_iload hx hb dX6_yearsOf_62 (lv_at hl 5 rfl) ?_
    refine lv_if_eq (tgt := 100) hx hb dX6_yearsOf_64 (by decide) (fun c8 => ?_) (fun c8 => ?_)
    · rw [if_pos c8] at hf
      exact B100 k4 hk4 k16 hk16 x1 x2 x3 x5 _ _ ls hf I (lv_sub hl [1, 2, 3, 4, 6] rfl)
    · rw [if_neg c8] at hf
      refine lv_aload_n hx hb dX6_yearsOf_67 rfl (lv_at hl 1 rfl) ?_
      refine k_get (T := TX6) (N := 27) X I inU6 0 dwG_0 rfl 15 (by decide) uw_4_14 rfl rfl dX6_yearsOf_68 ?_
      refine lv_iconst (v := 3) hx hb dX6_yearsOf_71 (by decide) ?_
      refine lv_iload hx hb dX6_yearsOf_72 (lv_at hl 6 rfl) ?_
      refine lv_imul hx hb dX6_yearsOf_74 ?_
      obtain ⟨r9, h_r9, hf⟩ := k_bind hf
      refine k_ald X I h_r9 7 dwG_7 dX6_yearsOf_75 ?_
      refine lv_iload_n hx hb dX6_yearsOf_76 rfl (lv_at hl 2 rfl) ?_
      refine lv_icmp_ne (tgt := 96) hx hb dX6_yearsOf_77 (by decide) (fun c10 => ?_) (fun c10 => ?_)
      · rw [if_neg c10] at hf
        exact B96 k4 hk4 k16 hk16 x1 x2 x3 x5 _ _ ls hf I (lv_sub hl [1, 2, 3, 4, 6] rfl)
      · rw [if_pos c10] at hf
        refine lv_iload hx hb dX6_yearsOf_80 (lv_at hl 0 rfl) ?_
        refine lv_aload_n hx hb dX6_yearsOf_82 rfl (lv_at hl 1 rfl) ?_
        refine k_get (T := TX6) (N := 27) X I inU6 0 dwG_0 rfl 15 (by decide) uw_4_14 rfl rfl dX6_yearsOf_83 ?_
        refine lv_iconst (v := 3) hx hb dX6_yearsOf_86 (by decide) ?_
        refine lv_iload hx hb dX6_yearsOf_87 (lv_at hl 6 rfl) ?_
        refine lv_imul hx hb dX6_yearsOf_89 ?_
        refine lv_iconst (v := 2) hx hb dX6_yearsOf_90 (by decide) ?_
        refine lv_iadd hx hb dX6_yearsOf_91 ?_
        obtain ⟨r11, h_r11, hf⟩ := k_bind hf
        refine k_ald X I h_r11 7 dwG_7 dX6_yearsOf_92 ?_
        refine lv_icmp_ne (tgt := 100) hx hb dX6_yearsOf_93 (by decide) (fun c12 => ?_) (fun c12 => ?_)
        · rw [if_neg c12] at hf
          exact B100 k4 hk4 k16 hk16 x1 x2 x3 x5 _ _ ls hf I (lv_sub hl [1, 2, 3, 4, 6] rfl)
        · rw [if_pos c12] at hf
          exact B96 k4 hk4 k16 hk16 x1 x2 x3 x5 _ _ ls hf I (lv_sub hl [1, 2, 3, 4, 6] rfl)
  have B16 : ∀ (k4 : Int32 → Int32 → Int32 → xM → Option Int32), (∀ (x1 : Int32) (x2 : Int32) (x3 : Int32) (H : Heap) (locs : List Loc) (ls : Array Slot), k4 x1 x2 x3 M = some r → kI (dw q aI) D A s M H locs → lv_has ls 8 [(0, .ref (q 0)), (1, .int x1), (2, .int x2), (3, .int x3)] → W p l e rm_X6_yearsOf s m args below meth c H locs 0 0 (MQ below (kQ (dw q aI) D A (some (.int r)) M) args s 0 0 A) (F0 m 4 ls [])) → ∀ (n16 : Nat), ∀ (x1 : Int32) (x2 : Int32) (x3 : Int32) (x4 : Int32) (x5 : Int32) (H : Heap) (locs : List Loc) (ls : Array Slot), f_X6_yearsOf_l16 k4 n16 x1 x2 x3 x4 x5 M = some r → kI (dw q aI) D A s M H locs → lv_has ls 8 [(0, .ref (q 0)), (1, .int x1), (2, .int x2), (3, .int x3), (4, .int x4), (5, .int x5)] → W p l e rm_X6_yearsOf s m args below meth c H locs 0 0 (MQ below (kQ (dw q aI) D A (some (.int r)) M) args s 0 0 A) (F0 m 16 ls []) := by
    intro k4 hk4
    intro n16
    induction n16 with
    | zero =>
      intro x1 x2 x3 x4 x5 H locs ls hf I hl
      rw [f_X6_yearsOf_l16] at hf
      cases hf
    | succ n16 ih16 =>
      intro x1 x2 x3 x4 x5 H locs ls hf I hl
      rw [f_X6_yearsOf_l16] at hf
      refine lv_iload hx hb dX6_yearsOf_16 (lv_at hl 5 rfl) ?_
      refine lv_aload_n hx hb dX6_yearsOf_18 rfl (lv_at hl 0 rfl) ?_
      refine k_get (T := TX6) (N := 27) X I inU6 0 dwG_0 rfl 14 (by decide) uw_4_13 rfl rfl dX6_yearsOf_19 ?_
      refine lv_icmp_ge (tgt := 109) hx hb dX6_yearsOf_22 (by decide) (fun c2 => ?_) (fun c2 => ?_)
      · rw [if_pos c2] at hf
        refine lv_iload_n hx hb dX6_yearsOf_109 rfl (lv_at hl 2 rfl) ?_
        refine lv_iload hx hb dX6_yearsOf_110 (lv_at hl 4 rfl) ?_
        refine lv_if_eq (tgt := 121) hx hb dX6_yearsOf_112 (by decide) (fun c3 => ?_) (fun c3 => ?_)
        · rw [if_pos c3] at hf
          refine lv_iconst (v := 0) hx hb dX6_yearsOf_121 (by decide) ?_
          exact B122 k4 hk4 x1 x3 (0 : Int32) x2 _ _ ls hf I (lv_sub hl [0, 1, 3] rfl)
        · rw [if_neg c3] at hf
          refine lv_iconst (v := 1) hx hb dX6_yearsOf_115 (by decide) ?_
          refine lv_iload_n hx hb dX6_yearsOf_116 rfl (lv_at hl 3 rfl) ?_
          refine lv_ishl hx hb dX6_yearsOf_117 ?_
          refine lv_goto (tgt := 122) hx hb dX6_yearsOf_118 (by decide) ?_
          exact B122 k4 hk4 x1 x3 ((1 : Int32) <<< (x3 &&& 31)) x2 _ _ ls hf I (lv_sub hl [0, 1, 3] rfl)
      · rw [if_neg c2] at hf
        refine lv_aload_n hx hb dX6_yearsOf_25 rfl (lv_at hl 0 rfl) ?_
        refine k_get (T := TX6) (N := 27) X I inU6 0 dwG_0 rfl 15 (by decide) uw_4_14 rfl rfl dX6_yearsOf_26 ?_
        refine lv_iconst (v := 3) hx hb dX6_yearsOf_29 (by decide) ?_
        refine lv_iload hx hb dX6_yearsOf_30 (lv_at hl 5 rfl) ?_
        refine lv_imul hx hb dX6_yearsOf_32 ?_
        refine lv_iconst (v := 1) hx hb dX6_yearsOf_33 (by decide) ?_
        refine lv_iadd hx hb dX6_yearsOf_34 ?_
        obtain ⟨r4, h_r4, hf⟩ := k_bind hf
        refine k_ald X I h_r4 7 dwG_7 dX6_yearsOf_35 ?_
        refine lv_istore (lv' := [(6, .int r4), (0, .ref (q 0)), (1, .int x1), (2, .int x2), (3, .int x3), (4, .int x4), (5, .int x5)]) hx hb dX6_yearsOf_36 hl (by decide) rfl (fun ls hl => ?_)
        refine lv_aload_n hx hb dX6_yearsOf_38 rfl (lv_at hl 1 rfl) ?_
        refine lv_iload hx hb dX6_yearsOf_39 (lv_at hl 0 rfl) ?_
        refine lv_aload_n hx hb dX6_yearsOf_41 rfl (lv_at hl 1 rfl) ?_
        refine lv_iload_n hx hb dX6_yearsOf_42 rfl (lv_at hl 2 rfl) ?_
        refine lv_iload hx hb dX6_yearsOf_43 (lv_at hl 0 rfl) ?_
        refine lv_iload_n hx hb dX6_yearsOf_45 rfl (lv_at hl 4 rfl) ?_
        obtain ⟨r5, h_r5, hf⟩ := k_bind hf
        refine k_callV (n := 3) (As := [.int x1, .int r4, .int x3]) (rest := [.int r4, .ref (q 0)]) X I (c_X6_wrongIn h_r5) uw_4_139 uw_4_141 us_20 uw_1_7 uw_4_142 ⟨rfl, rfl⟩ (by decide +kernel) rfl ⟨Nat.le_of_ble_eq_true rfl, Nat.le_of_ble_eq_true rfl⟩ ⟨Nat.le_of_ble_eq_true rfl, Nat.le_of_ble_eq_true rfl⟩ 0 dwG_0 rfl hl.1 rfl (Nat.le_of_ble_eq_true rfl) dX6_yearsOf_46 (st1 := [.int r5, .int r4, .ref (q 0)]) rfl (fun H locs I => ?_)
        obtain ⟨r6, h_r6, hf⟩ := k_bind hf
        refine k_callV (n := 2) (As := [.int r4, .int r5]) (rest := []) X I (c_X6_fitsBy h_r6) uw_4_143 uw_4_145 us_21 uw_1_7 uw_4_146 ⟨rfl, rfl⟩ (by decide +kernel) rfl ⟨Nat.le_of_ble_eq_true rfl, Nat.le_of_ble_eq_true rfl⟩ ⟨Nat.le_of_ble_eq_true rfl, Nat.le_of_ble_eq_true rfl⟩ 0 dwG_0 rfl hl.1 rfl (Nat.le_of_ble_eq_true rfl) dX6_yearsOf_49 (st1 := [.int r6]) rfl (fun H locs I => ?_)
        refine lv_if_eq (tgt := 59) hx hb dX6_yearsOf_52 (by decide) (fun c7 => ?_) (fun c7 => ?_)
        · rw [if_pos c7] at hf
          refine lv_iconst (v := 0) hx hb dX6_yearsOf_59 (by decide) ?_
          exact B60 k4 hk4 (f_X6_yearsOf_l16 k4 n16) ih16 x1 x2 x3 x4 x5 (0 : Int32) _ _ ls hf I (lv_sub hl [1, 2, 3, 4, 5, 6] rfl)
        · rw [if_neg c7] at hf
          refine lv_iconst (v := 1) hx hb dX6_yearsOf_55 (by decide) ?_
          refine lv_goto (tgt := 60) hx hb dX6_yearsOf_56 (by decide) ?_
          exact B60 k4 hk4 (f_X6_yearsOf_l16 k4 n16) ih16 x1 x2 x3 x4 x5 (1 : Int32) _ _ ls hf I (lv_sub hl [1, 2, 3, 4, 5, 6] rfl)
  have B4 : ∀ (n4 : Nat), ∀ (x1 : Int32) (x2 : Int32) (x3 : Int32) (H : Heap) (locs : List Loc) (ls : Array Slot), f_X6_yearsOf_l4 n4 x1 x2 x3 M = some r → kI (dw q aI) D A s M H locs → lv_has ls 8 [(0, .ref (q 0)), (1, .int x1), (2, .int x2), (3, .int x3)] → W p l e rm_X6_yearsOf s m args below meth c H locs 0 0 (MQ below (kQ (dw q aI) D A (some (.int r)) M) args s 0 0 A) (F0 m 4 ls []) := by
    intro n4
    induction n4 with
    | zero =>
      intro x1 x2 x3 H locs ls hf I hl
      rw [f_X6_yearsOf_l4] at hf
      cases hf
    | succ n4 ih4 =>
      intro x1 x2 x3 H locs ls hf I hl
      rw [f_X6_yearsOf_l4] at hf
      refine lv_iload_n hx hb dX6_yearsOf_4 rfl (lv_at hl 3 rfl) ?_
      refine lv_bipush (v := 10) hx hb dX6_yearsOf_5 (by decide) ?_
      refine lv_icmp_ge (tgt := 130) hx hb dX6_yearsOf_7 (by decide) (fun c1 => ?_) (fun c1 => ?_)
      · rw [if_pos c1] at hf
        refine lv_iload_n hx hb dX6_yearsOf_130 rfl (lv_at hl 2 rfl) ?_
        exact k_iretP X I hr hlocks dX6_yearsOf_131 hf
      · rw [if_neg c1] at hf
        refine lv_iconst (v := 1) hx hb dX6_yearsOf_10 (by decide) ?_
        refine lv_istore (lv' := [(4, .int (1 : Int32)), (0, .ref (q 0)), (1, .int x1), (2, .int x2), (3, .int x3)]) hx hb dX6_yearsOf_11 hl (by decide) rfl (fun ls hl => ?_)
        refine lv_iconst (v := 0) hx hb dX6_yearsOf_13 (by decide) ?_
        refine lv_istore (lv' := [(5, .int (0 : Int32)), (4, .int (1 : Int32)), (0, .ref (q 0)), (1, .int x1), (2, .int x2), (3, .int x3)]) hx hb dX6_yearsOf_14 hl (by decide) rfl (fun ls hl => ?_)
        exact B16 (f_X6_yearsOf_l4 n4) ih4 xN x1 x2 x3 (1 : Int32) (0 : Int32) _ _ ls hf I (lv_sub hl [2, 3, 4, 5, 1, 0] rfl)
  rw [f_X6_yearsOf] at hf
  refine lv_iconst (v := 0) hx hb dX6_yearsOf_0 (by decide) ?_
  refine lv_istore_n (lv' := [(2, .int (0 : Int32)), (0, .ref (q 0)), (1, .int x1)]) hx hb dX6_yearsOf_1 rfl hl (by decide) rfl (fun ls hl => ?_)
  refine lv_iconst (v := 0) hx hb dX6_yearsOf_2 (by decide) ?_
  refine lv_istore_n (lv' := [(3, .int (0 : Int32)), (2, .int (0 : Int32)), (0, .ref (q 0)), (1, .int x1)]) hx hb dX6_yearsOf_3 rfl hl (by decide) rfl (fun ls hl => ?_)
  exact B4 xN x1 (0 : Int32) (0 : Int32) _ _ ls hf I (lv_sub hl [2, 3, 1, 0] rfl)
/-! LostTentModel.showOf(I)I -/
abbrev rm_X6_showOf : Room := { frames := 2, cells := 0, slots := 0, locals := 55 }
def f_X6_showOf_b144 (k15 : Int32 → Int32 → Int32 → Int32 → Int32 → xM → Option Int32) (x1 : Int32) (x2 : Int32) (x3 : Int32) (x5 : Int32) (y0 : Int32) (M : xM) : Option Int32 :=
  k15 x1 x2 x3 y0 (x5 + 1) M
def f_X6_showOf_b129 (k15 : Int32 → Int32 → Int32 → Int32 → Int32 → xM → Option Int32) (x1 : Int32) (x2 : Int32) (x4 : Int32) (x5 : Int32) (x8 : Int32) (y0 : Int32) (M : xM) : Option Int32 :=
  if x4 ≤ x8 then
    f_X6_showOf_b144 k15 x1 x2 y0 x5 x4 M
  else
    f_X6_showOf_b144 k15 x1 x2 y0 x5 x8 M
def f_X6_showOf_b114 (k15 : Int32 → Int32 → Int32 → Int32 → Int32 → xM → Option Int32) (x1 : Int32) (x2 : Int32) (x3 : Int32) (x4 : Int32) (x5 : Int32) (y0 : Int32) (M : xM) : Option Int32 :=
  if x4 ≤ y0 then
    f_X6_showOf_b129 k15 x1 x2 x4 x5 y0 x3 M
  else
    f_X6_showOf_b129 k15 x1 x2 x4 x5 y0 x5 M
def f_X6_showOf_b85 (k15 : Int32 → Int32 → Int32 → Int32 → Int32 → xM → Option Int32) (k37 : Int32 → Int32 → Int32 → Int32 → Int32 → Int32 → Int32 → Int32 → xM → Option Int32) (x1 : Int32) (x2 : Int32) (x3 : Int32) (x4 : Int32) (x5 : Int32) (x7 : Int32) (x8 : Int32) (y0 : Int32) (y1 : Int32) (M : xM) : Option Int32 :=
  k37 x1 x2 x3 x4 x5 (y1 + y0) x7 (x8 + 1) M
def f_X6_showOf_l37 (k15 : Int32 → Int32 → Int32 → Int32 → Int32 → xM → Option Int32) : Nat → Int32 → Int32 → Int32 → Int32 → Int32 → Int32 → Int32 → Int32 → xM → Option Int32
  | 0, _, _, _, _, _, _, _, _, _ => none
  | n37 + 1, x1, x2, x3, x4, x5, x6, x7, x8, M =>
    if (10 : Int32) ≤ x8 then
      if x6 ≤ (x7 - x6) then
        f_X6_showOf_b114 k15 x1 x2 x3 x4 x5 (x7 - x6) M
      else
        f_X6_showOf_b114 k15 x1 x2 x3 x4 x5 x6 M
    else
      (f_X6_wrongIn x1 x5 x8 M).bind fun r8 =>
      (f_X6_fitsBy x5 r8 M).bind fun r9 =>
      if r9 = 0 then
        f_X6_showOf_b85 k15 (f_X6_showOf_l37 k15 n37) x1 x2 x3 x4 x5 (x7 + ((x2 >>> (x8 &&& 31)) &&& (1 : Int32))) x8 (0 : Int32) x6 M
      else
        f_X6_showOf_b85 k15 (f_X6_showOf_l37 k15 n37) x1 x2 x3 x4 x5 (x7 + ((x2 >>> (x8 &&& 31)) &&& (1 : Int32))) x8 ((x2 >>> (x8 &&& 31)) &&& (1 : Int32)) x6 M
def f_X6_showOf_l15 : Nat → Int32 → Int32 → Int32 → Int32 → Int32 → xM → Option Int32
  | 0, _, _, _, _, _, _ => none
  | n15 + 1, x1, x2, x3, x4, x5, M =>
    if (M.1 3) ≤ x5 then
      some x3
    else
      if x2 = 0 then
        some x3
      else
        f_X6_showOf_l37 (f_X6_showOf_l15 n15) xN x1 x2 x3 x4 x5 (0 : Int32) (0 : Int32) (0 : Int32) M
def f_X6_showOf (x1 : Int32) (M : xM) : Option Int32 :=
  (f_X6_yearsOf x1 M).bind fun r1 =>
  f_X6_showOf_l15 xN x1 r1 (-1 : Int32) (11 : Int32) (0 : Int32) M
set_option maxRecDepth 100000 in
set_option maxHeartbeats 8000000 in
theorem c_X6_showOf {l : Launch} {D : va_G} {aI : ClassId} {q t : Nat → Nat} {x1 : Int32} {M : xM} {r : Int32} (hf : f_X6_showOf x1 M = some r) : kM l yX6_showOf (wk yX6_showOf cX6_showOf 9 (some .int)) rm_X6_showOf (dw q aI) D aI t [.ref (q 0), .int x1] M (some (.int r)) M := by
  refine kM_of (by decide) (Nat.le_of_ble_eq_true rfl) ?_
  intro p e s m args below meth c A ls X hr hlocks hl I
  have hx := X.1
  have hb := X.2.1
  have hl : lv_has ls 9 [(0, .ref (q 0)), (1, .int x1)] := hl
  have B144 : ∀ (k15 : Int32 → Int32 → Int32 → Int32 → Int32 → xM → Option Int32), (∀ (x1 : Int32) (x2 : Int32) (x3 : Int32) (x4 : Int32) (x5 : Int32) (H : Heap) (locs : List Loc) (ls : Array Slot), k15 x1 x2 x3 x4 x5 M = some r → kI (dw q aI) D A s M H locs → lv_has ls 9 [(0, .ref (q 0)), (1, .int x1), (2, .int x2), (3, .int x3), (4, .int x4), (5, .int x5)] → W p l e rm_X6_showOf s m args below meth c H locs 0 0 (MQ below (kQ (dw q aI) D A (some (.int r)) M) args s 0 0 A) (F0 m 15 ls [])) → ∀ (x1 : Int32) (x2 : Int32) (x3 : Int32) (x5 : Int32) (y0 : Int32) (H : Heap) (locs : List Loc) (ls : Array Slot), f_X6_showOf_b144 k15 x1 x2 x3 x5 y0 M = some r → kI (dw q aI) D A s M H locs → lv_has ls 9 [(0, .ref (q 0)), (1, .int x1), (2, .int x2), (3, .int x3), (5, .int x5)] → W p l e rm_X6_showOf s m args below meth c H locs 0 0 (MQ below (kQ (dw q aI) D A (some (.int r)) M) args s 0 0 A) (F0 m 144 ls [.int y0]) := by
    intro k15 hk15 x1 x2 x3 x5 y0 H locs ls hf I hl
    rw [f_X6_showOf_b144] at hf
    refine lv_istore (lv' := [(4, .int y0), (0, .ref (q 0)), (1, .int x1), (2, .int x2), (3, .int x3), (5, .int x5)]) hx hb dX6_showOf_144 hl (by decide) rfl (fun ls hl => ?_)
    refine lv_iinc (v := (x5 + 1)) (lv' := [(5, .int (x5 + 1)), (4, .int y0), (0, .ref (q 0)), (1, .int x1), (2, .int x2), (3, .int x3)]) hx hb dX6_showOf_146 hl (k := 5) rfl rfl (by decide) rfl (fun ls hl => ?_)
    refine lv_goto (tgt := 15) hx hb dX6_showOf_149 (by decide) ?_
    exact hk15 x1 x2 x3 y0 (x5 + 1) _ _ ls hf I (lv_sub hl [2, 3, 4, 5, 1, 0] rfl)
  have B129 : ∀ (k15 : Int32 → Int32 → Int32 → Int32 → Int32 → xM → Option Int32), (∀ (x1 : Int32) (x2 : Int32) (x3 : Int32) (x4 : Int32) (x5 : Int32) (H : Heap) (locs : List Loc) (ls : Array Slot), k15 x1 x2 x3 x4 x5 M = some r → kI (dw q aI) D A s M H locs → lv_has ls 9 [(0, .ref (q 0)), (1, .int x1), (2, .int x2), (3, .int x3), (4, .int x4), (5, .int x5)] → W p l e rm_X6_showOf s m args below meth c H locs 0 0 (MQ below (kQ (dw q aI) D A (some (.int r)) M) args s 0 0 A) (F0 m 15 ls [])) → ∀ (x1 : Int32) (x2 : Int32) (x4 : Int32) (x5 : Int32) (x8 : Int32) (y0 : Int32) (H : Heap) (locs : List Loc) (ls : Array Slot), f_X6_showOf_b129 k15 x1 x2 x4 x5 x8 y0 M = some r → kI (dw q aI) D A s M H locs → lv_has ls 9 [(0, .ref (q 0)), (1, .int x1), (2, .int x2), (4, .int x4), (5, .int x5), (8, .int x8)] → W p l e rm_X6_showOf s m args below meth c H locs 0 0 (MQ below (kQ (dw q aI) D A (some (.int r)) M) args s 0 0 A) (F0 m 129 ls [.int y0]) := by
    intro k15 hk15 x1 x2 x4 x5 x8 y0 H locs ls hf I hl
    rw [f_X6_showOf_b129] at hf
    refine lv_istore_n (lv' := [(3, .int y0), (0, .ref (q 0)), (1, .int x1), (2, .int x2), (4, .int x4), (5, .int x5), (8, .int x8)]) hx hb dX6_showOf_129 rfl hl (by decide) rfl (fun ls hl => ?_)
    refine lv_iload hx hb dX6_showOf_130 (lv_at hl 6 rfl) ?_
    refine lv_iload hx hb dX6_showOf_132 (lv_at hl 4 rfl) ?_
    refine lv_icmp_ge (tgt := 142) hx hb dX6_showOf_134 (by decide) (fun c7 => ?_) (fun c7 => ?_)
    · rw [if_pos c7] at hf
      refine lv_iload hx hb dX6_showOf_142 (lv_at hl 4 rfl) ?_
      exact B144 k15 hk15 x1 x2 y0 x5 x4 _ _ ls hf I (lv_sub hl [1, 2, 3, 0, 5] rfl)
    · rw [if_neg c7] at hf
      refine lv_iload hx hb dX6_showOf_137 (lv_at hl 6 rfl) ?_
      refine lv_goto (tgt := 144) hx hb dX6_showOf_139 (by decide) ?_
      exact B144 k15 hk15 x1 x2 y0 x5 x8 _ _ ls hf I (lv_sub hl [1, 2, 3, 0, 5] rfl)
  have B114 : ∀ (k15 : Int32 → Int32 → Int32 → Int32 → Int32 → xM → Option Int32), (∀ (x1 : Int32) (x2 : Int32) (x3 : Int32) (x4 : Int32) (x5 : Int32) (H : Heap) (locs : List Loc) (ls : Array Slot), k15 x1 x2 x3 x4 x5 M = some r → kI (dw q aI) D A s M H locs → lv_has ls 9 [(0, .ref (q 0)), (1, .int x1), (2, .int x2), (3, .int x3), (4, .int x4), (5, .int x5)] → W p l e rm_X6_showOf s m args below meth c H locs 0 0 (MQ below (kQ (dw q aI) D A (some (.int r)) M) args s 0 0 A) (F0 m 15 ls [])) → ∀ (x1 : Int32) (x2 : Int32) (x3 : Int32) (x4 : Int32) (x5 : Int32) (y0 : Int32) (H : Heap) (locs : List Loc) (ls : Array Slot), f_X6_showOf_b114 k15 x1 x2 x3 x4 x5 y0 M = some r → kI (dw q aI) D A s M H locs → lv_has ls 9 [(0, .ref (q 0)), (1, .int x1), (2, .int x2), (3, .int x3), (4, .int x4), (5, .int x5)] → W p l e rm_X6_showOf s m args below meth c H locs 0 0 (MQ below (kQ (dw q aI) D A (some (.int r)) M) args s 0 0 A) (F0 m 114 ls [.int y0]) := by
    intro k15 hk15 x1 x2 x3 x4 x5 y0 H locs ls hf I hl
    rw [f_X6_showOf_b114] at hf
    refine lv_istore (lv' := [(8, .int y0), (0, .ref (q 0)), (1, .int x1), (2, .int x2), (3, .int x3), (4, .int x4), (5, .int x5)]) hx hb dX6_showOf_114 hl (by decide) rfl (fun ls hl => ?_)
    refine lv_iload hx hb dX6_showOf_116 (lv_at hl 0 rfl) ?_
    refine lv_iload hx hb dX6_showOf_118 (lv_at hl 5 rfl) ?_
    refine lv_icmp_ge (tgt := 128) hx hb dX6_showOf_120 (by decide) (fun c6 => ?_) (fun c6 => ?_)
    · rw [if_pos c6] at hf
      refine lv_iload_n hx hb dX6_showOf_128 rfl (lv_at hl 4 rfl) ?_
      exact B129 k15 hk15 x1 x2 x4 x5 y0 x3 _ _ ls hf I (lv_sub hl [1, 2, 3, 5, 6, 0] rfl)
    · rw [if_neg c6] at hf
      refine lv_iload hx hb dX6_showOf_123 (lv_at hl 6 rfl) ?_
      refine lv_goto (tgt := 129) hx hb dX6_showOf_125 (by decide) ?_
      exact B129 k15 hk15 x1 x2 x4 x5 y0 x5 _ _ ls hf I (lv_sub hl [1, 2, 3, 5, 6, 0] rfl)
  have B85 : ∀ (k15 : Int32 → Int32 → Int32 → Int32 → Int32 → xM → Option Int32), (∀ (x1 : Int32) (x2 : Int32) (x3 : Int32) (x4 : Int32) (x5 : Int32) (H : Heap) (locs : List Loc) (ls : Array Slot), k15 x1 x2 x3 x4 x5 M = some r → kI (dw q aI) D A s M H locs → lv_has ls 9 [(0, .ref (q 0)), (1, .int x1), (2, .int x2), (3, .int x3), (4, .int x4), (5, .int x5)] → W p l e rm_X6_showOf s m args below meth c H locs 0 0 (MQ below (kQ (dw q aI) D A (some (.int r)) M) args s 0 0 A) (F0 m 15 ls [])) → ∀ (k37 : Int32 → Int32 → Int32 → Int32 → Int32 → Int32 → Int32 → Int32 → xM → Option Int32), (∀ (x1 : Int32) (x2 : Int32) (x3 : Int32) (x4 : Int32) (x5 : Int32) (x6 : Int32) (x7 : Int32) (x8 : Int32) (H : Heap) (locs : List Loc) (ls : Array Slot), k37 x1 x2 x3 x4 x5 x6 x7 x8 M = some r → kI (dw q aI) D A s M H locs → lv_has ls 9 [(0, .ref (q 0)), (1, .int x1), (2, .int x2), (3, .int x3), (4, .int x4), (5, .int x5), (6, .int x6), (7, .int x7), (8, .int x8)] → W p l e rm_X6_showOf s m args below meth c H locs 0 0 (MQ below (kQ (dw q aI) D A (some (.int r)) M) args s 0 0 A) (F0 m 37 ls [])) → ∀ (x1 : Int32) (x2 : Int32) (x3 : Int32) (x4 : Int32) (x5 : Int32) (x7 : Int32) (x8 : Int32) (y0 : Int32) (y1 : Int32) (H : Heap) (locs : List Loc) (ls : Array Slot), f_X6_showOf_b85 k15 k37 x1 x2 x3 x4 x5 x7 x8 y0 y1 M = some r → kI (dw q aI) D A s M H locs → lv_has ls 9 [(0, .ref (q 0)), (1, .int x1), (2, .int x2), (3, .int x3), (4, .int x4), (5, .int x5), (7, .int x7), (8, .int x8)] → W p l e rm_X6_showOf s m args below meth c H locs 0 0 (MQ below (kQ (dw q aI) D A (some (.int r)) M) args s 0 0 A) (F0 m 85 ls [.int y0, .int y1]) := by
    intro k15 hk15 k37 hk37 x1 x2 x3 x4 x5 x7 x8 y0 y1 H locs ls hf I hl
    rw [f_X6_showOf_b85] at hf
    refine lv_iadd hx hb dX6_showOf_85 ?_
    refine lv_istore (lv' := [(6, .int (y1 + y0)), (0, .ref (q 0)), (1, .int x1), (2, .int x2), (3, .int x3), (4, .int x4), (5, .int x5), (7, .int x7), (8, .int x8)]) hx hb dX6_showOf_86 hl (by decide) rfl (fun ls hl => ?_)
    refine lv_iinc (v := (x8 + 1)) (lv' := [(8, .int (x8 + 1)), (6, .int (y1 + y0)), (0, .ref (q 0)), (1, .int x1), (2, .int x2), (3, .int x3), (4, .int x4), (5, .int x5), (7, .int x7)]) hx hb dX6_showOf_88 hl (k := 8) rfl rfl (by decide) rfl (fun ls hl => ?_)
    refine lv_goto (tgt := 37) hx hb dX6_showOf_91 (by decide) ?_
    exact hk37 x1 x2 x3 x4 x5 (y1 + y0) x7 (x8 + 1) _ _ ls hf I (lv_sub hl [2, 3, 4, 5, 6, 7, 1, 8, 0] rfl)
  have B37 : ∀ (k15 : Int32 → Int32 → Int32 → Int32 → Int32 → xM → Option Int32), (∀ (x1 : Int32) (x2 : Int32) (x3 : Int32) (x4 : Int32) (x5 : Int32) (H : Heap) (locs : List Loc) (ls : Array Slot), k15 x1 x2 x3 x4 x5 M = some r → kI (dw q aI) D A s M H locs → lv_has ls 9 [(0, .ref (q 0)), (1, .int x1), (2, .int x2), (3, .int x3), (4, .int x4), (5, .int x5)] → W p l e rm_X6_showOf s m args below meth c H locs 0 0 (MQ below (kQ (dw q aI) D A (some (.int r)) M) args s 0 0 A) (F0 m 15 ls [])) → ∀ (n37 : Nat), ∀ (x1 : Int32) (x2 : Int32) (x3 : Int32) (x4 : Int32) (x5 : Int32) (x6 : Int32) (x7 : Int32) (x8 : Int32) (H : Heap) (locs : List Loc) (ls : Array Slot), f_X6_showOf_l37 k15 n37 x1 x2 x3 x4 x5 x6 x7 x8 M = some r → kI (dw q aI) D A s M H locs → lv_has ls 9 [(0, .ref (q 0)), (1, .int x1), (2, .int x2), (3, .int x3), (4, .int x4), (5, .int x5), (6, .int x6), (7, .int x7), (8, .int x8)] → W p l e rm_X6_showOf s m args below meth c H locs 0 0 (MQ below (kQ (dw q aI) D A (some (.int r)) M) args s 0 0 A) (F0 m 37 ls []) := by
    intro k15 hk15
    intro n37
    induction n37 with
    | zero =>
      intro x1 x2 x3 x4 x5 x6 x7 x8 H locs ls hf I hl
      rw [f_X6_showOf_l37] at hf
      cases hf
    | succ n37 ih37 =>
      intro x1 x2 x3 x4 x5 x6 x7 x8 H locs ls hf I hl
      rw [f_X6_showOf_l37] at hf
      refine lv_iload hx hb dX6_showOf_37 (lv_at hl 8 rfl) ?_
      refine lv_bipush (v := 10) hx hb dX6_showOf_39 (by decide) ?_
      refine lv_icmp_ge (tgt := 94) hx hb dX6_showOf_41 (by decide) (fun c4 => ?_) (fun c4 => ?_)
      · rw [if_pos c4] at hf
        refine lv_iload hx hb dX6_showOf_94 (lv_at hl 6 rfl) ?_
        refine lv_iload hx hb dX6_showOf_96 (lv_at hl 7 rfl) ?_
        refine lv_iload hx hb dX6_showOf_98 (lv_at hl 6 rfl) ?_
        refine lv_isub hx hb dX6_showOf_100 ?_
        refine lv_icmp_le (tgt := 109) hx hb dX6_showOf_101 (by decide) (fun c5 => ?_) (fun c5 => ?_)
        · rw [if_pos c5] at hf
          refine lv_iload hx hb dX6_showOf_109 (lv_at hl 7 rfl) ?_
          refine lv_iload hx hb dX6_showOf_111 (lv_at hl 6 rfl) ?_
          refine lv_isub hx hb dX6_showOf_113 ?_
          exact B114 k15 hk15 x1 x2 x3 x4 x5 (x7 - x6) _ _ ls hf I (lv_sub hl [0, 1, 2, 3, 4, 5] rfl)
        · rw [if_neg c5] at hf
          refine lv_iload hx hb dX6_showOf_104 (lv_at hl 6 rfl) ?_
          refine lv_goto (tgt := 114) hx hb dX6_showOf_106 (by decide) ?_
          exact B114 k15 hk15 x1 x2 x3 x4 x5 x6 _ _ ls hf I (lv_sub hl [0, 1, 2, 3, 4, 5] rfl)
      · rw [if_neg c4] at hf
        refine lv_iload hx hb dX6_showOf_44 (lv_at hl 7 rfl) ?_
        refine lv_iload_n hx hb dX6_showOf_46 rfl (lv_at hl 2 rfl) ?_
        refine lv_iload hx hb dX6_showOf_47 (lv_at hl 8 rfl) ?_
        refine lv_ishr hx hb dX6_showOf_49 ?_
        refine lv_iconst (v := 1) hx hb dX6_showOf_50 (by decide) ?_
        refine lv_iand hx hb dX6_showOf_51 ?_
        refine lv_iadd hx hb dX6_showOf_52 ?_
        refine lv_istore (lv' := [(7, .int (x7 + ((x2 >>> (x8 &&& 31)) &&& (1 : Int32)))), (0, .ref (q 0)), (1, .int x1), (2, .int x2), (3, .int x3), (4, .int x4), (5, .int x5), (6, .int x6), (8, .int x8)]) hx hb dX6_showOf_53 hl (by decide) rfl (fun ls hl => ?_)
        refine lv_iload hx hb dX6_showOf_55 (lv_at hl 7 rfl) ?_
        refine lv_aload_n hx hb dX6_showOf_57 rfl (lv_at hl 1 rfl) ?_
        refine lv_iload hx hb dX6_showOf_58 (lv_at hl 6 rfl) ?_
        refine lv_aload_n hx hb dX6_showOf_60 rfl (lv_at hl 1 rfl) ?_
        refine lv_iload_n hx hb dX6_showOf_61 rfl (lv_at hl 2 rfl) ?_
        refine lv_iload hx hb dX6_showOf_62 (lv_at hl 6 rfl) ?_
        refine lv_iload hx hb dX6_showOf_64 (lv_at hl 8 rfl) ?_
        obtain ⟨r8, h_r8, hf⟩ := k_bind hf
        refine k_callV (n := 3) (As := [.int x1, .int x5, .int x8]) (rest := [.int x5, .ref (q 0), .int x6]) X I (c_X6_wrongIn h_r8) uw_4_139 uw_4_141 us_20 uw_1_7 uw_4_142 ⟨rfl, rfl⟩ (by decide +kernel) rfl ⟨Nat.le_of_ble_eq_true rfl, Nat.le_of_ble_eq_true rfl⟩ ⟨Nat.le_of_ble_eq_true rfl, Nat.le_of_ble_eq_true rfl⟩ 0 dwG_0 rfl hl.1 rfl (Nat.le_of_ble_eq_true rfl) dX6_showOf_66 (st1 := [.int r8, .int x5, .ref (q 0), .int x6]) rfl (fun H locs I => ?_)
        obtain ⟨r9, h_r9, hf⟩ := k_bind hf
        refine k_callV (n := 2) (As := [.int x5, .int r8]) (rest := [.int x6]) X I (c_X6_fitsBy h_r9) uw_4_143 uw_4_145 us_21 uw_1_7 uw_4_146 ⟨rfl, rfl⟩ (by decide +kernel) rfl ⟨Nat.le_of_ble_eq_true rfl, Nat.le_of_ble_eq_true rfl⟩ ⟨Nat.le_of_ble_eq_true rfl, Nat.le_of_ble_eq_true rfl⟩ 0 dwG_0 rfl hl.1 rfl (Nat.le_of_ble_eq_true rfl) dX6_showOf_69 (st1 := [.int r9, .int x6]) rfl (fun H locs I => ?_)
        refine lv_if_eq (tgt := 84) hx hb dX6_showOf_72 (by decide) (fun c10 => ?_) (fun c10 => ?_)
        · rw [if_pos c10] at hf
          refine lv_iconst (v := 0) hx hb dX6_showOf_84 (by decide) ?_
          exact B85 k15 hk15 (f_X6_showOf_l37 k15 n37) ih37 x1 x2 x3 x4 x5 (x7 + ((x2 >>> (x8 &&& 31)) &&& (1 : Int32))) x8 (0 : Int32) x6 _ _ ls hf I (lv_sub hl [1, 2, 3, 4, 5, 6, 0, 8] rfl)
        · rw [if_neg c10] at hf
          refine lv_iload_n hx hb dX6_showOf_75 rfl (lv_at hl 3 rfl) ?_
          refine lv_iload hx hb dX6_showOf_76 (lv_at hl 8 rfl) ?_
          refine lv_ishr hx hb dX6_showOf_78 ?_
          refine lv_iconst (v := 1) hx hb dX6_showOf_79 (by decide) ?_
          refine lv_iand hx hb dX6_showOf_80 ?_
          refine lv_goto (tgt := 85) hx hb dX6_showOf_81 (by decide) ?_
          exact B85 k15 hk15 (f_X6_showOf_l37 k15 n37) ih37 x1 x2 x3 x4 x5 (x7 + ((x2 >>> (x8 &&& 31)) &&& (1 : Int32))) x8 ((x2 >>> (x8 &&& 31)) &&& (1 : Int32)) x6 _ _ ls hf I (lv_sub hl [1, 2, 3, 4, 5, 6, 0, 8] rfl)
  have B15 : ∀ (n15 : Nat), ∀ (x1 : Int32) (x2 : Int32) (x3 : Int32) (x4 : Int32) (x5 : Int32) (H : Heap) (locs : List Loc) (ls : Array Slot), f_X6_showOf_l15 n15 x1 x2 x3 x4 x5 M = some r → kI (dw q aI) D A s M H locs → lv_has ls 9 [(0, .ref (q 0)), (1, .int x1), (2, .int x2), (3, .int x3), (4, .int x4), (5, .int x5)] → W p l e rm_X6_showOf s m args below meth c H locs 0 0 (MQ below (kQ (dw q aI) D A (some (.int r)) M) args s 0 0 A) (F0 m 15 ls []) := by
    intro n15
    induction n15 with
    | zero =>
      intro x1 x2 x3 x4 x5 H locs ls hf I hl
      rw [f_X6_showOf_l15] at hf
      cases hf
    | succ n15 ih15 =>
      intro x1 x2 x3 x4 x5 H locs ls hf I hl
      rw [f_X6_showOf_l15] at hf
      refine lv_iload hx hb dX6_showOf_15 (lv_at hl 5 rfl) ?_
      refine lv_aload_n hx hb dX6_showOf_17 rfl (lv_at hl 0 rfl) ?_
      refine k_get (T := TX6) (N := 27) X I inU6 0 dwG_0 rfl 4 (by decide) uw_4_3 rfl rfl dX6_showOf_18 ?_
      refine lv_icmp_ge (tgt := 152) hx hb dX6_showOf_21 (by decide) (fun c2 => ?_) (fun c2 => ?_)
      · rw [if_pos c2] at hf
        refine lv_iload_n hx hb dX6_showOf_152 rfl (lv_at hl 3 rfl) ?_
        exact k_iretP X I hr hlocks dX6_showOf_153 hf
      · rw [if_neg c2] at hf
        refine lv_iload_n hx hb dX6_showOf_24 rfl (lv_at hl 2 rfl) ?_
        refine lv_if_eq (tgt := 152) hx hb dX6_showOf_25 (by decide) (fun c3 => ?_) (fun c3 => ?_)
        · rw [if_pos c3] at hf
          refine lv_iload_n hx hb dX6_showOf_152 rfl (lv_at hl 3 rfl) ?_
          exact k_iretP X I hr hlocks dX6_showOf_153 hf
        · rw [if_neg c3] at hf
          refine lv_iconst (v := 0) hx hb dX6_showOf_28 (by decide) ?_
          refine lv_istore (lv' := [(6, .int (0 : Int32)), (0, .ref (q 0)), (1, .int x1), (2, .int x2), (3, .int x3), (4, .int x4), (5, .int x5)]) hx hb dX6_showOf_29 hl (by decide) rfl (fun ls hl => ?_)
          refine lv_iconst (v := 0) hx hb dX6_showOf_31 (by decide) ?_
          refine lv_istore (lv' := [(7, .int (0 : Int32)), (6, .int (0 : Int32)), (0, .ref (q 0)), (1, .int x1), (2, .int x2), (3, .int x3), (4, .int x4), (5, .int x5)]) hx hb dX6_showOf_32 hl (by decide) rfl (fun ls hl => ?_)
          refine lv_iconst (v := 0) hx hb dX6_showOf_34 (by decide) ?_
          refine lv_istore (lv' := [(8, .int (0 : Int32)), (7, .int (0 : Int32)), (6, .int (0 : Int32)), (0, .ref (q 0)), (1, .int x1), (2, .int x2), (3, .int x3), (4, .int x4), (5, .int x5)]) hx hb dX6_showOf_35 hl (by decide) rfl (fun ls hl => ?_)
          exact B37 (f_X6_showOf_l15 n15) ih15 xN x1 x2 x3 x4 x5 (0 : Int32) (0 : Int32) (0 : Int32) _ _ ls hf I (lv_sub hl [3, 4, 5, 6, 7, 8, 2, 1, 0] rfl)
  rw [f_X6_showOf] at hf
  refine lv_aload_n hx hb dX6_showOf_0 rfl (lv_at hl 0 rfl) ?_
  refine lv_iload_n hx hb dX6_showOf_1 rfl (lv_at hl 1 rfl) ?_
  obtain ⟨r1, h_r1, hf⟩ := k_bind hf
  refine k_callV (n := 1) (As := [.int x1]) (rest := []) X I (c_X6_yearsOf h_r1) uw_4_147 uw_4_149 us_22 uw_1_7 uw_4_150 ⟨rfl, rfl⟩ (by decide +kernel) rfl ⟨Nat.le_of_ble_eq_true rfl, Nat.le_of_ble_eq_true rfl⟩ ⟨Nat.le_of_ble_eq_true rfl, Nat.le_of_ble_eq_true rfl⟩ 0 dwG_0 rfl hl.1 rfl (Nat.le_of_ble_eq_true rfl) dX6_showOf_2 (st1 := [.int r1]) rfl (fun H locs I => ?_)
  refine lv_istore_n (lv' := [(2, .int r1), (0, .ref (q 0)), (1, .int x1)]) hx hb dX6_showOf_5 rfl hl (by decide) rfl (fun ls hl => ?_)
  refine lv_iconst (v := (-1)) hx hb dX6_showOf_6 (by decide) ?_
  refine lv_istore_n (lv' := [(3, .int (-1 : Int32)), (2, .int r1), (0, .ref (q 0)), (1, .int x1)]) hx hb dX6_showOf_7 rfl hl (by decide) rfl (fun ls hl => ?_)
  refine lv_bipush (v := 11) hx hb dX6_showOf_8 (by decide) ?_
  refine lv_istore (lv' := [(4, .int (11 : Int32)), (3, .int (-1 : Int32)), (2, .int r1), (0, .ref (q 0)), (1, .int x1)]) hx hb dX6_showOf_10 hl (by decide) rfl (fun ls hl => ?_)
  refine lv_iconst (v := 0) hx hb dX6_showOf_12 (by decide) ?_
  refine lv_istore (lv' := [(5, .int (0 : Int32)), (4, .int (11 : Int32)), (3, .int (-1 : Int32)), (2, .int r1), (0, .ref (q 0)), (1, .int x1)]) hx hb dX6_showOf_13 hl (by decide) rfl (fun ls hl => ?_)
  exact B15 xN x1 r1 (-1 : Int32) (11 : Int32) (0 : Int32) _ _ ls hf I (lv_sub hl [4, 5, 3, 2, 1, 0] rfl)
/-! LostTentModel.tellThing(II)I -/
abbrev rm_X6_tellThing : Room := { frames := 4, cells := 0, slots := 0, locals := 95 }
def f_X6_tellThing_b44 (x1 : Int32) (x2 : Int32) (M : xM) : Option Int32 :=
  (xld 20 (M.2.2 1) (((4 : Int32) * x1) + x2)).bind fun r2 =>
  some r2
def f_X6_tellThing (x1 : Int32) (x2 : Int32) (M : xM) : Option Int32 :=
  if x2 = 0 then
    f_X6_tellThing_b44 x1 x2 M
  else
  if x2 = 1 then
    f_X6_tellThing_b44 x1 x2 M
  else
  if x2 = 2 then
    f_X6_tellThing_b44 x1 x2 M
  else
  if x2 = 3 then
    f_X6_tellThing_b44 x1 x2 M
  else
  if x2 = 4 then
    (f_X6_claimersOf x1 M).bind fun r7 =>
    some r7
  else
  if x2 = 5 then
    (f_X6_yearsOf x1 M).bind fun r9 =>
    some r9
  else
  if x2 = 6 then
    (f_X6_showOf x1 M).bind fun r11 =>
    some r11
  else
  some (-102 : Int32)
set_option maxRecDepth 100000 in
set_option maxHeartbeats 8000000 in
theorem c_X6_tellThing {l : Launch} {D : va_G} {aI : ClassId} {q t : Nat → Nat} {x1 : Int32} {x2 : Int32} {M : xM} {r : Int32} (hf : f_X6_tellThing x1 x2 M = some r) : kM l yX6_tellThing (wk yX6_tellThing cX6_tellThing 3 (some .int)) rm_X6_tellThing (dw q aI) D aI t [.ref (q 0), .int x1, .int x2] M (some (.int r)) M := by
  refine kM_of (by decide) (Nat.le_of_ble_eq_true rfl) ?_
  intro p e s m args below meth c A ls X hr hlocks hl I
  have hx := X.1
  have hb := X.2.1
  have hl : lv_has ls 3 [(0, .ref (q 0)), (1, .int x1), (2, .int x2)] := hl
  have B44 : ∀ (x1 : Int32) (x2 : Int32) (H : Heap) (locs : List Loc) (ls : Array Slot), f_X6_tellThing_b44 x1 x2 M = some r → kI (dw q aI) D A s M H locs → lv_has ls 3 [(0, .ref (q 0)), (1, .int x1), (2, .int x2)] → W p l e rm_X6_tellThing s m args below meth c H locs 0 0 (MQ below (kQ (dw q aI) D A (some (.int r)) M) args s 0 0 A) (F0 m 44 ls []) := by
    intro x1 x2 H locs ls hf I hl
    rw [f_X6_tellThing_b44] at hf
    refine lv_aload_n hx hb dX6_tellThing_44 rfl (lv_at hl 0 rfl) ?_
    refine k_get (T := TX6) (N := 27) X I inU6 0 dwG_0 rfl 9 (by decide) uw_4_8 rfl rfl dX6_tellThing_45 ?_
    refine lv_iconst (v := 4) hx hb dX6_tellThing_48 (by decide) ?_
    refine lv_iload_n hx hb dX6_tellThing_49 rfl (lv_at hl 1 rfl) ?_
    refine lv_imul hx hb dX6_tellThing_50 ?_
    refine lv_iload_n hx hb dX6_tellThing_51 rfl (lv_at hl 2 rfl) ?_
    refine lv_iadd hx hb dX6_tellThing_52 ?_
    obtain ⟨r2, h_r2, hf⟩ := k_bind hf
    refine k_ald X I h_r2 2 dwG_2 dX6_tellThing_53 ?_
    exact k_iretP X I hr hlocks dX6_tellThing_54 hf
  rw [f_X6_tellThing] at hf
  refine lv_iload_n hx hb dX6_tellThing_0 rfl (lv_at hl 2 rfl) ?_
  by_cases c1 : x2 = 0
  · rw [if_pos c1] at hf
    refine lv_tableIn (off := 43) (tgt := 44) hx hb dX6_tellThing_1 (by rw [c1]; decide) (by rw [c1]; decide) (by rw [c1]; rfl) (by decide) ?_
    exact B44 x1 x2 _ _ ls hf I (lv_sub hl [0, 1, 2] rfl)
  rw [if_neg c1] at hf
  by_cases c3 : x2 = 1
  · rw [if_pos c3] at hf
    refine lv_tableIn (off := 43) (tgt := 44) hx hb dX6_tellThing_1 (by rw [c3]; decide) (by rw [c3]; decide) (by rw [c3]; rfl) (by decide) ?_
    exact B44 x1 x2 _ _ ls hf I (lv_sub hl [0, 1, 2] rfl)
  rw [if_neg c3] at hf
  by_cases c4 : x2 = 2
  · rw [if_pos c4] at hf
    refine lv_tableIn (off := 43) (tgt := 44) hx hb dX6_tellThing_1 (by rw [c4]; decide) (by rw [c4]; decide) (by rw [c4]; rfl) (by decide) ?_
    exact B44 x1 x2 _ _ ls hf I (lv_sub hl [0, 1, 2] rfl)
  rw [if_neg c4] at hf
  by_cases c5 : x2 = 3
  · rw [if_pos c5] at hf
    refine lv_tableIn (off := 43) (tgt := 44) hx hb dX6_tellThing_1 (by rw [c5]; decide) (by rw [c5]; decide) (by rw [c5]; rfl) (by decide) ?_
    exact B44 x1 x2 _ _ ls hf I (lv_sub hl [0, 1, 2] rfl)
  rw [if_neg c5] at hf
  by_cases c6 : x2 = 4
  · rw [if_pos c6] at hf
    refine lv_tableIn (off := 54) (tgt := 55) hx hb dX6_tellThing_1 (by rw [c6]; decide) (by rw [c6]; decide) (by rw [c6]; rfl) (by decide) ?_
    refine lv_aload_n hx hb dX6_tellThing_55 rfl (lv_at hl 0 rfl) ?_
    refine lv_iload_n hx hb dX6_tellThing_56 rfl (lv_at hl 1 rfl) ?_
    obtain ⟨r7, h_r7, hf⟩ := k_bind hf
    refine k_callV (n := 1) (As := [.int x1]) (rest := []) X I (c_X6_claimersOf h_r7) uw_4_127 uw_4_129 us_17 uw_1_7 uw_4_130 ⟨rfl, rfl⟩ (by decide +kernel) rfl ⟨Nat.le_of_ble_eq_true rfl, Nat.le_of_ble_eq_true rfl⟩ ⟨Nat.le_of_ble_eq_true rfl, Nat.le_of_ble_eq_true rfl⟩ 0 dwG_0 rfl hl.1 rfl (Nat.le_of_ble_eq_true rfl) dX6_tellThing_57 (st1 := [.int r7]) rfl (fun H locs I => ?_)
    exact k_iretP X I hr hlocks dX6_tellThing_60 hf
  rw [if_neg c6] at hf
  by_cases c8 : x2 = 5
  · rw [if_pos c8] at hf
    refine lv_tableIn (off := 60) (tgt := 61) hx hb dX6_tellThing_1 (by rw [c8]; decide) (by rw [c8]; decide) (by rw [c8]; rfl) (by decide) ?_
    refine lv_aload_n hx hb dX6_tellThing_61 rfl (lv_at hl 0 rfl) ?_
    refine lv_iload_n hx hb dX6_tellThing_62 rfl (lv_at hl 1 rfl) ?_
    obtain ⟨r9, h_r9, hf⟩ := k_bind hf
    refine k_callV (n := 1) (As := [.int x1]) (rest := []) X I (c_X6_yearsOf h_r9) uw_4_147 uw_4_149 us_22 uw_1_7 uw_4_150 ⟨rfl, rfl⟩ (by decide +kernel) rfl ⟨Nat.le_of_ble_eq_true rfl, Nat.le_of_ble_eq_true rfl⟩ ⟨Nat.le_of_ble_eq_true rfl, Nat.le_of_ble_eq_true rfl⟩ 0 dwG_0 rfl hl.1 rfl (Nat.le_of_ble_eq_true rfl) dX6_tellThing_63 (st1 := [.int r9]) rfl (fun H locs I => ?_)
    exact k_iretP X I hr hlocks dX6_tellThing_66 hf
  rw [if_neg c8] at hf
  by_cases c10 : x2 = 6
  · rw [if_pos c10] at hf
    refine lv_tableIn (off := 66) (tgt := 67) hx hb dX6_tellThing_1 (by rw [c10]; decide) (by rw [c10]; decide) (by rw [c10]; rfl) (by decide) ?_
    refine lv_aload_n hx hb dX6_tellThing_67 rfl (lv_at hl 0 rfl) ?_
    refine lv_iload_n hx hb dX6_tellThing_68 rfl (lv_at hl 1 rfl) ?_
    obtain ⟨r11, h_r11, hf⟩ := k_bind hf
    refine k_callV (n := 1) (As := [.int x1]) (rest := []) X I (c_X6_showOf h_r11) uw_4_151 uw_4_153 us_23 uw_1_7 uw_4_154 ⟨rfl, rfl⟩ (by decide +kernel) rfl ⟨Nat.le_of_ble_eq_true rfl, Nat.le_of_ble_eq_true rfl⟩ ⟨Nat.le_of_ble_eq_true rfl, Nat.le_of_ble_eq_true rfl⟩ 0 dwG_0 rfl hl.1 rfl (Nat.le_of_ble_eq_true rfl) dX6_tellThing_69 (st1 := [.int r11]) rfl (fun H locs I => ?_)
    exact k_iretP X I hr hlocks dX6_tellThing_72 hf
  rw [if_neg c10] at hf
  refine lv_tableOut (tgt := 73) hx hb dX6_tellThing_1 (sw_out fun k h1 h2 h3 => by
      have h4 : k = 0 ∨ k = 1 ∨ k = 2 ∨ k = 3 ∨ k = 4 ∨ k = 5 ∨ k = 6 := by omega
      rcases h4 with rfl | rfl | rfl | rfl | rfl | rfl | rfl
      · exact c1 (sw_eq h3 (by decide))
      · exact c3 (sw_eq h3 (by decide))
      · exact c4 (sw_eq h3 (by decide))
      · exact c5 (sw_eq h3 (by decide))
      · exact c6 (sw_eq h3 (by decide))
      · exact c8 (sw_eq h3 (by decide))
      · exact c10 (sw_eq h3 (by decide))) (by decide) ?_
  refine lv_bipush (v := (-102)) hx hb dX6_tellThing_73 (by decide) ?_
  exact k_iretP X I hr hlocks dX6_tellThing_75 hf
/-! LostTentModel.thing(II)I -/
abbrev rm_X6_thing : Room := { frames := 5, cells := 0, slots := 0, locals := 117 }
def f_X6_thing (x1 : Int32) (x2 : Int32) (M : xM) : Option Int32 :=
  (f_X6_isThing x1 M).bind fun r1 =>
  if r1 = 0 then
    some (-101 : Int32)
  else
    (f_X6_tellThing x1 x2 M).bind fun r3 =>
    some r3
set_option maxRecDepth 100000 in
set_option maxHeartbeats 8000000 in
theorem c_X6_thing {l : Launch} {D : va_G} {aI : ClassId} {q t : Nat → Nat} {x1 : Int32} {x2 : Int32} {M : xM} {r : Int32} (hf : f_X6_thing x1 x2 M = some r) : kM l yX6_thing (wk yX6_thing cX6_thing 3 (some .int)) rm_X6_thing (dw q aI) D aI t [.ref (q 0), .int x1, .int x2] M (some (.int r)) M := by
  refine kM_of (by decide) (Nat.le_of_ble_eq_true rfl) ?_
  intro p e s m args below meth c A ls X hr hlocks hl I
  have hx := X.1
  have hb := X.2.1
  have hl : lv_has ls 3 [(0, .ref (q 0)), (1, .int x1), (2, .int x2)] := hl
  rw [f_X6_thing] at hf
  refine lv_aload_n hx hb dX6_thing_0 rfl (lv_at hl 0 rfl) ?_
  refine lv_iload_n hx hb dX6_thing_1 rfl (lv_at hl 1 rfl) ?_
  obtain ⟨r1, h_r1, hf⟩ := k_bind hf
  refine k_callV (n := 1) (As := [.int x1]) (rest := []) X I (c_X6_isThing h_r1) uw_4_119 uw_4_121 us_15 uw_1_7 uw_4_122 ⟨rfl, rfl⟩ (by decide +kernel) rfl ⟨Nat.le_of_ble_eq_true rfl, Nat.le_of_ble_eq_true rfl⟩ ⟨Nat.le_of_ble_eq_true rfl, Nat.le_of_ble_eq_true rfl⟩ 0 dwG_0 rfl hl.1 rfl (Nat.le_of_ble_eq_true rfl) dX6_thing_2 (st1 := [.int r1]) rfl (fun H locs I => ?_)
  refine lv_if_eq (tgt := 17) hx hb dX6_thing_5 (by decide) (fun c2 => ?_) (fun c2 => ?_)
  · rw [if_pos c2] at hf
    refine lv_bipush (v := (-101)) hx hb dX6_thing_17 (by decide) ?_
    exact k_iretP X I hr hlocks dX6_thing_19 hf
  · rw [if_neg c2] at hf
    refine lv_aload_n hx hb dX6_thing_8 rfl (lv_at hl 0 rfl) ?_
    refine lv_iload_n hx hb dX6_thing_9 rfl (lv_at hl 1 rfl) ?_
    refine lv_iload_n hx hb dX6_thing_10 rfl (lv_at hl 2 rfl) ?_
    obtain ⟨r3, h_r3, hf⟩ := k_bind hf
    refine k_callV (n := 2) (As := [.int x1, .int x2]) (rest := []) X I (c_X6_tellThing h_r3) uw_4_123 uw_4_125 us_16 uw_1_7 uw_4_126 ⟨rfl, rfl⟩ (by decide +kernel) rfl ⟨Nat.le_of_ble_eq_true rfl, Nat.le_of_ble_eq_true rfl⟩ ⟨Nat.le_of_ble_eq_true rfl, Nat.le_of_ble_eq_true rfl⟩ 0 dwG_0 rfl hl.1 rfl (Nat.le_of_ble_eq_true rfl) dX6_thing_11 (st1 := [.int r3]) rfl (fun H locs I => ?_)
    refine lv_goto (tgt := 19) hx hb dX6_thing_14 (by decide) ?_
    exact k_iretP X I hr hlocks dX6_thing_19 hf
/-! LostTentModel.isClaimer(I)Z -/
abbrev rm_X6_isClaimer : Room := { frames := 1, cells := 0, slots := 0, locals := 25 }
def f_X6_isClaimer (x1 : Int32) (M : xM) : Option Int32 :=
  (f_X6_in x1.toInt64 (0 : Int64) (((M.1 3) - (1 : Int32)).toInt64)).bind fun r1 =>
  xbo r1
set_option maxRecDepth 100000 in
set_option maxHeartbeats 8000000 in
theorem c_X6_isClaimer {l : Launch} {D : va_G} {aI : ClassId} {q t : Nat → Nat} {x1 : Int32} {M : xM} {r : Int32} (hf : f_X6_isClaimer x1 M = some r) : kM l yX6_isClaimer (wk yX6_isClaimer cX6_isClaimer 2 (some .boolean)) rm_X6_isClaimer (dw q aI) D aI t [.ref (q 0), .int x1] M (some (.int r)) M := by
  refine kM_of (by decide) (Nat.le_of_ble_eq_true rfl) ?_
  intro p e s m args below meth c A ls X hr hlocks hl I
  have hx := X.1
  have hb := X.2.1
  have hl : lv_has ls 2 [(0, .ref (q 0)), (1, .int x1)] := hl
  rw [f_X6_isClaimer] at hf
  refine lv_iload_n hx hb dX6_isClaimer_0 rfl (lv_at hl 1 rfl) ?_
  refine lv_i2l hx hb dX6_isClaimer_1 rfl ?_
  refine lv_lconst (v := 0) hx hb dX6_isClaimer_2 (by decide) ?_
  refine lv_aload_n hx hb dX6_isClaimer_3 rfl (lv_at hl 0 rfl) ?_
  refine k_get (T := TX6) (N := 27) X I inU6 0 dwG_0 rfl 4 (by decide) uw_4_3 rfl rfl dX6_isClaimer_4 ?_
  refine lv_iconst (v := 1) hx hb dX6_isClaimer_7 (by decide) ?_
  refine lv_isub hx hb dX6_isClaimer_8 ?_
  refine lv_i2l hx hb dX6_isClaimer_9 rfl ?_
  obtain ⟨r1, h_r1, hf⟩ := k_bind hf
  refine k_callS (n := 3) (As := [.long x1.toInt64, .long (0 : Int64), .long (((M.1 3) - (1 : Int32)).toInt64)]) (rest := []) X I (c_X6_in h_r1) uw_4_86 uw_4_87 uw_1_7 uw_4_88 ⟨rfl, rfl⟩ (by decide +kernel) rfl ⟨Nat.le_of_ble_eq_true rfl, Nat.le_of_ble_eq_true rfl⟩ ⟨Nat.le_of_ble_eq_true rfl, Nat.le_of_ble_eq_true rfl⟩ hl.1 rfl (Nat.le_of_ble_eq_true rfl) dX6_isClaimer_10 (st1 := [.int r1]) rfl (fun H locs I => ?_)
  exact k_zretP X I hr hlocks dX6_isClaimer_13 hf
/-! LostTentModel.thingsOf(I)I -/
abbrev rm_X6_thingsOf : Room := { frames := 3, cells := 0, slots := 0, locals := 72 }
def f_X6_thingsOf_b29 (k4 : Int32 → Int32 → Int32 → xM → Option Int32) (x1 : Int32) (x3 : Int32) (y0 : Int32) (y1 : Int32) (M : xM) : Option Int32 :=
  k4 x1 (y1 ||| y0) (x3 + 1) M
def f_X6_thingsOf_l4 : Nat → Int32 → Int32 → Int32 → xM → Option Int32
  | 0, _, _, _, _ => none
  | n4 + 1, x1, x2, x3, M =>
    if (M.1 2) ≤ x3 then
      some x2
    else
      (f_X6_fits x3 x1 M).bind fun r2 =>
      if r2 = 0 then
        f_X6_thingsOf_b29 (f_X6_thingsOf_l4 n4) x1 x3 (0 : Int32) x2 M
      else
        f_X6_thingsOf_b29 (f_X6_thingsOf_l4 n4) x1 x3 ((1 : Int32) <<< (x3 &&& 31)) x2 M
def f_X6_thingsOf (x1 : Int32) (M : xM) : Option Int32 :=
  f_X6_thingsOf_l4 xN x1 (0 : Int32) (0 : Int32) M
set_option maxRecDepth 100000 in
set_option maxHeartbeats 8000000 in
theorem c_X6_thingsOf {l : Launch} {D : va_G} {aI : ClassId} {q t : Nat → Nat} {x1 : Int32} {M : xM} {r : Int32} (hf : f_X6_thingsOf x1 M = some r) : kM l yX6_thingsOf (wk yX6_thingsOf cX6_thingsOf 4 (some .int)) rm_X6_thingsOf (dw q aI) D aI t [.ref (q 0), .int x1] M (some (.int r)) M := by
  refine kM_of (by decide) (Nat.le_of_ble_eq_true rfl) ?_
  intro p e s m args below meth c A ls X hr hlocks hl I
  have hx := X.1
  have hb := X.2.1
  have hl : lv_has ls 4 [(0, .ref (q 0)), (1, .int x1)] := hl
  have B29 : ∀ (k4 : Int32 → Int32 → Int32 → xM → Option Int32), (∀ (x1 : Int32) (x2 : Int32) (x3 : Int32) (H : Heap) (locs : List Loc) (ls : Array Slot), k4 x1 x2 x3 M = some r → kI (dw q aI) D A s M H locs → lv_has ls 4 [(0, .ref (q 0)), (1, .int x1), (2, .int x2), (3, .int x3)] → W p l e rm_X6_thingsOf s m args below meth c H locs 0 0 (MQ below (kQ (dw q aI) D A (some (.int r)) M) args s 0 0 A) (F0 m 4 ls [])) → ∀ (x1 : Int32) (x3 : Int32) (y0 : Int32) (y1 : Int32) (H : Heap) (locs : List Loc) (ls : Array Slot), f_X6_thingsOf_b29 k4 x1 x3 y0 y1 M = some r → kI (dw q aI) D A s M H locs → lv_has ls 4 [(0, .ref (q 0)), (1, .int x1), (3, .int x3)] → W p l e rm_X6_thingsOf s m args below meth c H locs 0 0 (MQ below (kQ (dw q aI) D A (some (.int r)) M) args s 0 0 A) (F0 m 29 ls [.int y0, .int y1]) := by
    intro k4 hk4 x1 x3 y0 y1 H locs ls hf I hl
    rw [f_X6_thingsOf_b29] at hf
    refine lv_ior hx hb dX6_thingsOf_29 ?_
    refine lv_istore_n (lv' := [(2, .int (y1 ||| y0)), (0, .ref (q 0)), (1, .int x1), (3, .int x3)]) hx hb dX6_thingsOf_30 rfl hl (by decide) rfl (fun ls hl => ?_)
    refine lv_iinc (v := (x3 + 1)) (lv' := [(3, .int (x3 + 1)), (2, .int (y1 ||| y0)), (0, .ref (q 0)), (1, .int x1)]) hx hb dX6_thingsOf_31 hl (k := 3) rfl rfl (by decide) rfl (fun ls hl => ?_)
    refine lv_goto (tgt := 4) hx hb dX6_thingsOf_34 (by decide) ?_
    exact hk4 x1 (y1 ||| y0) (x3 + 1) _ _ ls hf I (lv_sub hl [2, 3, 1, 0] rfl)
  have B4 : ∀ (n4 : Nat), ∀ (x1 : Int32) (x2 : Int32) (x3 : Int32) (H : Heap) (locs : List Loc) (ls : Array Slot), f_X6_thingsOf_l4 n4 x1 x2 x3 M = some r → kI (dw q aI) D A s M H locs → lv_has ls 4 [(0, .ref (q 0)), (1, .int x1), (2, .int x2), (3, .int x3)] → W p l e rm_X6_thingsOf s m args below meth c H locs 0 0 (MQ below (kQ (dw q aI) D A (some (.int r)) M) args s 0 0 A) (F0 m 4 ls []) := by
    intro n4
    induction n4 with
    | zero =>
      intro x1 x2 x3 H locs ls hf I hl
      rw [f_X6_thingsOf_l4] at hf
      cases hf
    | succ n4 ih4 =>
      intro x1 x2 x3 H locs ls hf I hl
      rw [f_X6_thingsOf_l4] at hf
      refine lv_iload_n hx hb dX6_thingsOf_4 rfl (lv_at hl 3 rfl) ?_
      refine lv_aload_n hx hb dX6_thingsOf_5 rfl (lv_at hl 0 rfl) ?_
      refine k_get (T := TX6) (N := 27) X I inU6 0 dwG_0 rfl 3 (by decide) uw_4_2 rfl rfl dX6_thingsOf_6 ?_
      refine lv_icmp_ge (tgt := 37) hx hb dX6_thingsOf_9 (by decide) (fun c1 => ?_) (fun c1 => ?_)
      · rw [if_pos c1] at hf
        refine lv_iload_n hx hb dX6_thingsOf_37 rfl (lv_at hl 2 rfl) ?_
        exact k_iretP X I hr hlocks dX6_thingsOf_38 hf
      · rw [if_neg c1] at hf
        refine lv_iload_n hx hb dX6_thingsOf_12 rfl (lv_at hl 2 rfl) ?_
        refine lv_aload_n hx hb dX6_thingsOf_13 rfl (lv_at hl 0 rfl) ?_
        refine lv_iload_n hx hb dX6_thingsOf_14 rfl (lv_at hl 3 rfl) ?_
        refine lv_iload_n hx hb dX6_thingsOf_15 rfl (lv_at hl 1 rfl) ?_
        obtain ⟨r2, h_r2, hf⟩ := k_bind hf
        refine k_callV (n := 2) (As := [.int x3, .int x1]) (rest := [.int x2]) X I (c_X6_fits h_r2) uw_4_131 uw_4_133 us_18 uw_1_7 uw_4_134 ⟨rfl, rfl⟩ (by decide +kernel) rfl ⟨Nat.le_of_ble_eq_true rfl, Nat.le_of_ble_eq_true rfl⟩ ⟨Nat.le_of_ble_eq_true rfl, Nat.le_of_ble_eq_true rfl⟩ 0 dwG_0 rfl hl.1 rfl (Nat.le_of_ble_eq_true rfl) dX6_thingsOf_16 (st1 := [.int r2, .int x2]) rfl (fun H locs I => ?_)
        refine lv_if_eq (tgt := 28) hx hb dX6_thingsOf_19 (by decide) (fun c3 => ?_) (fun c3 => ?_)
        · rw [if_pos c3] at hf
          refine lv_iconst (v := 0) hx hb dX6_thingsOf_28 (by decide) ?_
          exact B29 (f_X6_thingsOf_l4 n4) ih4 x1 x3 (0 : Int32) x2 _ _ ls hf I (lv_sub hl [0, 1, 3] rfl)
        · rw [if_neg c3] at hf
          refine lv_iconst (v := 1) hx hb dX6_thingsOf_22 (by decide) ?_
          refine lv_iload_n hx hb dX6_thingsOf_23 rfl (lv_at hl 3 rfl) ?_
          refine lv_ishl hx hb dX6_thingsOf_24 ?_
          refine lv_goto (tgt := 29) hx hb dX6_thingsOf_25 (by decide) ?_
          exact B29 (f_X6_thingsOf_l4 n4) ih4 x1 x3 ((1 : Int32) <<< (x3 &&& 31)) x2 _ _ ls hf I (lv_sub hl [0, 1, 3] rfl)
  rw [f_X6_thingsOf] at hf
  refine lv_iconst (v := 0) hx hb dX6_thingsOf_0 (by decide) ?_
  refine lv_istore_n (lv' := [(2, .int (0 : Int32)), (0, .ref (q 0)), (1, .int x1)]) hx hb dX6_thingsOf_1 rfl hl (by decide) rfl (fun ls hl => ?_)
  refine lv_iconst (v := 0) hx hb dX6_thingsOf_2 (by decide) ?_
  refine lv_istore_n (lv' := [(3, .int (0 : Int32)), (2, .int (0 : Int32)), (0, .ref (q 0)), (1, .int x1)]) hx hb dX6_thingsOf_3 rfl hl (by decide) rfl (fun ls hl => ?_)
  exact B4 xN x1 (0 : Int32) (0 : Int32) _ _ ls hf I (lv_sub hl [2, 3, 1, 0] rfl)
/-! LostTentModel.signOf(I)I -/
abbrev rm_X6_signOf : Room := { frames := 3, cells := 0, slots := 0, locals := 72 }
def f_X6_signOf_b174 (k8 : Int32 → Int32 → Int32 → Int32 → xM → Option (Int32 × xM)) (x1 : Int32) (x2 : Int32) (x4 : Int32) (y0 : Int32) (Mb : xM) : Option (Int32 × xM) :=
  k8 x1 x2 y0 (x4 + 1) Mb
def f_X6_signOf_b173 (k8 : Int32 → Int32 → Int32 → Int32 → xM → Option (Int32 × xM)) (x1 : Int32) (x2 : Int32) (x3 : Int32) (x4 : Int32) (Mb : xM) : Option (Int32 × xM) :=
  f_X6_signOf_b174 k8 x1 x2 x4 x3 Mb
def f_X6_signOf_b156 (k8 : Int32 → Int32 → Int32 → Int32 → xM → Option (Int32 × xM)) (x1 : Int32) (x3 : Int32) (x4 : Int32) (x5 : Int32) (y0 : Int32) (Mb : xM) : Option (Int32 × xM) :=
  if x5 ≤ 0 then
    f_X6_signOf_b173 k8 x1 y0 x3 x4 Mb
  else
    if x3 ≤ x5 then
      f_X6_signOf_b173 k8 x1 y0 x3 x4 Mb
    else
      f_X6_signOf_b174 k8 x1 y0 x4 x5 Mb
def f_X6_signOf_b155 (k8 : Int32 → Int32 → Int32 → Int32 → xM → Option (Int32 × xM)) (x1 : Int32) (x2 : Int32) (x3 : Int32) (x4 : Int32) (x5 : Int32) (Mb : xM) : Option (Int32 × xM) :=
  f_X6_signOf_b156 k8 x1 x3 x4 x5 x2 Mb
def f_X6_signOf_b131 (k8 : Int32 → Int32 → Int32 → Int32 → xM → Option (Int32 × xM)) (k44 : Int32 → Int32 → Int32 → Int32 → Int32 → Int32 → xM → Option (Int32 × xM)) (x1 : Int32) (x2 : Int32) (x3 : Int32) (x4 : Int32) (x6 : Int32) (y0 : Int32) (Mb : xM) : Option (Int32 × xM) :=
  k44 x1 x2 x3 x4 y0 (x6 + 1) Mb
def f_X6_signOf_b105 (k8 : Int32 → Int32 → Int32 → Int32 → xM → Option (Int32 × xM)) (k44 : Int32 → Int32 → Int32 → Int32 → Int32 → Int32 → xM → Option (Int32 × xM)) (x1 : Int32) (x2 : Int32) (x3 : Int32) (x4 : Int32) (x5 : Int32) (x6 : Int32) (x7 : Int32) (y0 : Int32) (y1 : Int32) (y2 : Int32) (Mb : xM) : Option (Int32 × xM) :=
  (xst 10 (Mb.2.2 3) y2 (y1 + y0)).bind fun g12 =>
  nmM (xA Mb 3 g12) fun M13 =>
  (xld 10 (M13.2.2 3) x7).bind fun r14 =>
  if r14 ≤ x5 then
    f_X6_signOf_b131 k8 k44 x1 x2 x3 x4 x6 x5 M13
  else
    (xld 10 (M13.2.2 3) x7).bind fun r16 =>
    f_X6_signOf_b131 k8 k44 x1 x2 x3 x4 x6 r16 M13
def f_X6_signOf_b104 (k8 : Int32 → Int32 → Int32 → Int32 → xM → Option (Int32 × xM)) (k44 : Int32 → Int32 → Int32 → Int32 → Int32 → Int32 → xM → Option (Int32 × xM)) (x1 : Int32) (x2 : Int32) (x3 : Int32) (x4 : Int32) (x5 : Int32) (x6 : Int32) (x7 : Int32) (y0 : Int32) (y1 : Int32) (Mb : xM) : Option (Int32 × xM) :=
  f_X6_signOf_b105 k8 k44 x1 x2 x3 x4 x5 x6 x7 (0 : Int32) y0 y1 Mb
def f_X6_signOf_l44 (k8 : Int32 → Int32 → Int32 → Int32 → xM → Option (Int32 × xM)) : Nat → Int32 → Int32 → Int32 → Int32 → Int32 → Int32 → xM → Option (Int32 × xM)
  | 0, _, _, _, _, _, _, _ => none
  | n44 + 1, x1, x2, x3, x4, x5, x6, Mb =>
    if (Mb.1 2) ≤ x6 then
      if x5 ≤ 0 then
        f_X6_signOf_b155 k8 x1 x2 x3 x4 x5 Mb
      else
        if x3 ≤ x5 then
          f_X6_signOf_b155 k8 x1 x2 x3 x4 x5 Mb
        else
          f_X6_signOf_b156 k8 x1 x3 x4 x5 x4 Mb
    else
      (xld 20 (Mb.2.2 1) (((4 : Int32) * x6) + x4)).bind fun r8 =>
      (xld 10 (Mb.2.2 3) r8).bind fun r9 =>
      (xld 20 (Mb.2.2 1) (((4 : Int32) * x6) + (3 : Int32))).bind fun r10 =>
      if r10 = (-1 : Int32) then
        (f_X6_fits x6 x1 Mb).bind fun r17 =>
        if r17 = 0 then
          f_X6_signOf_b104 k8 (f_X6_signOf_l44 k8 n44) x1 x2 x3 x4 x5 x6 r8 r9 r8 Mb
        else
          f_X6_signOf_b105 k8 (f_X6_signOf_l44 k8 n44) x1 x2 x3 x4 x5 x6 r8 (1 : Int32) r9 r8 Mb
      else
        f_X6_signOf_b104 k8 (f_X6_signOf_l44 k8 n44) x1 x2 x3 x4 x5 x6 r8 r9 r8 Mb
def f_X6_signOf_l17 (k8 : Int32 → Int32 → Int32 → Int32 → xM → Option (Int32 × xM)) : Nat → Int32 → Int32 → Int32 → Int32 → Int32 → xM → Option (Int32 × xM)
  | 0, _, _, _, _, _, _ => none
  | n17 + 1, x1, x2, x3, x4, x5, Mb =>
    if (10 : Int32) ≤ x5 then
      f_X6_signOf_l44 k8 xN x1 x2 x3 x4 (0 : Int32) (0 : Int32) Mb
    else
      (xst 10 (Mb.2.2 3) x5 (0 : Int32)).bind fun g19 =>
      nmM (xA Mb 3 g19) fun M20 =>
      (f_X6_signOf_l17 k8 n17) x1 x2 x3 x4 (x5 + 1) M20
def f_X6_signOf_l8 : Nat → Int32 → Int32 → Int32 → Int32 → xM → Option (Int32 × xM)
  | 0, _, _, _, _, _ => none
  | n8 + 1, x1, x2, x3, x4, Mb =>
    if (3 : Int32) ≤ x4 then
      some (x2, Mb)
    else
      f_X6_signOf_l17 (f_X6_signOf_l8 n8) xN x1 x2 x3 x4 (0 : Int32) Mb
def f_X6_signOf (x1 : Int32) (M : xM) : Option (Int32 × xM) :=
  f_X6_signOf_l8 xN x1 (-1 : Int32) (99 : Int32) (0 : Int32) M
set_option maxRecDepth 100000 in
set_option maxHeartbeats 8000000 in
theorem c_X6_signOf {l : Launch} {D : va_G} {aI : ClassId} {q t : Nat → Nat} {x1 : Int32} {M : xM} {r : Int32} {Mr : xM} (hf : f_X6_signOf x1 M = some (r, Mr)) : kM l yX6_signOf (wk yX6_signOf cX6_signOf 8 (some .int)) rm_X6_signOf (dw q aI) D aI t [.ref (q 0), .int x1] M (some (.int r)) Mr := by
  refine kM_of (by decide) (Nat.le_of_ble_eq_true rfl) ?_
  intro p e s m args below meth c A ls X hr hlocks hl I
  have hx := X.1
  have hb := X.2.1
  have hl : lv_has ls 8 [(0, .ref (q 0)), (1, .int x1)] := hl
  have B174 : ∀ (k8 : Int32 → Int32 → Int32 → Int32 → xM → Option (Int32 × xM)), (∀ (x1 : Int32) (x2 : Int32) (x3 : Int32) (x4 : Int32) (Mb : xM) (H : Heap) (locs : List Loc) (ls : Array Slot), k8 x1 x2 x3 x4 Mb = some (r, Mr) → kI (dw q aI) D A s Mb H locs → lv_has ls 8 [(0, .ref (q 0)), (1, .int x1), (2, .int x2), (3, .int x3), (4, .int x4)] → W p l e rm_X6_signOf s m args below meth c H locs 0 0 (MQ below (kQ (dw q aI) D A (some (.int r)) Mr) args s 0 0 A) (F0 m 8 ls [])) → ∀ (x1 : Int32) (x2 : Int32) (x4 : Int32) (y0 : Int32) (Mb : xM) (H : Heap) (locs : List Loc) (ls : Array Slot), f_X6_signOf_b174 k8 x1 x2 x4 y0 Mb = some (r, Mr) → kI (dw q aI) D A s Mb H locs → lv_has ls 8 [(0, .ref (q 0)), (1, .int x1), (2, .int x2), (4, .int x4)] → W p l e rm_X6_signOf s m args below meth c H locs 0 0 (MQ below (kQ (dw q aI) D A (some (.int r)) Mr) args s 0 0 A) (F0 m 174 ls [.int y0]) := by
    intro k8 hk8 x1 x2 x4 y0 Mb H locs ls hf I hl
    rw [f_X6_signOf_b174] at hf
    refine lv_istore_n (lv' := [(3, .int y0), (0, .ref (q 0)), (1, .int x1), (2, .int x2), (4, .int x4)]) hx hb dX6_signOf_174 rfl hl (by decide) rfl (fun ls hl => ?_)
    refine lv_iinc (v := (x4 + 1)) (lv' := [(4, .int (x4 + 1)), (3, .int y0), (0, .ref (q 0)), (1, .int x1), (2, .int x2)]) hx hb dX6_signOf_175 hl (k := 4) rfl rfl (by decide) rfl (fun ls hl => ?_)
    refine lv_goto (tgt := 8) hx hb dX6_signOf_178 (by decide) ?_
    exact hk8 x1 x2 y0 (x4 + 1) Mb _ _ ls hf I (lv_sub hl [2, 3, 4, 1, 0] rfl)
  have B173 : ∀ (k8 : Int32 → Int32 → Int32 → Int32 → xM → Option (Int32 × xM)), (∀ (x1 : Int32) (x2 : Int32) (x3 : Int32) (x4 : Int32) (Mb : xM) (H : Heap) (locs : List Loc) (ls : Array Slot), k8 x1 x2 x3 x4 Mb = some (r, Mr) → kI (dw q aI) D A s Mb H locs → lv_has ls 8 [(0, .ref (q 0)), (1, .int x1), (2, .int x2), (3, .int x3), (4, .int x4)] → W p l e rm_X6_signOf s m args below meth c H locs 0 0 (MQ below (kQ (dw q aI) D A (some (.int r)) Mr) args s 0 0 A) (F0 m 8 ls [])) → ∀ (x1 : Int32) (x2 : Int32) (x3 : Int32) (x4 : Int32) (Mb : xM) (H : Heap) (locs : List Loc) (ls : Array Slot), f_X6_signOf_b173 k8 x1 x2 x3 x4 Mb = some (r, Mr) → kI (dw q aI) D A s Mb H locs → lv_has ls 8 [(0, .ref (q 0)), (1, .int x1), (2, .int x2), (3, .int x3), (4, .int x4)] → W p l e rm_X6_signOf s m args below meth c H locs 0 0 (MQ below (kQ (dw q aI) D A (some (.int r)) Mr) args s 0 0 A) (F0 m 173 ls []) := by
    intro k8 hk8 x1 x2 x3 x4 Mb H locs ls hf I hl
    rw [f_X6_signOf_b173] at hf
    refine lv_iload_n hx hb dX6_signOf_173 rfl (lv_at hl 3 rfl) ?_
    exact B174 k8 hk8 x1 x2 x4 x3 Mb _ _ ls hf I (lv_sub hl [0, 1, 2, 4] rfl)
  have B156 : ∀ (k8 : Int32 → Int32 → Int32 → Int32 → xM → Option (Int32 × xM)), (∀ (x1 : Int32) (x2 : Int32) (x3 : Int32) (x4 : Int32) (Mb : xM) (H : Heap) (locs : List Loc) (ls : Array Slot), k8 x1 x2 x3 x4 Mb = some (r, Mr) → kI (dw q aI) D A s Mb H locs → lv_has ls 8 [(0, .ref (q 0)), (1, .int x1), (2, .int x2), (3, .int x3), (4, .int x4)] → W p l e rm_X6_signOf s m args below meth c H locs 0 0 (MQ below (kQ (dw q aI) D A (some (.int r)) Mr) args s 0 0 A) (F0 m 8 ls [])) → ∀ (x1 : Int32) (x3 : Int32) (x4 : Int32) (x5 : Int32) (y0 : Int32) (Mb : xM) (H : Heap) (locs : List Loc) (ls : Array Slot), f_X6_signOf_b156 k8 x1 x3 x4 x5 y0 Mb = some (r, Mr) → kI (dw q aI) D A s Mb H locs → lv_has ls 8 [(0, .ref (q 0)), (1, .int x1), (3, .int x3), (4, .int x4), (5, .int x5)] → W p l e rm_X6_signOf s m args below meth c H locs 0 0 (MQ below (kQ (dw q aI) D A (some (.int r)) Mr) args s 0 0 A) (F0 m 156 ls [.int y0]) := by
    intro k8 hk8 x1 x3 x4 x5 y0 Mb H locs ls hf I hl
    rw [f_X6_signOf_b156] at hf
    refine lv_istore_n (lv' := [(2, .int y0), (0, .ref (q 0)), (1, .int x1), (3, .int x3), (4, .int x4), (5, .int x5)]) hx hb dX6_signOf_156 rfl hl (by decide) rfl (fun ls hl => ?_)
    refine lv_iload hx hb dX6_signOf_157 (lv_at hl 5 rfl) ?_
    refine lv_if_le (tgt := 173) hx hb dX6_signOf_159 (by decide) (fun c5 => ?_) (fun c5 => ?_)
    · rw [if_pos c5] at hf
      exact B173 k8 hk8 x1 y0 x3 x4 Mb _ _ ls hf I (lv_sub hl [1, 2, 0, 3, 4] rfl)
    · rw [if_neg c5] at hf
      refine lv_iload hx hb dX6_signOf_162 (lv_at hl 5 rfl) ?_
      refine lv_iload_n hx hb dX6_signOf_164 rfl (lv_at hl 3 rfl) ?_
      refine lv_icmp_ge (tgt := 173) hx hb dX6_signOf_165 (by decide) (fun c6 => ?_) (fun c6 => ?_)
      · rw [if_pos c6] at hf
        exact B173 k8 hk8 x1 y0 x3 x4 Mb _ _ ls hf I (lv_sub hl [1, 2, 0, 3, 4] rfl)
      · rw [if_neg c6] at hf
        refine lv_iload hx hb dX6_signOf_168 (lv_at hl 5 rfl) ?_
        refine lv_goto (tgt := 174) hx hb dX6_signOf_170 (by decide) ?_
        exact B174 k8 hk8 x1 y0 x4 x5 Mb _ _ ls hf I (lv_sub hl [1, 2, 0, 4] rfl)
  have B155 : ∀ (k8 : Int32 → Int32 → Int32 → Int32 → xM → Option (Int32 × xM)), (∀ (x1 : Int32) (x2 : Int32) (x3 : Int32) (x4 : Int32) (Mb : xM) (H : Heap) (locs : List Loc) (ls : Array Slot), k8 x1 x2 x3 x4 Mb = some (r, Mr) → kI (dw q aI) D A s Mb H locs → lv_has ls 8 [(0, .ref (q 0)), (1, .int x1), (2, .int x2), (3, .int x3), (4, .int x4)] → W p l e rm_X6_signOf s m args below meth c H locs 0 0 (MQ below (kQ (dw q aI) D A (some (.int r)) Mr) args s 0 0 A) (F0 m 8 ls [])) → ∀ (x1 : Int32) (x2 : Int32) (x3 : Int32) (x4 : Int32) (x5 : Int32) (Mb : xM) (H : Heap) (locs : List Loc) (ls : Array Slot), f_X6_signOf_b155 k8 x1 x2 x3 x4 x5 Mb = some (r, Mr) → kI (dw q aI) D A s Mb H locs → lv_has ls 8 [(0, .ref (q 0)), (1, .int x1), (2, .int x2), (3, .int x3), (4, .int x4), (5, .int x5)] → W p l e rm_X6_signOf s m args below meth c H locs 0 0 (MQ below (kQ (dw q aI) D A (some (.int r)) Mr) args s 0 0 A) (F0 m 155 ls []) := by
    intro k8 hk8 x1 x2 x3 x4 x5 Mb H locs ls hf I hl
    rw [f_X6_signOf_b155] at hf
    refine lv_iload_n hx hb dX6_signOf_155 rfl (lv_at hl 2 rfl) ?_
    exact B156 k8 hk8 x1 x3 x4 x5 x2 Mb _ _ ls hf I (lv_sub hl [0, 1, 3, 4, 5] rfl)
  have B131 : ∀ (k8 : Int32 → Int32 → Int32 → Int32 → xM → Option (Int32 × xM)), (∀ (x1 : Int32) (x2 : Int32) (x3 : Int32) (x4 : Int32) (Mb : xM) (H : Heap) (locs : List Loc) (ls : Array Slot), k8 x1 x2 x3 x4 Mb = some (r, Mr) → kI (dw q aI) D A s Mb H locs → lv_has ls 8 [(0, .ref (q 0)), (1, .int x1), (2, .int x2), (3, .int x3), (4, .int x4)] → W p l e rm_X6_signOf s m args below meth c H locs 0 0 (MQ below (kQ (dw q aI) D A (some (.int r)) Mr) args s 0 0 A) (F0 m 8 ls [])) → ∀ (k44 : Int32 → Int32 → Int32 → Int32 → Int32 → Int32 → xM → Option (Int32 × xM)), (∀ (x1 : Int32) (x2 : Int32) (x3 : Int32) (x4 : Int32) (x5 : Int32) (x6 : Int32) (Mb : xM) (H : Heap) (locs : List Loc) (ls : Array Slot), k44 x1 x2 x3 x4 x5 x6 Mb = some (r, Mr) → kI (dw q aI) D A s Mb H locs → lv_has ls 8 [(0, .ref (q 0)), (1, .int x1), (2, .int x2), (3, .int x3), (4, .int x4), (5, .int x5), (6, .int x6)] → W p l e rm_X6_signOf s m args below meth c H locs 0 0 (MQ below (kQ (dw q aI) D A (some (.int r)) Mr) args s 0 0 A) (F0 m 44 ls [])) → ∀ (x1 : Int32) (x2 : Int32) (x3 : Int32) (x4 : Int32) (x6 : Int32) (y0 : Int32) (Mb : xM) (H : Heap) (locs : List Loc) (ls : Array Slot), f_X6_signOf_b131 k8 k44 x1 x2 x3 x4 x6 y0 Mb = some (r, Mr) → kI (dw q aI) D A s Mb H locs → lv_has ls 8 [(0, .ref (q 0)), (1, .int x1), (2, .int x2), (3, .int x3), (4, .int x4), (6, .int x6)] → W p l e rm_X6_signOf s m args below meth c H locs 0 0 (MQ below (kQ (dw q aI) D A (some (.int r)) Mr) args s 0 0 A) (F0 m 131 ls [.int y0]) := by
    intro k8 hk8 k44 hk44 x1 x2 x3 x4 x6 y0 Mb H locs ls hf I hl
    rw [f_X6_signOf_b131] at hf
    refine lv_istore (lv' := [(5, .int y0), (0, .ref (q 0)), (1, .int x1), (2, .int x2), (3, .int x3), (4, .int x4), (6, .int x6)]) hx hb dX6_signOf_131 hl (by decide) rfl (fun ls hl => ?_)
    refine lv_iinc (v := (x6 + 1)) (lv' := [(6, .int (x6 + 1)), (5, .int y0), (0, .ref (q 0)), (1, .int x1), (2, .int x2), (3, .int x3), (4, .int x4)]) hx hb dX6_signOf_133 hl (k := 6) rfl rfl (by decide) rfl (fun ls hl => ?_)
    refine lv_goto (tgt := 44) hx hb dX6_signOf_136 (by decide) ?_
    exact hk44 x1 x2 x3 x4 y0 (x6 + 1) Mb _ _ ls hf I (lv_sub hl [2, 3, 4, 5, 6, 1, 0] rfl)
  have B105 : ∀ (k8 : Int32 → Int32 → Int32 → Int32 → xM → Option (Int32 × xM)), (∀ (x1 : Int32) (x2 : Int32) (x3 : Int32) (x4 : Int32) (Mb : xM) (H : Heap) (locs : List Loc) (ls : Array Slot), k8 x1 x2 x3 x4 Mb = some (r, Mr) → kI (dw q aI) D A s Mb H locs → lv_has ls 8 [(0, .ref (q 0)), (1, .int x1), (2, .int x2), (3, .int x3), (4, .int x4)] → W p l e rm_X6_signOf s m args below meth c H locs 0 0 (MQ below (kQ (dw q aI) D A (some (.int r)) Mr) args s 0 0 A) (F0 m 8 ls [])) → ∀ (k44 : Int32 → Int32 → Int32 → Int32 → Int32 → Int32 → xM → Option (Int32 × xM)), (∀ (x1 : Int32) (x2 : Int32) (x3 : Int32) (x4 : Int32) (x5 : Int32) (x6 : Int32) (Mb : xM) (H : Heap) (locs : List Loc) (ls : Array Slot), k44 x1 x2 x3 x4 x5 x6 Mb = some (r, Mr) → kI (dw q aI) D A s Mb H locs → lv_has ls 8 [(0, .ref (q 0)), (1, .int x1), (2, .int x2), (3, .int x3), (4, .int x4), (5, .int x5), (6, .int x6)] → W p l e rm_X6_signOf s m args below meth c H locs 0 0 (MQ below (kQ (dw q aI) D A (some (.int r)) Mr) args s 0 0 A) (F0 m 44 ls [])) → ∀ (x1 : Int32) (x2 : Int32) (x3 : Int32) (x4 : Int32) (x5 : Int32) (x6 : Int32) (x7 : Int32) (y0 : Int32) (y1 : Int32) (y2 : Int32) (Mb : xM) (H : Heap) (locs : List Loc) (ls : Array Slot), f_X6_signOf_b105 k8 k44 x1 x2 x3 x4 x5 x6 x7 y0 y1 y2 Mb = some (r, Mr) → kI (dw q aI) D A s Mb H locs → lv_has ls 8 [(0, .ref (q 0)), (1, .int x1), (2, .int x2), (3, .int x3), (4, .int x4), (5, .int x5), (6, .int x6), (7, .int x7)] → W p l e rm_X6_signOf s m args below meth c H locs 0 0 (MQ below (kQ (dw q aI) D A (some (.int r)) Mr) args s 0 0 A) (F0 m 105 ls [.int y0, .int y1, .int y2, .ref (q 4)]) := by
    intro k8 hk8 k44 hk44 x1 x2 x3 x4 x5 x6 x7 y0 y1 y2 Mb H locs ls hf I hl
    rw [f_X6_signOf_b105] at hf
    refine lv_iadd hx hb dX6_signOf_105 ?_
    obtain ⟨g12, h_g12, hf⟩ := k_bind hf
    obtain ⟨M13, e_M13, hf⟩ := k_nm hf
    refine k_ast (M1 := M13) X I h_g12 4 dwG_4 dX6_signOf_106 (dwA_3.trans (congrArg (dw q aI) e_M13)) (fun H locs I => ?_)
    refine lv_aload_n hx hb dX6_signOf_107 rfl (lv_at hl 0 rfl) ?_
    refine k_get (T := TX6) (N := 27) X I inU6 0 dwG_0 rfl 11 (by decide) uw_4_10 rfl rfl dX6_signOf_108 ?_
    refine lv_iload hx hb dX6_signOf_111 (lv_at hl 7 rfl) ?_
    obtain ⟨r14, h_r14, hf⟩ := k_bind hf
    refine k_ald X I h_r14 4 dwG_4 dX6_signOf_113 ?_
    refine lv_iload hx hb dX6_signOf_114 (lv_at hl 5 rfl) ?_
    refine lv_icmp_le (tgt := 129) hx hb dX6_signOf_116 (by decide) (fun c15 => ?_) (fun c15 => ?_)
    · rw [if_pos c15] at hf
      refine lv_iload hx hb dX6_signOf_129 (lv_at hl 5 rfl) ?_
      exact B131 k8 hk8 k44 hk44 x1 x2 x3 x4 x6 x5 M13 _ _ ls hf I (lv_sub hl [0, 1, 2, 3, 4, 6] rfl)
    · rw [if_neg c15] at hf
      refine lv_aload_n hx hb dX6_signOf_119 rfl (lv_at hl 0 rfl) ?_
      refine k_get (T := TX6) (N := 27) X I inU6 0 dwG_0 rfl 11 (by decide) uw_4_10 rfl rfl dX6_signOf_120 ?_
      refine lv_iload hx hb dX6_signOf_123 (lv_at hl 7 rfl) ?_
      obtain ⟨r16, h_r16, hf⟩ := k_bind hf
      refine k_ald X I h_r16 4 dwG_4 dX6_signOf_125 ?_
      refine lv_goto (tgt := 131) hx hb dX6_signOf_126 (by decide) ?_
      exact B131 k8 hk8 k44 hk44 x1 x2 x3 x4 x6 r16 M13 _ _ ls hf I (lv_sub hl [0, 1, 2, 3, 4, 6] rfl)
  have B104 : ∀ (k8 : Int32 → Int32 → Int32 → Int32 → xM → Option (Int32 × xM)), (∀ (x1 : Int32) (x2 : Int32) (x3 : Int32) (x4 : Int32) (Mb : xM) (H : Heap) (locs : List Loc) (ls : Array Slot), k8 x1 x2 x3 x4 Mb = some (r, Mr) → kI (dw q aI) D A s Mb H locs → lv_has ls 8 [(0, .ref (q 0)), (1, .int x1), (2, .int x2), (3, .int x3), (4, .int x4)] → W p l e rm_X6_signOf s m args below meth c H locs 0 0 (MQ below (kQ (dw q aI) D A (some (.int r)) Mr) args s 0 0 A) (F0 m 8 ls [])) → ∀ (k44 : Int32 → Int32 → Int32 → Int32 → Int32 → Int32 → xM → Option (Int32 × xM)), (∀ (x1 : Int32) (x2 : Int32) (x3 : Int32) (x4 : Int32) (x5 : Int32) (x6 : Int32) (Mb : xM) (H : Heap) (locs : List Loc) (ls : Array Slot), k44 x1 x2 x3 x4 x5 x6 Mb = some (r, Mr) → kI (dw q aI) D A s Mb H locs → lv_has ls 8 [(0, .ref (q 0)), (1, .int x1), (2, .int x2), (3, .int x3), (4, .int x4), (5, .int x5), (6, .int x6)] → W p l e rm_X6_signOf s m args below meth c H locs 0 0 (MQ below (kQ (dw q aI) D A (some (.int r)) Mr) args s 0 0 A) (F0 m 44 ls [])) → ∀ (x1 : Int32) (x2 : Int32) (x3 : Int32) (x4 : Int32) (x5 : Int32) (x6 : Int32) (x7 : Int32) (y0 : Int32) (y1 : Int32) (Mb : xM) (H : Heap) (locs : List Loc) (ls : Array Slot), f_X6_signOf_b104 k8 k44 x1 x2 x3 x4 x5 x6 x7 y0 y1 Mb = some (r, Mr) → kI (dw q aI) D A s Mb H locs → lv_has ls 8 [(0, .ref (q 0)), (1, .int x1), (2, .int x2), (3, .int x3), (4, .int x4), (5, .int x5), (6, .int x6), (7, .int x7)] → W p l e rm_X6_signOf s m args below meth c H locs 0 0 (MQ below (kQ (dw q aI) D A (some (.int r)) Mr) args s 0 0 A) (F0 m 104 ls [.int y0, .int y1, .ref (q 4)]) := by
    intro k8 hk8 k44 hk44 x1 x2 x3 x4 x5 x6 x7 y0 y1 Mb H locs ls hf I hl
    rw [f_X6_signOf_b104] at hf
    refine lv_iconst (v := 0) hx hb dX6_signOf_104 (by decide) ?_
    exact B105 k8 hk8 k44 hk44 x1 x2 x3 x4 x5 x6 x7 (0 : Int32) y0 y1 Mb _ _ ls hf I (lv_sub hl [0, 1, 2, 3, 4, 5, 6, 7] rfl)
  have B44 : ∀ (k8 : Int32 → Int32 → Int32 → Int32 → xM → Option (Int32 × xM)), (∀ (x1 : Int32) (x2 : Int32) (x3 : Int32) (x4 : Int32) (Mb : xM) (H : Heap) (locs : List Loc) (ls : Array Slot), k8 x1 x2 x3 x4 Mb = some (r, Mr) → kI (dw q aI) D A s Mb H locs → lv_has ls 8 [(0, .ref (q 0)), (1, .int x1), (2, .int x2), (3, .int x3), (4, .int x4)] → W p l e rm_X6_signOf s m args below meth c H locs 0 0 (MQ below (kQ (dw q aI) D A (some (.int r)) Mr) args s 0 0 A) (F0 m 8 ls [])) → ∀ (n44 : Nat), ∀ (x1 : Int32) (x2 : Int32) (x3 : Int32) (x4 : Int32) (x5 : Int32) (x6 : Int32) (Mb : xM) (H : Heap) (locs : List Loc) (ls : Array Slot), f_X6_signOf_l44 k8 n44 x1 x2 x3 x4 x5 x6 Mb = some (r, Mr) → kI (dw q aI) D A s Mb H locs → lv_has ls 8 [(0, .ref (q 0)), (1, .int x1), (2, .int x2), (3, .int x3), (4, .int x4), (5, .int x5), (6, .int x6)] → W p l e rm_X6_signOf s m args below meth c H locs 0 0 (MQ below (kQ (dw q aI) D A (some (.int r)) Mr) args s 0 0 A) (F0 m 44 ls []) := by
    intro k8 hk8
    intro n44
    induction n44 with
    | zero =>
      intro x1 x2 x3 x4 x5 x6 Mb H locs ls hf I hl
      rw [f_X6_signOf_l44] at hf
      cases hf
    | succ n44 ih44 =>
      intro x1 x2 x3 x4 x5 x6 Mb H locs ls hf I hl
      rw [f_X6_signOf_l44] at hf
      refine lv_iload hx hb dX6_signOf_44 (lv_at hl 6 rfl) ?_
      refine lv_aload_n hx hb dX6_signOf_46 rfl (lv_at hl 0 rfl) ?_
      refine k_get (T := TX6) (N := 27) X I inU6 0 dwG_0 rfl 3 (by decide) uw_4_2 rfl rfl dX6_signOf_47 ?_
      refine lv_icmp_ge (tgt := 139) hx hb dX6_signOf_50 (by decide) (fun c3 => ?_) (fun c3 => ?_)
      · rw [if_pos c3] at hf
        refine lv_iload hx hb dX6_signOf_139 (lv_at hl 5 rfl) ?_
        refine lv_if_le (tgt := 155) hx hb dX6_signOf_141 (by decide) (fun c4 => ?_) (fun c4 => ?_)
        · rw [if_pos c4] at hf
          exact B155 k8 hk8 x1 x2 x3 x4 x5 Mb _ _ ls hf I (lv_sub hl [0, 1, 2, 3, 4, 5] rfl)
        · rw [if_neg c4] at hf
          refine lv_iload hx hb dX6_signOf_144 (lv_at hl 5 rfl) ?_
          refine lv_iload_n hx hb dX6_signOf_146 rfl (lv_at hl 3 rfl) ?_
          refine lv_icmp_ge (tgt := 155) hx hb dX6_signOf_147 (by decide) (fun c7 => ?_) (fun c7 => ?_)
          · rw [if_pos c7] at hf
            exact B155 k8 hk8 x1 x2 x3 x4 x5 Mb _ _ ls hf I (lv_sub hl [0, 1, 2, 3, 4, 5] rfl)
          · rw [if_neg c7] at hf
            refine lv_iload hx hb dX6_signOf_150 (lv_at hl 4 rfl) ?_
            refine lv_goto (tgt := 156) hx hb dX6_signOf_152 (by decide) ?_
            exact B156 k8 hk8 x1 x3 x4 x5 x4 Mb _ _ ls hf I (lv_sub hl [0, 1, 3, 4, 5] rfl)
      · rw [if_neg c3] at hf
        refine lv_aload_n hx hb dX6_signOf_53 rfl (lv_at hl 0 rfl) ?_
        refine k_get (T := TX6) (N := 27) X I inU6 0 dwG_0 rfl 9 (by decide) uw_4_8 rfl rfl dX6_signOf_54 ?_
        refine lv_iconst (v := 4) hx hb dX6_signOf_57 (by decide) ?_
        refine lv_iload hx hb dX6_signOf_58 (lv_at hl 6 rfl) ?_
        refine lv_imul hx hb dX6_signOf_60 ?_
        refine lv_iload hx hb dX6_signOf_61 (lv_at hl 4 rfl) ?_
        refine lv_iadd hx hb dX6_signOf_63 ?_
        obtain ⟨r8, h_r8, hf⟩ := k_bind hf
        refine k_ald X I h_r8 2 dwG_2 dX6_signOf_64 ?_
        refine lv_istore (lv' := [(7, .int r8), (0, .ref (q 0)), (1, .int x1), (2, .int x2), (3, .int x3), (4, .int x4), (5, .int x5), (6, .int x6)]) hx hb dX6_signOf_65 hl (by decide) rfl (fun ls hl => ?_)
        refine lv_aload_n hx hb dX6_signOf_67 rfl (lv_at hl 1 rfl) ?_
        refine k_get (T := TX6) (N := 27) X I inU6 0 dwG_0 rfl 11 (by decide) uw_4_10 rfl rfl dX6_signOf_68 ?_
        refine lv_iload hx hb dX6_signOf_71 (lv_at hl 0 rfl) ?_
        refine lv_dup2_11 hx hb dX6_signOf_73 rfl rfl ?_
        obtain ⟨r9, h_r9, hf⟩ := k_bind hf
        refine k_ald X I h_r9 4 dwG_4 dX6_signOf_74 ?_
        refine lv_aload_n hx hb dX6_signOf_75 rfl (lv_at hl 1 rfl) ?_
        refine k_get (T := TX6) (N := 27) X I inU6 0 dwG_0 rfl 9 (by decide) uw_4_8 rfl rfl dX6_signOf_76 ?_
        refine lv_iconst (v := 4) hx hb dX6_signOf_79 (by decide) ?_
        refine lv_iload hx hb dX6_signOf_80 (lv_at hl 7 rfl) ?_
        refine lv_imul hx hb dX6_signOf_82 ?_
        refine lv_iconst (v := 3) hx hb dX6_signOf_83 (by decide) ?_
        refine lv_iadd hx hb dX6_signOf_84 ?_
        obtain ⟨r10, h_r10, hf⟩ := k_bind hf
        refine k_ald X I h_r10 2 dwG_2 dX6_signOf_85 ?_
        refine lv_iconst (v := (-1)) hx hb dX6_signOf_86 (by decide) ?_
        refine lv_icmp_ne (tgt := 104) hx hb dX6_signOf_87 (by decide) (fun c11 => ?_) (fun c11 => ?_)
        · rw [if_neg c11] at hf
          exact B104 k8 hk8 (f_X6_signOf_l44 k8 n44) ih44 x1 x2 x3 x4 x5 x6 r8 r9 r8 Mb _ _ ls hf I (lv_sub hl [1, 2, 3, 4, 5, 6, 7, 0] rfl)
        · rw [if_pos c11] at hf
          refine lv_aload_n hx hb dX6_signOf_90 rfl (lv_at hl 1 rfl) ?_
          refine lv_iload hx hb dX6_signOf_91 (lv_at hl 7 rfl) ?_
          refine lv_iload_n hx hb dX6_signOf_93 rfl (lv_at hl 2 rfl) ?_
          obtain ⟨r17, h_r17, hf⟩ := k_bind hf
          refine k_callV (n := 2) (As := [.int x6, .int x1]) (rest := [.int r9, .int r8, .ref (q 4)]) X I (c_X6_fits h_r17) uw_4_131 uw_4_133 us_18 uw_1_7 uw_4_134 ⟨rfl, rfl⟩ (by decide +kernel) rfl ⟨Nat.le_of_ble_eq_true rfl, Nat.le_of_ble_eq_true rfl⟩ ⟨Nat.le_of_ble_eq_true rfl, Nat.le_of_ble_eq_true rfl⟩ 0 dwG_0 rfl hl.1 rfl (Nat.le_of_ble_eq_true rfl) dX6_signOf_94 (st1 := [.int r17, .int r9, .int r8, .ref (q 4)]) rfl (fun H locs I => ?_)
          refine lv_if_eq (tgt := 104) hx hb dX6_signOf_97 (by decide) (fun c18 => ?_) (fun c18 => ?_)
          · rw [if_pos c18] at hf
            exact B104 k8 hk8 (f_X6_signOf_l44 k8 n44) ih44 x1 x2 x3 x4 x5 x6 r8 r9 r8 Mb _ _ ls hf I (lv_sub hl [1, 2, 3, 4, 5, 6, 7, 0] rfl)
          · rw [if_neg c18] at hf
            refine lv_iconst (v := 1) hx hb dX6_signOf_100 (by decide) ?_
            refine lv_goto (tgt := 105) hx hb dX6_signOf_101 (by decide) ?_
            exact B105 k8 hk8 (f_X6_signOf_l44 k8 n44) ih44 x1 x2 x3 x4 x5 x6 r8 (1 : Int32) r9 r8 Mb _ _ ls hf I (lv_sub hl [1, 2, 3, 4, 5, 6, 7, 0] rfl)
  have B17 : ∀ (k8 : Int32 → Int32 → Int32 → Int32 → xM → Option (Int32 × xM)), (∀ (x1 : Int32) (x2 : Int32) (x3 : Int32) (x4 : Int32) (Mb : xM) (H : Heap) (locs : List Loc) (ls : Array Slot), k8 x1 x2 x3 x4 Mb = some (r, Mr) → kI (dw q aI) D A s Mb H locs → lv_has ls 8 [(0, .ref (q 0)), (1, .int x1), (2, .int x2), (3, .int x3), (4, .int x4)] → W p l e rm_X6_signOf s m args below meth c H locs 0 0 (MQ below (kQ (dw q aI) D A (some (.int r)) Mr) args s 0 0 A) (F0 m 8 ls [])) → ∀ (n17 : Nat), ∀ (x1 : Int32) (x2 : Int32) (x3 : Int32) (x4 : Int32) (x5 : Int32) (Mb : xM) (H : Heap) (locs : List Loc) (ls : Array Slot), f_X6_signOf_l17 k8 n17 x1 x2 x3 x4 x5 Mb = some (r, Mr) → kI (dw q aI) D A s Mb H locs → lv_has ls 8 [(0, .ref (q 0)), (1, .int x1), (2, .int x2), (3, .int x3), (4, .int x4), (5, .int x5)] → W p l e rm_X6_signOf s m args below meth c H locs 0 0 (MQ below (kQ (dw q aI) D A (some (.int r)) Mr) args s 0 0 A) (F0 m 17 ls []) := by
    intro k8 hk8
    intro n17
    induction n17 with
    | zero =>
      intro x1 x2 x3 x4 x5 Mb H locs ls hf I hl
      rw [f_X6_signOf_l17] at hf
      cases hf
    | succ n17 ih17 =>
      intro x1 x2 x3 x4 x5 Mb H locs ls hf I hl
      rw [f_X6_signOf_l17] at hf
      refine lv_iload hx hb dX6_signOf_17 (lv_at hl 5 rfl) ?_
      refine lv_bipush (v := 10) hx hb dX6_signOf_19 (by decide) ?_
      refine lv_icmp_ge (tgt := 38) hx hb dX6_signOf_21 (by decide) (fun c2 => ?_) (fun c2 => ?_)
      · rw [if_pos c2] at hf
        refine lv_iconst (v := 0) hx hb dX6_signOf_38 (by decide) ?_
        refine lv_istore (lv' := [(5, .int (0 : Int32)), (0, .ref (q 0)), (1, .int x1), (2, .int x2), (3, .int x3), (4, .int x4)]) hx hb dX6_signOf_39 hl (by decide) rfl (fun ls hl => ?_)
        refine lv_iconst (v := 0) hx hb dX6_signOf_41 (by decide) ?_
        refine lv_istore (lv' := [(6, .int (0 : Int32)), (5, .int (0 : Int32)), (0, .ref (q 0)), (1, .int x1), (2, .int x2), (3, .int x3), (4, .int x4)]) hx hb dX6_signOf_42 hl (by decide) rfl (fun ls hl => ?_)
        exact B44 k8 hk8 xN x1 x2 x3 x4 (0 : Int32) (0 : Int32) Mb _ _ ls hf I (lv_sub hl [2, 3, 4, 5, 6, 1, 0] rfl)
      · rw [if_neg c2] at hf
        refine lv_aload_n hx hb dX6_signOf_24 rfl (lv_at hl 0 rfl) ?_
        refine k_get (T := TX6) (N := 27) X I inU6 0 dwG_0 rfl 11 (by decide) uw_4_10 rfl rfl dX6_signOf_25 ?_
        refine lv_iload hx hb dX6_signOf_28 (lv_at hl 5 rfl) ?_
        refine lv_iconst (v := 0) hx hb dX6_signOf_30 (by decide) ?_
        obtain ⟨g19, h_g19, hf⟩ := k_bind hf
        obtain ⟨M20, e_M20, hf⟩ := k_nm hf
        refine k_ast (M1 := M20) X I h_g19 4 dwG_4 dX6_signOf_31 (dwA_3.trans (congrArg (dw q aI) e_M20)) (fun H locs I => ?_)
        refine lv_iinc (v := (x5 + 1)) (lv' := [(5, .int (x5 + 1)), (0, .ref (q 0)), (1, .int x1), (2, .int x2), (3, .int x3), (4, .int x4)]) hx hb dX6_signOf_32 hl (k := 5) rfl rfl (by decide) rfl (fun ls hl => ?_)
        refine lv_goto (tgt := 17) hx hb dX6_signOf_35 (by decide) ?_
        exact ih17 x1 x2 x3 x4 (x5 + 1) M20 _ _ ls hf I (lv_sub hl [1, 2, 3, 4, 5, 0] rfl)
  have B8 : ∀ (n8 : Nat), ∀ (x1 : Int32) (x2 : Int32) (x3 : Int32) (x4 : Int32) (Mb : xM) (H : Heap) (locs : List Loc) (ls : Array Slot), f_X6_signOf_l8 n8 x1 x2 x3 x4 Mb = some (r, Mr) → kI (dw q aI) D A s Mb H locs → lv_has ls 8 [(0, .ref (q 0)), (1, .int x1), (2, .int x2), (3, .int x3), (4, .int x4)] → W p l e rm_X6_signOf s m args below meth c H locs 0 0 (MQ below (kQ (dw q aI) D A (some (.int r)) Mr) args s 0 0 A) (F0 m 8 ls []) := by
    intro n8
    induction n8 with
    | zero =>
      intro x1 x2 x3 x4 Mb H locs ls hf I hl
      rw [f_X6_signOf_l8] at hf
      cases hf
    | succ n8 ih8 =>
      intro x1 x2 x3 x4 Mb H locs ls hf I hl
      rw [f_X6_signOf_l8] at hf
      refine lv_iload hx hb dX6_signOf_8 (lv_at hl 4 rfl) ?_
      refine lv_iconst (v := 3) hx hb dX6_signOf_10 (by decide) ?_
      refine lv_icmp_ge (tgt := 181) hx hb dX6_signOf_11 (by decide) (fun c1 => ?_) (fun c1 => ?_)
      · rw [if_pos c1] at hf
        refine lv_iload_n hx hb dX6_signOf_181 rfl (lv_at hl 2 rfl) ?_
        exact k_iret X I hr hlocks dX6_signOf_182 hf
      · rw [if_neg c1] at hf
        refine lv_iconst (v := 0) hx hb dX6_signOf_14 (by decide) ?_
        refine lv_istore (lv' := [(5, .int (0 : Int32)), (0, .ref (q 0)), (1, .int x1), (2, .int x2), (3, .int x3), (4, .int x4)]) hx hb dX6_signOf_15 hl (by decide) rfl (fun ls hl => ?_)
        exact B17 (f_X6_signOf_l8 n8) ih8 xN x1 x2 x3 x4 (0 : Int32) Mb _ _ ls hf I (lv_sub hl [1, 2, 3, 4, 5, 0] rfl)
  rw [f_X6_signOf] at hf
  refine lv_iconst (v := (-1)) hx hb dX6_signOf_0 (by decide) ?_
  refine lv_istore_n (lv' := [(2, .int (-1 : Int32)), (0, .ref (q 0)), (1, .int x1)]) hx hb dX6_signOf_1 rfl hl (by decide) rfl (fun ls hl => ?_)
  refine lv_bipush (v := 99) hx hb dX6_signOf_2 (by decide) ?_
  refine lv_istore_n (lv' := [(3, .int (99 : Int32)), (2, .int (-1 : Int32)), (0, .ref (q 0)), (1, .int x1)]) hx hb dX6_signOf_4 rfl hl (by decide) rfl (fun ls hl => ?_)
  refine lv_iconst (v := 0) hx hb dX6_signOf_5 (by decide) ?_
  refine lv_istore (lv' := [(4, .int (0 : Int32)), (3, .int (99 : Int32)), (2, .int (-1 : Int32)), (0, .ref (q 0)), (1, .int x1)]) hx hb dX6_signOf_6 hl (by decide) rfl (fun ls hl => ?_)
  exact B8 xN x1 (-1 : Int32) (99 : Int32) (0 : Int32) M _ _ ls hf I (lv_sub hl [3, 4, 2, 1, 0] rfl)
/-! LostTentModel.tellClaimer(II)I -/
abbrev rm_X6_tellClaimer : Room := { frames := 4, cells := 0, slots := 0, locals := 99 }
def f_X6_tellClaimer_b44 (x1 : Int32) (x2 : Int32) (Mb : xM) : Option (Int32 × xM) :=
  (xld 15 (Mb.2.2 2) (((5 : Int32) * x1) + x2)).bind fun r2 =>
  some (r2, Mb)
def f_X6_tellClaimer (x1 : Int32) (x2 : Int32) (M : xM) : Option (Int32 × xM) :=
  if x2 = 0 then
    f_X6_tellClaimer_b44 x1 x2 M
  else
  if x2 = 1 then
    f_X6_tellClaimer_b44 x1 x2 M
  else
  if x2 = 2 then
    f_X6_tellClaimer_b44 x1 x2 M
  else
  if x2 = 3 then
    f_X6_tellClaimer_b44 x1 x2 M
  else
  if x2 = 4 then
    f_X6_tellClaimer_b44 x1 x2 M
  else
  if x2 = 5 then
    (f_X6_thingsOf x1 M).bind fun r8 =>
    some (r8, M)
  else
  if x2 = 6 then
    ob2 (f_X6_signOf x1 M) fun r10 M11 =>
    some (r10, M11)
  else
  some ((-102 : Int32), M)
set_option maxRecDepth 100000 in
set_option maxHeartbeats 8000000 in
theorem c_X6_tellClaimer {l : Launch} {D : va_G} {aI : ClassId} {q t : Nat → Nat} {x1 : Int32} {x2 : Int32} {M : xM} {r : Int32} {Mr : xM} (hf : f_X6_tellClaimer x1 x2 M = some (r, Mr)) : kM l yX6_tellClaimer (wk yX6_tellClaimer cX6_tellClaimer 3 (some .int)) rm_X6_tellClaimer (dw q aI) D aI t [.ref (q 0), .int x1, .int x2] M (some (.int r)) Mr := by
  refine kM_of (by decide) (Nat.le_of_ble_eq_true rfl) ?_
  intro p e s m args below meth c A ls X hr hlocks hl I
  have hx := X.1
  have hb := X.2.1
  have hl : lv_has ls 3 [(0, .ref (q 0)), (1, .int x1), (2, .int x2)] := hl
  have B44 : ∀ (x1 : Int32) (x2 : Int32) (Mb : xM) (H : Heap) (locs : List Loc) (ls : Array Slot), f_X6_tellClaimer_b44 x1 x2 Mb = some (r, Mr) → kI (dw q aI) D A s Mb H locs → lv_has ls 3 [(0, .ref (q 0)), (1, .int x1), (2, .int x2)] → W p l e rm_X6_tellClaimer s m args below meth c H locs 0 0 (MQ below (kQ (dw q aI) D A (some (.int r)) Mr) args s 0 0 A) (F0 m 44 ls []) := by
    intro x1 x2 Mb H locs ls hf I hl
    rw [f_X6_tellClaimer_b44] at hf
    refine lv_aload_n hx hb dX6_tellClaimer_44 rfl (lv_at hl 0 rfl) ?_
    refine k_get (T := TX6) (N := 27) X I inU6 0 dwG_0 rfl 10 (by decide) uw_4_9 rfl rfl dX6_tellClaimer_45 ?_
    refine lv_iconst (v := 5) hx hb dX6_tellClaimer_48 (by decide) ?_
    refine lv_iload_n hx hb dX6_tellClaimer_49 rfl (lv_at hl 1 rfl) ?_
    refine lv_imul hx hb dX6_tellClaimer_50 ?_
    refine lv_iload_n hx hb dX6_tellClaimer_51 rfl (lv_at hl 2 rfl) ?_
    refine lv_iadd hx hb dX6_tellClaimer_52 ?_
    obtain ⟨r2, h_r2, hf⟩ := k_bind hf
    refine k_ald X I h_r2 3 dwG_3 dX6_tellClaimer_53 ?_
    exact k_iret X I hr hlocks dX6_tellClaimer_54 hf
  rw [f_X6_tellClaimer] at hf
  refine lv_iload_n hx hb dX6_tellClaimer_0 rfl (lv_at hl 2 rfl) ?_
  by_cases c1 : x2 = 0
  · rw [if_pos c1] at hf
    refine lv_tableIn (off := 43) (tgt := 44) hx hb dX6_tellClaimer_1 (by rw [c1]; decide) (by rw [c1]; decide) (by rw [c1]; rfl) (by decide) ?_
    exact B44 x1 x2 M _ _ ls hf I (lv_sub hl [0, 1, 2] rfl)
  rw [if_neg c1] at hf
  by_cases c3 : x2 = 1
  · rw [if_pos c3] at hf
    refine lv_tableIn (off := 43) (tgt := 44) hx hb dX6_tellClaimer_1 (by rw [c3]; decide) (by rw [c3]; decide) (by rw [c3]; rfl) (by decide) ?_
    exact B44 x1 x2 M _ _ ls hf I (lv_sub hl [0, 1, 2] rfl)
  rw [if_neg c3] at hf
  by_cases c4 : x2 = 2
  · rw [if_pos c4] at hf
    refine lv_tableIn (off := 43) (tgt := 44) hx hb dX6_tellClaimer_1 (by rw [c4]; decide) (by rw [c4]; decide) (by rw [c4]; rfl) (by decide) ?_
    exact B44 x1 x2 M _ _ ls hf I (lv_sub hl [0, 1, 2] rfl)
  rw [if_neg c4] at hf
  by_cases c5 : x2 = 3
  · rw [if_pos c5] at hf
    refine lv_tableIn (off := 43) (tgt := 44) hx hb dX6_tellClaimer_1 (by rw [c5]; decide) (by rw [c5]; decide) (by rw [c5]; rfl) (by decide) ?_
    exact B44 x1 x2 M _ _ ls hf I (lv_sub hl [0, 1, 2] rfl)
  rw [if_neg c5] at hf
  by_cases c6 : x2 = 4
  · rw [if_pos c6] at hf
    refine lv_tableIn (off := 43) (tgt := 44) hx hb dX6_tellClaimer_1 (by rw [c6]; decide) (by rw [c6]; decide) (by rw [c6]; rfl) (by decide) ?_
    exact B44 x1 x2 M _ _ ls hf I (lv_sub hl [0, 1, 2] rfl)
  rw [if_neg c6] at hf
  by_cases c7 : x2 = 5
  · rw [if_pos c7] at hf
    refine lv_tableIn (off := 54) (tgt := 55) hx hb dX6_tellClaimer_1 (by rw [c7]; decide) (by rw [c7]; decide) (by rw [c7]; rfl) (by decide) ?_
    refine lv_aload_n hx hb dX6_tellClaimer_55 rfl (lv_at hl 0 rfl) ?_
    refine lv_iload_n hx hb dX6_tellClaimer_56 rfl (lv_at hl 1 rfl) ?_
    obtain ⟨r8, h_r8, hf⟩ := k_bind hf
    refine k_callV (n := 1) (As := [.int x1]) (rest := []) X I (c_X6_thingsOf h_r8) uw_4_167 uw_4_169 us_26 uw_1_7 uw_4_170 ⟨rfl, rfl⟩ (by decide +kernel) rfl ⟨Nat.le_of_ble_eq_true rfl, Nat.le_of_ble_eq_true rfl⟩ ⟨Nat.le_of_ble_eq_true rfl, Nat.le_of_ble_eq_true rfl⟩ 0 dwG_0 rfl hl.1 rfl (Nat.le_of_ble_eq_true rfl) dX6_tellClaimer_57 (st1 := [.int r8]) rfl (fun H locs I => ?_)
    exact k_iret X I hr hlocks dX6_tellClaimer_60 hf
  rw [if_neg c7] at hf
  by_cases c9 : x2 = 6
  · rw [if_pos c9] at hf
    refine lv_tableIn (off := 60) (tgt := 61) hx hb dX6_tellClaimer_1 (by rw [c9]; decide) (by rw [c9]; decide) (by rw [c9]; rfl) (by decide) ?_
    refine lv_aload_n hx hb dX6_tellClaimer_61 rfl (lv_at hl 0 rfl) ?_
    refine lv_iload_n hx hb dX6_tellClaimer_62 rfl (lv_at hl 1 rfl) ?_
    obtain ⟨r10, M11, h_r10, hf⟩ := k_bind2 hf
    refine k_callV (n := 1) (As := [.int x1]) (rest := []) X I (c_X6_signOf h_r10) uw_4_171 uw_4_173 us_27 uw_1_7 uw_4_174 ⟨rfl, rfl⟩ (by decide +kernel) rfl ⟨Nat.le_of_ble_eq_true rfl, Nat.le_of_ble_eq_true rfl⟩ ⟨Nat.le_of_ble_eq_true rfl, Nat.le_of_ble_eq_true rfl⟩ 0 dwG_0 rfl hl.1 rfl (Nat.le_of_ble_eq_true rfl) dX6_tellClaimer_63 (st1 := [.int r10]) rfl (fun H locs I => ?_)
    exact k_iret X I hr hlocks dX6_tellClaimer_66 hf
  rw [if_neg c9] at hf
  refine lv_tableOut (tgt := 67) hx hb dX6_tellClaimer_1 (sw_out fun k h1 h2 h3 => by
      have h4 : k = 0 ∨ k = 1 ∨ k = 2 ∨ k = 3 ∨ k = 4 ∨ k = 5 ∨ k = 6 := by omega
      rcases h4 with rfl | rfl | rfl | rfl | rfl | rfl | rfl
      · exact c1 (sw_eq h3 (by decide))
      · exact c3 (sw_eq h3 (by decide))
      · exact c4 (sw_eq h3 (by decide))
      · exact c5 (sw_eq h3 (by decide))
      · exact c6 (sw_eq h3 (by decide))
      · exact c7 (sw_eq h3 (by decide))
      · exact c9 (sw_eq h3 (by decide))) (by decide) ?_
  refine lv_bipush (v := (-102)) hx hb dX6_tellClaimer_67 (by decide) ?_
  exact k_iret X I hr hlocks dX6_tellClaimer_69 hf
/-! LostTentModel.claimer(II)I -/
abbrev rm_X6_claimer : Room := { frames := 5, cells := 0, slots := 0, locals := 121 }
def f_X6_claimer (x1 : Int32) (x2 : Int32) (M : xM) : Option (Int32 × xM) :=
  (f_X6_isClaimer x1 M).bind fun r1 =>
  if r1 = 0 then
    some ((-101 : Int32), M)
  else
    ob2 (f_X6_tellClaimer x1 x2 M) fun r3 M4 =>
    some (r3, M4)
set_option maxRecDepth 100000 in
set_option maxHeartbeats 8000000 in
theorem c_X6_claimer {l : Launch} {D : va_G} {aI : ClassId} {q t : Nat → Nat} {x1 : Int32} {x2 : Int32} {M : xM} {r : Int32} {Mr : xM} (hf : f_X6_claimer x1 x2 M = some (r, Mr)) : kM l yX6_claimer (wk yX6_claimer cX6_claimer 3 (some .int)) rm_X6_claimer (dw q aI) D aI t [.ref (q 0), .int x1, .int x2] M (some (.int r)) Mr := by
  refine kM_of (by decide) (Nat.le_of_ble_eq_true rfl) ?_
  intro p e s m args below meth c A ls X hr hlocks hl I
  have hx := X.1
  have hb := X.2.1
  have hl : lv_has ls 3 [(0, .ref (q 0)), (1, .int x1), (2, .int x2)] := hl
  rw [f_X6_claimer] at hf
  refine lv_aload_n hx hb dX6_claimer_0 rfl (lv_at hl 0 rfl) ?_
  refine lv_iload_n hx hb dX6_claimer_1 rfl (lv_at hl 1 rfl) ?_
  obtain ⟨r1, h_r1, hf⟩ := k_bind hf
  refine k_callV (n := 1) (As := [.int x1]) (rest := []) X I (c_X6_isClaimer h_r1) uw_4_159 uw_4_161 us_24 uw_1_7 uw_4_162 ⟨rfl, rfl⟩ (by decide +kernel) rfl ⟨Nat.le_of_ble_eq_true rfl, Nat.le_of_ble_eq_true rfl⟩ ⟨Nat.le_of_ble_eq_true rfl, Nat.le_of_ble_eq_true rfl⟩ 0 dwG_0 rfl hl.1 rfl (Nat.le_of_ble_eq_true rfl) dX6_claimer_2 (st1 := [.int r1]) rfl (fun H locs I => ?_)
  refine lv_if_eq (tgt := 17) hx hb dX6_claimer_5 (by decide) (fun c2 => ?_) (fun c2 => ?_)
  · rw [if_pos c2] at hf
    refine lv_bipush (v := (-101)) hx hb dX6_claimer_17 (by decide) ?_
    exact k_iret X I hr hlocks dX6_claimer_19 hf
  · rw [if_neg c2] at hf
    refine lv_aload_n hx hb dX6_claimer_8 rfl (lv_at hl 0 rfl) ?_
    refine lv_iload_n hx hb dX6_claimer_9 rfl (lv_at hl 1 rfl) ?_
    refine lv_iload_n hx hb dX6_claimer_10 rfl (lv_at hl 2 rfl) ?_
    obtain ⟨r3, M4, h_r3, hf⟩ := k_bind2 hf
    refine k_callV (n := 2) (As := [.int x1, .int x2]) (rest := []) X I (c_X6_tellClaimer h_r3) uw_4_163 uw_4_165 us_25 uw_1_7 uw_4_166 ⟨rfl, rfl⟩ (by decide +kernel) rfl ⟨Nat.le_of_ble_eq_true rfl, Nat.le_of_ble_eq_true rfl⟩ ⟨Nat.le_of_ble_eq_true rfl, Nat.le_of_ble_eq_true rfl⟩ 0 dwG_0 rfl hl.1 rfl (Nat.le_of_ble_eq_true rfl) dX6_claimer_11 (st1 := [.int r3]) rfl (fun H locs I => ?_)
    refine lv_goto (tgt := 19) hx hb dX6_claimer_14 (by decide) ?_
    exact k_iret X I hr hlocks dX6_claimer_19 hf
