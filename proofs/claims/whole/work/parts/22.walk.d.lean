/-! LostTentModel.as(II)I -/
abbrev rm_X6_as : Room := { frames := 2, cells := 0, slots := 0, locals := 46 }
def f_X6_as_b61 (x1 : Int32) (y0 : Int32) (M : xM) : Option Int32 :=
  if y0 = 0 then
    some (-1 : Int32)
  else
    some x1
def f_X6_as_b56 (x1 : Int32) (M : xM) : Option Int32 :=
  f_X6_as_b61 x1 (1 : Int32) M
def f_X6_as_b60 (x1 : Int32) (M : xM) : Option Int32 :=
  f_X6_as_b61 x1 (0 : Int32) M
def f_X6_as (x1 : Int32) (x2 : Int32) (M : xM) : Option Int32 :=
  (f_X6_isClaimer x1 M).bind fun r1 =>
  if r1 = 0 then
    some (-101 : Int32)
  else
    (f_X6_in x2.toInt64 (0 : Int64) (4 : Int64)).bind fun r3 =>
    if r3 = 0 then
      some (-102 : Int32)
    else
      (xld 15 (M.2.2 2) (((5 : Int32) * x1) + (3 : Int32))).bind fun r5 =>
      if x2 = 0 then
        f_X6_as_b56 x1 M
      else
        if x2 = r5 then
          f_X6_as_b56 x1 M
        else
          if x2 = (1 : Int32) then
            if r5 = (4 : Int32) then
              f_X6_as_b56 x1 M
            else
              f_X6_as_b60 x1 M
          else
            f_X6_as_b60 x1 M
set_option maxRecDepth 100000 in
set_option maxHeartbeats 8000000 in
theorem c_X6_as {l : Launch} {D : va_G} {aI : ClassId} {q t : Nat → Nat} {x1 : Int32} {x2 : Int32} {M : xM} {r : Int32} (hf : f_X6_as x1 x2 M = some r) : kM l yX6_as (wk yX6_as cX6_as 5 (some .int)) rm_X6_as (dw q aI) D aI t [.ref (q 0), .int x1, .int x2] M (some (.int r)) M := by
  refine kM_of (by decide) (Nat.le_of_ble_eq_true rfl) ?_
  intro p e s m args below meth c A ls X hr hlocks hl I
  have hx := X.1
  have hb := X.2.1
  have hl : lv_has ls 5 [(0, .ref (q 0)), (1, .int x1), (2, .int x2)] := hl
  have B61 : ∀ (x1 : Int32) (y0 : Int32) (H : Heap) (locs : List Loc) (ls : Array Slot), f_X6_as_b61 x1 y0 M = some r → kI (dw q aI) D A s M H locs → lv_has ls 5 [(1, .int x1)] → W p l e rm_X6_as s m args below meth c H locs 0 0 (MQ below (kQ (dw q aI) D A (some (.int r)) M) args s 0 0 A) (F0 m 61 ls [.int y0]) := by
    intro x1 y0 H locs ls hf I hl
    rw [f_X6_as_b61] at hf
    refine lv_istore (lv' := [(4, .int y0), (1, .int x1)]) hx hb dX6_as_61 hl (by decide) rfl (fun ls hl => ?_)
    refine lv_iload hx hb dX6_as_63 (lv_at hl 0 rfl) ?_
    refine lv_if_eq (tgt := 72) hx hb dX6_as_65 (by decide) (fun c7 => ?_) (fun c7 => ?_)
    · rw [if_pos c7] at hf
      refine lv_iconst (v := (-1)) hx hb dX6_as_72 (by decide) ?_
      exact k_iretP X I hr hlocks dX6_as_73 hf
    · rw [if_neg c7] at hf
      refine lv_iload_n hx hb dX6_as_68 rfl (lv_at hl 1 rfl) ?_
      refine lv_goto (tgt := 73) hx hb dX6_as_69 (by decide) ?_
      exact k_iretP X I hr hlocks dX6_as_73 hf
  have B56 : ∀ (x1 : Int32) (H : Heap) (locs : List Loc) (ls : Array Slot), f_X6_as_b56 x1 M = some r → kI (dw q aI) D A s M H locs → lv_has ls 5 [(1, .int x1)] → W p l e rm_X6_as s m args below meth c H locs 0 0 (MQ below (kQ (dw q aI) D A (some (.int r)) M) args s 0 0 A) (F0 m 56 ls []) := by
    intro x1 H locs ls hf I hl
    rw [f_X6_as_b56] at hf
    refine lv_iconst (v := 1) hx hb dX6_as_56 (by decide) ?_
    refine lv_goto (tgt := 61) hx hb dX6_as_57 (by decide) ?_
    exact B61 x1 (1 : Int32) _ _ ls hf I (lv_sub hl [0] rfl)
  have B60 : ∀ (x1 : Int32) (H : Heap) (locs : List Loc) (ls : Array Slot), f_X6_as_b60 x1 M = some r → kI (dw q aI) D A s M H locs → lv_has ls 5 [(1, .int x1)] → W p l e rm_X6_as s m args below meth c H locs 0 0 (MQ below (kQ (dw q aI) D A (some (.int r)) M) args s 0 0 A) (F0 m 60 ls []) := by
    intro x1 H locs ls hf I hl
    rw [f_X6_as_b60] at hf
    refine lv_iconst (v := 0) hx hb dX6_as_60 (by decide) ?_
    exact B61 x1 (0 : Int32) _ _ ls hf I (lv_sub hl [0] rfl)
  rw [f_X6_as] at hf
  refine lv_aload_n hx hb dX6_as_0 rfl (lv_at hl 0 rfl) ?_
  refine lv_iload_n hx hb dX6_as_1 rfl (lv_at hl 1 rfl) ?_
  obtain ⟨r1, h_r1, hf⟩ := k_bind hf
  refine k_callV (n := 1) (As := [.int x1]) (rest := []) X I (c_X6_isClaimer h_r1) uw_4_159 uw_4_161 us_24 uw_1_7 uw_4_162 ⟨rfl, rfl⟩ (by decide +kernel) rfl ⟨Nat.le_of_ble_eq_true rfl, Nat.le_of_ble_eq_true rfl⟩ ⟨Nat.le_of_ble_eq_true rfl, Nat.le_of_ble_eq_true rfl⟩ 0 dwG_0 rfl hl.1 rfl (Nat.le_of_ble_eq_true rfl) dX6_as_2 (st1 := [.int r1]) rfl (fun H locs I => ?_)
  refine lv_if_ne (tgt := 11) hx hb dX6_as_5 (by decide) (fun c2 => ?_) (fun c2 => ?_)
  · rw [if_neg c2] at hf
    refine lv_iload_n hx hb dX6_as_11 rfl (lv_at hl 2 rfl) ?_
    refine lv_i2l hx hb dX6_as_12 rfl ?_
    refine lv_lconst (v := 0) hx hb dX6_as_13 (by decide) ?_
    refine lv_ldc2 (v := 4) hx hb X.2.2.2.1 (X.2.2.2.2.1 _ uw_4_179) dX6_as_14 ?_
    obtain ⟨r3, h_r3, hf⟩ := k_bind hf
    refine k_callS (n := 3) (As := [.long x2.toInt64, .long (0 : Int64), .long (4 : Int64)]) (rest := []) X I (c_X6_in h_r3) uw_4_86 uw_4_87 uw_1_7 uw_4_88 ⟨rfl, rfl⟩ (by decide +kernel) rfl ⟨Nat.le_of_ble_eq_true rfl, Nat.le_of_ble_eq_true rfl⟩ ⟨Nat.le_of_ble_eq_true rfl, Nat.le_of_ble_eq_true rfl⟩ hl.1 rfl (Nat.le_of_ble_eq_true rfl) dX6_as_17 (st1 := [.int r3]) rfl (fun H locs I => ?_)
    refine lv_if_ne (tgt := 26) hx hb dX6_as_20 (by decide) (fun c4 => ?_) (fun c4 => ?_)
    · rw [if_neg c4] at hf
      refine lv_aload_n hx hb dX6_as_26 rfl (lv_at hl 0 rfl) ?_
      refine k_get (T := TX6) (N := 27) X I inU6 0 dwG_0 rfl 10 (by decide) uw_4_9 rfl rfl dX6_as_27 ?_
      refine lv_iconst (v := 5) hx hb dX6_as_30 (by decide) ?_
      refine lv_iload_n hx hb dX6_as_31 rfl (lv_at hl 1 rfl) ?_
      refine lv_imul hx hb dX6_as_32 ?_
      refine lv_iconst (v := 3) hx hb dX6_as_33 (by decide) ?_
      refine lv_iadd hx hb dX6_as_34 ?_
      obtain ⟨r5, h_r5, hf⟩ := k_bind hf
      refine k_ald X I h_r5 3 dwG_3 dX6_as_35 ?_
      refine lv_istore_n (lv' := [(3, .int r5), (0, .ref (q 0)), (1, .int x1), (2, .int x2)]) hx hb dX6_as_36 rfl hl (by decide) rfl (fun ls hl => ?_)
      refine lv_iload_n hx hb dX6_as_37 rfl (lv_at hl 3 rfl) ?_
      refine lv_if_eq (tgt := 56) hx hb dX6_as_38 (by decide) (fun c6 => ?_) (fun c6 => ?_)
      · rw [if_pos c6] at hf
        exact B56 x1 _ _ ls hf I (lv_sub hl [2] rfl)
      · rw [if_neg c6] at hf
        refine lv_iload_n hx hb dX6_as_41 rfl (lv_at hl 3 rfl) ?_
        refine lv_iload_n hx hb dX6_as_42 rfl (lv_at hl 0 rfl) ?_
        refine lv_icmp_eq (tgt := 56) hx hb dX6_as_43 (by decide) (fun c8 => ?_) (fun c8 => ?_)
        · rw [if_pos c8] at hf
          exact B56 x1 _ _ ls hf I (lv_sub hl [2] rfl)
        · rw [if_neg c8] at hf
          refine lv_iload_n hx hb dX6_as_46 rfl (lv_at hl 3 rfl) ?_
          refine lv_iconst (v := 1) hx hb dX6_as_47 (by decide) ?_
          refine lv_icmp_ne (tgt := 60) hx hb dX6_as_48 (by decide) (fun c9 => ?_) (fun c9 => ?_)
          · rw [if_neg c9] at hf
            exact B60 x1 _ _ ls hf I (lv_sub hl [2] rfl)
          · rw [if_pos c9] at hf
            refine lv_iload_n hx hb dX6_as_51 rfl (lv_at hl 0 rfl) ?_
            refine lv_iconst (v := 4) hx hb dX6_as_52 (by decide) ?_
            refine lv_icmp_ne (tgt := 60) hx hb dX6_as_53 (by decide) (fun c10 => ?_) (fun c10 => ?_)
            · rw [if_neg c10] at hf
              exact B60 x1 _ _ ls hf I (lv_sub hl [2] rfl)
            · rw [if_pos c10] at hf
              exact B56 x1 _ _ ls hf I (lv_sub hl [2] rfl)
    · rw [if_pos c4] at hf
      refine lv_bipush (v := (-102)) hx hb dX6_as_23 (by decide) ?_
      exact k_iretP X I hr hlocks dX6_as_25 hf
  · rw [if_pos c2] at hf
    refine lv_bipush (v := (-101)) hx hb dX6_as_8 (by decide) ?_
    exact k_iretP X I hr hlocks dX6_as_10 hf
/-! LostTentModel.wrong(II)I -/
abbrev rm_X6_wrong : Room := { frames := 2, cells := 0, slots := 0, locals := 50 }
def f_X6_wrong (x1 : Int32) (x2 : Int32) (M : xM) : Option Int32 :=
  (f_X6_isThing x1 M).bind fun r1 =>
  if r1 = 0 then
    some (-101 : Int32)
  else
    (f_X6_isClaimer x2 M).bind fun r3 =>
    if r3 = 0 then
      some (-101 : Int32)
    else
      (f_X6_wrongOf x1 x2 M).bind fun r5 =>
      some r5
set_option maxRecDepth 100000 in
set_option maxHeartbeats 8000000 in
theorem c_X6_wrong {l : Launch} {D : va_G} {aI : ClassId} {q t : Nat → Nat} {x1 : Int32} {x2 : Int32} {M : xM} {r : Int32} (hf : f_X6_wrong x1 x2 M = some r) : kM l yX6_wrong (wk yX6_wrong cX6_wrong 3 (some .int)) rm_X6_wrong (dw q aI) D aI t [.ref (q 0), .int x1, .int x2] M (some (.int r)) M := by
  refine kM_of (by decide) (Nat.le_of_ble_eq_true rfl) ?_
  intro p e s m args below meth c A ls X hr hlocks hl I
  have hx := X.1
  have hb := X.2.1
  have hl : lv_has ls 3 [(0, .ref (q 0)), (1, .int x1), (2, .int x2)] := hl
  rw [f_X6_wrong] at hf
  refine lv_aload_n hx hb dX6_wrong_0 rfl (lv_at hl 0 rfl) ?_
  refine lv_iload_n hx hb dX6_wrong_1 rfl (lv_at hl 1 rfl) ?_
  obtain ⟨r1, h_r1, hf⟩ := k_bind hf
  refine k_callV (n := 1) (As := [.int x1]) (rest := []) X I (c_X6_isThing h_r1) uw_4_119 uw_4_121 us_15 uw_1_7 uw_4_122 ⟨rfl, rfl⟩ (by decide +kernel) rfl ⟨Nat.le_of_ble_eq_true rfl, Nat.le_of_ble_eq_true rfl⟩ ⟨Nat.le_of_ble_eq_true rfl, Nat.le_of_ble_eq_true rfl⟩ 0 dwG_0 rfl hl.1 rfl (Nat.le_of_ble_eq_true rfl) dX6_wrong_2 (st1 := [.int r1]) rfl (fun H locs I => ?_)
  refine lv_if_eq (tgt := 25) hx hb dX6_wrong_5 (by decide) (fun c2 => ?_) (fun c2 => ?_)
  · rw [if_pos c2] at hf
    refine lv_bipush (v := (-101)) hx hb dX6_wrong_25 (by decide) ?_
    exact k_iretP X I hr hlocks dX6_wrong_27 hf
  · rw [if_neg c2] at hf
    refine lv_aload_n hx hb dX6_wrong_8 rfl (lv_at hl 0 rfl) ?_
    refine lv_iload_n hx hb dX6_wrong_9 rfl (lv_at hl 2 rfl) ?_
    obtain ⟨r3, h_r3, hf⟩ := k_bind hf
    refine k_callV (n := 1) (As := [.int x2]) (rest := []) X I (c_X6_isClaimer h_r3) uw_4_159 uw_4_161 us_24 uw_1_7 uw_4_162 ⟨rfl, rfl⟩ (by decide +kernel) rfl ⟨Nat.le_of_ble_eq_true rfl, Nat.le_of_ble_eq_true rfl⟩ ⟨Nat.le_of_ble_eq_true rfl, Nat.le_of_ble_eq_true rfl⟩ 0 dwG_0 rfl hl.1 rfl (Nat.le_of_ble_eq_true rfl) dX6_wrong_10 (st1 := [.int r3]) rfl (fun H locs I => ?_)
    refine lv_if_eq (tgt := 25) hx hb dX6_wrong_13 (by decide) (fun c4 => ?_) (fun c4 => ?_)
    · rw [if_pos c4] at hf
      refine lv_bipush (v := (-101)) hx hb dX6_wrong_25 (by decide) ?_
      exact k_iretP X I hr hlocks dX6_wrong_27 hf
    · rw [if_neg c4] at hf
      refine lv_aload_n hx hb dX6_wrong_16 rfl (lv_at hl 0 rfl) ?_
      refine lv_iload_n hx hb dX6_wrong_17 rfl (lv_at hl 1 rfl) ?_
      refine lv_iload_n hx hb dX6_wrong_18 rfl (lv_at hl 2 rfl) ?_
      obtain ⟨r5, h_r5, hf⟩ := k_bind hf
      refine k_callV (n := 2) (As := [.int x1, .int x2]) (rest := []) X I (c_X6_wrongOf h_r5) uw_4_135 uw_4_137 us_19 uw_1_7 uw_4_138 ⟨rfl, rfl⟩ (by decide +kernel) rfl ⟨Nat.le_of_ble_eq_true rfl, Nat.le_of_ble_eq_true rfl⟩ ⟨Nat.le_of_ble_eq_true rfl, Nat.le_of_ble_eq_true rfl⟩ 0 dwG_0 rfl hl.1 rfl (Nat.le_of_ble_eq_true rfl) dX6_wrong_19 (st1 := [.int r5]) rfl (fun H locs I => ?_)
      refine lv_goto (tgt := 27) hx hb dX6_wrong_22 (by decide) ?_
      exact k_iretP X I hr hlocks dX6_wrong_27 hf
/-! LostTentModel.give(II)I -/
abbrev rm_X6_give : Room := { frames := 2, cells := 0, slots := 0, locals := 50 }
def f_X6_give (x1 : Int32) (x2 : Int32) (M : xM) : Option (Int32 × xM) :=
  (f_X6_isThing x1 M).bind fun r1 =>
  if r1 = 0 then
    some ((-101 : Int32), M)
  else
    (f_X6_isClaimer x2 M).bind fun r3 =>
    if r3 = 0 then
      some ((-101 : Int32), M)
    else
      (xld 20 (M.2.2 1) (((4 : Int32) * x1) + (3 : Int32))).bind fun r5 =>
      if r5 = (-1 : Int32) then
        (xld 15 (M.2.2 2) (((5 : Int32) * x2) + (4 : Int32))).bind fun r7 =>
        if r7 = (-1 : Int32) then
          (xst 20 (M.2.2 1) (((4 : Int32) * x1) + (3 : Int32)) x2).bind fun g9 =>
          nmM (xA M 1 g9) fun M10 =>
          (xst 15 (M10.2.2 2) (((5 : Int32) * x2) + (4 : Int32)) x1).bind fun g11 =>
          nmM (xA M10 2 g11) fun M12 =>
          (f_X6_wrongOf x1 x2 M12).bind fun r13 =>
          some (r13, M12)
        else
          some ((-103 : Int32), M)
      else
        some ((-103 : Int32), M)
set_option maxRecDepth 100000 in
set_option maxHeartbeats 8000000 in
theorem c_X6_give {l : Launch} {D : va_G} {aI : ClassId} {q t : Nat → Nat} {x1 : Int32} {x2 : Int32} {M : xM} {r : Int32} {Mr : xM} (hf : f_X6_give x1 x2 M = some (r, Mr)) : kM l yX6_give (wk yX6_give cX6_give 3 (some .int)) rm_X6_give (dw q aI) D aI t [.ref (q 0), .int x1, .int x2] M (some (.int r)) Mr := by
  refine kM_of (by decide) (Nat.le_of_ble_eq_true rfl) ?_
  intro p e s m args below meth c A ls X hr hlocks hl I
  have hx := X.1
  have hb := X.2.1
  have hl : lv_has ls 3 [(0, .ref (q 0)), (1, .int x1), (2, .int x2)] := hl
  rw [f_X6_give] at hf
  refine lv_aload_n hx hb dX6_give_0 rfl (lv_at hl 0 rfl) ?_
  refine lv_iload_n hx hb dX6_give_1 rfl (lv_at hl 1 rfl) ?_
  obtain ⟨r1, h_r1, hf⟩ := k_bind hf
  refine k_callV (n := 1) (As := [.int x1]) (rest := []) X I (c_X6_isThing h_r1) uw_4_119 uw_4_121 us_15 uw_1_7 uw_4_122 ⟨rfl, rfl⟩ (by decide +kernel) rfl ⟨Nat.le_of_ble_eq_true rfl, Nat.le_of_ble_eq_true rfl⟩ ⟨Nat.le_of_ble_eq_true rfl, Nat.le_of_ble_eq_true rfl⟩ 0 dwG_0 rfl hl.1 rfl (Nat.le_of_ble_eq_true rfl) dX6_give_2 (st1 := [.int r1]) rfl (fun H locs I => ?_)
  refine lv_if_eq (tgt := 16) hx hb dX6_give_5 (by decide) (fun c2 => ?_) (fun c2 => ?_)
  · rw [if_pos c2] at hf
    refine lv_bipush (v := (-101)) hx hb dX6_give_16 (by decide) ?_
    exact k_iret X I hr hlocks dX6_give_18 hf
  · rw [if_neg c2] at hf
    refine lv_aload_n hx hb dX6_give_8 rfl (lv_at hl 0 rfl) ?_
    refine lv_iload_n hx hb dX6_give_9 rfl (lv_at hl 2 rfl) ?_
    obtain ⟨r3, h_r3, hf⟩ := k_bind hf
    refine k_callV (n := 1) (As := [.int x2]) (rest := []) X I (c_X6_isClaimer h_r3) uw_4_159 uw_4_161 us_24 uw_1_7 uw_4_162 ⟨rfl, rfl⟩ (by decide +kernel) rfl ⟨Nat.le_of_ble_eq_true rfl, Nat.le_of_ble_eq_true rfl⟩ ⟨Nat.le_of_ble_eq_true rfl, Nat.le_of_ble_eq_true rfl⟩ 0 dwG_0 rfl hl.1 rfl (Nat.le_of_ble_eq_true rfl) dX6_give_10 (st1 := [.int r3]) rfl (fun H locs I => ?_)
    refine lv_if_ne (tgt := 19) hx hb dX6_give_13 (by decide) (fun c4 => ?_) (fun c4 => ?_)
    · rw [if_neg c4] at hf
      refine lv_aload_n hx hb dX6_give_19 rfl (lv_at hl 0 rfl) ?_
      refine k_get (T := TX6) (N := 27) X I inU6 0 dwG_0 rfl 9 (by decide) uw_4_8 rfl rfl dX6_give_20 ?_
      refine lv_iconst (v := 4) hx hb dX6_give_23 (by decide) ?_
      refine lv_iload_n hx hb dX6_give_24 rfl (lv_at hl 1 rfl) ?_
      refine lv_imul hx hb dX6_give_25 ?_
      refine lv_iconst (v := 3) hx hb dX6_give_26 (by decide) ?_
      refine lv_iadd hx hb dX6_give_27 ?_
      obtain ⟨r5, h_r5, hf⟩ := k_bind hf
      refine k_ald X I h_r5 2 dwG_2 dX6_give_28 ?_
      refine lv_iconst (v := (-1)) hx hb dX6_give_29 (by decide) ?_
      refine lv_icmp_ne (tgt := 47) hx hb dX6_give_30 (by decide) (fun c6 => ?_) (fun c6 => ?_)
      · rw [if_neg c6] at hf
        refine lv_bipush (v := (-103)) hx hb dX6_give_47 (by decide) ?_
        exact k_iret X I hr hlocks dX6_give_49 hf
      · rw [if_pos c6] at hf
        refine lv_aload_n hx hb dX6_give_33 rfl (lv_at hl 0 rfl) ?_
        refine k_get (T := TX6) (N := 27) X I inU6 0 dwG_0 rfl 10 (by decide) uw_4_9 rfl rfl dX6_give_34 ?_
        refine lv_iconst (v := 5) hx hb dX6_give_37 (by decide) ?_
        refine lv_iload_n hx hb dX6_give_38 rfl (lv_at hl 2 rfl) ?_
        refine lv_imul hx hb dX6_give_39 ?_
        refine lv_iconst (v := 4) hx hb dX6_give_40 (by decide) ?_
        refine lv_iadd hx hb dX6_give_41 ?_
        obtain ⟨r7, h_r7, hf⟩ := k_bind hf
        refine k_ald X I h_r7 3 dwG_3 dX6_give_42 ?_
        refine lv_iconst (v := (-1)) hx hb dX6_give_43 (by decide) ?_
        refine lv_icmp_eq (tgt := 50) hx hb dX6_give_44 (by decide) (fun c8 => ?_) (fun c8 => ?_)
        · rw [if_pos c8] at hf
          refine lv_aload_n hx hb dX6_give_50 rfl (lv_at hl 0 rfl) ?_
          refine k_get (T := TX6) (N := 27) X I inU6 0 dwG_0 rfl 9 (by decide) uw_4_8 rfl rfl dX6_give_51 ?_
          refine lv_iconst (v := 4) hx hb dX6_give_54 (by decide) ?_
          refine lv_iload_n hx hb dX6_give_55 rfl (lv_at hl 1 rfl) ?_
          refine lv_imul hx hb dX6_give_56 ?_
          refine lv_iconst (v := 3) hx hb dX6_give_57 (by decide) ?_
          refine lv_iadd hx hb dX6_give_58 ?_
          refine lv_iload_n hx hb dX6_give_59 rfl (lv_at hl 2 rfl) ?_
          obtain ⟨g9, h_g9, hf⟩ := k_bind hf
          obtain ⟨M10, e_M10, hf⟩ := k_nm hf
          refine k_ast (M1 := M10) X I h_g9 2 dwG_2 dX6_give_60 (dwA_1.trans (congrArg (dw q aI) e_M10)) (fun H locs I => ?_)
          refine lv_aload_n hx hb dX6_give_61 rfl (lv_at hl 0 rfl) ?_
          refine k_get (T := TX6) (N := 27) X I inU6 0 dwG_0 rfl 10 (by decide) uw_4_9 rfl rfl dX6_give_62 ?_
          refine lv_iconst (v := 5) hx hb dX6_give_65 (by decide) ?_
          refine lv_iload_n hx hb dX6_give_66 rfl (lv_at hl 2 rfl) ?_
          refine lv_imul hx hb dX6_give_67 ?_
          refine lv_iconst (v := 4) hx hb dX6_give_68 (by decide) ?_
          refine lv_iadd hx hb dX6_give_69 ?_
          refine lv_iload_n hx hb dX6_give_70 rfl (lv_at hl 1 rfl) ?_
          obtain ⟨g11, h_g11, hf⟩ := k_bind hf
          obtain ⟨M12, e_M12, hf⟩ := k_nm hf
          refine k_ast (M1 := M12) X I h_g11 3 dwG_3 dX6_give_71 (dwA_2.trans (congrArg (dw q aI) e_M12)) (fun H locs I => ?_)
          refine lv_aload_n hx hb dX6_give_72 rfl (lv_at hl 0 rfl) ?_
          refine lv_iload_n hx hb dX6_give_73 rfl (lv_at hl 1 rfl) ?_
          refine lv_iload_n hx hb dX6_give_74 rfl (lv_at hl 2 rfl) ?_
          obtain ⟨r13, h_r13, hf⟩ := k_bind hf
          refine k_callV (n := 2) (As := [.int x1, .int x2]) (rest := []) X I (c_X6_wrongOf h_r13) uw_4_135 uw_4_137 us_19 uw_1_7 uw_4_138 ⟨rfl, rfl⟩ (by decide +kernel) rfl ⟨Nat.le_of_ble_eq_true rfl, Nat.le_of_ble_eq_true rfl⟩ ⟨Nat.le_of_ble_eq_true rfl, Nat.le_of_ble_eq_true rfl⟩ 0 dwG_0 rfl hl.1 rfl (Nat.le_of_ble_eq_true rfl) dX6_give_75 (st1 := [.int r13]) rfl (fun H locs I => ?_)
          exact k_iret X I hr hlocks dX6_give_78 hf
        · rw [if_neg c8] at hf
          refine lv_bipush (v := (-103)) hx hb dX6_give_47 (by decide) ?_
          exact k_iret X I hr hlocks dX6_give_49 hf
    · rw [if_pos c4] at hf
      refine lv_bipush (v := (-101)) hx hb dX6_give_16 (by decide) ?_
      exact k_iret X I hr hlocks dX6_give_18 hf
/-! LostTentModel.back(I)I -/
abbrev rm_X6_back : Room := { frames := 2, cells := 0, slots := 0, locals := 46 }
def f_X6_back (x1 : Int32) (M : xM) : Option (Int32 × xM) :=
  (f_X6_isThing x1 M).bind fun r1 =>
  if r1 = 0 then
    some ((-101 : Int32), M)
  else
    (xld 20 (M.2.2 1) (((4 : Int32) * x1) + (3 : Int32))).bind fun r3 =>
    if r3 = (-1 : Int32) then
      some ((-103 : Int32), M)
    else
      (xst 20 (M.2.2 1) (((4 : Int32) * x1) + (3 : Int32)) (-1 : Int32)).bind fun g5 =>
      nmM (xA M 1 g5) fun M6 =>
      (xst 15 (M6.2.2 2) (((5 : Int32) * r3) + (4 : Int32)) (-1 : Int32)).bind fun g7 =>
      nmM (xA M6 2 g7) fun M8 =>
      some (r3, M8)
set_option maxRecDepth 100000 in
set_option maxHeartbeats 8000000 in
theorem c_X6_back {l : Launch} {D : va_G} {aI : ClassId} {q t : Nat → Nat} {x1 : Int32} {M : xM} {r : Int32} {Mr : xM} (hf : f_X6_back x1 M = some (r, Mr)) : kM l yX6_back (wk yX6_back cX6_back 3 (some .int)) rm_X6_back (dw q aI) D aI t [.ref (q 0), .int x1] M (some (.int r)) Mr := by
  refine kM_of (by decide) (Nat.le_of_ble_eq_true rfl) ?_
  intro p e s m args below meth c A ls X hr hlocks hl I
  have hx := X.1
  have hb := X.2.1
  have hl : lv_has ls 3 [(0, .ref (q 0)), (1, .int x1)] := hl
  rw [f_X6_back] at hf
  refine lv_aload_n hx hb dX6_back_0 rfl (lv_at hl 0 rfl) ?_
  refine lv_iload_n hx hb dX6_back_1 rfl (lv_at hl 1 rfl) ?_
  obtain ⟨r1, h_r1, hf⟩ := k_bind hf
  refine k_callV (n := 1) (As := [.int x1]) (rest := []) X I (c_X6_isThing h_r1) uw_4_119 uw_4_121 us_15 uw_1_7 uw_4_122 ⟨rfl, rfl⟩ (by decide +kernel) rfl ⟨Nat.le_of_ble_eq_true rfl, Nat.le_of_ble_eq_true rfl⟩ ⟨Nat.le_of_ble_eq_true rfl, Nat.le_of_ble_eq_true rfl⟩ 0 dwG_0 rfl hl.1 rfl (Nat.le_of_ble_eq_true rfl) dX6_back_2 (st1 := [.int r1]) rfl (fun H locs I => ?_)
  refine lv_if_ne (tgt := 11) hx hb dX6_back_5 (by decide) (fun c2 => ?_) (fun c2 => ?_)
  · rw [if_neg c2] at hf
    refine lv_aload_n hx hb dX6_back_11 rfl (lv_at hl 0 rfl) ?_
    refine k_get (T := TX6) (N := 27) X I inU6 0 dwG_0 rfl 9 (by decide) uw_4_8 rfl rfl dX6_back_12 ?_
    refine lv_iconst (v := 4) hx hb dX6_back_15 (by decide) ?_
    refine lv_iload_n hx hb dX6_back_16 rfl (lv_at hl 1 rfl) ?_
    refine lv_imul hx hb dX6_back_17 ?_
    refine lv_iconst (v := 3) hx hb dX6_back_18 (by decide) ?_
    refine lv_iadd hx hb dX6_back_19 ?_
    obtain ⟨r3, h_r3, hf⟩ := k_bind hf
    refine k_ald X I h_r3 2 dwG_2 dX6_back_20 ?_
    refine lv_istore_n (lv' := [(2, .int r3), (0, .ref (q 0)), (1, .int x1)]) hx hb dX6_back_21 rfl hl (by decide) rfl (fun ls hl => ?_)
    refine lv_iload_n hx hb dX6_back_22 rfl (lv_at hl 0 rfl) ?_
    refine lv_iconst (v := (-1)) hx hb dX6_back_23 (by decide) ?_
    refine lv_icmp_ne (tgt := 30) hx hb dX6_back_24 (by decide) (fun c4 => ?_) (fun c4 => ?_)
    · rw [if_neg c4] at hf
      refine lv_aload_n hx hb dX6_back_30 rfl (lv_at hl 1 rfl) ?_
      refine k_get (T := TX6) (N := 27) X I inU6 0 dwG_0 rfl 9 (by decide) uw_4_8 rfl rfl dX6_back_31 ?_
      refine lv_iconst (v := 4) hx hb dX6_back_34 (by decide) ?_
      refine lv_iload_n hx hb dX6_back_35 rfl (lv_at hl 2 rfl) ?_
      refine lv_imul hx hb dX6_back_36 ?_
      refine lv_iconst (v := 3) hx hb dX6_back_37 (by decide) ?_
      refine lv_iadd hx hb dX6_back_38 ?_
      refine lv_iconst (v := (-1)) hx hb dX6_back_39 (by decide) ?_
      obtain ⟨g5, h_g5, hf⟩ := k_bind hf
      obtain ⟨M6, e_M6, hf⟩ := k_nm hf
      refine k_ast (M1 := M6) X I h_g5 2 dwG_2 dX6_back_40 (dwA_1.trans (congrArg (dw q aI) e_M6)) (fun H locs I => ?_)
      refine lv_aload_n hx hb dX6_back_41 rfl (lv_at hl 1 rfl) ?_
      refine k_get (T := TX6) (N := 27) X I inU6 0 dwG_0 rfl 10 (by decide) uw_4_9 rfl rfl dX6_back_42 ?_
      refine lv_iconst (v := 5) hx hb dX6_back_45 (by decide) ?_
      refine lv_iload_n hx hb dX6_back_46 rfl (lv_at hl 0 rfl) ?_
      refine lv_imul hx hb dX6_back_47 ?_
      refine lv_iconst (v := 4) hx hb dX6_back_48 (by decide) ?_
      refine lv_iadd hx hb dX6_back_49 ?_
      refine lv_iconst (v := (-1)) hx hb dX6_back_50 (by decide) ?_
      obtain ⟨g7, h_g7, hf⟩ := k_bind hf
      obtain ⟨M8, e_M8, hf⟩ := k_nm hf
      refine k_ast (M1 := M8) X I h_g7 3 dwG_3 dX6_back_51 (dwA_2.trans (congrArg (dw q aI) e_M8)) (fun H locs I => ?_)
      refine lv_iload_n hx hb dX6_back_52 rfl (lv_at hl 0 rfl) ?_
      exact k_iret X I hr hlocks dX6_back_53 hf
    · rw [if_pos c4] at hf
      refine lv_bipush (v := (-103)) hx hb dX6_back_27 (by decide) ?_
      exact k_iret X I hr hlocks dX6_back_29 hf
  · rw [if_pos c2] at hf
    refine lv_bipush (v := (-101)) hx hb dX6_back_8 (by decide) ?_
    exact k_iret X I hr hlocks dX6_back_10 hf
/-! LostTentModel.remember(III)I -/
abbrev rm_X6_remember : Room := { frames := 2, cells := 0, slots := 0, locals := 46 }
def f_X6_remember (x1 : Int32) (x2 : Int32) (x3 : Int32) (M : xM) : Option (Int32 × xM) :=
  (f_X6_isClaimer x1 M).bind fun r1 =>
  if r1 = 0 then
    some ((-101 : Int32), M)
  else
    (f_X6_in x2.toInt64 (0 : Int64) (2 : Int64)).bind fun r3 =>
    if r3 = 0 then
      some ((-102 : Int32), M)
    else
      (f_X6_mostOf x2).bind fun r5 =>
      (f_X6_in x3.toInt64 (0 : Int64) r5.toInt64).bind fun r6 =>
      if r6 = 0 then
        some ((-102 : Int32), M)
      else
        (xld 15 (M.2.2 2) (((5 : Int32) * x1) + x2)).bind fun r8 =>
        (xst 15 (M.2.2 2) (((5 : Int32) * x1) + x2) x3).bind fun g9 =>
        nmM (xA M 2 g9) fun M10 =>
        some (r8, M10)
set_option maxRecDepth 100000 in
set_option maxHeartbeats 8000000 in
theorem c_X6_remember {l : Launch} {D : va_G} {aI : ClassId} {q t : Nat → Nat} {x1 : Int32} {x2 : Int32} {x3 : Int32} {M : xM} {r : Int32} {Mr : xM} (hf : f_X6_remember x1 x2 x3 M = some (r, Mr)) : kM l yX6_remember (wk yX6_remember cX6_remember 5 (some .int)) rm_X6_remember (dw q aI) D aI t [.ref (q 0), .int x1, .int x2, .int x3] M (some (.int r)) Mr := by
  refine kM_of (by decide) (Nat.le_of_ble_eq_true rfl) ?_
  intro p e s m args below meth c A ls X hr hlocks hl I
  have hx := X.1
  have hb := X.2.1
  have hl : lv_has ls 5 [(0, .ref (q 0)), (1, .int x1), (2, .int x2), (3, .int x3)] := hl
  rw [f_X6_remember] at hf
  refine lv_aload_n hx hb dX6_remember_0 rfl (lv_at hl 0 rfl) ?_
  refine lv_iload_n hx hb dX6_remember_1 rfl (lv_at hl 1 rfl) ?_
  obtain ⟨r1, h_r1, hf⟩ := k_bind hf
  refine k_callV (n := 1) (As := [.int x1]) (rest := []) X I (c_X6_isClaimer h_r1) uw_4_159 uw_4_161 us_24 uw_1_7 uw_4_162 ⟨rfl, rfl⟩ (by decide +kernel) rfl ⟨Nat.le_of_ble_eq_true rfl, Nat.le_of_ble_eq_true rfl⟩ ⟨Nat.le_of_ble_eq_true rfl, Nat.le_of_ble_eq_true rfl⟩ 0 dwG_0 rfl hl.1 rfl (Nat.le_of_ble_eq_true rfl) dX6_remember_2 (st1 := [.int r1]) rfl (fun H locs I => ?_)
  refine lv_if_ne (tgt := 11) hx hb dX6_remember_5 (by decide) (fun c2 => ?_) (fun c2 => ?_)
  · rw [if_neg c2] at hf
    refine lv_iload_n hx hb dX6_remember_11 rfl (lv_at hl 2 rfl) ?_
    refine lv_i2l hx hb dX6_remember_12 rfl ?_
    refine lv_lconst (v := 0) hx hb dX6_remember_13 (by decide) ?_
    refine lv_ldc2 (v := 2) hx hb X.2.2.2.1 (X.2.2.2.2.1 _ uw_4_196) dX6_remember_14 ?_
    obtain ⟨r3, h_r3, hf⟩ := k_bind hf
    refine k_callS (n := 3) (As := [.long x2.toInt64, .long (0 : Int64), .long (2 : Int64)]) (rest := []) X I (c_X6_in h_r3) uw_4_86 uw_4_87 uw_1_7 uw_4_88 ⟨rfl, rfl⟩ (by decide +kernel) rfl ⟨Nat.le_of_ble_eq_true rfl, Nat.le_of_ble_eq_true rfl⟩ ⟨Nat.le_of_ble_eq_true rfl, Nat.le_of_ble_eq_true rfl⟩ hl.1 rfl (Nat.le_of_ble_eq_true rfl) dX6_remember_17 (st1 := [.int r3]) rfl (fun H locs I => ?_)
    refine lv_if_eq (tgt := 37) hx hb dX6_remember_20 (by decide) (fun c4 => ?_) (fun c4 => ?_)
    · rw [if_pos c4] at hf
      refine lv_bipush (v := (-102)) hx hb dX6_remember_37 (by decide) ?_
      exact k_iret X I hr hlocks dX6_remember_39 hf
    · rw [if_neg c4] at hf
      refine lv_iload_n hx hb dX6_remember_23 rfl (lv_at hl 3 rfl) ?_
      refine lv_i2l hx hb dX6_remember_24 rfl ?_
      refine lv_lconst (v := 0) hx hb dX6_remember_25 (by decide) ?_
      refine lv_iload_n hx hb dX6_remember_26 rfl (lv_at hl 2 rfl) ?_
      obtain ⟨r5, h_r5, hf⟩ := k_bind hf
      refine k_callS (n := 1) (As := [.int x2]) (rest := [.long (0 : Int64), .long x3.toInt64]) X I (c_X6_mostOf h_r5) uw_4_105 uw_4_106 uw_1_7 uw_4_107 ⟨rfl, rfl⟩ (by decide +kernel) rfl ⟨Nat.le_of_ble_eq_true rfl, Nat.le_of_ble_eq_true rfl⟩ ⟨Nat.le_of_ble_eq_true rfl, Nat.le_of_ble_eq_true rfl⟩ hl.1 rfl (Nat.le_of_ble_eq_true rfl) dX6_remember_27 (st1 := [.int r5, .long (0 : Int64), .long x3.toInt64]) rfl (fun H locs I => ?_)
      refine lv_i2l hx hb dX6_remember_30 rfl ?_
      obtain ⟨r6, h_r6, hf⟩ := k_bind hf
      refine k_callS (n := 3) (As := [.long x3.toInt64, .long (0 : Int64), .long r5.toInt64]) (rest := []) X I (c_X6_in h_r6) uw_4_86 uw_4_87 uw_1_7 uw_4_88 ⟨rfl, rfl⟩ (by decide +kernel) rfl ⟨Nat.le_of_ble_eq_true rfl, Nat.le_of_ble_eq_true rfl⟩ ⟨Nat.le_of_ble_eq_true rfl, Nat.le_of_ble_eq_true rfl⟩ hl.1 rfl (Nat.le_of_ble_eq_true rfl) dX6_remember_31 (st1 := [.int r6]) rfl (fun H locs I => ?_)
      refine lv_if_ne (tgt := 40) hx hb dX6_remember_34 (by decide) (fun c7 => ?_) (fun c7 => ?_)
      · rw [if_neg c7] at hf
        refine lv_aload_n hx hb dX6_remember_40 rfl (lv_at hl 0 rfl) ?_
        refine k_get (T := TX6) (N := 27) X I inU6 0 dwG_0 rfl 10 (by decide) uw_4_9 rfl rfl dX6_remember_41 ?_
        refine lv_iconst (v := 5) hx hb dX6_remember_44 (by decide) ?_
        refine lv_iload_n hx hb dX6_remember_45 rfl (lv_at hl 1 rfl) ?_
        refine lv_imul hx hb dX6_remember_46 ?_
        refine lv_iload_n hx hb dX6_remember_47 rfl (lv_at hl 2 rfl) ?_
        refine lv_iadd hx hb dX6_remember_48 ?_
        obtain ⟨r8, h_r8, hf⟩ := k_bind hf
        refine k_ald X I h_r8 3 dwG_3 dX6_remember_49 ?_
        refine lv_istore (lv' := [(4, .int r8), (0, .ref (q 0)), (1, .int x1), (2, .int x2), (3, .int x3)]) hx hb dX6_remember_50 hl (by decide) rfl (fun ls hl => ?_)
        refine lv_aload_n hx hb dX6_remember_52 rfl (lv_at hl 1 rfl) ?_
        refine k_get (T := TX6) (N := 27) X I inU6 0 dwG_0 rfl 10 (by decide) uw_4_9 rfl rfl dX6_remember_53 ?_
        refine lv_iconst (v := 5) hx hb dX6_remember_56 (by decide) ?_
        refine lv_iload_n hx hb dX6_remember_57 rfl (lv_at hl 2 rfl) ?_
        refine lv_imul hx hb dX6_remember_58 ?_
        refine lv_iload_n hx hb dX6_remember_59 rfl (lv_at hl 3 rfl) ?_
        refine lv_iadd hx hb dX6_remember_60 ?_
        refine lv_iload_n hx hb dX6_remember_61 rfl (lv_at hl 4 rfl) ?_
        obtain ⟨g9, h_g9, hf⟩ := k_bind hf
        obtain ⟨M10, e_M10, hf⟩ := k_nm hf
        refine k_ast (M1 := M10) X I h_g9 3 dwG_3 dX6_remember_62 (dwA_2.trans (congrArg (dw q aI) e_M10)) (fun H locs I => ?_)
        refine lv_iload hx hb dX6_remember_63 (lv_at hl 0 rfl) ?_
        exact k_iret X I hr hlocks dX6_remember_65 hf
      · rw [if_pos c7] at hf
        refine lv_bipush (v := (-102)) hx hb dX6_remember_37 (by decide) ?_
        exact k_iret X I hr hlocks dX6_remember_39 hf
  · rw [if_pos c2] at hf
    refine lv_bipush (v := (-101)) hx hb dX6_remember_8 (by decide) ?_
    exact k_iret X I hr hlocks dX6_remember_10 hf
/-! LostTentModel.lacks()Z -/
abbrev rm_X6_lacks : Room := { frames := 0, cells := 0, slots := 0, locals := 0 }
def f_X6_lacks (M : xM) : Option Int32 :=
  if (M.1 2) = 0 then
    xbo (1 : Int32)
  else
    xbo (0 : Int32)
set_option maxRecDepth 100000 in
set_option maxHeartbeats 8000000 in
theorem c_X6_lacks {l : Launch} {D : va_G} {aI : ClassId} {q t : Nat → Nat} {M : xM} {r : Int32} (hf : f_X6_lacks M = some r) : kM l yX6_lacks (wk yX6_lacks cX6_lacks 1 (some .boolean)) rm_X6_lacks (dw q aI) D aI t [.ref (q 0)] M (some (.int r)) M := by
  refine kM_of (by decide) (Nat.le_of_ble_eq_true rfl) ?_
  intro p e s m args below meth c A ls X hr hlocks hl I
  have hx := X.1
  have hb := X.2.1
  have hl : lv_has ls 1 [(0, .ref (q 0))] := hl
  rw [f_X6_lacks] at hf
  refine lv_aload_n hx hb dX6_lacks_0 rfl (lv_at hl 0 rfl) ?_
  refine k_get (T := TX6) (N := 27) X I inU6 0 dwG_0 rfl 3 (by decide) uw_4_2 rfl rfl dX6_lacks_1 ?_
  refine lv_if_ne (tgt := 11) hx hb dX6_lacks_4 (by decide) (fun c1 => ?_) (fun c1 => ?_)
  · rw [if_neg c1] at hf
    refine lv_iconst (v := 0) hx hb dX6_lacks_11 (by decide) ?_
    exact k_zretP X I hr hlocks dX6_lacks_12 hf
  · rw [if_pos c1] at hf
    refine lv_iconst (v := 1) hx hb dX6_lacks_7 (by decide) ?_
    refine lv_goto (tgt := 12) hx hb dX6_lacks_8 (by decide) ?_
    exact k_zretP X I hr hlocks dX6_lacks_12 hf
/-! LostTentModel.givenMany()I -/
abbrev rm_X6_givenMany : Room := { frames := 0, cells := 0, slots := 0, locals := 0 }
def f_X6_givenMany_b32 (k4 : Int32 → Int32 → xM → Option Int32) (x2 : Int32) (y0 : Int32) (y1 : Int32) (M : xM) : Option Int32 :=
  k4 (y1 + y0) (x2 + 1) M
def f_X6_givenMany_l4 : Nat → Int32 → Int32 → xM → Option Int32
  | 0, _, _, _ => none
  | n4 + 1, x1, x2, M =>
    if (M.1 2) ≤ x2 then
      some x1
    else
      (xld 20 (M.2.2 1) (((4 : Int32) * x2) + (3 : Int32))).bind fun r2 =>
      if r2 = (-1 : Int32) then
        f_X6_givenMany_b32 (f_X6_givenMany_l4 n4) x2 (0 : Int32) x1 M
      else
        f_X6_givenMany_b32 (f_X6_givenMany_l4 n4) x2 (1 : Int32) x1 M
def f_X6_givenMany (M : xM) : Option Int32 :=
  f_X6_givenMany_l4 xN (0 : Int32) (0 : Int32) M
set_option maxRecDepth 100000 in
set_option maxHeartbeats 8000000 in
theorem c_X6_givenMany {l : Launch} {D : va_G} {aI : ClassId} {q t : Nat → Nat} {M : xM} {r : Int32} (hf : f_X6_givenMany M = some r) : kM l yX6_givenMany (wk yX6_givenMany cX6_givenMany 3 (some .int)) rm_X6_givenMany (dw q aI) D aI t [.ref (q 0)] M (some (.int r)) M := by
  refine kM_of (by decide) (Nat.le_of_ble_eq_true rfl) ?_
  intro p e s m args below meth c A ls X hr hlocks hl I
  have hx := X.1
  have hb := X.2.1
  have hl : lv_has ls 3 [(0, .ref (q 0))] := hl
  have B32 : ∀ (k4 : Int32 → Int32 → xM → Option Int32), (∀ (x1 : Int32) (x2 : Int32) (H : Heap) (locs : List Loc) (ls : Array Slot), k4 x1 x2 M = some r → kI (dw q aI) D A s M H locs → lv_has ls 3 [(0, .ref (q 0)), (1, .int x1), (2, .int x2)] → W p l e rm_X6_givenMany s m args below meth c H locs 0 0 (MQ below (kQ (dw q aI) D A (some (.int r)) M) args s 0 0 A) (F0 m 4 ls [])) → ∀ (x2 : Int32) (y0 : Int32) (y1 : Int32) (H : Heap) (locs : List Loc) (ls : Array Slot), f_X6_givenMany_b32 k4 x2 y0 y1 M = some r → kI (dw q aI) D A s M H locs → lv_has ls 3 [(0, .ref (q 0)), (2, .int x2)] → W p l e rm_X6_givenMany s m args below meth c H locs 0 0 (MQ below (kQ (dw q aI) D A (some (.int r)) M) args s 0 0 A) (F0 m 32 ls [.int y0, .int y1]) := by
    intro k4 hk4 x2 y0 y1 H locs ls hf I hl
    rw [f_X6_givenMany_b32] at hf
    refine lv_iadd hx hb dX6_givenMany_32 ?_
    refine lv_istore_n (lv' := [(1, .int (y1 + y0)), (0, .ref (q 0)), (2, .int x2)]) hx hb dX6_givenMany_33 rfl hl (by decide) rfl (fun ls hl => ?_)
    refine lv_iinc (v := (x2 + 1)) (lv' := [(2, .int (x2 + 1)), (1, .int (y1 + y0)), (0, .ref (q 0))]) hx hb dX6_givenMany_34 hl (k := 2) rfl rfl (by decide) rfl (fun ls hl => ?_)
    refine lv_goto (tgt := 4) hx hb dX6_givenMany_37 (by decide) ?_
    exact hk4 (y1 + y0) (x2 + 1) _ _ ls hf I (lv_sub hl [2, 1, 0] rfl)
  have B4 : ∀ (n4 : Nat), ∀ (x1 : Int32) (x2 : Int32) (H : Heap) (locs : List Loc) (ls : Array Slot), f_X6_givenMany_l4 n4 x1 x2 M = some r → kI (dw q aI) D A s M H locs → lv_has ls 3 [(0, .ref (q 0)), (1, .int x1), (2, .int x2)] → W p l e rm_X6_givenMany s m args below meth c H locs 0 0 (MQ below (kQ (dw q aI) D A (some (.int r)) M) args s 0 0 A) (F0 m 4 ls []) := by
    intro n4
    induction n4 with
    | zero =>
      intro x1 x2 H locs ls hf I hl
      rw [f_X6_givenMany_l4] at hf
      cases hf
    | succ n4 ih4 =>
      intro x1 x2 H locs ls hf I hl
      rw [f_X6_givenMany_l4] at hf
      refine lv_iload_n hx hb dX6_givenMany_4 rfl (lv_at hl 2 rfl) ?_
      refine lv_aload_n hx hb dX6_givenMany_5 rfl (lv_at hl 0 rfl) ?_
      refine k_get (T := TX6) (N := 27) X I inU6 0 dwG_0 rfl 3 (by decide) uw_4_2 rfl rfl dX6_givenMany_6 ?_
      refine lv_icmp_ge (tgt := 40) hx hb dX6_givenMany_9 (by decide) (fun c1 => ?_) (fun c1 => ?_)
      · rw [if_pos c1] at hf
        refine lv_iload_n hx hb dX6_givenMany_40 rfl (lv_at hl 1 rfl) ?_
        exact k_iretP X I hr hlocks dX6_givenMany_41 hf
      · rw [if_neg c1] at hf
        refine lv_iload_n hx hb dX6_givenMany_12 rfl (lv_at hl 1 rfl) ?_
        refine lv_aload_n hx hb dX6_givenMany_13 rfl (lv_at hl 0 rfl) ?_
        refine k_get (T := TX6) (N := 27) X I inU6 0 dwG_0 rfl 9 (by decide) uw_4_8 rfl rfl dX6_givenMany_14 ?_
        refine lv_iconst (v := 4) hx hb dX6_givenMany_17 (by decide) ?_
        refine lv_iload_n hx hb dX6_givenMany_18 rfl (lv_at hl 2 rfl) ?_
        refine lv_imul hx hb dX6_givenMany_19 ?_
        refine lv_iconst (v := 3) hx hb dX6_givenMany_20 (by decide) ?_
        refine lv_iadd hx hb dX6_givenMany_21 ?_
        obtain ⟨r2, h_r2, hf⟩ := k_bind hf
        refine k_ald X I h_r2 2 dwG_2 dX6_givenMany_22 ?_
        refine lv_iconst (v := (-1)) hx hb dX6_givenMany_23 (by decide) ?_
        refine lv_icmp_ne (tgt := 31) hx hb dX6_givenMany_24 (by decide) (fun c3 => ?_) (fun c3 => ?_)
        · rw [if_neg c3] at hf
          refine lv_iconst (v := 1) hx hb dX6_givenMany_31 (by decide) ?_
          exact B32 (f_X6_givenMany_l4 n4) ih4 x2 (1 : Int32) x1 _ _ ls hf I (lv_sub hl [0, 2] rfl)
        · rw [if_pos c3] at hf
          refine lv_iconst (v := 0) hx hb dX6_givenMany_27 (by decide) ?_
          refine lv_goto (tgt := 32) hx hb dX6_givenMany_28 (by decide) ?_
          exact B32 (f_X6_givenMany_l4 n4) ih4 x2 (0 : Int32) x1 _ _ ls hf I (lv_sub hl [0, 2] rfl)
  rw [f_X6_givenMany] at hf
  refine lv_iconst (v := 0) hx hb dX6_givenMany_0 (by decide) ?_
  refine lv_istore_n (lv' := [(1, .int (0 : Int32)), (0, .ref (q 0))]) hx hb dX6_givenMany_1 rfl hl (by decide) rfl (fun ls hl => ?_)
  refine lv_iconst (v := 0) hx hb dX6_givenMany_2 (by decide) ?_
  refine lv_istore_n (lv' := [(2, .int (0 : Int32)), (1, .int (0 : Int32)), (0, .ref (q 0))]) hx hb dX6_givenMany_3 rfl hl (by decide) rfl (fun ls hl => ?_)
  exact B4 xN (0 : Int32) (0 : Int32) _ _ ls hf I (lv_sub hl [2, 1, 0] rfl)
/-! LostTentModel.six()I -/
abbrev rm_X6_six : Room := { frames := 1, cells := 0, slots := 0, locals := 22 }
def f_X6_six_l96 : Nat → Int32 → Int32 → xM → Option (Int32 × xM)
  | 0, _, _, _ => none
  | n96 + 1, x1, x2, Mb =>
    if (Mb.1 3) ≤ x2 then
      some (((Mb.1 2) - x1), Mb)
    else
      (xst 15 (Mb.2.2 2) (((5 : Int32) * x2) + (4 : Int32)) (-1 : Int32)).bind fun g10 =>
      nmM (xA Mb 2 g10) fun M11 =>
      (f_X6_six_l96 n96) x1 (x2 + 1) M11
def f_X6_six_l69 : Nat → Int32 → Int32 → xM → Option (Int32 × xM)
  | 0, _, _, _ => none
  | n69 + 1, x1, x2, Mb =>
    if (Mb.1 2) ≤ x2 then
      f_X6_six_l96 xN x1 (0 : Int32) Mb
    else
      (xst 20 (Mb.2.2 1) (((4 : Int32) * x2) + (3 : Int32)) (-1 : Int32)).bind fun g12 =>
      nmM (xA Mb 1 g12) fun M13 =>
      (f_X6_six_l69 n69) x1 (x2 + 1) M13
def f_X6_six (M : xM) : Option (Int32 × xM) :=
  (f_X6_lacks M).bind fun r1 =>
  if r1 = 0 then
    if (M.1 4) = (99 : Int32) then
      some ((-104 : Int32), M)
    else
      (f_X6_givenMany M).bind fun r4 =>
      nmM (xI M 4 ((M.1 4) + (1 : Int32))) fun M5 =>
      nmM (xI M5 5 ((M5.1 5) + ((M5.1 2) - r4))) fun M6 =>
      nmM (xI M6 6 ((M6.1 6) + ((M6.1 3) - r4))) fun M7 =>
      f_X6_six_l69 xN r4 (0 : Int32) M7
  else
    some ((-103 : Int32), M)
set_option maxRecDepth 100000 in
set_option maxHeartbeats 8000000 in
theorem c_X6_six {l : Launch} {D : va_G} {aI : ClassId} {q t : Nat → Nat} {M : xM} {r : Int32} {Mr : xM} (hf : f_X6_six M = some (r, Mr)) : kM l yX6_six (wk yX6_six cX6_six 3 (some .int)) rm_X6_six (dw q aI) D aI t [.ref (q 0)] M (some (.int r)) Mr := by
  refine kM_of (by decide) (Nat.le_of_ble_eq_true rfl) ?_
  intro p e s m args below meth c A ls X hr hlocks hl I
  have hx := X.1
  have hb := X.2.1
  have hl : lv_has ls 3 [(0, .ref (q 0))] := hl
  have B96 : ∀ (n96 : Nat), ∀ (x1 : Int32) (x2 : Int32) (Mb : xM) (H : Heap) (locs : List Loc) (ls : Array Slot), f_X6_six_l96 n96 x1 x2 Mb = some (r, Mr) → kI (dw q aI) D A s Mb H locs → lv_has ls 3 [(0, .ref (q 0)), (1, .int x1), (2, .int x2)] → W p l e rm_X6_six s m args below meth c H locs 0 0 (MQ below (kQ (dw q aI) D A (some (.int r)) Mr) args s 0 0 A) (F0 m 96 ls []) := by
    intro n96
    induction n96 with
    | zero =>
      intro x1 x2 Mb H locs ls hf I hl
      rw [f_X6_six_l96] at hf
      cases hf
    | succ n96 ih96 =>
      intro x1 x2 Mb H locs ls hf I hl
      rw [f_X6_six_l96] at hf
      refine lv_iload_n hx hb dX6_six_96 rfl (lv_at hl 2 rfl) ?_
      refine lv_aload_n hx hb dX6_six_97 rfl (lv_at hl 0 rfl) ?_
      refine k_get (T := TX6) (N := 27) X I inU6 0 dwG_0 rfl 4 (by decide) uw_4_3 rfl rfl dX6_six_98 ?_
      refine lv_icmp_ge (tgt := 121) hx hb dX6_six_101 (by decide) (fun c9 => ?_) (fun c9 => ?_)
      · rw [if_pos c9] at hf
        refine lv_aload_n hx hb dX6_six_121 rfl (lv_at hl 0 rfl) ?_
        refine k_get (T := TX6) (N := 27) X I inU6 0 dwG_0 rfl 3 (by decide) uw_4_2 rfl rfl dX6_six_122 ?_
        refine lv_iload_n hx hb dX6_six_125 rfl (lv_at hl 1 rfl) ?_
        refine lv_isub hx hb dX6_six_126 ?_
        exact k_iret X I hr hlocks dX6_six_127 hf
      · rw [if_neg c9] at hf
        refine lv_aload_n hx hb dX6_six_104 rfl (lv_at hl 0 rfl) ?_
        refine k_get (T := TX6) (N := 27) X I inU6 0 dwG_0 rfl 10 (by decide) uw_4_9 rfl rfl dX6_six_105 ?_
        refine lv_iconst (v := 5) hx hb dX6_six_108 (by decide) ?_
        refine lv_iload_n hx hb dX6_six_109 rfl (lv_at hl 2 rfl) ?_
        refine lv_imul hx hb dX6_six_110 ?_
        refine lv_iconst (v := 4) hx hb dX6_six_111 (by decide) ?_
        refine lv_iadd hx hb dX6_six_112 ?_
        refine lv_iconst (v := (-1)) hx hb dX6_six_113 (by decide) ?_
        obtain ⟨g10, h_g10, hf⟩ := k_bind hf
        obtain ⟨M11, e_M11, hf⟩ := k_nm hf
        refine k_ast (M1 := M11) X I h_g10 3 dwG_3 dX6_six_114 (dwA_2.trans (congrArg (dw q aI) e_M11)) (fun H locs I => ?_)
        refine lv_iinc (v := (x2 + 1)) (lv' := [(2, .int (x2 + 1)), (0, .ref (q 0)), (1, .int x1)]) hx hb dX6_six_115 hl (k := 2) rfl rfl (by decide) rfl (fun ls hl => ?_)
        refine lv_goto (tgt := 96) hx hb dX6_six_118 (by decide) ?_
        exact ih96 x1 (x2 + 1) M11 _ _ ls hf I (lv_sub hl [1, 2, 0] rfl)
  have B69 : ∀ (n69 : Nat), ∀ (x1 : Int32) (x2 : Int32) (Mb : xM) (H : Heap) (locs : List Loc) (ls : Array Slot), f_X6_six_l69 n69 x1 x2 Mb = some (r, Mr) → kI (dw q aI) D A s Mb H locs → lv_has ls 3 [(0, .ref (q 0)), (1, .int x1), (2, .int x2)] → W p l e rm_X6_six s m args below meth c H locs 0 0 (MQ below (kQ (dw q aI) D A (some (.int r)) Mr) args s 0 0 A) (F0 m 69 ls []) := by
    intro n69
    induction n69 with
    | zero =>
      intro x1 x2 Mb H locs ls hf I hl
      rw [f_X6_six_l69] at hf
      cases hf
    | succ n69 ih69 =>
      intro x1 x2 Mb H locs ls hf I hl
      rw [f_X6_six_l69] at hf
      refine lv_iload_n hx hb dX6_six_69 rfl (lv_at hl 2 rfl) ?_
      refine lv_aload_n hx hb dX6_six_70 rfl (lv_at hl 0 rfl) ?_
      refine k_get (T := TX6) (N := 27) X I inU6 0 dwG_0 rfl 3 (by decide) uw_4_2 rfl rfl dX6_six_71 ?_
      refine lv_icmp_ge (tgt := 94) hx hb dX6_six_74 (by decide) (fun c8 => ?_) (fun c8 => ?_)
      · rw [if_pos c8] at hf
        refine lv_iconst (v := 0) hx hb dX6_six_94 (by decide) ?_
        refine lv_istore_n (lv' := [(2, .int (0 : Int32)), (0, .ref (q 0)), (1, .int x1)]) hx hb dX6_six_95 rfl hl (by decide) rfl (fun ls hl => ?_)
        exact B96 xN x1 (0 : Int32) Mb _ _ ls hf I (lv_sub hl [1, 2, 0] rfl)
      · rw [if_neg c8] at hf
        refine lv_aload_n hx hb dX6_six_77 rfl (lv_at hl 0 rfl) ?_
        refine k_get (T := TX6) (N := 27) X I inU6 0 dwG_0 rfl 9 (by decide) uw_4_8 rfl rfl dX6_six_78 ?_
        refine lv_iconst (v := 4) hx hb dX6_six_81 (by decide) ?_
        refine lv_iload_n hx hb dX6_six_82 rfl (lv_at hl 2 rfl) ?_
        refine lv_imul hx hb dX6_six_83 ?_
        refine lv_iconst (v := 3) hx hb dX6_six_84 (by decide) ?_
        refine lv_iadd hx hb dX6_six_85 ?_
        refine lv_iconst (v := (-1)) hx hb dX6_six_86 (by decide) ?_
        obtain ⟨g12, h_g12, hf⟩ := k_bind hf
        obtain ⟨M13, e_M13, hf⟩ := k_nm hf
        refine k_ast (M1 := M13) X I h_g12 2 dwG_2 dX6_six_87 (dwA_1.trans (congrArg (dw q aI) e_M13)) (fun H locs I => ?_)
        refine lv_iinc (v := (x2 + 1)) (lv' := [(2, .int (x2 + 1)), (0, .ref (q 0)), (1, .int x1)]) hx hb dX6_six_88 hl (k := 2) rfl rfl (by decide) rfl (fun ls hl => ?_)
        refine lv_goto (tgt := 69) hx hb dX6_six_91 (by decide) ?_
        exact ih69 x1 (x2 + 1) M13 _ _ ls hf I (lv_sub hl [1, 2, 0] rfl)
  rw [f_X6_six] at hf
  refine lv_aload_n hx hb dX6_six_0 rfl (lv_at hl 0 rfl) ?_
  obtain ⟨r1, h_r1, hf⟩ := k_bind hf
  refine k_callV (n := 0) (As := []) (rest := []) X I (c_X6_lacks h_r1) uw_4_201 uw_4_203 us_28 uw_1_7 uw_4_204 ⟨rfl, rfl⟩ (by decide +kernel) rfl ⟨Nat.le_of_ble_eq_true rfl, Nat.le_of_ble_eq_true rfl⟩ ⟨Nat.le_of_ble_eq_true rfl, Nat.le_of_ble_eq_true rfl⟩ 0 dwG_0 rfl hl.1 rfl (Nat.le_of_ble_eq_true rfl) dX6_six_1 (st1 := [.int r1]) rfl (fun H locs I => ?_)
  refine lv_if_eq (tgt := 10) hx hb dX6_six_4 (by decide) (fun c2 => ?_) (fun c2 => ?_)
  · rw [if_pos c2] at hf
    refine lv_aload_n hx hb dX6_six_10 rfl (lv_at hl 0 rfl) ?_
    refine k_get (T := TX6) (N := 27) X I inU6 0 dwG_0 rfl 5 (by decide) uw_4_4 rfl rfl dX6_six_11 ?_
    refine lv_bipush (v := 99) hx hb dX6_six_14 (by decide) ?_
    refine lv_icmp_ne (tgt := 22) hx hb dX6_six_16 (by decide) (fun c3 => ?_) (fun c3 => ?_)
    · rw [if_neg c3] at hf
      refine lv_aload_n hx hb dX6_six_22 rfl (lv_at hl 0 rfl) ?_
      obtain ⟨r4, h_r4, hf⟩ := k_bind hf
      refine k_callV (n := 0) (As := []) (rest := []) X I (c_X6_givenMany h_r4) uw_4_205 uw_4_207 us_29 uw_1_7 uw_4_208 ⟨rfl, rfl⟩ (by decide +kernel) rfl ⟨Nat.le_of_ble_eq_true rfl, Nat.le_of_ble_eq_true rfl⟩ ⟨Nat.le_of_ble_eq_true rfl, Nat.le_of_ble_eq_true rfl⟩ 0 dwG_0 rfl hl.1 rfl (Nat.le_of_ble_eq_true rfl) dX6_six_23 (st1 := [.int r4]) rfl (fun H locs I => ?_)
      refine lv_istore_n (lv' := [(1, .int r4), (0, .ref (q 0))]) hx hb dX6_six_26 rfl hl (by decide) rfl (fun ls hl => ?_)
      refine lv_aload_n hx hb dX6_six_27 rfl (lv_at hl 1 rfl) ?_
      refine lv_dup hx hb dX6_six_28 rfl ?_
      refine k_get (T := TX6) (N := 27) X I inU6 0 dwG_0 rfl 5 (by decide) uw_4_4 rfl rfl dX6_six_29 ?_
      refine lv_iconst (v := 1) hx hb dX6_six_32 (by decide) ?_
      refine lv_iadd hx hb dX6_six_33 ?_
      obtain ⟨M5, e_M5, hf⟩ := k_nm hf
      refine k_put (T := TX6) (N := 27) (M1 := M5) X I inU6 tyX6 tyX6_ok nmX6 0 dwG_0 rfl 5 (by decide) uw_4_4 rfl rfl (tyX6_ok 5 (by decide)) rfl rfl (Nat.le_of_ble_eq_true rfl) dX6_six_34 (dwI_4.trans (congrArg (dw q aI) e_M5)) (fun H locs I => ?_)
      refine lv_aload_n hx hb dX6_six_37 rfl (lv_at hl 1 rfl) ?_
      refine lv_dup hx hb dX6_six_38 rfl ?_
      refine k_get (T := TX6) (N := 27) X I inU6 0 dwG_0 rfl 6 (by decide) uw_4_5 rfl rfl dX6_six_39 ?_
      refine lv_aload_n hx hb dX6_six_42 rfl (lv_at hl 1 rfl) ?_
      refine k_get (T := TX6) (N := 27) X I inU6 0 dwG_0 rfl 3 (by decide) uw_4_2 rfl rfl dX6_six_43 ?_
      refine lv_iload_n hx hb dX6_six_46 rfl (lv_at hl 0 rfl) ?_
      refine lv_isub hx hb dX6_six_47 ?_
      refine lv_iadd hx hb dX6_six_48 ?_
      obtain ⟨M6, e_M6, hf⟩ := k_nm hf
      refine k_put (T := TX6) (N := 27) (M1 := M6) X I inU6 tyX6 tyX6_ok nmX6 0 dwG_0 rfl 6 (by decide) uw_4_5 rfl rfl (tyX6_ok 6 (by decide)) rfl rfl (Nat.le_of_ble_eq_true rfl) dX6_six_49 (dwI_5.trans (congrArg (dw q aI) e_M6)) (fun H locs I => ?_)
      refine lv_aload_n hx hb dX6_six_52 rfl (lv_at hl 1 rfl) ?_
      refine lv_dup hx hb dX6_six_53 rfl ?_
      refine k_get (T := TX6) (N := 27) X I inU6 0 dwG_0 rfl 7 (by decide) uw_4_6 rfl rfl dX6_six_54 ?_
      refine lv_aload_n hx hb dX6_six_57 rfl (lv_at hl 1 rfl) ?_
      refine k_get (T := TX6) (N := 27) X I inU6 0 dwG_0 rfl 4 (by decide) uw_4_3 rfl rfl dX6_six_58 ?_
      refine lv_iload_n hx hb dX6_six_61 rfl (lv_at hl 0 rfl) ?_
      refine lv_isub hx hb dX6_six_62 ?_
      refine lv_iadd hx hb dX6_six_63 ?_
      obtain ⟨M7, e_M7, hf⟩ := k_nm hf
      refine k_put (T := TX6) (N := 27) (M1 := M7) X I inU6 tyX6 tyX6_ok nmX6 0 dwG_0 rfl 7 (by decide) uw_4_6 rfl rfl (tyX6_ok 7 (by decide)) rfl rfl (Nat.le_of_ble_eq_true rfl) dX6_six_64 (dwI_6.trans (congrArg (dw q aI) e_M7)) (fun H locs I => ?_)
      refine lv_iconst (v := 0) hx hb dX6_six_67 (by decide) ?_
      refine lv_istore_n (lv' := [(2, .int (0 : Int32)), (1, .int r4), (0, .ref (q 0))]) hx hb dX6_six_68 rfl hl (by decide) rfl (fun ls hl => ?_)
      exact B69 xN r4 (0 : Int32) M7 _ _ ls hf I (lv_sub hl [2, 1, 0] rfl)
    · rw [if_pos c3] at hf
      refine lv_bipush (v := (-104)) hx hb dX6_six_19 (by decide) ?_
      exact k_iret X I hr hlocks dX6_six_21 hf
  · rw [if_neg c2] at hf
    refine lv_bipush (v := (-103)) hx hb dX6_six_7 (by decide) ?_
    exact k_iret X I hr hlocks dX6_six_9 hf
/-! LostTentModel.layRow(I)Z -/
abbrev rm_X6_layRow : Room := { frames := 3, cells := 0, slots := 0, locals := 72 }
def f_X6_layRow_b158 (k15 : Int32 → Int32 → Int32 → Int32 → xM → Option (Int32 × xM)) (x2 : Int32) (x3 : Int32) (x4 : Int32) (x5 : Int32) (Mb : xM) : Option (Int32 × xM) :=
  k15 x2 x3 x4 (x5 + (-1)) Mb
def f_X6_layRow_b144 (k15 : Int32 → Int32 → Int32 → Int32 → xM → Option (Int32 × xM)) (x2 : Int32) (x3 : Int32) (x5 : Int32) (y0 : Int32) (Mb : xM) : Option (Int32 × xM) :=
  (xld 3 (Mb.2.2 4) x5).bind fun r12 =>
  f_X6_layRow_b158 k15 x2 (x3 ||| ((1 : Int32) <<< (r12 &&& 31))) y0 x5 Mb
def f_X6_layRow_b143 (k15 : Int32 → Int32 → Int32 → Int32 → xM → Option (Int32 × xM)) (x2 : Int32) (x3 : Int32) (x5 : Int32) (Mb : xM) : Option (Int32 × xM) :=
  f_X6_layRow_b144 k15 x2 x3 x5 (0 : Int32) Mb
def f_X6_layRow_b97 (k15 : Int32 → Int32 → Int32 → Int32 → xM → Option (Int32 × xM)) (x2 : Int32) (x3 : Int32) (x4 : Int32) (x5 : Int32) (y0 : Int32) (Mb : xM) : Option (Int32 × xM) :=
  if x4 = 0 then
    f_X6_layRow_b143 k15 x2 x3 x5 Mb
  else
    if y0 = 0 then
      f_X6_layRow_b143 k15 x2 x3 x5 Mb
    else
      (xld 3 (Mb.2.2 4) x5).bind fun r14 =>
      (f_X6_fits r14 x5 Mb).bind fun r15 =>
      if r15 = 0 then
        f_X6_layRow_b143 k15 x2 x3 x5 Mb
      else
        (xld 3 (Mb.2.2 4) x5).bind fun r17 =>
        if ((x3 >>> (r17 &&& 31)) &&& (1 : Int32)) = 0 then
          f_X6_layRow_b144 k15 x2 x3 x5 (1 : Int32) Mb
        else
          f_X6_layRow_b143 k15 x2 x3 x5 Mb
def f_X6_layRow_b96 (k15 : Int32 → Int32 → Int32 → Int32 → xM → Option (Int32 × xM)) (x2 : Int32) (x3 : Int32) (x4 : Int32) (x5 : Int32) (Mb : xM) : Option (Int32 × xM) :=
  f_X6_layRow_b97 k15 x2 x3 x4 x5 (0 : Int32) Mb
def f_X6_layRow_l15 : Nat → Int32 → Int32 → Int32 → Int32 → xM → Option (Int32 × xM)
  | 0, _, _, _, _, _ => none
  | n15 + 1, x2, x3, x4, x5, Mb =>
    if x5 < 0 then
      (xbo x4).bind fun z => some (z, Mb)
    else
      (xrm x2 ((Mb.1 2) + (1 : Int32))).bind fun r2 =>
      (xst 3 (Mb.2.2 4) x5 (r2 - (1 : Int32))).bind fun g3 =>
      nmM (xA Mb 4 g3) fun M4 =>
      (xdv x2 ((M4.1 2) + (1 : Int32))).bind fun r5 =>
      (xld 3 (M4.2.2 4) x5).bind fun r6 =>
      if r6 = (-1 : Int32) then
        f_X6_layRow_b158 (f_X6_layRow_l15 n15) r5 x3 x4 x5 M4
      else
        (xld 3 (M4.2.2 4) x5).bind fun r8 =>
        (xld 20 (M4.2.2 1) (((4 : Int32) * r8) + (3 : Int32))).bind fun r9 =>
        if r9 = (-1 : Int32) then
          (xld 15 (M4.2.2 2) (((5 : Int32) * x5) + (4 : Int32))).bind fun r19 =>
          if r19 = (-1 : Int32) then
            f_X6_layRow_b97 (f_X6_layRow_l15 n15) r5 x3 x4 x5 (1 : Int32) M4
          else
            f_X6_layRow_b96 (f_X6_layRow_l15 n15) r5 x3 x4 x5 M4
        else
          f_X6_layRow_b96 (f_X6_layRow_l15 n15) r5 x3 x4 x5 M4
def f_X6_layRow (x1 : Int32) (M : xM) : Option (Int32 × xM) :=
  f_X6_layRow_l15 xN x1 (0 : Int32) (1 : Int32) ((M.1 3) - (1 : Int32)) M
set_option maxRecDepth 100000 in
set_option maxHeartbeats 8000000 in
theorem c_X6_layRow {l : Launch} {D : va_G} {aI : ClassId} {q t : Nat → Nat} {x1 : Int32} {M : xM} {r : Int32} {Mr : xM} (hf : f_X6_layRow x1 M = some (r, Mr)) : kM l yX6_layRow (wk yX6_layRow cX6_layRow 7 (some .boolean)) rm_X6_layRow (dw q aI) D aI t [.ref (q 0), .int x1] M (some (.int r)) Mr := by
  refine kM_of (by decide) (Nat.le_of_ble_eq_true rfl) ?_
  intro p e s m args below meth c A ls X hr hlocks hl I
  have hx := X.1
  have hb := X.2.1
  have hl : lv_has ls 7 [(0, .ref (q 0)), (1, .int x1)] := hl
  have B158 : ∀ (k15 : Int32 → Int32 → Int32 → Int32 → xM → Option (Int32 × xM)), (∀ (x2 : Int32) (x3 : Int32) (x4 : Int32) (x5 : Int32) (Mb : xM) (H : Heap) (locs : List Loc) (ls : Array Slot), k15 x2 x3 x4 x5 Mb = some (r, Mr) → kI (dw q aI) D A s Mb H locs → lv_has ls 7 [(0, .ref (q 0)), (2, .int x2), (3, .int x3), (4, .int x4), (5, .int x5)] → W p l e rm_X6_layRow s m args below meth c H locs 0 0 (MQ below (kQ (dw q aI) D A (some (.int r)) Mr) args s 0 0 A) (F0 m 15 ls [])) → ∀ (x2 : Int32) (x3 : Int32) (x4 : Int32) (x5 : Int32) (Mb : xM) (H : Heap) (locs : List Loc) (ls : Array Slot), f_X6_layRow_b158 k15 x2 x3 x4 x5 Mb = some (r, Mr) → kI (dw q aI) D A s Mb H locs → lv_has ls 7 [(0, .ref (q 0)), (2, .int x2), (3, .int x3), (4, .int x4), (5, .int x5)] → W p l e rm_X6_layRow s m args below meth c H locs 0 0 (MQ below (kQ (dw q aI) D A (some (.int r)) Mr) args s 0 0 A) (F0 m 158 ls []) := by
    intro k15 hk15 x2 x3 x4 x5 Mb H locs ls hf I hl
    rw [f_X6_layRow_b158] at hf
    refine lv_iinc (v := (x5 + (-1))) (lv' := [(5, .int (x5 + (-1))), (0, .ref (q 0)), (2, .int x2), (3, .int x3), (4, .int x4)]) hx hb dX6_layRow_158 hl (k := 4) rfl (congrArg (fun z => x5 + z) (by decide)) (by decide) rfl (fun ls hl => ?_)
    refine lv_goto (tgt := 15) hx hb dX6_layRow_161 (by decide) ?_
    exact hk15 x2 x3 x4 (x5 + (-1)) Mb _ _ ls hf I (lv_sub hl [1, 2, 3, 4, 0] rfl)
  have B144 : ∀ (k15 : Int32 → Int32 → Int32 → Int32 → xM → Option (Int32 × xM)), (∀ (x2 : Int32) (x3 : Int32) (x4 : Int32) (x5 : Int32) (Mb : xM) (H : Heap) (locs : List Loc) (ls : Array Slot), k15 x2 x3 x4 x5 Mb = some (r, Mr) → kI (dw q aI) D A s Mb H locs → lv_has ls 7 [(0, .ref (q 0)), (2, .int x2), (3, .int x3), (4, .int x4), (5, .int x5)] → W p l e rm_X6_layRow s m args below meth c H locs 0 0 (MQ below (kQ (dw q aI) D A (some (.int r)) Mr) args s 0 0 A) (F0 m 15 ls [])) → ∀ (x2 : Int32) (x3 : Int32) (x5 : Int32) (y0 : Int32) (Mb : xM) (H : Heap) (locs : List Loc) (ls : Array Slot), f_X6_layRow_b144 k15 x2 x3 x5 y0 Mb = some (r, Mr) → kI (dw q aI) D A s Mb H locs → lv_has ls 7 [(0, .ref (q 0)), (2, .int x2), (3, .int x3), (5, .int x5)] → W p l e rm_X6_layRow s m args below meth c H locs 0 0 (MQ below (kQ (dw q aI) D A (some (.int r)) Mr) args s 0 0 A) (F0 m 144 ls [.int y0]) := by
    intro k15 hk15 x2 x3 x5 y0 Mb H locs ls hf I hl
    rw [f_X6_layRow_b144] at hf
    refine lv_istore (lv' := [(4, .int y0), (0, .ref (q 0)), (2, .int x2), (3, .int x3), (5, .int x5)]) hx hb dX6_layRow_144 hl (by decide) rfl (fun ls hl => ?_)
    refine lv_iload_n hx hb dX6_layRow_146 rfl (lv_at hl 3 rfl) ?_
    refine lv_iconst (v := 1) hx hb dX6_layRow_147 (by decide) ?_
    refine lv_aload_n hx hb dX6_layRow_148 rfl (lv_at hl 1 rfl) ?_
    refine k_get (T := TX6) (N := 27) X I inU6 0 dwG_0 rfl 12 (by decide) uw_4_11 rfl rfl dX6_layRow_149 ?_
    refine lv_iload hx hb dX6_layRow_152 (lv_at hl 4 rfl) ?_
    obtain ⟨r12, h_r12, hf⟩ := k_bind hf
    refine k_ald X I h_r12 5 dwG_5 dX6_layRow_154 ?_
    refine lv_ishl hx hb dX6_layRow_155 ?_
    refine lv_ior hx hb dX6_layRow_156 ?_
    refine lv_istore_n (lv' := [(3, .int (x3 ||| ((1 : Int32) <<< (r12 &&& 31)))), (4, .int y0), (0, .ref (q 0)), (2, .int x2), (5, .int x5)]) hx hb dX6_layRow_157 rfl hl (by decide) rfl (fun ls hl => ?_)
    exact B158 k15 hk15 x2 (x3 ||| ((1 : Int32) <<< (r12 &&& 31))) y0 x5 Mb _ _ ls hf I (lv_sub hl [2, 3, 0, 1, 4] rfl)
  have B143 : ∀ (k15 : Int32 → Int32 → Int32 → Int32 → xM → Option (Int32 × xM)), (∀ (x2 : Int32) (x3 : Int32) (x4 : Int32) (x5 : Int32) (Mb : xM) (H : Heap) (locs : List Loc) (ls : Array Slot), k15 x2 x3 x4 x5 Mb = some (r, Mr) → kI (dw q aI) D A s Mb H locs → lv_has ls 7 [(0, .ref (q 0)), (2, .int x2), (3, .int x3), (4, .int x4), (5, .int x5)] → W p l e rm_X6_layRow s m args below meth c H locs 0 0 (MQ below (kQ (dw q aI) D A (some (.int r)) Mr) args s 0 0 A) (F0 m 15 ls [])) → ∀ (x2 : Int32) (x3 : Int32) (x5 : Int32) (Mb : xM) (H : Heap) (locs : List Loc) (ls : Array Slot), f_X6_layRow_b143 k15 x2 x3 x5 Mb = some (r, Mr) → kI (dw q aI) D A s Mb H locs → lv_has ls 7 [(0, .ref (q 0)), (2, .int x2), (3, .int x3), (5, .int x5)] → W p l e rm_X6_layRow s m args below meth c H locs 0 0 (MQ below (kQ (dw q aI) D A (some (.int r)) Mr) args s 0 0 A) (F0 m 143 ls []) := by
    intro k15 hk15 x2 x3 x5 Mb H locs ls hf I hl
    rw [f_X6_layRow_b143] at hf
    refine lv_iconst (v := 0) hx hb dX6_layRow_143 (by decide) ?_
    exact B144 k15 hk15 x2 x3 x5 (0 : Int32) Mb _ _ ls hf I (lv_sub hl [0, 1, 2, 3] rfl)
  have B97 : ∀ (k15 : Int32 → Int32 → Int32 → Int32 → xM → Option (Int32 × xM)), (∀ (x2 : Int32) (x3 : Int32) (x4 : Int32) (x5 : Int32) (Mb : xM) (H : Heap) (locs : List Loc) (ls : Array Slot), k15 x2 x3 x4 x5 Mb = some (r, Mr) → kI (dw q aI) D A s Mb H locs → lv_has ls 7 [(0, .ref (q 0)), (2, .int x2), (3, .int x3), (4, .int x4), (5, .int x5)] → W p l e rm_X6_layRow s m args below meth c H locs 0 0 (MQ below (kQ (dw q aI) D A (some (.int r)) Mr) args s 0 0 A) (F0 m 15 ls [])) → ∀ (x2 : Int32) (x3 : Int32) (x4 : Int32) (x5 : Int32) (y0 : Int32) (Mb : xM) (H : Heap) (locs : List Loc) (ls : Array Slot), f_X6_layRow_b97 k15 x2 x3 x4 x5 y0 Mb = some (r, Mr) → kI (dw q aI) D A s Mb H locs → lv_has ls 7 [(0, .ref (q 0)), (2, .int x2), (3, .int x3), (4, .int x4), (5, .int x5)] → W p l e rm_X6_layRow s m args below meth c H locs 0 0 (MQ below (kQ (dw q aI) D A (some (.int r)) Mr) args s 0 0 A) (F0 m 97 ls [.int y0]) := by
    intro k15 hk15 x2 x3 x4 x5 y0 Mb H locs ls hf I hl
    rw [f_X6_layRow_b97] at hf
    refine lv_istore (lv' := [(6, .int y0), (0, .ref (q 0)), (2, .int x2), (3, .int x3), (4, .int x4), (5, .int x5)]) hx hb dX6_layRow_97 hl (by decide) rfl (fun ls hl => ?_)
    refine lv_iload hx hb dX6_layRow_99 (lv_at hl 4 rfl) ?_
    refine lv_if_eq (tgt := 143) hx hb dX6_layRow_101 (by decide) (fun c11 => ?_) (fun c11 => ?_)
    · rw [if_pos c11] at hf
      exact B143 k15 hk15 x2 x3 x5 Mb _ _ ls hf I (lv_sub hl [1, 2, 3, 5] rfl)
    · rw [if_neg c11] at hf
      refine lv_iload hx hb dX6_layRow_104 (lv_at hl 0 rfl) ?_
      refine lv_if_eq (tgt := 143) hx hb dX6_layRow_106 (by decide) (fun c13 => ?_) (fun c13 => ?_)
      · rw [if_pos c13] at hf
        exact B143 k15 hk15 x2 x3 x5 Mb _ _ ls hf I (lv_sub hl [1, 2, 3, 5] rfl)
      · rw [if_neg c13] at hf
        refine lv_aload_n hx hb dX6_layRow_109 rfl (lv_at hl 1 rfl) ?_
        refine lv_aload_n hx hb dX6_layRow_110 rfl (lv_at hl 1 rfl) ?_
        refine k_get (T := TX6) (N := 27) X I inU6 0 dwG_0 rfl 12 (by decide) uw_4_11 rfl rfl dX6_layRow_111 ?_
        refine lv_iload hx hb dX6_layRow_114 (lv_at hl 5 rfl) ?_
        obtain ⟨r14, h_r14, hf⟩ := k_bind hf
        refine k_ald X I h_r14 5 dwG_5 dX6_layRow_116 ?_
        refine lv_iload hx hb dX6_layRow_117 (lv_at hl 5 rfl) ?_
        obtain ⟨r15, h_r15, hf⟩ := k_bind hf
        refine k_callV (n := 2) (As := [.int r14, .int x5]) (rest := []) X I (c_X6_fits h_r15) uw_4_131 uw_4_133 us_18 uw_1_7 uw_4_134 ⟨rfl, rfl⟩ (by decide +kernel) rfl ⟨Nat.le_of_ble_eq_true rfl, Nat.le_of_ble_eq_true rfl⟩ ⟨Nat.le_of_ble_eq_true rfl, Nat.le_of_ble_eq_true rfl⟩ 0 dwG_0 rfl hl.1 rfl (Nat.le_of_ble_eq_true rfl) dX6_layRow_119 (st1 := [.int r15]) rfl (fun H locs I => ?_)
        refine lv_if_eq (tgt := 143) hx hb dX6_layRow_122 (by decide) (fun c16 => ?_) (fun c16 => ?_)
        · rw [if_pos c16] at hf
          exact B143 k15 hk15 x2 x3 x5 Mb _ _ ls hf I (lv_sub hl [1, 2, 3, 5] rfl)
        · rw [if_neg c16] at hf
          refine lv_iload_n hx hb dX6_layRow_125 rfl (lv_at hl 3 rfl) ?_
          refine lv_aload_n hx hb dX6_layRow_126 rfl (lv_at hl 1 rfl) ?_
          refine k_get (T := TX6) (N := 27) X I inU6 0 dwG_0 rfl 12 (by decide) uw_4_11 rfl rfl dX6_layRow_127 ?_
          refine lv_iload hx hb dX6_layRow_130 (lv_at hl 5 rfl) ?_
          obtain ⟨r17, h_r17, hf⟩ := k_bind hf
          refine k_ald X I h_r17 5 dwG_5 dX6_layRow_132 ?_
          refine lv_ishr hx hb dX6_layRow_133 ?_
          refine lv_iconst (v := 1) hx hb dX6_layRow_134 (by decide) ?_
          refine lv_iand hx hb dX6_layRow_135 ?_
          refine lv_if_ne (tgt := 143) hx hb dX6_layRow_136 (by decide) (fun c18 => ?_) (fun c18 => ?_)
          · rw [if_neg c18] at hf
            exact B143 k15 hk15 x2 x3 x5 Mb _ _ ls hf I (lv_sub hl [1, 2, 3, 5] rfl)
          · rw [if_pos c18] at hf
            refine lv_iconst (v := 1) hx hb dX6_layRow_139 (by decide) ?_
            refine lv_goto (tgt := 144) hx hb dX6_layRow_140 (by decide) ?_
            exact B144 k15 hk15 x2 x3 x5 (1 : Int32) Mb _ _ ls hf I (lv_sub hl [1, 2, 3, 5] rfl)
  have B96 : ∀ (k15 : Int32 → Int32 → Int32 → Int32 → xM → Option (Int32 × xM)), (∀ (x2 : Int32) (x3 : Int32) (x4 : Int32) (x5 : Int32) (Mb : xM) (H : Heap) (locs : List Loc) (ls : Array Slot), k15 x2 x3 x4 x5 Mb = some (r, Mr) → kI (dw q aI) D A s Mb H locs → lv_has ls 7 [(0, .ref (q 0)), (2, .int x2), (3, .int x3), (4, .int x4), (5, .int x5)] → W p l e rm_X6_layRow s m args below meth c H locs 0 0 (MQ below (kQ (dw q aI) D A (some (.int r)) Mr) args s 0 0 A) (F0 m 15 ls [])) → ∀ (x2 : Int32) (x3 : Int32) (x4 : Int32) (x5 : Int32) (Mb : xM) (H : Heap) (locs : List Loc) (ls : Array Slot), f_X6_layRow_b96 k15 x2 x3 x4 x5 Mb = some (r, Mr) → kI (dw q aI) D A s Mb H locs → lv_has ls 7 [(0, .ref (q 0)), (2, .int x2), (3, .int x3), (4, .int x4), (5, .int x5)] → W p l e rm_X6_layRow s m args below meth c H locs 0 0 (MQ below (kQ (dw q aI) D A (some (.int r)) Mr) args s 0 0 A) (F0 m 96 ls []) := by
    intro k15 hk15 x2 x3 x4 x5 Mb H locs ls hf I hl
    rw [f_X6_layRow_b96] at hf
    refine lv_iconst (v := 0) hx hb dX6_layRow_96 (by decide) ?_
    exact B97 k15 hk15 x2 x3 x4 x5 (0 : Int32) Mb _ _ ls hf I (lv_sub hl [0, 1, 2, 3, 4] rfl)
  have B15 : ∀ (n15 : Nat), ∀ (x2 : Int32) (x3 : Int32) (x4 : Int32) (x5 : Int32) (Mb : xM) (H : Heap) (locs : List Loc) (ls : Array Slot), f_X6_layRow_l15 n15 x2 x3 x4 x5 Mb = some (r, Mr) → kI (dw q aI) D A s Mb H locs → lv_has ls 7 [(0, .ref (q 0)), (2, .int x2), (3, .int x3), (4, .int x4), (5, .int x5)] → W p l e rm_X6_layRow s m args below meth c H locs 0 0 (MQ below (kQ (dw q aI) D A (some (.int r)) Mr) args s 0 0 A) (F0 m 15 ls []) := by
    intro n15
    induction n15 with
    | zero =>
      intro x2 x3 x4 x5 Mb H locs ls hf I hl
      rw [f_X6_layRow_l15] at hf
      cases hf
    | succ n15 ih15 =>
      intro x2 x3 x4 x5 Mb H locs ls hf I hl
      rw [f_X6_layRow_l15] at hf
      refine lv_iload hx hb dX6_layRow_15 (lv_at hl 4 rfl) ?_
      refine lv_if_lt (tgt := 164) hx hb dX6_layRow_17 (by decide) (fun c1 => ?_) (fun c1 => ?_)
      · rw [if_pos c1] at hf
        refine lv_iload hx hb dX6_layRow_164 (lv_at hl 3 rfl) ?_
        exact k_zret X I hr hlocks dX6_layRow_166 hf
      · rw [if_neg c1] at hf
        refine lv_aload_n hx hb dX6_layRow_20 rfl (lv_at hl 0 rfl) ?_
        refine k_get (T := TX6) (N := 27) X I inU6 0 dwG_0 rfl 12 (by decide) uw_4_11 rfl rfl dX6_layRow_21 ?_
        refine lv_iload hx hb dX6_layRow_24 (lv_at hl 4 rfl) ?_
        refine lv_iload_n hx hb dX6_layRow_26 rfl (lv_at hl 1 rfl) ?_
        refine lv_aload_n hx hb dX6_layRow_27 rfl (lv_at hl 0 rfl) ?_
        refine k_get (T := TX6) (N := 27) X I inU6 0 dwG_0 rfl 3 (by decide) uw_4_2 rfl rfl dX6_layRow_28 ?_
        refine lv_iconst (v := 1) hx hb dX6_layRow_31 (by decide) ?_
        refine lv_iadd hx hb dX6_layRow_32 ?_
        obtain ⟨r2, h_r2, hf⟩ := k_bind hf
        refine k_irem X h_r2 dX6_layRow_33 ?_
        refine lv_iconst (v := 1) hx hb dX6_layRow_34 (by decide) ?_
        refine lv_isub hx hb dX6_layRow_35 ?_
        obtain ⟨g3, h_g3, hf⟩ := k_bind hf
        obtain ⟨M4, e_M4, hf⟩ := k_nm hf
        refine k_ast (M1 := M4) X I h_g3 5 dwG_5 dX6_layRow_36 (dwA_4.trans (congrArg (dw q aI) e_M4)) (fun H locs I => ?_)
        refine lv_iload_n hx hb dX6_layRow_37 rfl (lv_at hl 1 rfl) ?_
        refine lv_aload_n hx hb dX6_layRow_38 rfl (lv_at hl 0 rfl) ?_
        refine k_get (T := TX6) (N := 27) X I inU6 0 dwG_0 rfl 3 (by decide) uw_4_2 rfl rfl dX6_layRow_39 ?_
        refine lv_iconst (v := 1) hx hb dX6_layRow_42 (by decide) ?_
        refine lv_iadd hx hb dX6_layRow_43 ?_
        obtain ⟨r5, h_r5, hf⟩ := k_bind hf
        refine k_idiv X h_r5 dX6_layRow_44 ?_
        refine lv_istore_n (lv' := [(2, .int r5), (0, .ref (q 0)), (3, .int x3), (4, .int x4), (5, .int x5)]) hx hb dX6_layRow_45 rfl hl (by decide) rfl (fun ls hl => ?_)
        refine lv_aload_n hx hb dX6_layRow_46 rfl (lv_at hl 1 rfl) ?_
        refine k_get (T := TX6) (N := 27) X I inU6 0 dwG_0 rfl 12 (by decide) uw_4_11 rfl rfl dX6_layRow_47 ?_
        refine lv_iload hx hb dX6_layRow_50 (lv_at hl 4 rfl) ?_
        obtain ⟨r6, h_r6, hf⟩ := k_bind hf
        refine k_ald X I h_r6 5 dwG_5 dX6_layRow_52 ?_
        refine lv_iconst (v := (-1)) hx hb dX6_layRow_53 (by decide) ?_
        refine lv_icmp_eq (tgt := 158) hx hb dX6_layRow_54 (by decide) (fun c7 => ?_) (fun c7 => ?_)
        · rw [if_pos c7] at hf
          exact B158 (f_X6_layRow_l15 n15) ih15 r5 x3 x4 x5 M4 _ _ ls hf I (lv_sub hl [1, 0, 2, 3, 4] rfl)
        · rw [if_neg c7] at hf
          refine lv_aload_n hx hb dX6_layRow_57 rfl (lv_at hl 1 rfl) ?_
          refine k_get (T := TX6) (N := 27) X I inU6 0 dwG_0 rfl 9 (by decide) uw_4_8 rfl rfl dX6_layRow_58 ?_
          refine lv_iconst (v := 4) hx hb dX6_layRow_61 (by decide) ?_
          refine lv_aload_n hx hb dX6_layRow_62 rfl (lv_at hl 1 rfl) ?_
          refine k_get (T := TX6) (N := 27) X I inU6 0 dwG_0 rfl 12 (by decide) uw_4_11 rfl rfl dX6_layRow_63 ?_
          refine lv_iload hx hb dX6_layRow_66 (lv_at hl 4 rfl) ?_
          obtain ⟨r8, h_r8, hf⟩ := k_bind hf
          refine k_ald X I h_r8 5 dwG_5 dX6_layRow_68 ?_
          refine lv_imul hx hb dX6_layRow_69 ?_
          refine lv_iconst (v := 3) hx hb dX6_layRow_70 (by decide) ?_
          refine lv_iadd hx hb dX6_layRow_71 ?_
          obtain ⟨r9, h_r9, hf⟩ := k_bind hf
          refine k_ald X I h_r9 2 dwG_2 dX6_layRow_72 ?_
          refine lv_iconst (v := (-1)) hx hb dX6_layRow_73 (by decide) ?_
          refine lv_icmp_ne (tgt := 96) hx hb dX6_layRow_74 (by decide) (fun c10 => ?_) (fun c10 => ?_)
          · rw [if_neg c10] at hf
            exact B96 (f_X6_layRow_l15 n15) ih15 r5 x3 x4 x5 M4 _ _ ls hf I (lv_sub hl [1, 0, 2, 3, 4] rfl)
          · rw [if_pos c10] at hf
            refine lv_aload_n hx hb dX6_layRow_77 rfl (lv_at hl 1 rfl) ?_
            refine k_get (T := TX6) (N := 27) X I inU6 0 dwG_0 rfl 10 (by decide) uw_4_9 rfl rfl dX6_layRow_78 ?_
            refine lv_iconst (v := 5) hx hb dX6_layRow_81 (by decide) ?_
            refine lv_iload hx hb dX6_layRow_82 (lv_at hl 4 rfl) ?_
            refine lv_imul hx hb dX6_layRow_84 ?_
            refine lv_iconst (v := 4) hx hb dX6_layRow_85 (by decide) ?_
            refine lv_iadd hx hb dX6_layRow_86 ?_
            obtain ⟨r19, h_r19, hf⟩ := k_bind hf
            refine k_ald X I h_r19 3 dwG_3 dX6_layRow_87 ?_
            refine lv_iconst (v := (-1)) hx hb dX6_layRow_88 (by decide) ?_
            refine lv_icmp_ne (tgt := 96) hx hb dX6_layRow_89 (by decide) (fun c20 => ?_) (fun c20 => ?_)
            · rw [if_neg c20] at hf
              exact B96 (f_X6_layRow_l15 n15) ih15 r5 x3 x4 x5 M4 _ _ ls hf I (lv_sub hl [1, 0, 2, 3, 4] rfl)
            · rw [if_pos c20] at hf
              refine lv_iconst (v := 1) hx hb dX6_layRow_92 (by decide) ?_
              refine lv_goto (tgt := 97) hx hb dX6_layRow_93 (by decide) ?_
              exact B97 (f_X6_layRow_l15 n15) ih15 r5 x3 x4 x5 (1 : Int32) M4 _ _ ls hf I (lv_sub hl [1, 0, 2, 3, 4] rfl)
  rw [f_X6_layRow] at hf
  refine lv_iload_n hx hb dX6_layRow_0 rfl (lv_at hl 1 rfl) ?_
  refine lv_istore_n (lv' := [(2, .int x1), (0, .ref (q 0)), (1, .int x1)]) hx hb dX6_layRow_1 rfl hl (by decide) rfl (fun ls hl => ?_)
  refine lv_iconst (v := 0) hx hb dX6_layRow_2 (by decide) ?_
  refine lv_istore_n (lv' := [(3, .int (0 : Int32)), (2, .int x1), (0, .ref (q 0)), (1, .int x1)]) hx hb dX6_layRow_3 rfl hl (by decide) rfl (fun ls hl => ?_)
  refine lv_iconst (v := 1) hx hb dX6_layRow_4 (by decide) ?_
  refine lv_istore (lv' := [(4, .int (1 : Int32)), (3, .int (0 : Int32)), (2, .int x1), (0, .ref (q 0)), (1, .int x1)]) hx hb dX6_layRow_5 hl (by decide) rfl (fun ls hl => ?_)
  refine lv_aload_n hx hb dX6_layRow_7 rfl (lv_at hl 3 rfl) ?_
  refine k_get (T := TX6) (N := 27) X I inU6 0 dwG_0 rfl 4 (by decide) uw_4_3 rfl rfl dX6_layRow_8 ?_
  refine lv_iconst (v := 1) hx hb dX6_layRow_11 (by decide) ?_
  refine lv_isub hx hb dX6_layRow_12 ?_
  refine lv_istore (lv' := [(5, .int ((M.1 3) - (1 : Int32))), (4, .int (1 : Int32)), (3, .int (0 : Int32)), (2, .int x1), (0, .ref (q 0)), (1, .int x1)]) hx hb dX6_layRow_13 hl (by decide) rfl (fun ls hl => ?_)
  exact B15 xN x1 (0 : Int32) (1 : Int32) ((M.1 3) - (1 : Int32)) M _ _ ls hf I (lv_sub hl [4, 3, 2, 1, 0] rfl)
/-! LostTentModel.matchOf(I)I -/
abbrev rm_X6_matchOf : Room := { frames := 4, cells := 0, slots := 0, locals := 98 }
def f_X6_matchOf_b165 (k35 : Int32 → Int32 → Int32 → Int32 → Int32 → xM → Option (Int32 × xM)) (x1 : Int32) (x2 : Int32) (x3 : Int32) (x4 : Int32) (x5 : Int32) (Mb : xM) : Option (Int32 × xM) :=
  k35 x1 x2 x3 x4 (x5 + 1) Mb
def f_X6_matchOf_b147 (k35 : Int32 → Int32 → Int32 → Int32 → Int32 → xM → Option (Int32 × xM)) (x1 : Int32) (x2 : Int32) (x5 : Int32) (x6 : Int32) (x7 : Int32) (Mb : xM) : Option (Int32 × xM) :=
  nmM (xA Mb 5 (xc 3 3 (Mb.2.2 4) (Mb.2.2 5))) fun M12 =>
  f_X6_matchOf_b165 k35 x1 x2 x6 x7 x5 M12
def f_X6_matchOf_b119 (k35 : Int32 → Int32 → Int32 → Int32 → Int32 → xM → Option (Int32 × xM)) (k59 : Int32 → Int32 → Int32 → Int32 → Int32 → Int32 → Int32 → Int32 → xM → Option (Int32 × xM)) (x1 : Int32) (x2 : Int32) (x3 : Int32) (x4 : Int32) (x5 : Int32) (x6 : Int32) (x8 : Int32) (y0 : Int32) (y1 : Int32) (Mb : xM) : Option (Int32 × xM) :=
  k59 x1 x2 x3 x4 x5 x6 (y1 + y0) (x8 + 1) Mb
def f_X6_matchOf_b86 (k35 : Int32 → Int32 → Int32 → Int32 → Int32 → xM → Option (Int32 × xM)) (k59 : Int32 → Int32 → Int32 → Int32 → Int32 → Int32 → Int32 → Int32 → xM → Option (Int32 × xM)) (x1 : Int32) (x2 : Int32) (x3 : Int32) (x4 : Int32) (x5 : Int32) (x7 : Int32) (x8 : Int32) (y0 : Int32) (y1 : Int32) (Mb : xM) : Option (Int32 × xM) :=
  (xld 3 (Mb.2.2 4) x8).bind fun r17 =>
  if r17 = (-1 : Int32) then
    f_X6_matchOf_b119 k35 k59 x1 x2 x3 x4 x5 (y1 + y0) x8 (0 : Int32) x7 Mb
  else
    (xld 3 (Mb.2.2 4) x8).bind fun r19 =>
    (f_X6_wrongOf r19 x8 Mb).bind fun r20 =>
    f_X6_matchOf_b119 k35 k59 x1 x2 x3 x4 x5 (y1 + y0) x8 r20 x7 Mb
def f_X6_matchOf_l59 (k35 : Int32 → Int32 → Int32 → Int32 → Int32 → xM → Option (Int32 × xM)) : Nat → Int32 → Int32 → Int32 → Int32 → Int32 → Int32 → Int32 → Int32 → xM → Option (Int32 × xM)
  | 0, _, _, _, _, _, _, _, _, _ => none
  | n59 + 1, x1, x2, x3, x4, x5, x6, x7, x8, Mb =>
    if (Mb.1 3) ≤ x8 then
      if x3 < x6 then
        f_X6_matchOf_b147 k35 x1 x2 x5 x6 x7 Mb
      else
        if x6 = x3 then
          if x4 ≤ x7 then
            f_X6_matchOf_b165 k35 x1 x2 x3 x4 x5 Mb
          else
            f_X6_matchOf_b147 k35 x1 x2 x5 x6 x7 Mb
        else
          f_X6_matchOf_b165 k35 x1 x2 x3 x4 x5 Mb
    else
      (xld 3 (Mb.2.2 4) x8).bind fun r15 =>
      if r15 = (-1 : Int32) then
        f_X6_matchOf_b86 k35 (f_X6_matchOf_l59 k35 n59) x1 x2 x3 x4 x5 x7 x8 (0 : Int32) x6 Mb
      else
        f_X6_matchOf_b86 k35 (f_X6_matchOf_l59 k35 n59) x1 x2 x3 x4 x5 x7 x8 (1 : Int32) x6 Mb
def f_X6_matchOf_l35 : Nat → Int32 → Int32 → Int32 → Int32 → Int32 → xM → Option (Int32 × xM)
  | 0, _, _, _, _, _, _ => none
  | n35 + 1, x1, x2, x3, x4, x5, Mb =>
    if x2 ≤ x5 then
      if x1 = 0 then
        some (x3, Mb)
      else
        if x1 = (1 : Int32) then
          some (x4, Mb)
        else
          if (Mb.1 3) ≤ (x1 - (10 : Int32)) then
            some ((-1 : Int32), Mb)
          else
            (xld 3 (Mb.2.2 5) (x1 - (10 : Int32))).bind fun r6 =>
            some (r6, Mb)
    else
      ob2 (f_X6_layRow x5 Mb) fun r7 M8 =>
      if r7 = 0 then
        f_X6_matchOf_b165 (f_X6_matchOf_l35 n35) x1 x2 x3 x4 x5 M8
      else
        f_X6_matchOf_l59 (f_X6_matchOf_l35 n35) xN x1 x2 x3 x4 x5 (0 : Int32) (0 : Int32) (0 : Int32) M8
def f_X6_matchOf_l4 : Nat → Int32 → Int32 → Int32 → xM → Option (Int32 × xM)
  | 0, _, _, _, _ => none
  | n4 + 1, x1, x2, x3, Mb =>
    if (Mb.1 3) ≤ x3 then
      f_X6_matchOf_l35 xN x1 x2 (-1 : Int32) (0 : Int32) (0 : Int32) Mb
    else
      (f_X6_matchOf_l4 n4) x1 (x2 * ((Mb.1 2) + (1 : Int32))) (x3 + 1) Mb
def f_X6_matchOf (x1 : Int32) (M : xM) : Option (Int32 × xM) :=
  f_X6_matchOf_l4 xN x1 (1 : Int32) (0 : Int32) M
set_option maxRecDepth 100000 in
set_option maxHeartbeats 8000000 in
theorem c_X6_matchOf {l : Launch} {D : va_G} {aI : ClassId} {q t : Nat → Nat} {x1 : Int32} {M : xM} {r : Int32} {Mr : xM} (hf : f_X6_matchOf x1 M = some (r, Mr)) : kM l yX6_matchOf (wk yX6_matchOf cX6_matchOf 9 (some .int)) rm_X6_matchOf (dw q aI) D aI t [.ref (q 0), .int x1] M (some (.int r)) Mr := by
  refine kM_of (by decide) (Nat.le_of_ble_eq_true rfl) ?_
  intro p e s m args below meth c A ls X hr hlocks hl I
  have hx := X.1
  have hb := X.2.1
  have hl : lv_has ls 9 [(0, .ref (q 0)), (1, .int x1)] := hl
  have B165 : ∀ (k35 : Int32 → Int32 → Int32 → Int32 → Int32 → xM → Option (Int32 × xM)), (∀ (x1 : Int32) (x2 : Int32) (x3 : Int32) (x4 : Int32) (x5 : Int32) (Mb : xM) (H : Heap) (locs : List Loc) (ls : Array Slot), k35 x1 x2 x3 x4 x5 Mb = some (r, Mr) → kI (dw q aI) D A s Mb H locs → lv_has ls 9 [(0, .ref (q 0)), (1, .int x1), (2, .int x2), (3, .int x3), (4, .int x4), (5, .int x5)] → W p l e rm_X6_matchOf s m args below meth c H locs 0 0 (MQ below (kQ (dw q aI) D A (some (.int r)) Mr) args s 0 0 A) (F0 m 35 ls [])) → ∀ (x1 : Int32) (x2 : Int32) (x3 : Int32) (x4 : Int32) (x5 : Int32) (Mb : xM) (H : Heap) (locs : List Loc) (ls : Array Slot), f_X6_matchOf_b165 k35 x1 x2 x3 x4 x5 Mb = some (r, Mr) → kI (dw q aI) D A s Mb H locs → lv_has ls 9 [(0, .ref (q 0)), (1, .int x1), (2, .int x2), (3, .int x3), (4, .int x4), (5, .int x5)] → W p l e rm_X6_matchOf s m args below meth c H locs 0 0 (MQ below (kQ (dw q aI) D A (some (.int r)) Mr) args s 0 0 A) (F0 m 165 ls []) := by
    intro k35 hk35 x1 x2 x3 x4 x5 Mb H locs ls hf I hl
    rw [f_X6_matchOf_b165] at hf
    refine lv_iinc (v := (x5 + 1)) (lv' := [(5, .int (x5 + 1)), (0, .ref (q 0)), (1, .int x1), (2, .int x2), (3, .int x3), (4, .int x4)]) hx hb dX6_matchOf_165 hl (k := 5) rfl rfl (by decide) rfl (fun ls hl => ?_)
    refine lv_goto (tgt := 35) hx hb dX6_matchOf_168 (by decide) ?_
    exact hk35 x1 x2 x3 x4 (x5 + 1) Mb _ _ ls hf I (lv_sub hl [1, 2, 3, 4, 5, 0] rfl)
  have B147 : ∀ (k35 : Int32 → Int32 → Int32 → Int32 → Int32 → xM → Option (Int32 × xM)), (∀ (x1 : Int32) (x2 : Int32) (x3 : Int32) (x4 : Int32) (x5 : Int32) (Mb : xM) (H : Heap) (locs : List Loc) (ls : Array Slot), k35 x1 x2 x3 x4 x5 Mb = some (r, Mr) → kI (dw q aI) D A s Mb H locs → lv_has ls 9 [(0, .ref (q 0)), (1, .int x1), (2, .int x2), (3, .int x3), (4, .int x4), (5, .int x5)] → W p l e rm_X6_matchOf s m args below meth c H locs 0 0 (MQ below (kQ (dw q aI) D A (some (.int r)) Mr) args s 0 0 A) (F0 m 35 ls [])) → ∀ (x1 : Int32) (x2 : Int32) (x5 : Int32) (x6 : Int32) (x7 : Int32) (Mb : xM) (H : Heap) (locs : List Loc) (ls : Array Slot), f_X6_matchOf_b147 k35 x1 x2 x5 x6 x7 Mb = some (r, Mr) → kI (dw q aI) D A s Mb H locs → lv_has ls 9 [(0, .ref (q 0)), (1, .int x1), (2, .int x2), (5, .int x5), (6, .int x6), (7, .int x7)] → W p l e rm_X6_matchOf s m args below meth c H locs 0 0 (MQ below (kQ (dw q aI) D A (some (.int r)) Mr) args s 0 0 A) (F0 m 147 ls []) := by
    intro k35 hk35 x1 x2 x5 x6 x7 Mb H locs ls hf I hl
    rw [f_X6_matchOf_b147] at hf
    refine lv_iload hx hb dX6_matchOf_147 (lv_at hl 4 rfl) ?_
    refine lv_istore_n (lv' := [(3, .int x6), (0, .ref (q 0)), (1, .int x1), (2, .int x2), (5, .int x5), (6, .int x6), (7, .int x7)]) hx hb dX6_matchOf_149 rfl hl (by decide) rfl (fun ls hl => ?_)
    refine lv_iload hx hb dX6_matchOf_150 (lv_at hl 6 rfl) ?_
    refine lv_istore (lv' := [(4, .int x7), (3, .int x6), (0, .ref (q 0)), (1, .int x1), (2, .int x2), (5, .int x5), (6, .int x6), (7, .int x7)]) hx hb dX6_matchOf_152 hl (by decide) rfl (fun ls hl => ?_)
    refine lv_aload_n hx hb dX6_matchOf_154 rfl (lv_at hl 2 rfl) ?_
    refine k_get (T := TX6) (N := 27) X I inU6 0 dwG_0 rfl 12 (by decide) uw_4_11 rfl rfl dX6_matchOf_155 ?_
    refine lv_aload_n hx hb dX6_matchOf_158 rfl (lv_at hl 2 rfl) ?_
    refine k_get (T := TX6) (N := 27) X I inU6 0 dwG_0 rfl 13 (by decide) uw_4_12 rfl rfl dX6_matchOf_159 ?_
    obtain ⟨M12, e_M12, hf⟩ := k_nm hf
    refine k_callS (n := 2) (As := [.ref (q 5), .ref (q 6)]) (rest := []) X I (d_copy 5 6 dwG_5 dwG_6 (by decide) (by decide) (by decide) (fun g => xA Mb 5 g) (fun g => dwA_5) e_M12) uw_4_223 uw_4_224 uw_1_7 uw_4_225 ⟨rfl, rfl⟩ (by decide +kernel) rfl ⟨Nat.le_of_ble_eq_true rfl, Nat.le_of_ble_eq_true rfl⟩ ⟨Nat.le_of_ble_eq_true rfl, Nat.le_of_ble_eq_true rfl⟩ hl.1 rfl (Nat.le_of_ble_eq_true rfl) dX6_matchOf_162 (st1 := []) rfl (fun H locs I => ?_)
    exact B165 k35 hk35 x1 x2 x6 x7 x5 M12 _ _ ls hf I (lv_sub hl [2, 3, 4, 1, 0, 5] rfl)
  have B119 : ∀ (k35 : Int32 → Int32 → Int32 → Int32 → Int32 → xM → Option (Int32 × xM)), (∀ (x1 : Int32) (x2 : Int32) (x3 : Int32) (x4 : Int32) (x5 : Int32) (Mb : xM) (H : Heap) (locs : List Loc) (ls : Array Slot), k35 x1 x2 x3 x4 x5 Mb = some (r, Mr) → kI (dw q aI) D A s Mb H locs → lv_has ls 9 [(0, .ref (q 0)), (1, .int x1), (2, .int x2), (3, .int x3), (4, .int x4), (5, .int x5)] → W p l e rm_X6_matchOf s m args below meth c H locs 0 0 (MQ below (kQ (dw q aI) D A (some (.int r)) Mr) args s 0 0 A) (F0 m 35 ls [])) → ∀ (k59 : Int32 → Int32 → Int32 → Int32 → Int32 → Int32 → Int32 → Int32 → xM → Option (Int32 × xM)), (∀ (x1 : Int32) (x2 : Int32) (x3 : Int32) (x4 : Int32) (x5 : Int32) (x6 : Int32) (x7 : Int32) (x8 : Int32) (Mb : xM) (H : Heap) (locs : List Loc) (ls : Array Slot), k59 x1 x2 x3 x4 x5 x6 x7 x8 Mb = some (r, Mr) → kI (dw q aI) D A s Mb H locs → lv_has ls 9 [(0, .ref (q 0)), (1, .int x1), (2, .int x2), (3, .int x3), (4, .int x4), (5, .int x5), (6, .int x6), (7, .int x7), (8, .int x8)] → W p l e rm_X6_matchOf s m args below meth c H locs 0 0 (MQ below (kQ (dw q aI) D A (some (.int r)) Mr) args s 0 0 A) (F0 m 59 ls [])) → ∀ (x1 : Int32) (x2 : Int32) (x3 : Int32) (x4 : Int32) (x5 : Int32) (x6 : Int32) (x8 : Int32) (y0 : Int32) (y1 : Int32) (Mb : xM) (H : Heap) (locs : List Loc) (ls : Array Slot), f_X6_matchOf_b119 k35 k59 x1 x2 x3 x4 x5 x6 x8 y0 y1 Mb = some (r, Mr) → kI (dw q aI) D A s Mb H locs → lv_has ls 9 [(0, .ref (q 0)), (1, .int x1), (2, .int x2), (3, .int x3), (4, .int x4), (5, .int x5), (6, .int x6), (8, .int x8)] → W p l e rm_X6_matchOf s m args below meth c H locs 0 0 (MQ below (kQ (dw q aI) D A (some (.int r)) Mr) args s 0 0 A) (F0 m 119 ls [.int y0, .int y1]) := by
    intro k35 hk35 k59 hk59 x1 x2 x3 x4 x5 x6 x8 y0 y1 Mb H locs ls hf I hl
    rw [f_X6_matchOf_b119] at hf
    refine lv_iadd hx hb dX6_matchOf_119 ?_
    refine lv_istore (lv' := [(7, .int (y1 + y0)), (0, .ref (q 0)), (1, .int x1), (2, .int x2), (3, .int x3), (4, .int x4), (5, .int x5), (6, .int x6), (8, .int x8)]) hx hb dX6_matchOf_120 hl (by decide) rfl (fun ls hl => ?_)
    refine lv_iinc (v := (x8 + 1)) (lv' := [(8, .int (x8 + 1)), (7, .int (y1 + y0)), (0, .ref (q 0)), (1, .int x1), (2, .int x2), (3, .int x3), (4, .int x4), (5, .int x5), (6, .int x6)]) hx hb dX6_matchOf_122 hl (k := 8) rfl rfl (by decide) rfl (fun ls hl => ?_)
    refine lv_goto (tgt := 59) hx hb dX6_matchOf_125 (by decide) ?_
    exact hk59 x1 x2 x3 x4 x5 x6 (y1 + y0) (x8 + 1) Mb _ _ ls hf I (lv_sub hl [2, 3, 4, 5, 6, 7, 8, 1, 0] rfl)
  have B86 : ∀ (k35 : Int32 → Int32 → Int32 → Int32 → Int32 → xM → Option (Int32 × xM)), (∀ (x1 : Int32) (x2 : Int32) (x3 : Int32) (x4 : Int32) (x5 : Int32) (Mb : xM) (H : Heap) (locs : List Loc) (ls : Array Slot), k35 x1 x2 x3 x4 x5 Mb = some (r, Mr) → kI (dw q aI) D A s Mb H locs → lv_has ls 9 [(0, .ref (q 0)), (1, .int x1), (2, .int x2), (3, .int x3), (4, .int x4), (5, .int x5)] → W p l e rm_X6_matchOf s m args below meth c H locs 0 0 (MQ below (kQ (dw q aI) D A (some (.int r)) Mr) args s 0 0 A) (F0 m 35 ls [])) → ∀ (k59 : Int32 → Int32 → Int32 → Int32 → Int32 → Int32 → Int32 → Int32 → xM → Option (Int32 × xM)), (∀ (x1 : Int32) (x2 : Int32) (x3 : Int32) (x4 : Int32) (x5 : Int32) (x6 : Int32) (x7 : Int32) (x8 : Int32) (Mb : xM) (H : Heap) (locs : List Loc) (ls : Array Slot), k59 x1 x2 x3 x4 x5 x6 x7 x8 Mb = some (r, Mr) → kI (dw q aI) D A s Mb H locs → lv_has ls 9 [(0, .ref (q 0)), (1, .int x1), (2, .int x2), (3, .int x3), (4, .int x4), (5, .int x5), (6, .int x6), (7, .int x7), (8, .int x8)] → W p l e rm_X6_matchOf s m args below meth c H locs 0 0 (MQ below (kQ (dw q aI) D A (some (.int r)) Mr) args s 0 0 A) (F0 m 59 ls [])) → ∀ (x1 : Int32) (x2 : Int32) (x3 : Int32) (x4 : Int32) (x5 : Int32) (x7 : Int32) (x8 : Int32) (y0 : Int32) (y1 : Int32) (Mb : xM) (H : Heap) (locs : List Loc) (ls : Array Slot), f_X6_matchOf_b86 k35 k59 x1 x2 x3 x4 x5 x7 x8 y0 y1 Mb = some (r, Mr) → kI (dw q aI) D A s Mb H locs → lv_has ls 9 [(0, .ref (q 0)), (1, .int x1), (2, .int x2), (3, .int x3), (4, .int x4), (5, .int x5), (7, .int x7), (8, .int x8)] → W p l e rm_X6_matchOf s m args below meth c H locs 0 0 (MQ below (kQ (dw q aI) D A (some (.int r)) Mr) args s 0 0 A) (F0 m 86 ls [.int y0, .int y1]) := by
    intro k35 hk35 k59 hk59 x1 x2 x3 x4 x5 x7 x8 y0 y1 Mb H locs ls hf I hl
    rw [f_X6_matchOf_b86] at hf
    refine lv_iadd hx hb dX6_matchOf_86 ?_
    refine lv_istore (lv' := [(6, .int (y1 + y0)), (0, .ref (q 0)), (1, .int x1), (2, .int x2), (3, .int x3), (4, .int x4), (5, .int x5), (7, .int x7), (8, .int x8)]) hx hb dX6_matchOf_87 hl (by decide) rfl (fun ls hl => ?_)
    refine lv_iload hx hb dX6_matchOf_89 (lv_at hl 7 rfl) ?_
    refine lv_aload_n hx hb dX6_matchOf_91 rfl (lv_at hl 1 rfl) ?_
    refine k_get (T := TX6) (N := 27) X I inU6 0 dwG_0 rfl 12 (by decide) uw_4_11 rfl rfl dX6_matchOf_92 ?_
    refine lv_iload hx hb dX6_matchOf_95 (lv_at hl 8 rfl) ?_
    obtain ⟨r17, h_r17, hf⟩ := k_bind hf
    refine k_ald X I h_r17 5 dwG_5 dX6_matchOf_97 ?_
    refine lv_iconst (v := (-1)) hx hb dX6_matchOf_98 (by decide) ?_
    refine lv_icmp_ne (tgt := 106) hx hb dX6_matchOf_99 (by decide) (fun c18 => ?_) (fun c18 => ?_)
    · rw [if_neg c18] at hf
      refine lv_aload_n hx hb dX6_matchOf_106 rfl (lv_at hl 1 rfl) ?_
      refine lv_aload_n hx hb dX6_matchOf_107 rfl (lv_at hl 1 rfl) ?_
      refine k_get (T := TX6) (N := 27) X I inU6 0 dwG_0 rfl 12 (by decide) uw_4_11 rfl rfl dX6_matchOf_108 ?_
      refine lv_iload hx hb dX6_matchOf_111 (lv_at hl 8 rfl) ?_
      obtain ⟨r19, h_r19, hf⟩ := k_bind hf
      refine k_ald X I h_r19 5 dwG_5 dX6_matchOf_113 ?_
      refine lv_iload hx hb dX6_matchOf_114 (lv_at hl 8 rfl) ?_
      obtain ⟨r20, h_r20, hf⟩ := k_bind hf
      refine k_callV (n := 2) (As := [.int r19, .int x8]) (rest := [.int x7]) X I (c_X6_wrongOf h_r20) uw_4_135 uw_4_137 us_19 uw_1_7 uw_4_138 ⟨rfl, rfl⟩ (by decide +kernel) rfl ⟨Nat.le_of_ble_eq_true rfl, Nat.le_of_ble_eq_true rfl⟩ ⟨Nat.le_of_ble_eq_true rfl, Nat.le_of_ble_eq_true rfl⟩ 0 dwG_0 rfl hl.1 rfl (Nat.le_of_ble_eq_true rfl) dX6_matchOf_116 (st1 := [.int r20, .int x7]) rfl (fun H locs I => ?_)
      exact B119 k35 hk35 k59 hk59 x1 x2 x3 x4 x5 (y1 + y0) x8 r20 x7 Mb _ _ ls hf I (lv_sub hl [1, 2, 3, 4, 5, 6, 0, 8] rfl)
    · rw [if_pos c18] at hf
      refine lv_iconst (v := 0) hx hb dX6_matchOf_102 (by decide) ?_
      refine lv_goto (tgt := 119) hx hb dX6_matchOf_103 (by decide) ?_
      exact B119 k35 hk35 k59 hk59 x1 x2 x3 x4 x5 (y1 + y0) x8 (0 : Int32) x7 Mb _ _ ls hf I (lv_sub hl [1, 2, 3, 4, 5, 6, 0, 8] rfl)
  have B59 : ∀ (k35 : Int32 → Int32 → Int32 → Int32 → Int32 → xM → Option (Int32 × xM)), (∀ (x1 : Int32) (x2 : Int32) (x3 : Int32) (x4 : Int32) (x5 : Int32) (Mb : xM) (H : Heap) (locs : List Loc) (ls : Array Slot), k35 x1 x2 x3 x4 x5 Mb = some (r, Mr) → kI (dw q aI) D A s Mb H locs → lv_has ls 9 [(0, .ref (q 0)), (1, .int x1), (2, .int x2), (3, .int x3), (4, .int x4), (5, .int x5)] → W p l e rm_X6_matchOf s m args below meth c H locs 0 0 (MQ below (kQ (dw q aI) D A (some (.int r)) Mr) args s 0 0 A) (F0 m 35 ls [])) → ∀ (n59 : Nat), ∀ (x1 : Int32) (x2 : Int32) (x3 : Int32) (x4 : Int32) (x5 : Int32) (x6 : Int32) (x7 : Int32) (x8 : Int32) (Mb : xM) (H : Heap) (locs : List Loc) (ls : Array Slot), f_X6_matchOf_l59 k35 n59 x1 x2 x3 x4 x5 x6 x7 x8 Mb = some (r, Mr) → kI (dw q aI) D A s Mb H locs → lv_has ls 9 [(0, .ref (q 0)), (1, .int x1), (2, .int x2), (3, .int x3), (4, .int x4), (5, .int x5), (6, .int x6), (7, .int x7), (8, .int x8)] → W p l e rm_X6_matchOf s m args below meth c H locs 0 0 (MQ below (kQ (dw q aI) D A (some (.int r)) Mr) args s 0 0 A) (F0 m 59 ls []) := by
    intro k35 hk35
    intro n59
    induction n59 with
    | zero =>
      intro x1 x2 x3 x4 x5 x6 x7 x8 Mb H locs ls hf I hl
      rw [f_X6_matchOf_l59] at hf
      cases hf
    | succ n59 ih59 =>
      intro x1 x2 x3 x4 x5 x6 x7 x8 Mb H locs ls hf I hl
      rw [f_X6_matchOf_l59] at hf
      refine lv_iload hx hb dX6_matchOf_59 (lv_at hl 8 rfl) ?_
      refine lv_aload_n hx hb dX6_matchOf_61 rfl (lv_at hl 0 rfl) ?_
      refine k_get (T := TX6) (N := 27) X I inU6 0 dwG_0 rfl 4 (by decide) uw_4_3 rfl rfl dX6_matchOf_62 ?_
      refine lv_icmp_ge (tgt := 128) hx hb dX6_matchOf_65 (by decide) (fun c10 => ?_) (fun c10 => ?_)
      · rw [if_pos c10] at hf
        refine lv_iload hx hb dX6_matchOf_128 (lv_at hl 6 rfl) ?_
        refine lv_iload_n hx hb dX6_matchOf_130 rfl (lv_at hl 3 rfl) ?_
        refine lv_icmp_gt (tgt := 147) hx hb dX6_matchOf_131 (by decide) (fun c11 => ?_) (fun c11 => ?_)
        · rw [if_pos c11] at hf
          exact B147 k35 hk35 x1 x2 x5 x6 x7 Mb _ _ ls hf I (lv_sub hl [0, 1, 2, 5, 6, 7] rfl)
        · rw [if_neg c11] at hf
          refine lv_iload hx hb dX6_matchOf_134 (lv_at hl 6 rfl) ?_
          refine lv_iload_n hx hb dX6_matchOf_136 rfl (lv_at hl 3 rfl) ?_
          refine lv_icmp_ne (tgt := 165) hx hb dX6_matchOf_137 (by decide) (fun c13 => ?_) (fun c13 => ?_)
          · rw [if_neg c13] at hf
            exact B165 k35 hk35 x1 x2 x3 x4 x5 Mb _ _ ls hf I (lv_sub hl [0, 1, 2, 3, 4, 5] rfl)
          · rw [if_pos c13] at hf
            refine lv_iload hx hb dX6_matchOf_140 (lv_at hl 7 rfl) ?_
            refine lv_iload hx hb dX6_matchOf_142 (lv_at hl 4 rfl) ?_
            refine lv_icmp_ge (tgt := 165) hx hb dX6_matchOf_144 (by decide) (fun c14 => ?_) (fun c14 => ?_)
            · rw [if_pos c14] at hf
              exact B165 k35 hk35 x1 x2 x3 x4 x5 Mb _ _ ls hf I (lv_sub hl [0, 1, 2, 3, 4, 5] rfl)
            · rw [if_neg c14] at hf
              exact B147 k35 hk35 x1 x2 x5 x6 x7 Mb _ _ ls hf I (lv_sub hl [0, 1, 2, 5, 6, 7] rfl)
      · rw [if_neg c10] at hf
        refine lv_iload hx hb dX6_matchOf_68 (lv_at hl 6 rfl) ?_
        refine lv_aload_n hx hb dX6_matchOf_70 rfl (lv_at hl 0 rfl) ?_
        refine k_get (T := TX6) (N := 27) X I inU6 0 dwG_0 rfl 12 (by decide) uw_4_11 rfl rfl dX6_matchOf_71 ?_
        refine lv_iload hx hb dX6_matchOf_74 (lv_at hl 8 rfl) ?_
        obtain ⟨r15, h_r15, hf⟩ := k_bind hf
        refine k_ald X I h_r15 5 dwG_5 dX6_matchOf_76 ?_
        refine lv_iconst (v := (-1)) hx hb dX6_matchOf_77 (by decide) ?_
        refine lv_icmp_ne (tgt := 85) hx hb dX6_matchOf_78 (by decide) (fun c16 => ?_) (fun c16 => ?_)
        · rw [if_neg c16] at hf
          refine lv_iconst (v := 1) hx hb dX6_matchOf_85 (by decide) ?_
          exact B86 k35 hk35 (f_X6_matchOf_l59 k35 n59) ih59 x1 x2 x3 x4 x5 x7 x8 (1 : Int32) x6 Mb _ _ ls hf I (lv_sub hl [0, 1, 2, 3, 4, 5, 7, 8] rfl)
        · rw [if_pos c16] at hf
          refine lv_iconst (v := 0) hx hb dX6_matchOf_81 (by decide) ?_
          refine lv_goto (tgt := 86) hx hb dX6_matchOf_82 (by decide) ?_
          exact B86 k35 hk35 (f_X6_matchOf_l59 k35 n59) ih59 x1 x2 x3 x4 x5 x7 x8 (0 : Int32) x6 Mb _ _ ls hf I (lv_sub hl [0, 1, 2, 3, 4, 5, 7, 8] rfl)
  have B35 : ∀ (n35 : Nat), ∀ (x1 : Int32) (x2 : Int32) (x3 : Int32) (x4 : Int32) (x5 : Int32) (Mb : xM) (H : Heap) (locs : List Loc) (ls : Array Slot), f_X6_matchOf_l35 n35 x1 x2 x3 x4 x5 Mb = some (r, Mr) → kI (dw q aI) D A s Mb H locs → lv_has ls 9 [(0, .ref (q 0)), (1, .int x1), (2, .int x2), (3, .int x3), (4, .int x4), (5, .int x5)] → W p l e rm_X6_matchOf s m args below meth c H locs 0 0 (MQ below (kQ (dw q aI) D A (some (.int r)) Mr) args s 0 0 A) (F0 m 35 ls []) := by
    intro n35
    induction n35 with
    | zero =>
      intro x1 x2 x3 x4 x5 Mb H locs ls hf I hl
      rw [f_X6_matchOf_l35] at hf
      cases hf
    | succ n35 ih35 =>
      intro x1 x2 x3 x4 x5 Mb H locs ls hf I hl
      rw [f_X6_matchOf_l35] at hf
      refine lv_iload hx hb dX6_matchOf_35 (lv_at hl 5 rfl) ?_
      refine lv_iload_n hx hb dX6_matchOf_37 rfl (lv_at hl 2 rfl) ?_
      refine lv_icmp_ge (tgt := 171) hx hb dX6_matchOf_38 (by decide) (fun c2 => ?_) (fun c2 => ?_)
      · rw [if_pos c2] at hf
        refine lv_iload_n hx hb dX6_matchOf_171 rfl (lv_at hl 1 rfl) ?_
        refine lv_if_ne (tgt := 179) hx hb dX6_matchOf_172 (by decide) (fun c3 => ?_) (fun c3 => ?_)
        · rw [if_neg c3] at hf
          refine lv_iload_n hx hb dX6_matchOf_179 rfl (lv_at hl 1 rfl) ?_
          refine lv_iconst (v := 1) hx hb dX6_matchOf_180 (by decide) ?_
          refine lv_icmp_ne (tgt := 189) hx hb dX6_matchOf_181 (by decide) (fun c4 => ?_) (fun c4 => ?_)
          · rw [if_neg c4] at hf
            refine lv_iload_n hx hb dX6_matchOf_189 rfl (lv_at hl 1 rfl) ?_
            refine lv_bipush (v := 10) hx hb dX6_matchOf_190 (by decide) ?_
            refine lv_isub hx hb dX6_matchOf_192 ?_
            refine lv_aload_n hx hb dX6_matchOf_193 rfl (lv_at hl 0 rfl) ?_
            refine k_get (T := TX6) (N := 27) X I inU6 0 dwG_0 rfl 4 (by decide) uw_4_3 rfl rfl dX6_matchOf_194 ?_
            refine lv_icmp_ge (tgt := 212) hx hb dX6_matchOf_197 (by decide) (fun c5 => ?_) (fun c5 => ?_)
            · rw [if_pos c5] at hf
              refine lv_iconst (v := (-1)) hx hb dX6_matchOf_212 (by decide) ?_
              exact k_iret X I hr hlocks dX6_matchOf_213 hf
            · rw [if_neg c5] at hf
              refine lv_aload_n hx hb dX6_matchOf_200 rfl (lv_at hl 0 rfl) ?_
              refine k_get (T := TX6) (N := 27) X I inU6 0 dwG_0 rfl 13 (by decide) uw_4_12 rfl rfl dX6_matchOf_201 ?_
              refine lv_iload_n hx hb dX6_matchOf_204 rfl (lv_at hl 1 rfl) ?_
              refine lv_bipush (v := 10) hx hb dX6_matchOf_205 (by decide) ?_
              refine lv_isub hx hb dX6_matchOf_207 ?_
              obtain ⟨r6, h_r6, hf⟩ := k_bind hf
              refine k_ald X I h_r6 6 dwG_6 dX6_matchOf_208 ?_
              refine lv_goto (tgt := 213) hx hb dX6_matchOf_209 (by decide) ?_
              exact k_iret X I hr hlocks dX6_matchOf_213 hf
          · rw [if_pos c4] at hf
            refine lv_iload hx hb dX6_matchOf_184 (lv_at hl 4 rfl) ?_
            refine lv_goto (tgt := 213) hx hb dX6_matchOf_186 (by decide) ?_
            exact k_iret X I hr hlocks dX6_matchOf_213 hf
        · rw [if_pos c3] at hf
          refine lv_iload_n hx hb dX6_matchOf_175 rfl (lv_at hl 3 rfl) ?_
          refine lv_goto (tgt := 213) hx hb dX6_matchOf_176 (by decide) ?_
          exact k_iret X I hr hlocks dX6_matchOf_213 hf
      · rw [if_neg c2] at hf
        refine lv_aload_n hx hb dX6_matchOf_41 rfl (lv_at hl 0 rfl) ?_
        refine lv_iload hx hb dX6_matchOf_42 (lv_at hl 5 rfl) ?_
        obtain ⟨r7, M8, h_r7, hf⟩ := k_bind2 hf
        refine k_callV (n := 1) (As := [.int x5]) (rest := []) X I (c_X6_layRow h_r7) uw_4_219 uw_4_221 us_31 uw_1_7 uw_4_222 ⟨rfl, rfl⟩ (by decide +kernel) rfl ⟨Nat.le_of_ble_eq_true rfl, Nat.le_of_ble_eq_true rfl⟩ ⟨Nat.le_of_ble_eq_true rfl, Nat.le_of_ble_eq_true rfl⟩ 0 dwG_0 rfl hl.1 rfl (Nat.le_of_ble_eq_true rfl) dX6_matchOf_44 (st1 := [.int r7]) rfl (fun H locs I => ?_)
        refine lv_if_eq (tgt := 165) hx hb dX6_matchOf_47 (by decide) (fun c9 => ?_) (fun c9 => ?_)
        · rw [if_pos c9] at hf
          exact B165 (f_X6_matchOf_l35 n35) ih35 x1 x2 x3 x4 x5 M8 _ _ ls hf I (lv_sub hl [0, 1, 2, 3, 4, 5] rfl)
        · rw [if_neg c9] at hf
          refine lv_iconst (v := 0) hx hb dX6_matchOf_50 (by decide) ?_
          refine lv_istore (lv' := [(6, .int (0 : Int32)), (0, .ref (q 0)), (1, .int x1), (2, .int x2), (3, .int x3), (4, .int x4), (5, .int x5)]) hx hb dX6_matchOf_51 hl (by decide) rfl (fun ls hl => ?_)
          refine lv_iconst (v := 0) hx hb dX6_matchOf_53 (by decide) ?_
          refine lv_istore (lv' := [(7, .int (0 : Int32)), (6, .int (0 : Int32)), (0, .ref (q 0)), (1, .int x1), (2, .int x2), (3, .int x3), (4, .int x4), (5, .int x5)]) hx hb dX6_matchOf_54 hl (by decide) rfl (fun ls hl => ?_)
          refine lv_iconst (v := 0) hx hb dX6_matchOf_56 (by decide) ?_
          refine lv_istore (lv' := [(8, .int (0 : Int32)), (7, .int (0 : Int32)), (6, .int (0 : Int32)), (0, .ref (q 0)), (1, .int x1), (2, .int x2), (3, .int x3), (4, .int x4), (5, .int x5)]) hx hb dX6_matchOf_57 hl (by decide) rfl (fun ls hl => ?_)
          exact B59 (f_X6_matchOf_l35 n35) ih35 xN x1 x2 x3 x4 x5 (0 : Int32) (0 : Int32) (0 : Int32) M8 _ _ ls hf I (lv_sub hl [3, 4, 5, 6, 7, 8, 2, 1, 0] rfl)
  have B4 : ∀ (n4 : Nat), ∀ (x1 : Int32) (x2 : Int32) (x3 : Int32) (Mb : xM) (H : Heap) (locs : List Loc) (ls : Array Slot), f_X6_matchOf_l4 n4 x1 x2 x3 Mb = some (r, Mr) → kI (dw q aI) D A s Mb H locs → lv_has ls 9 [(0, .ref (q 0)), (1, .int x1), (2, .int x2), (3, .int x3)] → W p l e rm_X6_matchOf s m args below meth c H locs 0 0 (MQ below (kQ (dw q aI) D A (some (.int r)) Mr) args s 0 0 A) (F0 m 4 ls []) := by
    intro n4
    induction n4 with
    | zero =>
      intro x1 x2 x3 Mb H locs ls hf I hl
      rw [f_X6_matchOf_l4] at hf
      cases hf
    | succ n4 ih4 =>
      intro x1 x2 x3 Mb H locs ls hf I hl
      rw [f_X6_matchOf_l4] at hf
      refine lv_iload_n hx hb dX6_matchOf_4 rfl (lv_at hl 3 rfl) ?_
      refine lv_aload_n hx hb dX6_matchOf_5 rfl (lv_at hl 0 rfl) ?_
      refine k_get (T := TX6) (N := 27) X I inU6 0 dwG_0 rfl 4 (by decide) uw_4_3 rfl rfl dX6_matchOf_6 ?_
      refine lv_icmp_ge (tgt := 27) hx hb dX6_matchOf_9 (by decide) (fun c1 => ?_) (fun c1 => ?_)
      · rw [if_pos c1] at hf
        refine lv_iconst (v := (-1)) hx hb dX6_matchOf_27 (by decide) ?_
        refine lv_istore_n (lv' := [(3, .int (-1 : Int32)), (0, .ref (q 0)), (1, .int x1), (2, .int x2)]) hx hb dX6_matchOf_28 rfl hl (by decide) rfl (fun ls hl => ?_)
        refine lv_iconst (v := 0) hx hb dX6_matchOf_29 (by decide) ?_
        refine lv_istore (lv' := [(4, .int (0 : Int32)), (3, .int (-1 : Int32)), (0, .ref (q 0)), (1, .int x1), (2, .int x2)]) hx hb dX6_matchOf_30 hl (by decide) rfl (fun ls hl => ?_)
        refine lv_iconst (v := 0) hx hb dX6_matchOf_32 (by decide) ?_
        refine lv_istore (lv' := [(5, .int (0 : Int32)), (4, .int (0 : Int32)), (3, .int (-1 : Int32)), (0, .ref (q 0)), (1, .int x1), (2, .int x2)]) hx hb dX6_matchOf_33 hl (by decide) rfl (fun ls hl => ?_)
        exact B35 xN x1 x2 (-1 : Int32) (0 : Int32) (0 : Int32) Mb _ _ ls hf I (lv_sub hl [3, 4, 5, 2, 1, 0] rfl)
      · rw [if_neg c1] at hf
        refine lv_iload_n hx hb dX6_matchOf_12 rfl (lv_at hl 2 rfl) ?_
        refine lv_aload_n hx hb dX6_matchOf_13 rfl (lv_at hl 0 rfl) ?_
        refine k_get (T := TX6) (N := 27) X I inU6 0 dwG_0 rfl 3 (by decide) uw_4_2 rfl rfl dX6_matchOf_14 ?_
        refine lv_iconst (v := 1) hx hb dX6_matchOf_17 (by decide) ?_
        refine lv_iadd hx hb dX6_matchOf_18 ?_
        refine lv_imul hx hb dX6_matchOf_19 ?_
        refine lv_istore_n (lv' := [(2, .int (x2 * ((Mb.1 2) + (1 : Int32)))), (0, .ref (q 0)), (1, .int x1), (3, .int x3)]) hx hb dX6_matchOf_20 rfl hl (by decide) rfl (fun ls hl => ?_)
        refine lv_iinc (v := (x3 + 1)) (lv' := [(3, .int (x3 + 1)), (2, .int (x2 * ((Mb.1 2) + (1 : Int32)))), (0, .ref (q 0)), (1, .int x1)]) hx hb dX6_matchOf_21 hl (k := 3) rfl rfl (by decide) rfl (fun ls hl => ?_)
        refine lv_goto (tgt := 4) hx hb dX6_matchOf_24 (by decide) ?_
        exact ih4 x1 (x2 * ((Mb.1 2) + (1 : Int32))) (x3 + 1) Mb _ _ ls hf I (lv_sub hl [2, 3, 1, 0] rfl)
  rw [f_X6_matchOf] at hf
  refine lv_iconst (v := 1) hx hb dX6_matchOf_0 (by decide) ?_
  refine lv_istore_n (lv' := [(2, .int (1 : Int32)), (0, .ref (q 0)), (1, .int x1)]) hx hb dX6_matchOf_1 rfl hl (by decide) rfl (fun ls hl => ?_)
  refine lv_iconst (v := 0) hx hb dX6_matchOf_2 (by decide) ?_
  refine lv_istore_n (lv' := [(3, .int (0 : Int32)), (2, .int (1 : Int32)), (0, .ref (q 0)), (1, .int x1)]) hx hb dX6_matchOf_3 rfl hl (by decide) rfl (fun ls hl => ?_)
  exact B4 xN x1 (1 : Int32) (0 : Int32) M _ _ ls hf I (lv_sub hl [2, 3, 1, 0] rfl)
/-! LostTentModel.match(I)I -/
abbrev rm_X6_match : Room := { frames := 5, cells := 0, slots := 0, locals := 126 }
def f_X6_match_b27 (x1 : Int32) (Mb : xM) : Option (Int32 × xM) :=
  (f_X6_lacks Mb).bind fun r3 =>
  if r3 = 0 then
    ob2 (f_X6_matchOf x1 Mb) fun r5 M6 =>
    some (r5, M6)
  else
    some ((-103 : Int32), Mb)
def f_X6_match (x1 : Int32) (M : xM) : Option (Int32 × xM) :=
  (f_X6_in x1.toInt64 (0 : Int64) (1 : Int64)).bind fun r1 =>
  if r1 = 0 then
    (f_X6_in x1.toInt64 (10 : Int64) (12 : Int64)).bind fun r7 =>
    if r7 = 0 then
      some ((-102 : Int32), M)
    else
      f_X6_match_b27 x1 M
  else
    f_X6_match_b27 x1 M
set_option maxRecDepth 100000 in
set_option maxHeartbeats 8000000 in
theorem c_X6_match {l : Launch} {D : va_G} {aI : ClassId} {q t : Nat → Nat} {x1 : Int32} {M : xM} {r : Int32} {Mr : xM} (hf : f_X6_match x1 M = some (r, Mr)) : kM l yX6_match (wk yX6_match cX6_match 2 (some .int)) rm_X6_match (dw q aI) D aI t [.ref (q 0), .int x1] M (some (.int r)) Mr := by
  refine kM_of (by decide) (Nat.le_of_ble_eq_true rfl) ?_
  intro p e s m args below meth c A ls X hr hlocks hl I
  have hx := X.1
  have hb := X.2.1
  have hl : lv_has ls 2 [(0, .ref (q 0)), (1, .int x1)] := hl
  have B27 : ∀ (x1 : Int32) (Mb : xM) (H : Heap) (locs : List Loc) (ls : Array Slot), f_X6_match_b27 x1 Mb = some (r, Mr) → kI (dw q aI) D A s Mb H locs → lv_has ls 2 [(0, .ref (q 0)), (1, .int x1)] → W p l e rm_X6_match s m args below meth c H locs 0 0 (MQ below (kQ (dw q aI) D A (some (.int r)) Mr) args s 0 0 A) (F0 m 27 ls []) := by
    intro x1 Mb H locs ls hf I hl
    rw [f_X6_match_b27] at hf
    refine lv_aload_n hx hb dX6_match_27 rfl (lv_at hl 0 rfl) ?_
    obtain ⟨r3, h_r3, hf⟩ := k_bind hf
    refine k_callV (n := 0) (As := []) (rest := []) X I (c_X6_lacks h_r3) uw_4_201 uw_4_203 us_28 uw_1_7 uw_4_204 ⟨rfl, rfl⟩ (by decide +kernel) rfl ⟨Nat.le_of_ble_eq_true rfl, Nat.le_of_ble_eq_true rfl⟩ ⟨Nat.le_of_ble_eq_true rfl, Nat.le_of_ble_eq_true rfl⟩ 0 dwG_0 rfl hl.1 rfl (Nat.le_of_ble_eq_true rfl) dX6_match_28 (st1 := [.int r3]) rfl (fun H locs I => ?_)
    refine lv_if_eq (tgt := 39) hx hb dX6_match_31 (by decide) (fun c4 => ?_) (fun c4 => ?_)
    · rw [if_pos c4] at hf
      refine lv_aload_n hx hb dX6_match_39 rfl (lv_at hl 0 rfl) ?_
      refine lv_iload_n hx hb dX6_match_40 rfl (lv_at hl 1 rfl) ?_
      obtain ⟨r5, M6, h_r5, hf⟩ := k_bind2 hf
      refine k_callV (n := 1) (As := [.int x1]) (rest := []) X I (c_X6_matchOf h_r5) uw_4_215 uw_4_217 us_30 uw_1_7 uw_4_218 ⟨rfl, rfl⟩ (by decide +kernel) rfl ⟨Nat.le_of_ble_eq_true rfl, Nat.le_of_ble_eq_true rfl⟩ ⟨Nat.le_of_ble_eq_true rfl, Nat.le_of_ble_eq_true rfl⟩ 0 dwG_0 rfl hl.1 rfl (Nat.le_of_ble_eq_true rfl) dX6_match_41 (st1 := [.int r5]) rfl (fun H locs I => ?_)
      exact k_iret X I hr hlocks dX6_match_44 hf
    · rw [if_neg c4] at hf
      refine lv_bipush (v := (-103)) hx hb dX6_match_34 (by decide) ?_
      refine lv_goto (tgt := 44) hx hb dX6_match_36 (by decide) ?_
      exact k_iret X I hr hlocks dX6_match_44 hf
  rw [f_X6_match] at hf
  refine lv_iload_n hx hb dX6_match_0 rfl (lv_at hl 1 rfl) ?_
  refine lv_i2l hx hb dX6_match_1 rfl ?_
  refine lv_lconst (v := 0) hx hb dX6_match_2 (by decide) ?_
  refine lv_lconst (v := 1) hx hb dX6_match_3 (by decide) ?_
  obtain ⟨r1, h_r1, hf⟩ := k_bind hf
  refine k_callS (n := 3) (As := [.long x1.toInt64, .long (0 : Int64), .long (1 : Int64)]) (rest := []) X I (c_X6_in h_r1) uw_4_86 uw_4_87 uw_1_7 uw_4_88 ⟨rfl, rfl⟩ (by decide +kernel) rfl ⟨Nat.le_of_ble_eq_true rfl, Nat.le_of_ble_eq_true rfl⟩ ⟨Nat.le_of_ble_eq_true rfl, Nat.le_of_ble_eq_true rfl⟩ hl.1 rfl (Nat.le_of_ble_eq_true rfl) dX6_match_4 (st1 := [.int r1]) rfl (fun H locs I => ?_)
  refine lv_if_ne (tgt := 27) hx hb dX6_match_7 (by decide) (fun c2 => ?_) (fun c2 => ?_)
  · rw [if_neg c2] at hf
    exact B27 x1 M _ _ ls hf I (lv_sub hl [0, 1] rfl)
  · rw [if_pos c2] at hf
    refine lv_iload_n hx hb dX6_match_10 rfl (lv_at hl 1 rfl) ?_
    refine lv_i2l hx hb dX6_match_11 rfl ?_
    refine lv_ldc2 (v := 10) hx hb X.2.2.2.1 (X.2.2.2.2.1 _ uw_4_213) dX6_match_12 ?_
    refine lv_ldc2 (v := 12) hx hb X.2.2.2.1 (X.2.2.2.2.1 _ uw_4_214) dX6_match_15 ?_
    obtain ⟨r7, h_r7, hf⟩ := k_bind hf
    refine k_callS (n := 3) (As := [.long x1.toInt64, .long (10 : Int64), .long (12 : Int64)]) (rest := []) X I (c_X6_in h_r7) uw_4_86 uw_4_87 uw_1_7 uw_4_88 ⟨rfl, rfl⟩ (by decide +kernel) rfl ⟨Nat.le_of_ble_eq_true rfl, Nat.le_of_ble_eq_true rfl⟩ ⟨Nat.le_of_ble_eq_true rfl, Nat.le_of_ble_eq_true rfl⟩ hl.1 rfl (Nat.le_of_ble_eq_true rfl) dX6_match_18 (st1 := [.int r7]) rfl (fun H locs I => ?_)
    refine lv_if_ne (tgt := 27) hx hb dX6_match_21 (by decide) (fun c8 => ?_) (fun c8 => ?_)
    · rw [if_neg c8] at hf
      exact B27 x1 M _ _ ls hf I (lv_sub hl [0, 1] rfl)
    · rw [if_pos c8] at hf
      refine lv_bipush (v := (-102)) hx hb dX6_match_24 (by decide) ?_
      exact k_iret X I hr hlocks dX6_match_26 hf
/-! LostTentModel.see(IIZ)I -/
abbrev rm_X6_see : Room := { frames := 2, cells := 0, slots := 0, locals := 46 }
def f_X6_see_b78 (y0 : Int32) (y1 : Int32) (Mb : xM) : Option (Int32 × xM) :=
  (xst 24 (Mb.2.2 6) y1 y0).bind fun g11 =>
  nmM (xA Mb 6 g11) fun M12 =>
  nmM (xI M12 8 ((M12.1 8) + (1 : Int32))) fun M13 =>
  some ((M13.1 8), M13)
def f_X6_see (x1 : Int32) (x2 : Int32) (x3 : Int32) (M : xM) : Option (Int32 × xM) :=
  (f_X6_isThing x1 M).bind fun r1 =>
  if r1 = 0 then
    some ((-101 : Int32), M)
  else
    (f_X6_isClaimer x2 M).bind fun r3 =>
    if r3 = 0 then
      some ((-101 : Int32), M)
    else
      if (M.1 8) = (8 : Int32) then
        some ((-104 : Int32), M)
      else
        (xst 24 (M.2.2 6) ((3 : Int32) * (M.1 8)) x1).bind fun g6 =>
        nmM (xA M 6 g6) fun M7 =>
        (xst 24 (M7.2.2 6) (((3 : Int32) * (M7.1 8)) + (1 : Int32)) x2).bind fun g8 =>
        nmM (xA M7 6 g8) fun M9 =>
        if x3 = 0 then
          f_X6_see_b78 (0 : Int32) (((3 : Int32) * (M9.1 8)) + (2 : Int32)) M9
        else
          f_X6_see_b78 (1 : Int32) (((3 : Int32) * (M9.1 8)) + (2 : Int32)) M9
set_option maxRecDepth 100000 in
set_option maxHeartbeats 8000000 in
theorem c_X6_see {l : Launch} {D : va_G} {aI : ClassId} {q t : Nat → Nat} {x1 : Int32} {x2 : Int32} {x3 : Int32} {M : xM} {r : Int32} {Mr : xM} (hf : f_X6_see x1 x2 x3 M = some (r, Mr)) : kM l yX6_see (wk yX6_see cX6_see 4 (some .int)) rm_X6_see (dw q aI) D aI t [.ref (q 0), .int x1, .int x2, .int x3] M (some (.int r)) Mr := by
  refine kM_of (by decide) (Nat.le_of_ble_eq_true rfl) ?_
  intro p e s m args below meth c A ls X hr hlocks hl I
  have hx := X.1
  have hb := X.2.1
  have hl : lv_has ls 4 [(0, .ref (q 0)), (1, .int x1), (2, .int x2), (3, .int x3)] := hl
  have B78 : ∀ (y0 : Int32) (y1 : Int32) (Mb : xM) (H : Heap) (locs : List Loc) (ls : Array Slot), f_X6_see_b78 y0 y1 Mb = some (r, Mr) → kI (dw q aI) D A s Mb H locs → lv_has ls 4 [(0, .ref (q 0))] → W p l e rm_X6_see s m args below meth c H locs 0 0 (MQ below (kQ (dw q aI) D A (some (.int r)) Mr) args s 0 0 A) (F0 m 78 ls [.int y0, .int y1, .ref (q 7)]) := by
    intro y0 y1 Mb H locs ls hf I hl
    rw [f_X6_see_b78] at hf
    obtain ⟨g11, h_g11, hf⟩ := k_bind hf
    obtain ⟨M12, e_M12, hf⟩ := k_nm hf
    refine k_ast (M1 := M12) X I h_g11 7 dwG_7 dX6_see_78 (dwA_6.trans (congrArg (dw q aI) e_M12)) (fun H locs I => ?_)
    refine lv_aload_n hx hb dX6_see_79 rfl (lv_at hl 0 rfl) ?_
    refine lv_dup hx hb dX6_see_80 rfl ?_
    refine k_get (T := TX6) (N := 27) X I inU6 0 dwG_0 rfl 14 (by decide) uw_4_13 rfl rfl dX6_see_81 ?_
    refine lv_iconst (v := 1) hx hb dX6_see_84 (by decide) ?_
    refine lv_iadd hx hb dX6_see_85 ?_
    obtain ⟨M13, e_M13, hf⟩ := k_nm hf
    refine k_put (T := TX6) (N := 27) (M1 := M13) X I inU6 tyX6 tyX6_ok nmX6 0 dwG_0 rfl 14 (by decide) uw_4_13 rfl rfl (tyX6_ok 14 (by decide)) rfl rfl (Nat.le_of_ble_eq_true rfl) dX6_see_86 (dwI_8.trans (congrArg (dw q aI) e_M13)) (fun H locs I => ?_)
    refine lv_aload_n hx hb dX6_see_89 rfl (lv_at hl 0 rfl) ?_
    refine k_get (T := TX6) (N := 27) X I inU6 0 dwG_0 rfl 14 (by decide) uw_4_13 rfl rfl dX6_see_90 ?_
    exact k_iret X I hr hlocks dX6_see_93 hf
  rw [f_X6_see] at hf
  refine lv_aload_n hx hb dX6_see_0 rfl (lv_at hl 0 rfl) ?_
  refine lv_iload_n hx hb dX6_see_1 rfl (lv_at hl 1 rfl) ?_
  obtain ⟨r1, h_r1, hf⟩ := k_bind hf
  refine k_callV (n := 1) (As := [.int x1]) (rest := []) X I (c_X6_isThing h_r1) uw_4_119 uw_4_121 us_15 uw_1_7 uw_4_122 ⟨rfl, rfl⟩ (by decide +kernel) rfl ⟨Nat.le_of_ble_eq_true rfl, Nat.le_of_ble_eq_true rfl⟩ ⟨Nat.le_of_ble_eq_true rfl, Nat.le_of_ble_eq_true rfl⟩ 0 dwG_0 rfl hl.1 rfl (Nat.le_of_ble_eq_true rfl) dX6_see_2 (st1 := [.int r1]) rfl (fun H locs I => ?_)
  refine lv_if_eq (tgt := 16) hx hb dX6_see_5 (by decide) (fun c2 => ?_) (fun c2 => ?_)
  · rw [if_pos c2] at hf
    refine lv_bipush (v := (-101)) hx hb dX6_see_16 (by decide) ?_
    exact k_iret X I hr hlocks dX6_see_18 hf
  · rw [if_neg c2] at hf
    refine lv_aload_n hx hb dX6_see_8 rfl (lv_at hl 0 rfl) ?_
    refine lv_iload_n hx hb dX6_see_9 rfl (lv_at hl 2 rfl) ?_
    obtain ⟨r3, h_r3, hf⟩ := k_bind hf
    refine k_callV (n := 1) (As := [.int x2]) (rest := []) X I (c_X6_isClaimer h_r3) uw_4_159 uw_4_161 us_24 uw_1_7 uw_4_162 ⟨rfl, rfl⟩ (by decide +kernel) rfl ⟨Nat.le_of_ble_eq_true rfl, Nat.le_of_ble_eq_true rfl⟩ ⟨Nat.le_of_ble_eq_true rfl, Nat.le_of_ble_eq_true rfl⟩ 0 dwG_0 rfl hl.1 rfl (Nat.le_of_ble_eq_true rfl) dX6_see_10 (st1 := [.int r3]) rfl (fun H locs I => ?_)
    refine lv_if_ne (tgt := 19) hx hb dX6_see_13 (by decide) (fun c4 => ?_) (fun c4 => ?_)
    · rw [if_neg c4] at hf
      refine lv_aload_n hx hb dX6_see_19 rfl (lv_at hl 0 rfl) ?_
      refine k_get (T := TX6) (N := 27) X I inU6 0 dwG_0 rfl 14 (by decide) uw_4_13 rfl rfl dX6_see_20 ?_
      refine lv_bipush (v := 8) hx hb dX6_see_23 (by decide) ?_
      refine lv_icmp_ne (tgt := 31) hx hb dX6_see_25 (by decide) (fun c5 => ?_) (fun c5 => ?_)
      · rw [if_neg c5] at hf
        refine lv_aload_n hx hb dX6_see_31 rfl (lv_at hl 0 rfl) ?_
        refine k_get (T := TX6) (N := 27) X I inU6 0 dwG_0 rfl 15 (by decide) uw_4_14 rfl rfl dX6_see_32 ?_
        refine lv_iconst (v := 3) hx hb dX6_see_35 (by decide) ?_
        refine lv_aload_n hx hb dX6_see_36 rfl (lv_at hl 0 rfl) ?_
        refine k_get (T := TX6) (N := 27) X I inU6 0 dwG_0 rfl 14 (by decide) uw_4_13 rfl rfl dX6_see_37 ?_
        refine lv_imul hx hb dX6_see_40 ?_
        refine lv_iload_n hx hb dX6_see_41 rfl (lv_at hl 1 rfl) ?_
        obtain ⟨g6, h_g6, hf⟩ := k_bind hf
        obtain ⟨M7, e_M7, hf⟩ := k_nm hf
        refine k_ast (M1 := M7) X I h_g6 7 dwG_7 dX6_see_42 (dwA_6.trans (congrArg (dw q aI) e_M7)) (fun H locs I => ?_)
        refine lv_aload_n hx hb dX6_see_43 rfl (lv_at hl 0 rfl) ?_
        refine k_get (T := TX6) (N := 27) X I inU6 0 dwG_0 rfl 15 (by decide) uw_4_14 rfl rfl dX6_see_44 ?_
        refine lv_iconst (v := 3) hx hb dX6_see_47 (by decide) ?_
        refine lv_aload_n hx hb dX6_see_48 rfl (lv_at hl 0 rfl) ?_
        refine k_get (T := TX6) (N := 27) X I inU6 0 dwG_0 rfl 14 (by decide) uw_4_13 rfl rfl dX6_see_49 ?_
        refine lv_imul hx hb dX6_see_52 ?_
        refine lv_iconst (v := 1) hx hb dX6_see_53 (by decide) ?_
        refine lv_iadd hx hb dX6_see_54 ?_
        refine lv_iload_n hx hb dX6_see_55 rfl (lv_at hl 2 rfl) ?_
        obtain ⟨g8, h_g8, hf⟩ := k_bind hf
        obtain ⟨M9, e_M9, hf⟩ := k_nm hf
        refine k_ast (M1 := M9) X I h_g8 7 dwG_7 dX6_see_56 (dwA_6.trans (congrArg (dw q aI) e_M9)) (fun H locs I => ?_)
        refine lv_aload_n hx hb dX6_see_57 rfl (lv_at hl 0 rfl) ?_
        refine k_get (T := TX6) (N := 27) X I inU6 0 dwG_0 rfl 15 (by decide) uw_4_14 rfl rfl dX6_see_58 ?_
        refine lv_iconst (v := 3) hx hb dX6_see_61 (by decide) ?_
        refine lv_aload_n hx hb dX6_see_62 rfl (lv_at hl 0 rfl) ?_
        refine k_get (T := TX6) (N := 27) X I inU6 0 dwG_0 rfl 14 (by decide) uw_4_13 rfl rfl dX6_see_63 ?_
        refine lv_imul hx hb dX6_see_66 ?_
        refine lv_iconst (v := 2) hx hb dX6_see_67 (by decide) ?_
        refine lv_iadd hx hb dX6_see_68 ?_
        refine lv_iload_n hx hb dX6_see_69 rfl (lv_at hl 3 rfl) ?_
        refine lv_if_eq (tgt := 77) hx hb dX6_see_70 (by decide) (fun c10 => ?_) (fun c10 => ?_)
        · rw [if_pos c10] at hf
          refine lv_iconst (v := 0) hx hb dX6_see_77 (by decide) ?_
          exact B78 (0 : Int32) (((3 : Int32) * (M9.1 8)) + (2 : Int32)) M9 _ _ ls hf I (lv_sub hl [0] rfl)
        · rw [if_neg c10] at hf
          refine lv_iconst (v := 1) hx hb dX6_see_73 (by decide) ?_
          refine lv_goto (tgt := 78) hx hb dX6_see_74 (by decide) ?_
          exact B78 (1 : Int32) (((3 : Int32) * (M9.1 8)) + (2 : Int32)) M9 _ _ ls hf I (lv_sub hl [0] rfl)
      · rw [if_pos c5] at hf
        refine lv_bipush (v := (-104)) hx hb dX6_see_28 (by decide) ?_
        exact k_iret X I hr hlocks dX6_see_30 hf
    · rw [if_pos c4] at hf
      refine lv_bipush (v := (-101)) hx hb dX6_see_16 (by decide) ?_
      exact k_iret X I hr hlocks dX6_see_18 hf
