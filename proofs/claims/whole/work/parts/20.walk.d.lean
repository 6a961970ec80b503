/-! LostTentModel.in(JJJ)Z -/
abbrev rm_X6_in : Room := { frames := 0, cells := 0, slots := 0, locals := 0 }
def f_X6_in (x0 : Int64) (x2 : Int64) (x4 : Int64) : Option Int32 :=
  if (lg_cmp x0 x2) < 0 then
    xbo (0 : Int32)
  else
    if 0 < (lg_cmp x0 x4) then
      xbo (0 : Int32)
    else
      xbo (1 : Int32)
set_option maxRecDepth 100000 in
set_option maxHeartbeats 8000000 in
theorem c_X6_in {l : Launch} {D : va_G} {aI : ClassId} {q t : Nat → Nat} {x0 : Int64} {x2 : Int64} {x4 : Int64} {M : xM} {r : Int32} (hf : f_X6_in x0 x2 x4 = some r) : kM l yX6_in (wk yX6_in cX6_in 6 (some .boolean)) rm_X6_in (dw q aI) D aI t [.long x0, .long x2, .long x4] M (some (.int r)) M := by
  refine kM_of (by decide) (Nat.le_of_ble_eq_true rfl) ?_
  intro p e s m args below meth c A ls X hr hlocks hl I
  have hx := X.1
  have hb := X.2.1
  have hl : lv_has ls 6 [(0, .long x0), (2, .long x2), (4, .long x4)] := hl
  rw [f_X6_in] at hf
  refine lv_lload_n hx hb dX6_in_0 rfl (lv_at hl 0 rfl) ?_
  refine lv_lload_n hx hb dX6_in_1 rfl (lv_at hl 1 rfl) ?_
  refine W.lcmp hx hb dX6_in_2 ?_
  refine lv_if_lt (tgt := 17) hx hb dX6_in_3 (by decide) (fun c1 => ?_) (fun c1 => ?_)
  · rw [if_pos c1] at hf
    refine lv_iconst (v := 0) hx hb dX6_in_17 (by decide) ?_
    exact k_zretP X I hr hlocks dX6_in_18 hf
  · rw [if_neg c1] at hf
    refine lv_lload_n hx hb dX6_in_6 rfl (lv_at hl 0 rfl) ?_
    refine lv_lload hx hb dX6_in_7 (lv_at hl 2 rfl) ?_
    refine W.lcmp hx hb dX6_in_9 ?_
    refine lv_if_gt (tgt := 17) hx hb dX6_in_10 (by decide) (fun c2 => ?_) (fun c2 => ?_)
    · rw [if_pos c2] at hf
      refine lv_iconst (v := 0) hx hb dX6_in_17 (by decide) ?_
      exact k_zretP X I hr hlocks dX6_in_18 hf
    · rw [if_neg c2] at hf
      refine lv_iconst (v := 1) hx hb dX6_in_13 (by decide) ?_
      refine lv_goto (tgt := 18) hx hb dX6_in_14 (by decide) ?_
      exact k_zretP X I hr hlocks dX6_in_18 hf
/-! LostTentModel.letter(I)I -/
abbrev rm_X6_letter : Room := { frames := 1, cells := 0, slots := 0, locals := 25 }
def f_X6_letter (x1 : Int32) (M : xM) : Option (Int32 × xM) :=
  (f_X6_in x1.toInt64 (1 : Int64) (126 : Int64)).bind fun r1 =>
  if r1 = 0 then
    some ((-102 : Int32), M)
  else
    if (M.1 0) = (36 : Int32) then
      some ((-104 : Int32), M)
    else
      (xst 36 (M.2.2 0) (M.1 0) x1).bind fun g4 =>
      nmM (xA M 0 g4) fun M5 =>
      nmM (xI M5 0 ((M5.1 0) + (1 : Int32))) fun M6 =>
      some ((M6.1 0), M6)
set_option maxRecDepth 100000 in
set_option maxHeartbeats 8000000 in
theorem c_X6_letter {l : Launch} {D : va_G} {aI : ClassId} {q t : Nat → Nat} {x1 : Int32} {M : xM} {r : Int32} {Mr : xM} (hf : f_X6_letter x1 M = some (r, Mr)) : kM l yX6_letter (wk yX6_letter cX6_letter 2 (some .int)) rm_X6_letter (dw q aI) D aI t [.ref (q 0), .int x1] M (some (.int r)) Mr := by
  refine kM_of (by decide) (Nat.le_of_ble_eq_true rfl) ?_
  intro p e s m args below meth c A ls X hr hlocks hl I
  have hx := X.1
  have hb := X.2.1
  have hl : lv_has ls 2 [(0, .ref (q 0)), (1, .int x1)] := hl
  rw [f_X6_letter] at hf
  refine lv_iload_n hx hb dX6_letter_0 rfl (lv_at hl 1 rfl) ?_
  refine lv_i2l hx hb dX6_letter_1 rfl ?_
  refine lv_lconst (v := 1) hx hb dX6_letter_2 (by decide) ?_
  refine lv_ldc2 (v := 126) hx hb X.2.2.2.1 (X.2.2.2.2.1 _ uw_4_85) dX6_letter_3 ?_
  obtain ⟨r1, h_r1, hf⟩ := k_bind hf
  refine k_callS (n := 3) (As := [.long x1.toInt64, .long (1 : Int64), .long (126 : Int64)]) (rest := []) X I (c_X6_in h_r1) uw_4_86 uw_4_87 uw_1_7 uw_4_88 ⟨rfl, rfl⟩ (by decide +kernel) rfl ⟨Nat.le_of_ble_eq_true rfl, Nat.le_of_ble_eq_true rfl⟩ ⟨Nat.le_of_ble_eq_true rfl, Nat.le_of_ble_eq_true rfl⟩ hl.1 rfl (Nat.le_of_ble_eq_true rfl) dX6_letter_6 (st1 := [.int r1]) rfl (fun H locs I => ?_)
  refine lv_if_ne (tgt := 15) hx hb dX6_letter_9 (by decide) (fun c2 => ?_) (fun c2 => ?_)
  · rw [if_neg c2] at hf
    refine lv_aload_n hx hb dX6_letter_15 rfl (lv_at hl 0 rfl) ?_
    refine k_get (T := TX6) (N := 27) X I inU6 0 dwG_0 rfl 1 (by decide) uw_4_0 rfl rfl dX6_letter_16 ?_
    refine lv_bipush (v := 36) hx hb dX6_letter_19 (by decide) ?_
    refine lv_icmp_ne (tgt := 27) hx hb dX6_letter_21 (by decide) (fun c3 => ?_) (fun c3 => ?_)
    · rw [if_neg c3] at hf
      refine lv_aload_n hx hb dX6_letter_27 rfl (lv_at hl 0 rfl) ?_
      refine k_get (T := TX6) (N := 27) X I inU6 0 dwG_0 rfl 0 (by decide) uw_3_239 rfl rfl dX6_letter_28 ?_
      refine lv_aload_n hx hb dX6_letter_31 rfl (lv_at hl 0 rfl) ?_
      refine k_get (T := TX6) (N := 27) X I inU6 0 dwG_0 rfl 1 (by decide) uw_4_0 rfl rfl dX6_letter_32 ?_
      refine lv_iload_n hx hb dX6_letter_35 rfl (lv_at hl 1 rfl) ?_
      obtain ⟨g4, h_g4, hf⟩ := k_bind hf
      obtain ⟨M5, e_M5, hf⟩ := k_nm hf
      refine k_ast (M1 := M5) X I h_g4 1 dwG_1 dX6_letter_36 (dwA_0.trans (congrArg (dw q aI) e_M5)) (fun H locs I => ?_)
      refine lv_aload_n hx hb dX6_letter_37 rfl (lv_at hl 0 rfl) ?_
      refine lv_dup hx hb dX6_letter_38 rfl ?_
      refine k_get (T := TX6) (N := 27) X I inU6 0 dwG_0 rfl 1 (by decide) uw_4_0 rfl rfl dX6_letter_39 ?_
      refine lv_iconst (v := 1) hx hb dX6_letter_42 (by decide) ?_
      refine lv_iadd hx hb dX6_letter_43 ?_
      obtain ⟨M6, e_M6, hf⟩ := k_nm hf
      refine k_put (T := TX6) (N := 27) (M1 := M6) X I inU6 tyX6 tyX6_ok nmX6 0 dwG_0 rfl 1 (by decide) uw_4_0 rfl rfl (tyX6_ok 1 (by decide)) rfl rfl (Nat.le_of_ble_eq_true rfl) dX6_letter_44 (dwI_0.trans (congrArg (dw q aI) e_M6)) (fun H locs I => ?_)
      refine lv_aload_n hx hb dX6_letter_47 rfl (lv_at hl 0 rfl) ?_
      refine k_get (T := TX6) (N := 27) X I inU6 0 dwG_0 rfl 1 (by decide) uw_4_0 rfl rfl dX6_letter_48 ?_
      exact k_iret X I hr hlocks dX6_letter_51 hf
    · rw [if_pos c3] at hf
      refine lv_bipush (v := (-104)) hx hb dX6_letter_24 (by decide) ?_
      exact k_iret X I hr hlocks dX6_letter_26 hf
  · rw [if_pos c2] at hf
    refine lv_bipush (v := (-102)) hx hb dX6_letter_12 (by decide) ?_
    exact k_iret X I hr hlocks dX6_letter_14 hf
/-! LostTentModel.blank()I -/
abbrev rm_X6_blank : Room := { frames := 0, cells := 0, slots := 0, locals := 0 }
def f_X6_blank (M : xM) : Option (Int32 × xM) :=
  nmM (xI M 0 (0 : Int32)) fun M1 =>
  some ((M.1 0), M1)
set_option maxRecDepth 100000 in
set_option maxHeartbeats 8000000 in
theorem c_X6_blank {l : Launch} {D : va_G} {aI : ClassId} {q t : Nat → Nat} {M : xM} {r : Int32} {Mr : xM} (hf : f_X6_blank M = some (r, Mr)) : kM l yX6_blank (wk yX6_blank cX6_blank 2 (some .int)) rm_X6_blank (dw q aI) D aI t [.ref (q 0)] M (some (.int r)) Mr := by
  refine kM_of (by decide) (Nat.le_of_ble_eq_true rfl) ?_
  intro p e s m args below meth c A ls X hr hlocks hl I
  have hx := X.1
  have hb := X.2.1
  have hl : lv_has ls 2 [(0, .ref (q 0))] := hl
  rw [f_X6_blank] at hf
  refine lv_aload_n hx hb dX6_blank_0 rfl (lv_at hl 0 rfl) ?_
  refine k_get (T := TX6) (N := 27) X I inU6 0 dwG_0 rfl 1 (by decide) uw_4_0 rfl rfl dX6_blank_1 ?_
  refine lv_istore_n (lv' := [(1, .int (M.1 0)), (0, .ref (q 0))]) hx hb dX6_blank_4 rfl hl (by decide) rfl (fun ls hl => ?_)
  refine lv_aload_n hx hb dX6_blank_5 rfl (lv_at hl 1 rfl) ?_
  refine lv_iconst (v := 0) hx hb dX6_blank_6 (by decide) ?_
  obtain ⟨M1, e_M1, hf⟩ := k_nm hf
  refine k_put (T := TX6) (N := 27) (M1 := M1) X I inU6 tyX6 tyX6_ok nmX6 0 dwG_0 rfl 1 (by decide) uw_4_0 rfl rfl (tyX6_ok 1 (by decide)) rfl rfl (Nat.le_of_ble_eq_true rfl) dX6_blank_7 (dwI_0.trans (congrArg (dw q aI) e_M1)) (fun H locs I => ?_)
  refine lv_iload_n hx hb dX6_blank_10 rfl (lv_at hl 0 rfl) ?_
  exact k_iret X I hr hlocks dX6_blank_11 hf
/-! LostTentModel.mostOf(I)I -/
abbrev rm_X6_mostOf : Room := { frames := 0, cells := 0, slots := 0, locals := 0 }
def f_X6_mostOf (x0 : Int32) : Option Int32 :=
  if x0 = 0 then
    some (9 : Int32)
  else
    if x0 = (1 : Int32) then
      some (5 : Int32)
    else
      some (4 : Int32)
set_option maxRecDepth 100000 in
set_option maxHeartbeats 8000000 in
theorem c_X6_mostOf {l : Launch} {D : va_G} {aI : ClassId} {q t : Nat → Nat} {x0 : Int32} {M : xM} {r : Int32} (hf : f_X6_mostOf x0 = some r) : kM l yX6_mostOf (wk yX6_mostOf cX6_mostOf 1 (some .int)) rm_X6_mostOf (dw q aI) D aI t [.int x0] M (some (.int r)) M := by
  refine kM_of (by decide) (Nat.le_of_ble_eq_true rfl) ?_
  intro p e s m args below meth c A ls X hr hlocks hl I
  have hx := X.1
  have hb := X.2.1
  have hl : lv_has ls 1 [(0, .int x0)] := hl
  rw [f_X6_mostOf] at hf
  refine lv_iload_n hx hb dX6_mostOf_0 rfl (lv_at hl 0 rfl) ?_
  refine lv_if_ne (tgt := 9) hx hb dX6_mostOf_1 (by decide) (fun c1 => ?_) (fun c1 => ?_)
  · rw [if_neg c1] at hf
    refine lv_iload_n hx hb dX6_mostOf_9 rfl (lv_at hl 0 rfl) ?_
    refine lv_iconst (v := 1) hx hb dX6_mostOf_10 (by decide) ?_
    refine lv_icmp_ne (tgt := 18) hx hb dX6_mostOf_11 (by decide) (fun c2 => ?_) (fun c2 => ?_)
    · rw [if_neg c2] at hf
      refine lv_iconst (v := 4) hx hb dX6_mostOf_18 (by decide) ?_
      exact k_iretP X I hr hlocks dX6_mostOf_19 hf
    · rw [if_pos c2] at hf
      refine lv_iconst (v := 5) hx hb dX6_mostOf_14 (by decide) ?_
      refine lv_goto (tgt := 19) hx hb dX6_mostOf_15 (by decide) ?_
      exact k_iretP X I hr hlocks dX6_mostOf_19 hf
  · rw [if_pos c1] at hf
    refine lv_bipush (v := 9) hx hb dX6_mostOf_4 (by decide) ?_
    refine lv_goto (tgt := 19) hx hb dX6_mostOf_6 (by decide) ?_
    exact k_iretP X I hr hlocks dX6_mostOf_19 hf
/-! LostTentModel.kindBy(I)I -/
abbrev rm_X6_kindBy : Room := { frames := 0, cells := 0, slots := 0, locals := 0 }
def f_X6_kindBy (x0 : Int32) : Option Int32 :=
  if x0 = (99 : Int32) then
    some (0 : Int32)
  else
    if x0 = (119 : Int32) then
      some (1 : Int32)
    else
      if x0 = (108 : Int32) then
        some (2 : Int32)
      else
        if x0 = (104 : Int32) then
          some (3 : Int32)
        else
          if x0 = (110 : Int32) then
            some (4 : Int32)
          else
            some (-1 : Int32)
set_option maxRecDepth 100000 in
set_option maxHeartbeats 8000000 in
theorem c_X6_kindBy {l : Launch} {D : va_G} {aI : ClassId} {q t : Nat → Nat} {x0 : Int32} {M : xM} {r : Int32} (hf : f_X6_kindBy x0 = some r) : kM l yX6_kindBy (wk yX6_kindBy cX6_kindBy 1 (some .int)) rm_X6_kindBy (dw q aI) D aI t [.int x0] M (some (.int r)) M := by
  refine kM_of (by decide) (Nat.le_of_ble_eq_true rfl) ?_
  intro p e s m args below meth c A ls X hr hlocks hl I
  have hx := X.1
  have hb := X.2.1
  have hl : lv_has ls 1 [(0, .int x0)] := hl
  rw [f_X6_kindBy] at hf
  refine lv_iload_n hx hb dX6_kindBy_0 rfl (lv_at hl 0 rfl) ?_
  refine lv_bipush (v := 99) hx hb dX6_kindBy_1 (by decide) ?_
  refine lv_icmp_ne (tgt := 10) hx hb dX6_kindBy_3 (by decide) (fun c1 => ?_) (fun c1 => ?_)
  · rw [if_neg c1] at hf
    refine lv_iload_n hx hb dX6_kindBy_10 rfl (lv_at hl 0 rfl) ?_
    refine lv_bipush (v := 119) hx hb dX6_kindBy_11 (by decide) ?_
    refine lv_icmp_ne (tgt := 20) hx hb dX6_kindBy_13 (by decide) (fun c2 => ?_) (fun c2 => ?_)
    · rw [if_neg c2] at hf
      refine lv_iload_n hx hb dX6_kindBy_20 rfl (lv_at hl 0 rfl) ?_
      refine lv_bipush (v := 108) hx hb dX6_kindBy_21 (by decide) ?_
      refine lv_icmp_ne (tgt := 30) hx hb dX6_kindBy_23 (by decide) (fun c3 => ?_) (fun c3 => ?_)
      · rw [if_neg c3] at hf
        refine lv_iload_n hx hb dX6_kindBy_30 rfl (lv_at hl 0 rfl) ?_
        refine lv_bipush (v := 104) hx hb dX6_kindBy_31 (by decide) ?_
        refine lv_icmp_ne (tgt := 40) hx hb dX6_kindBy_33 (by decide) (fun c4 => ?_) (fun c4 => ?_)
        · rw [if_neg c4] at hf
          refine lv_iload_n hx hb dX6_kindBy_40 rfl (lv_at hl 0 rfl) ?_
          refine lv_bipush (v := 110) hx hb dX6_kindBy_41 (by decide) ?_
          refine lv_icmp_ne (tgt := 50) hx hb dX6_kindBy_43 (by decide) (fun c5 => ?_) (fun c5 => ?_)
          · rw [if_neg c5] at hf
            refine lv_iconst (v := (-1)) hx hb dX6_kindBy_50 (by decide) ?_
            exact k_iretP X I hr hlocks dX6_kindBy_51 hf
          · rw [if_pos c5] at hf
            refine lv_iconst (v := 4) hx hb dX6_kindBy_46 (by decide) ?_
            refine lv_goto (tgt := 51) hx hb dX6_kindBy_47 (by decide) ?_
            exact k_iretP X I hr hlocks dX6_kindBy_51 hf
        · rw [if_pos c4] at hf
          refine lv_iconst (v := 3) hx hb dX6_kindBy_36 (by decide) ?_
          refine lv_goto (tgt := 51) hx hb dX6_kindBy_37 (by decide) ?_
          exact k_iretP X I hr hlocks dX6_kindBy_51 hf
      · rw [if_pos c3] at hf
        refine lv_iconst (v := 2) hx hb dX6_kindBy_26 (by decide) ?_
        refine lv_goto (tgt := 51) hx hb dX6_kindBy_27 (by decide) ?_
        exact k_iretP X I hr hlocks dX6_kindBy_51 hf
    · rw [if_pos c2] at hf
      refine lv_iconst (v := 1) hx hb dX6_kindBy_16 (by decide) ?_
      refine lv_goto (tgt := 51) hx hb dX6_kindBy_17 (by decide) ?_
      exact k_iretP X I hr hlocks dX6_kindBy_51 hf
  · rw [if_pos c1] at hf
    refine lv_iconst (v := 0) hx hb dX6_kindBy_6 (by decide) ?_
    refine lv_goto (tgt := 51) hx hb dX6_kindBy_7 (by decide) ?_
    exact k_iretP X I hr hlocks dX6_kindBy_51 hf
/-! LostTentModel.isGood(I)Z -/
abbrev rm_X6_isGood : Room := { frames := 1, cells := 0, slots := 0, locals := 25 }
def f_X6_isGood_b58 (x1 : Int32) (x2 : Int32) (Mb : xM) : Option (Int32 × xM) :=
  if x2 = (44 : Int32) then
    if (19 : Int32) ≤ x1 then
      (xbo (0 : Int32)).bind fun z => some (z, Mb)
    else
      (xbo (1 : Int32)).bind fun z => some (z, Mb)
  else
    (xbo (0 : Int32)).bind fun z => some (z, Mb)
def f_X6_isGood (x1 : Int32) (M : xM) : Option (Int32 × xM) :=
  (xld 36 (M.2.2 0) x1).bind fun r1 =>
  if (M.1 1) = (-1 : Int32) then
    if (3 : Int32) ≤ (x1 - x1 / (4 : Int32) * (4 : Int32)) then
      if r1 = (59 : Int32) then
        if x1 ≤ (6 : Int32) then
          f_X6_isGood_b58 x1 r1 M
        else
          nmM (xI M 1 x1) fun M16 =>
          (xbo (1 : Int32)).bind fun z => some (z, M16)
      else
        f_X6_isGood_b58 x1 r1 M
    else
      (f_X6_mostOf (x1 - x1 / (4 : Int32) * (4 : Int32))).bind fun r17 =>
      (f_X6_in ((r1 - (48 : Int32)).toInt64) (0 : Int64) r17.toInt64).bind fun r18 =>
      (xbo r18).bind fun z => some (z, M)
  else
    if (((x1 - (M.1 1)) - (1 : Int32)) - ((x1 - (M.1 1)) - (1 : Int32)) / (5 : Int32) * (5 : Int32)) = 0 then
      (f_X6_kindBy r1).bind fun r9 =>
      if r9 = (-1 : Int32) then
        (xbo (0 : Int32)).bind fun z => some (z, M)
      else
        (xbo (1 : Int32)).bind fun z => some (z, M)
    else
      if (((x1 - (M.1 1)) - (1 : Int32)) - ((x1 - (M.1 1)) - (1 : Int32)) / (5 : Int32) * (5 : Int32)) = (4 : Int32) then
        if r1 = (44 : Int32) then
          if (14 : Int32) ≤ ((x1 - (M.1 1)) - (1 : Int32)) then
            (xbo (0 : Int32)).bind fun z => some (z, M)
          else
            (xbo (1 : Int32)).bind fun z => some (z, M)
        else
          (xbo (0 : Int32)).bind fun z => some (z, M)
      else
        (f_X6_mostOf ((((x1 - (M.1 1)) - (1 : Int32)) - ((x1 - (M.1 1)) - (1 : Int32)) / (5 : Int32) * (5 : Int32)) - (1 : Int32))).bind fun r5 =>
        (f_X6_in ((r1 - (48 : Int32)).toInt64) (0 : Int64) r5.toInt64).bind fun r6 =>
        (xbo r6).bind fun z => some (z, M)
set_option maxRecDepth 100000 in
set_option maxHeartbeats 8000000 in
theorem c_X6_isGood {l : Launch} {D : va_G} {aI : ClassId} {q t : Nat → Nat} {x1 : Int32} {M : xM} {r : Int32} {Mr : xM} (hf : f_X6_isGood x1 M = some (r, Mr)) : kM l yX6_isGood (wk yX6_isGood cX6_isGood 4 (some .boolean)) rm_X6_isGood (dw q aI) D aI t [.ref (q 0), .int x1] M (some (.int r)) Mr := by
  refine kM_of (by decide) (Nat.le_of_ble_eq_true rfl) ?_
  intro p e s m args below meth c A ls X hr hlocks hl I
  have hx := X.1
  have hb := X.2.1
  have hl : lv_has ls 4 [(0, .ref (q 0)), (1, .int x1)] := hl
  have B58 : ∀ (x1 : Int32) (x2 : Int32) (Mb : xM) (H : Heap) (locs : List Loc) (ls : Array Slot), f_X6_isGood_b58 x1 x2 Mb = some (r, Mr) → kI (dw q aI) D A s Mb H locs → lv_has ls 4 [(1, .int x1), (2, .int x2)] → W p l e rm_X6_isGood s m args below meth c H locs 0 0 (MQ below (kQ (dw q aI) D A (some (.int r)) Mr) args s 0 0 A) (F0 m 58 ls []) := by
    intro x1 x2 Mb H locs ls hf I hl
    rw [f_X6_isGood_b58] at hf
    refine lv_iload_n hx hb dX6_isGood_58 rfl (lv_at hl 1 rfl) ?_
    refine lv_bipush (v := 44) hx hb dX6_isGood_59 (by decide) ?_
    refine lv_icmp_ne (tgt := 74) hx hb dX6_isGood_61 (by decide) (fun c13 => ?_) (fun c13 => ?_)
    · rw [if_neg c13] at hf
      refine lv_iconst (v := 0) hx hb dX6_isGood_74 (by decide) ?_
      exact k_zret X I hr hlocks dX6_isGood_75 hf
    · rw [if_pos c13] at hf
      refine lv_iload_n hx hb dX6_isGood_64 rfl (lv_at hl 0 rfl) ?_
      refine lv_bipush (v := 19) hx hb dX6_isGood_65 (by decide) ?_
      refine lv_icmp_ge (tgt := 74) hx hb dX6_isGood_67 (by decide) (fun c14 => ?_) (fun c14 => ?_)
      · rw [if_pos c14] at hf
        refine lv_iconst (v := 0) hx hb dX6_isGood_74 (by decide) ?_
        exact k_zret X I hr hlocks dX6_isGood_75 hf
      · rw [if_neg c14] at hf
        refine lv_iconst (v := 1) hx hb dX6_isGood_70 (by decide) ?_
        refine lv_goto (tgt := 75) hx hb dX6_isGood_71 (by decide) ?_
        exact k_zret X I hr hlocks dX6_isGood_75 hf
  rw [f_X6_isGood] at hf
  refine lv_aload_n hx hb dX6_isGood_0 rfl (lv_at hl 0 rfl) ?_
  refine k_get (T := TX6) (N := 27) X I inU6 0 dwG_0 rfl 0 (by decide) uw_3_239 rfl rfl dX6_isGood_1 ?_
  refine lv_iload_n hx hb dX6_isGood_4 rfl (lv_at hl 1 rfl) ?_
  obtain ⟨r1, h_r1, hf⟩ := k_bind hf
  refine k_ald X I h_r1 1 dwG_1 dX6_isGood_5 ?_
  refine lv_istore_n (lv' := [(2, .int r1), (0, .ref (q 0)), (1, .int x1)]) hx hb dX6_isGood_6 rfl hl (by decide) rfl (fun ls hl => ?_)
  refine lv_aload_n hx hb dX6_isGood_7 rfl (lv_at hl 1 rfl) ?_
  refine k_get (T := TX6) (N := 27) X I inU6 0 dwG_0 rfl 2 (by decide) uw_4_1 rfl rfl dX6_isGood_8 ?_
  refine lv_iconst (v := (-1)) hx hb dX6_isGood_11 (by decide) ?_
  refine lv_icmp_ne (tgt := 76) hx hb dX6_isGood_12 (by decide) (fun c2 => ?_) (fun c2 => ?_)
  · rw [if_neg c2] at hf
    refine lv_iload_n hx hb dX6_isGood_76 rfl (lv_at hl 2 rfl) ?_
    refine lv_aload_n hx hb dX6_isGood_77 rfl (lv_at hl 1 rfl) ?_
    refine k_get (T := TX6) (N := 27) X I inU6 0 dwG_0 rfl 2 (by decide) uw_4_1 rfl rfl dX6_isGood_78 ?_
    refine lv_isub hx hb dX6_isGood_81 ?_
    refine lv_iconst (v := 1) hx hb dX6_isGood_82 (by decide) ?_
    refine lv_isub hx hb dX6_isGood_83 ?_
    refine lv_istore_n (lv' := [(3, .int ((x1 - (M.1 1)) - (1 : Int32))), (2, .int r1), (0, .ref (q 0)), (1, .int x1)]) hx hb dX6_isGood_84 rfl hl (by decide) rfl (fun ls hl => ?_)
    refine lv_iload_n hx hb dX6_isGood_85 rfl (lv_at hl 0 rfl) ?_
    refine lv_iconst (v := 5) hx hb dX6_isGood_86 (by decide) ?_
    refine lv_irem hx hb dX6_isGood_87 (by decide) ?_
    refine lv_if_ne (tgt := 105) hx hb dX6_isGood_88 (by decide) (fun c3 => ?_) (fun c3 => ?_)
    · rw [if_neg c3] at hf
      refine lv_iload_n hx hb dX6_isGood_105 rfl (lv_at hl 0 rfl) ?_
      refine lv_iconst (v := 5) hx hb dX6_isGood_106 (by decide) ?_
      refine lv_irem hx hb dX6_isGood_107 (by decide) ?_
      refine lv_iconst (v := 4) hx hb dX6_isGood_108 (by decide) ?_
      refine lv_icmp_ne (tgt := 132) hx hb dX6_isGood_109 (by decide) (fun c4 => ?_) (fun c4 => ?_)
      · rw [if_neg c4] at hf
        refine lv_iload_n hx hb dX6_isGood_132 rfl (lv_at hl 1 rfl) ?_
        refine lv_bipush (v := 48) hx hb dX6_isGood_133 (by decide) ?_
        refine lv_isub hx hb dX6_isGood_135 ?_
        refine lv_i2l hx hb dX6_isGood_136 rfl ?_
        refine lv_lconst (v := 0) hx hb dX6_isGood_137 (by decide) ?_
        refine lv_iload_n hx hb dX6_isGood_138 rfl (lv_at hl 0 rfl) ?_
        refine lv_iconst (v := 5) hx hb dX6_isGood_139 (by decide) ?_
        refine lv_irem hx hb dX6_isGood_140 (by decide) ?_
        refine lv_iconst (v := 1) hx hb dX6_isGood_141 (by decide) ?_
        refine lv_isub hx hb dX6_isGood_142 ?_
        obtain ⟨r5, h_r5, hf⟩ := k_bind hf
        refine k_callS (n := 1) (As := [.int ((((x1 - (M.1 1)) - (1 : Int32)) - ((x1 - (M.1 1)) - (1 : Int32)) / (5 : Int32) * (5 : Int32)) - (1 : Int32))]) (rest := [.long (0 : Int64), .long ((r1 - (48 : Int32)).toInt64)]) X I (c_X6_mostOf h_r5) uw_4_105 uw_4_106 uw_1_7 uw_4_107 ⟨rfl, rfl⟩ (by decide +kernel) rfl ⟨Nat.le_of_ble_eq_true rfl, Nat.le_of_ble_eq_true rfl⟩ ⟨Nat.le_of_ble_eq_true rfl, Nat.le_of_ble_eq_true rfl⟩ hl.1 rfl (Nat.le_of_ble_eq_true rfl) dX6_isGood_143 (st1 := [.int r5, .long (0 : Int64), .long ((r1 - (48 : Int32)).toInt64)]) rfl (fun H locs I => ?_)
        refine lv_i2l hx hb dX6_isGood_146 rfl ?_
        obtain ⟨r6, h_r6, hf⟩ := k_bind hf
        refine k_callS (n := 3) (As := [.long ((r1 - (48 : Int32)).toInt64), .long (0 : Int64), .long r5.toInt64]) (rest := []) X I (c_X6_in h_r6) uw_4_86 uw_4_87 uw_1_7 uw_4_88 ⟨rfl, rfl⟩ (by decide +kernel) rfl ⟨Nat.le_of_ble_eq_true rfl, Nat.le_of_ble_eq_true rfl⟩ ⟨Nat.le_of_ble_eq_true rfl, Nat.le_of_ble_eq_true rfl⟩ hl.1 rfl (Nat.le_of_ble_eq_true rfl) dX6_isGood_147 (st1 := [.int r6]) rfl (fun H locs I => ?_)
        exact k_zret X I hr hlocks dX6_isGood_150 hf
      · rw [if_pos c4] at hf
        refine lv_iload_n hx hb dX6_isGood_112 rfl (lv_at hl 1 rfl) ?_
        refine lv_bipush (v := 44) hx hb dX6_isGood_113 (by decide) ?_
        refine lv_icmp_ne (tgt := 128) hx hb dX6_isGood_115 (by decide) (fun c7 => ?_) (fun c7 => ?_)
        · rw [if_neg c7] at hf
          refine lv_iconst (v := 0) hx hb dX6_isGood_128 (by decide) ?_
          refine lv_goto (tgt := 150) hx hb dX6_isGood_129 (by decide) ?_
          exact k_zret X I hr hlocks dX6_isGood_150 hf
        · rw [if_pos c7] at hf
          refine lv_iload_n hx hb dX6_isGood_118 rfl (lv_at hl 0 rfl) ?_
          refine lv_bipush (v := 14) hx hb dX6_isGood_119 (by decide) ?_
          refine lv_icmp_ge (tgt := 128) hx hb dX6_isGood_121 (by decide) (fun c8 => ?_) (fun c8 => ?_)
          · rw [if_pos c8] at hf
            refine lv_iconst (v := 0) hx hb dX6_isGood_128 (by decide) ?_
            refine lv_goto (tgt := 150) hx hb dX6_isGood_129 (by decide) ?_
            exact k_zret X I hr hlocks dX6_isGood_150 hf
          · rw [if_neg c8] at hf
            refine lv_iconst (v := 1) hx hb dX6_isGood_124 (by decide) ?_
            refine lv_goto (tgt := 150) hx hb dX6_isGood_125 (by decide) ?_
            exact k_zret X I hr hlocks dX6_isGood_150 hf
    · rw [if_pos c3] at hf
      refine lv_iload_n hx hb dX6_isGood_91 rfl (lv_at hl 1 rfl) ?_
      obtain ⟨r9, h_r9, hf⟩ := k_bind hf
      refine k_callS (n := 1) (As := [.int r1]) (rest := []) X I (c_X6_kindBy h_r9) uw_4_108 uw_4_109 uw_1_7 uw_4_110 ⟨rfl, rfl⟩ (by decide +kernel) rfl ⟨Nat.le_of_ble_eq_true rfl, Nat.le_of_ble_eq_true rfl⟩ ⟨Nat.le_of_ble_eq_true rfl, Nat.le_of_ble_eq_true rfl⟩ hl.1 rfl (Nat.le_of_ble_eq_true rfl) dX6_isGood_92 (st1 := [.int r9]) rfl (fun H locs I => ?_)
      refine lv_iconst (v := (-1)) hx hb dX6_isGood_95 (by decide) ?_
      refine lv_icmp_eq (tgt := 103) hx hb dX6_isGood_96 (by decide) (fun c10 => ?_) (fun c10 => ?_)
      · rw [if_pos c10] at hf
        refine lv_iconst (v := 0) hx hb dX6_isGood_103 (by decide) ?_
        exact k_zret X I hr hlocks dX6_isGood_104 hf
      · rw [if_neg c10] at hf
        refine lv_iconst (v := 1) hx hb dX6_isGood_99 (by decide) ?_
        refine lv_goto (tgt := 104) hx hb dX6_isGood_100 (by decide) ?_
        exact k_zret X I hr hlocks dX6_isGood_104 hf
  · rw [if_pos c2] at hf
    refine lv_iload_n hx hb dX6_isGood_15 rfl (lv_at hl 2 rfl) ?_
    refine lv_iconst (v := 4) hx hb dX6_isGood_16 (by decide) ?_
    refine lv_irem hx hb dX6_isGood_17 (by decide) ?_
    refine lv_iconst (v := 3) hx hb dX6_isGood_18 (by decide) ?_
    refine lv_icmp_ge (tgt := 39) hx hb dX6_isGood_19 (by decide) (fun c11 => ?_) (fun c11 => ?_)
    · rw [if_pos c11] at hf
      refine lv_iload_n hx hb dX6_isGood_39 rfl (lv_at hl 0 rfl) ?_
      refine lv_bipush (v := 59) hx hb dX6_isGood_40 (by decide) ?_
      refine lv_icmp_ne (tgt := 58) hx hb dX6_isGood_42 (by decide) (fun c12 => ?_) (fun c12 => ?_)
      · rw [if_neg c12] at hf
        exact B58 x1 r1 M _ _ ls hf I (lv_sub hl [2, 0] rfl)
      · rw [if_pos c12] at hf
        refine lv_iload_n hx hb dX6_isGood_45 rfl (lv_at hl 2 rfl) ?_
        refine lv_bipush (v := 6) hx hb dX6_isGood_46 (by decide) ?_
        refine lv_icmp_le (tgt := 58) hx hb dX6_isGood_48 (by decide) (fun c15 => ?_) (fun c15 => ?_)
        · rw [if_pos c15] at hf
          exact B58 x1 r1 M _ _ ls hf I (lv_sub hl [2, 0] rfl)
        · rw [if_neg c15] at hf
          refine lv_aload_n hx hb dX6_isGood_51 rfl (lv_at hl 1 rfl) ?_
          refine lv_iload_n hx hb dX6_isGood_52 rfl (lv_at hl 2 rfl) ?_
          obtain ⟨M16, e_M16, hf⟩ := k_nm hf
          refine k_put (T := TX6) (N := 27) (M1 := M16) X I inU6 tyX6 tyX6_ok nmX6 0 dwG_0 rfl 2 (by decide) uw_4_1 rfl rfl (tyX6_ok 2 (by decide)) rfl rfl (Nat.le_of_ble_eq_true rfl) dX6_isGood_53 (dwI_1.trans (congrArg (dw q aI) e_M16)) (fun H locs I => ?_)
          refine lv_iconst (v := 1) hx hb dX6_isGood_56 (by decide) ?_
          exact k_zret X I hr hlocks dX6_isGood_57 hf
    · rw [if_neg c11] at hf
      refine lv_iload_n hx hb dX6_isGood_22 rfl (lv_at hl 0 rfl) ?_
      refine lv_bipush (v := 48) hx hb dX6_isGood_23 (by decide) ?_
      refine lv_isub hx hb dX6_isGood_25 ?_
      refine lv_i2l hx hb dX6_isGood_26 rfl ?_
      refine lv_lconst (v := 0) hx hb dX6_isGood_27 (by decide) ?_
      refine lv_iload_n hx hb dX6_isGood_28 rfl (lv_at hl 2 rfl) ?_
      refine lv_iconst (v := 4) hx hb dX6_isGood_29 (by decide) ?_
      refine lv_irem hx hb dX6_isGood_30 (by decide) ?_
      obtain ⟨r17, h_r17, hf⟩ := k_bind hf
      refine k_callS (n := 1) (As := [.int (x1 - x1 / (4 : Int32) * (4 : Int32))]) (rest := [.long (0 : Int64), .long ((r1 - (48 : Int32)).toInt64)]) X I (c_X6_mostOf h_r17) uw_4_105 uw_4_106 uw_1_7 uw_4_107 ⟨rfl, rfl⟩ (by decide +kernel) rfl ⟨Nat.le_of_ble_eq_true rfl, Nat.le_of_ble_eq_true rfl⟩ ⟨Nat.le_of_ble_eq_true rfl, Nat.le_of_ble_eq_true rfl⟩ hl.1 rfl (Nat.le_of_ble_eq_true rfl) dX6_isGood_31 (st1 := [.int r17, .long (0 : Int64), .long ((r1 - (48 : Int32)).toInt64)]) rfl (fun H locs I => ?_)
      refine lv_i2l hx hb dX6_isGood_34 rfl ?_
      obtain ⟨r18, h_r18, hf⟩ := k_bind hf
      refine k_callS (n := 3) (As := [.long ((r1 - (48 : Int32)).toInt64), .long (0 : Int64), .long r17.toInt64]) (rest := []) X I (c_X6_in h_r18) uw_4_86 uw_4_87 uw_1_7 uw_4_88 ⟨rfl, rfl⟩ (by decide +kernel) rfl ⟨Nat.le_of_ble_eq_true rfl, Nat.le_of_ble_eq_true rfl⟩ ⟨Nat.le_of_ble_eq_true rfl, Nat.le_of_ble_eq_true rfl⟩ hl.1 rfl (Nat.le_of_ble_eq_true rfl) dX6_isGood_35 (st1 := [.int r18]) rfl (fun H locs I => ?_)
      exact k_zret X I hr hlocks dX6_isGood_38 hf
/-! LostTentModel.faultOf()I -/
abbrev rm_X6_faultOf : Room := { frames := 2, cells := 0, slots := 0, locals := 48 }
def f_X6_faultOf_l7 : Nat → Int32 → xM → Option (Int32 × xM)
  | 0, _, _ => none
  | n7 + 1, x1, Mb =>
    if (Mb.1 0) ≤ x1 then
      some (x1, Mb)
    else
      ob2 (f_X6_isGood x1 Mb) fun r3 M4 =>
      if r3 = 0 then
        some (x1, M4)
      else
        (f_X6_faultOf_l7 n7) (x1 + 1) M4
def f_X6_faultOf (M : xM) : Option (Int32 × xM) :=
  nmM (xI M 1 (-1 : Int32)) fun M1 =>
  f_X6_faultOf_l7 xN (0 : Int32) M1
set_option maxRecDepth 100000 in
set_option maxHeartbeats 8000000 in
theorem c_X6_faultOf {l : Launch} {D : va_G} {aI : ClassId} {q t : Nat → Nat} {M : xM} {r : Int32} {Mr : xM} (hf : f_X6_faultOf M = some (r, Mr)) : kM l yX6_faultOf (wk yX6_faultOf cX6_faultOf 2 (some .int)) rm_X6_faultOf (dw q aI) D aI t [.ref (q 0)] M (some (.int r)) Mr := by
  refine kM_of (by decide) (Nat.le_of_ble_eq_true rfl) ?_
  intro p e s m args below meth c A ls X hr hlocks hl I
  have hx := X.1
  have hb := X.2.1
  have hl : lv_has ls 2 [(0, .ref (q 0))] := hl
  have B7 : ∀ (n7 : Nat), ∀ (x1 : Int32) (Mb : xM) (H : Heap) (locs : List Loc) (ls : Array Slot), f_X6_faultOf_l7 n7 x1 Mb = some (r, Mr) → kI (dw q aI) D A s Mb H locs → lv_has ls 2 [(0, .ref (q 0)), (1, .int x1)] → W p l e rm_X6_faultOf s m args below meth c H locs 0 0 (MQ below (kQ (dw q aI) D A (some (.int r)) Mr) args s 0 0 A) (F0 m 7 ls []) := by
    intro n7
    induction n7 with
    | zero =>
      intro x1 Mb H locs ls hf I hl
      rw [f_X6_faultOf_l7] at hf
      cases hf
    | succ n7 ih7 =>
      intro x1 Mb H locs ls hf I hl
      rw [f_X6_faultOf_l7] at hf
      refine lv_iload_n hx hb dX6_faultOf_7 rfl (lv_at hl 1 rfl) ?_
      refine lv_aload_n hx hb dX6_faultOf_8 rfl (lv_at hl 0 rfl) ?_
      refine k_get (T := TX6) (N := 27) X I inU6 0 dwG_0 rfl 1 (by decide) uw_4_0 rfl rfl dX6_faultOf_9 ?_
      refine lv_icmp_ge (tgt := 29) hx hb dX6_faultOf_12 (by decide) (fun c2 => ?_) (fun c2 => ?_)
      · rw [if_pos c2] at hf
        refine lv_iload_n hx hb dX6_faultOf_29 rfl (lv_at hl 1 rfl) ?_
        exact k_iret X I hr hlocks dX6_faultOf_30 hf
      · rw [if_neg c2] at hf
        refine lv_aload_n hx hb dX6_faultOf_15 rfl (lv_at hl 0 rfl) ?_
        refine lv_iload_n hx hb dX6_faultOf_16 rfl (lv_at hl 1 rfl) ?_
        obtain ⟨r3, M4, h_r3, hf⟩ := k_bind2 hf
        refine k_callV (n := 1) (As := [.int x1]) (rest := []) X I (c_X6_isGood h_r3) uw_4_101 uw_4_103 us_14 uw_1_7 uw_4_104 ⟨rfl, rfl⟩ (by decide +kernel) rfl ⟨Nat.le_of_ble_eq_true rfl, Nat.le_of_ble_eq_true rfl⟩ ⟨Nat.le_of_ble_eq_true rfl, Nat.le_of_ble_eq_true rfl⟩ 0 dwG_0 rfl hl.1 rfl (Nat.le_of_ble_eq_true rfl) dX6_faultOf_17 (st1 := [.int r3]) rfl (fun H locs I => ?_)
        refine lv_if_eq (tgt := 29) hx hb dX6_faultOf_20 (by decide) (fun c5 => ?_) (fun c5 => ?_)
        · rw [if_pos c5] at hf
          refine lv_iload_n hx hb dX6_faultOf_29 rfl (lv_at hl 1 rfl) ?_
          exact k_iret X I hr hlocks dX6_faultOf_30 hf
        · rw [if_neg c5] at hf
          refine lv_iinc (v := (x1 + 1)) (lv' := [(1, .int (x1 + 1)), (0, .ref (q 0))]) hx hb dX6_faultOf_23 hl (k := 1) rfl rfl (by decide) rfl (fun ls hl => ?_)
          refine lv_goto (tgt := 7) hx hb dX6_faultOf_26 (by decide) ?_
          exact ih7 (x1 + 1) M4 _ _ ls hf I (lv_sub hl [1, 0] rfl)
  rw [f_X6_faultOf] at hf
  refine lv_aload_n hx hb dX6_faultOf_0 rfl (lv_at hl 0 rfl) ?_
  refine lv_iconst (v := (-1)) hx hb dX6_faultOf_1 (by decide) ?_
  obtain ⟨M1, e_M1, hf⟩ := k_nm hf
  refine k_put (T := TX6) (N := 27) (M1 := M1) X I inU6 tyX6 tyX6_ok nmX6 0 dwG_0 rfl 2 (by decide) uw_4_1 rfl rfl (tyX6_ok 2 (by decide)) rfl rfl (Nat.le_of_ble_eq_true rfl) dX6_faultOf_2 (dwI_1.trans (congrArg (dw q aI) e_M1)) (fun H locs I => ?_)
  refine lv_iconst (v := 0) hx hb dX6_faultOf_5 (by decide) ?_
  refine lv_istore_n (lv' := [(1, .int (0 : Int32)), (0, .ref (q 0))]) hx hb dX6_faultOf_6 rfl hl (by decide) rfl (fun ls hl => ?_)
  exact B7 xN (0 : Int32) M1 _ _ ls hf I (lv_sub hl [1, 0] rfl)
/-! LostTentModel.fault()I -/
abbrev rm_X6_fault : Room := { frames := 3, cells := 0, slots := 0, locals := 69 }
def f_X6_fault (M : xM) : Option (Int32 × xM) :=
  ob2 (f_X6_faultOf M) fun r1 M2 =>
  some (r1, M2)
set_option maxRecDepth 100000 in
set_option maxHeartbeats 8000000 in
theorem c_X6_fault {l : Launch} {D : va_G} {aI : ClassId} {q t : Nat → Nat} {M : xM} {r : Int32} {Mr : xM} (hf : f_X6_fault M = some (r, Mr)) : kM l yX6_fault (wk yX6_fault cX6_fault 1 (some .int)) rm_X6_fault (dw q aI) D aI t [.ref (q 0)] M (some (.int r)) Mr := by
  refine kM_of (by decide) (Nat.le_of_ble_eq_true rfl) ?_
  intro p e s m args below meth c A ls X hr hlocks hl I
  have hx := X.1
  have hb := X.2.1
  have hl : lv_has ls 1 [(0, .ref (q 0))] := hl
  rw [f_X6_fault] at hf
  refine lv_aload_n hx hb dX6_fault_0 rfl (lv_at hl 0 rfl) ?_
  obtain ⟨r1, M2, h_r1, hf⟩ := k_bind2 hf
  refine k_callV (n := 0) (As := []) (rest := []) X I (c_X6_faultOf h_r1) uw_4_97 uw_4_99 us_13 uw_1_7 uw_4_100 ⟨rfl, rfl⟩ (by decide +kernel) rfl ⟨Nat.le_of_ble_eq_true rfl, Nat.le_of_ble_eq_true rfl⟩ ⟨Nat.le_of_ble_eq_true rfl, Nat.le_of_ble_eq_true rfl⟩ 0 dwG_0 rfl hl.1 rfl (Nat.le_of_ble_eq_true rfl) dX6_fault_1 (st1 := [.int r1]) rfl (fun H locs I => ?_)
  exact k_iret X I hr hlocks dX6_fault_4 hf
/-! LostTentModel.tent()I -/
abbrev rm_X6_tent : Room := { frames := 3, cells := 0, slots := 0, locals := 69 }
def f_X6_tent_l168 (k128 : Int32 → xM → Option (Int32 × xM)) : Nat → Int32 → Int32 → Int32 → xM → Option (Int32 × xM)
  | 0, _, _, _, _ => none
  | n168 + 1, x1, x2, x3, Mb =>
    if (3 : Int32) ≤ x3 then
      (xst 15 (Mb.2.2 2) (((5 : Int32) * x1) + (4 : Int32)) (-1 : Int32)).bind fun g21 =>
      nmM (xA Mb 2 g21) fun M22 =>
      k128 (x1 + 1) M22
    else
      (xld 36 (Mb.2.2 0) ((x2 + (1 : Int32)) + x3)).bind fun r23 =>
      (xst 15 (Mb.2.2 2) (((5 : Int32) * x1) + x3) (r23 - (48 : Int32))).bind fun g24 =>
      nmM (xA Mb 2 g24) fun M25 =>
      (f_X6_tent_l168 k128 n168) x1 x2 (x3 + 1) M25
def f_X6_tent_l128 : Nat → Int32 → xM → Option (Int32 × xM)
  | 0, _, _ => none
  | n128 + 1, x1, Mb =>
    if (Mb.1 3) ≤ x1 then
      nmM (xI Mb 4 (0 : Int32)) fun M10 =>
      nmM (xI M10 5 (0 : Int32)) fun M11 =>
      nmM (xI M11 6 (0 : Int32)) fun M12 =>
      nmM (xI M12 8 (0 : Int32)) fun M13 =>
      nmM (xI M13 7 ((M13.1 7) + (1 : Int32))) fun M14 =>
      nmM (xI M14 0 (0 : Int32)) fun M15 =>
      some ((M15.1 2), M15)
    else
      (xld 36 (Mb.2.2 0) (((Mb.1 1) + (1 : Int32)) + ((5 : Int32) * x1))).bind fun r16 =>
      (f_X6_kindBy r16).bind fun r17 =>
      (xst 15 (Mb.2.2 2) (((5 : Int32) * x1) + (3 : Int32)) r17).bind fun g18 =>
      nmM (xA Mb 2 g18) fun M19 =>
      f_X6_tent_l168 (f_X6_tent_l128 n128) xN x1 (((Mb.1 1) + (1 : Int32)) + ((5 : Int32) * x1)) (0 : Int32) M19
def f_X6_tent_l60 (k50 : Int32 → xM → Option (Int32 × xM)) : Nat → Int32 → Int32 → xM → Option (Int32 × xM)
  | 0, _, _, _ => none
  | n60 + 1, x1, x2, Mb =>
    if (3 : Int32) ≤ x2 then
      (xst 20 (Mb.2.2 1) (((4 : Int32) * x1) + (3 : Int32)) (-1 : Int32)).bind fun g27 =>
      nmM (xA Mb 1 g27) fun M28 =>
      k50 (x1 + 1) M28
    else
      (xld 36 (Mb.2.2 0) (((4 : Int32) * x1) + x2)).bind fun r29 =>
      (xst 20 (Mb.2.2 1) (((4 : Int32) * x1) + x2) (r29 - (48 : Int32))).bind fun g30 =>
      nmM (xA Mb 1 g30) fun M31 =>
      (f_X6_tent_l60 k50 n60) x1 (x2 + 1) M31
def f_X6_tent_l50 : Nat → Int32 → xM → Option (Int32 × xM)
  | 0, _, _ => none
  | n50 + 1, x1, Mb =>
    if (Mb.1 2) ≤ x1 then
      nmM (xI Mb 3 (((Mb.1 0) - (Mb.1 1)) / (5 : Int32))) fun M8 =>
      f_X6_tent_l128 xN (0 : Int32) M8
    else
      f_X6_tent_l60 (f_X6_tent_l50 n50) xN x1 (0 : Int32) Mb
def f_X6_tent (M : xM) : Option (Int32 × xM) :=
  ob2 (f_X6_faultOf M) fun r1 M2 =>
  if r1 < (M2.1 0) then
    some ((-103 : Int32), M2)
  else
    if (M2.1 1) = (-1 : Int32) then
      some ((-103 : Int32), M2)
    else
      if (((M2.1 0) - (M2.1 1)) - ((M2.1 0) - (M2.1 1)) / (5 : Int32) * (5 : Int32)) = 0 then
        nmM (xI M2 2 (((M2.1 1) + (1 : Int32)) / (4 : Int32))) fun M6 =>
        f_X6_tent_l50 xN (0 : Int32) M6
      else
        some ((-103 : Int32), M2)
set_option maxRecDepth 100000 in
set_option maxHeartbeats 8000000 in
theorem c_X6_tent {l : Launch} {D : va_G} {aI : ClassId} {q t : Nat → Nat} {M : xM} {r : Int32} {Mr : xM} (hf : f_X6_tent M = some (r, Mr)) : kM l yX6_tent (wk yX6_tent cX6_tent 4 (some .int)) rm_X6_tent (dw q aI) D aI t [.ref (q 0)] M (some (.int r)) Mr := by
  refine kM_of (by decide) (Nat.le_of_ble_eq_true rfl) ?_
  intro p e s m args below meth c A ls X hr hlocks hl I
  have hx := X.1
  have hb := X.2.1
  have hl : lv_has ls 4 [(0, .ref (q 0))] := hl
  have B168 : ∀ (k128 : Int32 → xM → Option (Int32 × xM)), (∀ (x1 : Int32) (Mb : xM) (H : Heap) (locs : List Loc) (ls : Array Slot), k128 x1 Mb = some (r, Mr) → kI (dw q aI) D A s Mb H locs → lv_has ls 4 [(0, .ref (q 0)), (1, .int x1)] → W p l e rm_X6_tent s m args below meth c H locs 0 0 (MQ below (kQ (dw q aI) D A (some (.int r)) Mr) args s 0 0 A) (F0 m 128 ls [])) → ∀ (n168 : Nat), ∀ (x1 : Int32) (x2 : Int32) (x3 : Int32) (Mb : xM) (H : Heap) (locs : List Loc) (ls : Array Slot), f_X6_tent_l168 k128 n168 x1 x2 x3 Mb = some (r, Mr) → kI (dw q aI) D A s Mb H locs → lv_has ls 4 [(0, .ref (q 0)), (1, .int x1), (2, .int x2), (3, .int x3)] → W p l e rm_X6_tent s m args below meth c H locs 0 0 (MQ below (kQ (dw q aI) D A (some (.int r)) Mr) args s 0 0 A) (F0 m 168 ls []) := by
    intro k128 hk128
    intro n168
    induction n168 with
    | zero =>
      intro x1 x2 x3 Mb H locs ls hf I hl
      rw [f_X6_tent_l168] at hf
      cases hf
    | succ n168 ih168 =>
      intro x1 x2 x3 Mb H locs ls hf I hl
      rw [f_X6_tent_l168] at hf
      refine lv_iload_n hx hb dX6_tent_168 rfl (lv_at hl 3 rfl) ?_
      refine lv_iconst (v := 3) hx hb dX6_tent_169 (by decide) ?_
      refine lv_icmp_ge (tgt := 202) hx hb dX6_tent_170 (by decide) (fun c20 => ?_) (fun c20 => ?_)
      · rw [if_pos c20] at hf
        refine lv_aload_n hx hb dX6_tent_202 rfl (lv_at hl 0 rfl) ?_
        refine k_get (T := TX6) (N := 27) X I inU6 0 dwG_0 rfl 10 (by decide) uw_4_9 rfl rfl dX6_tent_203 ?_
        refine lv_iconst (v := 5) hx hb dX6_tent_206 (by decide) ?_
        refine lv_iload_n hx hb dX6_tent_207 rfl (lv_at hl 1 rfl) ?_
        refine lv_imul hx hb dX6_tent_208 ?_
        refine lv_iconst (v := 4) hx hb dX6_tent_209 (by decide) ?_
        refine lv_iadd hx hb dX6_tent_210 ?_
        refine lv_iconst (v := (-1)) hx hb dX6_tent_211 (by decide) ?_
        obtain ⟨g21, h_g21, hf⟩ := k_bind hf
        obtain ⟨M22, e_M22, hf⟩ := k_nm hf
        refine k_ast (M1 := M22) X I h_g21 3 dwG_3 dX6_tent_212 (dwA_2.trans (congrArg (dw q aI) e_M22)) (fun H locs I => ?_)
        refine lv_iinc (v := (x1 + 1)) (lv' := [(1, .int (x1 + 1)), (0, .ref (q 0)), (2, .int x2), (3, .int x3)]) hx hb dX6_tent_213 hl (k := 1) rfl rfl (by decide) rfl (fun ls hl => ?_)
        refine lv_goto (tgt := 128) hx hb dX6_tent_216 (by decide) ?_
        exact hk128 (x1 + 1) M22 _ _ ls hf I (lv_sub hl [1, 0] rfl)
      · rw [if_neg c20] at hf
        refine lv_aload_n hx hb dX6_tent_173 rfl (lv_at hl 0 rfl) ?_
        refine k_get (T := TX6) (N := 27) X I inU6 0 dwG_0 rfl 10 (by decide) uw_4_9 rfl rfl dX6_tent_174 ?_
        refine lv_iconst (v := 5) hx hb dX6_tent_177 (by decide) ?_
        refine lv_iload_n hx hb dX6_tent_178 rfl (lv_at hl 1 rfl) ?_
        refine lv_imul hx hb dX6_tent_179 ?_
        refine lv_iload_n hx hb dX6_tent_180 rfl (lv_at hl 3 rfl) ?_
        refine lv_iadd hx hb dX6_tent_181 ?_
        refine lv_aload_n hx hb dX6_tent_182 rfl (lv_at hl 0 rfl) ?_
        refine k_get (T := TX6) (N := 27) X I inU6 0 dwG_0 rfl 0 (by decide) uw_3_239 rfl rfl dX6_tent_183 ?_
        refine lv_iload_n hx hb dX6_tent_186 rfl (lv_at hl 2 rfl) ?_
        refine lv_iconst (v := 1) hx hb dX6_tent_187 (by decide) ?_
        refine lv_iadd hx hb dX6_tent_188 ?_
        refine lv_iload_n hx hb dX6_tent_189 rfl (lv_at hl 3 rfl) ?_
        refine lv_iadd hx hb dX6_tent_190 ?_
        obtain ⟨r23, h_r23, hf⟩ := k_bind hf
        refine k_ald X I h_r23 1 dwG_1 dX6_tent_191 ?_
        refine lv_bipush (v := 48) hx hb dX6_tent_192 (by decide) ?_
        refine lv_isub hx hb dX6_tent_194 ?_
        obtain ⟨g24, h_g24, hf⟩ := k_bind hf
        obtain ⟨M25, e_M25, hf⟩ := k_nm hf
        refine k_ast (M1 := M25) X I h_g24 3 dwG_3 dX6_tent_195 (dwA_2.trans (congrArg (dw q aI) e_M25)) (fun H locs I => ?_)
        refine lv_iinc (v := (x3 + 1)) (lv' := [(3, .int (x3 + 1)), (0, .ref (q 0)), (1, .int x1), (2, .int x2)]) hx hb dX6_tent_196 hl (k := 3) rfl rfl (by decide) rfl (fun ls hl => ?_)
        refine lv_goto (tgt := 168) hx hb dX6_tent_199 (by decide) ?_
        exact ih168 x1 x2 (x3 + 1) M25 _ _ ls hf I (lv_sub hl [1, 2, 3, 0] rfl)
  have B128 : ∀ (n128 : Nat), ∀ (x1 : Int32) (Mb : xM) (H : Heap) (locs : List Loc) (ls : Array Slot), f_X6_tent_l128 n128 x1 Mb = some (r, Mr) → kI (dw q aI) D A s Mb H locs → lv_has ls 4 [(0, .ref (q 0)), (1, .int x1)] → W p l e rm_X6_tent s m args below meth c H locs 0 0 (MQ below (kQ (dw q aI) D A (some (.int r)) Mr) args s 0 0 A) (F0 m 128 ls []) := by
    intro n128
    induction n128 with
    | zero =>
      intro x1 Mb H locs ls hf I hl
      rw [f_X6_tent_l128] at hf
      cases hf
    | succ n128 ih128 =>
      intro x1 Mb H locs ls hf I hl
      rw [f_X6_tent_l128] at hf
      refine lv_iload_n hx hb dX6_tent_128 rfl (lv_at hl 1 rfl) ?_
      refine lv_aload_n hx hb dX6_tent_129 rfl (lv_at hl 0 rfl) ?_
      refine k_get (T := TX6) (N := 27) X I inU6 0 dwG_0 rfl 4 (by decide) uw_4_3 rfl rfl dX6_tent_130 ?_
      refine lv_icmp_ge (tgt := 219) hx hb dX6_tent_133 (by decide) (fun c9 => ?_) (fun c9 => ?_)
      · rw [if_pos c9] at hf
        refine lv_aload_n hx hb dX6_tent_219 rfl (lv_at hl 0 rfl) ?_
        refine lv_iconst (v := 0) hx hb dX6_tent_220 (by decide) ?_
        obtain ⟨M10, e_M10, hf⟩ := k_nm hf
        refine k_put (T := TX6) (N := 27) (M1 := M10) X I inU6 tyX6 tyX6_ok nmX6 0 dwG_0 rfl 5 (by decide) uw_4_4 rfl rfl (tyX6_ok 5 (by decide)) rfl rfl (Nat.le_of_ble_eq_true rfl) dX6_tent_221 (dwI_4.trans (congrArg (dw q aI) e_M10)) (fun H locs I => ?_)
        refine lv_aload_n hx hb dX6_tent_224 rfl (lv_at hl 0 rfl) ?_
        refine lv_iconst (v := 0) hx hb dX6_tent_225 (by decide) ?_
        obtain ⟨M11, e_M11, hf⟩ := k_nm hf
        refine k_put (T := TX6) (N := 27) (M1 := M11) X I inU6 tyX6 tyX6_ok nmX6 0 dwG_0 rfl 6 (by decide) uw_4_5 rfl rfl (tyX6_ok 6 (by decide)) rfl rfl (Nat.le_of_ble_eq_true rfl) dX6_tent_226 (dwI_5.trans (congrArg (dw q aI) e_M11)) (fun H locs I => ?_)
        refine lv_aload_n hx hb dX6_tent_229 rfl (lv_at hl 0 rfl) ?_
        refine lv_iconst (v := 0) hx hb dX6_tent_230 (by decide) ?_
        obtain ⟨M12, e_M12, hf⟩ := k_nm hf
        refine k_put (T := TX6) (N := 27) (M1 := M12) X I inU6 tyX6 tyX6_ok nmX6 0 dwG_0 rfl 7 (by decide) uw_4_6 rfl rfl (tyX6_ok 7 (by decide)) rfl rfl (Nat.le_of_ble_eq_true rfl) dX6_tent_231 (dwI_6.trans (congrArg (dw q aI) e_M12)) (fun H locs I => ?_)
        refine lv_aload_n hx hb dX6_tent_234 rfl (lv_at hl 0 rfl) ?_
        refine lv_iconst (v := 0) hx hb dX6_tent_235 (by decide) ?_
        obtain ⟨M13, e_M13, hf⟩ := k_nm hf
        refine k_put (T := TX6) (N := 27) (M1 := M13) X I inU6 tyX6 tyX6_ok nmX6 0 dwG_0 rfl 14 (by decide) uw_4_13 rfl rfl (tyX6_ok 14 (by decide)) rfl rfl (Nat.le_of_ble_eq_true rfl) dX6_tent_236 (dwI_8.trans (congrArg (dw q aI) e_M13)) (fun H locs I => ?_)
        refine lv_aload_n hx hb dX6_tent_239 rfl (lv_at hl 0 rfl) ?_
        refine lv_dup hx hb dX6_tent_240 rfl ?_
        refine k_get (T := TX6) (N := 27) X I inU6 0 dwG_0 rfl 8 (by decide) uw_4_7 rfl rfl dX6_tent_241 ?_
        refine lv_iconst (v := 1) hx hb dX6_tent_244 (by decide) ?_
        refine lv_iadd hx hb dX6_tent_245 ?_
        obtain ⟨M14, e_M14, hf⟩ := k_nm hf
        refine k_put (T := TX6) (N := 27) (M1 := M14) X I inU6 tyX6 tyX6_ok nmX6 0 dwG_0 rfl 8 (by decide) uw_4_7 rfl rfl (tyX6_ok 8 (by decide)) rfl rfl (Nat.le_of_ble_eq_true rfl) dX6_tent_246 (dwI_7.trans (congrArg (dw q aI) e_M14)) (fun H locs I => ?_)
        refine lv_aload_n hx hb dX6_tent_249 rfl (lv_at hl 0 rfl) ?_
        refine lv_iconst (v := 0) hx hb dX6_tent_250 (by decide) ?_
        obtain ⟨M15, e_M15, hf⟩ := k_nm hf
        refine k_put (T := TX6) (N := 27) (M1 := M15) X I inU6 tyX6 tyX6_ok nmX6 0 dwG_0 rfl 1 (by decide) uw_4_0 rfl rfl (tyX6_ok 1 (by decide)) rfl rfl (Nat.le_of_ble_eq_true rfl) dX6_tent_251 (dwI_0.trans (congrArg (dw q aI) e_M15)) (fun H locs I => ?_)
        refine lv_aload_n hx hb dX6_tent_254 rfl (lv_at hl 0 rfl) ?_
        refine k_get (T := TX6) (N := 27) X I inU6 0 dwG_0 rfl 3 (by decide) uw_4_2 rfl rfl dX6_tent_255 ?_
        exact k_iret X I hr hlocks dX6_tent_258 hf
      · rw [if_neg c9] at hf
        refine lv_aload_n hx hb dX6_tent_136 rfl (lv_at hl 0 rfl) ?_
        refine k_get (T := TX6) (N := 27) X I inU6 0 dwG_0 rfl 2 (by decide) uw_4_1 rfl rfl dX6_tent_137 ?_
        refine lv_iconst (v := 1) hx hb dX6_tent_140 (by decide) ?_
        refine lv_iadd hx hb dX6_tent_141 ?_
        refine lv_iconst (v := 5) hx hb dX6_tent_142 (by decide) ?_
        refine lv_iload_n hx hb dX6_tent_143 rfl (lv_at hl 1 rfl) ?_
        refine lv_imul hx hb dX6_tent_144 ?_
        refine lv_iadd hx hb dX6_tent_145 ?_
        refine lv_istore_n (lv' := [(2, .int (((Mb.1 1) + (1 : Int32)) + ((5 : Int32) * x1))), (0, .ref (q 0)), (1, .int x1)]) hx hb dX6_tent_146 rfl hl (by decide) rfl (fun ls hl => ?_)
        refine lv_aload_n hx hb dX6_tent_147 rfl (lv_at hl 1 rfl) ?_
        refine k_get (T := TX6) (N := 27) X I inU6 0 dwG_0 rfl 10 (by decide) uw_4_9 rfl rfl dX6_tent_148 ?_
        refine lv_iconst (v := 5) hx hb dX6_tent_151 (by decide) ?_
        refine lv_iload_n hx hb dX6_tent_152 rfl (lv_at hl 2 rfl) ?_
        refine lv_imul hx hb dX6_tent_153 ?_
        refine lv_iconst (v := 3) hx hb dX6_tent_154 (by decide) ?_
        refine lv_iadd hx hb dX6_tent_155 ?_
        refine lv_aload_n hx hb dX6_tent_156 rfl (lv_at hl 1 rfl) ?_
        refine k_get (T := TX6) (N := 27) X I inU6 0 dwG_0 rfl 0 (by decide) uw_3_239 rfl rfl dX6_tent_157 ?_
        refine lv_iload_n hx hb dX6_tent_160 rfl (lv_at hl 0 rfl) ?_
        obtain ⟨r16, h_r16, hf⟩ := k_bind hf
        refine k_ald X I h_r16 1 dwG_1 dX6_tent_161 ?_
        obtain ⟨r17, h_r17, hf⟩ := k_bind hf
        refine k_callS (n := 1) (As := [.int r16]) (rest := [.int (((5 : Int32) * x1) + (3 : Int32)), .ref (q 3)]) X I (c_X6_kindBy h_r17) uw_4_108 uw_4_109 uw_1_7 uw_4_110 ⟨rfl, rfl⟩ (by decide +kernel) rfl ⟨Nat.le_of_ble_eq_true rfl, Nat.le_of_ble_eq_true rfl⟩ ⟨Nat.le_of_ble_eq_true rfl, Nat.le_of_ble_eq_true rfl⟩ hl.1 rfl (Nat.le_of_ble_eq_true rfl) dX6_tent_162 (st1 := [.int r17, .int (((5 : Int32) * x1) + (3 : Int32)), .ref (q 3)]) rfl (fun H locs I => ?_)
        obtain ⟨g18, h_g18, hf⟩ := k_bind hf
        obtain ⟨M19, e_M19, hf⟩ := k_nm hf
        refine k_ast (M1 := M19) X I h_g18 3 dwG_3 dX6_tent_165 (dwA_2.trans (congrArg (dw q aI) e_M19)) (fun H locs I => ?_)
        refine lv_iconst (v := 0) hx hb dX6_tent_166 (by decide) ?_
        refine lv_istore_n (lv' := [(3, .int (0 : Int32)), (2, .int (((Mb.1 1) + (1 : Int32)) + ((5 : Int32) * x1))), (0, .ref (q 0)), (1, .int x1)]) hx hb dX6_tent_167 rfl hl (by decide) rfl (fun ls hl => ?_)
        exact B168 (f_X6_tent_l128 n128) ih128 xN x1 (((Mb.1 1) + (1 : Int32)) + ((5 : Int32) * x1)) (0 : Int32) M19 _ _ ls hf I (lv_sub hl [2, 3, 1, 0] rfl)
  have B60 : ∀ (k50 : Int32 → xM → Option (Int32 × xM)), (∀ (x1 : Int32) (Mb : xM) (H : Heap) (locs : List Loc) (ls : Array Slot), k50 x1 Mb = some (r, Mr) → kI (dw q aI) D A s Mb H locs → lv_has ls 4 [(0, .ref (q 0)), (1, .int x1)] → W p l e rm_X6_tent s m args below meth c H locs 0 0 (MQ below (kQ (dw q aI) D A (some (.int r)) Mr) args s 0 0 A) (F0 m 50 ls [])) → ∀ (n60 : Nat), ∀ (x1 : Int32) (x2 : Int32) (Mb : xM) (H : Heap) (locs : List Loc) (ls : Array Slot), f_X6_tent_l60 k50 n60 x1 x2 Mb = some (r, Mr) → kI (dw q aI) D A s Mb H locs → lv_has ls 4 [(0, .ref (q 0)), (1, .int x1), (2, .int x2)] → W p l e rm_X6_tent s m args below meth c H locs 0 0 (MQ below (kQ (dw q aI) D A (some (.int r)) Mr) args s 0 0 A) (F0 m 60 ls []) := by
    intro k50 hk50
    intro n60
    induction n60 with
    | zero =>
      intro x1 x2 Mb H locs ls hf I hl
      rw [f_X6_tent_l60] at hf
      cases hf
    | succ n60 ih60 =>
      intro x1 x2 Mb H locs ls hf I hl
      rw [f_X6_tent_l60] at hf
      refine lv_iload_n hx hb dX6_tent_60 rfl (lv_at hl 2 rfl) ?_
      refine lv_iconst (v := 3) hx hb dX6_tent_61 (by decide) ?_
      refine lv_icmp_ge (tgt := 94) hx hb dX6_tent_62 (by decide) (fun c26 => ?_) (fun c26 => ?_)
      · rw [if_pos c26] at hf
        refine lv_aload_n hx hb dX6_tent_94 rfl (lv_at hl 0 rfl) ?_
        refine k_get (T := TX6) (N := 27) X I inU6 0 dwG_0 rfl 9 (by decide) uw_4_8 rfl rfl dX6_tent_95 ?_
        refine lv_iconst (v := 4) hx hb dX6_tent_98 (by decide) ?_
        refine lv_iload_n hx hb dX6_tent_99 rfl (lv_at hl 1 rfl) ?_
        refine lv_imul hx hb dX6_tent_100 ?_
        refine lv_iconst (v := 3) hx hb dX6_tent_101 (by decide) ?_
        refine lv_iadd hx hb dX6_tent_102 ?_
        refine lv_iconst (v := (-1)) hx hb dX6_tent_103 (by decide) ?_
        obtain ⟨g27, h_g27, hf⟩ := k_bind hf
        obtain ⟨M28, e_M28, hf⟩ := k_nm hf
        refine k_ast (M1 := M28) X I h_g27 2 dwG_2 dX6_tent_104 (dwA_1.trans (congrArg (dw q aI) e_M28)) (fun H locs I => ?_)
        refine lv_iinc (v := (x1 + 1)) (lv' := [(1, .int (x1 + 1)), (0, .ref (q 0)), (2, .int x2)]) hx hb dX6_tent_105 hl (k := 1) rfl rfl (by decide) rfl (fun ls hl => ?_)
        refine lv_goto (tgt := 50) hx hb dX6_tent_108 (by decide) ?_
        exact hk50 (x1 + 1) M28 _ _ ls hf I (lv_sub hl [1, 0] rfl)
      · rw [if_neg c26] at hf
        refine lv_aload_n hx hb dX6_tent_65 rfl (lv_at hl 0 rfl) ?_
        refine k_get (T := TX6) (N := 27) X I inU6 0 dwG_0 rfl 9 (by decide) uw_4_8 rfl rfl dX6_tent_66 ?_
        refine lv_iconst (v := 4) hx hb dX6_tent_69 (by decide) ?_
        refine lv_iload_n hx hb dX6_tent_70 rfl (lv_at hl 1 rfl) ?_
        refine lv_imul hx hb dX6_tent_71 ?_
        refine lv_iload_n hx hb dX6_tent_72 rfl (lv_at hl 2 rfl) ?_
        refine lv_iadd hx hb dX6_tent_73 ?_
        refine lv_aload_n hx hb dX6_tent_74 rfl (lv_at hl 0 rfl) ?_
        refine k_get (T := TX6) (N := 27) X I inU6 0 dwG_0 rfl 0 (by decide) uw_3_239 rfl rfl dX6_tent_75 ?_
        refine lv_iconst (v := 4) hx hb dX6_tent_78 (by decide) ?_
        refine lv_iload_n hx hb dX6_tent_79 rfl (lv_at hl 1 rfl) ?_
        refine lv_imul hx hb dX6_tent_80 ?_
        refine lv_iload_n hx hb dX6_tent_81 rfl (lv_at hl 2 rfl) ?_
        refine lv_iadd hx hb dX6_tent_82 ?_
        obtain ⟨r29, h_r29, hf⟩ := k_bind hf
        refine k_ald X I h_r29 1 dwG_1 dX6_tent_83 ?_
        refine lv_bipush (v := 48) hx hb dX6_tent_84 (by decide) ?_
        refine lv_isub hx hb dX6_tent_86 ?_
        obtain ⟨g30, h_g30, hf⟩ := k_bind hf
        obtain ⟨M31, e_M31, hf⟩ := k_nm hf
        refine k_ast (M1 := M31) X I h_g30 2 dwG_2 dX6_tent_87 (dwA_1.trans (congrArg (dw q aI) e_M31)) (fun H locs I => ?_)
        refine lv_iinc (v := (x2 + 1)) (lv' := [(2, .int (x2 + 1)), (0, .ref (q 0)), (1, .int x1)]) hx hb dX6_tent_88 hl (k := 2) rfl rfl (by decide) rfl (fun ls hl => ?_)
        refine lv_goto (tgt := 60) hx hb dX6_tent_91 (by decide) ?_
        exact ih60 x1 (x2 + 1) M31 _ _ ls hf I (lv_sub hl [1, 2, 0] rfl)
  have B50 : ∀ (n50 : Nat), ∀ (x1 : Int32) (Mb : xM) (H : Heap) (locs : List Loc) (ls : Array Slot), f_X6_tent_l50 n50 x1 Mb = some (r, Mr) → kI (dw q aI) D A s Mb H locs → lv_has ls 4 [(0, .ref (q 0)), (1, .int x1)] → W p l e rm_X6_tent s m args below meth c H locs 0 0 (MQ below (kQ (dw q aI) D A (some (.int r)) Mr) args s 0 0 A) (F0 m 50 ls []) := by
    intro n50
    induction n50 with
    | zero =>
      intro x1 Mb H locs ls hf I hl
      rw [f_X6_tent_l50] at hf
      cases hf
    | succ n50 ih50 =>
      intro x1 Mb H locs ls hf I hl
      rw [f_X6_tent_l50] at hf
      refine lv_iload_n hx hb dX6_tent_50 rfl (lv_at hl 1 rfl) ?_
      refine lv_aload_n hx hb dX6_tent_51 rfl (lv_at hl 0 rfl) ?_
      refine k_get (T := TX6) (N := 27) X I inU6 0 dwG_0 rfl 3 (by decide) uw_4_2 rfl rfl dX6_tent_52 ?_
      refine lv_icmp_ge (tgt := 111) hx hb dX6_tent_55 (by decide) (fun c7 => ?_) (fun c7 => ?_)
      · rw [if_pos c7] at hf
        refine lv_aload_n hx hb dX6_tent_111 rfl (lv_at hl 0 rfl) ?_
        refine lv_aload_n hx hb dX6_tent_112 rfl (lv_at hl 0 rfl) ?_
        refine k_get (T := TX6) (N := 27) X I inU6 0 dwG_0 rfl 1 (by decide) uw_4_0 rfl rfl dX6_tent_113 ?_
        refine lv_aload_n hx hb dX6_tent_116 rfl (lv_at hl 0 rfl) ?_
        refine k_get (T := TX6) (N := 27) X I inU6 0 dwG_0 rfl 2 (by decide) uw_4_1 rfl rfl dX6_tent_117 ?_
        refine lv_isub hx hb dX6_tent_120 ?_
        refine lv_iconst (v := 5) hx hb dX6_tent_121 (by decide) ?_
        refine lv_idiv hx hb dX6_tent_122 (by decide) ?_
        obtain ⟨M8, e_M8, hf⟩ := k_nm hf
        refine k_put (T := TX6) (N := 27) (M1 := M8) X I inU6 tyX6 tyX6_ok nmX6 0 dwG_0 rfl 4 (by decide) uw_4_3 rfl rfl (tyX6_ok 4 (by decide)) rfl rfl (Nat.le_of_ble_eq_true rfl) dX6_tent_123 (dwI_3.trans (congrArg (dw q aI) e_M8)) (fun H locs I => ?_)
        refine lv_iconst (v := 0) hx hb dX6_tent_126 (by decide) ?_
        refine lv_istore_n (lv' := [(1, .int (0 : Int32)), (0, .ref (q 0))]) hx hb dX6_tent_127 rfl hl (by decide) rfl (fun ls hl => ?_)
        exact B128 xN (0 : Int32) M8 _ _ ls hf I (lv_sub hl [1, 0] rfl)
      · rw [if_neg c7] at hf
        refine lv_iconst (v := 0) hx hb dX6_tent_58 (by decide) ?_
        refine lv_istore_n (lv' := [(2, .int (0 : Int32)), (0, .ref (q 0)), (1, .int x1)]) hx hb dX6_tent_59 rfl hl (by decide) rfl (fun ls hl => ?_)
        exact B60 (f_X6_tent_l50 n50) ih50 xN x1 (0 : Int32) Mb _ _ ls hf I (lv_sub hl [1, 2, 0] rfl)
  rw [f_X6_tent] at hf
  refine lv_aload_n hx hb dX6_tent_0 rfl (lv_at hl 0 rfl) ?_
  obtain ⟨r1, M2, h_r1, hf⟩ := k_bind2 hf
  refine k_callV (n := 0) (As := []) (rest := []) X I (c_X6_faultOf h_r1) uw_4_97 uw_4_99 us_13 uw_1_7 uw_4_100 ⟨rfl, rfl⟩ (by decide +kernel) rfl ⟨Nat.le_of_ble_eq_true rfl, Nat.le_of_ble_eq_true rfl⟩ ⟨Nat.le_of_ble_eq_true rfl, Nat.le_of_ble_eq_true rfl⟩ 0 dwG_0 rfl hl.1 rfl (Nat.le_of_ble_eq_true rfl) dX6_tent_1 (st1 := [.int r1]) rfl (fun H locs I => ?_)
  refine lv_aload_n hx hb dX6_tent_4 rfl (lv_at hl 0 rfl) ?_
  refine k_get (T := TX6) (N := 27) X I inU6 0 dwG_0 rfl 1 (by decide) uw_4_0 rfl rfl dX6_tent_5 ?_
  refine lv_icmp_lt (tgt := 33) hx hb dX6_tent_8 (by decide) (fun c3 => ?_) (fun c3 => ?_)
  · rw [if_pos c3] at hf
    refine lv_bipush (v := (-103)) hx hb dX6_tent_33 (by decide) ?_
    exact k_iret X I hr hlocks dX6_tent_35 hf
  · rw [if_neg c3] at hf
    refine lv_aload_n hx hb dX6_tent_11 rfl (lv_at hl 0 rfl) ?_
    refine k_get (T := TX6) (N := 27) X I inU6 0 dwG_0 rfl 2 (by decide) uw_4_1 rfl rfl dX6_tent_12 ?_
    refine lv_iconst (v := (-1)) hx hb dX6_tent_15 (by decide) ?_
    refine lv_icmp_eq (tgt := 33) hx hb dX6_tent_16 (by decide) (fun c4 => ?_) (fun c4 => ?_)
    · rw [if_pos c4] at hf
      refine lv_bipush (v := (-103)) hx hb dX6_tent_33 (by decide) ?_
      exact k_iret X I hr hlocks dX6_tent_35 hf
    · rw [if_neg c4] at hf
      refine lv_aload_n hx hb dX6_tent_19 rfl (lv_at hl 0 rfl) ?_
      refine k_get (T := TX6) (N := 27) X I inU6 0 dwG_0 rfl 1 (by decide) uw_4_0 rfl rfl dX6_tent_20 ?_
      refine lv_aload_n hx hb dX6_tent_23 rfl (lv_at hl 0 rfl) ?_
      refine k_get (T := TX6) (N := 27) X I inU6 0 dwG_0 rfl 2 (by decide) uw_4_1 rfl rfl dX6_tent_24 ?_
      refine lv_isub hx hb dX6_tent_27 ?_
      refine lv_iconst (v := 5) hx hb dX6_tent_28 (by decide) ?_
      refine lv_irem hx hb dX6_tent_29 (by decide) ?_
      refine lv_if_eq (tgt := 36) hx hb dX6_tent_30 (by decide) (fun c5 => ?_) (fun c5 => ?_)
      · rw [if_pos c5] at hf
        refine lv_aload_n hx hb dX6_tent_36 rfl (lv_at hl 0 rfl) ?_
        refine lv_aload_n hx hb dX6_tent_37 rfl (lv_at hl 0 rfl) ?_
        refine k_get (T := TX6) (N := 27) X I inU6 0 dwG_0 rfl 2 (by decide) uw_4_1 rfl rfl dX6_tent_38 ?_
        refine lv_iconst (v := 1) hx hb dX6_tent_41 (by decide) ?_
        refine lv_iadd hx hb dX6_tent_42 ?_
        refine lv_iconst (v := 4) hx hb dX6_tent_43 (by decide) ?_
        refine lv_idiv hx hb dX6_tent_44 (by decide) ?_
        obtain ⟨M6, e_M6, hf⟩ := k_nm hf
        refine k_put (T := TX6) (N := 27) (M1 := M6) X I inU6 tyX6 tyX6_ok nmX6 0 dwG_0 rfl 3 (by decide) uw_4_2 rfl rfl (tyX6_ok 3 (by decide)) rfl rfl (Nat.le_of_ble_eq_true rfl) dX6_tent_45 (dwI_2.trans (congrArg (dw q aI) e_M6)) (fun H locs I => ?_)
        refine lv_iconst (v := 0) hx hb dX6_tent_48 (by decide) ?_
        refine lv_istore_n (lv' := [(1, .int (0 : Int32)), (0, .ref (q 0))]) hx hb dX6_tent_49 rfl hl (by decide) rfl (fun ls hl => ?_)
        exact B50 xN (0 : Int32) M6 _ _ ls hf I (lv_sub hl [1, 0] rfl)
      · rw [if_neg c5] at hf
        refine lv_bipush (v := (-103)) hx hb dX6_tent_33 (by decide) ?_
        exact k_iret X I hr hlocks dX6_tent_35 hf
/-! LostTentModel.isThing(I)Z -/
abbrev rm_X6_isThing : Room := { frames := 1, cells := 0, slots := 0, locals := 25 }
def f_X6_isThing (x1 : Int32) (M : xM) : Option Int32 :=
  (f_X6_in x1.toInt64 (0 : Int64) (((M.1 2) - (1 : Int32)).toInt64)).bind fun r1 =>
  xbo r1
set_option maxRecDepth 100000 in
set_option maxHeartbeats 8000000 in
theorem c_X6_isThing {l : Launch} {D : va_G} {aI : ClassId} {q t : Nat → Nat} {x1 : Int32} {M : xM} {r : Int32} (hf : f_X6_isThing x1 M = some r) : kM l yX6_isThing (wk yX6_isThing cX6_isThing 2 (some .boolean)) rm_X6_isThing (dw q aI) D aI t [.ref (q 0), .int x1] M (some (.int r)) M := by
  refine kM_of (by decide) (Nat.le_of_ble_eq_true rfl) ?_
  intro p e s m args below meth c A ls X hr hlocks hl I
  have hx := X.1
  have hb := X.2.1
  have hl : lv_has ls 2 [(0, .ref (q 0)), (1, .int x1)] := hl
  rw [f_X6_isThing] at hf
  refine lv_iload_n hx hb dX6_isThing_0 rfl (lv_at hl 1 rfl) ?_
  refine lv_i2l hx hb dX6_isThing_1 rfl ?_
  refine lv_lconst (v := 0) hx hb dX6_isThing_2 (by decide) ?_
  refine lv_aload_n hx hb dX6_isThing_3 rfl (lv_at hl 0 rfl) ?_
  refine k_get (T := TX6) (N := 27) X I inU6 0 dwG_0 rfl 3 (by decide) uw_4_2 rfl rfl dX6_isThing_4 ?_
  refine lv_iconst (v := 1) hx hb dX6_isThing_7 (by decide) ?_
  refine lv_isub hx hb dX6_isThing_8 ?_
  refine lv_i2l hx hb dX6_isThing_9 rfl ?_
  obtain ⟨r1, h_r1, hf⟩ := k_bind hf
  refine k_callS (n := 3) (As := [.long x1.toInt64, .long (0 : Int64), .long (((M.1 2) - (1 : Int32)).toInt64)]) (rest := []) X I (c_X6_in h_r1) uw_4_86 uw_4_87 uw_1_7 uw_4_88 ⟨rfl, rfl⟩ (by decide +kernel) rfl ⟨Nat.le_of_ble_eq_true rfl, Nat.le_of_ble_eq_true rfl⟩ ⟨Nat.le_of_ble_eq_true rfl, Nat.le_of_ble_eq_true rfl⟩ hl.1 rfl (Nat.le_of_ble_eq_true rfl) dX6_isThing_10 (st1 := [.int r1]) rfl (fun H locs I => ?_)
  exact k_zretP X I hr hlocks dX6_isThing_13 hf
/-! LostTentModel.wrongIn(III)I -/
abbrev rm_X6_wrongIn : Room := { frames := 0, cells := 0, slots := 0, locals := 0 }
def f_X6_wrongIn_b137 (x5 : Int32) (x8 : Int32) (y0 : Int32) (M : xM) : Option Int32 :=
  some ((y0 + x8) + ((2 : Int32) * x5))
def f_X6_wrongIn_b120 (x4 : Int32) (x5 : Int32) (x7 : Int32) (y0 : Int32) (M : xM) : Option Int32 :=
  if x4 = (2 : Int32) then
    f_X6_wrongIn_b137 x5 y0 ((3 : Int32) * x7) M
  else
    f_X6_wrongIn_b137 x5 y0 x7 M
def f_X6_wrongIn_b115 (x4 : Int32) (x5 : Int32) (x7 : Int32) (M : xM) : Option Int32 :=
  f_X6_wrongIn_b120 x4 x5 x7 (0 : Int32) M
def f_X6_wrongIn_b78 (x1 : Int32) (x2 : Int32) (x4 : Int32) (x5 : Int32) (y0 : Int32) (M : xM) : Option Int32 :=
  (xld 20 (M.2.2 1) (((4 : Int32) * x1) + (1 : Int32))).bind fun r8 =>
  (xld 15 (M.2.2 2) (((5 : Int32) * x2) + (1 : Int32))).bind fun r9 =>
  if r8 = r9 then
    f_X6_wrongIn_b115 x4 x5 y0 M
  else
    if x4 = (1 : Int32) then
      f_X6_wrongIn_b115 x4 x5 y0 M
    else
      if x4 = (4 : Int32) then
        f_X6_wrongIn_b115 x4 x5 y0 M
      else
        f_X6_wrongIn_b120 x4 x5 y0 (2 : Int32) M
def f_X6_wrongIn_b40 (x1 : Int32) (x2 : Int32) (x3 : Int32) (x4 : Int32) (y0 : Int32) (M : xM) : Option Int32 :=
  if x4 = (3 : Int32) then
    some ((3 : Int32) * y0)
  else
    (xld 15 (M.2.2 2) ((5 : Int32) * x2)).bind fun r6 =>
    if 0 ≤ (x3 - r6) then
      f_X6_wrongIn_b78 x1 x2 x4 y0 (x3 - r6) M
    else
      f_X6_wrongIn_b78 x1 x2 x4 y0 (-(x3 - r6)) M
def f_X6_wrongIn (x1 : Int32) (x2 : Int32) (x3 : Int32) (M : xM) : Option Int32 :=
  (xld 15 (M.2.2 2) (((5 : Int32) * x2) + (3 : Int32))).bind fun r1 =>
  (xld 20 (M.2.2 1) (((4 : Int32) * x1) + (2 : Int32))).bind fun r2 =>
  (xld 15 (M.2.2 2) (((5 : Int32) * x2) + (2 : Int32))).bind fun r3 =>
  if r2 = r3 then
    f_X6_wrongIn_b40 x1 x2 x3 r1 (0 : Int32) M
  else
    f_X6_wrongIn_b40 x1 x2 x3 r1 (1 : Int32) M
set_option maxRecDepth 100000 in
set_option maxHeartbeats 8000000 in
theorem c_X6_wrongIn {l : Launch} {D : va_G} {aI : ClassId} {q t : Nat → Nat} {x1 : Int32} {x2 : Int32} {x3 : Int32} {M : xM} {r : Int32} (hf : f_X6_wrongIn x1 x2 x3 M = some r) : kM l yX6_wrongIn (wk yX6_wrongIn cX6_wrongIn 9 (some .int)) rm_X6_wrongIn (dw q aI) D aI t [.ref (q 0), .int x1, .int x2, .int x3] M (some (.int r)) M := by
  refine kM_of (by decide) (Nat.le_of_ble_eq_true rfl) ?_
  intro p e s m args below meth c A ls X hr hlocks hl I
  have hx := X.1
  have hb := X.2.1
  have hl : lv_has ls 9 [(0, .ref (q 0)), (1, .int x1), (2, .int x2), (3, .int x3)] := hl
  have B137 : ∀ (x5 : Int32) (x8 : Int32) (y0 : Int32) (H : Heap) (locs : List Loc) (ls : Array Slot), f_X6_wrongIn_b137 x5 x8 y0 M = some r → kI (dw q aI) D A s M H locs → lv_has ls 9 [(5, .int x5), (8, .int x8)] → W p l e rm_X6_wrongIn s m args below meth c H locs 0 0 (MQ below (kQ (dw q aI) D A (some (.int r)) M) args s 0 0 A) (F0 m 137 ls [.int y0]) := by
    intro x5 x8 y0 H locs ls hf I hl
    rw [f_X6_wrongIn_b137] at hf
    refine lv_iload hx hb dX6_wrongIn_137 (lv_at hl 1 rfl) ?_
    refine lv_iadd hx hb dX6_wrongIn_139 ?_
    refine lv_iconst (v := 2) hx hb dX6_wrongIn_140 (by decide) ?_
    refine lv_iload hx hb dX6_wrongIn_141 (lv_at hl 0 rfl) ?_
    refine lv_imul hx hb dX6_wrongIn_143 ?_
    refine lv_iadd hx hb dX6_wrongIn_144 ?_
    exact k_iretP X I hr hlocks dX6_wrongIn_145 hf
  have B120 : ∀ (x4 : Int32) (x5 : Int32) (x7 : Int32) (y0 : Int32) (H : Heap) (locs : List Loc) (ls : Array Slot), f_X6_wrongIn_b120 x4 x5 x7 y0 M = some r → kI (dw q aI) D A s M H locs → lv_has ls 9 [(4, .int x4), (5, .int x5), (7, .int x7)] → W p l e rm_X6_wrongIn s m args below meth c H locs 0 0 (MQ below (kQ (dw q aI) D A (some (.int r)) M) args s 0 0 A) (F0 m 120 ls [.int y0]) := by
    intro x4 x5 x7 y0 H locs ls hf I hl
    rw [f_X6_wrongIn_b120] at hf
    refine lv_istore (lv' := [(8, .int y0), (4, .int x4), (5, .int x5), (7, .int x7)]) hx hb dX6_wrongIn_120 hl (by decide) rfl (fun ls hl => ?_)
    refine lv_iload hx hb dX6_wrongIn_122 (lv_at hl 1 rfl) ?_
    refine lv_iconst (v := 2) hx hb dX6_wrongIn_124 (by decide) ?_
    refine lv_icmp_ne (tgt := 135) hx hb dX6_wrongIn_125 (by decide) (fun c11 => ?_) (fun c11 => ?_)
    · rw [if_neg c11] at hf
      refine lv_iload hx hb dX6_wrongIn_135 (lv_at hl 3 rfl) ?_
      exact B137 x5 y0 x7 _ _ ls hf I (lv_sub hl [2, 0] rfl)
    · rw [if_pos c11] at hf
      refine lv_iconst (v := 3) hx hb dX6_wrongIn_128 (by decide) ?_
      refine lv_iload hx hb dX6_wrongIn_129 (lv_at hl 3 rfl) ?_
      refine lv_imul hx hb dX6_wrongIn_131 ?_
      refine lv_goto (tgt := 137) hx hb dX6_wrongIn_132 (by decide) ?_
      exact B137 x5 y0 ((3 : Int32) * x7) _ _ ls hf I (lv_sub hl [2, 0] rfl)
  have B115 : ∀ (x4 : Int32) (x5 : Int32) (x7 : Int32) (H : Heap) (locs : List Loc) (ls : Array Slot), f_X6_wrongIn_b115 x4 x5 x7 M = some r → kI (dw q aI) D A s M H locs → lv_has ls 9 [(4, .int x4), (5, .int x5), (7, .int x7)] → W p l e rm_X6_wrongIn s m args below meth c H locs 0 0 (MQ below (kQ (dw q aI) D A (some (.int r)) M) args s 0 0 A) (F0 m 115 ls []) := by
    intro x4 x5 x7 H locs ls hf I hl
    rw [f_X6_wrongIn_b115] at hf
    refine lv_iconst (v := 0) hx hb dX6_wrongIn_115 (by decide) ?_
    refine lv_goto (tgt := 120) hx hb dX6_wrongIn_116 (by decide) ?_
    exact B120 x4 x5 x7 (0 : Int32) _ _ ls hf I (lv_sub hl [0, 1, 2] rfl)
  have B78 : ∀ (x1 : Int32) (x2 : Int32) (x4 : Int32) (x5 : Int32) (y0 : Int32) (H : Heap) (locs : List Loc) (ls : Array Slot), f_X6_wrongIn_b78 x1 x2 x4 x5 y0 M = some r → kI (dw q aI) D A s M H locs → lv_has ls 9 [(0, .ref (q 0)), (1, .int x1), (2, .int x2), (4, .int x4), (5, .int x5)] → W p l e rm_X6_wrongIn s m args below meth c H locs 0 0 (MQ below (kQ (dw q aI) D A (some (.int r)) M) args s 0 0 A) (F0 m 78 ls [.int y0]) := by
    intro x1 x2 x4 x5 y0 H locs ls hf I hl
    rw [f_X6_wrongIn_b78] at hf
    refine lv_istore (lv' := [(7, .int y0), (0, .ref (q 0)), (1, .int x1), (2, .int x2), (4, .int x4), (5, .int x5)]) hx hb dX6_wrongIn_78 hl (by decide) rfl (fun ls hl => ?_)
    refine lv_aload_n hx hb dX6_wrongIn_80 rfl (lv_at hl 1 rfl) ?_
    refine k_get (T := TX6) (N := 27) X I inU6 0 dwG_0 rfl 9 (by decide) uw_4_8 rfl rfl dX6_wrongIn_81 ?_
    refine lv_iconst (v := 4) hx hb dX6_wrongIn_84 (by decide) ?_
    refine lv_iload_n hx hb dX6_wrongIn_85 rfl (lv_at hl 2 rfl) ?_
    refine lv_imul hx hb dX6_wrongIn_86 ?_
    refine lv_iconst (v := 1) hx hb dX6_wrongIn_87 (by decide) ?_
    refine lv_iadd hx hb dX6_wrongIn_88 ?_
    obtain ⟨r8, h_r8, hf⟩ := k_bind hf
    refine k_ald X I h_r8 2 dwG_2 dX6_wrongIn_89 ?_
    refine lv_aload_n hx hb dX6_wrongIn_90 rfl (lv_at hl 1 rfl) ?_
    refine k_get (T := TX6) (N := 27) X I inU6 0 dwG_0 rfl 10 (by decide) uw_4_9 rfl rfl dX6_wrongIn_91 ?_
    refine lv_iconst (v := 5) hx hb dX6_wrongIn_94 (by decide) ?_
    refine lv_iload_n hx hb dX6_wrongIn_95 rfl (lv_at hl 3 rfl) ?_
    refine lv_imul hx hb dX6_wrongIn_96 ?_
    refine lv_iconst (v := 1) hx hb dX6_wrongIn_97 (by decide) ?_
    refine lv_iadd hx hb dX6_wrongIn_98 ?_
    obtain ⟨r9, h_r9, hf⟩ := k_bind hf
    refine k_ald X I h_r9 3 dwG_3 dX6_wrongIn_99 ?_
    refine lv_icmp_eq (tgt := 115) hx hb dX6_wrongIn_100 (by decide) (fun c10 => ?_) (fun c10 => ?_)
    · rw [if_pos c10] at hf
      exact B115 x4 x5 y0 _ _ ls hf I (lv_sub hl [4, 5, 0] rfl)
    · rw [if_neg c10] at hf
      refine lv_iload hx hb dX6_wrongIn_103 (lv_at hl 4 rfl) ?_
      refine lv_iconst (v := 1) hx hb dX6_wrongIn_105 (by decide) ?_
      refine lv_icmp_eq (tgt := 115) hx hb dX6_wrongIn_106 (by decide) (fun c12 => ?_) (fun c12 => ?_)
      · rw [if_pos c12] at hf
        exact B115 x4 x5 y0 _ _ ls hf I (lv_sub hl [4, 5, 0] rfl)
      · rw [if_neg c12] at hf
        refine lv_iload hx hb dX6_wrongIn_109 (lv_at hl 4 rfl) ?_
        refine lv_iconst (v := 4) hx hb dX6_wrongIn_111 (by decide) ?_
        refine lv_icmp_ne (tgt := 119) hx hb dX6_wrongIn_112 (by decide) (fun c13 => ?_) (fun c13 => ?_)
        · rw [if_neg c13] at hf
          refine lv_iconst (v := 2) hx hb dX6_wrongIn_119 (by decide) ?_
          exact B120 x4 x5 y0 (2 : Int32) _ _ ls hf I (lv_sub hl [4, 5, 0] rfl)
        · rw [if_pos c13] at hf
          exact B115 x4 x5 y0 _ _ ls hf I (lv_sub hl [4, 5, 0] rfl)
  have B40 : ∀ (x1 : Int32) (x2 : Int32) (x3 : Int32) (x4 : Int32) (y0 : Int32) (H : Heap) (locs : List Loc) (ls : Array Slot), f_X6_wrongIn_b40 x1 x2 x3 x4 y0 M = some r → kI (dw q aI) D A s M H locs → lv_has ls 9 [(0, .ref (q 0)), (1, .int x1), (2, .int x2), (3, .int x3), (4, .int x4)] → W p l e rm_X6_wrongIn s m args below meth c H locs 0 0 (MQ below (kQ (dw q aI) D A (some (.int r)) M) args s 0 0 A) (F0 m 40 ls [.int y0]) := by
    intro x1 x2 x3 x4 y0 H locs ls hf I hl
    rw [f_X6_wrongIn_b40] at hf
    refine lv_istore (lv' := [(5, .int y0), (0, .ref (q 0)), (1, .int x1), (2, .int x2), (3, .int x3), (4, .int x4)]) hx hb dX6_wrongIn_40 hl (by decide) rfl (fun ls hl => ?_)
    refine lv_iload hx hb dX6_wrongIn_42 (lv_at hl 5 rfl) ?_
    refine lv_iconst (v := 3) hx hb dX6_wrongIn_44 (by decide) ?_
    refine lv_icmp_ne (tgt := 53) hx hb dX6_wrongIn_45 (by decide) (fun c5 => ?_) (fun c5 => ?_)
    · rw [if_neg c5] at hf
      refine lv_iload_n hx hb dX6_wrongIn_53 rfl (lv_at hl 4 rfl) ?_
      refine lv_aload_n hx hb dX6_wrongIn_54 rfl (lv_at hl 1 rfl) ?_
      refine k_get (T := TX6) (N := 27) X I inU6 0 dwG_0 rfl 10 (by decide) uw_4_9 rfl rfl dX6_wrongIn_55 ?_
      refine lv_iconst (v := 5) hx hb dX6_wrongIn_58 (by decide) ?_
      refine lv_iload_n hx hb dX6_wrongIn_59 rfl (lv_at hl 3 rfl) ?_
      refine lv_imul hx hb dX6_wrongIn_60 ?_
      obtain ⟨r6, h_r6, hf⟩ := k_bind hf
      refine k_ald X I h_r6 3 dwG_3 dX6_wrongIn_61 ?_
      refine lv_isub hx hb dX6_wrongIn_62 ?_
      refine lv_istore (lv' := [(6, .int (x3 - r6)), (5, .int y0), (0, .ref (q 0)), (1, .int x1), (2, .int x2), (3, .int x3), (4, .int x4)]) hx hb dX6_wrongIn_63 hl (by decide) rfl (fun ls hl => ?_)
      refine lv_iload hx hb dX6_wrongIn_65 (lv_at hl 0 rfl) ?_
      refine lv_if_ge (tgt := 76) hx hb dX6_wrongIn_67 (by decide) (fun c7 => ?_) (fun c7 => ?_)
      · rw [if_pos c7] at hf
        refine lv_iload hx hb dX6_wrongIn_76 (lv_at hl 0 rfl) ?_
        exact B78 x1 x2 x4 y0 (x3 - r6) _ _ ls hf I (lv_sub hl [2, 3, 4, 6, 1] rfl)
      · rw [if_neg c7] at hf
        refine lv_iload hx hb dX6_wrongIn_70 (lv_at hl 0 rfl) ?_
        refine lv_ineg hx hb dX6_wrongIn_72 ?_
        refine lv_goto (tgt := 78) hx hb dX6_wrongIn_73 (by decide) ?_
        exact B78 x1 x2 x4 y0 (-(x3 - r6)) _ _ ls hf I (lv_sub hl [2, 3, 4, 6, 1] rfl)
    · rw [if_pos c5] at hf
      refine lv_iconst (v := 3) hx hb dX6_wrongIn_48 (by decide) ?_
      refine lv_iload hx hb dX6_wrongIn_49 (lv_at hl 0 rfl) ?_
      refine lv_imul hx hb dX6_wrongIn_51 ?_
      exact k_iretP X I hr hlocks dX6_wrongIn_52 hf
  rw [f_X6_wrongIn] at hf
  refine lv_aload_n hx hb dX6_wrongIn_0 rfl (lv_at hl 0 rfl) ?_
  refine k_get (T := TX6) (N := 27) X I inU6 0 dwG_0 rfl 10 (by decide) uw_4_9 rfl rfl dX6_wrongIn_1 ?_
  refine lv_iconst (v := 5) hx hb dX6_wrongIn_4 (by decide) ?_
  refine lv_iload_n hx hb dX6_wrongIn_5 rfl (lv_at hl 2 rfl) ?_
  refine lv_imul hx hb dX6_wrongIn_6 ?_
  refine lv_iconst (v := 3) hx hb dX6_wrongIn_7 (by decide) ?_
  refine lv_iadd hx hb dX6_wrongIn_8 ?_
  obtain ⟨r1, h_r1, hf⟩ := k_bind hf
  refine k_ald X I h_r1 3 dwG_3 dX6_wrongIn_9 ?_
  refine lv_istore (lv' := [(4, .int r1), (0, .ref (q 0)), (1, .int x1), (2, .int x2), (3, .int x3)]) hx hb dX6_wrongIn_10 hl (by decide) rfl (fun ls hl => ?_)
  refine lv_aload_n hx hb dX6_wrongIn_12 rfl (lv_at hl 1 rfl) ?_
  refine k_get (T := TX6) (N := 27) X I inU6 0 dwG_0 rfl 9 (by decide) uw_4_8 rfl rfl dX6_wrongIn_13 ?_
  refine lv_iconst (v := 4) hx hb dX6_wrongIn_16 (by decide) ?_
  refine lv_iload_n hx hb dX6_wrongIn_17 rfl (lv_at hl 2 rfl) ?_
  refine lv_imul hx hb dX6_wrongIn_18 ?_
  refine lv_iconst (v := 2) hx hb dX6_wrongIn_19 (by decide) ?_
  refine lv_iadd hx hb dX6_wrongIn_20 ?_
  obtain ⟨r2, h_r2, hf⟩ := k_bind hf
  refine k_ald X I h_r2 2 dwG_2 dX6_wrongIn_21 ?_
  refine lv_aload_n hx hb dX6_wrongIn_22 rfl (lv_at hl 1 rfl) ?_
  refine k_get (T := TX6) (N := 27) X I inU6 0 dwG_0 rfl 10 (by decide) uw_4_9 rfl rfl dX6_wrongIn_23 ?_
  refine lv_iconst (v := 5) hx hb dX6_wrongIn_26 (by decide) ?_
  refine lv_iload_n hx hb dX6_wrongIn_27 rfl (lv_at hl 3 rfl) ?_
  refine lv_imul hx hb dX6_wrongIn_28 ?_
  refine lv_iconst (v := 2) hx hb dX6_wrongIn_29 (by decide) ?_
  refine lv_iadd hx hb dX6_wrongIn_30 ?_
  obtain ⟨r3, h_r3, hf⟩ := k_bind hf
  refine k_ald X I h_r3 3 dwG_3 dX6_wrongIn_31 ?_
  refine lv_icmp_ne (tgt := 39) hx hb dX6_wrongIn_32 (by decide) (fun c4 => ?_) (fun c4 => ?_)
  · rw [if_neg c4] at hf
    refine lv_iconst (v := 1) hx hb dX6_wrongIn_39 (by decide) ?_
    exact B40 x1 x2 x3 r1 (1 : Int32) _ _ ls hf I (lv_sub hl [1, 2, 3, 4, 0] rfl)
  · rw [if_pos c4] at hf
    refine lv_iconst (v := 0) hx hb dX6_wrongIn_35 (by decide) ?_
    refine lv_goto (tgt := 40) hx hb dX6_wrongIn_36 (by decide) ?_
    exact B40 x1 x2 x3 r1 (0 : Int32) _ _ ls hf I (lv_sub hl [1, 2, 3, 4, 0] rfl)
/-! LostTentModel.wrongOf(II)I -/
abbrev rm_X6_wrongOf : Room := { frames := 1, cells := 0, slots := 0, locals := 28 }
def f_X6_wrongOf (x1 : Int32) (x2 : Int32) (M : xM) : Option Int32 :=
  (xld 20 (M.2.2 1) ((4 : Int32) * x1)).bind fun r1 =>
  (f_X6_wrongIn x1 x2 r1 M).bind fun r2 =>
  some r2
set_option maxRecDepth 100000 in
set_option maxHeartbeats 8000000 in
theorem c_X6_wrongOf {l : Launch} {D : va_G} {aI : ClassId} {q t : Nat → Nat} {x1 : Int32} {x2 : Int32} {M : xM} {r : Int32} (hf : f_X6_wrongOf x1 x2 M = some r) : kM l yX6_wrongOf (wk yX6_wrongOf cX6_wrongOf 3 (some .int)) rm_X6_wrongOf (dw q aI) D aI t [.ref (q 0), .int x1, .int x2] M (some (.int r)) M := by
  refine kM_of (by decide) (Nat.le_of_ble_eq_true rfl) ?_
  intro p e s m args below meth c A ls X hr hlocks hl I
  have hx := X.1
  have hb := X.2.1
  have hl : lv_has ls 3 [(0, .ref (q 0)), (1, .int x1), (2, .int x2)] := hl
  rw [f_X6_wrongOf] at hf
  refine lv_aload_n hx hb dX6_wrongOf_0 rfl (lv_at hl 0 rfl) ?_
  refine lv_iload_n hx hb dX6_wrongOf_1 rfl (lv_at hl 1 rfl) ?_
  refine lv_iload_n hx hb dX6_wrongOf_2 rfl (lv_at hl 2 rfl) ?_
  refine lv_aload_n hx hb dX6_wrongOf_3 rfl (lv_at hl 0 rfl) ?_
  refine k_get (T := TX6) (N := 27) X I inU6 0 dwG_0 rfl 9 (by decide) uw_4_8 rfl rfl dX6_wrongOf_4 ?_
  refine lv_iconst (v := 4) hx hb dX6_wrongOf_7 (by decide) ?_
  refine lv_iload_n hx hb dX6_wrongOf_8 rfl (lv_at hl 1 rfl) ?_
  refine lv_imul hx hb dX6_wrongOf_9 ?_
  obtain ⟨r1, h_r1, hf⟩ := k_bind hf
  refine k_ald X I h_r1 2 dwG_2 dX6_wrongOf_10 ?_
  obtain ⟨r2, h_r2, hf⟩ := k_bind hf
  refine k_callV (n := 3) (As := [.int x1, .int x2, .int r1]) (rest := []) X I (c_X6_wrongIn h_r2) uw_4_139 uw_4_141 us_20 uw_1_7 uw_4_142 ⟨rfl, rfl⟩ (by decide +kernel) rfl ⟨Nat.le_of_ble_eq_true rfl, Nat.le_of_ble_eq_true rfl⟩ ⟨Nat.le_of_ble_eq_true rfl, Nat.le_of_ble_eq_true rfl⟩ 0 dwG_0 rfl hl.1 rfl (Nat.le_of_ble_eq_true rfl) dX6_wrongOf_11 (st1 := [.int r2]) rfl (fun H locs I => ?_)
  exact k_iretP X I hr hlocks dX6_wrongOf_14 hf
