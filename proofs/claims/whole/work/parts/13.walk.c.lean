/-! LostTent$Tent.thingsNotGiven()I -/
abbrev rm_X3_thingsNotGiven : Room := { frames := 2, cells := 0, slots := 0, locals := 42 }
def f_X3_thingsNotGiven_b30 (k4 : Int32 → Int32 → xM → Option Int32) (x1 : Int32) (x2 : Int32) (M : xM) : Option Int32 :=
  k4 x1 (x2 + 1) M
def f_X3_thingsNotGiven_l4 : Nat → Int32 → Int32 → xM → Option Int32
  | 0, _, _, _ => none
  | n4 + 1, x1, x2, M =>
    if (M.1 2) ≤ x2 then
      some x1
    else
      (f_X2_holderOf x2 M).bind fun r2 =>
      if r2 = (-1 : Int32) then
        f_X3_thingsNotGiven_b30 (f_X3_thingsNotGiven_l4 n4) (x1 ||| ((1 : Int32) <<< (x2 &&& 31))) x2 M
      else
        f_X3_thingsNotGiven_b30 (f_X3_thingsNotGiven_l4 n4) x1 x2 M
def f_X3_thingsNotGiven (M : xM) : Option Int32 :=
  f_X3_thingsNotGiven_l4 xN (0 : Int32) (0 : Int32) M
set_option maxRecDepth 100000 in
set_option maxHeartbeats 8000000 in
theorem c_X3_thingsNotGiven {l : Launch} {D : va_G} {aI : ClassId} {q t : Nat → Nat} {M : xM} {r : Int32} (hf : f_X3_thingsNotGiven M = some r) : kM l yX3_thingsNotGiven (wk yX3_thingsNotGiven cX3_thingsNotGiven 3 (some .int)) rm_X3_thingsNotGiven (cw q aI) D aI t [.ref (q 3)] M (some (.int r)) M := by
  refine kM_of (by decide) (Nat.le_of_ble_eq_true rfl) ?_
  intro p e s m args below meth c A ls X hr hlocks hl I
  have hx := X.1
  have hb := X.2.1
  have hl : lv_has ls 3 [(0, .ref (q 3))] := hl
  have B30 : ∀ (k4 : Int32 → Int32 → xM → Option Int32), (∀ (x1 : Int32) (x2 : Int32) (H : Heap) (locs : List Loc) (ls : Array Slot), k4 x1 x2 M = some r → kI (cw q aI) D A s M H locs → lv_has ls 3 [(0, .ref (q 3)), (1, .int x1), (2, .int x2)] → W p l e rm_X3_thingsNotGiven s m args below meth c H locs 0 0 (MQ below (kQ (cw q aI) D A (some (.int r)) M) args s 0 0 A) (F0 m 4 ls [])) → ∀ (x1 : Int32) (x2 : Int32) (H : Heap) (locs : List Loc) (ls : Array Slot), f_X3_thingsNotGiven_b30 k4 x1 x2 M = some r → kI (cw q aI) D A s M H locs → lv_has ls 3 [(0, .ref (q 3)), (1, .int x1), (2, .int x2)] → W p l e rm_X3_thingsNotGiven s m args below meth c H locs 0 0 (MQ below (kQ (cw q aI) D A (some (.int r)) M) args s 0 0 A) (F0 m 30 ls []) := by
    intro k4 hk4 x1 x2 H locs ls hf I hl
    rw [f_X3_thingsNotGiven_b30] at hf
    refine lv_iinc (v := (x2 + 1)) (lv' := [(2, .int (x2 + 1)), (0, .ref (q 3)), (1, .int x1)]) hx hb dX3_thingsNotGiven_30 hl (k := 2) rfl rfl (by decide) rfl (fun ls hl => ?_)
    refine lv_goto (tgt := 4) hx hb dX3_thingsNotGiven_33 (by decide) ?_
    exact hk4 x1 (x2 + 1) _ _ ls hf I (lv_sub hl [1, 2, 0] rfl)
  have B4 : ∀ (n4 : Nat), ∀ (x1 : Int32) (x2 : Int32) (H : Heap) (locs : List Loc) (ls : Array Slot), f_X3_thingsNotGiven_l4 n4 x1 x2 M = some r → kI (cw q aI) D A s M H locs → lv_has ls 3 [(0, .ref (q 3)), (1, .int x1), (2, .int x2)] → W p l e rm_X3_thingsNotGiven s m args below meth c H locs 0 0 (MQ below (kQ (cw q aI) D A (some (.int r)) M) args s 0 0 A) (F0 m 4 ls []) := by
    intro n4
    induction n4 with
    | zero =>
      intro x1 x2 H locs ls hf I hl
      rw [f_X3_thingsNotGiven_l4] at hf
      cases hf
    | succ n4 ih4 =>
      intro x1 x2 H locs ls hf I hl
      rw [f_X3_thingsNotGiven_l4] at hf
      refine lv_iload_n hx hb dX3_thingsNotGiven_4 rfl (lv_at hl 2 rfl) ?_
      refine lv_aload_n hx hb dX3_thingsNotGiven_5 rfl (lv_at hl 0 rfl) ?_
      refine k_get (T := TX3) (N := 7) X I inU3 3 cwG_3 rfl 4 (by decide) uw_1_92 rfl rfl dX3_thingsNotGiven_6 ?_
      refine lv_icmp_ge (tgt := 36) hx hb dX3_thingsNotGiven_9 (by decide) (fun c1 => ?_) (fun c1 => ?_)
      · rw [if_pos c1] at hf
        refine lv_iload_n hx hb dX3_thingsNotGiven_36 rfl (lv_at hl 1 rfl) ?_
        exact k_iretP X I hr hlocks dX3_thingsNotGiven_37 hf
      · rw [if_neg c1] at hf
        refine lv_aload_n hx hb dX3_thingsNotGiven_12 rfl (lv_at hl 0 rfl) ?_
        refine k_get (T := TX3) (N := 7) X I inU3 3 cwG_3 rfl 2 (by decide) uw_1_90 rfl rfl dX3_thingsNotGiven_13 ?_
        refine lv_iload_n hx hb dX3_thingsNotGiven_16 rfl (lv_at hl 2 rfl) ?_
        obtain ⟨r2, h_r2, hf⟩ := k_bind hf
        refine k_callV (n := 1) (As := [.int x2]) (rest := []) X I (c_X2_holderOf h_r2) uw_2_227 uw_2_127 uw_2_128 uw_1_4 uw_2_129 ⟨rfl, rfl⟩ (by decide +kernel) rfl ⟨Nat.le_of_ble_eq_true rfl, Nat.le_of_ble_eq_true rfl⟩ ⟨Nat.le_of_ble_eq_true rfl, Nat.le_of_ble_eq_true rfl⟩ 6 cwG_6 rfl hl.1 rfl (Nat.le_of_ble_eq_true rfl) dX3_thingsNotGiven_17 (st1 := [.int r2]) rfl (fun H locs I => ?_)
        refine lv_iconst (v := (-1)) hx hb dX3_thingsNotGiven_20 (by decide) ?_
        refine lv_icmp_ne (tgt := 30) hx hb dX3_thingsNotGiven_21 (by decide) (fun c3 => ?_) (fun c3 => ?_)
        · rw [if_neg c3] at hf
          exact B30 (f_X3_thingsNotGiven_l4 n4) ih4 x1 x2 _ _ ls hf I (lv_sub hl [0, 1, 2] rfl)
        · rw [if_pos c3] at hf
          refine lv_iload_n hx hb dX3_thingsNotGiven_24 rfl (lv_at hl 1 rfl) ?_
          refine lv_iconst (v := 1) hx hb dX3_thingsNotGiven_25 (by decide) ?_
          refine lv_iload_n hx hb dX3_thingsNotGiven_26 rfl (lv_at hl 2 rfl) ?_
          refine lv_ishl hx hb dX3_thingsNotGiven_27 ?_
          refine lv_ior hx hb dX3_thingsNotGiven_28 ?_
          refine lv_istore_n (lv' := [(1, .int (x1 ||| ((1 : Int32) <<< (x2 &&& 31)))), (0, .ref (q 3)), (2, .int x2)]) hx hb dX3_thingsNotGiven_29 rfl hl (by decide) rfl (fun ls hl => ?_)
          exact B30 (f_X3_thingsNotGiven_l4 n4) ih4 (x1 ||| ((1 : Int32) <<< (x2 &&& 31))) x2 _ _ ls hf I (lv_sub hl [1, 0, 2] rfl)
  rw [f_X3_thingsNotGiven] at hf
  refine lv_iconst (v := 0) hx hb dX3_thingsNotGiven_0 (by decide) ?_
  refine lv_istore_n (lv' := [(1, .int (0 : Int32)), (0, .ref (q 3))]) hx hb dX3_thingsNotGiven_1 rfl hl (by decide) rfl (fun ls hl => ?_)
  refine lv_iconst (v := 0) hx hb dX3_thingsNotGiven_2 (by decide) ?_
  refine lv_istore_n (lv' := [(2, .int (0 : Int32)), (1, .int (0 : Int32)), (0, .ref (q 3))]) hx hb dX3_thingsNotGiven_3 rfl hl (by decide) rfl (fun ls hl => ?_)
  exact B4 xN (0 : Int32) (0 : Int32) _ _ ls hf I (lv_sub hl [2, 1, 0] rfl)
/-! LostTent.isIn(II)Z -/
abbrev rm_X5_isIn : Room := { frames := 0, cells := 0, slots := 0, locals := 0 }
def f_X5_isIn (x0 : Int32) (x1 : Int32) : Option Int32 :=
  if (x0 &&& ((1 : Int32) <<< (x1 &&& 31))) = 0 then
    xbo (0 : Int32)
  else
    xbo (1 : Int32)
set_option maxRecDepth 100000 in
set_option maxHeartbeats 8000000 in
theorem c_X5_isIn {l : Launch} {D : va_G} {aI : ClassId} {q t : Nat → Nat} {x0 : Int32} {x1 : Int32} {M : xM} {r : Int32} (hf : f_X5_isIn x0 x1 = some r) : kM l yX5_isIn (wk yX5_isIn cX5_isIn 2 (some .boolean)) rm_X5_isIn (cw q aI) D aI t [.int x0, .int x1] M (some (.int r)) M := by
  refine kM_of (by decide) (Nat.le_of_ble_eq_true rfl) ?_
  intro p e s m args below meth c A ls X hr hlocks hl I
  have hx := X.1
  have hb := X.2.1
  have hl : lv_has ls 2 [(0, .int x0), (1, .int x1)] := hl
  rw [f_X5_isIn] at hf
  refine lv_iload_n hx hb dX5_isIn_0 rfl (lv_at hl 0 rfl) ?_
  refine lv_iconst (v := 1) hx hb dX5_isIn_1 (by decide) ?_
  refine lv_iload_n hx hb dX5_isIn_2 rfl (lv_at hl 1 rfl) ?_
  refine lv_ishl hx hb dX5_isIn_3 ?_
  refine lv_iand hx hb dX5_isIn_4 ?_
  refine lv_if_eq (tgt := 12) hx hb dX5_isIn_5 (by decide) (fun c1 => ?_) (fun c1 => ?_)
  · rw [if_pos c1] at hf
    refine lv_iconst (v := 0) hx hb dX5_isIn_12 (by decide) ?_
    exact k_zretP X I hr hlocks dX5_isIn_13 hf
  · rw [if_neg c1] at hf
    refine lv_iconst (v := 1) hx hb dX5_isIn_8 (by decide) ?_
    refine lv_goto (tgt := 13) hx hb dX5_isIn_9 (by decide) ?_
    exact k_zretP X I hr hlocks dX5_isIn_13 hf
/-! LostTent$Tent.howManyAlike(III)I -/
abbrev rm_X3_howManyAlike : Room := { frames := 2, cells := 0, slots := 0, locals := 43 }
def f_X3_howManyAlike_b38 (k6 : Int32 → Int32 → Int32 → Int32 → Int32 → xM → Option Int32) (x1 : Int32) (x2 : Int32) (x3 : Int32) (x4 : Int32) (x5 : Int32) (M : xM) : Option Int32 :=
  k6 x1 x2 x3 x4 (x5 + 1) M
def f_X3_howManyAlike_l6 : Nat → Int32 → Int32 → Int32 → Int32 → Int32 → xM → Option Int32
  | 0, _, _, _, _, _, _ => none
  | n6 + 1, x1, x2, x3, x4, x5, M =>
    if (M.1 2) ≤ x5 then
      some x4
    else
      (f_X5_isIn x1 x5).bind fun r2 =>
      if r2 = 0 then
        f_X3_howManyAlike_b38 (f_X3_howManyAlike_l6 n6) x1 x2 x3 x4 x5 M
      else
        (f_X3_signOf x5 x2 M).bind fun r4 =>
        if r4 = x3 then
          f_X3_howManyAlike_b38 (f_X3_howManyAlike_l6 n6) x1 x2 x3 (x4 + 1) x5 M
        else
          f_X3_howManyAlike_b38 (f_X3_howManyAlike_l6 n6) x1 x2 x3 x4 x5 M
def f_X3_howManyAlike (x1 : Int32) (x2 : Int32) (x3 : Int32) (M : xM) : Option Int32 :=
  f_X3_howManyAlike_l6 xN x1 x2 x3 (0 : Int32) (0 : Int32) M
set_option maxRecDepth 100000 in
set_option maxHeartbeats 8000000 in
theorem c_X3_howManyAlike {l : Launch} {D : va_G} {aI : ClassId} {q t : Nat → Nat} {x1 : Int32} {x2 : Int32} {x3 : Int32} {M : xM} {r : Int32} (hf : f_X3_howManyAlike x1 x2 x3 M = some r) : kM l yX3_howManyAlike (wk yX3_howManyAlike cX3_howManyAlike 6 (some .int)) rm_X3_howManyAlike (cw q aI) D aI t [.ref (q 3), .int x1, .int x2, .int x3] M (some (.int r)) M := by
  refine kM_of (by decide) (Nat.le_of_ble_eq_true rfl) ?_
  intro p e s m args below meth c A ls X hr hlocks hl I
  have hx := X.1
  have hb := X.2.1
  have hl : lv_has ls 6 [(0, .ref (q 3)), (1, .int x1), (2, .int x2), (3, .int x3)] := hl
  have B38 : ∀ (k6 : Int32 → Int32 → Int32 → Int32 → Int32 → xM → Option Int32), (∀ (x1 : Int32) (x2 : Int32) (x3 : Int32) (x4 : Int32) (x5 : Int32) (H : Heap) (locs : List Loc) (ls : Array Slot), k6 x1 x2 x3 x4 x5 M = some r → kI (cw q aI) D A s M H locs → lv_has ls 6 [(0, .ref (q 3)), (1, .int x1), (2, .int x2), (3, .int x3), (4, .int x4), (5, .int x5)] → W p l e rm_X3_howManyAlike s m args below meth c H locs 0 0 (MQ below (kQ (cw q aI) D A (some (.int r)) M) args s 0 0 A) (F0 m 6 ls [])) → ∀ (x1 : Int32) (x2 : Int32) (x3 : Int32) (x4 : Int32) (x5 : Int32) (H : Heap) (locs : List Loc) (ls : Array Slot), f_X3_howManyAlike_b38 k6 x1 x2 x3 x4 x5 M = some r → kI (cw q aI) D A s M H locs → lv_has ls 6 [(0, .ref (q 3)), (1, .int x1), (2, .int x2), (3, .int x3), (4, .int x4), (5, .int x5)] → W p l e rm_X3_howManyAlike s m args below meth c H locs 0 0 (MQ below (kQ (cw q aI) D A (some (.int r)) M) args s 0 0 A) (F0 m 38 ls []) := by
    intro k6 hk6 x1 x2 x3 x4 x5 H locs ls hf I hl
    rw [f_X3_howManyAlike_b38] at hf
    refine lv_iinc (v := (x5 + 1)) (lv' := [(5, .int (x5 + 1)), (0, .ref (q 3)), (1, .int x1), (2, .int x2), (3, .int x3), (4, .int x4)]) hx hb dX3_howManyAlike_38 hl (k := 5) rfl rfl (by decide) rfl (fun ls hl => ?_)
    refine lv_goto (tgt := 6) hx hb dX3_howManyAlike_41 (by decide) ?_
    exact hk6 x1 x2 x3 x4 (x5 + 1) _ _ ls hf I (lv_sub hl [1, 2, 3, 4, 5, 0] rfl)
  have B6 : ∀ (n6 : Nat), ∀ (x1 : Int32) (x2 : Int32) (x3 : Int32) (x4 : Int32) (x5 : Int32) (H : Heap) (locs : List Loc) (ls : Array Slot), f_X3_howManyAlike_l6 n6 x1 x2 x3 x4 x5 M = some r → kI (cw q aI) D A s M H locs → lv_has ls 6 [(0, .ref (q 3)), (1, .int x1), (2, .int x2), (3, .int x3), (4, .int x4), (5, .int x5)] → W p l e rm_X3_howManyAlike s m args below meth c H locs 0 0 (MQ below (kQ (cw q aI) D A (some (.int r)) M) args s 0 0 A) (F0 m 6 ls []) := by
    intro n6
    induction n6 with
    | zero =>
      intro x1 x2 x3 x4 x5 H locs ls hf I hl
      rw [f_X3_howManyAlike_l6] at hf
      cases hf
    | succ n6 ih6 =>
      intro x1 x2 x3 x4 x5 H locs ls hf I hl
      rw [f_X3_howManyAlike_l6] at hf
      refine lv_iload hx hb dX3_howManyAlike_6 (lv_at hl 5 rfl) ?_
      refine lv_aload_n hx hb dX3_howManyAlike_8 rfl (lv_at hl 0 rfl) ?_
      refine k_get (T := TX3) (N := 7) X I inU3 3 cwG_3 rfl 4 (by decide) uw_1_92 rfl rfl dX3_howManyAlike_9 ?_
      refine lv_icmp_ge (tgt := 44) hx hb dX3_howManyAlike_12 (by decide) (fun c1 => ?_) (fun c1 => ?_)
      · rw [if_pos c1] at hf
        refine lv_iload hx hb dX3_howManyAlike_44 (lv_at hl 4 rfl) ?_
        exact k_iretP X I hr hlocks dX3_howManyAlike_46 hf
      · rw [if_neg c1] at hf
        refine lv_iload_n hx hb dX3_howManyAlike_15 rfl (lv_at hl 1 rfl) ?_
        refine lv_iload hx hb dX3_howManyAlike_16 (lv_at hl 5 rfl) ?_
        obtain ⟨r2, h_r2, hf⟩ := k_bind hf
        refine k_callSN (n := 2) (As := [.int x1, .int x5]) (rest := []) X I (c_X5_isIn h_r2) (List.mem_of_getElem? (i := 11) rfl) uw_1_1 uw_2_237 uw_2_238 ⟨rfl, rfl⟩ (by decide +kernel) rfl ⟨Nat.le_of_ble_eq_true rfl, Nat.le_of_ble_eq_true rfl⟩ ⟨Nat.le_of_ble_eq_true rfl, Nat.le_of_ble_eq_true rfl⟩ hl.1 rfl (Nat.le_of_ble_eq_true rfl) dX3_howManyAlike_18 (st1 := [.int r2]) rfl (fun H locs I => ?_)
        refine lv_if_eq (tgt := 38) hx hb dX3_howManyAlike_21 (by decide) (fun c3 => ?_) (fun c3 => ?_)
        · rw [if_pos c3] at hf
          exact B38 (f_X3_howManyAlike_l6 n6) ih6 x1 x2 x3 x4 x5 _ _ ls hf I (lv_sub hl [0, 1, 2, 3, 4, 5] rfl)
        · rw [if_neg c3] at hf
          refine lv_aload_n hx hb dX3_howManyAlike_24 rfl (lv_at hl 0 rfl) ?_
          refine lv_iload hx hb dX3_howManyAlike_25 (lv_at hl 5 rfl) ?_
          refine lv_iload_n hx hb dX3_howManyAlike_27 rfl (lv_at hl 2 rfl) ?_
          obtain ⟨r4, h_r4, hf⟩ := k_bind hf
          refine k_callV (n := 2) (As := [.int x5, .int x2]) (rest := []) X I (c_X3_signOf h_r4) uw_2_143 uw_2_118 uw_2_119 uw_1_3 uw_2_120 ⟨rfl, rfl⟩ (by decide +kernel) rfl ⟨Nat.le_of_ble_eq_true rfl, Nat.le_of_ble_eq_true rfl⟩ ⟨Nat.le_of_ble_eq_true rfl, Nat.le_of_ble_eq_true rfl⟩ 3 cwG_3 rfl hl.1 rfl (Nat.le_of_ble_eq_true rfl) dX3_howManyAlike_28 (st1 := [.int r4]) rfl (fun H locs I => ?_)
          refine lv_iload_n hx hb dX3_howManyAlike_31 rfl (lv_at hl 3 rfl) ?_
          refine lv_icmp_ne (tgt := 38) hx hb dX3_howManyAlike_32 (by decide) (fun c5 => ?_) (fun c5 => ?_)
          · rw [if_neg c5] at hf
            exact B38 (f_X3_howManyAlike_l6 n6) ih6 x1 x2 x3 x4 x5 _ _ ls hf I (lv_sub hl [0, 1, 2, 3, 4, 5] rfl)
          · rw [if_pos c5] at hf
            refine lv_iinc (v := (x4 + 1)) (lv' := [(4, .int (x4 + 1)), (0, .ref (q 3)), (1, .int x1), (2, .int x2), (3, .int x3), (5, .int x5)]) hx hb dX3_howManyAlike_35 hl (k := 4) rfl rfl (by decide) rfl (fun ls hl => ?_)
            exact B38 (f_X3_howManyAlike_l6 n6) ih6 x1 x2 x3 (x4 + 1) x5 _ _ ls hf I (lv_sub hl [1, 2, 3, 4, 0, 5] rfl)
  rw [f_X3_howManyAlike] at hf
  refine lv_iconst (v := 0) hx hb dX3_howManyAlike_0 (by decide) ?_
  refine lv_istore (lv' := [(4, .int (0 : Int32)), (0, .ref (q 3)), (1, .int x1), (2, .int x2), (3, .int x3)]) hx hb dX3_howManyAlike_1 hl (by decide) rfl (fun ls hl => ?_)
  refine lv_iconst (v := 0) hx hb dX3_howManyAlike_3 (by decide) ?_
  refine lv_istore (lv' := [(5, .int (0 : Int32)), (4, .int (0 : Int32)), (0, .ref (q 3)), (1, .int x1), (2, .int x2), (3, .int x3)]) hx hb dX3_howManyAlike_4 hl (by decide) rfl (fun ls hl => ?_)
  exact B6 xN x1 x2 x3 (0 : Int32) (0 : Int32) _ _ ls hf I (lv_sub hl [2, 3, 4, 5, 1, 0] rfl)
/-! LostTent$Tent.mostAlike(II)I -/
abbrev rm_X3_mostAlike : Room := { frames := 3, cells := 0, slots := 0, locals := 68 }
def f_X3_mostAlike_b41 (k5 : Int32 → Int32 → Int32 → Int32 → xM → Option Int32) (x1 : Int32) (x2 : Int32) (x3 : Int32) (x4 : Int32) (M : xM) : Option Int32 :=
  k5 x1 x2 x3 (x4 + 1) M
def f_X3_mostAlike_l5 : Nat → Int32 → Int32 → Int32 → Int32 → xM → Option Int32
  | 0, _, _, _, _, _ => none
  | n5 + 1, x1, x2, x3, x4, M =>
    if (M.1 2) ≤ x4 then
      some x3
    else
      (f_X5_isIn x1 x4).bind fun r2 =>
      if r2 = 0 then
        f_X3_mostAlike_b41 (f_X3_mostAlike_l5 n5) x1 x2 x3 x4 M
      else
        (f_X3_signOf x4 x2 M).bind fun r4 =>
        (f_X3_howManyAlike x1 x2 r4 M).bind fun r5 =>
        f_X3_mostAlike_b41 (f_X3_mostAlike_l5 n5) x1 x2 (if x3 < r5 then r5 else x3) x4 M
def f_X3_mostAlike (x1 : Int32) (x2 : Int32) (M : xM) : Option Int32 :=
  f_X3_mostAlike_l5 xN x1 x2 (0 : Int32) (0 : Int32) M
set_option maxRecDepth 100000 in
set_option maxHeartbeats 8000000 in
theorem c_X3_mostAlike {l : Launch} {D : va_G} {aI : ClassId} {q t : Nat → Nat} {x1 : Int32} {x2 : Int32} {M : xM} {r : Int32} (hf : f_X3_mostAlike x1 x2 M = some r) : kM l yX3_mostAlike (wk yX3_mostAlike cX3_mostAlike 5 (some .int)) rm_X3_mostAlike (cw q aI) D aI t [.ref (q 3), .int x1, .int x2] M (some (.int r)) M := by
  refine kM_of (by decide) (Nat.le_of_ble_eq_true rfl) ?_
  intro p e s m args below meth c A ls X hr hlocks hl I
  have hx := X.1
  have hb := X.2.1
  have hl : lv_has ls 5 [(0, .ref (q 3)), (1, .int x1), (2, .int x2)] := hl
  have B41 : ∀ (k5 : Int32 → Int32 → Int32 → Int32 → xM → Option Int32), (∀ (x1 : Int32) (x2 : Int32) (x3 : Int32) (x4 : Int32) (H : Heap) (locs : List Loc) (ls : Array Slot), k5 x1 x2 x3 x4 M = some r → kI (cw q aI) D A s M H locs → lv_has ls 5 [(0, .ref (q 3)), (1, .int x1), (2, .int x2), (3, .int x3), (4, .int x4)] → W p l e rm_X3_mostAlike s m args below meth c H locs 0 0 (MQ below (kQ (cw q aI) D A (some (.int r)) M) args s 0 0 A) (F0 m 5 ls [])) → ∀ (x1 : Int32) (x2 : Int32) (x3 : Int32) (x4 : Int32) (H : Heap) (locs : List Loc) (ls : Array Slot), f_X3_mostAlike_b41 k5 x1 x2 x3 x4 M = some r → kI (cw q aI) D A s M H locs → lv_has ls 5 [(0, .ref (q 3)), (1, .int x1), (2, .int x2), (3, .int x3), (4, .int x4)] → W p l e rm_X3_mostAlike s m args below meth c H locs 0 0 (MQ below (kQ (cw q aI) D A (some (.int r)) M) args s 0 0 A) (F0 m 41 ls []) := by
    intro k5 hk5 x1 x2 x3 x4 H locs ls hf I hl
    rw [f_X3_mostAlike_b41] at hf
    refine lv_iinc (v := (x4 + 1)) (lv' := [(4, .int (x4 + 1)), (0, .ref (q 3)), (1, .int x1), (2, .int x2), (3, .int x3)]) hx hb dX3_mostAlike_41 hl (k := 4) rfl rfl (by decide) rfl (fun ls hl => ?_)
    refine lv_goto (tgt := 5) hx hb dX3_mostAlike_44 (by decide) ?_
    exact hk5 x1 x2 x3 (x4 + 1) _ _ ls hf I (lv_sub hl [1, 2, 3, 4, 0] rfl)
  have B5 : ∀ (n5 : Nat), ∀ (x1 : Int32) (x2 : Int32) (x3 : Int32) (x4 : Int32) (H : Heap) (locs : List Loc) (ls : Array Slot), f_X3_mostAlike_l5 n5 x1 x2 x3 x4 M = some r → kI (cw q aI) D A s M H locs → lv_has ls 5 [(0, .ref (q 3)), (1, .int x1), (2, .int x2), (3, .int x3), (4, .int x4)] → W p l e rm_X3_mostAlike s m args below meth c H locs 0 0 (MQ below (kQ (cw q aI) D A (some (.int r)) M) args s 0 0 A) (F0 m 5 ls []) := by
    intro n5
    induction n5 with
    | zero =>
      intro x1 x2 x3 x4 H locs ls hf I hl
      rw [f_X3_mostAlike_l5] at hf
      cases hf
    | succ n5 ih5 =>
      intro x1 x2 x3 x4 H locs ls hf I hl
      rw [f_X3_mostAlike_l5] at hf
      refine lv_iload hx hb dX3_mostAlike_5 (lv_at hl 4 rfl) ?_
      refine lv_aload_n hx hb dX3_mostAlike_7 rfl (lv_at hl 0 rfl) ?_
      refine k_get (T := TX3) (N := 7) X I inU3 3 cwG_3 rfl 4 (by decide) uw_1_92 rfl rfl dX3_mostAlike_8 ?_
      refine lv_icmp_ge (tgt := 47) hx hb dX3_mostAlike_11 (by decide) (fun c1 => ?_) (fun c1 => ?_)
      · rw [if_pos c1] at hf
        refine lv_iload_n hx hb dX3_mostAlike_47 rfl (lv_at hl 3 rfl) ?_
        exact k_iretP X I hr hlocks dX3_mostAlike_48 hf
      · rw [if_neg c1] at hf
        refine lv_iload_n hx hb dX3_mostAlike_14 rfl (lv_at hl 1 rfl) ?_
        refine lv_iload hx hb dX3_mostAlike_15 (lv_at hl 4 rfl) ?_
        obtain ⟨r2, h_r2, hf⟩ := k_bind hf
        refine k_callSN (n := 2) (As := [.int x1, .int x4]) (rest := []) X I (c_X5_isIn h_r2) (List.mem_of_getElem? (i := 11) rfl) uw_1_1 uw_2_237 uw_2_238 ⟨rfl, rfl⟩ (by decide +kernel) rfl ⟨Nat.le_of_ble_eq_true rfl, Nat.le_of_ble_eq_true rfl⟩ ⟨Nat.le_of_ble_eq_true rfl, Nat.le_of_ble_eq_true rfl⟩ hl.1 rfl (Nat.le_of_ble_eq_true rfl) dX3_mostAlike_17 (st1 := [.int r2]) rfl (fun H locs I => ?_)
        refine lv_if_eq (tgt := 41) hx hb dX3_mostAlike_20 (by decide) (fun c3 => ?_) (fun c3 => ?_)
        · rw [if_pos c3] at hf
          exact B41 (f_X3_mostAlike_l5 n5) ih5 x1 x2 x3 x4 _ _ ls hf I (lv_sub hl [0, 1, 2, 3, 4] rfl)
        · rw [if_neg c3] at hf
          refine lv_iload_n hx hb dX3_mostAlike_23 rfl (lv_at hl 3 rfl) ?_
          refine lv_aload_n hx hb dX3_mostAlike_24 rfl (lv_at hl 0 rfl) ?_
          refine lv_iload_n hx hb dX3_mostAlike_25 rfl (lv_at hl 1 rfl) ?_
          refine lv_iload_n hx hb dX3_mostAlike_26 rfl (lv_at hl 2 rfl) ?_
          refine lv_aload_n hx hb dX3_mostAlike_27 rfl (lv_at hl 0 rfl) ?_
          refine lv_iload hx hb dX3_mostAlike_28 (lv_at hl 4 rfl) ?_
          refine lv_iload_n hx hb dX3_mostAlike_30 rfl (lv_at hl 2 rfl) ?_
          obtain ⟨r4, h_r4, hf⟩ := k_bind hf
          refine k_callV (n := 2) (As := [.int x4, .int x2]) (rest := [.int x2, .int x1, .ref (q 3), .int x3]) X I (c_X3_signOf h_r4) uw_2_143 uw_2_118 uw_2_119 uw_1_3 uw_2_120 ⟨rfl, rfl⟩ (by decide +kernel) rfl ⟨Nat.le_of_ble_eq_true rfl, Nat.le_of_ble_eq_true rfl⟩ ⟨Nat.le_of_ble_eq_true rfl, Nat.le_of_ble_eq_true rfl⟩ 3 cwG_3 rfl hl.1 rfl (Nat.le_of_ble_eq_true rfl) dX3_mostAlike_31 (st1 := [.int r4, .int x2, .int x1, .ref (q 3), .int x3]) rfl (fun H locs I => ?_)
          obtain ⟨r5, h_r5, hf⟩ := k_bind hf
          refine k_callV (n := 3) (As := [.int x1, .int x2, .int r4]) (rest := [.int x3]) X I (c_X3_howManyAlike h_r5) uw_2_239 uw_3_1 us_5 uw_1_3 uw_3_2 ⟨rfl, rfl⟩ (by decide +kernel) rfl ⟨Nat.le_of_ble_eq_true rfl, Nat.le_of_ble_eq_true rfl⟩ ⟨Nat.le_of_ble_eq_true rfl, Nat.le_of_ble_eq_true rfl⟩ 3 cwG_3 rfl hl.1 rfl (Nat.le_of_ble_eq_true rfl) dX3_mostAlike_34 (st1 := [.int r5, .int x3]) rfl (fun H locs I => ?_)
          refine k_mmax (rest := []) X hl.1 uw_2_204 ⟨Nat.le_of_ble_eq_true rfl, Nat.le_of_ble_eq_true rfl⟩ (Nat.le_of_ble_eq_true rfl) ⟨Nat.le_of_ble_eq_true rfl, Nat.le_of_ble_eq_true rfl⟩ dX3_mostAlike_37 ?_
          refine lv_istore_n (lv' := [(3, .int (if x3 < r5 then r5 else x3)), (0, .ref (q 3)), (1, .int x1), (2, .int x2), (4, .int x4)]) hx hb dX3_mostAlike_40 rfl hl (by decide) rfl (fun ls hl => ?_)
          exact B41 (f_X3_mostAlike_l5 n5) ih5 x1 x2 (if x3 < r5 then r5 else x3) x4 _ _ ls hf I (lv_sub hl [1, 2, 3, 0, 4] rfl)
  rw [f_X3_mostAlike] at hf
  refine lv_iconst (v := 0) hx hb dX3_mostAlike_0 (by decide) ?_
  refine lv_istore_n (lv' := [(3, .int (0 : Int32)), (0, .ref (q 3)), (1, .int x1), (2, .int x2)]) hx hb dX3_mostAlike_1 rfl hl (by decide) rfl (fun ls hl => ?_)
  refine lv_iconst (v := 0) hx hb dX3_mostAlike_2 (by decide) ?_
  refine lv_istore (lv' := [(4, .int (0 : Int32)), (3, .int (0 : Int32)), (0, .ref (q 3)), (1, .int x1), (2, .int x2)]) hx hb dX3_mostAlike_3 hl (by decide) rfl (fun ls hl => ?_)
  exact B5 xN x1 x2 (0 : Int32) (0 : Int32) _ _ ls hf I (lv_sub hl [2, 3, 4, 1, 0] rfl)
/-! LostTent$Tent.signToAsk(I)I -/
abbrev rm_X3_signToAsk : Room := { frames := 4, cells := 0, slots := 0, locals := 92 }
def f_X3_signToAsk_b45 (k13 : Int32 → Int32 → Int32 → Int32 → xM → Option Int32) (x1 : Int32) (x2 : Int32) (x3 : Int32) (x4 : Int32) (M : xM) : Option Int32 :=
  k13 x1 x2 x3 (x4 + 1) M
def f_X3_signToAsk_b39 (k13 : Int32 → Int32 → Int32 → Int32 → xM → Option Int32) (x1 : Int32) (x4 : Int32) (x5 : Int32) (M : xM) : Option Int32 :=
  f_X3_signToAsk_b45 k13 x1 x4 x5 x4 M
def f_X3_signToAsk_l13 : Nat → Int32 → Int32 → Int32 → Int32 → xM → Option Int32
  | 0, _, _, _, _, _ => none
  | n13 + 1, x1, x2, x3, x4, M =>
    if (3 : Int32) ≤ x4 then
      some x2
    else
      (f_X3_mostAlike x1 x4 M).bind fun r3 =>
      if x2 = (-1 : Int32) then
        f_X3_signToAsk_b39 (f_X3_signToAsk_l13 n13) x1 x4 r3 M
      else
        if x3 ≤ r3 then
          f_X3_signToAsk_b45 (f_X3_signToAsk_l13 n13) x1 x2 x3 x4 M
        else
          f_X3_signToAsk_b39 (f_X3_signToAsk_l13 n13) x1 x4 r3 M
def f_X3_signToAsk (x1 : Int32) (M : xM) : Option Int32 :=
  if x1 = 0 then
    some (-1 : Int32)
  else
    f_X3_signToAsk_l13 xN x1 (-1 : Int32) (0 : Int32) (0 : Int32) M
set_option maxRecDepth 100000 in
set_option maxHeartbeats 8000000 in
theorem c_X3_signToAsk {l : Launch} {D : va_G} {aI : ClassId} {q t : Nat → Nat} {x1 : Int32} {M : xM} {r : Int32} (hf : f_X3_signToAsk x1 M = some r) : kM l yX3_signToAsk (wk yX3_signToAsk cX3_signToAsk 6 (some .int)) rm_X3_signToAsk (cw q aI) D aI t [.ref (q 3), .int x1] M (some (.int r)) M := by
  refine kM_of (by decide) (Nat.le_of_ble_eq_true rfl) ?_
  intro p e s m args below meth c A ls X hr hlocks hl I
  have hx := X.1
  have hb := X.2.1
  have hl : lv_has ls 6 [(0, .ref (q 3)), (1, .int x1)] := hl
  have B45 : ∀ (k13 : Int32 → Int32 → Int32 → Int32 → xM → Option Int32), (∀ (x1 : Int32) (x2 : Int32) (x3 : Int32) (x4 : Int32) (H : Heap) (locs : List Loc) (ls : Array Slot), k13 x1 x2 x3 x4 M = some r → kI (cw q aI) D A s M H locs → lv_has ls 6 [(0, .ref (q 3)), (1, .int x1), (2, .int x2), (3, .int x3), (4, .int x4)] → W p l e rm_X3_signToAsk s m args below meth c H locs 0 0 (MQ below (kQ (cw q aI) D A (some (.int r)) M) args s 0 0 A) (F0 m 13 ls [])) → ∀ (x1 : Int32) (x2 : Int32) (x3 : Int32) (x4 : Int32) (H : Heap) (locs : List Loc) (ls : Array Slot), f_X3_signToAsk_b45 k13 x1 x2 x3 x4 M = some r → kI (cw q aI) D A s M H locs → lv_has ls 6 [(0, .ref (q 3)), (1, .int x1), (2, .int x2), (3, .int x3), (4, .int x4)] → W p l e rm_X3_signToAsk s m args below meth c H locs 0 0 (MQ below (kQ (cw q aI) D A (some (.int r)) M) args s 0 0 A) (F0 m 45 ls []) := by
    intro k13 hk13 x1 x2 x3 x4 H locs ls hf I hl
    rw [f_X3_signToAsk_b45] at hf
    refine lv_iinc (v := (x4 + 1)) (lv' := [(4, .int (x4 + 1)), (0, .ref (q 3)), (1, .int x1), (2, .int x2), (3, .int x3)]) hx hb dX3_signToAsk_45 hl (k := 4) rfl rfl (by decide) rfl (fun ls hl => ?_)
    refine lv_goto (tgt := 13) hx hb dX3_signToAsk_48 (by decide) ?_
    exact hk13 x1 x2 x3 (x4 + 1) _ _ ls hf I (lv_sub hl [1, 2, 3, 4, 0] rfl)
  have B39 : ∀ (k13 : Int32 → Int32 → Int32 → Int32 → xM → Option Int32), (∀ (x1 : Int32) (x2 : Int32) (x3 : Int32) (x4 : Int32) (H : Heap) (locs : List Loc) (ls : Array Slot), k13 x1 x2 x3 x4 M = some r → kI (cw q aI) D A s M H locs → lv_has ls 6 [(0, .ref (q 3)), (1, .int x1), (2, .int x2), (3, .int x3), (4, .int x4)] → W p l e rm_X3_signToAsk s m args below meth c H locs 0 0 (MQ below (kQ (cw q aI) D A (some (.int r)) M) args s 0 0 A) (F0 m 13 ls [])) → ∀ (x1 : Int32) (x4 : Int32) (x5 : Int32) (H : Heap) (locs : List Loc) (ls : Array Slot), f_X3_signToAsk_b39 k13 x1 x4 x5 M = some r → kI (cw q aI) D A s M H locs → lv_has ls 6 [(0, .ref (q 3)), (1, .int x1), (4, .int x4), (5, .int x5)] → W p l e rm_X3_signToAsk s m args below meth c H locs 0 0 (MQ below (kQ (cw q aI) D A (some (.int r)) M) args s 0 0 A) (F0 m 39 ls []) := by
    intro k13 hk13 x1 x4 x5 H locs ls hf I hl
    rw [f_X3_signToAsk_b39] at hf
    refine lv_iload hx hb dX3_signToAsk_39 (lv_at hl 2 rfl) ?_
    refine lv_istore_n (lv' := [(2, .int x4), (0, .ref (q 3)), (1, .int x1), (4, .int x4), (5, .int x5)]) hx hb dX3_signToAsk_41 rfl hl (by decide) rfl (fun ls hl => ?_)
    refine lv_iload hx hb dX3_signToAsk_42 (lv_at hl 4 rfl) ?_
    refine lv_istore_n (lv' := [(3, .int x5), (2, .int x4), (0, .ref (q 3)), (1, .int x1), (4, .int x4), (5, .int x5)]) hx hb dX3_signToAsk_44 rfl hl (by decide) rfl (fun ls hl => ?_)
    exact B45 k13 hk13 x1 x4 x5 x4 _ _ ls hf I (lv_sub hl [2, 3, 1, 0, 4] rfl)
  have B13 : ∀ (n13 : Nat), ∀ (x1 : Int32) (x2 : Int32) (x3 : Int32) (x4 : Int32) (H : Heap) (locs : List Loc) (ls : Array Slot), f_X3_signToAsk_l13 n13 x1 x2 x3 x4 M = some r → kI (cw q aI) D A s M H locs → lv_has ls 6 [(0, .ref (q 3)), (1, .int x1), (2, .int x2), (3, .int x3), (4, .int x4)] → W p l e rm_X3_signToAsk s m args below meth c H locs 0 0 (MQ below (kQ (cw q aI) D A (some (.int r)) M) args s 0 0 A) (F0 m 13 ls []) := by
    intro n13
    induction n13 with
    | zero =>
      intro x1 x2 x3 x4 H locs ls hf I hl
      rw [f_X3_signToAsk_l13] at hf
      cases hf
    | succ n13 ih13 =>
      intro x1 x2 x3 x4 H locs ls hf I hl
      rw [f_X3_signToAsk_l13] at hf
      refine lv_iload hx hb dX3_signToAsk_13 (lv_at hl 4 rfl) ?_
      refine lv_iconst (v := 3) hx hb dX3_signToAsk_15 (by decide) ?_
      refine lv_icmp_ge (tgt := 51) hx hb dX3_signToAsk_16 (by decide) (fun c2 => ?_) (fun c2 => ?_)
      · rw [if_pos c2] at hf
        refine lv_iload_n hx hb dX3_signToAsk_51 rfl (lv_at hl 2 rfl) ?_
        exact k_iretP X I hr hlocks dX3_signToAsk_52 hf
      · rw [if_neg c2] at hf
        refine lv_aload_n hx hb dX3_signToAsk_19 rfl (lv_at hl 0 rfl) ?_
        refine lv_iload_n hx hb dX3_signToAsk_20 rfl (lv_at hl 1 rfl) ?_
        refine lv_iload hx hb dX3_signToAsk_21 (lv_at hl 4 rfl) ?_
        obtain ⟨r3, h_r3, hf⟩ := k_bind hf
        refine k_callV (n := 2) (As := [.int x1, .int x4]) (rest := []) X I (c_X3_mostAlike h_r3) uw_2_232 uw_2_234 us_4 uw_1_3 uw_2_235 ⟨rfl, rfl⟩ (by decide +kernel) rfl ⟨Nat.le_of_ble_eq_true rfl, Nat.le_of_ble_eq_true rfl⟩ ⟨Nat.le_of_ble_eq_true rfl, Nat.le_of_ble_eq_true rfl⟩ 3 cwG_3 rfl hl.1 rfl (Nat.le_of_ble_eq_true rfl) dX3_signToAsk_23 (st1 := [.int r3]) rfl (fun H locs I => ?_)
        refine lv_istore (lv' := [(5, .int r3), (0, .ref (q 3)), (1, .int x1), (2, .int x2), (3, .int x3), (4, .int x4)]) hx hb dX3_signToAsk_26 hl (by decide) rfl (fun ls hl => ?_)
        refine lv_iload_n hx hb dX3_signToAsk_28 rfl (lv_at hl 3 rfl) ?_
        refine lv_iconst (v := (-1)) hx hb dX3_signToAsk_29 (by decide) ?_
        refine lv_icmp_eq (tgt := 39) hx hb dX3_signToAsk_30 (by decide) (fun c4 => ?_) (fun c4 => ?_)
        · rw [if_pos c4] at hf
          exact B39 (f_X3_signToAsk_l13 n13) ih13 x1 x4 r3 _ _ ls hf I (lv_sub hl [1, 2, 5, 0] rfl)
        · rw [if_neg c4] at hf
          refine lv_iload hx hb dX3_signToAsk_33 (lv_at hl 0 rfl) ?_
          refine lv_iload_n hx hb dX3_signToAsk_35 rfl (lv_at hl 4 rfl) ?_
          refine lv_icmp_ge (tgt := 45) hx hb dX3_signToAsk_36 (by decide) (fun c5 => ?_) (fun c5 => ?_)
          · rw [if_pos c5] at hf
            exact B45 (f_X3_signToAsk_l13 n13) ih13 x1 x2 x3 x4 _ _ ls hf I (lv_sub hl [1, 2, 3, 4, 5] rfl)
          · rw [if_neg c5] at hf
            exact B39 (f_X3_signToAsk_l13 n13) ih13 x1 x4 r3 _ _ ls hf I (lv_sub hl [1, 2, 5, 0] rfl)
  rw [f_X3_signToAsk] at hf
  refine lv_iload_n hx hb dX3_signToAsk_0 rfl (lv_at hl 1 rfl) ?_
  refine lv_if_ne (tgt := 6) hx hb dX3_signToAsk_1 (by decide) (fun c1 => ?_) (fun c1 => ?_)
  · rw [if_neg c1] at hf
    refine lv_iconst (v := (-1)) hx hb dX3_signToAsk_6 (by decide) ?_
    refine lv_istore_n (lv' := [(2, .int (-1 : Int32)), (0, .ref (q 3)), (1, .int x1)]) hx hb dX3_signToAsk_7 rfl hl (by decide) rfl (fun ls hl => ?_)
    refine lv_iconst (v := 0) hx hb dX3_signToAsk_8 (by decide) ?_
    refine lv_istore_n (lv' := [(3, .int (0 : Int32)), (2, .int (-1 : Int32)), (0, .ref (q 3)), (1, .int x1)]) hx hb dX3_signToAsk_9 rfl hl (by decide) rfl (fun ls hl => ?_)
    refine lv_iconst (v := 0) hx hb dX3_signToAsk_10 (by decide) ?_
    refine lv_istore (lv' := [(4, .int (0 : Int32)), (3, .int (0 : Int32)), (2, .int (-1 : Int32)), (0, .ref (q 3)), (1, .int x1)]) hx hb dX3_signToAsk_11 hl (by decide) rfl (fun ls hl => ?_)
    exact B13 xN x1 (-1 : Int32) (0 : Int32) (0 : Int32) _ _ ls hf I (lv_sub hl [3, 4, 2, 1, 0] rfl)
  · rw [if_pos c1] at hf
    refine lv_iconst (v := (-1)) hx hb dX3_signToAsk_4 (by decide) ?_
    exact k_iretP X I hr hlocks dX3_signToAsk_5 hf
/-! LostTent.claimer(II)I -/
abbrev rm_X5_claimer : Room := { frames := 5, cells := 0, slots := 0, locals := 117 }
def f_X5_claimer_b56 (x1 : Int32) (x2 : Int32) (M : xM) : Option Int32 :=
  (f_X2_memoryOf x1 x2 M).bind fun r4 =>
  some r4
def f_X5_claimer (x1 : Int32) (x2 : Int32) (M : xM) : Option Int32 :=
  (f_X3_hasClaimer x1 M).bind fun r1 =>
  if r1 = 0 then
    some (-101 : Int32)
  else
    if x2 = 0 then
      f_X5_claimer_b56 x1 x2 M
    else
    if x2 = 1 then
      f_X5_claimer_b56 x1 x2 M
    else
    if x2 = 2 then
      f_X5_claimer_b56 x1 x2 M
    else
    if x2 = 3 then
      (f_X3_kindOf x1 M).bind fun r8 =>
      some r8
    else
    if x2 = 4 then
      (f_X2_thingOf x1 M).bind fun r10 =>
      some r10
    else
    if x2 = 5 then
      (f_X3_thingsFitting x1 M).bind fun r12 =>
      some r12
    else
    if x2 = 6 then
      (f_X3_thingsFitting x1 M).bind fun r14 =>
      (f_X3_thingsNotGiven M).bind fun r15 =>
      (f_X3_signToAsk (r14 &&& r15) M).bind fun r16 =>
      some r16
    else
    some (-102 : Int32)
set_option maxRecDepth 100000 in
set_option maxHeartbeats 8000000 in
theorem c_X5_claimer {l : Launch} {D : va_G} {aI : ClassId} {q t : Nat → Nat} {x1 : Int32} {x2 : Int32} {M : xM} {r : Int32} (hf : f_X5_claimer x1 x2 M = some r) : kM l yX5_claimer (wk yX5_claimer cX5_claimer 3 (some .int)) rm_X5_claimer (cw q aI) D aI t [.ref (q 0), .int x1, .int x2] M (some (.int r)) M := by
  refine kM_of (by decide) (Nat.le_of_ble_eq_true rfl) ?_
  intro p e s m args below meth c A ls X hr hlocks hl I
  have hx := X.1
  have hb := X.2.1
  have hl : lv_has ls 3 [(0, .ref (q 0)), (1, .int x1), (2, .int x2)] := hl
  have B56 : ∀ (x1 : Int32) (x2 : Int32) (H : Heap) (locs : List Loc) (ls : Array Slot), f_X5_claimer_b56 x1 x2 M = some r → kI (cw q aI) D A s M H locs → lv_has ls 3 [(0, .ref (q 0)), (1, .int x1), (2, .int x2)] → W p l e rm_X5_claimer s m args below meth c H locs 0 0 (MQ below (kQ (cw q aI) D A (some (.int r)) M) args s 0 0 A) (F0 m 56 ls []) := by
    intro x1 x2 H locs ls hf I hl
    rw [f_X5_claimer_b56] at hf
    refine lv_aload_n hx hb dX5_claimer_56 rfl (lv_at hl 0 rfl) ?_
    refine k_get (T := TX5) (N := 5) X I inU5 0 cwG_0 rfl 1 (by decide) uw_1_149 rfl rfl dX5_claimer_57 ?_
    refine k_callV (n := 0) (As := []) (rest := []) X I c_X3_register uw_2_122 uw_2_123 uw_2_124 uw_1_3 uw_2_125 ⟨rfl, rfl⟩ (by decide +kernel) rfl ⟨Nat.le_of_ble_eq_true rfl, Nat.le_of_ble_eq_true rfl⟩ ⟨Nat.le_of_ble_eq_true rfl, Nat.le_of_ble_eq_true rfl⟩ 3 cwG_3 rfl hl.1 rfl (Nat.le_of_ble_eq_true rfl) dX5_claimer_60 (st1 := [.ref (q 6)]) rfl (fun H locs I => ?_)
    refine lv_iload_n hx hb dX5_claimer_63 rfl (lv_at hl 1 rfl) ?_
    refine lv_iload_n hx hb dX5_claimer_64 rfl (lv_at hl 2 rfl) ?_
    obtain ⟨r4, h_r4, hf⟩ := k_bind hf
    refine k_callV (n := 2) (As := [.int x1, .int x2]) (rest := []) X I (c_X2_memoryOf h_r4) uw_2_213 uw_2_149 uw_2_150 uw_1_4 uw_2_151 ⟨rfl, rfl⟩ (by decide +kernel) rfl ⟨Nat.le_of_ble_eq_true rfl, Nat.le_of_ble_eq_true rfl⟩ ⟨Nat.le_of_ble_eq_true rfl, Nat.le_of_ble_eq_true rfl⟩ 6 cwG_6 rfl hl.1 rfl (Nat.le_of_ble_eq_true rfl) dX5_claimer_65 (st1 := [.int r4]) rfl (fun H locs I => ?_)
    exact k_iretP X I hr hlocks dX5_claimer_68 hf
  rw [f_X5_claimer] at hf
  refine lv_aload_n hx hb dX5_claimer_0 rfl (lv_at hl 0 rfl) ?_
  refine k_get (T := TX5) (N := 5) X I inU5 0 cwG_0 rfl 1 (by decide) uw_1_149 rfl rfl dX5_claimer_1 ?_
  refine lv_iload_n hx hb dX5_claimer_4 rfl (lv_at hl 1 rfl) ?_
  obtain ⟨r1, h_r1, hf⟩ := k_bind hf
  refine k_callV (n := 1) (As := [.int x1]) (rest := []) X I (c_X3_hasClaimer h_r1) uw_2_209 uw_2_210 uw_2_211 uw_1_3 uw_2_212 ⟨rfl, rfl⟩ (by decide +kernel) rfl ⟨Nat.le_of_ble_eq_true rfl, Nat.le_of_ble_eq_true rfl⟩ ⟨Nat.le_of_ble_eq_true rfl, Nat.le_of_ble_eq_true rfl⟩ 3 cwG_3 rfl hl.1 rfl (Nat.le_of_ble_eq_true rfl) dX5_claimer_5 (st1 := [.int r1]) rfl (fun H locs I => ?_)
  refine lv_if_ne (tgt := 14) hx hb dX5_claimer_8 (by decide) (fun c2 => ?_) (fun c2 => ?_)
  · rw [if_neg c2] at hf
    refine lv_iload_n hx hb dX5_claimer_14 rfl (lv_at hl 2 rfl) ?_
    by_cases c3 : x2 = 0
    · rw [if_pos c3] at hf
      refine lv_tableIn (off := 41) (tgt := 56) hx hb dX5_claimer_15 (by rw [c3]; decide) (by rw [c3]; decide) (by rw [c3]; rfl) (by decide) ?_
      exact B56 x1 x2 _ _ ls hf I (lv_sub hl [0, 1, 2] rfl)
    rw [if_neg c3] at hf
    by_cases c5 : x2 = 1
    · rw [if_pos c5] at hf
      refine lv_tableIn (off := 41) (tgt := 56) hx hb dX5_claimer_15 (by rw [c5]; decide) (by rw [c5]; decide) (by rw [c5]; rfl) (by decide) ?_
      exact B56 x1 x2 _ _ ls hf I (lv_sub hl [0, 1, 2] rfl)
    rw [if_neg c5] at hf
    by_cases c6 : x2 = 2
    · rw [if_pos c6] at hf
      refine lv_tableIn (off := 41) (tgt := 56) hx hb dX5_claimer_15 (by rw [c6]; decide) (by rw [c6]; decide) (by rw [c6]; rfl) (by decide) ?_
      exact B56 x1 x2 _ _ ls hf I (lv_sub hl [0, 1, 2] rfl)
    rw [if_neg c6] at hf
    by_cases c7 : x2 = 3
    · rw [if_pos c7] at hf
      refine lv_tableIn (off := 54) (tgt := 69) hx hb dX5_claimer_15 (by rw [c7]; decide) (by rw [c7]; decide) (by rw [c7]; rfl) (by decide) ?_
      refine lv_aload_n hx hb dX5_claimer_69 rfl (lv_at hl 0 rfl) ?_
      refine k_get (T := TX5) (N := 5) X I inU5 0 cwG_0 rfl 1 (by decide) uw_1_149 rfl rfl dX5_claimer_70 ?_
      refine lv_iload_n hx hb dX5_claimer_73 rfl (lv_at hl 1 rfl) ?_
      obtain ⟨r8, h_r8, hf⟩ := k_bind hf
      refine k_callV (n := 1) (As := [.int x1]) (rest := []) X I (c_X3_kindOf h_r8) uw_2_214 uw_2_140 uw_2_141 uw_1_3 uw_2_142 ⟨rfl, rfl⟩ (by decide +kernel) rfl ⟨Nat.le_of_ble_eq_true rfl, Nat.le_of_ble_eq_true rfl⟩ ⟨Nat.le_of_ble_eq_true rfl, Nat.le_of_ble_eq_true rfl⟩ 3 cwG_3 rfl hl.1 rfl (Nat.le_of_ble_eq_true rfl) dX5_claimer_74 (st1 := [.int r8]) rfl (fun H locs I => ?_)
      exact k_iretP X I hr hlocks dX5_claimer_77 hf
    rw [if_neg c7] at hf
    by_cases c9 : x2 = 4
    · rw [if_pos c9] at hf
      refine lv_tableIn (off := 63) (tgt := 78) hx hb dX5_claimer_15 (by rw [c9]; decide) (by rw [c9]; decide) (by rw [c9]; rfl) (by decide) ?_
      refine lv_aload_n hx hb dX5_claimer_78 rfl (lv_at hl 0 rfl) ?_
      refine k_get (T := TX5) (N := 5) X I inU5 0 cwG_0 rfl 1 (by decide) uw_1_149 rfl rfl dX5_claimer_79 ?_
      refine k_callV (n := 0) (As := []) (rest := []) X I c_X3_register uw_2_122 uw_2_123 uw_2_124 uw_1_3 uw_2_125 ⟨rfl, rfl⟩ (by decide +kernel) rfl ⟨Nat.le_of_ble_eq_true rfl, Nat.le_of_ble_eq_true rfl⟩ ⟨Nat.le_of_ble_eq_true rfl, Nat.le_of_ble_eq_true rfl⟩ 3 cwG_3 rfl hl.1 rfl (Nat.le_of_ble_eq_true rfl) dX5_claimer_82 (st1 := [.ref (q 6)]) rfl (fun H locs I => ?_)
      refine lv_iload_n hx hb dX5_claimer_85 rfl (lv_at hl 1 rfl) ?_
      obtain ⟨r10, h_r10, hf⟩ := k_bind hf
      refine k_callV (n := 1) (As := [.int x1]) (rest := []) X I (c_X2_thingOf h_r10) uw_2_215 uw_2_216 uw_2_217 uw_1_4 uw_2_218 ⟨rfl, rfl⟩ (by decide +kernel) rfl ⟨Nat.le_of_ble_eq_true rfl, Nat.le_of_ble_eq_true rfl⟩ ⟨Nat.le_of_ble_eq_true rfl, Nat.le_of_ble_eq_true rfl⟩ 6 cwG_6 rfl hl.1 rfl (Nat.le_of_ble_eq_true rfl) dX5_claimer_86 (st1 := [.int r10]) rfl (fun H locs I => ?_)
      exact k_iretP X I hr hlocks dX5_claimer_89 hf
    rw [if_neg c9] at hf
    by_cases c11 : x2 = 5
    · rw [if_pos c11] at hf
      refine lv_tableIn (off := 75) (tgt := 90) hx hb dX5_claimer_15 (by rw [c11]; decide) (by rw [c11]; decide) (by rw [c11]; rfl) (by decide) ?_
      refine lv_aload_n hx hb dX5_claimer_90 rfl (lv_at hl 0 rfl) ?_
      refine k_get (T := TX5) (N := 5) X I inU5 0 cwG_0 rfl 1 (by decide) uw_1_149 rfl rfl dX5_claimer_91 ?_
      refine lv_iload_n hx hb dX5_claimer_94 rfl (lv_at hl 1 rfl) ?_
      obtain ⟨r12, h_r12, hf⟩ := k_bind hf
      refine k_callV (n := 1) (As := [.int x1]) (rest := []) X I (c_X3_thingsFitting h_r12) uw_2_219 uw_2_220 uw_2_221 uw_1_3 uw_2_222 ⟨rfl, rfl⟩ (by decide +kernel) rfl ⟨Nat.le_of_ble_eq_true rfl, Nat.le_of_ble_eq_true rfl⟩ ⟨Nat.le_of_ble_eq_true rfl, Nat.le_of_ble_eq_true rfl⟩ 3 cwG_3 rfl hl.1 rfl (Nat.le_of_ble_eq_true rfl) dX5_claimer_95 (st1 := [.int r12]) rfl (fun H locs I => ?_)
      exact k_iretP X I hr hlocks dX5_claimer_98 hf
    rw [if_neg c11] at hf
    by_cases c13 : x2 = 6
    · rw [if_pos c13] at hf
      refine lv_tableIn (off := 84) (tgt := 99) hx hb dX5_claimer_15 (by rw [c13]; decide) (by rw [c13]; decide) (by rw [c13]; rfl) (by decide) ?_
      refine lv_aload_n hx hb dX5_claimer_99 rfl (lv_at hl 0 rfl) ?_
      refine k_get (T := TX5) (N := 5) X I inU5 0 cwG_0 rfl 1 (by decide) uw_1_149 rfl rfl dX5_claimer_100 ?_
      refine lv_aload_n hx hb dX5_claimer_103 rfl (lv_at hl 0 rfl) ?_
      refine k_get (T := TX5) (N := 5) X I inU5 0 cwG_0 rfl 1 (by decide) uw_1_149 rfl rfl dX5_claimer_104 ?_
      refine lv_iload_n hx hb dX5_claimer_107 rfl (lv_at hl 1 rfl) ?_
      obtain ⟨r14, h_r14, hf⟩ := k_bind hf
      refine k_callV (n := 1) (As := [.int x1]) (rest := [.ref (q 3)]) X I (c_X3_thingsFitting h_r14) uw_2_219 uw_2_220 uw_2_221 uw_1_3 uw_2_222 ⟨rfl, rfl⟩ (by decide +kernel) rfl ⟨Nat.le_of_ble_eq_true rfl, Nat.le_of_ble_eq_true rfl⟩ ⟨Nat.le_of_ble_eq_true rfl, Nat.le_of_ble_eq_true rfl⟩ 3 cwG_3 rfl hl.1 rfl (Nat.le_of_ble_eq_true rfl) dX5_claimer_108 (st1 := [.int r14, .ref (q 3)]) rfl (fun H locs I => ?_)
      refine lv_aload_n hx hb dX5_claimer_111 rfl (lv_at hl 0 rfl) ?_
      refine k_get (T := TX5) (N := 5) X I inU5 0 cwG_0 rfl 1 (by decide) uw_1_149 rfl rfl dX5_claimer_112 ?_
      obtain ⟨r15, h_r15, hf⟩ := k_bind hf
      refine k_callV (n := 0) (As := []) (rest := [.int r14, .ref (q 3)]) X I (c_X3_thingsNotGiven h_r15) uw_2_223 uw_2_224 uw_2_225 uw_1_3 uw_2_226 ⟨rfl, rfl⟩ (by decide +kernel) rfl ⟨Nat.le_of_ble_eq_true rfl, Nat.le_of_ble_eq_true rfl⟩ ⟨Nat.le_of_ble_eq_true rfl, Nat.le_of_ble_eq_true rfl⟩ 3 cwG_3 rfl hl.1 rfl (Nat.le_of_ble_eq_true rfl) dX5_claimer_115 (st1 := [.int r15, .int r14, .ref (q 3)]) rfl (fun H locs I => ?_)
      refine lv_iand hx hb dX5_claimer_118 ?_
      obtain ⟨r16, h_r16, hf⟩ := k_bind hf
      refine k_callV (n := 1) (As := [.int (r14 &&& r15)]) (rest := []) X I (c_X3_signToAsk h_r16) uw_2_228 uw_2_229 uw_2_230 uw_1_3 uw_2_231 ⟨rfl, rfl⟩ (by decide +kernel) rfl ⟨Nat.le_of_ble_eq_true rfl, Nat.le_of_ble_eq_true rfl⟩ ⟨Nat.le_of_ble_eq_true rfl, Nat.le_of_ble_eq_true rfl⟩ 3 cwG_3 rfl hl.1 rfl (Nat.le_of_ble_eq_true rfl) dX5_claimer_119 (st1 := [.int r16]) rfl (fun H locs I => ?_)
      exact k_iretP X I hr hlocks dX5_claimer_122 hf
    rw [if_neg c13] at hf
    refine lv_tableOut (tgt := 123) hx hb dX5_claimer_15 (sw_out fun k h1 h2 h3 => by
        have h4 : k = 0 ∨ k = 1 ∨ k = 2 ∨ k = 3 ∨ k = 4 ∨ k = 5 ∨ k = 6 := by omega
        rcases h4 with rfl | rfl | rfl | rfl | rfl | rfl | rfl
        · exact c3 (sw_eq h3 (by decide))
        · exact c5 (sw_eq h3 (by decide))
        · exact c6 (sw_eq h3 (by decide))
        · exact c7 (sw_eq h3 (by decide))
        · exact c9 (sw_eq h3 (by decide))
        · exact c11 (sw_eq h3 (by decide))
        · exact c13 (sw_eq h3 (by decide))) (by decide) ?_
    refine lv_bipush (v := (-102)) hx hb dX5_claimer_123 (by decide) ?_
    exact k_iretP X I hr hlocks dX5_claimer_125 hf
  · rw [if_pos c2] at hf
    refine lv_bipush (v := (-101)) hx hb dX5_claimer_11 (by decide) ?_
    exact k_iretP X I hr hlocks dX5_claimer_13 hf
/-! LostTent.isKind(II)Z -/
abbrev rm_X5_isKind : Room := { frames := 0, cells := 0, slots := 0, locals := 0 }
def f_X5_isKind (x0 : Int32) (x1 : Int32) : Option Int32 :=
  if x1 = x0 then
    xbo (1 : Int32)
  else
    if x1 = 0 then
      xbo (1 : Int32)
    else
      if x1 = (1 : Int32) then
        if x0 = (4 : Int32) then
          xbo (1 : Int32)
        else
          xbo (0 : Int32)
      else
        xbo (0 : Int32)
set_option maxRecDepth 100000 in
set_option maxHeartbeats 8000000 in
theorem c_X5_isKind {l : Launch} {D : va_G} {aI : ClassId} {q t : Nat → Nat} {x0 : Int32} {x1 : Int32} {M : xM} {r : Int32} (hf : f_X5_isKind x0 x1 = some r) : kM l yX5_isKind (wk yX5_isKind cX5_isKind 2 (some .boolean)) rm_X5_isKind (cw q aI) D aI t [.int x0, .int x1] M (some (.int r)) M := by
  refine kM_of (by decide) (Nat.le_of_ble_eq_true rfl) ?_
  intro p e s m args below meth c A ls X hr hlocks hl I
  have hx := X.1
  have hb := X.2.1
  have hl : lv_has ls 2 [(0, .int x0), (1, .int x1)] := hl
  rw [f_X5_isKind] at hf
  refine lv_iload_n hx hb dX5_isKind_0 rfl (lv_at hl 1 rfl) ?_
  refine lv_iload_n hx hb dX5_isKind_1 rfl (lv_at hl 0 rfl) ?_
  refine lv_icmp_eq (tgt := 19) hx hb dX5_isKind_2 (by decide) (fun c1 => ?_) (fun c1 => ?_)
  · rw [if_pos c1] at hf
    refine lv_iconst (v := 1) hx hb dX5_isKind_19 (by decide) ?_
    refine lv_goto (tgt := 24) hx hb dX5_isKind_20 (by decide) ?_
    exact k_zretP X I hr hlocks dX5_isKind_24 hf
  · rw [if_neg c1] at hf
    refine lv_iload_n hx hb dX5_isKind_5 rfl (lv_at hl 1 rfl) ?_
    refine lv_if_eq (tgt := 19) hx hb dX5_isKind_6 (by decide) (fun c2 => ?_) (fun c2 => ?_)
    · rw [if_pos c2] at hf
      refine lv_iconst (v := 1) hx hb dX5_isKind_19 (by decide) ?_
      refine lv_goto (tgt := 24) hx hb dX5_isKind_20 (by decide) ?_
      exact k_zretP X I hr hlocks dX5_isKind_24 hf
    · rw [if_neg c2] at hf
      refine lv_iload_n hx hb dX5_isKind_9 rfl (lv_at hl 1 rfl) ?_
      refine lv_iconst (v := 1) hx hb dX5_isKind_10 (by decide) ?_
      refine lv_icmp_ne (tgt := 23) hx hb dX5_isKind_11 (by decide) (fun c3 => ?_) (fun c3 => ?_)
      · rw [if_neg c3] at hf
        refine lv_iconst (v := 0) hx hb dX5_isKind_23 (by decide) ?_
        exact k_zretP X I hr hlocks dX5_isKind_24 hf
      · rw [if_pos c3] at hf
        refine lv_iload_n hx hb dX5_isKind_14 rfl (lv_at hl 0 rfl) ?_
        refine lv_iconst (v := 4) hx hb dX5_isKind_15 (by decide) ?_
        refine lv_icmp_ne (tgt := 23) hx hb dX5_isKind_16 (by decide) (fun c4 => ?_) (fun c4 => ?_)
        · rw [if_neg c4] at hf
          refine lv_iconst (v := 0) hx hb dX5_isKind_23 (by decide) ?_
          exact k_zretP X I hr hlocks dX5_isKind_24 hf
        · rw [if_pos c4] at hf
          refine lv_iconst (v := 1) hx hb dX5_isKind_19 (by decide) ?_
          refine lv_goto (tgt := 24) hx hb dX5_isKind_20 (by decide) ?_
          exact k_zretP X I hr hlocks dX5_isKind_24 hf
/-! LostTent.as(II)I -/
abbrev rm_X5_as : Room := { frames := 2, cells := 0, slots := 0, locals := 42 }
def f_X5_as (x1 : Int32) (x2 : Int32) (M : xM) : Option Int32 :=
  (f_X3_hasClaimer x1 M).bind fun r1 =>
  if r1 = 0 then
    some (-101 : Int32)
  else
    (f_X5_isBelow x2 (5 : Int32)).bind fun r3 =>
    if r3 = 0 then
      some (-102 : Int32)
    else
      (f_X3_kindOf x1 M).bind fun r5 =>
      (f_X5_isKind r5 x2).bind fun r6 =>
      if r6 = 0 then
        some (-1 : Int32)
      else
        some x1
set_option maxRecDepth 100000 in
set_option maxHeartbeats 8000000 in
theorem c_X5_as {l : Launch} {D : va_G} {aI : ClassId} {q t : Nat → Nat} {x1 : Int32} {x2 : Int32} {M : xM} {r : Int32} (hf : f_X5_as x1 x2 M = some r) : kM l yX5_as (wk yX5_as cX5_as 3 (some .int)) rm_X5_as (cw q aI) D aI t [.ref (q 0), .int x1, .int x2] M (some (.int r)) M := by
  refine kM_of (by decide) (Nat.le_of_ble_eq_true rfl) ?_
  intro p e s m args below meth c A ls X hr hlocks hl I
  have hx := X.1
  have hb := X.2.1
  have hl : lv_has ls 3 [(0, .ref (q 0)), (1, .int x1), (2, .int x2)] := hl
  rw [f_X5_as] at hf
  refine lv_aload_n hx hb dX5_as_0 rfl (lv_at hl 0 rfl) ?_
  refine k_get (T := TX5) (N := 5) X I inU5 0 cwG_0 rfl 1 (by decide) uw_1_149 rfl rfl dX5_as_1 ?_
  refine lv_iload_n hx hb dX5_as_4 rfl (lv_at hl 1 rfl) ?_
  obtain ⟨r1, h_r1, hf⟩ := k_bind hf
  refine k_callV (n := 1) (As := [.int x1]) (rest := []) X I (c_X3_hasClaimer h_r1) uw_2_209 uw_2_210 uw_2_211 uw_1_3 uw_2_212 ⟨rfl, rfl⟩ (by decide +kernel) rfl ⟨Nat.le_of_ble_eq_true rfl, Nat.le_of_ble_eq_true rfl⟩ ⟨Nat.le_of_ble_eq_true rfl, Nat.le_of_ble_eq_true rfl⟩ 3 cwG_3 rfl hl.1 rfl (Nat.le_of_ble_eq_true rfl) dX5_as_5 (st1 := [.int r1]) rfl (fun H locs I => ?_)
  refine lv_if_ne (tgt := 14) hx hb dX5_as_8 (by decide) (fun c2 => ?_) (fun c2 => ?_)
  · rw [if_neg c2] at hf
    refine lv_iload_n hx hb dX5_as_14 rfl (lv_at hl 2 rfl) ?_
    refine lv_iconst (v := 5) hx hb dX5_as_15 (by decide) ?_
    obtain ⟨r3, h_r3, hf⟩ := k_bind hf
    refine k_callS (n := 2) (As := [.int x2, .int (5 : Int32)]) (rest := []) X I (c_X5_isBelow h_r3) uw_3_7 uw_1_209 uw_1_1 uw_1_210 ⟨rfl, rfl⟩ (by decide +kernel) rfl ⟨Nat.le_of_ble_eq_true rfl, Nat.le_of_ble_eq_true rfl⟩ ⟨Nat.le_of_ble_eq_true rfl, Nat.le_of_ble_eq_true rfl⟩ hl.1 rfl (Nat.le_of_ble_eq_true rfl) dX5_as_16 (st1 := [.int r3]) rfl (fun H locs I => ?_)
    refine lv_if_ne (tgt := 25) hx hb dX5_as_19 (by decide) (fun c4 => ?_) (fun c4 => ?_)
    · rw [if_neg c4] at hf
      refine lv_aload_n hx hb dX5_as_25 rfl (lv_at hl 0 rfl) ?_
      refine k_get (T := TX5) (N := 5) X I inU5 0 cwG_0 rfl 1 (by decide) uw_1_149 rfl rfl dX5_as_26 ?_
      refine lv_iload_n hx hb dX5_as_29 rfl (lv_at hl 1 rfl) ?_
      obtain ⟨r5, h_r5, hf⟩ := k_bind hf
      refine k_callV (n := 1) (As := [.int x1]) (rest := []) X I (c_X3_kindOf h_r5) uw_2_214 uw_2_140 uw_2_141 uw_1_3 uw_2_142 ⟨rfl, rfl⟩ (by decide +kernel) rfl ⟨Nat.le_of_ble_eq_true rfl, Nat.le_of_ble_eq_true rfl⟩ ⟨Nat.le_of_ble_eq_true rfl, Nat.le_of_ble_eq_true rfl⟩ 3 cwG_3 rfl hl.1 rfl (Nat.le_of_ble_eq_true rfl) dX5_as_30 (st1 := [.int r5]) rfl (fun H locs I => ?_)
      refine lv_iload_n hx hb dX5_as_33 rfl (lv_at hl 2 rfl) ?_
      obtain ⟨r6, h_r6, hf⟩ := k_bind hf
      refine k_callS (n := 2) (As := [.int r5, .int x2]) (rest := []) X I (c_X5_isKind h_r6) uw_3_8 uw_3_9 uw_1_1 uw_3_10 ⟨rfl, rfl⟩ (by decide +kernel) rfl ⟨Nat.le_of_ble_eq_true rfl, Nat.le_of_ble_eq_true rfl⟩ ⟨Nat.le_of_ble_eq_true rfl, Nat.le_of_ble_eq_true rfl⟩ hl.1 rfl (Nat.le_of_ble_eq_true rfl) dX5_as_34 (st1 := [.int r6]) rfl (fun H locs I => ?_)
      refine lv_if_eq (tgt := 44) hx hb dX5_as_37 (by decide) (fun c7 => ?_) (fun c7 => ?_)
      · rw [if_pos c7] at hf
        refine lv_iconst (v := (-1)) hx hb dX5_as_44 (by decide) ?_
        exact k_iretP X I hr hlocks dX5_as_45 hf
      · rw [if_neg c7] at hf
        refine lv_iload_n hx hb dX5_as_40 rfl (lv_at hl 1 rfl) ?_
        refine lv_goto (tgt := 45) hx hb dX5_as_41 (by decide) ?_
        exact k_iretP X I hr hlocks dX5_as_45 hf
    · rw [if_pos c4] at hf
      refine lv_bipush (v := (-102)) hx hb dX5_as_22 (by decide) ?_
      exact k_iretP X I hr hlocks dX5_as_24 hf
  · rw [if_pos c2] at hf
    refine lv_bipush (v := (-101)) hx hb dX5_as_11 (by decide) ?_
    exact k_iretP X I hr hlocks dX5_as_13 hf
/-! LostTent$Tent.hasBoth(II)Z -/
abbrev rm_X3_hasBoth : Room := { frames := 2, cells := 0, slots := 0, locals := 42 }
def f_X3_hasBoth (x1 : Int32) (x2 : Int32) (M : xM) : Option Int32 :=
  (f_X3_hasThing x1 M).bind fun r1 =>
  if r1 = 0 then
    xbo (0 : Int32)
  else
    (f_X3_hasClaimer x2 M).bind fun r3 =>
    if r3 = 0 then
      xbo (0 : Int32)
    else
      xbo (1 : Int32)
set_option maxRecDepth 100000 in
set_option maxHeartbeats 8000000 in
theorem c_X3_hasBoth {l : Launch} {D : va_G} {aI : ClassId} {q t : Nat → Nat} {x1 : Int32} {x2 : Int32} {M : xM} {r : Int32} (hf : f_X3_hasBoth x1 x2 M = some r) : kM l yX3_hasBoth (wk yX3_hasBoth cX3_hasBoth 3 (some .boolean)) rm_X3_hasBoth (cw q aI) D aI t [.ref (q 3), .int x1, .int x2] M (some (.int r)) M := by
  refine kM_of (by decide) (Nat.le_of_ble_eq_true rfl) ?_
  intro p e s m args below meth c A ls X hr hlocks hl I
  have hx := X.1
  have hb := X.2.1
  have hl : lv_has ls 3 [(0, .ref (q 3)), (1, .int x1), (2, .int x2)] := hl
  rw [f_X3_hasBoth] at hf
  refine lv_aload_n hx hb dX3_hasBoth_0 rfl (lv_at hl 0 rfl) ?_
  refine lv_iload_n hx hb dX3_hasBoth_1 rfl (lv_at hl 1 rfl) ?_
  obtain ⟨r1, h_r1, hf⟩ := k_bind hf
  refine k_callV (n := 1) (As := [.int x1]) (rest := []) X I (c_X3_hasThing h_r1) uw_3_19 uw_2_113 uw_2_114 uw_1_3 uw_2_115 ⟨rfl, rfl⟩ (by decide +kernel) rfl ⟨Nat.le_of_ble_eq_true rfl, Nat.le_of_ble_eq_true rfl⟩ ⟨Nat.le_of_ble_eq_true rfl, Nat.le_of_ble_eq_true rfl⟩ 3 cwG_3 rfl hl.1 rfl (Nat.le_of_ble_eq_true rfl) dX3_hasBoth_2 (st1 := [.int r1]) rfl (fun H locs I => ?_)
  refine lv_if_eq (tgt := 20) hx hb dX3_hasBoth_5 (by decide) (fun c2 => ?_) (fun c2 => ?_)
  · rw [if_pos c2] at hf
    refine lv_iconst (v := 0) hx hb dX3_hasBoth_20 (by decide) ?_
    exact k_zretP X I hr hlocks dX3_hasBoth_21 hf
  · rw [if_neg c2] at hf
    refine lv_aload_n hx hb dX3_hasBoth_8 rfl (lv_at hl 0 rfl) ?_
    refine lv_iload_n hx hb dX3_hasBoth_9 rfl (lv_at hl 2 rfl) ?_
    obtain ⟨r3, h_r3, hf⟩ := k_bind hf
    refine k_callV (n := 1) (As := [.int x2]) (rest := []) X I (c_X3_hasClaimer h_r3) uw_3_20 uw_2_210 uw_2_211 uw_1_3 uw_2_212 ⟨rfl, rfl⟩ (by decide +kernel) rfl ⟨Nat.le_of_ble_eq_true rfl, Nat.le_of_ble_eq_true rfl⟩ ⟨Nat.le_of_ble_eq_true rfl, Nat.le_of_ble_eq_true rfl⟩ 3 cwG_3 rfl hl.1 rfl (Nat.le_of_ble_eq_true rfl) dX3_hasBoth_10 (st1 := [.int r3]) rfl (fun H locs I => ?_)
    refine lv_if_eq (tgt := 20) hx hb dX3_hasBoth_13 (by decide) (fun c4 => ?_) (fun c4 => ?_)
    · rw [if_pos c4] at hf
      refine lv_iconst (v := 0) hx hb dX3_hasBoth_20 (by decide) ?_
      exact k_zretP X I hr hlocks dX3_hasBoth_21 hf
    · rw [if_neg c4] at hf
      refine lv_iconst (v := 1) hx hb dX3_hasBoth_16 (by decide) ?_
      refine lv_goto (tgt := 21) hx hb dX3_hasBoth_17 (by decide) ?_
      exact k_zretP X I hr hlocks dX3_hasBoth_21 hf
/-! LostTent$Tent.wrongOf(II)I -/
abbrev rm_X3_wrongOf : Room := { frames := 3, cells := 0, slots := 0, locals := 68 }
def f_X3_wrongOf (x1 : Int32) (x2 : Int32) (M : xM) : Option Int32 :=
  (f_X3_signOf x1 (0 : Int32) M).bind fun r1 =>
  (f_X3_wrongIfLostIn r1 x1 x2 M).bind fun r2 =>
  some r2
set_option maxRecDepth 100000 in
set_option maxHeartbeats 8000000 in
theorem c_X3_wrongOf {l : Launch} {D : va_G} {aI : ClassId} {q t : Nat → Nat} {x1 : Int32} {x2 : Int32} {M : xM} {r : Int32} (hf : f_X3_wrongOf x1 x2 M = some r) : kM l yX3_wrongOf (wk yX3_wrongOf cX3_wrongOf 3 (some .int)) rm_X3_wrongOf (cw q aI) D aI t [.ref (q 3), .int x1, .int x2] M (some (.int r)) M := by
  refine kM_of (by decide) (Nat.le_of_ble_eq_true rfl) ?_
  intro p e s m args below meth c A ls X hr hlocks hl I
  have hx := X.1
  have hb := X.2.1
  have hl : lv_has ls 3 [(0, .ref (q 3)), (1, .int x1), (2, .int x2)] := hl
  rw [f_X3_wrongOf] at hf
  refine lv_aload_n hx hb dX3_wrongOf_0 rfl (lv_at hl 0 rfl) ?_
  refine lv_aload_n hx hb dX3_wrongOf_1 rfl (lv_at hl 0 rfl) ?_
  refine lv_iload_n hx hb dX3_wrongOf_2 rfl (lv_at hl 1 rfl) ?_
  refine lv_iconst (v := 0) hx hb dX3_wrongOf_3 (by decide) ?_
  obtain ⟨r1, h_r1, hf⟩ := k_bind hf
  refine k_callV (n := 2) (As := [.int x1, .int (0 : Int32)]) (rest := [.ref (q 3)]) X I (c_X3_signOf h_r1) uw_2_143 uw_2_118 uw_2_119 uw_1_3 uw_2_120 ⟨rfl, rfl⟩ (by decide +kernel) rfl ⟨Nat.le_of_ble_eq_true rfl, Nat.le_of_ble_eq_true rfl⟩ ⟨Nat.le_of_ble_eq_true rfl, Nat.le_of_ble_eq_true rfl⟩ 3 cwG_3 rfl hl.1 rfl (Nat.le_of_ble_eq_true rfl) dX3_wrongOf_4 (st1 := [.int r1, .ref (q 3)]) rfl (fun H locs I => ?_)
  refine lv_iload_n hx hb dX3_wrongOf_7 rfl (lv_at hl 1 rfl) ?_
  refine lv_iload_n hx hb dX3_wrongOf_8 rfl (lv_at hl 2 rfl) ?_
  obtain ⟨r2, h_r2, hf⟩ := k_bind hf
  refine k_callV (n := 3) (As := [.int r1, .int x1, .int x2]) (rest := []) X I (c_X3_wrongIfLostIn h_r2) uw_2_144 uw_2_146 us_2 uw_1_3 uw_2_147 ⟨rfl, rfl⟩ (by decide +kernel) rfl ⟨Nat.le_of_ble_eq_true rfl, Nat.le_of_ble_eq_true rfl⟩ ⟨Nat.le_of_ble_eq_true rfl, Nat.le_of_ble_eq_true rfl⟩ 3 cwG_3 rfl hl.1 rfl (Nat.le_of_ble_eq_true rfl) dX3_wrongOf_9 (st1 := [.int r2]) rfl (fun H locs I => ?_)
  exact k_iretP X I hr hlocks dX3_wrongOf_12 hf
/-! LostTent.wrong(II)I -/
abbrev rm_X5_wrong : Room := { frames := 4, cells := 0, slots := 0, locals := 90 }
def f_X5_wrong (x1 : Int32) (x2 : Int32) (M : xM) : Option Int32 :=
  (f_X3_hasBoth x1 x2 M).bind fun r1 =>
  if r1 = 0 then
    some (-101 : Int32)
  else
    (f_X3_wrongOf x1 x2 M).bind fun r3 =>
    some r3
set_option maxRecDepth 100000 in
set_option maxHeartbeats 8000000 in
theorem c_X5_wrong {l : Launch} {D : va_G} {aI : ClassId} {q t : Nat → Nat} {x1 : Int32} {x2 : Int32} {M : xM} {r : Int32} (hf : f_X5_wrong x1 x2 M = some r) : kM l yX5_wrong (wk yX5_wrong cX5_wrong 3 (some .int)) rm_X5_wrong (cw q aI) D aI t [.ref (q 0), .int x1, .int x2] M (some (.int r)) M := by
  refine kM_of (by decide) (Nat.le_of_ble_eq_true rfl) ?_
  intro p e s m args below meth c A ls X hr hlocks hl I
  have hx := X.1
  have hb := X.2.1
  have hl : lv_has ls 3 [(0, .ref (q 0)), (1, .int x1), (2, .int x2)] := hl
  rw [f_X5_wrong] at hf
  refine lv_aload_n hx hb dX5_wrong_0 rfl (lv_at hl 0 rfl) ?_
  refine k_get (T := TX5) (N := 5) X I inU5 0 cwG_0 rfl 1 (by decide) uw_1_149 rfl rfl dX5_wrong_1 ?_
  refine lv_iload_n hx hb dX5_wrong_4 rfl (lv_at hl 1 rfl) ?_
  refine lv_iload_n hx hb dX5_wrong_5 rfl (lv_at hl 2 rfl) ?_
  obtain ⟨r1, h_r1, hf⟩ := k_bind hf
  refine k_callV (n := 2) (As := [.int x1, .int x2]) (rest := []) X I (c_X3_hasBoth h_r1) uw_3_15 uw_3_16 uw_3_17 uw_1_3 uw_3_18 ⟨rfl, rfl⟩ (by decide +kernel) rfl ⟨Nat.le_of_ble_eq_true rfl, Nat.le_of_ble_eq_true rfl⟩ ⟨Nat.le_of_ble_eq_true rfl, Nat.le_of_ble_eq_true rfl⟩ 3 cwG_3 rfl hl.1 rfl (Nat.le_of_ble_eq_true rfl) dX5_wrong_6 (st1 := [.int r1]) rfl (fun H locs I => ?_)
  refine lv_if_ne (tgt := 15) hx hb dX5_wrong_9 (by decide) (fun c2 => ?_) (fun c2 => ?_)
  · rw [if_neg c2] at hf
    refine lv_aload_n hx hb dX5_wrong_15 rfl (lv_at hl 0 rfl) ?_
    refine k_get (T := TX5) (N := 5) X I inU5 0 cwG_0 rfl 1 (by decide) uw_1_149 rfl rfl dX5_wrong_16 ?_
    refine lv_iload_n hx hb dX5_wrong_19 rfl (lv_at hl 1 rfl) ?_
    refine lv_iload_n hx hb dX5_wrong_20 rfl (lv_at hl 2 rfl) ?_
    obtain ⟨r3, h_r3, hf⟩ := k_bind hf
    refine k_callV (n := 2) (As := [.int x1, .int x2]) (rest := []) X I (c_X3_wrongOf h_r3) uw_3_21 uw_3_22 uw_3_23 uw_1_3 uw_3_24 ⟨rfl, rfl⟩ (by decide +kernel) rfl ⟨Nat.le_of_ble_eq_true rfl, Nat.le_of_ble_eq_true rfl⟩ ⟨Nat.le_of_ble_eq_true rfl, Nat.le_of_ble_eq_true rfl⟩ 3 cwG_3 rfl hl.1 rfl (Nat.le_of_ble_eq_true rfl) dX5_wrong_21 (st1 := [.int r3]) rfl (fun H locs I => ?_)
    exact k_iretP X I hr hlocks dX5_wrong_24 hf
  · rw [if_pos c2] at hf
    refine lv_bipush (v := (-101)) hx hb dX5_wrong_12 (by decide) ?_
    exact k_iretP X I hr hlocks dX5_wrong_14 hf
/-! LostTent$Register.hand(II)V -/
abbrev rm_X2_hand : Room := { frames := 1, cells := 0, slots := 0, locals := 22 }
def f_X2_hand (x1 : Int32) (x2 : Int32) (M : xM) : Option xM :=
  nmM (xA M 3 (xp 5 (M.2.2 3) x1 x2)) fun M1 =>
  some M1
set_option maxRecDepth 100000 in
set_option maxHeartbeats 8000000 in
theorem c_X2_hand {l : Launch} {D : va_G} {aI : ClassId} {q t : Nat → Nat} {x1 : Int32} {x2 : Int32} {M : xM} {Mr : xM} (hf : f_X2_hand x1 x2 M = some Mr) : kM l yX2_hand (wk yX2_hand cX2_hand 3 none) rm_X2_hand (cw q aI) D aI t [.ref (q 6), .int x1, .int x2] M none Mr := by
  refine kM_of (by decide) (Nat.le_of_ble_eq_true rfl) ?_
  intro p e s m args below meth c A ls X hr hlocks hl I
  have hx := X.1
  have hb := X.2.1
  have hl : lv_has ls 3 [(0, .ref (q 6)), (1, .int x1), (2, .int x2)] := hl
  rw [f_X2_hand] at hf
  refine lv_aload_n hx hb dX2_hand_0 rfl (lv_at hl 0 rfl) ?_
  refine k_get (T := TX2) (N := 9) X I inU2 6 cwG_6 rfl 0 (by decide) uw_1_60 rfl rfl dX2_hand_1 ?_
  refine lv_iload_n hx hb dX2_hand_4 rfl (lv_at hl 1 rfl) ?_
  refine lv_iload_n hx hb dX2_hand_5 rfl (lv_at hl 2 rfl) ?_
  obtain ⟨M1, e_M1, hf⟩ := k_nm hf
  refine k_callSN (n := 3) (As := [.ref (q 7), .int x1, .int x2]) (rest := []) X I (c_put (M' := M1) 7 cwG_7 (by decide) (cwA_3.trans (congrArg (cw q aI) e_M1))) (List.mem_of_getElem? (i := 0) rfl) uw_1_1 uw_1_58 uw_1_59 ⟨rfl, rfl⟩ (by decide +kernel) rfl ⟨Nat.le_of_ble_eq_true rfl, Nat.le_of_ble_eq_true rfl⟩ ⟨Nat.le_of_ble_eq_true rfl, Nat.le_of_ble_eq_true rfl⟩ hl.1 rfl (Nat.le_of_ble_eq_true rfl) dX2_hand_6 (st1 := []) rfl (fun H locs I => ?_)
  exact k_vret X I hr hlocks dX2_hand_9 hf
/-! LostTent.give(II)I -/
abbrev rm_X5_give : Room := { frames := 4, cells := 0, slots := 0, locals := 90 }
def f_X5_give (x1 : Int32) (x2 : Int32) (M : xM) : Option (Int32 × xM) :=
  (f_X3_hasBoth x1 x2 M).bind fun r1 =>
  if r1 = 0 then
    some ((-101 : Int32), M)
  else
    (f_X2_holderOf x1 M).bind fun r3 =>
    if r3 = (-1 : Int32) then
      (f_X2_thingOf x2 M).bind fun r5 =>
      if r5 = (-1 : Int32) then
        (f_X2_hand x1 x2 M).bind fun M7 =>
        (f_X3_wrongOf x1 x2 M7).bind fun r8 =>
        some (r8, M7)
      else
        some ((-103 : Int32), M)
    else
      some ((-103 : Int32), M)
set_option maxRecDepth 100000 in
set_option maxHeartbeats 8000000 in
theorem c_X5_give {l : Launch} {D : va_G} {aI : ClassId} {q t : Nat → Nat} {x1 : Int32} {x2 : Int32} {M : xM} {r : Int32} {Mr : xM} (hf : f_X5_give x1 x2 M = some (r, Mr)) : kM l yX5_give (wk yX5_give cX5_give 4 (some .int)) rm_X5_give (cw q aI) D aI t [.ref (q 0), .int x1, .int x2] M (some (.int r)) Mr := by
  refine kM_of (by decide) (Nat.le_of_ble_eq_true rfl) ?_
  intro p e s m args below meth c A ls X hr hlocks hl I
  have hx := X.1
  have hb := X.2.1
  have hl : lv_has ls 4 [(0, .ref (q 0)), (1, .int x1), (2, .int x2)] := hl
  rw [f_X5_give] at hf
  refine lv_aload_n hx hb dX5_give_0 rfl (lv_at hl 0 rfl) ?_
  refine k_get (T := TX5) (N := 5) X I inU5 0 cwG_0 rfl 1 (by decide) uw_1_149 rfl rfl dX5_give_1 ?_
  refine lv_iload_n hx hb dX5_give_4 rfl (lv_at hl 1 rfl) ?_
  refine lv_iload_n hx hb dX5_give_5 rfl (lv_at hl 2 rfl) ?_
  obtain ⟨r1, h_r1, hf⟩ := k_bind hf
  refine k_callV (n := 2) (As := [.int x1, .int x2]) (rest := []) X I (c_X3_hasBoth h_r1) uw_3_15 uw_3_16 uw_3_17 uw_1_3 uw_3_18 ⟨rfl, rfl⟩ (by decide +kernel) rfl ⟨Nat.le_of_ble_eq_true rfl, Nat.le_of_ble_eq_true rfl⟩ ⟨Nat.le_of_ble_eq_true rfl, Nat.le_of_ble_eq_true rfl⟩ 3 cwG_3 rfl hl.1 rfl (Nat.le_of_ble_eq_true rfl) dX5_give_6 (st1 := [.int r1]) rfl (fun H locs I => ?_)
  refine lv_if_ne (tgt := 15) hx hb dX5_give_9 (by decide) (fun c2 => ?_) (fun c2 => ?_)
  · rw [if_neg c2] at hf
    refine lv_aload_n hx hb dX5_give_15 rfl (lv_at hl 0 rfl) ?_
    refine k_get (T := TX5) (N := 5) X I inU5 0 cwG_0 rfl 1 (by decide) uw_1_149 rfl rfl dX5_give_16 ?_
    refine k_callV (n := 0) (As := []) (rest := []) X I c_X3_register uw_2_122 uw_2_123 uw_2_124 uw_1_3 uw_2_125 ⟨rfl, rfl⟩ (by decide +kernel) rfl ⟨Nat.le_of_ble_eq_true rfl, Nat.le_of_ble_eq_true rfl⟩ ⟨Nat.le_of_ble_eq_true rfl, Nat.le_of_ble_eq_true rfl⟩ 3 cwG_3 rfl hl.1 rfl (Nat.le_of_ble_eq_true rfl) dX5_give_19 (st1 := [.ref (q 6)]) rfl (fun H locs I => ?_)
    refine lv_astore_n (lv' := [(3, .ref (q 6)), (0, .ref (q 0)), (1, .int x1), (2, .int x2)]) hx hb dX5_give_22 rfl hl (by decide) rfl (fun ls hl => ?_)
    refine lv_aload_n hx hb dX5_give_23 rfl (lv_at hl 0 rfl) ?_
    refine lv_iload_n hx hb dX5_give_24 rfl (lv_at hl 2 rfl) ?_
    obtain ⟨r3, h_r3, hf⟩ := k_bind hf
    refine k_callV (n := 1) (As := [.int x1]) (rest := []) X I (c_X2_holderOf h_r3) uw_2_126 uw_2_127 uw_2_128 uw_1_4 uw_2_129 ⟨rfl, rfl⟩ (by decide +kernel) rfl ⟨Nat.le_of_ble_eq_true rfl, Nat.le_of_ble_eq_true rfl⟩ ⟨Nat.le_of_ble_eq_true rfl, Nat.le_of_ble_eq_true rfl⟩ 6 cwG_6 rfl hl.1 rfl (Nat.le_of_ble_eq_true rfl) dX5_give_25 (st1 := [.int r3]) rfl (fun H locs I => ?_)
    refine lv_iconst (v := (-1)) hx hb dX5_give_28 (by decide) ?_
    refine lv_icmp_ne (tgt := 41) hx hb dX5_give_29 (by decide) (fun c4 => ?_) (fun c4 => ?_)
    · rw [if_neg c4] at hf
      refine lv_bipush (v := (-103)) hx hb dX5_give_41 (by decide) ?_
      exact k_iret X I hr hlocks dX5_give_43 hf
    · rw [if_pos c4] at hf
      refine lv_aload_n hx hb dX5_give_32 rfl (lv_at hl 0 rfl) ?_
      refine lv_iload_n hx hb dX5_give_33 rfl (lv_at hl 3 rfl) ?_
      obtain ⟨r5, h_r5, hf⟩ := k_bind hf
      refine k_callV (n := 1) (As := [.int x2]) (rest := []) X I (c_X2_thingOf h_r5) uw_2_215 uw_2_216 uw_2_217 uw_1_4 uw_2_218 ⟨rfl, rfl⟩ (by decide +kernel) rfl ⟨Nat.le_of_ble_eq_true rfl, Nat.le_of_ble_eq_true rfl⟩ ⟨Nat.le_of_ble_eq_true rfl, Nat.le_of_ble_eq_true rfl⟩ 6 cwG_6 rfl hl.1 rfl (Nat.le_of_ble_eq_true rfl) dX5_give_34 (st1 := [.int r5]) rfl (fun H locs I => ?_)
      refine lv_iconst (v := (-1)) hx hb dX5_give_37 (by decide) ?_
      refine lv_icmp_eq (tgt := 44) hx hb dX5_give_38 (by decide) (fun c6 => ?_) (fun c6 => ?_)
      · rw [if_pos c6] at hf
        refine lv_aload_n hx hb dX5_give_44 rfl (lv_at hl 0 rfl) ?_
        refine lv_iload_n hx hb dX5_give_45 rfl (lv_at hl 2 rfl) ?_
        refine lv_iload_n hx hb dX5_give_46 rfl (lv_at hl 3 rfl) ?_
        obtain ⟨M7, h_M7, hf⟩ := k_bind hf
        refine k_callV (n := 2) (As := [.int x1, .int x2]) (rest := []) X I (c_X2_hand h_M7) uw_3_29 uw_3_30 uw_3_31 uw_1_4 uw_3_32 ⟨rfl, rfl⟩ (by decide +kernel) rfl ⟨Nat.le_of_ble_eq_true rfl, Nat.le_of_ble_eq_true rfl⟩ ⟨Nat.le_of_ble_eq_true rfl, Nat.le_of_ble_eq_true rfl⟩ 6 cwG_6 rfl hl.1 rfl (Nat.le_of_ble_eq_true rfl) dX5_give_47 (st1 := []) rfl (fun H locs I => ?_)
        refine lv_aload_n hx hb dX5_give_50 rfl (lv_at hl 1 rfl) ?_
        refine k_get (T := TX5) (N := 5) X I inU5 0 cwG_0 rfl 1 (by decide) uw_1_149 rfl rfl dX5_give_51 ?_
        refine lv_iload_n hx hb dX5_give_54 rfl (lv_at hl 2 rfl) ?_
        refine lv_iload_n hx hb dX5_give_55 rfl (lv_at hl 3 rfl) ?_
        obtain ⟨r8, h_r8, hf⟩ := k_bind hf
        refine k_callV (n := 2) (As := [.int x1, .int x2]) (rest := []) X I (c_X3_wrongOf h_r8) uw_3_21 uw_3_22 uw_3_23 uw_1_3 uw_3_24 ⟨rfl, rfl⟩ (by decide +kernel) rfl ⟨Nat.le_of_ble_eq_true rfl, Nat.le_of_ble_eq_true rfl⟩ ⟨Nat.le_of_ble_eq_true rfl, Nat.le_of_ble_eq_true rfl⟩ 3 cwG_3 rfl hl.1 rfl (Nat.le_of_ble_eq_true rfl) dX5_give_56 (st1 := [.int r8]) rfl (fun H locs I => ?_)
        exact k_iret X I hr hlocks dX5_give_59 hf
      · rw [if_neg c6] at hf
        refine lv_bipush (v := (-103)) hx hb dX5_give_41 (by decide) ?_
        exact k_iret X I hr hlocks dX5_give_43 hf
  · rw [if_pos c2] at hf
    refine lv_bipush (v := (-101)) hx hb dX5_give_12 (by decide) ?_
    exact k_iret X I hr hlocks dX5_give_14 hf
/-! LostTent.back(I)I -/
abbrev rm_X5_back : Room := { frames := 2, cells := 0, slots := 0, locals := 44 }
def f_X5_back (x1 : Int32) (M : xM) : Option (Int32 × xM) :=
  (f_X3_hasThing x1 M).bind fun r1 =>
  if r1 = 0 then
    some ((-101 : Int32), M)
  else
    (f_X2_holderOf x1 M).bind fun r3 =>
    if r3 = (-1 : Int32) then
      some ((-103 : Int32), M)
    else
      (f_X2_hand x1 (-1 : Int32) M).bind fun M5 =>
      some (r3, M5)
set_option maxRecDepth 100000 in
set_option maxHeartbeats 8000000 in
theorem c_X5_back {l : Launch} {D : va_G} {aI : ClassId} {q t : Nat → Nat} {x1 : Int32} {M : xM} {r : Int32} {Mr : xM} (hf : f_X5_back x1 M = some (r, Mr)) : kM l yX5_back (wk yX5_back cX5_back 3 (some .int)) rm_X5_back (cw q aI) D aI t [.ref (q 0), .int x1] M (some (.int r)) Mr := by
  refine kM_of (by decide) (Nat.le_of_ble_eq_true rfl) ?_
  intro p e s m args below meth c A ls X hr hlocks hl I
  have hx := X.1
  have hb := X.2.1
  have hl : lv_has ls 3 [(0, .ref (q 0)), (1, .int x1)] := hl
  rw [f_X5_back] at hf
  refine lv_aload_n hx hb dX5_back_0 rfl (lv_at hl 0 rfl) ?_
  refine k_get (T := TX5) (N := 5) X I inU5 0 cwG_0 rfl 1 (by decide) uw_1_149 rfl rfl dX5_back_1 ?_
  refine lv_iload_n hx hb dX5_back_4 rfl (lv_at hl 1 rfl) ?_
  obtain ⟨r1, h_r1, hf⟩ := k_bind hf
  refine k_callV (n := 1) (As := [.int x1]) (rest := []) X I (c_X3_hasThing h_r1) uw_2_112 uw_2_113 uw_2_114 uw_1_3 uw_2_115 ⟨rfl, rfl⟩ (by decide +kernel) rfl ⟨Nat.le_of_ble_eq_true rfl, Nat.le_of_ble_eq_true rfl⟩ ⟨Nat.le_of_ble_eq_true rfl, Nat.le_of_ble_eq_true rfl⟩ 3 cwG_3 rfl hl.1 rfl (Nat.le_of_ble_eq_true rfl) dX5_back_5 (st1 := [.int r1]) rfl (fun H locs I => ?_)
  refine lv_if_ne (tgt := 14) hx hb dX5_back_8 (by decide) (fun c2 => ?_) (fun c2 => ?_)
  · rw [if_neg c2] at hf
    refine lv_aload_n hx hb dX5_back_14 rfl (lv_at hl 0 rfl) ?_
    refine k_get (T := TX5) (N := 5) X I inU5 0 cwG_0 rfl 1 (by decide) uw_1_149 rfl rfl dX5_back_15 ?_
    refine k_callV (n := 0) (As := []) (rest := []) X I c_X3_register uw_2_122 uw_2_123 uw_2_124 uw_1_3 uw_2_125 ⟨rfl, rfl⟩ (by decide +kernel) rfl ⟨Nat.le_of_ble_eq_true rfl, Nat.le_of_ble_eq_true rfl⟩ ⟨Nat.le_of_ble_eq_true rfl, Nat.le_of_ble_eq_true rfl⟩ 3 cwG_3 rfl hl.1 rfl (Nat.le_of_ble_eq_true rfl) dX5_back_18 (st1 := [.ref (q 6)]) rfl (fun H locs I => ?_)
    refine lv_iload_n hx hb dX5_back_21 rfl (lv_at hl 1 rfl) ?_
    obtain ⟨r3, h_r3, hf⟩ := k_bind hf
    refine k_callV (n := 1) (As := [.int x1]) (rest := []) X I (c_X2_holderOf h_r3) uw_2_126 uw_2_127 uw_2_128 uw_1_4 uw_2_129 ⟨rfl, rfl⟩ (by decide +kernel) rfl ⟨Nat.le_of_ble_eq_true rfl, Nat.le_of_ble_eq_true rfl⟩ ⟨Nat.le_of_ble_eq_true rfl, Nat.le_of_ble_eq_true rfl⟩ 6 cwG_6 rfl hl.1 rfl (Nat.le_of_ble_eq_true rfl) dX5_back_22 (st1 := [.int r3]) rfl (fun H locs I => ?_)
    refine lv_istore_n (lv' := [(2, .int r3), (0, .ref (q 0)), (1, .int x1)]) hx hb dX5_back_25 rfl hl (by decide) rfl (fun ls hl => ?_)
    refine lv_iload_n hx hb dX5_back_26 rfl (lv_at hl 0 rfl) ?_
    refine lv_iconst (v := (-1)) hx hb dX5_back_27 (by decide) ?_
    refine lv_icmp_ne (tgt := 34) hx hb dX5_back_28 (by decide) (fun c4 => ?_) (fun c4 => ?_)
    · rw [if_neg c4] at hf
      refine lv_aload_n hx hb dX5_back_34 rfl (lv_at hl 1 rfl) ?_
      refine k_get (T := TX5) (N := 5) X I inU5 0 cwG_0 rfl 1 (by decide) uw_1_149 rfl rfl dX5_back_35 ?_
      refine k_callV (n := 0) (As := []) (rest := []) X I c_X3_register uw_2_122 uw_2_123 uw_2_124 uw_1_3 uw_2_125 ⟨rfl, rfl⟩ (by decide +kernel) rfl ⟨Nat.le_of_ble_eq_true rfl, Nat.le_of_ble_eq_true rfl⟩ ⟨Nat.le_of_ble_eq_true rfl, Nat.le_of_ble_eq_true rfl⟩ 3 cwG_3 rfl hl.1 rfl (Nat.le_of_ble_eq_true rfl) dX5_back_38 (st1 := [.ref (q 6)]) rfl (fun H locs I => ?_)
      refine lv_iload_n hx hb dX5_back_41 rfl (lv_at hl 2 rfl) ?_
      refine lv_iconst (v := (-1)) hx hb dX5_back_42 (by decide) ?_
      obtain ⟨M5, h_M5, hf⟩ := k_bind hf
      refine k_callV (n := 2) (As := [.int x1, .int (-1 : Int32)]) (rest := []) X I (c_X2_hand h_M5) uw_3_29 uw_3_30 uw_3_31 uw_1_4 uw_3_32 ⟨rfl, rfl⟩ (by decide +kernel) rfl ⟨Nat.le_of_ble_eq_true rfl, Nat.le_of_ble_eq_true rfl⟩ ⟨Nat.le_of_ble_eq_true rfl, Nat.le_of_ble_eq_true rfl⟩ 6 cwG_6 rfl hl.1 rfl (Nat.le_of_ble_eq_true rfl) dX5_back_43 (st1 := []) rfl (fun H locs I => ?_)
      refine lv_iload_n hx hb dX5_back_46 rfl (lv_at hl 0 rfl) ?_
      exact k_iret X I hr hlocks dX5_back_47 hf
    · rw [if_pos c4] at hf
      refine lv_bipush (v := (-103)) hx hb dX5_back_31 (by decide) ?_
      exact k_iret X I hr hlocks dX5_back_33 hf
  · rw [if_pos c2] at hf
    refine lv_bipush (v := (-101)) hx hb dX5_back_11 (by decide) ?_
    exact k_iret X I hr hlocks dX5_back_13 hf
/-! LostTent.remember(III)I -/
abbrev rm_X5_remember : Room := { frames := 2, cells := 0, slots := 0, locals := 45 }
def f_X5_remember (x1 : Int32) (x2 : Int32) (x3 : Int32) (M : xM) : Option (Int32 × xM) :=
  (f_X3_hasClaimer x1 M).bind fun r1 =>
  if r1 = 0 then
    some ((-101 : Int32), M)
  else
    (f_X5_isBelow x2 (3 : Int32)).bind fun r3 =>
    if r3 = 0 then
      some ((-102 : Int32), M)
    else
      (f_X5_isBelow x3 (xe 3 (xT [10, 6, 5]) x2)).bind fun r5 =>
      if r5 = 0 then
        some ((-102 : Int32), M)
      else
        (f_X2_memoryOf x1 x2 M).bind fun r7 =>
        (f_X2_setMemory x1 x2 x3 M).bind fun M8 =>
        some (r7, M8)
set_option maxRecDepth 100000 in
set_option maxHeartbeats 8000000 in
theorem c_X5_remember {l : Launch} {D : va_G} {aI : ClassId} {q t : Nat → Nat} {x1 : Int32} {x2 : Int32} {x3 : Int32} {M : xM} {r : Int32} {Mr : xM} (hf : f_X5_remember x1 x2 x3 M = some (r, Mr)) : kM l yX5_remember (wk yX5_remember cX5_remember 5 (some .int)) rm_X5_remember (cw q aI) D aI t [.ref (q 0), .int x1, .int x2, .int x3] M (some (.int r)) Mr := by
  refine kM_of (by decide) (Nat.le_of_ble_eq_true rfl) ?_
  intro p e s m args below meth c A ls X hr hlocks hl I
  have hx := X.1
  have hb := X.2.1
  have hl : lv_has ls 5 [(0, .ref (q 0)), (1, .int x1), (2, .int x2), (3, .int x3)] := hl
  rw [f_X5_remember] at hf
  refine lv_aload_n hx hb dX5_remember_0 rfl (lv_at hl 0 rfl) ?_
  refine k_get (T := TX5) (N := 5) X I inU5 0 cwG_0 rfl 1 (by decide) uw_1_149 rfl rfl dX5_remember_1 ?_
  refine lv_iload_n hx hb dX5_remember_4 rfl (lv_at hl 1 rfl) ?_
  obtain ⟨r1, h_r1, hf⟩ := k_bind hf
  refine k_callV (n := 1) (As := [.int x1]) (rest := []) X I (c_X3_hasClaimer h_r1) uw_2_209 uw_2_210 uw_2_211 uw_1_3 uw_2_212 ⟨rfl, rfl⟩ (by decide +kernel) rfl ⟨Nat.le_of_ble_eq_true rfl, Nat.le_of_ble_eq_true rfl⟩ ⟨Nat.le_of_ble_eq_true rfl, Nat.le_of_ble_eq_true rfl⟩ 3 cwG_3 rfl hl.1 rfl (Nat.le_of_ble_eq_true rfl) dX5_remember_5 (st1 := [.int r1]) rfl (fun H locs I => ?_)
  refine lv_if_ne (tgt := 14) hx hb dX5_remember_8 (by decide) (fun c2 => ?_) (fun c2 => ?_)
  · rw [if_neg c2] at hf
    refine lv_iload_n hx hb dX5_remember_14 rfl (lv_at hl 2 rfl) ?_
    refine lv_iconst (v := 3) hx hb dX5_remember_15 (by decide) ?_
    obtain ⟨r3, h_r3, hf⟩ := k_bind hf
    refine k_callS (n := 2) (As := [.int x2, .int (3 : Int32)]) (rest := []) X I (c_X5_isBelow h_r3) uw_3_7 uw_1_209 uw_1_1 uw_1_210 ⟨rfl, rfl⟩ (by decide +kernel) rfl ⟨Nat.le_of_ble_eq_true rfl, Nat.le_of_ble_eq_true rfl⟩ ⟨Nat.le_of_ble_eq_true rfl, Nat.le_of_ble_eq_true rfl⟩ hl.1 rfl (Nat.le_of_ble_eq_true rfl) dX5_remember_16 (st1 := [.int r3]) rfl (fun H locs I => ?_)
    refine lv_if_eq (tgt := 36) hx hb dX5_remember_19 (by decide) (fun c4 => ?_) (fun c4 => ?_)
    · rw [if_pos c4] at hf
      refine lv_bipush (v := (-102)) hx hb dX5_remember_36 (by decide) ?_
      exact k_iret X I hr hlocks dX5_remember_38 hf
    · rw [if_neg c4] at hf
      refine lv_iload_n hx hb dX5_remember_22 rfl (lv_at hl 3 rfl) ?_
      refine k_gets X I (cZ_0 X.2.2.2.2.2.2.1) uw_3_41 rfl dX5_remember_23 ?_
      refine lv_iload_n hx hb dX5_remember_26 rfl (lv_at hl 2 rfl) ?_
      refine k_callS (n := 2) (As := [.ref (t 0), .int x2]) (rest := [.int x3]) X I (c_entryT cT_0 (by decide)) uw_2_160 uw_1_198 uw_1_1 uw_1_199 ⟨rfl, rfl⟩ (by decide +kernel) rfl ⟨Nat.le_of_ble_eq_true rfl, Nat.le_of_ble_eq_true rfl⟩ ⟨Nat.le_of_ble_eq_true rfl, Nat.le_of_ble_eq_true rfl⟩ hl.1 rfl (Nat.le_of_ble_eq_true rfl) dX5_remember_27 (st1 := [.int (xe 3 (xT [10, 6, 5]) x2), .int x3]) rfl (fun H locs I => ?_)
      obtain ⟨r5, h_r5, hf⟩ := k_bind hf
      refine k_callS (n := 2) (As := [.int x3, .int (xe 3 (xT [10, 6, 5]) x2)]) (rest := []) X I (c_X5_isBelow h_r5) uw_3_7 uw_1_209 uw_1_1 uw_1_210 ⟨rfl, rfl⟩ (by decide +kernel) rfl ⟨Nat.le_of_ble_eq_true rfl, Nat.le_of_ble_eq_true rfl⟩ ⟨Nat.le_of_ble_eq_true rfl, Nat.le_of_ble_eq_true rfl⟩ hl.1 rfl (Nat.le_of_ble_eq_true rfl) dX5_remember_30 (st1 := [.int r5]) rfl (fun H locs I => ?_)
      refine lv_if_ne (tgt := 39) hx hb dX5_remember_33 (by decide) (fun c6 => ?_) (fun c6 => ?_)
      · rw [if_neg c6] at hf
        refine lv_aload_n hx hb dX5_remember_39 rfl (lv_at hl 0 rfl) ?_
        refine k_get (T := TX5) (N := 5) X I inU5 0 cwG_0 rfl 1 (by decide) uw_1_149 rfl rfl dX5_remember_40 ?_
        refine k_callV (n := 0) (As := []) (rest := []) X I c_X3_register uw_2_122 uw_2_123 uw_2_124 uw_1_3 uw_2_125 ⟨rfl, rfl⟩ (by decide +kernel) rfl ⟨Nat.le_of_ble_eq_true rfl, Nat.le_of_ble_eq_true rfl⟩ ⟨Nat.le_of_ble_eq_true rfl, Nat.le_of_ble_eq_true rfl⟩ 3 cwG_3 rfl hl.1 rfl (Nat.le_of_ble_eq_true rfl) dX5_remember_43 (st1 := [.ref (q 6)]) rfl (fun H locs I => ?_)
        refine lv_iload_n hx hb dX5_remember_46 rfl (lv_at hl 1 rfl) ?_
        refine lv_iload_n hx hb dX5_remember_47 rfl (lv_at hl 2 rfl) ?_
        obtain ⟨r7, h_r7, hf⟩ := k_bind hf
        refine k_callV (n := 2) (As := [.int x1, .int x2]) (rest := []) X I (c_X2_memoryOf h_r7) uw_2_213 uw_2_149 uw_2_150 uw_1_4 uw_2_151 ⟨rfl, rfl⟩ (by decide +kernel) rfl ⟨Nat.le_of_ble_eq_true rfl, Nat.le_of_ble_eq_true rfl⟩ ⟨Nat.le_of_ble_eq_true rfl, Nat.le_of_ble_eq_true rfl⟩ 6 cwG_6 rfl hl.1 rfl (Nat.le_of_ble_eq_true rfl) dX5_remember_48 (st1 := [.int r7]) rfl (fun H locs I => ?_)
        refine lv_istore (lv' := [(4, .int r7), (0, .ref (q 0)), (1, .int x1), (2, .int x2), (3, .int x3)]) hx hb dX5_remember_51 hl (by decide) rfl (fun ls hl => ?_)
        refine lv_aload_n hx hb dX5_remember_53 rfl (lv_at hl 1 rfl) ?_
        refine k_get (T := TX5) (N := 5) X I inU5 0 cwG_0 rfl 1 (by decide) uw_1_149 rfl rfl dX5_remember_54 ?_
        refine k_callV (n := 0) (As := []) (rest := []) X I c_X3_register uw_2_122 uw_2_123 uw_2_124 uw_1_3 uw_2_125 ⟨rfl, rfl⟩ (by decide +kernel) rfl ⟨Nat.le_of_ble_eq_true rfl, Nat.le_of_ble_eq_true rfl⟩ ⟨Nat.le_of_ble_eq_true rfl, Nat.le_of_ble_eq_true rfl⟩ 3 cwG_3 rfl hl.1 rfl (Nat.le_of_ble_eq_true rfl) dX5_remember_57 (st1 := [.ref (q 6)]) rfl (fun H locs I => ?_)
        refine lv_iload_n hx hb dX5_remember_60 rfl (lv_at hl 2 rfl) ?_
        refine lv_iload_n hx hb dX5_remember_61 rfl (lv_at hl 3 rfl) ?_
        refine lv_iload_n hx hb dX5_remember_62 rfl (lv_at hl 4 rfl) ?_
        obtain ⟨M8, h_M8, hf⟩ := k_bind hf
        refine k_callV (n := 3) (As := [.int x1, .int x2, .int x3]) (rest := []) X I (c_X2_setMemory h_M8) uw_3_42 uw_2_101 uw_2_102 uw_1_4 uw_2_103 ⟨rfl, rfl⟩ (by decide +kernel) rfl ⟨Nat.le_of_ble_eq_true rfl, Nat.le_of_ble_eq_true rfl⟩ ⟨Nat.le_of_ble_eq_true rfl, Nat.le_of_ble_eq_true rfl⟩ 6 cwG_6 rfl hl.1 rfl (Nat.le_of_ble_eq_true rfl) dX5_remember_63 (st1 := []) rfl (fun H locs I => ?_)
        refine lv_iload hx hb dX5_remember_66 (lv_at hl 0 rfl) ?_
        exact k_iret X I hr hlocks dX5_remember_68 hf
      · rw [if_pos c6] at hf
        refine lv_bipush (v := (-102)) hx hb dX5_remember_36 (by decide) ?_
        exact k_iret X I hr hlocks dX5_remember_38 hf
  · rw [if_pos c2] at hf
    refine lv_bipush (v := (-101)) hx hb dX5_remember_11 (by decide) ?_
    exact k_iret X I hr hlocks dX5_remember_13 hf
/-! LostTent$Tent.stands()Z -/
abbrev rm_X3_stands : Room := { frames := 0, cells := 0, slots := 0, locals := 0 }
def f_X3_stands (M : xM) : Option Int32 :=
  if (M.1 2) ≤ 0 then
    xbo (0 : Int32)
  else
    xbo (1 : Int32)
set_option maxRecDepth 100000 in
set_option maxHeartbeats 8000000 in
theorem c_X3_stands {l : Launch} {D : va_G} {aI : ClassId} {q t : Nat → Nat} {M : xM} {r : Int32} (hf : f_X3_stands M = some r) : kM l yX3_stands (wk yX3_stands cX3_stands 1 (some .boolean)) rm_X3_stands (cw q aI) D aI t [.ref (q 3)] M (some (.int r)) M := by
  refine kM_of (by decide) (Nat.le_of_ble_eq_true rfl) ?_
  intro p e s m args below meth c A ls X hr hlocks hl I
  have hx := X.1
  have hb := X.2.1
  have hl : lv_has ls 1 [(0, .ref (q 3))] := hl
  rw [f_X3_stands] at hf
  refine lv_aload_n hx hb dX3_stands_0 rfl (lv_at hl 0 rfl) ?_
  refine k_get (T := TX3) (N := 7) X I inU3 3 cwG_3 rfl 4 (by decide) uw_1_92 rfl rfl dX3_stands_1 ?_
  refine lv_if_le (tgt := 11) hx hb dX3_stands_4 (by decide) (fun c1 => ?_) (fun c1 => ?_)
  · rw [if_pos c1] at hf
    refine lv_iconst (v := 0) hx hb dX3_stands_11 (by decide) ?_
    exact k_zretP X I hr hlocks dX3_stands_12 hf
  · rw [if_neg c1] at hf
    refine lv_iconst (v := 1) hx hb dX3_stands_7 (by decide) ?_
    refine lv_goto (tgt := 12) hx hb dX3_stands_8 (by decide) ?_
    exact k_zretP X I hr hlocks dX3_stands_12 hf
