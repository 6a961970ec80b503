/-! LostTent$Tent.givenThatFit()I -/
abbrev rm_X3_givenThatFit : Room := { frames := 4, cells := 0, slots := 0, locals := 90 }
def f_X3_givenThatFit_b38 (k4 : Int32 → Int32 → xM → Option Int32) (x1 : Int32) (x2 : Int32) (M : xM) : Option Int32 :=
  k4 x1 (x2 + 1) M
def f_X3_givenThatFit_l4 : Nat → Int32 → Int32 → xM → Option Int32
  | 0, _, _, _ => none
  | n4 + 1, x1, x2, M =>
    if (M.1 2) ≤ x2 then
      some x1
    else
      (f_X2_holderOf x2 M).bind fun r2 =>
      if r2 = (-1 : Int32) then
        f_X3_givenThatFit_b38 (f_X3_givenThatFit_l4 n4) x1 x2 M
      else
        (f_X3_fits x2 r2 M).bind fun r4 =>
        if r4 = 0 then
          f_X3_givenThatFit_b38 (f_X3_givenThatFit_l4 n4) x1 x2 M
        else
          f_X3_givenThatFit_b38 (f_X3_givenThatFit_l4 n4) (x1 + 1) x2 M
def f_X3_givenThatFit (M : xM) : Option Int32 :=
  f_X3_givenThatFit_l4 xN (0 : Int32) (0 : Int32) M
set_option maxRecDepth 100000 in
set_option maxHeartbeats 8000000 in
theorem c_X3_givenThatFit {l : Launch} {D : va_G} {aI : ClassId} {q t : Nat → Nat} {M : xM} {r : Int32} (hf : f_X3_givenThatFit M = some r) : kM l yX3_givenThatFit (wk yX3_givenThatFit cX3_givenThatFit 4 (some .int)) rm_X3_givenThatFit (cw q aI) D aI t [.ref (q 3)] M (some (.int r)) M := by
  refine kM_of (by decide) (Nat.le_of_ble_eq_true rfl) ?_
  intro p e s m args below meth c A ls X hr hlocks hl I
  have hx := X.1
  have hb := X.2.1
  have hl : lv_has ls 4 [(0, .ref (q 3))] := hl
  have B38 : ∀ (k4 : Int32 → Int32 → xM → Option Int32), (∀ (x1 : Int32) (x2 : Int32) (H : Heap) (locs : List Loc) (ls : Array Slot), k4 x1 x2 M = some r → kI (cw q aI) D A s M H locs → lv_has ls 4 [(0, .ref (q 3)), (1, .int x1), (2, .int x2)] → W p l e rm_X3_givenThatFit s m args below meth c H locs 0 0 (MQ below (kQ (cw q aI) D A (some (.int r)) M) args s 0 0 A) (F0 m 4 ls [])) → ∀ (x1 : Int32) (x2 : Int32) (H : Heap) (locs : List Loc) (ls : Array Slot), f_X3_givenThatFit_b38 k4 x1 x2 M = some r → kI (cw q aI) D A s M H locs → lv_has ls 4 [(0, .ref (q 3)), (1, .int x1), (2, .int x2)] → W p l e rm_X3_givenThatFit s m args below meth c H locs 0 0 (MQ below (kQ (cw q aI) D A (some (.int r)) M) args s 0 0 A) (F0 m 38 ls []) := by
    intro k4 hk4 x1 x2 H locs ls hf I hl
    rw [f_X3_givenThatFit_b38] at hf
    refine lv_iinc (v := (x2 + 1)) (lv' := [(2, .int (x2 + 1)), (0, .ref (q 3)), (1, .int x1)]) hx hb dX3_givenThatFit_38 hl (k := 2) rfl rfl (by decide) rfl (fun ls hl => ?_)
    refine lv_goto (tgt := 4) hx hb dX3_givenThatFit_41 (by decide) ?_
    exact hk4 x1 (x2 + 1) _ _ ls hf I (lv_sub hl [1, 2, 0] rfl)
  have B4 : ∀ (n4 : Nat), ∀ (x1 : Int32) (x2 : Int32) (H : Heap) (locs : List Loc) (ls : Array Slot), f_X3_givenThatFit_l4 n4 x1 x2 M = some r → kI (cw q aI) D A s M H locs → lv_has ls 4 [(0, .ref (q 3)), (1, .int x1), (2, .int x2)] → W p l e rm_X3_givenThatFit s m args below meth c H locs 0 0 (MQ below (kQ (cw q aI) D A (some (.int r)) M) args s 0 0 A) (F0 m 4 ls []) := by
    intro n4
    induction n4 with
    | zero =>
      intro x1 x2 H locs ls hf I hl
      rw [f_X3_givenThatFit_l4] at hf
      cases hf
    | succ n4 ih4 =>
      intro x1 x2 H locs ls hf I hl
      rw [f_X3_givenThatFit_l4] at hf
      refine lv_iload_n hx hb dX3_givenThatFit_4 rfl (lv_at hl 2 rfl) ?_
      refine lv_aload_n hx hb dX3_givenThatFit_5 rfl (lv_at hl 0 rfl) ?_
      refine k_get (T := TX3) (N := 7) X I inU3 3 cwG_3 rfl 4 (by decide) uw_1_92 rfl rfl dX3_givenThatFit_6 ?_
      refine lv_icmp_ge (tgt := 44) hx hb dX3_givenThatFit_9 (by decide) (fun c1 => ?_) (fun c1 => ?_)
      · rw [if_pos c1] at hf
        refine lv_iload_n hx hb dX3_givenThatFit_44 rfl (lv_at hl 1 rfl) ?_
        exact k_iretP X I hr hlocks dX3_givenThatFit_45 hf
      · rw [if_neg c1] at hf
        refine lv_aload_n hx hb dX3_givenThatFit_12 rfl (lv_at hl 0 rfl) ?_
        refine k_get (T := TX3) (N := 7) X I inU3 3 cwG_3 rfl 2 (by decide) uw_1_90 rfl rfl dX3_givenThatFit_13 ?_
        refine lv_iload_n hx hb dX3_givenThatFit_16 rfl (lv_at hl 2 rfl) ?_
        obtain ⟨r2, h_r2, hf⟩ := k_bind hf
        refine k_callV (n := 1) (As := [.int x2]) (rest := []) X I (c_X2_holderOf h_r2) uw_2_227 uw_2_127 uw_2_128 uw_1_4 uw_2_129 ⟨rfl, rfl⟩ (by decide +kernel) rfl ⟨Nat.le_of_ble_eq_true rfl, Nat.le_of_ble_eq_true rfl⟩ ⟨Nat.le_of_ble_eq_true rfl, Nat.le_of_ble_eq_true rfl⟩ 6 cwG_6 rfl hl.1 rfl (Nat.le_of_ble_eq_true rfl) dX3_givenThatFit_17 (st1 := [.int r2]) rfl (fun H locs I => ?_)
        refine lv_istore_n (lv' := [(3, .int r2), (0, .ref (q 3)), (1, .int x1), (2, .int x2)]) hx hb dX3_givenThatFit_20 rfl hl (by decide) rfl (fun ls hl => ?_)
        refine lv_iload_n hx hb dX3_givenThatFit_21 rfl (lv_at hl 0 rfl) ?_
        refine lv_iconst (v := (-1)) hx hb dX3_givenThatFit_22 (by decide) ?_
        refine lv_icmp_eq (tgt := 38) hx hb dX3_givenThatFit_23 (by decide) (fun c3 => ?_) (fun c3 => ?_)
        · rw [if_pos c3] at hf
          exact B38 (f_X3_givenThatFit_l4 n4) ih4 x1 x2 _ _ ls hf I (lv_sub hl [1, 2, 3] rfl)
        · rw [if_neg c3] at hf
          refine lv_aload_n hx hb dX3_givenThatFit_26 rfl (lv_at hl 1 rfl) ?_
          refine lv_iload_n hx hb dX3_givenThatFit_27 rfl (lv_at hl 3 rfl) ?_
          refine lv_iload_n hx hb dX3_givenThatFit_28 rfl (lv_at hl 0 rfl) ?_
          obtain ⟨r4, h_r4, hf⟩ := k_bind hf
          refine k_callV (n := 2) (As := [.int x2, .int r2]) (rest := []) X I (c_X3_fits h_r4) uw_2_135 uw_2_136 uw_2_137 uw_1_3 uw_2_138 ⟨rfl, rfl⟩ (by decide +kernel) rfl ⟨Nat.le_of_ble_eq_true rfl, Nat.le_of_ble_eq_true rfl⟩ ⟨Nat.le_of_ble_eq_true rfl, Nat.le_of_ble_eq_true rfl⟩ 3 cwG_3 rfl hl.1 rfl (Nat.le_of_ble_eq_true rfl) dX3_givenThatFit_29 (st1 := [.int r4]) rfl (fun H locs I => ?_)
          refine lv_if_eq (tgt := 38) hx hb dX3_givenThatFit_32 (by decide) (fun c5 => ?_) (fun c5 => ?_)
          · rw [if_pos c5] at hf
            exact B38 (f_X3_givenThatFit_l4 n4) ih4 x1 x2 _ _ ls hf I (lv_sub hl [1, 2, 3] rfl)
          · rw [if_neg c5] at hf
            refine lv_iinc (v := (x1 + 1)) (lv' := [(1, .int (x1 + 1)), (3, .int r2), (0, .ref (q 3)), (2, .int x2)]) hx hb dX3_givenThatFit_35 hl (k := 2) rfl rfl (by decide) rfl (fun ls hl => ?_)
            exact B38 (f_X3_givenThatFit_l4 n4) ih4 (x1 + 1) x2 _ _ ls hf I (lv_sub hl [2, 0, 3] rfl)
  rw [f_X3_givenThatFit] at hf
  refine lv_iconst (v := 0) hx hb dX3_givenThatFit_0 (by decide) ?_
  refine lv_istore_n (lv' := [(1, .int (0 : Int32)), (0, .ref (q 3))]) hx hb dX3_givenThatFit_1 rfl hl (by decide) rfl (fun ls hl => ?_)
  refine lv_iconst (v := 0) hx hb dX3_givenThatFit_2 (by decide) ?_
  refine lv_istore_n (lv' := [(2, .int (0 : Int32)), (1, .int (0 : Int32)), (0, .ref (q 3))]) hx hb dX3_givenThatFit_3 rfl hl (by decide) rfl (fun ls hl => ?_)
  exact B4 xN (0 : Int32) (0 : Int32) _ _ ls hf I (lv_sub hl [2, 1, 0] rfl)
/-! LostTent$Tent.givenWrong()I -/
abbrev rm_X3_givenWrong : Room := { frames := 4, cells := 0, slots := 0, locals := 90 }
def f_X3_givenWrong_b35 (k4 : Int32 → Int32 → xM → Option Int32) (x1 : Int32) (x2 : Int32) (M : xM) : Option Int32 :=
  k4 x1 (x2 + 1) M
def f_X3_givenWrong_l4 : Nat → Int32 → Int32 → xM → Option Int32
  | 0, _, _, _ => none
  | n4 + 1, x1, x2, M =>
    if (M.1 2) ≤ x2 then
      some x1
    else
      (f_X2_holderOf x2 M).bind fun r2 =>
      if r2 = (-1 : Int32) then
        f_X3_givenWrong_b35 (f_X3_givenWrong_l4 n4) x1 x2 M
      else
        (f_X3_wrongOf x2 r2 M).bind fun r4 =>
        f_X3_givenWrong_b35 (f_X3_givenWrong_l4 n4) (x1 + r4) x2 M
def f_X3_givenWrong (M : xM) : Option Int32 :=
  f_X3_givenWrong_l4 xN (0 : Int32) (0 : Int32) M
set_option maxRecDepth 100000 in
set_option maxHeartbeats 8000000 in
theorem c_X3_givenWrong {l : Launch} {D : va_G} {aI : ClassId} {q t : Nat → Nat} {M : xM} {r : Int32} (hf : f_X3_givenWrong M = some r) : kM l yX3_givenWrong (wk yX3_givenWrong cX3_givenWrong 4 (some .int)) rm_X3_givenWrong (cw q aI) D aI t [.ref (q 3)] M (some (.int r)) M := by
  refine kM_of (by decide) (Nat.le_of_ble_eq_true rfl) ?_
  intro p e s m args below meth c A ls X hr hlocks hl I
  have hx := X.1
  have hb := X.2.1
  have hl : lv_has ls 4 [(0, .ref (q 3))] := hl
  have B35 : ∀ (k4 : Int32 → Int32 → xM → Option Int32), (∀ (x1 : Int32) (x2 : Int32) (H : Heap) (locs : List Loc) (ls : Array Slot), k4 x1 x2 M = some r → kI (cw q aI) D A s M H locs → lv_has ls 4 [(0, .ref (q 3)), (1, .int x1), (2, .int x2)] → W p l e rm_X3_givenWrong s m args below meth c H locs 0 0 (MQ below (kQ (cw q aI) D A (some (.int r)) M) args s 0 0 A) (F0 m 4 ls [])) → ∀ (x1 : Int32) (x2 : Int32) (H : Heap) (locs : List Loc) (ls : Array Slot), f_X3_givenWrong_b35 k4 x1 x2 M = some r → kI (cw q aI) D A s M H locs → lv_has ls 4 [(0, .ref (q 3)), (1, .int x1), (2, .int x2)] → W p l e rm_X3_givenWrong s m args below meth c H locs 0 0 (MQ below (kQ (cw q aI) D A (some (.int r)) M) args s 0 0 A) (F0 m 35 ls []) := by
    intro k4 hk4 x1 x2 H locs ls hf I hl
    rw [f_X3_givenWrong_b35] at hf
    refine lv_iinc (v := (x2 + 1)) (lv' := [(2, .int (x2 + 1)), (0, .ref (q 3)), (1, .int x1)]) hx hb dX3_givenWrong_35 hl (k := 2) rfl rfl (by decide) rfl (fun ls hl => ?_)
    refine lv_goto (tgt := 4) hx hb dX3_givenWrong_38 (by decide) ?_
    exact hk4 x1 (x2 + 1) _ _ ls hf I (lv_sub hl [1, 2, 0] rfl)
  have B4 : ∀ (n4 : Nat), ∀ (x1 : Int32) (x2 : Int32) (H : Heap) (locs : List Loc) (ls : Array Slot), f_X3_givenWrong_l4 n4 x1 x2 M = some r → kI (cw q aI) D A s M H locs → lv_has ls 4 [(0, .ref (q 3)), (1, .int x1), (2, .int x2)] → W p l e rm_X3_givenWrong s m args below meth c H locs 0 0 (MQ below (kQ (cw q aI) D A (some (.int r)) M) args s 0 0 A) (F0 m 4 ls []) := by
    intro n4
    induction n4 with
    | zero =>
      intro x1 x2 H locs ls hf I hl
      rw [f_X3_givenWrong_l4] at hf
      cases hf
    | succ n4 ih4 =>
      intro x1 x2 H locs ls hf I hl
      rw [f_X3_givenWrong_l4] at hf
      refine lv_iload_n hx hb dX3_givenWrong_4 rfl (lv_at hl 2 rfl) ?_
      refine lv_aload_n hx hb dX3_givenWrong_5 rfl (lv_at hl 0 rfl) ?_
      refine k_get (T := TX3) (N := 7) X I inU3 3 cwG_3 rfl 4 (by decide) uw_1_92 rfl rfl dX3_givenWrong_6 ?_
      refine lv_icmp_ge (tgt := 41) hx hb dX3_givenWrong_9 (by decide) (fun c1 => ?_) (fun c1 => ?_)
      · rw [if_pos c1] at hf
        refine lv_iload_n hx hb dX3_givenWrong_41 rfl (lv_at hl 1 rfl) ?_
        exact k_iretP X I hr hlocks dX3_givenWrong_42 hf
      · rw [if_neg c1] at hf
        refine lv_aload_n hx hb dX3_givenWrong_12 rfl (lv_at hl 0 rfl) ?_
        refine k_get (T := TX3) (N := 7) X I inU3 3 cwG_3 rfl 2 (by decide) uw_1_90 rfl rfl dX3_givenWrong_13 ?_
        refine lv_iload_n hx hb dX3_givenWrong_16 rfl (lv_at hl 2 rfl) ?_
        obtain ⟨r2, h_r2, hf⟩ := k_bind hf
        refine k_callV (n := 1) (As := [.int x2]) (rest := []) X I (c_X2_holderOf h_r2) uw_2_227 uw_2_127 uw_2_128 uw_1_4 uw_2_129 ⟨rfl, rfl⟩ (by decide +kernel) rfl ⟨Nat.le_of_ble_eq_true rfl, Nat.le_of_ble_eq_true rfl⟩ ⟨Nat.le_of_ble_eq_true rfl, Nat.le_of_ble_eq_true rfl⟩ 6 cwG_6 rfl hl.1 rfl (Nat.le_of_ble_eq_true rfl) dX3_givenWrong_17 (st1 := [.int r2]) rfl (fun H locs I => ?_)
        refine lv_istore_n (lv' := [(3, .int r2), (0, .ref (q 3)), (1, .int x1), (2, .int x2)]) hx hb dX3_givenWrong_20 rfl hl (by decide) rfl (fun ls hl => ?_)
        refine lv_iload_n hx hb dX3_givenWrong_21 rfl (lv_at hl 0 rfl) ?_
        refine lv_iconst (v := (-1)) hx hb dX3_givenWrong_22 (by decide) ?_
        refine lv_icmp_eq (tgt := 35) hx hb dX3_givenWrong_23 (by decide) (fun c3 => ?_) (fun c3 => ?_)
        · rw [if_pos c3] at hf
          exact B35 (f_X3_givenWrong_l4 n4) ih4 x1 x2 _ _ ls hf I (lv_sub hl [1, 2, 3] rfl)
        · rw [if_neg c3] at hf
          refine lv_iload_n hx hb dX3_givenWrong_26 rfl (lv_at hl 2 rfl) ?_
          refine lv_aload_n hx hb dX3_givenWrong_27 rfl (lv_at hl 1 rfl) ?_
          refine lv_iload_n hx hb dX3_givenWrong_28 rfl (lv_at hl 3 rfl) ?_
          refine lv_iload_n hx hb dX3_givenWrong_29 rfl (lv_at hl 0 rfl) ?_
          obtain ⟨r4, h_r4, hf⟩ := k_bind hf
          refine k_callV (n := 2) (As := [.int x2, .int r2]) (rest := [.int x1]) X I (c_X3_wrongOf h_r4) uw_3_208 uw_3_22 uw_3_23 uw_1_3 uw_3_24 ⟨rfl, rfl⟩ (by decide +kernel) rfl ⟨Nat.le_of_ble_eq_true rfl, Nat.le_of_ble_eq_true rfl⟩ ⟨Nat.le_of_ble_eq_true rfl, Nat.le_of_ble_eq_true rfl⟩ 3 cwG_3 rfl hl.1 rfl (Nat.le_of_ble_eq_true rfl) dX3_givenWrong_30 (st1 := [.int r4, .int x1]) rfl (fun H locs I => ?_)
          refine lv_iadd hx hb dX3_givenWrong_33 ?_
          refine lv_istore_n (lv' := [(1, .int (x1 + r4)), (3, .int r2), (0, .ref (q 3)), (2, .int x2)]) hx hb dX3_givenWrong_34 rfl hl (by decide) rfl (fun ls hl => ?_)
          exact B35 (f_X3_givenWrong_l4 n4) ih4 (x1 + r4) x2 _ _ ls hf I (lv_sub hl [2, 0, 3] rfl)
  rw [f_X3_givenWrong] at hf
  refine lv_iconst (v := 0) hx hb dX3_givenWrong_0 (by decide) ?_
  refine lv_istore_n (lv' := [(1, .int (0 : Int32)), (0, .ref (q 3))]) hx hb dX3_givenWrong_1 rfl hl (by decide) rfl (fun ls hl => ?_)
  refine lv_iconst (v := 0) hx hb dX3_givenWrong_2 (by decide) ?_
  refine lv_istore_n (lv' := [(2, .int (0 : Int32)), (1, .int (0 : Int32)), (0, .ref (q 3))]) hx hb dX3_givenWrong_3 rfl hl (by decide) rfl (fun ls hl => ?_)
  exact B4 xN (0 : Int32) (0 : Int32) _ _ ls hf I (lv_sub hl [2, 1, 0] rfl)
/-! LostTent$Register.thingsLeft()I -/
abbrev rm_X2_thingsLeft : Room := { frames := 0, cells := 0, slots := 0, locals := 0 }
def f_X2_thingsLeft (M : xM) : Option Int32 :=
  some (M.1 7)
set_option maxRecDepth 100000 in
set_option maxHeartbeats 8000000 in
theorem c_X2_thingsLeft {l : Launch} {D : va_G} {aI : ClassId} {q t : Nat → Nat} {M : xM} {r : Int32} (hf : f_X2_thingsLeft M = some r) : kM l yX2_thingsLeft (wk yX2_thingsLeft cX2_thingsLeft 1 (some .int)) rm_X2_thingsLeft (cw q aI) D aI t [.ref (q 6)] M (some (.int r)) M := by
  refine kM_of (by decide) (Nat.le_of_ble_eq_true rfl) ?_
  intro p e s m args below meth c A ls X hr hlocks hl I
  have hx := X.1
  have hb := X.2.1
  have hl : lv_has ls 1 [(0, .ref (q 6))] := hl
  rw [f_X2_thingsLeft] at hf
  refine lv_aload_n hx hb dX2_thingsLeft_0 rfl (lv_at hl 0 rfl) ?_
  refine k_get (T := TX2) (N := 9) X I inU2 6 cwG_6 rfl 7 (by decide) uw_1_67 rfl rfl dX2_thingsLeft_1 ?_
  exact k_iretP X I hr hlocks dX2_thingsLeft_4 hf
/-! LostTent$Register.claimersLeft()I -/
abbrev rm_X2_claimersLeft : Room := { frames := 0, cells := 0, slots := 0, locals := 0 }
def f_X2_claimersLeft (M : xM) : Option Int32 :=
  some (M.1 8)
set_option maxRecDepth 100000 in
set_option maxHeartbeats 8000000 in
theorem c_X2_claimersLeft {l : Launch} {D : va_G} {aI : ClassId} {q t : Nat → Nat} {M : xM} {r : Int32} (hf : f_X2_claimersLeft M = some r) : kM l yX2_claimersLeft (wk yX2_claimersLeft cX2_claimersLeft 1 (some .int)) rm_X2_claimersLeft (cw q aI) D aI t [.ref (q 6)] M (some (.int r)) M := by
  refine kM_of (by decide) (Nat.le_of_ble_eq_true rfl) ?_
  intro p e s m args below meth c A ls X hr hlocks hl I
  have hx := X.1
  have hb := X.2.1
  have hl : lv_has ls 1 [(0, .ref (q 6))] := hl
  rw [f_X2_claimersLeft] at hf
  refine lv_aload_n hx hb dX2_claimersLeft_0 rfl (lv_at hl 0 rfl) ?_
  refine k_get (T := TX2) (N := 9) X I inU2 6 cwG_6 rfl 8 (by decide) uw_1_68 rfl rfl dX2_claimersLeft_1 ?_
  exact k_iretP X I hr hlocks dX2_claimersLeft_4 hf
/-! LostTent.count(I)I -/
abbrev rm_X5_count : Room := { frames := 5, cells := 0, slots := 0, locals := 113 }
def f_X5_count (x1 : Int32) (M : xM) : Option Int32 :=
  if x1 = 0 then
    (f_X3_things M).bind fun r2 =>
    some r2
  else
  if x1 = 1 then
    (f_X3_claimers M).bind fun r4 =>
    some r4
  else
  if x1 = 2 then
    (f_X3_given M).bind fun r6 =>
    some r6
  else
  if x1 = 3 then
    (f_X3_givenThatFit M).bind fun r8 =>
    some r8
  else
  if x1 = 4 then
    (f_X3_givenWrong M).bind fun r10 =>
    some r10
  else
  if x1 = 5 then
    (f_X2_mondaysOver M).bind fun r12 =>
    some r12
  else
  if x1 = 6 then
    (f_X2_thingsLeft M).bind fun r14 =>
    some r14
  else
  if x1 = 7 then
    (f_X2_claimersLeft M).bind fun r16 =>
    some r16
  else
  if x1 = 8 then
    (f_X2_seenInAll M).bind fun r18 =>
    some r18
  else
  if x1 = 9 then
    (f_X1_length M).bind fun r20 =>
    some r20
  else
  if x1 = 10 then
    some (M.1 0)
  else
  some (-102 : Int32)
set_option maxRecDepth 100000 in
set_option maxHeartbeats 8000000 in
theorem c_X5_count {l : Launch} {D : va_G} {aI : ClassId} {q t : Nat → Nat} {x1 : Int32} {M : xM} {r : Int32} (hf : f_X5_count x1 M = some r) : kM l yX5_count (wk yX5_count cX5_count 2 (some .int)) rm_X5_count (cw q aI) D aI t [.ref (q 0), .int x1] M (some (.int r)) M := by
  refine kM_of (by decide) (Nat.le_of_ble_eq_true rfl) ?_
  intro p e s m args below meth c A ls X hr hlocks hl I
  have hx := X.1
  have hb := X.2.1
  have hl : lv_has ls 2 [(0, .ref (q 0)), (1, .int x1)] := hl
  rw [f_X5_count] at hf
  refine lv_iload_n hx hb dX5_count_0 rfl (lv_at hl 1 rfl) ?_
  by_cases c1 : x1 = 0
  · rw [if_pos c1] at hf
    refine lv_tableIn (off := 59) (tgt := 60) hx hb dX5_count_1 (by rw [c1]; decide) (by rw [c1]; decide) (by rw [c1]; rfl) (by decide) ?_
    refine lv_aload_n hx hb dX5_count_60 rfl (lv_at hl 0 rfl) ?_
    refine k_get (T := TX5) (N := 5) X I inU5 0 cwG_0 rfl 1 (by decide) uw_1_149 rfl rfl dX5_count_61 ?_
    obtain ⟨r2, h_r2, hf⟩ := k_bind hf
    refine k_callV (n := 0) (As := []) (rest := []) X I (c_X3_things h_r2) uw_2_104 uw_2_105 uw_2_106 uw_1_3 uw_2_107 ⟨rfl, rfl⟩ (by decide +kernel) rfl ⟨Nat.le_of_ble_eq_true rfl, Nat.le_of_ble_eq_true rfl⟩ ⟨Nat.le_of_ble_eq_true rfl, Nat.le_of_ble_eq_true rfl⟩ 3 cwG_3 rfl hl.1 rfl (Nat.le_of_ble_eq_true rfl) dX5_count_64 (st1 := [.int r2]) rfl (fun H locs I => ?_)
    exact k_iretP X I hr hlocks dX5_count_67 hf
  rw [if_neg c1] at hf
  by_cases c3 : x1 = 1
  · rw [if_pos c3] at hf
    refine lv_tableIn (off := 67) (tgt := 68) hx hb dX5_count_1 (by rw [c3]; decide) (by rw [c3]; decide) (by rw [c3]; rfl) (by decide) ?_
    refine lv_aload_n hx hb dX5_count_68 rfl (lv_at hl 0 rfl) ?_
    refine k_get (T := TX5) (N := 5) X I inU5 0 cwG_0 rfl 1 (by decide) uw_1_149 rfl rfl dX5_count_69 ?_
    obtain ⟨r4, h_r4, hf⟩ := k_bind hf
    refine k_callV (n := 0) (As := []) (rest := []) X I (c_X3_claimers h_r4) uw_3_60 uw_3_61 uw_3_62 uw_1_3 uw_3_63 ⟨rfl, rfl⟩ (by decide +kernel) rfl ⟨Nat.le_of_ble_eq_true rfl, Nat.le_of_ble_eq_true rfl⟩ ⟨Nat.le_of_ble_eq_true rfl, Nat.le_of_ble_eq_true rfl⟩ 3 cwG_3 rfl hl.1 rfl (Nat.le_of_ble_eq_true rfl) dX5_count_72 (st1 := [.int r4]) rfl (fun H locs I => ?_)
    exact k_iretP X I hr hlocks dX5_count_75 hf
  rw [if_neg c3] at hf
  by_cases c5 : x1 = 2
  · rw [if_pos c5] at hf
    refine lv_tableIn (off := 75) (tgt := 76) hx hb dX5_count_1 (by rw [c5]; decide) (by rw [c5]; decide) (by rw [c5]; rfl) (by decide) ?_
    refine lv_aload_n hx hb dX5_count_76 rfl (lv_at hl 0 rfl) ?_
    refine k_get (T := TX5) (N := 5) X I inU5 0 cwG_0 rfl 1 (by decide) uw_1_149 rfl rfl dX5_count_77 ?_
    obtain ⟨r6, h_r6, hf⟩ := k_bind hf
    refine k_callV (n := 0) (As := []) (rest := []) X I (c_X3_given h_r6) uw_3_55 uw_3_56 uw_3_57 uw_1_3 uw_3_58 ⟨rfl, rfl⟩ (by decide +kernel) rfl ⟨Nat.le_of_ble_eq_true rfl, Nat.le_of_ble_eq_true rfl⟩ ⟨Nat.le_of_ble_eq_true rfl, Nat.le_of_ble_eq_true rfl⟩ 3 cwG_3 rfl hl.1 rfl (Nat.le_of_ble_eq_true rfl) dX5_count_80 (st1 := [.int r6]) rfl (fun H locs I => ?_)
    exact k_iretP X I hr hlocks dX5_count_83 hf
  rw [if_neg c5] at hf
  by_cases c7 : x1 = 3
  · rw [if_pos c7] at hf
    refine lv_tableIn (off := 83) (tgt := 84) hx hb dX5_count_1 (by rw [c7]; decide) (by rw [c7]; decide) (by rw [c7]; rfl) (by decide) ?_
    refine lv_aload_n hx hb dX5_count_84 rfl (lv_at hl 0 rfl) ?_
    refine k_get (T := TX5) (N := 5) X I inU5 0 cwG_0 rfl 1 (by decide) uw_1_149 rfl rfl dX5_count_85 ?_
    obtain ⟨r8, h_r8, hf⟩ := k_bind hf
    refine k_callV (n := 0) (As := []) (rest := []) X I (c_X3_givenThatFit h_r8) uw_3_200 uw_3_201 uw_3_202 uw_1_3 uw_3_203 ⟨rfl, rfl⟩ (by decide +kernel) rfl ⟨Nat.le_of_ble_eq_true rfl, Nat.le_of_ble_eq_true rfl⟩ ⟨Nat.le_of_ble_eq_true rfl, Nat.le_of_ble_eq_true rfl⟩ 3 cwG_3 rfl hl.1 rfl (Nat.le_of_ble_eq_true rfl) dX5_count_88 (st1 := [.int r8]) rfl (fun H locs I => ?_)
    exact k_iretP X I hr hlocks dX5_count_91 hf
  rw [if_neg c7] at hf
  by_cases c9 : x1 = 4
  · rw [if_pos c9] at hf
    refine lv_tableIn (off := 91) (tgt := 92) hx hb dX5_count_1 (by rw [c9]; decide) (by rw [c9]; decide) (by rw [c9]; rfl) (by decide) ?_
    refine lv_aload_n hx hb dX5_count_92 rfl (lv_at hl 0 rfl) ?_
    refine k_get (T := TX5) (N := 5) X I inU5 0 cwG_0 rfl 1 (by decide) uw_1_149 rfl rfl dX5_count_93 ?_
    obtain ⟨r10, h_r10, hf⟩ := k_bind hf
    refine k_callV (n := 0) (As := []) (rest := []) X I (c_X3_givenWrong h_r10) uw_3_204 uw_3_205 uw_3_206 uw_1_3 uw_3_207 ⟨rfl, rfl⟩ (by decide +kernel) rfl ⟨Nat.le_of_ble_eq_true rfl, Nat.le_of_ble_eq_true rfl⟩ ⟨Nat.le_of_ble_eq_true rfl, Nat.le_of_ble_eq_true rfl⟩ 3 cwG_3 rfl hl.1 rfl (Nat.le_of_ble_eq_true rfl) dX5_count_96 (st1 := [.int r10]) rfl (fun H locs I => ?_)
    exact k_iretP X I hr hlocks dX5_count_99 hf
  rw [if_neg c9] at hf
  by_cases c11 : x1 = 5
  · rw [if_pos c11] at hf
    refine lv_tableIn (off := 99) (tgt := 100) hx hb dX5_count_1 (by rw [c11]; decide) (by rw [c11]; decide) (by rw [c11]; rfl) (by decide) ?_
    refine lv_aload_n hx hb dX5_count_100 rfl (lv_at hl 0 rfl) ?_
    refine k_get (T := TX5) (N := 5) X I inU5 0 cwG_0 rfl 1 (by decide) uw_1_149 rfl rfl dX5_count_101 ?_
    refine k_callV (n := 0) (As := []) (rest := []) X I c_X3_register uw_2_122 uw_2_123 uw_2_124 uw_1_3 uw_2_125 ⟨rfl, rfl⟩ (by decide +kernel) rfl ⟨Nat.le_of_ble_eq_true rfl, Nat.le_of_ble_eq_true rfl⟩ ⟨Nat.le_of_ble_eq_true rfl, Nat.le_of_ble_eq_true rfl⟩ 3 cwG_3 rfl hl.1 rfl (Nat.le_of_ble_eq_true rfl) dX5_count_104 (st1 := [.ref (q 6)]) rfl (fun H locs I => ?_)
    obtain ⟨r12, h_r12, hf⟩ := k_bind hf
    refine k_callV (n := 0) (As := []) (rest := []) X I (c_X2_mondaysOver h_r12) uw_3_51 uw_3_52 uw_3_53 uw_1_4 uw_3_54 ⟨rfl, rfl⟩ (by decide +kernel) rfl ⟨Nat.le_of_ble_eq_true rfl, Nat.le_of_ble_eq_true rfl⟩ ⟨Nat.le_of_ble_eq_true rfl, Nat.le_of_ble_eq_true rfl⟩ 6 cwG_6 rfl hl.1 rfl (Nat.le_of_ble_eq_true rfl) dX5_count_107 (st1 := [.int r12]) rfl (fun H locs I => ?_)
    exact k_iretP X I hr hlocks dX5_count_110 hf
  rw [if_neg c11] at hf
  by_cases c13 : x1 = 6
  · rw [if_pos c13] at hf
    refine lv_tableIn (off := 110) (tgt := 111) hx hb dX5_count_1 (by rw [c13]; decide) (by rw [c13]; decide) (by rw [c13]; rfl) (by decide) ?_
    refine lv_aload_n hx hb dX5_count_111 rfl (lv_at hl 0 rfl) ?_
    refine k_get (T := TX5) (N := 5) X I inU5 0 cwG_0 rfl 1 (by decide) uw_1_149 rfl rfl dX5_count_112 ?_
    refine k_callV (n := 0) (As := []) (rest := []) X I c_X3_register uw_2_122 uw_2_123 uw_2_124 uw_1_3 uw_2_125 ⟨rfl, rfl⟩ (by decide +kernel) rfl ⟨Nat.le_of_ble_eq_true rfl, Nat.le_of_ble_eq_true rfl⟩ ⟨Nat.le_of_ble_eq_true rfl, Nat.le_of_ble_eq_true rfl⟩ 3 cwG_3 rfl hl.1 rfl (Nat.le_of_ble_eq_true rfl) dX5_count_115 (st1 := [.ref (q 6)]) rfl (fun H locs I => ?_)
    obtain ⟨r14, h_r14, hf⟩ := k_bind hf
    refine k_callV (n := 0) (As := []) (rest := []) X I (c_X2_thingsLeft h_r14) uw_3_209 uw_3_210 uw_3_211 uw_1_4 uw_3_212 ⟨rfl, rfl⟩ (by decide +kernel) rfl ⟨Nat.le_of_ble_eq_true rfl, Nat.le_of_ble_eq_true rfl⟩ ⟨Nat.le_of_ble_eq_true rfl, Nat.le_of_ble_eq_true rfl⟩ 6 cwG_6 rfl hl.1 rfl (Nat.le_of_ble_eq_true rfl) dX5_count_118 (st1 := [.int r14]) rfl (fun H locs I => ?_)
    exact k_iretP X I hr hlocks dX5_count_121 hf
  rw [if_neg c13] at hf
  by_cases c15 : x1 = 7
  · rw [if_pos c15] at hf
    refine lv_tableIn (off := 121) (tgt := 122) hx hb dX5_count_1 (by rw [c15]; decide) (by rw [c15]; decide) (by rw [c15]; rfl) (by decide) ?_
    refine lv_aload_n hx hb dX5_count_122 rfl (lv_at hl 0 rfl) ?_
    refine k_get (T := TX5) (N := 5) X I inU5 0 cwG_0 rfl 1 (by decide) uw_1_149 rfl rfl dX5_count_123 ?_
    refine k_callV (n := 0) (As := []) (rest := []) X I c_X3_register uw_2_122 uw_2_123 uw_2_124 uw_1_3 uw_2_125 ⟨rfl, rfl⟩ (by decide +kernel) rfl ⟨Nat.le_of_ble_eq_true rfl, Nat.le_of_ble_eq_true rfl⟩ ⟨Nat.le_of_ble_eq_true rfl, Nat.le_of_ble_eq_true rfl⟩ 3 cwG_3 rfl hl.1 rfl (Nat.le_of_ble_eq_true rfl) dX5_count_126 (st1 := [.ref (q 6)]) rfl (fun H locs I => ?_)
    obtain ⟨r16, h_r16, hf⟩ := k_bind hf
    refine k_callV (n := 0) (As := []) (rest := []) X I (c_X2_claimersLeft h_r16) uw_3_213 uw_3_214 uw_3_215 uw_1_4 uw_3_216 ⟨rfl, rfl⟩ (by decide +kernel) rfl ⟨Nat.le_of_ble_eq_true rfl, Nat.le_of_ble_eq_true rfl⟩ ⟨Nat.le_of_ble_eq_true rfl, Nat.le_of_ble_eq_true rfl⟩ 6 cwG_6 rfl hl.1 rfl (Nat.le_of_ble_eq_true rfl) dX5_count_129 (st1 := [.int r16]) rfl (fun H locs I => ?_)
    exact k_iretP X I hr hlocks dX5_count_132 hf
  rw [if_neg c15] at hf
  by_cases c17 : x1 = 8
  · rw [if_pos c17] at hf
    refine lv_tableIn (off := 132) (tgt := 133) hx hb dX5_count_1 (by rw [c17]; decide) (by rw [c17]; decide) (by rw [c17]; rfl) (by decide) ?_
    refine lv_aload_n hx hb dX5_count_133 rfl (lv_at hl 0 rfl) ?_
    refine k_get (T := TX5) (N := 5) X I inU5 0 cwG_0 rfl 1 (by decide) uw_1_149 rfl rfl dX5_count_134 ?_
    refine k_callV (n := 0) (As := []) (rest := []) X I c_X3_register uw_2_122 uw_2_123 uw_2_124 uw_1_3 uw_2_125 ⟨rfl, rfl⟩ (by decide +kernel) rfl ⟨Nat.le_of_ble_eq_true rfl, Nat.le_of_ble_eq_true rfl⟩ ⟨Nat.le_of_ble_eq_true rfl, Nat.le_of_ble_eq_true rfl⟩ 3 cwG_3 rfl hl.1 rfl (Nat.le_of_ble_eq_true rfl) dX5_count_137 (st1 := [.ref (q 6)]) rfl (fun H locs I => ?_)
    obtain ⟨r18, h_r18, hf⟩ := k_bind hf
    refine k_callV (n := 0) (As := []) (rest := []) X I (c_X2_seenInAll h_r18) uw_3_127 uw_2_175 uw_2_176 uw_1_4 uw_2_177 ⟨rfl, rfl⟩ (by decide +kernel) rfl ⟨Nat.le_of_ble_eq_true rfl, Nat.le_of_ble_eq_true rfl⟩ ⟨Nat.le_of_ble_eq_true rfl, Nat.le_of_ble_eq_true rfl⟩ 6 cwG_6 rfl hl.1 rfl (Nat.le_of_ble_eq_true rfl) dX5_count_140 (st1 := [.int r18]) rfl (fun H locs I => ?_)
    exact k_iretP X I hr hlocks dX5_count_143 hf
  rw [if_neg c17] at hf
  by_cases c19 : x1 = 9
  · rw [if_pos c19] at hf
    refine lv_tableIn (off := 143) (tgt := 144) hx hb dX5_count_1 (by rw [c19]; decide) (by rw [c19]; decide) (by rw [c19]; rfl) (by decide) ?_
    refine lv_aload_n hx hb dX5_count_144 rfl (lv_at hl 0 rfl) ?_
    refine k_get (T := TX5) (N := 5) X I inU5 0 cwG_0 rfl 0 (by decide) uw_1_148 rfl rfl dX5_count_145 ?_
    obtain ⟨r20, h_r20, hf⟩ := k_bind hf
    refine k_callV (n := 0) (As := []) (rest := []) X I (c_X1_length h_r20) uw_1_173 uw_1_174 uw_1_175 uw_1_2 uw_1_176 ⟨rfl, rfl⟩ (by decide +kernel) rfl ⟨Nat.le_of_ble_eq_true rfl, Nat.le_of_ble_eq_true rfl⟩ ⟨Nat.le_of_ble_eq_true rfl, Nat.le_of_ble_eq_true rfl⟩ 1 cwG_1 rfl hl.1 rfl (Nat.le_of_ble_eq_true rfl) dX5_count_148 (st1 := [.int r20]) rfl (fun H locs I => ?_)
    exact k_iretP X I hr hlocks dX5_count_151 hf
  rw [if_neg c19] at hf
  by_cases c21 : x1 = 10
  · rw [if_pos c21] at hf
    refine lv_tableIn (off := 151) (tgt := 152) hx hb dX5_count_1 (by rw [c21]; decide) (by rw [c21]; decide) (by rw [c21]; rfl) (by decide) ?_
    refine lv_aload_n hx hb dX5_count_152 rfl (lv_at hl 0 rfl) ?_
    refine k_get (T := TX5) (N := 5) X I inU5 0 cwG_0 rfl 4 (by decide) uw_1_152 rfl rfl dX5_count_153 ?_
    exact k_iretP X I hr hlocks dX5_count_156 hf
  rw [if_neg c21] at hf
  refine lv_tableOut (tgt := 157) hx hb dX5_count_1 (sw_out fun k h1 h2 h3 => by
      have h4 : k = 0 ∨ k = 1 ∨ k = 2 ∨ k = 3 ∨ k = 4 ∨ k = 5 ∨ k = 6 ∨ k = 7 ∨ k = 8 ∨ k = 9 ∨ k = 10 := by omega
      rcases h4 with rfl | rfl | rfl | rfl | rfl | rfl | rfl | rfl | rfl | rfl | rfl
      · exact c1 (sw_eq h3 (by decide))
      · exact c3 (sw_eq h3 (by decide))
      · exact c5 (sw_eq h3 (by decide))
      · exact c7 (sw_eq h3 (by decide))
      · exact c9 (sw_eq h3 (by decide))
      · exact c11 (sw_eq h3 (by decide))
      · exact c13 (sw_eq h3 (by decide))
      · exact c15 (sw_eq h3 (by decide))
      · exact c17 (sw_eq h3 (by decide))
      · exact c19 (sw_eq h3 (by decide))
      · exact c21 (sw_eq h3 (by decide))) (by decide) ?_
  refine lv_bipush (v := (-102)) hx hb dX5_count_157 (by decide) ?_
  exact k_iretP X I hr hlocks dX5_count_159 hf
/-! LostTent.mixed(JI)J -/
abbrev rm_X5_mixed : Room := { frames := 0, cells := 0, slots := 0, locals := 0 }
def f_X5_mixed (x0 : Int64) (x2 : Int32) : Option Int64 :=
  some (((31 : Int64) * x0) + x2.toInt64)
set_option maxRecDepth 100000 in
set_option maxHeartbeats 8000000 in
theorem c_X5_mixed {l : Launch} {D : va_G} {aI : ClassId} {q t : Nat → Nat} {x0 : Int64} {x2 : Int32} {M : xM} {r : Int64} (hf : f_X5_mixed x0 x2 = some r) : kM l yX5_mixed (wk yX5_mixed cX5_mixed 3 (some .long)) rm_X5_mixed (cw q aI) D aI t [.long x0, .int x2] M (some (.long r)) M := by
  refine kM_of (by decide) (Nat.le_of_ble_eq_true rfl) ?_
  intro p e s m args below meth c A ls X hr hlocks hl I
  have hx := X.1
  have hb := X.2.1
  have hl : lv_has ls 3 [(0, .long x0), (2, .int x2)] := hl
  rw [f_X5_mixed] at hf
  refine lv_ldc2 (v := 31) hx hb X.2.2.2.1 (X.2.2.2.2.1 _ uw_3_226) dX5_mixed_0 ?_
  refine lv_lload_n hx hb dX5_mixed_3 rfl (lv_at hl 0 rfl) ?_
  refine lv_lmul hx hb dX5_mixed_4 ?_
  refine lv_iload_n hx hb dX5_mixed_5 rfl (lv_at hl 1 rfl) ?_
  refine lv_i2l hx hb dX5_mixed_6 rfl ?_
  refine lv_ladd hx hb dX5_mixed_7 ?_
  exact k_lretP X I hr hlocks dX5_mixed_8 hf
/-! LostTent$Page.codeAt(I)I -/
abbrev rm_X1_codeAt : Room := { frames := 1, cells := 0, slots := 0, locals := 21 }
def f_X1_codeAt (x1 : Int32) (M : xM) : Option Int32 :=
  some (xe 36 (M.2.2 0) x1)
set_option maxRecDepth 100000 in
set_option maxHeartbeats 8000000 in
theorem c_X1_codeAt {l : Launch} {D : va_G} {aI : ClassId} {q t : Nat → Nat} {x1 : Int32} {M : xM} {r : Int32} (hf : f_X1_codeAt x1 M = some r) : kM l yX1_codeAt (wk yX1_codeAt cX1_codeAt 2 (some .int)) rm_X1_codeAt (cw q aI) D aI t [.ref (q 1), .int x1] M (some (.int r)) M := by
  refine kM_of (by decide) (Nat.le_of_ble_eq_true rfl) ?_
  intro p e s m args below meth c A ls X hr hlocks hl I
  have hx := X.1
  have hb := X.2.1
  have hl : lv_has ls 2 [(0, .ref (q 1)), (1, .int x1)] := hl
  rw [f_X1_codeAt] at hf
  refine lv_aload_n hx hb dX1_codeAt_0 rfl (lv_at hl 0 rfl) ?_
  refine k_get (T := TX1) (N := 2) X I inU1 1 cwG_1 rfl 0 (by decide) uw_1_29 rfl rfl dX1_codeAt_1 ?_
  refine lv_iload_n hx hb dX1_codeAt_4 rfl (lv_at hl 1 rfl) ?_
  refine k_callSN (n := 2) (As := [.ref (q 2), .int x1]) (rest := []) X I (c_entry 2 cwG_2 (by decide)) (List.mem_of_getElem? (i := 2) rfl) uw_1_1 uw_1_198 uw_1_199 ⟨rfl, rfl⟩ (by decide +kernel) rfl ⟨Nat.le_of_ble_eq_true rfl, Nat.le_of_ble_eq_true rfl⟩ ⟨Nat.le_of_ble_eq_true rfl, Nat.le_of_ble_eq_true rfl⟩ hl.1 rfl (Nat.le_of_ble_eq_true rfl) dX1_codeAt_5 (st1 := [.int (xe 36 (M.2.2 0) x1)]) rfl (fun H locs I => ?_)
  exact k_iretP X I hr hlocks dX1_codeAt_8 hf
/-! LostTent.digest()J -/
abbrev rm_X5_digest : Room := { frames := 6, cells := 0, slots := 0, locals := 141 }
def f_X5_digest_l223 : Nat → Int64 → Int32 → xM → Option (Int64 × xM)
  | 0, _, _, _ => none
  | n223 + 1, x1, x3, Mb =>
    if (10 : Int32) < x3 then
      some (x1, Mb)
    else
      (f_X5_count x3 Mb).bind fun r10 =>
      (f_X5_mixed x1 r10).bind fun r11 =>
      (f_X5_digest_l223 n223) r11 (x3 + 1) Mb
def f_X5_digest_l191 : Nat → Int64 → Int32 → xM → Option (Int64 × xM)
  | 0, _, _, _ => none
  | n191 + 1, x1, x3, Mb =>
    (f_X1_length Mb).bind fun r7 =>
    if r7 ≤ x3 then
      f_X5_digest_l223 xN x1 (0 : Int32) Mb
    else
      (f_X1_codeAt x3 Mb).bind fun r12 =>
      (f_X5_mixed x1 r12).bind fun r13 =>
      (f_X5_digest_l191 n191) r13 (x3 + 1) Mb
def f_X5_digest_b189 (x1 : Int64) (Mb : xM) : Option (Int64 × xM) :=
  f_X5_digest_l191 xN x1 (0 : Int32) Mb
def f_X5_digest_b183 (k157 : Int64 → Int32 → xM → Option (Int64 × xM)) (x1 : Int64) (x3 : Int32) (Mb : xM) : Option (Int64 × xM) :=
  k157 x1 (x3 + 1) Mb
def f_X5_digest_l157 : Nat → Int64 → Int32 → xM → Option (Int64 × xM)
  | 0, _, _, _ => none
  | n157 + 1, x1, x3, Mb =>
    if (12 : Int32) < x3 then
      f_X5_digest_b189 x1 Mb
    else
      (f_X5_isMatchQuestion x3).bind fun r16 =>
      if r16 = 0 then
        f_X5_digest_b183 (f_X5_digest_l157 n157) x1 x3 Mb
      else
        (f_X0_tell x3 Mb).bind fun r18 =>
        (f_X5_mixed x1 r18).bind fun r19 =>
        f_X5_digest_b183 (f_X5_digest_l157 n157) r19 x3 Mb
def f_X5_digest_l95 (k53 : Int64 → Int32 → xM → Option (Int64 × xM)) : Nat → Int64 → Int32 → Int32 → xM → Option (Int64 × xM)
  | 0, _, _, _, _ => none
  | n95 + 1, x1, x3, x4, Mb =>
    (f_X3_things Mb).bind fun r21 =>
    if r21 ≤ x4 then
      k53 x1 (x3 + 1) Mb
    else
      (f_X3_wrongOf x4 x3 Mb).bind fun r23 =>
      (f_X5_mixed x1 r23).bind fun r24 =>
      (f_X5_digest_l95 k53 n95) r24 x3 (x4 + 1) Mb
def f_X5_digest_l67 (k53 : Int64 → Int32 → xM → Option (Int64 × xM)) : Nat → Int64 → Int32 → Int32 → xM → Option (Int64 × xM)
  | 0, _, _, _, _ => none
  | n67 + 1, x1, x3, x4, Mb =>
    if (6 : Int32) < x4 then
      f_X5_digest_l95 k53 xN x1 x3 (0 : Int32) Mb
    else
      (f_X5_claimer x3 x4 Mb).bind fun r25 =>
      (f_X5_mixed x1 r25).bind fun r26 =>
      (f_X5_digest_l67 k53 n67) r26 x3 (x4 + 1) Mb
def f_X5_digest_l53 : Nat → Int64 → Int32 → xM → Option (Int64 × xM)
  | 0, _, _, _ => none
  | n53 + 1, x1, x3, Mb =>
    (f_X3_claimers Mb).bind fun r3 =>
    if r3 ≤ x3 then
      (f_X3_stands Mb).bind fun r5 =>
      if r5 = 0 then
        f_X5_digest_b189 x1 Mb
      else
        (f_X0_solve Mb).bind fun M14 =>
        f_X5_digest_l157 xN x1 (0 : Int32) M14
    else
      f_X5_digest_l67 (f_X5_digest_l53 n53) xN x1 x3 (0 : Int32) Mb
def f_X5_digest_l20 (k6 : Int64 → Int32 → xM → Option (Int64 × xM)) : Nat → Int64 → Int32 → Int32 → xM → Option (Int64 × xM)
  | 0, _, _, _, _ => none
  | n20 + 1, x1, x3, x4, Mb =>
    if (6 : Int32) < x4 then
      k6 x1 (x3 + 1) Mb
    else
      (f_X5_thing x3 x4 Mb).bind fun r28 =>
      (f_X5_mixed x1 r28).bind fun r29 =>
      (f_X5_digest_l20 k6 n20) r29 x3 (x4 + 1) Mb
def f_X5_digest_l6 : Nat → Int64 → Int32 → xM → Option (Int64 × xM)
  | 0, _, _, _ => none
  | n6 + 1, x1, x3, Mb =>
    (f_X3_things Mb).bind fun r1 =>
    if r1 ≤ x3 then
      f_X5_digest_l53 xN x1 (0 : Int32) Mb
    else
      f_X5_digest_l20 (f_X5_digest_l6 n6) xN x1 x3 (0 : Int32) Mb
def f_X5_digest (M : xM) : Option (Int64 × xM) :=
  f_X5_digest_l6 xN (1087 : Int64) (0 : Int32) M
set_option maxRecDepth 100000 in
set_option maxHeartbeats 8000000 in
theorem c_X5_digest {l : Launch} {D : va_G} {aI : ClassId} {q t : Nat → Nat} {M : xM} {r : Int64} {Mr : xM} (hf : f_X5_digest M = some (r, Mr)) : kM l yX5_digest (wk yX5_digest cX5_digest 5 (some .long)) rm_X5_digest (cw q aI) D aI t [.ref (q 0)] M (some (.long r)) Mr := by
  refine kM_of (by decide) (Nat.le_of_ble_eq_true rfl) ?_
  intro p e s m args below meth c A ls X hr hlocks hl I
  have hx := X.1
  have hb := X.2.1
  have hl : lv_has ls 5 [(0, .ref (q 0))] := hl
  have B223 : ∀ (n223 : Nat), ∀ (x1 : Int64) (x3 : Int32) (Mb : xM) (H : Heap) (locs : List Loc) (ls : Array Slot), f_X5_digest_l223 n223 x1 x3 Mb = some (r, Mr) → kI (cw q aI) D A s Mb H locs → lv_has ls 5 [(0, .ref (q 0)), (1, .long x1), (3, .int x3)] → W p l e rm_X5_digest s m args below meth c H locs 0 0 (MQ below (kQ (cw q aI) D A (some (.long r)) Mr) args s 0 0 A) (F0 m 223 ls []) := by
    intro n223
    induction n223 with
    | zero =>
      intro x1 x3 Mb H locs ls hf I hl
      rw [f_X5_digest_l223] at hf
      cases hf
    | succ n223 ih223 =>
      intro x1 x3 Mb H locs ls hf I hl
      rw [f_X5_digest_l223] at hf
      refine lv_iload_n hx hb dX5_digest_223 rfl (lv_at hl 2 rfl) ?_
      refine lv_bipush (v := 10) hx hb dX5_digest_224 (by decide) ?_
      refine lv_icmp_gt (tgt := 245) hx hb dX5_digest_226 (by decide) (fun c9 => ?_) (fun c9 => ?_)
      · rw [if_pos c9] at hf
        refine lv_lload_n hx hb dX5_digest_245 rfl (lv_at hl 1 rfl) ?_
        exact k_lret X I hr hlocks dX5_digest_246 hf
      · rw [if_neg c9] at hf
        refine lv_lload_n hx hb dX5_digest_229 rfl (lv_at hl 1 rfl) ?_
        refine lv_aload_n hx hb dX5_digest_230 rfl (lv_at hl 0 rfl) ?_
        refine lv_iload_n hx hb dX5_digest_231 rfl (lv_at hl 2 rfl) ?_
        obtain ⟨r10, h_r10, hf⟩ := k_bind hf
        refine k_callV (n := 1) (As := [.int x3]) (rest := [.long x1]) X I (c_X5_count h_r10) uw_3_232 uw_3_197 uw_3_198 uw_1_1 uw_3_199 ⟨rfl, rfl⟩ (by decide +kernel) rfl ⟨Nat.le_of_ble_eq_true rfl, Nat.le_of_ble_eq_true rfl⟩ ⟨Nat.le_of_ble_eq_true rfl, Nat.le_of_ble_eq_true rfl⟩ 0 cwG_0 rfl hl.1 rfl (Nat.le_of_ble_eq_true rfl) dX5_digest_232 (st1 := [.int r10, .long x1]) rfl (fun H locs I => ?_)
        obtain ⟨r11, h_r11, hf⟩ := k_bind hf
        refine k_callS (n := 2) (As := [.long x1, .int r10]) (rest := []) X I (c_X5_mixed h_r11) uw_3_223 uw_3_224 uw_1_1 uw_3_225 ⟨rfl, rfl⟩ (by decide +kernel) rfl ⟨Nat.le_of_ble_eq_true rfl, Nat.le_of_ble_eq_true rfl⟩ ⟨Nat.le_of_ble_eq_true rfl, Nat.le_of_ble_eq_true rfl⟩ hl.1 rfl (Nat.le_of_ble_eq_true rfl) dX5_digest_235 (st1 := [.long r11]) rfl (fun H locs I => ?_)
        refine lv_lstore_n (lv' := [(1, .long r11), (0, .ref (q 0)), (3, .int x3)]) hx hb dX5_digest_238 rfl hl (by decide) rfl (fun ls hl => ?_)
        refine lv_iinc (v := (x3 + 1)) (lv' := [(3, .int (x3 + 1)), (1, .long r11), (0, .ref (q 0))]) hx hb dX5_digest_239 hl (k := 2) rfl rfl (by decide) rfl (fun ls hl => ?_)
        refine lv_goto (tgt := 223) hx hb dX5_digest_242 (by decide) ?_
        exact ih223 r11 (x3 + 1) Mb _ _ ls hf I (lv_sub hl [2, 1, 0] rfl)
  have B191 : ∀ (n191 : Nat), ∀ (x1 : Int64) (x3 : Int32) (Mb : xM) (H : Heap) (locs : List Loc) (ls : Array Slot), f_X5_digest_l191 n191 x1 x3 Mb = some (r, Mr) → kI (cw q aI) D A s Mb H locs → lv_has ls 5 [(0, .ref (q 0)), (1, .long x1), (3, .int x3)] → W p l e rm_X5_digest s m args below meth c H locs 0 0 (MQ below (kQ (cw q aI) D A (some (.long r)) Mr) args s 0 0 A) (F0 m 191 ls []) := by
    intro n191
    induction n191 with
    | zero =>
      intro x1 x3 Mb H locs ls hf I hl
      rw [f_X5_digest_l191] at hf
      cases hf
    | succ n191 ih191 =>
      intro x1 x3 Mb H locs ls hf I hl
      rw [f_X5_digest_l191] at hf
      refine lv_iload_n hx hb dX5_digest_191 rfl (lv_at hl 2 rfl) ?_
      refine lv_aload_n hx hb dX5_digest_192 rfl (lv_at hl 0 rfl) ?_
      refine k_get (T := TX5) (N := 5) X I inU5 0 cwG_0 rfl 0 (by decide) uw_1_148 rfl rfl dX5_digest_193 ?_
      obtain ⟨r7, h_r7, hf⟩ := k_bind hf
      refine k_callV (n := 0) (As := []) (rest := [.int x3]) X I (c_X1_length h_r7) uw_1_173 uw_1_174 uw_1_175 uw_1_2 uw_1_176 ⟨rfl, rfl⟩ (by decide +kernel) rfl ⟨Nat.le_of_ble_eq_true rfl, Nat.le_of_ble_eq_true rfl⟩ ⟨Nat.le_of_ble_eq_true rfl, Nat.le_of_ble_eq_true rfl⟩ 1 cwG_1 rfl hl.1 rfl (Nat.le_of_ble_eq_true rfl) dX5_digest_196 (st1 := [.int r7, .int x3]) rfl (fun H locs I => ?_)
      refine lv_icmp_ge (tgt := 221) hx hb dX5_digest_199 (by decide) (fun c8 => ?_) (fun c8 => ?_)
      · rw [if_pos c8] at hf
        refine lv_iconst (v := 0) hx hb dX5_digest_221 (by decide) ?_
        refine lv_istore_n (lv' := [(3, .int (0 : Int32)), (0, .ref (q 0)), (1, .long x1)]) hx hb dX5_digest_222 rfl hl (by decide) rfl (fun ls hl => ?_)
        exact B223 xN x1 (0 : Int32) Mb _ _ ls hf I (lv_sub hl [1, 2, 0] rfl)
      · rw [if_neg c8] at hf
        refine lv_lload_n hx hb dX5_digest_202 rfl (lv_at hl 1 rfl) ?_
        refine lv_aload_n hx hb dX5_digest_203 rfl (lv_at hl 0 rfl) ?_
        refine k_get (T := TX5) (N := 5) X I inU5 0 cwG_0 rfl 0 (by decide) uw_1_148 rfl rfl dX5_digest_204 ?_
        refine lv_iload_n hx hb dX5_digest_207 rfl (lv_at hl 2 rfl) ?_
        obtain ⟨r12, h_r12, hf⟩ := k_bind hf
        refine k_callV (n := 1) (As := [.int x3]) (rest := [.long x1]) X I (c_X1_codeAt h_r12) uw_3_228 uw_3_229 uw_3_230 uw_1_2 uw_3_231 ⟨rfl, rfl⟩ (by decide +kernel) rfl ⟨Nat.le_of_ble_eq_true rfl, Nat.le_of_ble_eq_true rfl⟩ ⟨Nat.le_of_ble_eq_true rfl, Nat.le_of_ble_eq_true rfl⟩ 1 cwG_1 rfl hl.1 rfl (Nat.le_of_ble_eq_true rfl) dX5_digest_208 (st1 := [.int r12, .long x1]) rfl (fun H locs I => ?_)
        obtain ⟨r13, h_r13, hf⟩ := k_bind hf
        refine k_callS (n := 2) (As := [.long x1, .int r12]) (rest := []) X I (c_X5_mixed h_r13) uw_3_223 uw_3_224 uw_1_1 uw_3_225 ⟨rfl, rfl⟩ (by decide +kernel) rfl ⟨Nat.le_of_ble_eq_true rfl, Nat.le_of_ble_eq_true rfl⟩ ⟨Nat.le_of_ble_eq_true rfl, Nat.le_of_ble_eq_true rfl⟩ hl.1 rfl (Nat.le_of_ble_eq_true rfl) dX5_digest_211 (st1 := [.long r13]) rfl (fun H locs I => ?_)
        refine lv_lstore_n (lv' := [(1, .long r13), (0, .ref (q 0)), (3, .int x3)]) hx hb dX5_digest_214 rfl hl (by decide) rfl (fun ls hl => ?_)
        refine lv_iinc (v := (x3 + 1)) (lv' := [(3, .int (x3 + 1)), (1, .long r13), (0, .ref (q 0))]) hx hb dX5_digest_215 hl (k := 2) rfl rfl (by decide) rfl (fun ls hl => ?_)
        refine lv_goto (tgt := 191) hx hb dX5_digest_218 (by decide) ?_
        exact ih191 r13 (x3 + 1) Mb _ _ ls hf I (lv_sub hl [2, 1, 0] rfl)
  have B189 : ∀ (x1 : Int64) (Mb : xM) (H : Heap) (locs : List Loc) (ls : Array Slot), f_X5_digest_b189 x1 Mb = some (r, Mr) → kI (cw q aI) D A s Mb H locs → lv_has ls 5 [(0, .ref (q 0)), (1, .long x1)] → W p l e rm_X5_digest s m args below meth c H locs 0 0 (MQ below (kQ (cw q aI) D A (some (.long r)) Mr) args s 0 0 A) (F0 m 189 ls []) := by
    intro x1 Mb H locs ls hf I hl
    rw [f_X5_digest_b189] at hf
    refine lv_iconst (v := 0) hx hb dX5_digest_189 (by decide) ?_
    refine lv_istore_n (lv' := [(3, .int (0 : Int32)), (0, .ref (q 0)), (1, .long x1)]) hx hb dX5_digest_190 rfl hl (by decide) rfl (fun ls hl => ?_)
    exact B191 xN x1 (0 : Int32) Mb _ _ ls hf I (lv_sub hl [1, 2, 0] rfl)
  have B183 : ∀ (k157 : Int64 → Int32 → xM → Option (Int64 × xM)), (∀ (x1 : Int64) (x3 : Int32) (Mb : xM) (H : Heap) (locs : List Loc) (ls : Array Slot), k157 x1 x3 Mb = some (r, Mr) → kI (cw q aI) D A s Mb H locs → lv_has ls 5 [(0, .ref (q 0)), (1, .long x1), (3, .int x3)] → W p l e rm_X5_digest s m args below meth c H locs 0 0 (MQ below (kQ (cw q aI) D A (some (.long r)) Mr) args s 0 0 A) (F0 m 157 ls [])) → ∀ (x1 : Int64) (x3 : Int32) (Mb : xM) (H : Heap) (locs : List Loc) (ls : Array Slot), f_X5_digest_b183 k157 x1 x3 Mb = some (r, Mr) → kI (cw q aI) D A s Mb H locs → lv_has ls 5 [(0, .ref (q 0)), (1, .long x1), (3, .int x3)] → W p l e rm_X5_digest s m args below meth c H locs 0 0 (MQ below (kQ (cw q aI) D A (some (.long r)) Mr) args s 0 0 A) (F0 m 183 ls []) := by
    intro k157 hk157 x1 x3 Mb H locs ls hf I hl
    rw [f_X5_digest_b183] at hf
    refine lv_iinc (v := (x3 + 1)) (lv' := [(3, .int (x3 + 1)), (0, .ref (q 0)), (1, .long x1)]) hx hb dX5_digest_183 hl (k := 2) rfl rfl (by decide) rfl (fun ls hl => ?_)
    refine lv_goto (tgt := 157) hx hb dX5_digest_186 (by decide) ?_
    exact hk157 x1 (x3 + 1) Mb _ _ ls hf I (lv_sub hl [1, 2, 0] rfl)
  have B157 : ∀ (n157 : Nat), ∀ (x1 : Int64) (x3 : Int32) (Mb : xM) (H : Heap) (locs : List Loc) (ls : Array Slot), f_X5_digest_l157 n157 x1 x3 Mb = some (r, Mr) → kI (cw q aI) D A s Mb H locs → lv_has ls 5 [(0, .ref (q 0)), (1, .long x1), (3, .int x3)] → W p l e rm_X5_digest s m args below meth c H locs 0 0 (MQ below (kQ (cw q aI) D A (some (.long r)) Mr) args s 0 0 A) (F0 m 157 ls []) := by
    intro n157
    induction n157 with
    | zero =>
      intro x1 x3 Mb H locs ls hf I hl
      rw [f_X5_digest_l157] at hf
      cases hf
    | succ n157 ih157 =>
      intro x1 x3 Mb H locs ls hf I hl
      rw [f_X5_digest_l157] at hf
      refine lv_iload_n hx hb dX5_digest_157 rfl (lv_at hl 2 rfl) ?_
      refine lv_bipush (v := 12) hx hb dX5_digest_158 (by decide) ?_
      refine lv_icmp_gt (tgt := 189) hx hb dX5_digest_160 (by decide) (fun c15 => ?_) (fun c15 => ?_)
      · rw [if_pos c15] at hf
        exact B189 x1 Mb _ _ ls hf I (lv_sub hl [0, 1] rfl)
      · rw [if_neg c15] at hf
        refine lv_iload_n hx hb dX5_digest_163 rfl (lv_at hl 2 rfl) ?_
        obtain ⟨r16, h_r16, hf⟩ := k_bind hf
        refine k_callS (n := 1) (As := [.int x3]) (rest := []) X I (c_X5_isMatchQuestion h_r16) uw_3_72 uw_3_73 uw_1_1 uw_3_74 ⟨rfl, rfl⟩ (by decide +kernel) rfl ⟨Nat.le_of_ble_eq_true rfl, Nat.le_of_ble_eq_true rfl⟩ ⟨Nat.le_of_ble_eq_true rfl, Nat.le_of_ble_eq_true rfl⟩ hl.1 rfl (Nat.le_of_ble_eq_true rfl) dX5_digest_164 (st1 := [.int r16]) rfl (fun H locs I => ?_)
        refine lv_if_eq (tgt := 183) hx hb dX5_digest_167 (by decide) (fun c17 => ?_) (fun c17 => ?_)
        · rw [if_pos c17] at hf
          exact B183 (f_X5_digest_l157 n157) ih157 x1 x3 Mb _ _ ls hf I (lv_sub hl [0, 1, 2] rfl)
        · rw [if_neg c17] at hf
          refine lv_lload_n hx hb dX5_digest_170 rfl (lv_at hl 1 rfl) ?_
          refine lv_aload_n hx hb dX5_digest_171 rfl (lv_at hl 0 rfl) ?_
          refine k_get (T := TX5) (N := 5) X I inU5 0 cwG_0 rfl 2 (by decide) uw_1_150 rfl rfl dX5_digest_172 ?_
          refine lv_iload_n hx hb dX5_digest_175 rfl (lv_at hl 2 rfl) ?_
          obtain ⟨r18, h_r18, hf⟩ := k_bind hf
          refine k_callV (n := 1) (As := [.int x3]) (rest := [.long x1]) X I (c_X0_tell h_r18) uw_3_115 uw_3_116 uw_3_117 uw_1_5 uw_3_118 ⟨rfl, rfl⟩ (by decide +kernel) rfl ⟨Nat.le_of_ble_eq_true rfl, Nat.le_of_ble_eq_true rfl⟩ ⟨Nat.le_of_ble_eq_true rfl, Nat.le_of_ble_eq_true rfl⟩ 18 cwG_18 rfl hl.1 rfl (Nat.le_of_ble_eq_true rfl) dX5_digest_176 (st1 := [.int r18, .long x1]) rfl (fun H locs I => ?_)
          obtain ⟨r19, h_r19, hf⟩ := k_bind hf
          refine k_callS (n := 2) (As := [.long x1, .int r18]) (rest := []) X I (c_X5_mixed h_r19) uw_3_223 uw_3_224 uw_1_1 uw_3_225 ⟨rfl, rfl⟩ (by decide +kernel) rfl ⟨Nat.le_of_ble_eq_true rfl, Nat.le_of_ble_eq_true rfl⟩ ⟨Nat.le_of_ble_eq_true rfl, Nat.le_of_ble_eq_true rfl⟩ hl.1 rfl (Nat.le_of_ble_eq_true rfl) dX5_digest_179 (st1 := [.long r19]) rfl (fun H locs I => ?_)
          refine lv_lstore_n (lv' := [(1, .long r19), (0, .ref (q 0)), (3, .int x3)]) hx hb dX5_digest_182 rfl hl (by decide) rfl (fun ls hl => ?_)
          exact B183 (f_X5_digest_l157 n157) ih157 r19 x3 Mb _ _ ls hf I (lv_sub hl [1, 0, 2] rfl)
  have B95 : ∀ (k53 : Int64 → Int32 → xM → Option (Int64 × xM)), (∀ (x1 : Int64) (x3 : Int32) (Mb : xM) (H : Heap) (locs : List Loc) (ls : Array Slot), k53 x1 x3 Mb = some (r, Mr) → kI (cw q aI) D A s Mb H locs → lv_has ls 5 [(0, .ref (q 0)), (1, .long x1), (3, .int x3)] → W p l e rm_X5_digest s m args below meth c H locs 0 0 (MQ below (kQ (cw q aI) D A (some (.long r)) Mr) args s 0 0 A) (F0 m 53 ls [])) → ∀ (n95 : Nat), ∀ (x1 : Int64) (x3 : Int32) (x4 : Int32) (Mb : xM) (H : Heap) (locs : List Loc) (ls : Array Slot), f_X5_digest_l95 k53 n95 x1 x3 x4 Mb = some (r, Mr) → kI (cw q aI) D A s Mb H locs → lv_has ls 5 [(0, .ref (q 0)), (1, .long x1), (3, .int x3), (4, .int x4)] → W p l e rm_X5_digest s m args below meth c H locs 0 0 (MQ below (kQ (cw q aI) D A (some (.long r)) Mr) args s 0 0 A) (F0 m 95 ls []) := by
    intro k53 hk53
    intro n95
    induction n95 with
    | zero =>
      intro x1 x3 x4 Mb H locs ls hf I hl
      rw [f_X5_digest_l95] at hf
      cases hf
    | succ n95 ih95 =>
      intro x1 x3 x4 Mb H locs ls hf I hl
      rw [f_X5_digest_l95] at hf
      refine lv_iload hx hb dX5_digest_95 (lv_at hl 3 rfl) ?_
      refine lv_aload_n hx hb dX5_digest_97 rfl (lv_at hl 0 rfl) ?_
      refine k_get (T := TX5) (N := 5) X I inU5 0 cwG_0 rfl 1 (by decide) uw_1_149 rfl rfl dX5_digest_98 ?_
      obtain ⟨r21, h_r21, hf⟩ := k_bind hf
      refine k_callV (n := 0) (As := []) (rest := [.int x4]) X I (c_X3_things h_r21) uw_2_104 uw_2_105 uw_2_106 uw_1_3 uw_2_107 ⟨rfl, rfl⟩ (by decide +kernel) rfl ⟨Nat.le_of_ble_eq_true rfl, Nat.le_of_ble_eq_true rfl⟩ ⟨Nat.le_of_ble_eq_true rfl, Nat.le_of_ble_eq_true rfl⟩ 3 cwG_3 rfl hl.1 rfl (Nat.le_of_ble_eq_true rfl) dX5_digest_101 (st1 := [.int r21, .int x4]) rfl (fun H locs I => ?_)
      refine lv_icmp_ge (tgt := 128) hx hb dX5_digest_104 (by decide) (fun c22 => ?_) (fun c22 => ?_)
      · rw [if_pos c22] at hf
        refine lv_iinc (v := (x3 + 1)) (lv' := [(3, .int (x3 + 1)), (0, .ref (q 0)), (1, .long x1), (4, .int x4)]) hx hb dX5_digest_128 hl (k := 2) rfl rfl (by decide) rfl (fun ls hl => ?_)
        refine lv_goto (tgt := 53) hx hb dX5_digest_131 (by decide) ?_
        exact hk53 x1 (x3 + 1) Mb _ _ ls hf I (lv_sub hl [1, 2, 0] rfl)
      · rw [if_neg c22] at hf
        refine lv_lload_n hx hb dX5_digest_107 rfl (lv_at hl 1 rfl) ?_
        refine lv_aload_n hx hb dX5_digest_108 rfl (lv_at hl 0 rfl) ?_
        refine k_get (T := TX5) (N := 5) X I inU5 0 cwG_0 rfl 1 (by decide) uw_1_149 rfl rfl dX5_digest_109 ?_
        refine lv_iload hx hb dX5_digest_112 (lv_at hl 3 rfl) ?_
        refine lv_iload_n hx hb dX5_digest_114 rfl (lv_at hl 2 rfl) ?_
        obtain ⟨r23, h_r23, hf⟩ := k_bind hf
        refine k_callV (n := 2) (As := [.int x4, .int x3]) (rest := [.long x1]) X I (c_X3_wrongOf h_r23) uw_3_21 uw_3_22 uw_3_23 uw_1_3 uw_3_24 ⟨rfl, rfl⟩ (by decide +kernel) rfl ⟨Nat.le_of_ble_eq_true rfl, Nat.le_of_ble_eq_true rfl⟩ ⟨Nat.le_of_ble_eq_true rfl, Nat.le_of_ble_eq_true rfl⟩ 3 cwG_3 rfl hl.1 rfl (Nat.le_of_ble_eq_true rfl) dX5_digest_115 (st1 := [.int r23, .long x1]) rfl (fun H locs I => ?_)
        obtain ⟨r24, h_r24, hf⟩ := k_bind hf
        refine k_callS (n := 2) (As := [.long x1, .int r23]) (rest := []) X I (c_X5_mixed h_r24) uw_3_223 uw_3_224 uw_1_1 uw_3_225 ⟨rfl, rfl⟩ (by decide +kernel) rfl ⟨Nat.le_of_ble_eq_true rfl, Nat.le_of_ble_eq_true rfl⟩ ⟨Nat.le_of_ble_eq_true rfl, Nat.le_of_ble_eq_true rfl⟩ hl.1 rfl (Nat.le_of_ble_eq_true rfl) dX5_digest_118 (st1 := [.long r24]) rfl (fun H locs I => ?_)
        refine lv_lstore_n (lv' := [(1, .long r24), (0, .ref (q 0)), (3, .int x3), (4, .int x4)]) hx hb dX5_digest_121 rfl hl (by decide) rfl (fun ls hl => ?_)
        refine lv_iinc (v := (x4 + 1)) (lv' := [(4, .int (x4 + 1)), (1, .long r24), (0, .ref (q 0)), (3, .int x3)]) hx hb dX5_digest_122 hl (k := 3) rfl rfl (by decide) rfl (fun ls hl => ?_)
        refine lv_goto (tgt := 95) hx hb dX5_digest_125 (by decide) ?_
        exact ih95 r24 x3 (x4 + 1) Mb _ _ ls hf I (lv_sub hl [2, 1, 3, 0] rfl)
  have B67 : ∀ (k53 : Int64 → Int32 → xM → Option (Int64 × xM)), (∀ (x1 : Int64) (x3 : Int32) (Mb : xM) (H : Heap) (locs : List Loc) (ls : Array Slot), k53 x1 x3 Mb = some (r, Mr) → kI (cw q aI) D A s Mb H locs → lv_has ls 5 [(0, .ref (q 0)), (1, .long x1), (3, .int x3)] → W p l e rm_X5_digest s m args below meth c H locs 0 0 (MQ below (kQ (cw q aI) D A (some (.long r)) Mr) args s 0 0 A) (F0 m 53 ls [])) → ∀ (n67 : Nat), ∀ (x1 : Int64) (x3 : Int32) (x4 : Int32) (Mb : xM) (H : Heap) (locs : List Loc) (ls : Array Slot), f_X5_digest_l67 k53 n67 x1 x3 x4 Mb = some (r, Mr) → kI (cw q aI) D A s Mb H locs → lv_has ls 5 [(0, .ref (q 0)), (1, .long x1), (3, .int x3), (4, .int x4)] → W p l e rm_X5_digest s m args below meth c H locs 0 0 (MQ below (kQ (cw q aI) D A (some (.long r)) Mr) args s 0 0 A) (F0 m 67 ls []) := by
    intro k53 hk53
    intro n67
    induction n67 with
    | zero =>
      intro x1 x3 x4 Mb H locs ls hf I hl
      rw [f_X5_digest_l67] at hf
      cases hf
    | succ n67 ih67 =>
      intro x1 x3 x4 Mb H locs ls hf I hl
      rw [f_X5_digest_l67] at hf
      refine lv_iload hx hb dX5_digest_67 (lv_at hl 3 rfl) ?_
      refine lv_bipush (v := 6) hx hb dX5_digest_69 (by decide) ?_
      refine lv_icmp_gt (tgt := 92) hx hb dX5_digest_71 (by decide) (fun c20 => ?_) (fun c20 => ?_)
      · rw [if_pos c20] at hf
        refine lv_iconst (v := 0) hx hb dX5_digest_92 (by decide) ?_
        refine lv_istore (lv' := [(4, .int (0 : Int32)), (0, .ref (q 0)), (1, .long x1), (3, .int x3)]) hx hb dX5_digest_93 hl (by decide) rfl (fun ls hl => ?_)
        exact B95 k53 hk53 xN x1 x3 (0 : Int32) Mb _ _ ls hf I (lv_sub hl [1, 2, 3, 0] rfl)
      · rw [if_neg c20] at hf
        refine lv_lload_n hx hb dX5_digest_74 rfl (lv_at hl 1 rfl) ?_
        refine lv_aload_n hx hb dX5_digest_75 rfl (lv_at hl 0 rfl) ?_
        refine lv_iload_n hx hb dX5_digest_76 rfl (lv_at hl 2 rfl) ?_
        refine lv_iload hx hb dX5_digest_77 (lv_at hl 3 rfl) ?_
        obtain ⟨r25, h_r25, hf⟩ := k_bind hf
        refine k_callV (n := 2) (As := [.int x3, .int x4]) (rest := [.long x1]) X I (c_X5_claimer h_r25) uw_3_227 uw_2_206 uw_2_207 uw_1_1 uw_2_208 ⟨rfl, rfl⟩ (by decide +kernel) rfl ⟨Nat.le_of_ble_eq_true rfl, Nat.le_of_ble_eq_true rfl⟩ ⟨Nat.le_of_ble_eq_true rfl, Nat.le_of_ble_eq_true rfl⟩ 0 cwG_0 rfl hl.1 rfl (Nat.le_of_ble_eq_true rfl) dX5_digest_79 (st1 := [.int r25, .long x1]) rfl (fun H locs I => ?_)
        obtain ⟨r26, h_r26, hf⟩ := k_bind hf
        refine k_callS (n := 2) (As := [.long x1, .int r25]) (rest := []) X I (c_X5_mixed h_r26) uw_3_223 uw_3_224 uw_1_1 uw_3_225 ⟨rfl, rfl⟩ (by decide +kernel) rfl ⟨Nat.le_of_ble_eq_true rfl, Nat.le_of_ble_eq_true rfl⟩ ⟨Nat.le_of_ble_eq_true rfl, Nat.le_of_ble_eq_true rfl⟩ hl.1 rfl (Nat.le_of_ble_eq_true rfl) dX5_digest_82 (st1 := [.long r26]) rfl (fun H locs I => ?_)
        refine lv_lstore_n (lv' := [(1, .long r26), (0, .ref (q 0)), (3, .int x3), (4, .int x4)]) hx hb dX5_digest_85 rfl hl (by decide) rfl (fun ls hl => ?_)
        refine lv_iinc (v := (x4 + 1)) (lv' := [(4, .int (x4 + 1)), (1, .long r26), (0, .ref (q 0)), (3, .int x3)]) hx hb dX5_digest_86 hl (k := 3) rfl rfl (by decide) rfl (fun ls hl => ?_)
        refine lv_goto (tgt := 67) hx hb dX5_digest_89 (by decide) ?_
        exact ih67 r26 x3 (x4 + 1) Mb _ _ ls hf I (lv_sub hl [2, 1, 3, 0] rfl)
  have B53 : ∀ (n53 : Nat), ∀ (x1 : Int64) (x3 : Int32) (Mb : xM) (H : Heap) (locs : List Loc) (ls : Array Slot), f_X5_digest_l53 n53 x1 x3 Mb = some (r, Mr) → kI (cw q aI) D A s Mb H locs → lv_has ls 5 [(0, .ref (q 0)), (1, .long x1), (3, .int x3)] → W p l e rm_X5_digest s m args below meth c H locs 0 0 (MQ below (kQ (cw q aI) D A (some (.long r)) Mr) args s 0 0 A) (F0 m 53 ls []) := by
    intro n53
    induction n53 with
    | zero =>
      intro x1 x3 Mb H locs ls hf I hl
      rw [f_X5_digest_l53] at hf
      cases hf
    | succ n53 ih53 =>
      intro x1 x3 Mb H locs ls hf I hl
      rw [f_X5_digest_l53] at hf
      refine lv_iload_n hx hb dX5_digest_53 rfl (lv_at hl 2 rfl) ?_
      refine lv_aload_n hx hb dX5_digest_54 rfl (lv_at hl 0 rfl) ?_
      refine k_get (T := TX5) (N := 5) X I inU5 0 cwG_0 rfl 1 (by decide) uw_1_149 rfl rfl dX5_digest_55 ?_
      obtain ⟨r3, h_r3, hf⟩ := k_bind hf
      refine k_callV (n := 0) (As := []) (rest := [.int x3]) X I (c_X3_claimers h_r3) uw_3_60 uw_3_61 uw_3_62 uw_1_3 uw_3_63 ⟨rfl, rfl⟩ (by decide +kernel) rfl ⟨Nat.le_of_ble_eq_true rfl, Nat.le_of_ble_eq_true rfl⟩ ⟨Nat.le_of_ble_eq_true rfl, Nat.le_of_ble_eq_true rfl⟩ 3 cwG_3 rfl hl.1 rfl (Nat.le_of_ble_eq_true rfl) dX5_digest_58 (st1 := [.int r3, .int x3]) rfl (fun H locs I => ?_)
      refine lv_icmp_ge (tgt := 134) hx hb dX5_digest_61 (by decide) (fun c4 => ?_) (fun c4 => ?_)
      · rw [if_pos c4] at hf
        refine lv_aload_n hx hb dX5_digest_134 rfl (lv_at hl 0 rfl) ?_
        refine k_get (T := TX5) (N := 5) X I inU5 0 cwG_0 rfl 1 (by decide) uw_1_149 rfl rfl dX5_digest_135 ?_
        obtain ⟨r5, h_r5, hf⟩ := k_bind hf
        refine k_callV (n := 0) (As := []) (rest := []) X I (c_X3_stands h_r5) uw_3_47 uw_3_48 uw_3_49 uw_1_3 uw_3_50 ⟨rfl, rfl⟩ (by decide +kernel) rfl ⟨Nat.le_of_ble_eq_true rfl, Nat.le_of_ble_eq_true rfl⟩ ⟨Nat.le_of_ble_eq_true rfl, Nat.le_of_ble_eq_true rfl⟩ 3 cwG_3 rfl hl.1 rfl (Nat.le_of_ble_eq_true rfl) dX5_digest_138 (st1 := [.int r5]) rfl (fun H locs I => ?_)
        refine lv_if_eq (tgt := 189) hx hb dX5_digest_141 (by decide) (fun c6 => ?_) (fun c6 => ?_)
        · rw [if_pos c6] at hf
          exact B189 x1 Mb _ _ ls hf I (lv_sub hl [0, 1] rfl)
        · rw [if_neg c6] at hf
          refine lv_aload_n hx hb dX5_digest_144 rfl (lv_at hl 0 rfl) ?_
          refine k_get (T := TX5) (N := 5) X I inU5 0 cwG_0 rfl 2 (by decide) uw_1_150 rfl rfl dX5_digest_145 ?_
          refine lv_aload_n hx hb dX5_digest_148 rfl (lv_at hl 0 rfl) ?_
          refine k_get (T := TX5) (N := 5) X I inU5 0 cwG_0 rfl 1 (by decide) uw_1_149 rfl rfl dX5_digest_149 ?_
          obtain ⟨M14, h_M14, hf⟩ := k_bind hf
          refine k_callV (n := 1) (As := [.ref (q 3)]) (rest := []) X I (c_X0_solve h_M14) uw_3_75 uw_3_76 uw_3_77 uw_1_5 uw_3_78 ⟨rfl, rfl⟩ (by decide +kernel) rfl ⟨Nat.le_of_ble_eq_true rfl, Nat.le_of_ble_eq_true rfl⟩ ⟨Nat.le_of_ble_eq_true rfl, Nat.le_of_ble_eq_true rfl⟩ 18 cwG_18 rfl hl.1 rfl (Nat.le_of_ble_eq_true rfl) dX5_digest_152 (st1 := []) rfl (fun H locs I => ?_)
          refine lv_iconst (v := 0) hx hb dX5_digest_155 (by decide) ?_
          refine lv_istore_n (lv' := [(3, .int (0 : Int32)), (0, .ref (q 0)), (1, .long x1)]) hx hb dX5_digest_156 rfl hl (by decide) rfl (fun ls hl => ?_)
          exact B157 xN x1 (0 : Int32) M14 _ _ ls hf I (lv_sub hl [1, 2, 0] rfl)
      · rw [if_neg c4] at hf
        refine lv_iconst (v := 0) hx hb dX5_digest_64 (by decide) ?_
        refine lv_istore (lv' := [(4, .int (0 : Int32)), (0, .ref (q 0)), (1, .long x1), (3, .int x3)]) hx hb dX5_digest_65 hl (by decide) rfl (fun ls hl => ?_)
        exact B67 (f_X5_digest_l53 n53) ih53 xN x1 x3 (0 : Int32) Mb _ _ ls hf I (lv_sub hl [1, 2, 3, 0] rfl)
  have B20 : ∀ (k6 : Int64 → Int32 → xM → Option (Int64 × xM)), (∀ (x1 : Int64) (x3 : Int32) (Mb : xM) (H : Heap) (locs : List Loc) (ls : Array Slot), k6 x1 x3 Mb = some (r, Mr) → kI (cw q aI) D A s Mb H locs → lv_has ls 5 [(0, .ref (q 0)), (1, .long x1), (3, .int x3)] → W p l e rm_X5_digest s m args below meth c H locs 0 0 (MQ below (kQ (cw q aI) D A (some (.long r)) Mr) args s 0 0 A) (F0 m 6 ls [])) → ∀ (n20 : Nat), ∀ (x1 : Int64) (x3 : Int32) (x4 : Int32) (Mb : xM) (H : Heap) (locs : List Loc) (ls : Array Slot), f_X5_digest_l20 k6 n20 x1 x3 x4 Mb = some (r, Mr) → kI (cw q aI) D A s Mb H locs → lv_has ls 5 [(0, .ref (q 0)), (1, .long x1), (3, .int x3), (4, .int x4)] → W p l e rm_X5_digest s m args below meth c H locs 0 0 (MQ below (kQ (cw q aI) D A (some (.long r)) Mr) args s 0 0 A) (F0 m 20 ls []) := by
    intro k6 hk6
    intro n20
    induction n20 with
    | zero =>
      intro x1 x3 x4 Mb H locs ls hf I hl
      rw [f_X5_digest_l20] at hf
      cases hf
    | succ n20 ih20 =>
      intro x1 x3 x4 Mb H locs ls hf I hl
      rw [f_X5_digest_l20] at hf
      refine lv_iload hx hb dX5_digest_20 (lv_at hl 3 rfl) ?_
      refine lv_bipush (v := 6) hx hb dX5_digest_22 (by decide) ?_
      refine lv_icmp_gt (tgt := 45) hx hb dX5_digest_24 (by decide) (fun c27 => ?_) (fun c27 => ?_)
      · rw [if_pos c27] at hf
        refine lv_iinc (v := (x3 + 1)) (lv' := [(3, .int (x3 + 1)), (0, .ref (q 0)), (1, .long x1), (4, .int x4)]) hx hb dX5_digest_45 hl (k := 2) rfl rfl (by decide) rfl (fun ls hl => ?_)
        refine lv_goto (tgt := 6) hx hb dX5_digest_48 (by decide) ?_
        exact hk6 x1 (x3 + 1) Mb _ _ ls hf I (lv_sub hl [1, 2, 0] rfl)
      · rw [if_neg c27] at hf
        refine lv_lload_n hx hb dX5_digest_27 rfl (lv_at hl 1 rfl) ?_
        refine lv_aload_n hx hb dX5_digest_28 rfl (lv_at hl 0 rfl) ?_
        refine lv_iload_n hx hb dX5_digest_29 rfl (lv_at hl 2 rfl) ?_
        refine lv_iload hx hb dX5_digest_30 (lv_at hl 3 rfl) ?_
        obtain ⟨r28, h_r28, hf⟩ := k_bind hf
        refine k_callV (n := 2) (As := [.int x3, .int x4]) (rest := [.long x1]) X I (c_X5_thing h_r28) uw_3_222 uw_2_109 uw_2_110 uw_1_1 uw_2_111 ⟨rfl, rfl⟩ (by decide +kernel) rfl ⟨Nat.le_of_ble_eq_true rfl, Nat.le_of_ble_eq_true rfl⟩ ⟨Nat.le_of_ble_eq_true rfl, Nat.le_of_ble_eq_true rfl⟩ 0 cwG_0 rfl hl.1 rfl (Nat.le_of_ble_eq_true rfl) dX5_digest_32 (st1 := [.int r28, .long x1]) rfl (fun H locs I => ?_)
        obtain ⟨r29, h_r29, hf⟩ := k_bind hf
        refine k_callS (n := 2) (As := [.long x1, .int r28]) (rest := []) X I (c_X5_mixed h_r29) uw_3_223 uw_3_224 uw_1_1 uw_3_225 ⟨rfl, rfl⟩ (by decide +kernel) rfl ⟨Nat.le_of_ble_eq_true rfl, Nat.le_of_ble_eq_true rfl⟩ ⟨Nat.le_of_ble_eq_true rfl, Nat.le_of_ble_eq_true rfl⟩ hl.1 rfl (Nat.le_of_ble_eq_true rfl) dX5_digest_35 (st1 := [.long r29]) rfl (fun H locs I => ?_)
        refine lv_lstore_n (lv' := [(1, .long r29), (0, .ref (q 0)), (3, .int x3), (4, .int x4)]) hx hb dX5_digest_38 rfl hl (by decide) rfl (fun ls hl => ?_)
        refine lv_iinc (v := (x4 + 1)) (lv' := [(4, .int (x4 + 1)), (1, .long r29), (0, .ref (q 0)), (3, .int x3)]) hx hb dX5_digest_39 hl (k := 3) rfl rfl (by decide) rfl (fun ls hl => ?_)
        refine lv_goto (tgt := 20) hx hb dX5_digest_42 (by decide) ?_
        exact ih20 r29 x3 (x4 + 1) Mb _ _ ls hf I (lv_sub hl [2, 1, 3, 0] rfl)
  have B6 : ∀ (n6 : Nat), ∀ (x1 : Int64) (x3 : Int32) (Mb : xM) (H : Heap) (locs : List Loc) (ls : Array Slot), f_X5_digest_l6 n6 x1 x3 Mb = some (r, Mr) → kI (cw q aI) D A s Mb H locs → lv_has ls 5 [(0, .ref (q 0)), (1, .long x1), (3, .int x3)] → W p l e rm_X5_digest s m args below meth c H locs 0 0 (MQ below (kQ (cw q aI) D A (some (.long r)) Mr) args s 0 0 A) (F0 m 6 ls []) := by
    intro n6
    induction n6 with
    | zero =>
      intro x1 x3 Mb H locs ls hf I hl
      rw [f_X5_digest_l6] at hf
      cases hf
    | succ n6 ih6 =>
      intro x1 x3 Mb H locs ls hf I hl
      rw [f_X5_digest_l6] at hf
      refine lv_iload_n hx hb dX5_digest_6 rfl (lv_at hl 2 rfl) ?_
      refine lv_aload_n hx hb dX5_digest_7 rfl (lv_at hl 0 rfl) ?_
      refine k_get (T := TX5) (N := 5) X I inU5 0 cwG_0 rfl 1 (by decide) uw_1_149 rfl rfl dX5_digest_8 ?_
      obtain ⟨r1, h_r1, hf⟩ := k_bind hf
      refine k_callV (n := 0) (As := []) (rest := [.int x3]) X I (c_X3_things h_r1) uw_2_104 uw_2_105 uw_2_106 uw_1_3 uw_2_107 ⟨rfl, rfl⟩ (by decide +kernel) rfl ⟨Nat.le_of_ble_eq_true rfl, Nat.le_of_ble_eq_true rfl⟩ ⟨Nat.le_of_ble_eq_true rfl, Nat.le_of_ble_eq_true rfl⟩ 3 cwG_3 rfl hl.1 rfl (Nat.le_of_ble_eq_true rfl) dX5_digest_11 (st1 := [.int r1, .int x3]) rfl (fun H locs I => ?_)
      refine lv_icmp_ge (tgt := 51) hx hb dX5_digest_14 (by decide) (fun c2 => ?_) (fun c2 => ?_)
      · rw [if_pos c2] at hf
        refine lv_iconst (v := 0) hx hb dX5_digest_51 (by decide) ?_
        refine lv_istore_n (lv' := [(3, .int (0 : Int32)), (0, .ref (q 0)), (1, .long x1)]) hx hb dX5_digest_52 rfl hl (by decide) rfl (fun ls hl => ?_)
        exact B53 xN x1 (0 : Int32) Mb _ _ ls hf I (lv_sub hl [1, 2, 0] rfl)
      · rw [if_neg c2] at hf
        refine lv_iconst (v := 0) hx hb dX5_digest_17 (by decide) ?_
        refine lv_istore (lv' := [(4, .int (0 : Int32)), (0, .ref (q 0)), (1, .long x1), (3, .int x3)]) hx hb dX5_digest_18 hl (by decide) rfl (fun ls hl => ?_)
        exact B20 (f_X5_digest_l6 n6) ih6 xN x1 x3 (0 : Int32) Mb _ _ ls hf I (lv_sub hl [1, 2, 3, 0] rfl)
  rw [f_X5_digest] at hf
  refine lv_ldc2 (v := 1087) hx hb X.2.2.2.1 (X.2.2.2.2.1 _ uw_3_221) dX5_digest_0 ?_
  refine lv_lstore_n (lv' := [(1, .long (1087 : Int64)), (0, .ref (q 0))]) hx hb dX5_digest_3 rfl hl (by decide) rfl (fun ls hl => ?_)
  refine lv_iconst (v := 0) hx hb dX5_digest_4 (by decide) ?_
  refine lv_istore_n (lv' := [(3, .int (0 : Int32)), (1, .long (1087 : Int64)), (0, .ref (q 0))]) hx hb dX5_digest_5 rfl hl (by decide) rfl (fun ls hl => ?_)
  exact B6 xN (1087 : Int64) (0 : Int32) M _ _ ls hf I (lv_sub hl [2, 1, 0] rfl)
/-! LostTent$Register.takeAllBack()V -/
abbrev rm_X2_takeAllBack_v1 : Room := { frames := 1, cells := 0, slots := 0, locals := 22 }
def f_X2_takeAllBack_v1_l2 : Nat → Int32 → xM → Option xM
  | 0, _, _ => none
  | n2 + 1, x1, Mb =>
    if (5 : Int32) ≤ x1 then
      some Mb
    else
      nmM (xA Mb 0 (xp 5 (Mb.2.2 0) x1 (-1 : Int32))) fun M2 =>
      (f_X2_takeAllBack_v1_l2 n2) (x1 + 1) M2
def f_X2_takeAllBack_v1 (M : xM) : Option xM :=
  f_X2_takeAllBack_v1_l2 xN (0 : Int32) M
set_option maxRecDepth 100000 in
set_option maxHeartbeats 8000000 in
theorem c_X2_takeAllBack_v1 {l : Launch} {D : va_G} {aI : ClassId} {q t : Nat → Nat} {M : xM} {Mr : xM} (hf : f_X2_takeAllBack_v1 M = some Mr) : kM l yX2_takeAllBack (wk yX2_takeAllBack cX2_takeAllBack 2 none) rm_X2_takeAllBack_v1 (rw q aI) D aI t [.ref (q 0)] M none Mr := by
  refine kM_of (by decide) (Nat.le_of_ble_eq_true rfl) ?_
  intro p e s m args below meth c A ls X hr hlocks hl I
  have hx := X.1
  have hb := X.2.1
  have hl : lv_has ls 2 [(0, .ref (q 0))] := hl
  have B2 : ∀ (n2 : Nat), ∀ (x1 : Int32) (Mb : xM) (H : Heap) (locs : List Loc) (ls : Array Slot), f_X2_takeAllBack_v1_l2 n2 x1 Mb = some Mr → kI (rw q aI) D A s Mb H locs → lv_has ls 2 [(0, .ref (q 0)), (1, .int x1)] → W p l e rm_X2_takeAllBack_v1 s m args below meth c H locs 0 0 (MQ below (kQ (rw q aI) D A none Mr) args s 0 0 A) (F0 m 2 ls []) := by
    intro n2
    induction n2 with
    | zero =>
      intro x1 Mb H locs ls hf I hl
      rw [f_X2_takeAllBack_v1_l2] at hf
      cases hf
    | succ n2 ih2 =>
      intro x1 Mb H locs ls hf I hl
      rw [f_X2_takeAllBack_v1_l2] at hf
      refine lv_iload_n hx hb dX2_takeAllBack_2 rfl (lv_at hl 1 rfl) ?_
      refine lv_iconst (v := 5) hx hb dX2_takeAllBack_3 (by decide) ?_
      refine lv_icmp_ge (tgt := 22) hx hb dX2_takeAllBack_4 (by decide) (fun c1 => ?_) (fun c1 => ?_)
      · rw [if_pos c1] at hf
        exact k_vret X I hr hlocks dX2_takeAllBack_22 hf
      · rw [if_neg c1] at hf
        refine lv_aload_n hx hb dX2_takeAllBack_7 rfl (lv_at hl 0 rfl) ?_
        refine k_get (T := TX2) (N := 9) X I inU2 0 rwG_0 rfl 0 (by decide) uw_1_60 rfl rfl dX2_takeAllBack_8 ?_
        refine lv_iload_n hx hb dX2_takeAllBack_11 rfl (lv_at hl 1 rfl) ?_
        refine lv_iconst (v := (-1)) hx hb dX2_takeAllBack_12 (by decide) ?_
        obtain ⟨M2, e_M2, hf⟩ := k_nm hf
        refine k_callSN (n := 3) (As := [.ref (q 1), .int x1, .int (-1 : Int32)]) (rest := []) X I (c_put (M' := M2) 1 rwG_1 (by decide) (rwA_0.trans (congrArg (rw q aI) e_M2))) (List.mem_of_getElem? (i := 0) rfl) uw_1_1 uw_1_58 uw_1_59 ⟨rfl, rfl⟩ (by decide +kernel) rfl ⟨Nat.le_of_ble_eq_true rfl, Nat.le_of_ble_eq_true rfl⟩ ⟨Nat.le_of_ble_eq_true rfl, Nat.le_of_ble_eq_true rfl⟩ hl.1 rfl (Nat.le_of_ble_eq_true rfl) dX2_takeAllBack_13 (st1 := []) rfl (fun H locs I => ?_)
        refine lv_iinc (v := (x1 + 1)) (lv' := [(1, .int (x1 + 1)), (0, .ref (q 0))]) hx hb dX2_takeAllBack_16 hl (k := 1) rfl rfl (by decide) rfl (fun ls hl => ?_)
        refine lv_goto (tgt := 2) hx hb dX2_takeAllBack_19 (by decide) ?_
        exact ih2 (x1 + 1) M2 _ _ ls hf I (lv_sub hl [1, 0] rfl)
  rw [f_X2_takeAllBack_v1] at hf
  refine lv_iconst (v := 0) hx hb dX2_takeAllBack_0 (by decide) ?_
  refine lv_istore_n (lv' := [(1, .int (0 : Int32)), (0, .ref (q 0))]) hx hb dX2_takeAllBack_1 rfl hl (by decide) rfl (fun ls hl => ?_)
  exact B2 xN (0 : Int32) M _ _ ls hf I (lv_sub hl [1, 0] rfl)
/-! LostTent$Register.begin()V -/
abbrev rm_X2_begin_v1 : Room := { frames := 2, cells := 0, slots := 0, locals := 43 }
def f_X2_begin_v1 (M : xM) : Option xM :=
  (f_X2_takeAllBack_v1 M).bind fun M1 =>
  nmM (xI M1 0 (0 : Int32)) fun M2 =>
  nmM (xI M2 1 (0 : Int32)) fun M3 =>
  nmM (xI M3 2 (0 : Int32)) fun M4 =>
  nmM (xI M4 3 (0 : Int32)) fun M5 =>
  some M5
set_option maxRecDepth 100000 in
set_option maxHeartbeats 8000000 in
theorem c_X2_begin_v1 {l : Launch} {D : va_G} {aI : ClassId} {q t : Nat → Nat} {M : xM} {Mr : xM} (hf : f_X2_begin_v1 M = some Mr) : kM l yX2_begin (wk yX2_begin cX2_begin 1 none) rm_X2_begin_v1 (rw q aI) D aI t [.ref (q 0)] M none Mr := by
  refine kM_of (by decide) (Nat.le_of_ble_eq_true rfl) ?_
  intro p e s m args below meth c A ls X hr hlocks hl I
  have hx := X.1
  have hb := X.2.1
  have hl : lv_has ls 1 [(0, .ref (q 0))] := hl
  rw [f_X2_begin_v1] at hf
  refine lv_aload_n hx hb dX2_begin_0 rfl (lv_at hl 0 rfl) ?_
  obtain ⟨M1, h_M1, hf⟩ := k_bind hf
  refine k_callV (n := 0) (As := []) (rest := []) X I (c_X2_takeAllBack_v1 h_M1) uw_1_53 uw_1_55 us_0 uw_1_4 uw_1_56 ⟨rfl, rfl⟩ (by decide +kernel) rfl ⟨Nat.le_of_ble_eq_true rfl, Nat.le_of_ble_eq_true rfl⟩ ⟨Nat.le_of_ble_eq_true rfl, Nat.le_of_ble_eq_true rfl⟩ 0 rwG_0 rfl hl.1 rfl (Nat.le_of_ble_eq_true rfl) dX2_begin_1 (st1 := []) rfl (fun H locs I => ?_)
  refine lv_aload_n hx hb dX2_begin_4 rfl (lv_at hl 0 rfl) ?_
  refine lv_iconst (v := 0) hx hb dX2_begin_5 (by decide) ?_
  obtain ⟨M2, e_M2, hf⟩ := k_nm hf
  refine k_put (T := TX2) (N := 9) (M1 := M2) X I inU2 tyX2 tyX2_ok nmX2 0 rwG_0 rfl 5 (by decide) uw_1_65 rfl rfl (tyX2_ok 5 (by decide)) rfl rfl (Nat.le_of_ble_eq_true rfl) dX2_begin_6 (rwI_0.trans (congrArg (rw q aI) e_M2)) (fun H locs I => ?_)
  refine lv_aload_n hx hb dX2_begin_9 rfl (lv_at hl 0 rfl) ?_
  refine lv_iconst (v := 0) hx hb dX2_begin_10 (by decide) ?_
  obtain ⟨M3, e_M3, hf⟩ := k_nm hf
  refine k_put (T := TX2) (N := 9) (M1 := M3) X I inU2 tyX2 tyX2_ok nmX2 0 rwG_0 rfl 6 (by decide) uw_1_66 rfl rfl (tyX2_ok 6 (by decide)) rfl rfl (Nat.le_of_ble_eq_true rfl) dX2_begin_11 (rwI_1.trans (congrArg (rw q aI) e_M3)) (fun H locs I => ?_)
  refine lv_aload_n hx hb dX2_begin_14 rfl (lv_at hl 0 rfl) ?_
  refine lv_iconst (v := 0) hx hb dX2_begin_15 (by decide) ?_
  obtain ⟨M4, e_M4, hf⟩ := k_nm hf
  refine k_put (T := TX2) (N := 9) (M1 := M4) X I inU2 tyX2 tyX2_ok nmX2 0 rwG_0 rfl 7 (by decide) uw_1_67 rfl rfl (tyX2_ok 7 (by decide)) rfl rfl (Nat.le_of_ble_eq_true rfl) dX2_begin_16 (rwI_2.trans (congrArg (rw q aI) e_M4)) (fun H locs I => ?_)
  refine lv_aload_n hx hb dX2_begin_19 rfl (lv_at hl 0 rfl) ?_
  refine lv_iconst (v := 0) hx hb dX2_begin_20 (by decide) ?_
  obtain ⟨M5, e_M5, hf⟩ := k_nm hf
  refine k_put (T := TX2) (N := 9) (M1 := M5) X I inU2 tyX2 tyX2_ok nmX2 0 rwG_0 rfl 8 (by decide) uw_1_68 rfl rfl (tyX2_ok 8 (by decide)) rfl rfl (Nat.le_of_ble_eq_true rfl) dX2_begin_21 (rwI_3.trans (congrArg (rw q aI) e_M5)) (fun H locs I => ?_)
  exact k_vret X I hr hlocks dX2_begin_24 hf
