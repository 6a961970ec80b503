/-! LostTent$Page.append(I)Z -/
abbrev rm_X1_append : Room := { frames := 1, cells := 0, slots := 0, locals := 22 }
def f_X1_append (x1 : Int32) (M : xM) : Option (Int32 × xM) :=
  if (M.1 1) < (36 : Int32) then
    nmM (xA M 0 (xp 36 (M.2.2 0) (M.1 1) x1)) fun M2 =>
    nmM (xI M2 1 ((M2.1 1) + (1 : Int32))) fun M3 =>
    (xbo (1 : Int32)).bind fun z => some (z, M3)
  else
    (xbo (0 : Int32)).bind fun z => some (z, M)
set_option maxRecDepth 100000 in
set_option maxHeartbeats 8000000 in
theorem c_X1_append {l : Launch} {D : va_G} {aI : ClassId} {q t : Nat → Nat} {x1 : Int32} {M : xM} {r : Int32} {Mr : xM} (hf : f_X1_append x1 M = some (r, Mr)) : kM l yX1_append (wk yX1_append cX1_append 2 (some .boolean)) rm_X1_append (cw q aI) D aI t [.ref (q 1), .int x1] M (some (.int r)) Mr := by
  refine kM_of (by decide) (Nat.le_of_ble_eq_true rfl) ?_
  intro p e s m args below meth c A ls X hr hlocks hl I
  have hx := X.1
  have hb := X.2.1
  have hl : lv_has ls 2 [(0, .ref (q 1)), (1, .int x1)] := hl
  rw [f_X1_append] at hf
  refine lv_aload_n hx hb dX1_append_0 rfl (lv_at hl 0 rfl) ?_
  refine k_get (T := TX1) (N := 2) X I inU1 1 cwG_1 rfl 1 (by decide) uw_1_30 rfl rfl dX1_append_1 ?_
  refine lv_bipush (v := 36) hx hb dX1_append_4 (by decide) ?_
  refine lv_icmp_lt (tgt := 11) hx hb dX1_append_6 (by decide) (fun c1 => ?_) (fun c1 => ?_)
  · rw [if_pos c1] at hf
    refine lv_aload_n hx hb dX1_append_11 rfl (lv_at hl 0 rfl) ?_
    refine k_get (T := TX1) (N := 2) X I inU1 1 cwG_1 rfl 0 (by decide) uw_1_29 rfl rfl dX1_append_12 ?_
    refine lv_aload_n hx hb dX1_append_15 rfl (lv_at hl 0 rfl) ?_
    refine k_get (T := TX1) (N := 2) X I inU1 1 cwG_1 rfl 1 (by decide) uw_1_30 rfl rfl dX1_append_16 ?_
    refine lv_iload_n hx hb dX1_append_19 rfl (lv_at hl 1 rfl) ?_
    obtain ⟨M2, e_M2, hf⟩ := k_nm hf
    refine k_callSN (n := 3) (As := [.ref (q 2), .int (M.1 1), .int x1]) (rest := []) X I (c_put (M' := M2) 2 cwG_2 (by decide) (cwA_0.trans (congrArg (cw q aI) e_M2))) (List.mem_of_getElem? (i := 1) rfl) uw_1_1 uw_1_58 uw_1_59 ⟨rfl, rfl⟩ (by decide +kernel) rfl ⟨Nat.le_of_ble_eq_true rfl, Nat.le_of_ble_eq_true rfl⟩ ⟨Nat.le_of_ble_eq_true rfl, Nat.le_of_ble_eq_true rfl⟩ hl.1 rfl (Nat.le_of_ble_eq_true rfl) dX1_append_20 (st1 := []) rfl (fun H locs I => ?_)
    refine lv_aload_n hx hb dX1_append_23 rfl (lv_at hl 0 rfl) ?_
    refine lv_dup hx hb dX1_append_24 rfl ?_
    refine k_get (T := TX1) (N := 2) X I inU1 1 cwG_1 rfl 1 (by decide) uw_1_30 rfl rfl dX1_append_25 ?_
    refine lv_iconst (v := 1) hx hb dX1_append_28 (by decide) ?_
    refine lv_iadd hx hb dX1_append_29 ?_
    obtain ⟨M3, e_M3, hf⟩ := k_nm hf
    refine k_put (T := TX1) (N := 2) (M1 := M3) X I inU1 tyX1 tyX1_ok nmX1 1 cwG_1 rfl 1 (by decide) uw_1_30 rfl rfl (tyX1_ok 1 (by decide)) rfl rfl (Nat.le_of_ble_eq_true rfl) dX1_append_30 (cwI_1.trans (congrArg (cw q aI) e_M3)) (fun H locs I => ?_)
    refine lv_iconst (v := 1) hx hb dX1_append_33 (by decide) ?_
    exact k_zret X I hr hlocks dX1_append_34 hf
  · rw [if_neg c1] at hf
    refine lv_iconst (v := 0) hx hb dX1_append_9 (by decide) ?_
    exact k_zret X I hr hlocks dX1_append_10 hf
/-! LostTent$Page.length()I -/
abbrev rm_X1_length : Room := { frames := 0, cells := 0, slots := 0, locals := 0 }
def f_X1_length (M : xM) : Option Int32 :=
  some (M.1 1)
set_option maxRecDepth 100000 in
set_option maxHeartbeats 8000000 in
theorem c_X1_length {l : Launch} {D : va_G} {aI : ClassId} {q t : Nat → Nat} {M : xM} {r : Int32} (hf : f_X1_length M = some r) : kM l yX1_length (wk yX1_length cX1_length 1 (some .int)) rm_X1_length (cw q aI) D aI t [.ref (q 1)] M (some (.int r)) M := by
  refine kM_of (by decide) (Nat.le_of_ble_eq_true rfl) ?_
  intro p e s m args below meth c A ls X hr hlocks hl I
  have hx := X.1
  have hb := X.2.1
  have hl : lv_has ls 1 [(0, .ref (q 1))] := hl
  rw [f_X1_length] at hf
  refine lv_aload_n hx hb dX1_length_0 rfl (lv_at hl 0 rfl) ?_
  refine k_get (T := TX1) (N := 2) X I inU1 1 cwG_1 rfl 1 (by decide) uw_1_30 rfl rfl dX1_length_1 ?_
  exact k_iretP X I hr hlocks dX1_length_4 hf
/-! LostTent.letter(I)I -/
abbrev rm_X5_letter : Room := { frames := 2, cells := 0, slots := 0, locals := 43 }
def f_X5_letter (x1 : Int32) (M : xM) : Option (Int32 × xM) :=
  if x1 < (1 : Int32) then
    some ((-102 : Int32), M)
  else
    if x1 ≤ (126 : Int32) then
      ob2 (f_X1_append x1 M) fun r3 M4 =>
      if r3 = 0 then
        some ((-104 : Int32), M4)
      else
        (f_X1_length M4).bind fun r6 =>
        some (r6, M4)
    else
      some ((-102 : Int32), M)
set_option maxRecDepth 100000 in
set_option maxHeartbeats 8000000 in
theorem c_X5_letter {l : Launch} {D : va_G} {aI : ClassId} {q t : Nat → Nat} {x1 : Int32} {M : xM} {r : Int32} {Mr : xM} (hf : f_X5_letter x1 M = some (r, Mr)) : kM l yX5_letter (wk yX5_letter cX5_letter 2 (some .int)) rm_X5_letter (cw q aI) D aI t [.ref (q 0), .int x1] M (some (.int r)) Mr := by
  refine kM_of (by decide) (Nat.le_of_ble_eq_true rfl) ?_
  intro p e s m args below meth c A ls X hr hlocks hl I
  have hx := X.1
  have hb := X.2.1
  have hl : lv_has ls 2 [(0, .ref (q 0)), (1, .int x1)] := hl
  rw [f_X5_letter] at hf
  refine lv_iload_n hx hb dX5_letter_0 rfl (lv_at hl 1 rfl) ?_
  refine lv_iconst (v := 1) hx hb dX5_letter_1 (by decide) ?_
  refine lv_icmp_lt (tgt := 11) hx hb dX5_letter_2 (by decide) (fun c1 => ?_) (fun c1 => ?_)
  · rw [if_pos c1] at hf
    refine lv_bipush (v := (-102)) hx hb dX5_letter_11 (by decide) ?_
    exact k_iret X I hr hlocks dX5_letter_13 hf
  · rw [if_neg c1] at hf
    refine lv_iload_n hx hb dX5_letter_5 rfl (lv_at hl 1 rfl) ?_
    refine lv_bipush (v := 126) hx hb dX5_letter_6 (by decide) ?_
    refine lv_icmp_le (tgt := 14) hx hb dX5_letter_8 (by decide) (fun c2 => ?_) (fun c2 => ?_)
    · rw [if_pos c2] at hf
      refine lv_aload_n hx hb dX5_letter_14 rfl (lv_at hl 0 rfl) ?_
      refine k_get (T := TX5) (N := 5) X I inU5 0 cwG_0 rfl 0 (by decide) uw_1_148 rfl rfl dX5_letter_15 ?_
      refine lv_iload_n hx hb dX5_letter_18 rfl (lv_at hl 1 rfl) ?_
      obtain ⟨r3, M4, h_r3, hf⟩ := k_bind2 hf
      refine k_callV (n := 1) (As := [.int x1]) (rest := []) X I (c_X1_append h_r3) uw_1_168 uw_1_169 uw_1_170 uw_1_2 uw_1_171 ⟨rfl, rfl⟩ (by decide +kernel) rfl ⟨Nat.le_of_ble_eq_true rfl, Nat.le_of_ble_eq_true rfl⟩ ⟨Nat.le_of_ble_eq_true rfl, Nat.le_of_ble_eq_true rfl⟩ 1 cwG_1 rfl hl.1 rfl (Nat.le_of_ble_eq_true rfl) dX5_letter_19 (st1 := [.int r3]) rfl (fun H locs I => ?_)
      refine lv_if_ne (tgt := 28) hx hb dX5_letter_22 (by decide) (fun c5 => ?_) (fun c5 => ?_)
      · rw [if_neg c5] at hf
        refine lv_aload_n hx hb dX5_letter_28 rfl (lv_at hl 0 rfl) ?_
        refine k_get (T := TX5) (N := 5) X I inU5 0 cwG_0 rfl 0 (by decide) uw_1_148 rfl rfl dX5_letter_29 ?_
        obtain ⟨r6, h_r6, hf⟩ := k_bind hf
        refine k_callV (n := 0) (As := []) (rest := []) X I (c_X1_length h_r6) uw_1_173 uw_1_174 uw_1_175 uw_1_2 uw_1_176 ⟨rfl, rfl⟩ (by decide +kernel) rfl ⟨Nat.le_of_ble_eq_true rfl, Nat.le_of_ble_eq_true rfl⟩ ⟨Nat.le_of_ble_eq_true rfl, Nat.le_of_ble_eq_true rfl⟩ 1 cwG_1 rfl hl.1 rfl (Nat.le_of_ble_eq_true rfl) dX5_letter_32 (st1 := [.int r6]) rfl (fun H locs I => ?_)
        exact k_iret X I hr hlocks dX5_letter_35 hf
      · rw [if_pos c5] at hf
        refine lv_bipush (v := (-104)) hx hb dX5_letter_25 (by decide) ?_
        exact k_iret X I hr hlocks dX5_letter_27 hf
    · rw [if_neg c2] at hf
      refine lv_bipush (v := (-102)) hx hb dX5_letter_11 (by decide) ?_
      exact k_iret X I hr hlocks dX5_letter_13 hf
/-! LostTent$Page.clear()V -/
abbrev rm_X1_clear : Room := { frames := 0, cells := 0, slots := 0, locals := 0 }
def f_X1_clear (M : xM) : Option xM :=
  nmM (xI M 1 (0 : Int32)) fun M1 =>
  some M1
set_option maxRecDepth 100000 in
set_option maxHeartbeats 8000000 in
theorem c_X1_clear {l : Launch} {D : va_G} {aI : ClassId} {q t : Nat → Nat} {M : xM} {Mr : xM} (hf : f_X1_clear M = some Mr) : kM l yX1_clear (wk yX1_clear cX1_clear 1 none) rm_X1_clear (cw q aI) D aI t [.ref (q 1)] M none Mr := by
  refine kM_of (by decide) (Nat.le_of_ble_eq_true rfl) ?_
  intro p e s m args below meth c A ls X hr hlocks hl I
  have hx := X.1
  have hb := X.2.1
  have hl : lv_has ls 1 [(0, .ref (q 1))] := hl
  rw [f_X1_clear] at hf
  refine lv_aload_n hx hb dX1_clear_0 rfl (lv_at hl 0 rfl) ?_
  refine lv_iconst (v := 0) hx hb dX1_clear_1 (by decide) ?_
  obtain ⟨M1, e_M1, hf⟩ := k_nm hf
  refine k_put (T := TX1) (N := 2) (M1 := M1) X I inU1 tyX1 tyX1_ok nmX1 1 cwG_1 rfl 1 (by decide) uw_1_30 rfl rfl (tyX1_ok 1 (by decide)) rfl rfl (Nat.le_of_ble_eq_true rfl) dX1_clear_2 (cwI_1.trans (congrArg (cw q aI) e_M1)) (fun H locs I => ?_)
  exact k_vret X I hr hlocks dX1_clear_5 hf
/-! LostTent.blank()I -/
abbrev rm_X5_blank : Room := { frames := 1, cells := 0, slots := 0, locals := 20 }
def f_X5_blank (M : xM) : Option (Int32 × xM) :=
  (f_X1_length M).bind fun r1 =>
  (f_X1_clear M).bind fun M2 =>
  some (r1, M2)
set_option maxRecDepth 100000 in
set_option maxHeartbeats 8000000 in
theorem c_X5_blank {l : Launch} {D : va_G} {aI : ClassId} {q t : Nat → Nat} {M : xM} {r : Int32} {Mr : xM} (hf : f_X5_blank M = some (r, Mr)) : kM l yX5_blank (wk yX5_blank cX5_blank 2 (some .int)) rm_X5_blank (cw q aI) D aI t [.ref (q 0)] M (some (.int r)) Mr := by
  refine kM_of (by decide) (Nat.le_of_ble_eq_true rfl) ?_
  intro p e s m args below meth c A ls X hr hlocks hl I
  have hx := X.1
  have hb := X.2.1
  have hl : lv_has ls 2 [(0, .ref (q 0))] := hl
  rw [f_X5_blank] at hf
  refine lv_aload_n hx hb dX5_blank_0 rfl (lv_at hl 0 rfl) ?_
  refine k_get (T := TX5) (N := 5) X I inU5 0 cwG_0 rfl 0 (by decide) uw_1_148 rfl rfl dX5_blank_1 ?_
  obtain ⟨r1, h_r1, hf⟩ := k_bind hf
  refine k_callV (n := 0) (As := []) (rest := []) X I (c_X1_length h_r1) uw_1_173 uw_1_174 uw_1_175 uw_1_2 uw_1_176 ⟨rfl, rfl⟩ (by decide +kernel) rfl ⟨Nat.le_of_ble_eq_true rfl, Nat.le_of_ble_eq_true rfl⟩ ⟨Nat.le_of_ble_eq_true rfl, Nat.le_of_ble_eq_true rfl⟩ 1 cwG_1 rfl hl.1 rfl (Nat.le_of_ble_eq_true rfl) dX5_blank_4 (st1 := [.int r1]) rfl (fun H locs I => ?_)
  refine lv_istore_n (lv' := [(1, .int r1), (0, .ref (q 0))]) hx hb dX5_blank_7 rfl hl (by decide) rfl (fun ls hl => ?_)
  refine lv_aload_n hx hb dX5_blank_8 rfl (lv_at hl 1 rfl) ?_
  refine k_get (T := TX5) (N := 5) X I inU5 0 cwG_0 rfl 0 (by decide) uw_1_148 rfl rfl dX5_blank_9 ?_
  obtain ⟨M2, h_M2, hf⟩ := k_bind hf
  refine k_callV (n := 0) (As := []) (rest := []) X I (c_X1_clear h_M2) uw_1_181 uw_1_182 uw_1_183 uw_1_2 uw_1_184 ⟨rfl, rfl⟩ (by decide +kernel) rfl ⟨Nat.le_of_ble_eq_true rfl, Nat.le_of_ble_eq_true rfl⟩ ⟨Nat.le_of_ble_eq_true rfl, Nat.le_of_ble_eq_true rfl⟩ 1 cwG_1 rfl hl.1 rfl (Nat.le_of_ble_eq_true rfl) dX5_blank_12 (st1 := []) rfl (fun H locs I => ?_)
  refine lv_iload_n hx hb dX5_blank_15 rfl (lv_at hl 0 rfl) ?_
  exact k_iret X I hr hlocks dX5_blank_16 hf
/-! LostTent$Page.firstClaimer()I -/
abbrev rm_X1_firstClaimer : Room := { frames := 1, cells := 0, slots := 0, locals := 21 }
def f_X1_firstClaimer_l2 : Nat → Int32 → xM → Option Int32
  | 0, _, _ => none
  | n2 + 1, x1, M =>
    if (M.1 1) ≤ x1 then
      some (M.1 1)
    else
      if (xe 36 (M.2.2 0) x1) = (59 : Int32) then
        some (x1 + (1 : Int32))
      else
        (f_X1_firstClaimer_l2 n2) (x1 + 1) M
def f_X1_firstClaimer (M : xM) : Option Int32 :=
  f_X1_firstClaimer_l2 xN (0 : Int32) M
set_option maxRecDepth 100000 in
set_option maxHeartbeats 8000000 in
theorem c_X1_firstClaimer {l : Launch} {D : va_G} {aI : ClassId} {q t : Nat → Nat} {M : xM} {r : Int32} (hf : f_X1_firstClaimer M = some r) : kM l yX1_firstClaimer (wk yX1_firstClaimer cX1_firstClaimer 2 (some .int)) rm_X1_firstClaimer (cw q aI) D aI t [.ref (q 1)] M (some (.int r)) M := by
  refine kM_of (by decide) (Nat.le_of_ble_eq_true rfl) ?_
  intro p e s m args below meth c A ls X hr hlocks hl I
  have hx := X.1
  have hb := X.2.1
  have hl : lv_has ls 2 [(0, .ref (q 1))] := hl
  have B2 : ∀ (n2 : Nat), ∀ (x1 : Int32) (H : Heap) (locs : List Loc) (ls : Array Slot), f_X1_firstClaimer_l2 n2 x1 M = some r → kI (cw q aI) D A s M H locs → lv_has ls 2 [(0, .ref (q 1)), (1, .int x1)] → W p l e rm_X1_firstClaimer s m args below meth c H locs 0 0 (MQ below (kQ (cw q aI) D A (some (.int r)) M) args s 0 0 A) (F0 m 2 ls []) := by
    intro n2
    induction n2 with
    | zero =>
      intro x1 H locs ls hf I hl
      rw [f_X1_firstClaimer_l2] at hf
      cases hf
    | succ n2 ih2 =>
      intro x1 H locs ls hf I hl
      rw [f_X1_firstClaimer_l2] at hf
      refine lv_iload_n hx hb dX1_firstClaimer_2 rfl (lv_at hl 1 rfl) ?_
      refine lv_aload_n hx hb dX1_firstClaimer_3 rfl (lv_at hl 0 rfl) ?_
      refine k_get (T := TX1) (N := 2) X I inU1 1 cwG_1 rfl 1 (by decide) uw_1_30 rfl rfl dX1_firstClaimer_4 ?_
      refine lv_icmp_ge (tgt := 33) hx hb dX1_firstClaimer_7 (by decide) (fun c1 => ?_) (fun c1 => ?_)
      · rw [if_pos c1] at hf
        refine lv_aload_n hx hb dX1_firstClaimer_33 rfl (lv_at hl 0 rfl) ?_
        refine k_get (T := TX1) (N := 2) X I inU1 1 cwG_1 rfl 1 (by decide) uw_1_30 rfl rfl dX1_firstClaimer_34 ?_
        exact k_iretP X I hr hlocks dX1_firstClaimer_37 hf
      · rw [if_neg c1] at hf
        refine lv_aload_n hx hb dX1_firstClaimer_10 rfl (lv_at hl 0 rfl) ?_
        refine k_get (T := TX1) (N := 2) X I inU1 1 cwG_1 rfl 0 (by decide) uw_1_29 rfl rfl dX1_firstClaimer_11 ?_
        refine lv_iload_n hx hb dX1_firstClaimer_14 rfl (lv_at hl 1 rfl) ?_
        refine k_callSN (n := 2) (As := [.ref (q 2), .int x1]) (rest := []) X I (c_entry 2 cwG_2 (by decide)) (List.mem_of_getElem? (i := 2) rfl) uw_1_1 uw_1_198 uw_1_199 ⟨rfl, rfl⟩ (by decide +kernel) rfl ⟨Nat.le_of_ble_eq_true rfl, Nat.le_of_ble_eq_true rfl⟩ ⟨Nat.le_of_ble_eq_true rfl, Nat.le_of_ble_eq_true rfl⟩ hl.1 rfl (Nat.le_of_ble_eq_true rfl) dX1_firstClaimer_15 (st1 := [.int (xe 36 (M.2.2 0) x1)]) rfl (fun H locs I => ?_)
        refine lv_bipush (v := 59) hx hb dX1_firstClaimer_18 (by decide) ?_
        refine lv_icmp_ne (tgt := 27) hx hb dX1_firstClaimer_20 (by decide) (fun c2 => ?_) (fun c2 => ?_)
        · rw [if_neg c2] at hf
          refine lv_iinc (v := (x1 + 1)) (lv' := [(1, .int (x1 + 1)), (0, .ref (q 1))]) hx hb dX1_firstClaimer_27 hl (k := 1) rfl rfl (by decide) rfl (fun ls hl => ?_)
          refine lv_goto (tgt := 2) hx hb dX1_firstClaimer_30 (by decide) ?_
          exact ih2 (x1 + 1) _ _ ls hf I (lv_sub hl [1, 0] rfl)
        · rw [if_pos c2] at hf
          refine lv_iload_n hx hb dX1_firstClaimer_23 rfl (lv_at hl 1 rfl) ?_
          refine lv_iconst (v := 1) hx hb dX1_firstClaimer_24 (by decide) ?_
          refine lv_iadd hx hb dX1_firstClaimer_25 ?_
          exact k_iretP X I hr hlocks dX1_firstClaimer_26 hf
  rw [f_X1_firstClaimer] at hf
  refine lv_iconst (v := 0) hx hb dX1_firstClaimer_0 (by decide) ?_
  refine lv_istore_n (lv' := [(1, .int (0 : Int32)), (0, .ref (q 1))]) hx hb dX1_firstClaimer_1 rfl hl (by decide) rfl (fun ls hl => ?_)
  exact B2 xN (0 : Int32) _ _ ls hf I (lv_sub hl [1, 0] rfl)
/-! LostTent.isBelow(II)Z -/
abbrev rm_X5_isBelow : Room := { frames := 0, cells := 0, slots := 0, locals := 0 }
def f_X5_isBelow (x0 : Int32) (x1 : Int32) : Option Int32 :=
  if x0 < 0 then
    xbo (0 : Int32)
  else
    if x1 ≤ x0 then
      xbo (0 : Int32)
    else
      xbo (1 : Int32)
set_option maxRecDepth 100000 in
set_option maxHeartbeats 8000000 in
theorem c_X5_isBelow {l : Launch} {D : va_G} {aI : ClassId} {q t : Nat → Nat} {x0 : Int32} {x1 : Int32} {M : xM} {r : Int32} (hf : f_X5_isBelow x0 x1 = some r) : kM l yX5_isBelow (wk yX5_isBelow cX5_isBelow 2 (some .boolean)) rm_X5_isBelow (cw q aI) D aI t [.int x0, .int x1] M (some (.int r)) M := by
  refine kM_of (by decide) (Nat.le_of_ble_eq_true rfl) ?_
  intro p e s m args below meth c A ls X hr hlocks hl I
  have hx := X.1
  have hb := X.2.1
  have hl : lv_has ls 2 [(0, .int x0), (1, .int x1)] := hl
  rw [f_X5_isBelow] at hf
  refine lv_iload_n hx hb dX5_isBelow_0 rfl (lv_at hl 0 rfl) ?_
  refine lv_if_lt (tgt := 13) hx hb dX5_isBelow_1 (by decide) (fun c1 => ?_) (fun c1 => ?_)
  · rw [if_pos c1] at hf
    refine lv_iconst (v := 0) hx hb dX5_isBelow_13 (by decide) ?_
    exact k_zretP X I hr hlocks dX5_isBelow_14 hf
  · rw [if_neg c1] at hf
    refine lv_iload_n hx hb dX5_isBelow_4 rfl (lv_at hl 0 rfl) ?_
    refine lv_iload_n hx hb dX5_isBelow_5 rfl (lv_at hl 1 rfl) ?_
    refine lv_icmp_ge (tgt := 13) hx hb dX5_isBelow_6 (by decide) (fun c2 => ?_) (fun c2 => ?_)
    · rw [if_pos c2] at hf
      refine lv_iconst (v := 0) hx hb dX5_isBelow_13 (by decide) ?_
      exact k_zretP X I hr hlocks dX5_isBelow_14 hf
    · rw [if_neg c2] at hf
      refine lv_iconst (v := 1) hx hb dX5_isBelow_9 (by decide) ?_
      refine lv_goto (tgt := 14) hx hb dX5_isBelow_10 (by decide) ?_
      exact k_zretP X I hr hlocks dX5_isBelow_14 hf
/-! LostTent$Page.isSign(II)Z -/
abbrev rm_X1_isSign : Room := { frames := 1, cells := 0, slots := 0, locals := 21 }
def f_X1_isSign (x0 : Int32) (x1 : Int32) : Option Int32 :=
  (f_X5_isBelow (x1 - (48 : Int32)) (xe 3 (xT [10, 6, 5]) x0)).bind fun r1 =>
  xbo r1
set_option maxRecDepth 100000 in
set_option maxHeartbeats 8000000 in
theorem c_X1_isSign {l : Launch} {D : va_G} {aI : ClassId} {q t : Nat → Nat} {x0 : Int32} {x1 : Int32} {M : xM} {r : Int32} (hf : f_X1_isSign x0 x1 = some r) : kM l yX1_isSign (wk yX1_isSign cX1_isSign 2 (some .boolean)) rm_X1_isSign (cw q aI) D aI t [.int x0, .int x1] M (some (.int r)) M := by
  refine kM_of (by decide) (Nat.le_of_ble_eq_true rfl) ?_
  intro p e s m args below meth c A ls X hr hlocks hl I
  have hx := X.1
  have hb := X.2.1
  have hl : lv_has ls 2 [(0, .int x0), (1, .int x1)] := hl
  rw [f_X1_isSign] at hf
  refine lv_iload_n hx hb dX1_isSign_0 rfl (lv_at hl 1 rfl) ?_
  refine lv_bipush (v := 48) hx hb dX1_isSign_1 (by decide) ?_
  refine lv_isub hx hb dX1_isSign_3 ?_
  refine k_getsN X I (cZ_0 X.2.2.2.2.2.2.1) (List.mem_of_getElem? (i := 3) rfl) rfl dX1_isSign_4 ?_
  refine lv_iload_n hx hb dX1_isSign_7 rfl (lv_at hl 0 rfl) ?_
  refine k_callSN (n := 2) (As := [.ref (t 0), .int x0]) (rest := [.int (x1 - (48 : Int32))]) X I (c_entryT cT_0 (by decide)) (List.mem_of_getElem? (i := 2) rfl) uw_1_1 uw_1_198 uw_1_199 ⟨rfl, rfl⟩ (by decide +kernel) rfl ⟨Nat.le_of_ble_eq_true rfl, Nat.le_of_ble_eq_true rfl⟩ ⟨Nat.le_of_ble_eq_true rfl, Nat.le_of_ble_eq_true rfl⟩ hl.1 rfl (Nat.le_of_ble_eq_true rfl) dX1_isSign_8 (st1 := [.int (xe 3 (xT [10, 6, 5]) x0), .int (x1 - (48 : Int32))]) rfl (fun H locs I => ?_)
  obtain ⟨r1, h_r1, hf⟩ := k_bind hf
  refine k_callSN (n := 2) (As := [.int (x1 - (48 : Int32)), .int (xe 3 (xT [10, 6, 5]) x0)]) (rest := []) X I (c_X5_isBelow h_r1) (List.mem_of_getElem? (i := 4) rfl) uw_1_1 uw_1_209 uw_1_210 ⟨rfl, rfl⟩ (by decide +kernel) rfl ⟨Nat.le_of_ble_eq_true rfl, Nat.le_of_ble_eq_true rfl⟩ ⟨Nat.le_of_ble_eq_true rfl, Nat.le_of_ble_eq_true rfl⟩ hl.1 rfl (Nat.le_of_ble_eq_true rfl) dX1_isSign_11 (st1 := [.int r1]) rfl (fun H locs I => ?_)
  exact k_zretP X I hr hlocks dX1_isSign_14 hf
/-! LostTent$Page.kindOfLetter(I)I -/
abbrev rm_X1_kindOfLetter : Room := { frames := 4, cells := 0, slots := 0, locals := 171 }
def f_X1_kindOfLetter (x0 : Int32) : Option Int32 :=
  some (xK ((x0.toUInt32 % 65536).toInt32))
set_option maxRecDepth 100000 in
set_option maxHeartbeats 8000000 in
theorem c_X1_kindOfLetter {l : Launch} {D : va_G} {aI : ClassId} {q t : Nat → Nat} {x0 : Int32} {M : xM} {r : Int32} (hf : f_X1_kindOfLetter x0 = some r) : kM l yX1_kindOfLetter (wk yX1_kindOfLetter cX1_kindOfLetter 1 (some .int)) rm_X1_kindOfLetter (cw q aI) D aI t [.int x0] M (some (.int r)) M := by
  refine kM_of (by decide) (Nat.le_of_ble_eq_true rfl) ?_
  intro p e s m args below meth c A ls X hr hlocks hl I
  have hx := X.1
  have hb := X.2.1
  have hl : lv_has ls 1 [(0, .int x0)] := hl
  rw [f_X1_kindOfLetter] at hf
  refine va_ldcS hx hb X.2.2.2.1 X.2.2.2.2.2.2.1.2.1 dX1_kindOfLetter_0 ?_
  refine lv_iload_n hx hb dX1_kindOfLetter_2 rfl (lv_at hl 0 rfl) ?_
  refine lv_i2c hx hb dX1_kindOfLetter_3 rfl ?_
  refine k_idx (rest := []) X I hl.1 ⟨Nat.le_of_ble_eq_true rfl, Nat.le_of_ble_eq_true rfl⟩ ⟨Nat.le_of_ble_eq_true rfl, Nat.le_of_ble_eq_true rfl⟩ (Nat.le_of_ble_eq_true rfl) dX1_kindOfLetter_4 (fun H locs I => ?_)
  exact k_iretP X I hr hlocks dX1_kindOfLetter_7 hf
/-! LostTent$Page.isGoodAmongClaimers(II)Z -/
abbrev rm_X1_isGoodAmongClaimers : Room := { frames := 5, cells := 0, slots := 0, locals := 191 }
def f_X1_isGoodAmongClaimers (x0 : Int32) (x1 : Int32) : Option Int32 :=
  if (x0 - x0 / (5 : Int32) * (5 : Int32)) = 0 then
    (f_X1_kindOfLetter x1).bind fun r6 =>
    if r6 = (-1 : Int32) then
      xbo (0 : Int32)
    else
      xbo (1 : Int32)
  else
    if (3 : Int32) < (x0 - x0 / (5 : Int32) * (5 : Int32)) then
      if x1 = (44 : Int32) then
        if (3 : Int32) ≤ ((x0 / (5 : Int32)) + (1 : Int32)) then
          xbo (0 : Int32)
        else
          xbo (1 : Int32)
      else
        xbo (0 : Int32)
    else
      (f_X1_isSign ((x0 - x0 / (5 : Int32) * (5 : Int32)) - (1 : Int32)) x1).bind fun r5 =>
      xbo r5
set_option maxRecDepth 100000 in
set_option maxHeartbeats 8000000 in
theorem c_X1_isGoodAmongClaimers {l : Launch} {D : va_G} {aI : ClassId} {q t : Nat → Nat} {x0 : Int32} {x1 : Int32} {M : xM} {r : Int32} (hf : f_X1_isGoodAmongClaimers x0 x1 = some r) : kM l yX1_isGoodAmongClaimers (wk yX1_isGoodAmongClaimers cX1_isGoodAmongClaimers 4 (some .boolean)) rm_X1_isGoodAmongClaimers (cw q aI) D aI t [.int x0, .int x1] M (some (.int r)) M := by
  refine kM_of (by decide) (Nat.le_of_ble_eq_true rfl) ?_
  intro p e s m args below meth c A ls X hr hlocks hl I
  have hx := X.1
  have hb := X.2.1
  have hl : lv_has ls 4 [(0, .int x0), (1, .int x1)] := hl
  rw [f_X1_isGoodAmongClaimers] at hf
  refine lv_iload_n hx hb dX1_isGoodAmongClaimers_0 rfl (lv_at hl 0 rfl) ?_
  refine lv_iconst (v := 5) hx hb dX1_isGoodAmongClaimers_1 (by decide) ?_
  refine lv_idiv hx hb dX1_isGoodAmongClaimers_2 (by decide) ?_
  refine lv_istore_n (lv' := [(2, .int (x0 / (5 : Int32))), (0, .int x0), (1, .int x1)]) hx hb dX1_isGoodAmongClaimers_3 rfl hl (by decide) rfl (fun ls hl => ?_)
  refine lv_iload_n hx hb dX1_isGoodAmongClaimers_4 rfl (lv_at hl 1 rfl) ?_
  refine lv_iconst (v := 5) hx hb dX1_isGoodAmongClaimers_5 (by decide) ?_
  refine lv_irem hx hb dX1_isGoodAmongClaimers_6 (by decide) ?_
  refine lv_istore_n (lv' := [(3, .int (x0 - x0 / (5 : Int32) * (5 : Int32))), (2, .int (x0 / (5 : Int32))), (0, .int x0), (1, .int x1)]) hx hb dX1_isGoodAmongClaimers_7 rfl hl (by decide) rfl (fun ls hl => ?_)
  refine lv_iload_n hx hb dX1_isGoodAmongClaimers_8 rfl (lv_at hl 0 rfl) ?_
  refine lv_if_ne (tgt := 26) hx hb dX1_isGoodAmongClaimers_9 (by decide) (fun c1 => ?_) (fun c1 => ?_)
  · rw [if_neg c1] at hf
    refine lv_iload_n hx hb dX1_isGoodAmongClaimers_26 rfl (lv_at hl 0 rfl) ?_
    refine lv_iconst (v := 3) hx hb dX1_isGoodAmongClaimers_27 (by decide) ?_
    refine lv_icmp_gt (tgt := 39) hx hb dX1_isGoodAmongClaimers_28 (by decide) (fun c2 => ?_) (fun c2 => ?_)
    · rw [if_pos c2] at hf
      refine lv_iload_n hx hb dX1_isGoodAmongClaimers_39 rfl (lv_at hl 3 rfl) ?_
      refine lv_bipush (v := 44) hx hb dX1_isGoodAmongClaimers_40 (by decide) ?_
      refine lv_icmp_ne (tgt := 56) hx hb dX1_isGoodAmongClaimers_42 (by decide) (fun c3 => ?_) (fun c3 => ?_)
      · rw [if_neg c3] at hf
        refine lv_iconst (v := 0) hx hb dX1_isGoodAmongClaimers_56 (by decide) ?_
        exact k_zretP X I hr hlocks dX1_isGoodAmongClaimers_57 hf
      · rw [if_pos c3] at hf
        refine lv_iload_n hx hb dX1_isGoodAmongClaimers_45 rfl (lv_at hl 1 rfl) ?_
        refine lv_iconst (v := 1) hx hb dX1_isGoodAmongClaimers_46 (by decide) ?_
        refine lv_iadd hx hb dX1_isGoodAmongClaimers_47 ?_
        refine lv_iconst (v := 3) hx hb dX1_isGoodAmongClaimers_48 (by decide) ?_
        refine lv_icmp_ge (tgt := 56) hx hb dX1_isGoodAmongClaimers_49 (by decide) (fun c4 => ?_) (fun c4 => ?_)
        · rw [if_pos c4] at hf
          refine lv_iconst (v := 0) hx hb dX1_isGoodAmongClaimers_56 (by decide) ?_
          exact k_zretP X I hr hlocks dX1_isGoodAmongClaimers_57 hf
        · rw [if_neg c4] at hf
          refine lv_iconst (v := 1) hx hb dX1_isGoodAmongClaimers_52 (by decide) ?_
          refine lv_goto (tgt := 57) hx hb dX1_isGoodAmongClaimers_53 (by decide) ?_
          exact k_zretP X I hr hlocks dX1_isGoodAmongClaimers_57 hf
    · rw [if_neg c2] at hf
      refine lv_iload_n hx hb dX1_isGoodAmongClaimers_31 rfl (lv_at hl 0 rfl) ?_
      refine lv_iconst (v := 1) hx hb dX1_isGoodAmongClaimers_32 (by decide) ?_
      refine lv_isub hx hb dX1_isGoodAmongClaimers_33 ?_
      refine lv_iload_n hx hb dX1_isGoodAmongClaimers_34 rfl (lv_at hl 3 rfl) ?_
      obtain ⟨r5, h_r5, hf⟩ := k_bind hf
      refine k_callS (n := 2) (As := [.int ((x0 - x0 / (5 : Int32) * (5 : Int32)) - (1 : Int32)), .int x1]) (rest := []) X I (c_X1_isSign h_r5) uw_1_203 uw_1_204 uw_1_2 uw_1_205 ⟨rfl, rfl⟩ (by decide +kernel) rfl ⟨Nat.le_of_ble_eq_true rfl, Nat.le_of_ble_eq_true rfl⟩ ⟨Nat.le_of_ble_eq_true rfl, Nat.le_of_ble_eq_true rfl⟩ hl.1 rfl (Nat.le_of_ble_eq_true rfl) dX1_isGoodAmongClaimers_35 (st1 := [.int r5]) rfl (fun H locs I => ?_)
      exact k_zretP X I hr hlocks dX1_isGoodAmongClaimers_38 hf
  · rw [if_pos c1] at hf
    refine lv_iload_n hx hb dX1_isGoodAmongClaimers_12 rfl (lv_at hl 3 rfl) ?_
    obtain ⟨r6, h_r6, hf⟩ := k_bind hf
    refine k_callS (n := 1) (As := [.int x1]) (rest := []) X I (c_X1_kindOfLetter h_r6) uw_1_214 uw_1_215 uw_1_2 uw_1_216 ⟨rfl, rfl⟩ (by decide +kernel) rfl ⟨Nat.le_of_ble_eq_true rfl, Nat.le_of_ble_eq_true rfl⟩ ⟨Nat.le_of_ble_eq_true rfl, Nat.le_of_ble_eq_true rfl⟩ hl.1 rfl (Nat.le_of_ble_eq_true rfl) dX1_isGoodAmongClaimers_13 (st1 := [.int r6]) rfl (fun H locs I => ?_)
    refine lv_iconst (v := (-1)) hx hb dX1_isGoodAmongClaimers_16 (by decide) ?_
    refine lv_icmp_eq (tgt := 24) hx hb dX1_isGoodAmongClaimers_17 (by decide) (fun c7 => ?_) (fun c7 => ?_)
    · rw [if_pos c7] at hf
      refine lv_iconst (v := 0) hx hb dX1_isGoodAmongClaimers_24 (by decide) ?_
      exact k_zretP X I hr hlocks dX1_isGoodAmongClaimers_25 hf
    · rw [if_neg c7] at hf
      refine lv_iconst (v := 1) hx hb dX1_isGoodAmongClaimers_20 (by decide) ?_
      refine lv_goto (tgt := 25) hx hb dX1_isGoodAmongClaimers_21 (by decide) ?_
      exact k_zretP X I hr hlocks dX1_isGoodAmongClaimers_25 hf
/-! LostTent$Page.isGoodAmongThings(II)Z -/
abbrev rm_X1_isGoodAmongThings : Room := { frames := 2, cells := 0, slots := 0, locals := 42 }
def f_X1_isGoodAmongThings_b32 (x1 : Int32) (x2 : Int32) : Option Int32 :=
  if x1 = (59 : Int32) then
    if (x2 + (1 : Int32)) < (2 : Int32) then
      xbo (0 : Int32)
    else
      xbo (1 : Int32)
  else
    xbo (0 : Int32)
def f_X1_isGoodAmongThings (x0 : Int32) (x1 : Int32) : Option Int32 :=
  if (3 : Int32) ≤ (x0 - x0 / (4 : Int32) * (4 : Int32)) then
    if x1 = (44 : Int32) then
      if ((x0 / (4 : Int32)) + (1 : Int32)) < (5 : Int32) then
        xbo (1 : Int32)
      else
        f_X1_isGoodAmongThings_b32 x1 (x0 / (4 : Int32))
    else
      f_X1_isGoodAmongThings_b32 x1 (x0 / (4 : Int32))
  else
    (f_X1_isSign (x0 - x0 / (4 : Int32) * (4 : Int32)) x1).bind fun r6 =>
    xbo r6
set_option maxRecDepth 100000 in
set_option maxHeartbeats 8000000 in
theorem c_X1_isGoodAmongThings {l : Launch} {D : va_G} {aI : ClassId} {q t : Nat → Nat} {x0 : Int32} {x1 : Int32} {M : xM} {r : Int32} (hf : f_X1_isGoodAmongThings x0 x1 = some r) : kM l yX1_isGoodAmongThings (wk yX1_isGoodAmongThings cX1_isGoodAmongThings 4 (some .boolean)) rm_X1_isGoodAmongThings (cw q aI) D aI t [.int x0, .int x1] M (some (.int r)) M := by
  refine kM_of (by decide) (Nat.le_of_ble_eq_true rfl) ?_
  intro p e s m args below meth c A ls X hr hlocks hl I
  have hx := X.1
  have hb := X.2.1
  have hl : lv_has ls 4 [(0, .int x0), (1, .int x1)] := hl
  have B32 : ∀ (x1 : Int32) (x2 : Int32) (H : Heap) (locs : List Loc) (ls : Array Slot), f_X1_isGoodAmongThings_b32 x1 x2 = some r → kI (cw q aI) D A s M H locs → lv_has ls 4 [(1, .int x1), (2, .int x2)] → W p l e rm_X1_isGoodAmongThings s m args below meth c H locs 0 0 (MQ below (kQ (cw q aI) D A (some (.int r)) M) args s 0 0 A) (F0 m 32 ls []) := by
    intro x1 x2 H locs ls hf I hl
    rw [f_X1_isGoodAmongThings_b32] at hf
    refine lv_iload_n hx hb dX1_isGoodAmongThings_32 rfl (lv_at hl 0 rfl) ?_
    refine lv_bipush (v := 59) hx hb dX1_isGoodAmongThings_33 (by decide) ?_
    refine lv_icmp_ne (tgt := 49) hx hb dX1_isGoodAmongThings_35 (by decide) (fun c3 => ?_) (fun c3 => ?_)
    · rw [if_neg c3] at hf
      refine lv_iconst (v := 0) hx hb dX1_isGoodAmongThings_49 (by decide) ?_
      exact k_zretP X I hr hlocks dX1_isGoodAmongThings_50 hf
    · rw [if_pos c3] at hf
      refine lv_iload_n hx hb dX1_isGoodAmongThings_38 rfl (lv_at hl 1 rfl) ?_
      refine lv_iconst (v := 1) hx hb dX1_isGoodAmongThings_39 (by decide) ?_
      refine lv_iadd hx hb dX1_isGoodAmongThings_40 ?_
      refine lv_iconst (v := 2) hx hb dX1_isGoodAmongThings_41 (by decide) ?_
      refine lv_icmp_lt (tgt := 49) hx hb dX1_isGoodAmongThings_42 (by decide) (fun c4 => ?_) (fun c4 => ?_)
      · rw [if_pos c4] at hf
        refine lv_iconst (v := 0) hx hb dX1_isGoodAmongThings_49 (by decide) ?_
        exact k_zretP X I hr hlocks dX1_isGoodAmongThings_50 hf
      · rw [if_neg c4] at hf
        refine lv_iconst (v := 1) hx hb dX1_isGoodAmongThings_45 (by decide) ?_
        refine lv_goto (tgt := 50) hx hb dX1_isGoodAmongThings_46 (by decide) ?_
        exact k_zretP X I hr hlocks dX1_isGoodAmongThings_50 hf
  rw [f_X1_isGoodAmongThings] at hf
  refine lv_iload_n hx hb dX1_isGoodAmongThings_0 rfl (lv_at hl 0 rfl) ?_
  refine lv_iconst (v := 4) hx hb dX1_isGoodAmongThings_1 (by decide) ?_
  refine lv_idiv hx hb dX1_isGoodAmongThings_2 (by decide) ?_
  refine lv_istore_n (lv' := [(2, .int (x0 / (4 : Int32))), (0, .int x0), (1, .int x1)]) hx hb dX1_isGoodAmongThings_3 rfl hl (by decide) rfl (fun ls hl => ?_)
  refine lv_iload_n hx hb dX1_isGoodAmongThings_4 rfl (lv_at hl 1 rfl) ?_
  refine lv_iconst (v := 4) hx hb dX1_isGoodAmongThings_5 (by decide) ?_
  refine lv_irem hx hb dX1_isGoodAmongThings_6 (by decide) ?_
  refine lv_istore_n (lv' := [(3, .int (x0 - x0 / (4 : Int32) * (4 : Int32))), (2, .int (x0 / (4 : Int32))), (0, .int x0), (1, .int x1)]) hx hb dX1_isGoodAmongThings_7 rfl hl (by decide) rfl (fun ls hl => ?_)
  refine lv_iload_n hx hb dX1_isGoodAmongThings_8 rfl (lv_at hl 0 rfl) ?_
  refine lv_iconst (v := 3) hx hb dX1_isGoodAmongThings_9 (by decide) ?_
  refine lv_icmp_ge (tgt := 19) hx hb dX1_isGoodAmongThings_10 (by decide) (fun c1 => ?_) (fun c1 => ?_)
  · rw [if_pos c1] at hf
    refine lv_iload_n hx hb dX1_isGoodAmongThings_19 rfl (lv_at hl 3 rfl) ?_
    refine lv_bipush (v := 44) hx hb dX1_isGoodAmongThings_20 (by decide) ?_
    refine lv_icmp_ne (tgt := 32) hx hb dX1_isGoodAmongThings_22 (by decide) (fun c2 => ?_) (fun c2 => ?_)
    · rw [if_neg c2] at hf
      exact B32 x1 (x0 / (4 : Int32)) _ _ ls hf I (lv_sub hl [3, 1] rfl)
    · rw [if_pos c2] at hf
      refine lv_iload_n hx hb dX1_isGoodAmongThings_25 rfl (lv_at hl 1 rfl) ?_
      refine lv_iconst (v := 1) hx hb dX1_isGoodAmongThings_26 (by decide) ?_
      refine lv_iadd hx hb dX1_isGoodAmongThings_27 ?_
      refine lv_iconst (v := 5) hx hb dX1_isGoodAmongThings_28 (by decide) ?_
      refine lv_icmp_lt (tgt := 45) hx hb dX1_isGoodAmongThings_29 (by decide) (fun c5 => ?_) (fun c5 => ?_)
      · rw [if_pos c5] at hf
        refine lv_iconst (v := 1) hx hb dX1_isGoodAmongThings_45 (by decide) ?_
        refine lv_goto (tgt := 50) hx hb dX1_isGoodAmongThings_46 (by decide) ?_
        exact k_zretP X I hr hlocks dX1_isGoodAmongThings_50 hf
      · rw [if_neg c5] at hf
        exact B32 x1 (x0 / (4 : Int32)) _ _ ls hf I (lv_sub hl [3, 1] rfl)
  · rw [if_neg c1] at hf
    refine lv_iload_n hx hb dX1_isGoodAmongThings_13 rfl (lv_at hl 0 rfl) ?_
    refine lv_iload_n hx hb dX1_isGoodAmongThings_14 rfl (lv_at hl 3 rfl) ?_
    obtain ⟨r6, h_r6, hf⟩ := k_bind hf
    refine k_callS (n := 2) (As := [.int (x0 - x0 / (4 : Int32) * (4 : Int32)), .int x1]) (rest := []) X I (c_X1_isSign h_r6) uw_1_203 uw_1_204 uw_1_2 uw_1_205 ⟨rfl, rfl⟩ (by decide +kernel) rfl ⟨Nat.le_of_ble_eq_true rfl, Nat.le_of_ble_eq_true rfl⟩ ⟨Nat.le_of_ble_eq_true rfl, Nat.le_of_ble_eq_true rfl⟩ hl.1 rfl (Nat.le_of_ble_eq_true rfl) dX1_isGoodAmongThings_15 (st1 := [.int r6]) rfl (fun H locs I => ?_)
    exact k_zretP X I hr hlocks dX1_isGoodAmongThings_18 hf
/-! LostTent$Page.firstFault()I -/
abbrev rm_X1_firstFault : Room := { frames := 6, cells := 0, slots := 0, locals := 214 }
def f_X1_firstFault_b44 (k7 : Int32 → Int32 → xM → Option Int32) (x1 : Int32) (x2 : Int32) (y0 : Int32) (M : xM) : Option Int32 :=
  if y0 = 0 then
    some x2
  else
    k7 x1 (x2 + 1) M
def f_X1_firstFault_l7 : Nat → Int32 → Int32 → xM → Option Int32
  | 0, _, _, _ => none
  | n7 + 1, x1, x2, M =>
    if (M.1 1) ≤ x2 then
      some (M.1 1)
    else
      if x1 ≤ x2 then
        (f_X1_isGoodAmongClaimers (x2 - x1) (xe 36 (M.2.2 0) x2)).bind fun r4 =>
        f_X1_firstFault_b44 (f_X1_firstFault_l7 n7) x1 x2 r4 M
      else
        (f_X1_isGoodAmongThings x2 (xe 36 (M.2.2 0) x2)).bind fun r6 =>
        f_X1_firstFault_b44 (f_X1_firstFault_l7 n7) x1 x2 r6 M
def f_X1_firstFault (M : xM) : Option Int32 :=
  (f_X1_firstClaimer M).bind fun r1 =>
  f_X1_firstFault_l7 xN r1 (0 : Int32) M
set_option maxRecDepth 100000 in
set_option maxHeartbeats 8000000 in
theorem c_X1_firstFault {l : Launch} {D : va_G} {aI : ClassId} {q t : Nat → Nat} {M : xM} {r : Int32} (hf : f_X1_firstFault M = some r) : kM l yX1_firstFault (wk yX1_firstFault cX1_firstFault 5 (some .int)) rm_X1_firstFault (cw q aI) D aI t [.ref (q 1)] M (some (.int r)) M := by
  refine kM_of (by decide) (Nat.le_of_ble_eq_true rfl) ?_
  intro p e s m args below meth c A ls X hr hlocks hl I
  have hx := X.1
  have hb := X.2.1
  have hl : lv_has ls 5 [(0, .ref (q 1))] := hl
  have B44 : ∀ (k7 : Int32 → Int32 → xM → Option Int32), (∀ (x1 : Int32) (x2 : Int32) (H : Heap) (locs : List Loc) (ls : Array Slot), k7 x1 x2 M = some r → kI (cw q aI) D A s M H locs → lv_has ls 5 [(0, .ref (q 1)), (1, .int x1), (2, .int x2)] → W p l e rm_X1_firstFault s m args below meth c H locs 0 0 (MQ below (kQ (cw q aI) D A (some (.int r)) M) args s 0 0 A) (F0 m 7 ls [])) → ∀ (x1 : Int32) (x2 : Int32) (y0 : Int32) (H : Heap) (locs : List Loc) (ls : Array Slot), f_X1_firstFault_b44 k7 x1 x2 y0 M = some r → kI (cw q aI) D A s M H locs → lv_has ls 5 [(0, .ref (q 1)), (1, .int x1), (2, .int x2)] → W p l e rm_X1_firstFault s m args below meth c H locs 0 0 (MQ below (kQ (cw q aI) D A (some (.int r)) M) args s 0 0 A) (F0 m 44 ls [.int y0]) := by
    intro k7 hk7 x1 x2 y0 H locs ls hf I hl
    rw [f_X1_firstFault_b44] at hf
    refine lv_istore (lv' := [(4, .int y0), (0, .ref (q 1)), (1, .int x1), (2, .int x2)]) hx hb dX1_firstFault_44 hl (by decide) rfl (fun ls hl => ?_)
    refine lv_iload hx hb dX1_firstFault_46 (lv_at hl 0 rfl) ?_
    refine lv_if_ne (tgt := 53) hx hb dX1_firstFault_48 (by decide) (fun c5 => ?_) (fun c5 => ?_)
    · rw [if_neg c5] at hf
      refine lv_iinc (v := (x2 + 1)) (lv' := [(2, .int (x2 + 1)), (4, .int y0), (0, .ref (q 1)), (1, .int x1)]) hx hb dX1_firstFault_53 hl (k := 3) rfl rfl (by decide) rfl (fun ls hl => ?_)
      refine lv_goto (tgt := 7) hx hb dX1_firstFault_56 (by decide) ?_
      exact hk7 x1 (x2 + 1) _ _ ls hf I (lv_sub hl [2, 3, 0] rfl)
    · rw [if_pos c5] at hf
      refine lv_iload_n hx hb dX1_firstFault_51 rfl (lv_at hl 3 rfl) ?_
      exact k_iretP X I hr hlocks dX1_firstFault_52 hf
  have B7 : ∀ (n7 : Nat), ∀ (x1 : Int32) (x2 : Int32) (H : Heap) (locs : List Loc) (ls : Array Slot), f_X1_firstFault_l7 n7 x1 x2 M = some r → kI (cw q aI) D A s M H locs → lv_has ls 5 [(0, .ref (q 1)), (1, .int x1), (2, .int x2)] → W p l e rm_X1_firstFault s m args below meth c H locs 0 0 (MQ below (kQ (cw q aI) D A (some (.int r)) M) args s 0 0 A) (F0 m 7 ls []) := by
    intro n7
    induction n7 with
    | zero =>
      intro x1 x2 H locs ls hf I hl
      rw [f_X1_firstFault_l7] at hf
      cases hf
    | succ n7 ih7 =>
      intro x1 x2 H locs ls hf I hl
      rw [f_X1_firstFault_l7] at hf
      refine lv_iload_n hx hb dX1_firstFault_7 rfl (lv_at hl 2 rfl) ?_
      refine lv_aload_n hx hb dX1_firstFault_8 rfl (lv_at hl 0 rfl) ?_
      refine k_get (T := TX1) (N := 2) X I inU1 1 cwG_1 rfl 1 (by decide) uw_1_30 rfl rfl dX1_firstFault_9 ?_
      refine lv_icmp_ge (tgt := 59) hx hb dX1_firstFault_12 (by decide) (fun c2 => ?_) (fun c2 => ?_)
      · rw [if_pos c2] at hf
        refine lv_aload_n hx hb dX1_firstFault_59 rfl (lv_at hl 0 rfl) ?_
        refine k_get (T := TX1) (N := 2) X I inU1 1 cwG_1 rfl 1 (by decide) uw_1_30 rfl rfl dX1_firstFault_60 ?_
        exact k_iretP X I hr hlocks dX1_firstFault_63 hf
      · rw [if_neg c2] at hf
        refine lv_aload_n hx hb dX1_firstFault_15 rfl (lv_at hl 0 rfl) ?_
        refine k_get (T := TX1) (N := 2) X I inU1 1 cwG_1 rfl 0 (by decide) uw_1_29 rfl rfl dX1_firstFault_16 ?_
        refine lv_iload_n hx hb dX1_firstFault_19 rfl (lv_at hl 2 rfl) ?_
        refine k_callSN (n := 2) (As := [.ref (q 2), .int x2]) (rest := []) X I (c_entry 2 cwG_2 (by decide)) (List.mem_of_getElem? (i := 2) rfl) uw_1_1 uw_1_198 uw_1_199 ⟨rfl, rfl⟩ (by decide +kernel) rfl ⟨Nat.le_of_ble_eq_true rfl, Nat.le_of_ble_eq_true rfl⟩ ⟨Nat.le_of_ble_eq_true rfl, Nat.le_of_ble_eq_true rfl⟩ hl.1 rfl (Nat.le_of_ble_eq_true rfl) dX1_firstFault_20 (st1 := [.int (xe 36 (M.2.2 0) x2)]) rfl (fun H locs I => ?_)
        refine lv_istore_n (lv' := [(3, .int (xe 36 (M.2.2 0) x2)), (0, .ref (q 1)), (1, .int x1), (2, .int x2)]) hx hb dX1_firstFault_23 rfl hl (by decide) rfl (fun ls hl => ?_)
        refine lv_iload_n hx hb dX1_firstFault_24 rfl (lv_at hl 3 rfl) ?_
        refine lv_iload_n hx hb dX1_firstFault_25 rfl (lv_at hl 2 rfl) ?_
        refine lv_icmp_ge (tgt := 37) hx hb dX1_firstFault_26 (by decide) (fun c3 => ?_) (fun c3 => ?_)
        · rw [if_pos c3] at hf
          refine lv_iload_n hx hb dX1_firstFault_37 rfl (lv_at hl 3 rfl) ?_
          refine lv_iload_n hx hb dX1_firstFault_38 rfl (lv_at hl 2 rfl) ?_
          refine lv_isub hx hb dX1_firstFault_39 ?_
          refine lv_iload_n hx hb dX1_firstFault_40 rfl (lv_at hl 0 rfl) ?_
          obtain ⟨r4, h_r4, hf⟩ := k_bind hf
          refine k_callS (n := 2) (As := [.int (x2 - x1), .int (xe 36 (M.2.2 0) x2)]) (rest := []) X I (c_X1_isGoodAmongClaimers h_r4) uw_1_211 uw_1_212 uw_1_2 uw_1_213 ⟨rfl, rfl⟩ (by decide +kernel) rfl ⟨Nat.le_of_ble_eq_true rfl, Nat.le_of_ble_eq_true rfl⟩ ⟨Nat.le_of_ble_eq_true rfl, Nat.le_of_ble_eq_true rfl⟩ hl.1 rfl (Nat.le_of_ble_eq_true rfl) dX1_firstFault_41 (st1 := [.int r4]) rfl (fun H locs I => ?_)
          exact B44 (f_X1_firstFault_l7 n7) ih7 x1 x2 r4 _ _ ls hf I (lv_sub hl [1, 2, 3] rfl)
        · rw [if_neg c3] at hf
          refine lv_iload_n hx hb dX1_firstFault_29 rfl (lv_at hl 3 rfl) ?_
          refine lv_iload_n hx hb dX1_firstFault_30 rfl (lv_at hl 0 rfl) ?_
          obtain ⟨r6, h_r6, hf⟩ := k_bind hf
          refine k_callS (n := 2) (As := [.int x2, .int (xe 36 (M.2.2 0) x2)]) (rest := []) X I (c_X1_isGoodAmongThings h_r6) uw_1_200 uw_1_201 uw_1_2 uw_1_202 ⟨rfl, rfl⟩ (by decide +kernel) rfl ⟨Nat.le_of_ble_eq_true rfl, Nat.le_of_ble_eq_true rfl⟩ ⟨Nat.le_of_ble_eq_true rfl, Nat.le_of_ble_eq_true rfl⟩ hl.1 rfl (Nat.le_of_ble_eq_true rfl) dX1_firstFault_31 (st1 := [.int r6]) rfl (fun H locs I => ?_)
          refine lv_goto (tgt := 44) hx hb dX1_firstFault_34 (by decide) ?_
          exact B44 (f_X1_firstFault_l7 n7) ih7 x1 x2 r6 _ _ ls hf I (lv_sub hl [1, 2, 3] rfl)
  rw [f_X1_firstFault] at hf
  refine lv_aload_n hx hb dX1_firstFault_0 rfl (lv_at hl 0 rfl) ?_
  obtain ⟨r1, h_r1, hf⟩ := k_bind hf
  refine k_callV (n := 0) (As := []) (rest := []) X I (c_X1_firstClaimer h_r1) uw_1_193 uw_1_195 us_1 uw_1_2 uw_1_196 ⟨rfl, rfl⟩ (by decide +kernel) rfl ⟨Nat.le_of_ble_eq_true rfl, Nat.le_of_ble_eq_true rfl⟩ ⟨Nat.le_of_ble_eq_true rfl, Nat.le_of_ble_eq_true rfl⟩ 1 cwG_1 rfl hl.1 rfl (Nat.le_of_ble_eq_true rfl) dX1_firstFault_1 (st1 := [.int r1]) rfl (fun H locs I => ?_)
  refine lv_istore_n (lv' := [(1, .int r1), (0, .ref (q 1))]) hx hb dX1_firstFault_4 rfl hl (by decide) rfl (fun ls hl => ?_)
  refine lv_iconst (v := 0) hx hb dX1_firstFault_5 (by decide) ?_
  refine lv_istore_n (lv' := [(2, .int (0 : Int32)), (1, .int r1), (0, .ref (q 1))]) hx hb dX1_firstFault_6 rfl hl (by decide) rfl (fun ls hl => ?_)
  exact B7 xN r1 (0 : Int32) _ _ ls hf I (lv_sub hl [2, 1, 0] rfl)
/-! LostTent.fault()I -/
abbrev rm_X5_fault : Room := { frames := 7, cells := 0, slots := 0, locals := 238 }
def f_X5_fault (M : xM) : Option Int32 :=
  (f_X1_firstFault M).bind fun r1 =>
  some r1
set_option maxRecDepth 100000 in
set_option maxHeartbeats 8000000 in
theorem c_X5_fault {l : Launch} {D : va_G} {aI : ClassId} {q t : Nat → Nat} {M : xM} {r : Int32} (hf : f_X5_fault M = some r) : kM l yX5_fault (wk yX5_fault cX5_fault 1 (some .int)) rm_X5_fault (cw q aI) D aI t [.ref (q 0)] M (some (.int r)) M := by
  refine kM_of (by decide) (Nat.le_of_ble_eq_true rfl) ?_
  intro p e s m args below meth c A ls X hr hlocks hl I
  have hx := X.1
  have hb := X.2.1
  have hl : lv_has ls 1 [(0, .ref (q 0))] := hl
  rw [f_X5_fault] at hf
  refine lv_aload_n hx hb dX5_fault_0 rfl (lv_at hl 0 rfl) ?_
  refine k_get (T := TX5) (N := 5) X I inU5 0 cwG_0 rfl 0 (by decide) uw_1_148 rfl rfl dX5_fault_1 ?_
  obtain ⟨r1, h_r1, hf⟩ := k_bind hf
  refine k_callV (n := 0) (As := []) (rest := []) X I (c_X1_firstFault h_r1) uw_1_189 uw_1_190 uw_1_191 uw_1_2 uw_1_192 ⟨rfl, rfl⟩ (by decide +kernel) rfl ⟨Nat.le_of_ble_eq_true rfl, Nat.le_of_ble_eq_true rfl⟩ ⟨Nat.le_of_ble_eq_true rfl, Nat.le_of_ble_eq_true rfl⟩ 1 cwG_1 rfl hl.1 rfl (Nat.le_of_ble_eq_true rfl) dX5_fault_4 (st1 := [.int r1]) rfl (fun H locs I => ?_)
  exact k_iretP X I hr hlocks dX5_fault_7 hf
/-! LostTent$Page.isTent()Z -/
abbrev rm_X1_isTent : Room := { frames := 7, cells := 0, slots := 0, locals := 238 }
def f_X1_isTent (M : xM) : Option Int32 :=
  (f_X1_firstClaimer M).bind fun r1 =>
  if (M.1 1) ≤ r1 then
    xbo (0 : Int32)
  else
    (f_X1_firstFault M).bind fun r3 =>
    if r3 = (M.1 1) then
      if (((M.1 1) - r1) - ((M.1 1) - r1) / (5 : Int32) * (5 : Int32)) = (4 : Int32) then
        xbo (1 : Int32)
      else
        xbo (0 : Int32)
    else
      xbo (0 : Int32)
set_option maxRecDepth 100000 in
set_option maxHeartbeats 8000000 in
theorem c_X1_isTent {l : Launch} {D : va_G} {aI : ClassId} {q t : Nat → Nat} {M : xM} {r : Int32} (hf : f_X1_isTent M = some r) : kM l yX1_isTent (wk yX1_isTent cX1_isTent 2 (some .boolean)) rm_X1_isTent (cw q aI) D aI t [.ref (q 1)] M (some (.int r)) M := by
  refine kM_of (by decide) (Nat.le_of_ble_eq_true rfl) ?_
  intro p e s m args below meth c A ls X hr hlocks hl I
  have hx := X.1
  have hb := X.2.1
  have hl : lv_has ls 2 [(0, .ref (q 1))] := hl
  rw [f_X1_isTent] at hf
  refine lv_aload_n hx hb dX1_isTent_0 rfl (lv_at hl 0 rfl) ?_
  obtain ⟨r1, h_r1, hf⟩ := k_bind hf
  refine k_callV (n := 0) (As := []) (rest := []) X I (c_X1_firstClaimer h_r1) uw_1_193 uw_1_195 us_1 uw_1_2 uw_1_196 ⟨rfl, rfl⟩ (by decide +kernel) rfl ⟨Nat.le_of_ble_eq_true rfl, Nat.le_of_ble_eq_true rfl⟩ ⟨Nat.le_of_ble_eq_true rfl, Nat.le_of_ble_eq_true rfl⟩ 1 cwG_1 rfl hl.1 rfl (Nat.le_of_ble_eq_true rfl) dX1_isTent_1 (st1 := [.int r1]) rfl (fun H locs I => ?_)
  refine lv_istore_n (lv' := [(1, .int r1), (0, .ref (q 1))]) hx hb dX1_isTent_4 rfl hl (by decide) rfl (fun ls hl => ?_)
  refine lv_iload_n hx hb dX1_isTent_5 rfl (lv_at hl 0 rfl) ?_
  refine lv_aload_n hx hb dX1_isTent_6 rfl (lv_at hl 1 rfl) ?_
  refine k_get (T := TX1) (N := 2) X I inU1 1 cwG_1 rfl 1 (by decide) uw_1_30 rfl rfl dX1_isTent_7 ?_
  refine lv_icmp_ge (tgt := 40) hx hb dX1_isTent_10 (by decide) (fun c2 => ?_) (fun c2 => ?_)
  · rw [if_pos c2] at hf
    refine lv_iconst (v := 0) hx hb dX1_isTent_40 (by decide) ?_
    exact k_zretP X I hr hlocks dX1_isTent_41 hf
  · rw [if_neg c2] at hf
    refine lv_aload_n hx hb dX1_isTent_13 rfl (lv_at hl 1 rfl) ?_
    obtain ⟨r3, h_r3, hf⟩ := k_bind hf
    refine k_callV (n := 0) (As := []) (rest := []) X I (c_X1_firstFault h_r3) uw_2_73 uw_1_190 uw_1_191 uw_1_2 uw_1_192 ⟨rfl, rfl⟩ (by decide +kernel) rfl ⟨Nat.le_of_ble_eq_true rfl, Nat.le_of_ble_eq_true rfl⟩ ⟨Nat.le_of_ble_eq_true rfl, Nat.le_of_ble_eq_true rfl⟩ 1 cwG_1 rfl hl.1 rfl (Nat.le_of_ble_eq_true rfl) dX1_isTent_14 (st1 := [.int r3]) rfl (fun H locs I => ?_)
    refine lv_aload_n hx hb dX1_isTent_17 rfl (lv_at hl 1 rfl) ?_
    refine k_get (T := TX1) (N := 2) X I inU1 1 cwG_1 rfl 1 (by decide) uw_1_30 rfl rfl dX1_isTent_18 ?_
    refine lv_icmp_ne (tgt := 40) hx hb dX1_isTent_21 (by decide) (fun c4 => ?_) (fun c4 => ?_)
    · rw [if_neg c4] at hf
      refine lv_iconst (v := 0) hx hb dX1_isTent_40 (by decide) ?_
      exact k_zretP X I hr hlocks dX1_isTent_41 hf
    · rw [if_pos c4] at hf
      refine lv_aload_n hx hb dX1_isTent_24 rfl (lv_at hl 1 rfl) ?_
      refine k_get (T := TX1) (N := 2) X I inU1 1 cwG_1 rfl 1 (by decide) uw_1_30 rfl rfl dX1_isTent_25 ?_
      refine lv_iload_n hx hb dX1_isTent_28 rfl (lv_at hl 0 rfl) ?_
      refine lv_isub hx hb dX1_isTent_29 ?_
      refine lv_iconst (v := 5) hx hb dX1_isTent_30 (by decide) ?_
      refine lv_irem hx hb dX1_isTent_31 (by decide) ?_
      refine lv_iconst (v := 4) hx hb dX1_isTent_32 (by decide) ?_
      refine lv_icmp_ne (tgt := 40) hx hb dX1_isTent_33 (by decide) (fun c5 => ?_) (fun c5 => ?_)
      · rw [if_neg c5] at hf
        refine lv_iconst (v := 0) hx hb dX1_isTent_40 (by decide) ?_
        exact k_zretP X I hr hlocks dX1_isTent_41 hf
      · rw [if_pos c5] at hf
        refine lv_iconst (v := 1) hx hb dX1_isTent_36 (by decide) ?_
        refine lv_goto (tgt := 41) hx hb dX1_isTent_37 (by decide) ?_
        exact k_zretP X I hr hlocks dX1_isTent_41 hf
/-! LostTent$Page.things()I -/
abbrev rm_X1_things : Room := { frames := 2, cells := 0, slots := 0, locals := 42 }
def f_X1_things (M : xM) : Option Int32 :=
  (f_X1_firstClaimer M).bind fun r1 =>
  some (r1 / (4 : Int32))
set_option maxRecDepth 100000 in
set_option maxHeartbeats 8000000 in
theorem c_X1_things {l : Launch} {D : va_G} {aI : ClassId} {q t : Nat → Nat} {M : xM} {r : Int32} (hf : f_X1_things M = some r) : kM l yX1_things (wk yX1_things cX1_things 1 (some .int)) rm_X1_things (cw q aI) D aI t [.ref (q 1)] M (some (.int r)) M := by
  refine kM_of (by decide) (Nat.le_of_ble_eq_true rfl) ?_
  intro p e s m args below meth c A ls X hr hlocks hl I
  have hx := X.1
  have hb := X.2.1
  have hl : lv_has ls 1 [(0, .ref (q 1))] := hl
  rw [f_X1_things] at hf
  refine lv_aload_n hx hb dX1_things_0 rfl (lv_at hl 0 rfl) ?_
  obtain ⟨r1, h_r1, hf⟩ := k_bind hf
  refine k_callV (n := 0) (As := []) (rest := []) X I (c_X1_firstClaimer h_r1) uw_1_193 uw_1_195 us_1 uw_1_2 uw_1_196 ⟨rfl, rfl⟩ (by decide +kernel) rfl ⟨Nat.le_of_ble_eq_true rfl, Nat.le_of_ble_eq_true rfl⟩ ⟨Nat.le_of_ble_eq_true rfl, Nat.le_of_ble_eq_true rfl⟩ 1 cwG_1 rfl hl.1 rfl (Nat.le_of_ble_eq_true rfl) dX1_things_1 (st1 := [.int r1]) rfl (fun H locs I => ?_)
  refine lv_iconst (v := 4) hx hb dX1_things_4 (by decide) ?_
  refine lv_idiv hx hb dX1_things_5 (by decide) ?_
  exact k_iretP X I hr hlocks dX1_things_6 hf
/-! LostTent$Page.claimers()I -/
abbrev rm_X1_claimers : Room := { frames := 2, cells := 0, slots := 0, locals := 42 }
def f_X1_claimers (M : xM) : Option Int32 :=
  (f_X1_firstClaimer M).bind fun r1 =>
  some ((((M.1 1) - r1) + (1 : Int32)) / (5 : Int32))
set_option maxRecDepth 100000 in
set_option maxHeartbeats 8000000 in
theorem c_X1_claimers {l : Launch} {D : va_G} {aI : ClassId} {q t : Nat → Nat} {M : xM} {r : Int32} (hf : f_X1_claimers M = some r) : kM l yX1_claimers (wk yX1_claimers cX1_claimers 1 (some .int)) rm_X1_claimers (cw q aI) D aI t [.ref (q 1)] M (some (.int r)) M := by
  refine kM_of (by decide) (Nat.le_of_ble_eq_true rfl) ?_
  intro p e s m args below meth c A ls X hr hlocks hl I
  have hx := X.1
  have hb := X.2.1
  have hl : lv_has ls 1 [(0, .ref (q 1))] := hl
  rw [f_X1_claimers] at hf
  refine lv_aload_n hx hb dX1_claimers_0 rfl (lv_at hl 0 rfl) ?_
  refine k_get (T := TX1) (N := 2) X I inU1 1 cwG_1 rfl 1 (by decide) uw_1_30 rfl rfl dX1_claimers_1 ?_
  refine lv_aload_n hx hb dX1_claimers_4 rfl (lv_at hl 0 rfl) ?_
  obtain ⟨r1, h_r1, hf⟩ := k_bind hf
  refine k_callV (n := 0) (As := []) (rest := [.int (M.1 1)]) X I (c_X1_firstClaimer h_r1) uw_1_193 uw_1_195 us_1 uw_1_2 uw_1_196 ⟨rfl, rfl⟩ (by decide +kernel) rfl ⟨Nat.le_of_ble_eq_true rfl, Nat.le_of_ble_eq_true rfl⟩ ⟨Nat.le_of_ble_eq_true rfl, Nat.le_of_ble_eq_true rfl⟩ 1 cwG_1 rfl hl.1 rfl (Nat.le_of_ble_eq_true rfl) dX1_claimers_5 (st1 := [.int r1, .int (M.1 1)]) rfl (fun H locs I => ?_)
  refine lv_isub hx hb dX1_claimers_8 ?_
  refine lv_iconst (v := 1) hx hb dX1_claimers_9 (by decide) ?_
  refine lv_iadd hx hb dX1_claimers_10 ?_
  refine lv_iconst (v := 5) hx hb dX1_claimers_11 (by decide) ?_
  refine lv_idiv hx hb dX1_claimers_12 (by decide) ?_
  exact k_iretP X I hr hlocks dX1_claimers_13 hf
