/-! LostTent$Register.takeAllBack()V -/
abbrev rm_X2_takeAllBack : Room := { frames := 1, cells := 0, slots := 0, locals := 22 }
def f_X2_takeAllBack_l2 : Nat → Int32 → xM → Option xM
  | 0, _, _ => none
  | n2 + 1, x1, Mb =>
    if (5 : Int32) ≤ x1 then
      some Mb
    else
      nmM (xA Mb 3 (xp 5 (Mb.2.2 3) x1 (-1 : Int32))) fun M2 =>
      (f_X2_takeAllBack_l2 n2) (x1 + 1) M2
def f_X2_takeAllBack (M : xM) : Option xM :=
  f_X2_takeAllBack_l2 xN (0 : Int32) M
set_option maxRecDepth 100000 in
set_option maxHeartbeats 8000000 in
theorem c_X2_takeAllBack {l : Launch} {D : va_G} {aI : ClassId} {q t : Nat → Nat} {M : xM} {Mr : xM} (hf : f_X2_takeAllBack M = some Mr) : kM l yX2_takeAllBack (wk yX2_takeAllBack cX2_takeAllBack 2 none) rm_X2_takeAllBack (cw q aI) D aI t [.ref (q 6)] M none Mr := by
  refine kM_of (by decide) (Nat.le_of_ble_eq_true rfl) ?_
  intro p e s m args below meth c A ls X hr hlocks hl I
  have hx := X.1
  have hb := X.2.1
  have hl : lv_has ls 2 [(0, .ref (q 6))] := hl
  have B2 : ∀ (n2 : Nat), ∀ (x1 : Int32) (Mb : xM) (H : Heap) (locs : List Loc) (ls : Array Slot), f_X2_takeAllBack_l2 n2 x1 Mb = some Mr → kI (cw q aI) D A s Mb H locs → lv_has ls 2 [(0, .ref (q 6)), (1, .int x1)] → W p l e rm_X2_takeAllBack s m args below meth c H locs 0 0 (MQ below (kQ (cw q aI) D A none Mr) args s 0 0 A) (F0 m 2 ls []) := by
    intro n2
    induction n2 with
    | zero =>
      intro x1 Mb H locs ls hf I hl
      rw [f_X2_takeAllBack_l2] at hf
      cases hf
    | succ n2 ih2 =>
      intro x1 Mb H locs ls hf I hl
      rw [f_X2_takeAllBack_l2] at hf
      refine lv_iload_n hx hb dX2_takeAllBack_2 rfl (lv_at hl 1 rfl) ?_
      refine lv_iconst (v := 5) hx hb dX2_takeAllBack_3 (by decide) ?_
      refine lv_icmp_ge (tgt := 22) hx hb dX2_takeAllBack_4 (by decide) (fun c1 => ?_) (fun c1 => ?_)
      · rw [if_pos c1] at hf
        exact k_vret X I hr hlocks dX2_takeAllBack_22 hf
      · rw [if_neg c1] at hf
        refine lv_aload_n hx hb dX2_takeAllBack_7 rfl (lv_at hl 0 rfl) ?_
        refine k_get (T := TX2) (N := 9) X I inU2 6 cwG_6 rfl 0 (by decide) uw_1_60 rfl rfl dX2_takeAllBack_8 ?_
        refine lv_iload_n hx hb dX2_takeAllBack_11 rfl (lv_at hl 1 rfl) ?_
        refine lv_iconst (v := (-1)) hx hb dX2_takeAllBack_12 (by decide) ?_
        obtain ⟨M2, e_M2, hf⟩ := k_nm hf
        refine k_callSN (n := 3) (As := [.ref (q 7), .int x1, .int (-1 : Int32)]) (rest := []) X I (c_put (M' := M2) 7 cwG_7 (by decide) (cwA_3.trans (congrArg (cw q aI) e_M2))) (List.mem_of_getElem? (i := 0) rfl) uw_1_1 uw_1_58 uw_1_59 ⟨rfl, rfl⟩ (by decide +kernel) rfl ⟨Nat.le_of_ble_eq_true rfl, Nat.le_of_ble_eq_true rfl⟩ ⟨Nat.le_of_ble_eq_true rfl, Nat.le_of_ble_eq_true rfl⟩ hl.1 rfl (Nat.le_of_ble_eq_true rfl) dX2_takeAllBack_13 (st1 := []) rfl (fun H locs I => ?_)
        refine lv_iinc (v := (x1 + 1)) (lv' := [(1, .int (x1 + 1)), (0, .ref (q 6))]) hx hb dX2_takeAllBack_16 hl (k := 1) rfl rfl (by decide) rfl (fun ls hl => ?_)
        refine lv_goto (tgt := 2) hx hb dX2_takeAllBack_19 (by decide) ?_
        exact ih2 (x1 + 1) M2 _ _ ls hf I (lv_sub hl [1, 0] rfl)
  rw [f_X2_takeAllBack] at hf
  refine lv_iconst (v := 0) hx hb dX2_takeAllBack_0 (by decide) ?_
  refine lv_istore_n (lv' := [(1, .int (0 : Int32)), (0, .ref (q 6))]) hx hb dX2_takeAllBack_1 rfl hl (by decide) rfl (fun ls hl => ?_)
  exact B2 xN (0 : Int32) M _ _ ls hf I (lv_sub hl [1, 0] rfl)
/-! LostTent$Register.begin()V -/
abbrev rm_X2_begin : Room := { frames := 2, cells := 0, slots := 0, locals := 43 }
def f_X2_begin (M : xM) : Option xM :=
  (f_X2_takeAllBack M).bind fun M1 =>
  nmM (xI M1 5 (0 : Int32)) fun M2 =>
  nmM (xI M2 6 (0 : Int32)) fun M3 =>
  nmM (xI M3 7 (0 : Int32)) fun M4 =>
  nmM (xI M4 8 (0 : Int32)) fun M5 =>
  some M5
set_option maxRecDepth 100000 in
set_option maxHeartbeats 8000000 in
theorem c_X2_begin {l : Launch} {D : va_G} {aI : ClassId} {q t : Nat → Nat} {M : xM} {Mr : xM} (hf : f_X2_begin M = some Mr) : kM l yX2_begin (wk yX2_begin cX2_begin 1 none) rm_X2_begin (cw q aI) D aI t [.ref (q 6)] M none Mr := by
  refine kM_of (by decide) (Nat.le_of_ble_eq_true rfl) ?_
  intro p e s m args below meth c A ls X hr hlocks hl I
  have hx := X.1
  have hb := X.2.1
  have hl : lv_has ls 1 [(0, .ref (q 6))] := hl
  rw [f_X2_begin] at hf
  refine lv_aload_n hx hb dX2_begin_0 rfl (lv_at hl 0 rfl) ?_
  obtain ⟨M1, h_M1, hf⟩ := k_bind hf
  refine k_callV (n := 0) (As := []) (rest := []) X I (c_X2_takeAllBack h_M1) uw_1_53 uw_1_55 us_0 uw_1_4 uw_1_56 ⟨rfl, rfl⟩ (by decide +kernel) rfl ⟨Nat.le_of_ble_eq_true rfl, Nat.le_of_ble_eq_true rfl⟩ ⟨Nat.le_of_ble_eq_true rfl, Nat.le_of_ble_eq_true rfl⟩ 6 cwG_6 rfl hl.1 rfl (Nat.le_of_ble_eq_true rfl) dX2_begin_1 (st1 := []) rfl (fun H locs I => ?_)
  refine lv_aload_n hx hb dX2_begin_4 rfl (lv_at hl 0 rfl) ?_
  refine lv_iconst (v := 0) hx hb dX2_begin_5 (by decide) ?_
  obtain ⟨M2, e_M2, hf⟩ := k_nm hf
  refine k_put (T := TX2) (N := 9) (M1 := M2) X I inU2 tyX2 tyX2_ok nmX2 6 cwG_6 rfl 5 (by decide) uw_1_65 rfl rfl (tyX2_ok 5 (by decide)) rfl rfl (Nat.le_of_ble_eq_true rfl) dX2_begin_6 (cwI_5.trans (congrArg (cw q aI) e_M2)) (fun H locs I => ?_)
  refine lv_aload_n hx hb dX2_begin_9 rfl (lv_at hl 0 rfl) ?_
  refine lv_iconst (v := 0) hx hb dX2_begin_10 (by decide) ?_
  obtain ⟨M3, e_M3, hf⟩ := k_nm hf
  refine k_put (T := TX2) (N := 9) (M1 := M3) X I inU2 tyX2 tyX2_ok nmX2 6 cwG_6 rfl 6 (by decide) uw_1_66 rfl rfl (tyX2_ok 6 (by decide)) rfl rfl (Nat.le_of_ble_eq_true rfl) dX2_begin_11 (cwI_6.trans (congrArg (cw q aI) e_M3)) (fun H locs I => ?_)
  refine lv_aload_n hx hb dX2_begin_14 rfl (lv_at hl 0 rfl) ?_
  refine lv_iconst (v := 0) hx hb dX2_begin_15 (by decide) ?_
  obtain ⟨M4, e_M4, hf⟩ := k_nm hf
  refine k_put (T := TX2) (N := 9) (M1 := M4) X I inU2 tyX2 tyX2_ok nmX2 6 cwG_6 rfl 7 (by decide) uw_1_67 rfl rfl (tyX2_ok 7 (by decide)) rfl rfl (Nat.le_of_ble_eq_true rfl) dX2_begin_16 (cwI_7.trans (congrArg (cw q aI) e_M4)) (fun H locs I => ?_)
  refine lv_aload_n hx hb dX2_begin_19 rfl (lv_at hl 0 rfl) ?_
  refine lv_iconst (v := 0) hx hb dX2_begin_20 (by decide) ?_
  obtain ⟨M5, e_M5, hf⟩ := k_nm hf
  refine k_put (T := TX2) (N := 9) (M1 := M5) X I inU2 tyX2 tyX2_ok nmX2 6 cwG_6 rfl 8 (by decide) uw_1_68 rfl rfl (tyX2_ok 8 (by decide)) rfl rfl (Nat.le_of_ble_eq_true rfl) dX2_begin_21 (cwI_8.trans (congrArg (cw q aI) e_M5)) (fun H locs I => ?_)
  exact k_vret X I hr hlocks dX2_begin_24 hf
/-! LostTent$Page.claimerKind(I)I -/
abbrev rm_X1_claimerKind : Room := { frames := 5, cells := 0, slots := 0, locals := 191 }
def f_X1_claimerKind (x1 : Int32) (M : xM) : Option Int32 :=
  (f_X1_firstClaimer M).bind fun r1 =>
  (f_X1_kindOfLetter (xe 36 (M.2.2 0) (r1 + (x1 * (5 : Int32))))).bind fun r2 =>
  some r2
set_option maxRecDepth 100000 in
set_option maxHeartbeats 8000000 in
theorem c_X1_claimerKind {l : Launch} {D : va_G} {aI : ClassId} {q t : Nat → Nat} {x1 : Int32} {M : xM} {r : Int32} (hf : f_X1_claimerKind x1 M = some r) : kM l yX1_claimerKind (wk yX1_claimerKind cX1_claimerKind 2 (some .int)) rm_X1_claimerKind (cw q aI) D aI t [.ref (q 1), .int x1] M (some (.int r)) M := by
  refine kM_of (by decide) (Nat.le_of_ble_eq_true rfl) ?_
  intro p e s m args below meth c A ls X hr hlocks hl I
  have hx := X.1
  have hb := X.2.1
  have hl : lv_has ls 2 [(0, .ref (q 1)), (1, .int x1)] := hl
  rw [f_X1_claimerKind] at hf
  refine lv_aload_n hx hb dX1_claimerKind_0 rfl (lv_at hl 0 rfl) ?_
  refine k_get (T := TX1) (N := 2) X I inU1 1 cwG_1 rfl 0 (by decide) uw_1_29 rfl rfl dX1_claimerKind_1 ?_
  refine lv_aload_n hx hb dX1_claimerKind_4 rfl (lv_at hl 0 rfl) ?_
  obtain ⟨r1, h_r1, hf⟩ := k_bind hf
  refine k_callV (n := 0) (As := []) (rest := [.ref (q 2)]) X I (c_X1_firstClaimer h_r1) uw_1_193 uw_1_195 us_1 uw_1_2 uw_1_196 ⟨rfl, rfl⟩ (by decide +kernel) rfl ⟨Nat.le_of_ble_eq_true rfl, Nat.le_of_ble_eq_true rfl⟩ ⟨Nat.le_of_ble_eq_true rfl, Nat.le_of_ble_eq_true rfl⟩ 1 cwG_1 rfl hl.1 rfl (Nat.le_of_ble_eq_true rfl) dX1_claimerKind_5 (st1 := [.int r1, .ref (q 2)]) rfl (fun H locs I => ?_)
  refine lv_iload_n hx hb dX1_claimerKind_8 rfl (lv_at hl 1 rfl) ?_
  refine lv_iconst (v := 5) hx hb dX1_claimerKind_9 (by decide) ?_
  refine lv_imul hx hb dX1_claimerKind_10 ?_
  refine lv_iadd hx hb dX1_claimerKind_11 ?_
  refine k_callSN (n := 2) (As := [.ref (q 2), .int (r1 + (x1 * (5 : Int32)))]) (rest := []) X I (c_entry 2 cwG_2 (by decide)) (List.mem_of_getElem? (i := 2) rfl) uw_1_1 uw_1_198 uw_1_199 ⟨rfl, rfl⟩ (by decide +kernel) rfl ⟨Nat.le_of_ble_eq_true rfl, Nat.le_of_ble_eq_true rfl⟩ ⟨Nat.le_of_ble_eq_true rfl, Nat.le_of_ble_eq_true rfl⟩ hl.1 rfl (Nat.le_of_ble_eq_true rfl) dX1_claimerKind_12 (st1 := [.int (xe 36 (M.2.2 0) (r1 + (x1 * (5 : Int32))))]) rfl (fun H locs I => ?_)
  obtain ⟨r2, h_r2, hf⟩ := k_bind hf
  refine k_callS (n := 1) (As := [.int (xe 36 (M.2.2 0) (r1 + (x1 * (5 : Int32))))]) (rest := []) X I (c_X1_kindOfLetter h_r2) uw_1_214 uw_1_215 uw_1_2 uw_1_216 ⟨rfl, rfl⟩ (by decide +kernel) rfl ⟨Nat.le_of_ble_eq_true rfl, Nat.le_of_ble_eq_true rfl⟩ ⟨Nat.le_of_ble_eq_true rfl, Nat.le_of_ble_eq_true rfl⟩ hl.1 rfl (Nat.le_of_ble_eq_true rfl) dX1_claimerKind_15 (st1 := [.int r2]) rfl (fun H locs I => ?_)
  exact k_iretP X I hr hlocks dX1_claimerKind_18 hf
/-! LostTent$Page.claimerSign(II)I -/
abbrev rm_X1_claimerSign : Room := { frames := 2, cells := 0, slots := 0, locals := 42 }
def f_X1_claimerSign (x1 : Int32) (x2 : Int32) (M : xM) : Option Int32 :=
  (f_X1_firstClaimer M).bind fun r1 =>
  some ((xe 36 (M.2.2 0) (((r1 + (x1 * (5 : Int32))) + (1 : Int32)) + x2)) - (48 : Int32))
set_option maxRecDepth 100000 in
set_option maxHeartbeats 8000000 in
theorem c_X1_claimerSign {l : Launch} {D : va_G} {aI : ClassId} {q t : Nat → Nat} {x1 : Int32} {x2 : Int32} {M : xM} {r : Int32} (hf : f_X1_claimerSign x1 x2 M = some r) : kM l yX1_claimerSign (wk yX1_claimerSign cX1_claimerSign 3 (some .int)) rm_X1_claimerSign (cw q aI) D aI t [.ref (q 1), .int x1, .int x2] M (some (.int r)) M := by
  refine kM_of (by decide) (Nat.le_of_ble_eq_true rfl) ?_
  intro p e s m args below meth c A ls X hr hlocks hl I
  have hx := X.1
  have hb := X.2.1
  have hl : lv_has ls 3 [(0, .ref (q 1)), (1, .int x1), (2, .int x2)] := hl
  rw [f_X1_claimerSign] at hf
  refine lv_aload_n hx hb dX1_claimerSign_0 rfl (lv_at hl 0 rfl) ?_
  refine k_get (T := TX1) (N := 2) X I inU1 1 cwG_1 rfl 0 (by decide) uw_1_29 rfl rfl dX1_claimerSign_1 ?_
  refine lv_aload_n hx hb dX1_claimerSign_4 rfl (lv_at hl 0 rfl) ?_
  obtain ⟨r1, h_r1, hf⟩ := k_bind hf
  refine k_callV (n := 0) (As := []) (rest := [.ref (q 2)]) X I (c_X1_firstClaimer h_r1) uw_1_193 uw_1_195 us_1 uw_1_2 uw_1_196 ⟨rfl, rfl⟩ (by decide +kernel) rfl ⟨Nat.le_of_ble_eq_true rfl, Nat.le_of_ble_eq_true rfl⟩ ⟨Nat.le_of_ble_eq_true rfl, Nat.le_of_ble_eq_true rfl⟩ 1 cwG_1 rfl hl.1 rfl (Nat.le_of_ble_eq_true rfl) dX1_claimerSign_5 (st1 := [.int r1, .ref (q 2)]) rfl (fun H locs I => ?_)
  refine lv_iload_n hx hb dX1_claimerSign_8 rfl (lv_at hl 1 rfl) ?_
  refine lv_iconst (v := 5) hx hb dX1_claimerSign_9 (by decide) ?_
  refine lv_imul hx hb dX1_claimerSign_10 ?_
  refine lv_iadd hx hb dX1_claimerSign_11 ?_
  refine lv_iconst (v := 1) hx hb dX1_claimerSign_12 (by decide) ?_
  refine lv_iadd hx hb dX1_claimerSign_13 ?_
  refine lv_iload_n hx hb dX1_claimerSign_14 rfl (lv_at hl 2 rfl) ?_
  refine lv_iadd hx hb dX1_claimerSign_15 ?_
  refine k_callSN (n := 2) (As := [.ref (q 2), .int (((r1 + (x1 * (5 : Int32))) + (1 : Int32)) + x2)]) (rest := []) X I (c_entry 2 cwG_2 (by decide)) (List.mem_of_getElem? (i := 2) rfl) uw_1_1 uw_1_198 uw_1_199 ⟨rfl, rfl⟩ (by decide +kernel) rfl ⟨Nat.le_of_ble_eq_true rfl, Nat.le_of_ble_eq_true rfl⟩ ⟨Nat.le_of_ble_eq_true rfl, Nat.le_of_ble_eq_true rfl⟩ hl.1 rfl (Nat.le_of_ble_eq_true rfl) dX1_claimerSign_16 (st1 := [.int (xe 36 (M.2.2 0) (((r1 + (x1 * (5 : Int32))) + (1 : Int32)) + x2))]) rfl (fun H locs I => ?_)
  refine lv_bipush (v := 48) hx hb dX1_claimerSign_19 (by decide) ?_
  refine lv_isub hx hb dX1_claimerSign_21 ?_
  exact k_iretP X I hr hlocks dX1_claimerSign_22 hf
/-! LostTent$Register.setMemory(III)V -/
abbrev rm_X2_setMemory : Room := { frames := 1, cells := 0, slots := 0, locals := 22 }
def f_X2_setMemory (x1 : Int32) (x2 : Int32) (x3 : Int32) (M : xM) : Option xM :=
  nmM (xA M 4 (xp 9 (M.2.2 4) ((x1 * (3 : Int32)) + x2) x3)) fun M1 =>
  some M1
set_option maxRecDepth 100000 in
set_option maxHeartbeats 8000000 in
theorem c_X2_setMemory {l : Launch} {D : va_G} {aI : ClassId} {q t : Nat → Nat} {x1 : Int32} {x2 : Int32} {x3 : Int32} {M : xM} {Mr : xM} (hf : f_X2_setMemory x1 x2 x3 M = some Mr) : kM l yX2_setMemory (wk yX2_setMemory cX2_setMemory 4 none) rm_X2_setMemory (cw q aI) D aI t [.ref (q 6), .int x1, .int x2, .int x3] M none Mr := by
  refine kM_of (by decide) (Nat.le_of_ble_eq_true rfl) ?_
  intro p e s m args below meth c A ls X hr hlocks hl I
  have hx := X.1
  have hb := X.2.1
  have hl : lv_has ls 4 [(0, .ref (q 6)), (1, .int x1), (2, .int x2), (3, .int x3)] := hl
  rw [f_X2_setMemory] at hf
  refine lv_aload_n hx hb dX2_setMemory_0 rfl (lv_at hl 0 rfl) ?_
  refine k_get (T := TX2) (N := 9) X I inU2 6 cwG_6 rfl 1 (by decide) uw_1_61 rfl rfl dX2_setMemory_1 ?_
  refine lv_iload_n hx hb dX2_setMemory_4 rfl (lv_at hl 1 rfl) ?_
  refine lv_iconst (v := 3) hx hb dX2_setMemory_5 (by decide) ?_
  refine lv_imul hx hb dX2_setMemory_6 ?_
  refine lv_iload_n hx hb dX2_setMemory_7 rfl (lv_at hl 2 rfl) ?_
  refine lv_iadd hx hb dX2_setMemory_8 ?_
  refine lv_iload_n hx hb dX2_setMemory_9 rfl (lv_at hl 3 rfl) ?_
  obtain ⟨M1, e_M1, hf⟩ := k_nm hf
  refine k_callSN (n := 3) (As := [.ref (q 8), .int ((x1 * (3 : Int32)) + x2), .int x3]) (rest := []) X I (c_put (M' := M1) 8 cwG_8 (by decide) (cwA_4.trans (congrArg (cw q aI) e_M1))) (List.mem_of_getElem? (i := 0) rfl) uw_1_1 uw_1_58 uw_1_59 ⟨rfl, rfl⟩ (by decide +kernel) rfl ⟨Nat.le_of_ble_eq_true rfl, Nat.le_of_ble_eq_true rfl⟩ ⟨Nat.le_of_ble_eq_true rfl, Nat.le_of_ble_eq_true rfl⟩ hl.1 rfl (Nat.le_of_ble_eq_true rfl) dX2_setMemory_10 (st1 := []) rfl (fun H locs I => ?_)
  exact k_vret X I hr hlocks dX2_setMemory_13 hf
/-! LostTent$Page.thingSign(II)I -/
abbrev rm_X1_thingSign : Room := { frames := 1, cells := 0, slots := 0, locals := 21 }
def f_X1_thingSign (x1 : Int32) (x2 : Int32) (M : xM) : Option Int32 :=
  some ((xe 36 (M.2.2 0) ((x1 * (4 : Int32)) + x2)) - (48 : Int32))
set_option maxRecDepth 100000 in
set_option maxHeartbeats 8000000 in
theorem c_X1_thingSign {l : Launch} {D : va_G} {aI : ClassId} {q t : Nat → Nat} {x1 : Int32} {x2 : Int32} {M : xM} {r : Int32} (hf : f_X1_thingSign x1 x2 M = some r) : kM l yX1_thingSign (wk yX1_thingSign cX1_thingSign 3 (some .int)) rm_X1_thingSign (cw q aI) D aI t [.ref (q 1), .int x1, .int x2] M (some (.int r)) M := by
  refine kM_of (by decide) (Nat.le_of_ble_eq_true rfl) ?_
  intro p e s m args below meth c A ls X hr hlocks hl I
  have hx := X.1
  have hb := X.2.1
  have hl : lv_has ls 3 [(0, .ref (q 1)), (1, .int x1), (2, .int x2)] := hl
  rw [f_X1_thingSign] at hf
  refine lv_aload_n hx hb dX1_thingSign_0 rfl (lv_at hl 0 rfl) ?_
  refine k_get (T := TX1) (N := 2) X I inU1 1 cwG_1 rfl 0 (by decide) uw_1_29 rfl rfl dX1_thingSign_1 ?_
  refine lv_iload_n hx hb dX1_thingSign_4 rfl (lv_at hl 1 rfl) ?_
  refine lv_iconst (v := 4) hx hb dX1_thingSign_5 (by decide) ?_
  refine lv_imul hx hb dX1_thingSign_6 ?_
  refine lv_iload_n hx hb dX1_thingSign_7 rfl (lv_at hl 2 rfl) ?_
  refine lv_iadd hx hb dX1_thingSign_8 ?_
  refine k_callSN (n := 2) (As := [.ref (q 2), .int ((x1 * (4 : Int32)) + x2)]) (rest := []) X I (c_entry 2 cwG_2 (by decide)) (List.mem_of_getElem? (i := 2) rfl) uw_1_1 uw_1_198 uw_1_199 ⟨rfl, rfl⟩ (by decide +kernel) rfl ⟨Nat.le_of_ble_eq_true rfl, Nat.le_of_ble_eq_true rfl⟩ ⟨Nat.le_of_ble_eq_true rfl, Nat.le_of_ble_eq_true rfl⟩ hl.1 rfl (Nat.le_of_ble_eq_true rfl) dX1_thingSign_9 (st1 := [.int (xe 36 (M.2.2 0) ((x1 * (4 : Int32)) + x2))]) rfl (fun H locs I => ?_)
  refine lv_bipush (v := 48) hx hb dX1_thingSign_12 (by decide) ?_
  refine lv_isub hx hb dX1_thingSign_14 ?_
  exact k_iretP X I hr hlocks dX1_thingSign_15 hf
/-! LostTent$Tent.readFrom(LLostTent$Page;)V -/
abbrev rm_X3_readFrom : Room := { frames := 6, cells := 0, slots := 0, locals := 212 }
def f_X3_readFrom_l100 (k77 : Int32 → xM → Option xM) : Nat → Int32 → Int32 → xM → Option xM
  | 0, _, _, _ => none
  | n100 + 1, x2, x3, Mb =>
    if (3 : Int32) ≤ x3 then
      k77 (x2 + 1) Mb
    else
      (f_X1_claimerSign x2 x3 Mb).bind fun r12 =>
      (f_X2_setMemory x2 x3 r12 Mb).bind fun M13 =>
      (f_X3_readFrom_l100 k77 n100) x2 (x3 + 1) M13
def f_X3_readFrom_l77 : Nat → Int32 → xM → Option xM
  | 0, _, _ => none
  | n77 + 1, x2, Mb =>
    if (Mb.1 3) ≤ x2 then
      some Mb
    else
      (f_X1_claimerKind x2 Mb).bind fun r9 =>
      nmM (xA Mb 2 (xp 3 (Mb.2.2 2) x2 r9)) fun M10 =>
      f_X3_readFrom_l100 (f_X3_readFrom_l77 n77) xN x2 (0 : Int32) M10
def f_X3_readFrom_l40 (k30 : Int32 → xM → Option xM) : Nat → Int32 → Int32 → xM → Option xM
  | 0, _, _, _ => none
  | n40 + 1, x2, x3, Mb =>
    if (3 : Int32) ≤ x3 then
      k30 (x2 + 1) Mb
    else
      (f_X1_thingSign x2 x3 Mb).bind fun r15 =>
      nmM (xA Mb 1 (xp 15 (Mb.2.2 1) ((x2 * (3 : Int32)) + x3) r15)) fun M16 =>
      (f_X3_readFrom_l40 k30 n40) x2 (x3 + 1) M16
def f_X3_readFrom_l30 : Nat → Int32 → xM → Option xM
  | 0, _, _ => none
  | n30 + 1, x2, Mb =>
    if (Mb.1 2) ≤ x2 then
      f_X3_readFrom_l77 xN (0 : Int32) Mb
    else
      f_X3_readFrom_l40 (f_X3_readFrom_l30 n30) xN x2 (0 : Int32) Mb
def f_X3_readFrom (M : xM) : Option xM :=
  (f_X1_things M).bind fun r1 =>
  nmM (xI M 2 r1) fun M2 =>
  (f_X1_claimers M2).bind fun r3 =>
  nmM (xI M2 3 r3) fun M4 =>
  nmM (xI M4 4 (0 : Int32)) fun M5 =>
  (f_X2_begin M5).bind fun M6 =>
  f_X3_readFrom_l30 xN (0 : Int32) M6
set_option maxRecDepth 100000 in
set_option maxHeartbeats 8000000 in
theorem c_X3_readFrom {l : Launch} {D : va_G} {aI : ClassId} {q t : Nat → Nat} {M : xM} {Mr : xM} (hf : f_X3_readFrom M = some Mr) : kM l yX3_readFrom (wk yX3_readFrom cX3_readFrom 4 none) rm_X3_readFrom (cw q aI) D aI t [.ref (q 3), .ref (q 1)] M none Mr := by
  refine kM_of (by decide) (Nat.le_of_ble_eq_true rfl) ?_
  intro p e s m args below meth c A ls X hr hlocks hl I
  have hx := X.1
  have hb := X.2.1
  have hl : lv_has ls 4 [(0, .ref (q 3)), (1, .ref (q 1))] := hl
  have B100 : ∀ (k77 : Int32 → xM → Option xM), (∀ (x2 : Int32) (Mb : xM) (H : Heap) (locs : List Loc) (ls : Array Slot), k77 x2 Mb = some Mr → kI (cw q aI) D A s Mb H locs → lv_has ls 4 [(0, .ref (q 3)), (1, .ref (q 1)), (2, .int x2)] → W p l e rm_X3_readFrom s m args below meth c H locs 0 0 (MQ below (kQ (cw q aI) D A none Mr) args s 0 0 A) (F0 m 77 ls [])) → ∀ (n100 : Nat), ∀ (x2 : Int32) (x3 : Int32) (Mb : xM) (H : Heap) (locs : List Loc) (ls : Array Slot), f_X3_readFrom_l100 k77 n100 x2 x3 Mb = some Mr → kI (cw q aI) D A s Mb H locs → lv_has ls 4 [(0, .ref (q 3)), (1, .ref (q 1)), (2, .int x2), (3, .int x3)] → W p l e rm_X3_readFrom s m args below meth c H locs 0 0 (MQ below (kQ (cw q aI) D A none Mr) args s 0 0 A) (F0 m 100 ls []) := by
    intro k77 hk77
    intro n100
    induction n100 with
    | zero =>
      intro x2 x3 Mb H locs ls hf I hl
      rw [f_X3_readFrom_l100] at hf
      cases hf
    | succ n100 ih100 =>
      intro x2 x3 Mb H locs ls hf I hl
      rw [f_X3_readFrom_l100] at hf
      refine lv_iload_n hx hb dX3_readFrom_100 rfl (lv_at hl 3 rfl) ?_
      refine lv_iconst (v := 3) hx hb dX3_readFrom_101 (by decide) ?_
      refine lv_icmp_ge (tgt := 126) hx hb dX3_readFrom_102 (by decide) (fun c11 => ?_) (fun c11 => ?_)
      · rw [if_pos c11] at hf
        refine lv_iinc (v := (x2 + 1)) (lv' := [(2, .int (x2 + 1)), (0, .ref (q 3)), (1, .ref (q 1)), (3, .int x3)]) hx hb dX3_readFrom_126 hl (k := 2) rfl rfl (by decide) rfl (fun ls hl => ?_)
        refine lv_goto (tgt := 77) hx hb dX3_readFrom_129 (by decide) ?_
        exact hk77 (x2 + 1) Mb _ _ ls hf I (lv_sub hl [1, 2, 0] rfl)
      · rw [if_neg c11] at hf
        refine lv_aload_n hx hb dX3_readFrom_105 rfl (lv_at hl 0 rfl) ?_
        refine k_get (T := TX3) (N := 7) X I inU3 3 cwG_3 rfl 2 (by decide) uw_1_90 rfl rfl dX3_readFrom_106 ?_
        refine lv_iload_n hx hb dX3_readFrom_109 rfl (lv_at hl 2 rfl) ?_
        refine lv_iload_n hx hb dX3_readFrom_110 rfl (lv_at hl 3 rfl) ?_
        refine lv_aload_n hx hb dX3_readFrom_111 rfl (lv_at hl 1 rfl) ?_
        refine lv_iload_n hx hb dX3_readFrom_112 rfl (lv_at hl 2 rfl) ?_
        refine lv_iload_n hx hb dX3_readFrom_113 rfl (lv_at hl 3 rfl) ?_
        obtain ⟨r12, h_r12, hf⟩ := k_bind hf
        refine k_callV (n := 2) (As := [.int x2, .int x3]) (rest := [.int x3, .int x2, .ref (q 6)]) X I (c_X1_claimerSign h_r12) uw_2_96 uw_2_97 uw_2_98 uw_1_2 uw_2_99 ⟨rfl, rfl⟩ (by decide +kernel) rfl ⟨Nat.le_of_ble_eq_true rfl, Nat.le_of_ble_eq_true rfl⟩ ⟨Nat.le_of_ble_eq_true rfl, Nat.le_of_ble_eq_true rfl⟩ 1 cwG_1 rfl hl.1 rfl (Nat.le_of_ble_eq_true rfl) dX3_readFrom_114 (st1 := [.int r12, .int x3, .int x2, .ref (q 6)]) rfl (fun H locs I => ?_)
        obtain ⟨M13, h_M13, hf⟩ := k_bind hf
        refine k_callV (n := 3) (As := [.int x2, .int x3, .int r12]) (rest := []) X I (c_X2_setMemory h_M13) uw_2_100 uw_2_101 uw_2_102 uw_1_4 uw_2_103 ⟨rfl, rfl⟩ (by decide +kernel) rfl ⟨Nat.le_of_ble_eq_true rfl, Nat.le_of_ble_eq_true rfl⟩ ⟨Nat.le_of_ble_eq_true rfl, Nat.le_of_ble_eq_true rfl⟩ 6 cwG_6 rfl hl.1 rfl (Nat.le_of_ble_eq_true rfl) dX3_readFrom_117 (st1 := []) rfl (fun H locs I => ?_)
        refine lv_iinc (v := (x3 + 1)) (lv' := [(3, .int (x3 + 1)), (0, .ref (q 3)), (1, .ref (q 1)), (2, .int x2)]) hx hb dX3_readFrom_120 hl (k := 3) rfl rfl (by decide) rfl (fun ls hl => ?_)
        refine lv_goto (tgt := 100) hx hb dX3_readFrom_123 (by decide) ?_
        exact ih100 x2 (x3 + 1) M13 _ _ ls hf I (lv_sub hl [1, 2, 3, 0] rfl)
  have B77 : ∀ (n77 : Nat), ∀ (x2 : Int32) (Mb : xM) (H : Heap) (locs : List Loc) (ls : Array Slot), f_X3_readFrom_l77 n77 x2 Mb = some Mr → kI (cw q aI) D A s Mb H locs → lv_has ls 4 [(0, .ref (q 3)), (1, .ref (q 1)), (2, .int x2)] → W p l e rm_X3_readFrom s m args below meth c H locs 0 0 (MQ below (kQ (cw q aI) D A none Mr) args s 0 0 A) (F0 m 77 ls []) := by
    intro n77
    induction n77 with
    | zero =>
      intro x2 Mb H locs ls hf I hl
      rw [f_X3_readFrom_l77] at hf
      cases hf
    | succ n77 ih77 =>
      intro x2 Mb H locs ls hf I hl
      rw [f_X3_readFrom_l77] at hf
      refine lv_iload_n hx hb dX3_readFrom_77 rfl (lv_at hl 2 rfl) ?_
      refine lv_aload_n hx hb dX3_readFrom_78 rfl (lv_at hl 0 rfl) ?_
      refine k_get (T := TX3) (N := 7) X I inU3 3 cwG_3 rfl 5 (by decide) uw_1_93 rfl rfl dX3_readFrom_79 ?_
      refine lv_icmp_ge (tgt := 132) hx hb dX3_readFrom_82 (by decide) (fun c8 => ?_) (fun c8 => ?_)
      · rw [if_pos c8] at hf
        exact k_vret X I hr hlocks dX3_readFrom_132 hf
      · rw [if_neg c8] at hf
        refine lv_aload_n hx hb dX3_readFrom_85 rfl (lv_at hl 0 rfl) ?_
        refine k_get (T := TX3) (N := 7) X I inU3 3 cwG_3 rfl 1 (by decide) uw_1_89 rfl rfl dX3_readFrom_86 ?_
        refine lv_iload_n hx hb dX3_readFrom_89 rfl (lv_at hl 2 rfl) ?_
        refine lv_aload_n hx hb dX3_readFrom_90 rfl (lv_at hl 1 rfl) ?_
        refine lv_iload_n hx hb dX3_readFrom_91 rfl (lv_at hl 2 rfl) ?_
        obtain ⟨r9, h_r9, hf⟩ := k_bind hf
        refine k_callV (n := 1) (As := [.int x2]) (rest := [.int x2, .ref (q 5)]) X I (c_X1_claimerKind h_r9) uw_2_92 uw_2_93 uw_2_94 uw_1_2 uw_2_95 ⟨rfl, rfl⟩ (by decide +kernel) rfl ⟨Nat.le_of_ble_eq_true rfl, Nat.le_of_ble_eq_true rfl⟩ ⟨Nat.le_of_ble_eq_true rfl, Nat.le_of_ble_eq_true rfl⟩ 1 cwG_1 rfl hl.1 rfl (Nat.le_of_ble_eq_true rfl) dX3_readFrom_92 (st1 := [.int r9, .int x2, .ref (q 5)]) rfl (fun H locs I => ?_)
        obtain ⟨M10, e_M10, hf⟩ := k_nm hf
        refine k_callSN (n := 3) (As := [.ref (q 5), .int x2, .int r9]) (rest := []) X I (c_put (M' := M10) 5 cwG_5 (by decide) (cwA_2.trans (congrArg (cw q aI) e_M10))) (List.mem_of_getElem? (i := 5) rfl) uw_1_1 uw_1_58 uw_1_59 ⟨rfl, rfl⟩ (by decide +kernel) rfl ⟨Nat.le_of_ble_eq_true rfl, Nat.le_of_ble_eq_true rfl⟩ ⟨Nat.le_of_ble_eq_true rfl, Nat.le_of_ble_eq_true rfl⟩ hl.1 rfl (Nat.le_of_ble_eq_true rfl) dX3_readFrom_95 (st1 := []) rfl (fun H locs I => ?_)
        refine lv_iconst (v := 0) hx hb dX3_readFrom_98 (by decide) ?_
        refine lv_istore_n (lv' := [(3, .int (0 : Int32)), (0, .ref (q 3)), (1, .ref (q 1)), (2, .int x2)]) hx hb dX3_readFrom_99 rfl hl (by decide) rfl (fun ls hl => ?_)
        exact B100 (f_X3_readFrom_l77 n77) ih77 xN x2 (0 : Int32) M10 _ _ ls hf I (lv_sub hl [1, 2, 3, 0] rfl)
  have B40 : ∀ (k30 : Int32 → xM → Option xM), (∀ (x2 : Int32) (Mb : xM) (H : Heap) (locs : List Loc) (ls : Array Slot), k30 x2 Mb = some Mr → kI (cw q aI) D A s Mb H locs → lv_has ls 4 [(0, .ref (q 3)), (1, .ref (q 1)), (2, .int x2)] → W p l e rm_X3_readFrom s m args below meth c H locs 0 0 (MQ below (kQ (cw q aI) D A none Mr) args s 0 0 A) (F0 m 30 ls [])) → ∀ (n40 : Nat), ∀ (x2 : Int32) (x3 : Int32) (Mb : xM) (H : Heap) (locs : List Loc) (ls : Array Slot), f_X3_readFrom_l40 k30 n40 x2 x3 Mb = some Mr → kI (cw q aI) D A s Mb H locs → lv_has ls 4 [(0, .ref (q 3)), (1, .ref (q 1)), (2, .int x2), (3, .int x3)] → W p l e rm_X3_readFrom s m args below meth c H locs 0 0 (MQ below (kQ (cw q aI) D A none Mr) args s 0 0 A) (F0 m 40 ls []) := by
    intro k30 hk30
    intro n40
    induction n40 with
    | zero =>
      intro x2 x3 Mb H locs ls hf I hl
      rw [f_X3_readFrom_l40] at hf
      cases hf
    | succ n40 ih40 =>
      intro x2 x3 Mb H locs ls hf I hl
      rw [f_X3_readFrom_l40] at hf
      refine lv_iload_n hx hb dX3_readFrom_40 rfl (lv_at hl 3 rfl) ?_
      refine lv_iconst (v := 3) hx hb dX3_readFrom_41 (by decide) ?_
      refine lv_icmp_ge (tgt := 69) hx hb dX3_readFrom_42 (by decide) (fun c14 => ?_) (fun c14 => ?_)
      · rw [if_pos c14] at hf
        refine lv_iinc (v := (x2 + 1)) (lv' := [(2, .int (x2 + 1)), (0, .ref (q 3)), (1, .ref (q 1)), (3, .int x3)]) hx hb dX3_readFrom_69 hl (k := 2) rfl rfl (by decide) rfl (fun ls hl => ?_)
        refine lv_goto (tgt := 30) hx hb dX3_readFrom_72 (by decide) ?_
        exact hk30 (x2 + 1) Mb _ _ ls hf I (lv_sub hl [1, 2, 0] rfl)
      · rw [if_neg c14] at hf
        refine lv_aload_n hx hb dX3_readFrom_45 rfl (lv_at hl 0 rfl) ?_
        refine k_get (T := TX3) (N := 7) X I inU3 3 cwG_3 rfl 0 (by decide) uw_1_88 rfl rfl dX3_readFrom_46 ?_
        refine lv_iload_n hx hb dX3_readFrom_49 rfl (lv_at hl 2 rfl) ?_
        refine lv_iconst (v := 3) hx hb dX3_readFrom_50 (by decide) ?_
        refine lv_imul hx hb dX3_readFrom_51 ?_
        refine lv_iload_n hx hb dX3_readFrom_52 rfl (lv_at hl 3 rfl) ?_
        refine lv_iadd hx hb dX3_readFrom_53 ?_
        refine lv_aload_n hx hb dX3_readFrom_54 rfl (lv_at hl 1 rfl) ?_
        refine lv_iload_n hx hb dX3_readFrom_55 rfl (lv_at hl 2 rfl) ?_
        refine lv_iload_n hx hb dX3_readFrom_56 rfl (lv_at hl 3 rfl) ?_
        obtain ⟨r15, h_r15, hf⟩ := k_bind hf
        refine k_callV (n := 2) (As := [.int x2, .int x3]) (rest := [.int ((x2 * (3 : Int32)) + x3), .ref (q 4)]) X I (c_X1_thingSign h_r15) uw_2_87 uw_2_88 uw_2_89 uw_1_2 uw_2_90 ⟨rfl, rfl⟩ (by decide +kernel) rfl ⟨Nat.le_of_ble_eq_true rfl, Nat.le_of_ble_eq_true rfl⟩ ⟨Nat.le_of_ble_eq_true rfl, Nat.le_of_ble_eq_true rfl⟩ 1 cwG_1 rfl hl.1 rfl (Nat.le_of_ble_eq_true rfl) dX3_readFrom_57 (st1 := [.int r15, .int ((x2 * (3 : Int32)) + x3), .ref (q 4)]) rfl (fun H locs I => ?_)
        obtain ⟨M16, e_M16, hf⟩ := k_nm hf
        refine k_callSN (n := 3) (As := [.ref (q 4), .int ((x2 * (3 : Int32)) + x3), .int r15]) (rest := []) X I (c_put (M' := M16) 4 cwG_4 (by decide) (cwA_1.trans (congrArg (cw q aI) e_M16))) (List.mem_of_getElem? (i := 5) rfl) uw_1_1 uw_1_58 uw_1_59 ⟨rfl, rfl⟩ (by decide +kernel) rfl ⟨Nat.le_of_ble_eq_true rfl, Nat.le_of_ble_eq_true rfl⟩ ⟨Nat.le_of_ble_eq_true rfl, Nat.le_of_ble_eq_true rfl⟩ hl.1 rfl (Nat.le_of_ble_eq_true rfl) dX3_readFrom_60 (st1 := []) rfl (fun H locs I => ?_)
        refine lv_iinc (v := (x3 + 1)) (lv' := [(3, .int (x3 + 1)), (0, .ref (q 3)), (1, .ref (q 1)), (2, .int x2)]) hx hb dX3_readFrom_63 hl (k := 3) rfl rfl (by decide) rfl (fun ls hl => ?_)
        refine lv_goto (tgt := 40) hx hb dX3_readFrom_66 (by decide) ?_
        exact ih40 x2 (x3 + 1) M16 _ _ ls hf I (lv_sub hl [1, 2, 3, 0] rfl)
  have B30 : ∀ (n30 : Nat), ∀ (x2 : Int32) (Mb : xM) (H : Heap) (locs : List Loc) (ls : Array Slot), f_X3_readFrom_l30 n30 x2 Mb = some Mr → kI (cw q aI) D A s Mb H locs → lv_has ls 4 [(0, .ref (q 3)), (1, .ref (q 1)), (2, .int x2)] → W p l e rm_X3_readFrom s m args below meth c H locs 0 0 (MQ below (kQ (cw q aI) D A none Mr) args s 0 0 A) (F0 m 30 ls []) := by
    intro n30
    induction n30 with
    | zero =>
      intro x2 Mb H locs ls hf I hl
      rw [f_X3_readFrom_l30] at hf
      cases hf
    | succ n30 ih30 =>
      intro x2 Mb H locs ls hf I hl
      rw [f_X3_readFrom_l30] at hf
      refine lv_iload_n hx hb dX3_readFrom_30 rfl (lv_at hl 2 rfl) ?_
      refine lv_aload_n hx hb dX3_readFrom_31 rfl (lv_at hl 0 rfl) ?_
      refine k_get (T := TX3) (N := 7) X I inU3 3 cwG_3 rfl 4 (by decide) uw_1_92 rfl rfl dX3_readFrom_32 ?_
      refine lv_icmp_ge (tgt := 75) hx hb dX3_readFrom_35 (by decide) (fun c7 => ?_) (fun c7 => ?_)
      · rw [if_pos c7] at hf
        refine lv_iconst (v := 0) hx hb dX3_readFrom_75 (by decide) ?_
        refine lv_istore_n (lv' := [(2, .int (0 : Int32)), (0, .ref (q 3)), (1, .ref (q 1))]) hx hb dX3_readFrom_76 rfl hl (by decide) rfl (fun ls hl => ?_)
        exact B77 xN (0 : Int32) Mb _ _ ls hf I (lv_sub hl [1, 2, 0] rfl)
      · rw [if_neg c7] at hf
        refine lv_iconst (v := 0) hx hb dX3_readFrom_38 (by decide) ?_
        refine lv_istore_n (lv' := [(3, .int (0 : Int32)), (0, .ref (q 3)), (1, .ref (q 1)), (2, .int x2)]) hx hb dX3_readFrom_39 rfl hl (by decide) rfl (fun ls hl => ?_)
        exact B40 (f_X3_readFrom_l30 n30) ih30 xN x2 (0 : Int32) Mb _ _ ls hf I (lv_sub hl [1, 2, 3, 0] rfl)
  rw [f_X3_readFrom] at hf
  refine lv_aload_n hx hb dX3_readFrom_0 rfl (lv_at hl 0 rfl) ?_
  refine lv_aload_n hx hb dX3_readFrom_1 rfl (lv_at hl 1 rfl) ?_
  obtain ⟨r1, h_r1, hf⟩ := k_bind hf
  refine k_callV (n := 0) (As := []) (rest := [.ref (q 3)]) X I (c_X1_things h_r1) uw_2_78 uw_2_79 uw_2_80 uw_1_2 uw_2_81 ⟨rfl, rfl⟩ (by decide +kernel) rfl ⟨Nat.le_of_ble_eq_true rfl, Nat.le_of_ble_eq_true rfl⟩ ⟨Nat.le_of_ble_eq_true rfl, Nat.le_of_ble_eq_true rfl⟩ 1 cwG_1 rfl hl.1 rfl (Nat.le_of_ble_eq_true rfl) dX3_readFrom_2 (st1 := [.int r1, .ref (q 3)]) rfl (fun H locs I => ?_)
  obtain ⟨M2, e_M2, hf⟩ := k_nm hf
  refine k_put (T := TX3) (N := 7) (M1 := M2) X I inU3 tyX3 tyX3_ok nmX3 3 cwG_3 rfl 4 (by decide) uw_1_92 rfl rfl (tyX3_ok 4 (by decide)) rfl rfl (Nat.le_of_ble_eq_true rfl) dX3_readFrom_5 (cwI_2.trans (congrArg (cw q aI) e_M2)) (fun H locs I => ?_)
  refine lv_aload_n hx hb dX3_readFrom_8 rfl (lv_at hl 0 rfl) ?_
  refine lv_aload_n hx hb dX3_readFrom_9 rfl (lv_at hl 1 rfl) ?_
  obtain ⟨r3, h_r3, hf⟩ := k_bind hf
  refine k_callV (n := 0) (As := []) (rest := [.ref (q 3)]) X I (c_X1_claimers h_r3) uw_2_82 uw_2_83 uw_2_84 uw_1_2 uw_2_85 ⟨rfl, rfl⟩ (by decide +kernel) rfl ⟨Nat.le_of_ble_eq_true rfl, Nat.le_of_ble_eq_true rfl⟩ ⟨Nat.le_of_ble_eq_true rfl, Nat.le_of_ble_eq_true rfl⟩ 1 cwG_1 rfl hl.1 rfl (Nat.le_of_ble_eq_true rfl) dX3_readFrom_10 (st1 := [.int r3, .ref (q 3)]) rfl (fun H locs I => ?_)
  obtain ⟨M4, e_M4, hf⟩ := k_nm hf
  refine k_put (T := TX3) (N := 7) (M1 := M4) X I inU3 tyX3 tyX3_ok nmX3 3 cwG_3 rfl 5 (by decide) uw_1_93 rfl rfl (tyX3_ok 5 (by decide)) rfl rfl (Nat.le_of_ble_eq_true rfl) dX3_readFrom_13 (cwI_3.trans (congrArg (cw q aI) e_M4)) (fun H locs I => ?_)
  refine lv_aload_n hx hb dX3_readFrom_16 rfl (lv_at hl 0 rfl) ?_
  refine lv_iconst (v := 0) hx hb dX3_readFrom_17 (by decide) ?_
  obtain ⟨M5, e_M5, hf⟩ := k_nm hf
  refine k_put (T := TX3) (N := 7) (M1 := M5) X I inU3 tyX3 tyX3_ok nmX3 3 cwG_3 rfl 6 (by decide) uw_1_94 rfl rfl (tyX3_ok 6 (by decide)) (by decide) (by decide) (Nat.le_of_ble_eq_true rfl) dX3_readFrom_18 (cwI_4.trans (congrArg (cw q aI) e_M5)) (fun H locs I => ?_)
  refine lv_aload_n hx hb dX3_readFrom_21 rfl (lv_at hl 0 rfl) ?_
  refine k_get (T := TX3) (N := 7) X I inU3 3 cwG_3 rfl 2 (by decide) uw_1_90 rfl rfl dX3_readFrom_22 ?_
  obtain ⟨M6, h_M6, hf⟩ := k_bind hf
  refine k_callV (n := 0) (As := []) (rest := []) X I (c_X2_begin h_M6) uw_2_86 uw_1_50 uw_1_51 uw_1_4 uw_1_52 ⟨rfl, rfl⟩ (by decide +kernel) rfl ⟨Nat.le_of_ble_eq_true rfl, Nat.le_of_ble_eq_true rfl⟩ ⟨Nat.le_of_ble_eq_true rfl, Nat.le_of_ble_eq_true rfl⟩ 6 cwG_6 rfl hl.1 rfl (Nat.le_of_ble_eq_true rfl) dX3_readFrom_25 (st1 := []) rfl (fun H locs I => ?_)
  refine lv_iconst (v := 0) hx hb dX3_readFrom_28 (by decide) ?_
  refine lv_istore_n (lv' := [(2, .int (0 : Int32)), (0, .ref (q 3)), (1, .ref (q 1))]) hx hb dX3_readFrom_29 rfl hl (by decide) rfl (fun ls hl => ?_)
  exact B30 xN (0 : Int32) M6 _ _ ls hf I (lv_sub hl [1, 2, 0] rfl)
/-! LostTent$Tent.things()I -/
abbrev rm_X3_things : Room := { frames := 0, cells := 0, slots := 0, locals := 0 }
def f_X3_things (M : xM) : Option Int32 :=
  some (M.1 2)
set_option maxRecDepth 100000 in
set_option maxHeartbeats 8000000 in
theorem c_X3_things {l : Launch} {D : va_G} {aI : ClassId} {q t : Nat → Nat} {M : xM} {r : Int32} (hf : f_X3_things M = some r) : kM l yX3_things (wk yX3_things cX3_things 1 (some .int)) rm_X3_things (cw q aI) D aI t [.ref (q 3)] M (some (.int r)) M := by
  refine kM_of (by decide) (Nat.le_of_ble_eq_true rfl) ?_
  intro p e s m args below meth c A ls X hr hlocks hl I
  have hx := X.1
  have hb := X.2.1
  have hl : lv_has ls 1 [(0, .ref (q 3))] := hl
  rw [f_X3_things] at hf
  refine lv_aload_n hx hb dX3_things_0 rfl (lv_at hl 0 rfl) ?_
  refine k_get (T := TX3) (N := 7) X I inU3 3 cwG_3 rfl 4 (by decide) uw_1_92 rfl rfl dX3_things_1 ?_
  exact k_iretP X I hr hlocks dX3_things_4 hf
/-! LostTent.tent()I -/
abbrev rm_X5_tent : Room := { frames := 8, cells := 0, slots := 0, locals := 259 }
def f_X5_tent (M : xM) : Option (Int32 × xM) :=
  (f_X1_isTent M).bind fun r1 =>
  if r1 = 0 then
    some ((-103 : Int32), M)
  else
    (f_X3_readFrom M).bind fun M3 =>
    (f_X1_clear M3).bind fun M4 =>
    nmM (xI M4 0 ((M4.1 0) + (1 : Int32))) fun M5 =>
    (f_X3_things M5).bind fun r6 =>
    some (r6, M5)
set_option maxRecDepth 100000 in
set_option maxHeartbeats 8000000 in
theorem c_X5_tent {l : Launch} {D : va_G} {aI : ClassId} {q t : Nat → Nat} {M : xM} {r : Int32} {Mr : xM} (hf : f_X5_tent M = some (r, Mr)) : kM l yX5_tent (wk yX5_tent cX5_tent 1 (some .int)) rm_X5_tent (cw q aI) D aI t [.ref (q 0)] M (some (.int r)) Mr := by
  refine kM_of (by decide) (Nat.le_of_ble_eq_true rfl) ?_
  intro p e s m args below meth c A ls X hr hlocks hl I
  have hx := X.1
  have hb := X.2.1
  have hl : lv_has ls 1 [(0, .ref (q 0))] := hl
  rw [f_X5_tent] at hf
  refine lv_aload_n hx hb dX5_tent_0 rfl (lv_at hl 0 rfl) ?_
  refine k_get (T := TX5) (N := 5) X I inU5 0 cwG_0 rfl 0 (by decide) uw_1_148 rfl rfl dX5_tent_1 ?_
  obtain ⟨r1, h_r1, hf⟩ := k_bind hf
  refine k_callV (n := 0) (As := []) (rest := []) X I (c_X1_isTent h_r1) uw_2_69 uw_2_70 uw_2_71 uw_1_2 uw_2_72 ⟨rfl, rfl⟩ (by decide +kernel) rfl ⟨Nat.le_of_ble_eq_true rfl, Nat.le_of_ble_eq_true rfl⟩ ⟨Nat.le_of_ble_eq_true rfl, Nat.le_of_ble_eq_true rfl⟩ 1 cwG_1 rfl hl.1 rfl (Nat.le_of_ble_eq_true rfl) dX5_tent_4 (st1 := [.int r1]) rfl (fun H locs I => ?_)
  refine lv_if_ne (tgt := 13) hx hb dX5_tent_7 (by decide) (fun c2 => ?_) (fun c2 => ?_)
  · rw [if_neg c2] at hf
    refine lv_aload_n hx hb dX5_tent_13 rfl (lv_at hl 0 rfl) ?_
    refine k_get (T := TX5) (N := 5) X I inU5 0 cwG_0 rfl 1 (by decide) uw_1_149 rfl rfl dX5_tent_14 ?_
    refine lv_aload_n hx hb dX5_tent_17 rfl (lv_at hl 0 rfl) ?_
    refine k_get (T := TX5) (N := 5) X I inU5 0 cwG_0 rfl 0 (by decide) uw_1_148 rfl rfl dX5_tent_18 ?_
    obtain ⟨M3, h_M3, hf⟩ := k_bind hf
    refine k_callV (n := 1) (As := [.ref (q 1)]) (rest := []) X I (c_X3_readFrom h_M3) uw_2_74 uw_2_75 uw_2_76 uw_1_3 uw_2_77 ⟨rfl, rfl⟩ (by decide +kernel) rfl ⟨Nat.le_of_ble_eq_true rfl, Nat.le_of_ble_eq_true rfl⟩ ⟨Nat.le_of_ble_eq_true rfl, Nat.le_of_ble_eq_true rfl⟩ 3 cwG_3 rfl hl.1 rfl (Nat.le_of_ble_eq_true rfl) dX5_tent_21 (st1 := []) rfl (fun H locs I => ?_)
    refine lv_aload_n hx hb dX5_tent_24 rfl (lv_at hl 0 rfl) ?_
    refine k_get (T := TX5) (N := 5) X I inU5 0 cwG_0 rfl 0 (by decide) uw_1_148 rfl rfl dX5_tent_25 ?_
    obtain ⟨M4, h_M4, hf⟩ := k_bind hf
    refine k_callV (n := 0) (As := []) (rest := []) X I (c_X1_clear h_M4) uw_1_181 uw_1_182 uw_1_183 uw_1_2 uw_1_184 ⟨rfl, rfl⟩ (by decide +kernel) rfl ⟨Nat.le_of_ble_eq_true rfl, Nat.le_of_ble_eq_true rfl⟩ ⟨Nat.le_of_ble_eq_true rfl, Nat.le_of_ble_eq_true rfl⟩ 1 cwG_1 rfl hl.1 rfl (Nat.le_of_ble_eq_true rfl) dX5_tent_28 (st1 := []) rfl (fun H locs I => ?_)
    refine lv_aload_n hx hb dX5_tent_31 rfl (lv_at hl 0 rfl) ?_
    refine lv_dup hx hb dX5_tent_32 rfl ?_
    refine k_get (T := TX5) (N := 5) X I inU5 0 cwG_0 rfl 4 (by decide) uw_1_152 rfl rfl dX5_tent_33 ?_
    refine lv_iconst (v := 1) hx hb dX5_tent_36 (by decide) ?_
    refine lv_iadd hx hb dX5_tent_37 ?_
    obtain ⟨M5, e_M5, hf⟩ := k_nm hf
    refine k_put (T := TX5) (N := 5) (M1 := M5) X I inU5 tyX5 tyX5_ok nmX5 0 cwG_0 rfl 4 (by decide) uw_1_152 rfl rfl (tyX5_ok 4 (by decide)) rfl rfl (Nat.le_of_ble_eq_true rfl) dX5_tent_38 (cwI_0.trans (congrArg (cw q aI) e_M5)) (fun H locs I => ?_)
    refine lv_aload_n hx hb dX5_tent_41 rfl (lv_at hl 0 rfl) ?_
    refine k_get (T := TX5) (N := 5) X I inU5 0 cwG_0 rfl 1 (by decide) uw_1_149 rfl rfl dX5_tent_42 ?_
    obtain ⟨r6, h_r6, hf⟩ := k_bind hf
    refine k_callV (n := 0) (As := []) (rest := []) X I (c_X3_things h_r6) uw_2_104 uw_2_105 uw_2_106 uw_1_3 uw_2_107 ⟨rfl, rfl⟩ (by decide +kernel) rfl ⟨Nat.le_of_ble_eq_true rfl, Nat.le_of_ble_eq_true rfl⟩ ⟨Nat.le_of_ble_eq_true rfl, Nat.le_of_ble_eq_true rfl⟩ 3 cwG_3 rfl hl.1 rfl (Nat.le_of_ble_eq_true rfl) dX5_tent_45 (st1 := [.int r6]) rfl (fun H locs I => ?_)
    exact k_iret X I hr hlocks dX5_tent_48 hf
  · rw [if_pos c2] at hf
    refine lv_bipush (v := (-103)) hx hb dX5_tent_10 (by decide) ?_
    exact k_iret X I hr hlocks dX5_tent_12 hf
/-! LostTent$Tent.hasThing(I)Z -/
abbrev rm_X3_hasThing : Room := { frames := 1, cells := 0, slots := 0, locals := 21 }
def f_X3_hasThing (x1 : Int32) (M : xM) : Option Int32 :=
  (f_X5_isBelow x1 (M.1 2)).bind fun r1 =>
  xbo r1
set_option maxRecDepth 100000 in
set_option maxHeartbeats 8000000 in
theorem c_X3_hasThing {l : Launch} {D : va_G} {aI : ClassId} {q t : Nat → Nat} {x1 : Int32} {M : xM} {r : Int32} (hf : f_X3_hasThing x1 M = some r) : kM l yX3_hasThing (wk yX3_hasThing cX3_hasThing 2 (some .boolean)) rm_X3_hasThing (cw q aI) D aI t [.ref (q 3), .int x1] M (some (.int r)) M := by
  refine kM_of (by decide) (Nat.le_of_ble_eq_true rfl) ?_
  intro p e s m args below meth c A ls X hr hlocks hl I
  have hx := X.1
  have hb := X.2.1
  have hl : lv_has ls 2 [(0, .ref (q 3)), (1, .int x1)] := hl
  rw [f_X3_hasThing] at hf
  refine lv_iload_n hx hb dX3_hasThing_0 rfl (lv_at hl 1 rfl) ?_
  refine lv_aload_n hx hb dX3_hasThing_1 rfl (lv_at hl 0 rfl) ?_
  refine k_get (T := TX3) (N := 7) X I inU3 3 cwG_3 rfl 4 (by decide) uw_1_92 rfl rfl dX3_hasThing_2 ?_
  obtain ⟨r1, h_r1, hf⟩ := k_bind hf
  refine k_callSN (n := 2) (As := [.int x1, .int (M.1 2)]) (rest := []) X I (c_X5_isBelow h_r1) (List.mem_of_getElem? (i := 6) rfl) uw_1_1 uw_1_209 uw_1_210 ⟨rfl, rfl⟩ (by decide +kernel) rfl ⟨Nat.le_of_ble_eq_true rfl, Nat.le_of_ble_eq_true rfl⟩ ⟨Nat.le_of_ble_eq_true rfl, Nat.le_of_ble_eq_true rfl⟩ hl.1 rfl (Nat.le_of_ble_eq_true rfl) dX3_hasThing_5 (st1 := [.int r1]) rfl (fun H locs I => ?_)
  exact k_zretP X I hr hlocks dX3_hasThing_8 hf
/-! LostTent$Tent.signOf(II)I -/
abbrev rm_X3_signOf : Room := { frames := 1, cells := 0, slots := 0, locals := 21 }
def f_X3_signOf (x1 : Int32) (x2 : Int32) (M : xM) : Option Int32 :=
  some (xe 15 (M.2.2 1) ((x1 * (3 : Int32)) + x2))
set_option maxRecDepth 100000 in
set_option maxHeartbeats 8000000 in
theorem c_X3_signOf {l : Launch} {D : va_G} {aI : ClassId} {q t : Nat → Nat} {x1 : Int32} {x2 : Int32} {M : xM} {r : Int32} (hf : f_X3_signOf x1 x2 M = some r) : kM l yX3_signOf (wk yX3_signOf cX3_signOf 3 (some .int)) rm_X3_signOf (cw q aI) D aI t [.ref (q 3), .int x1, .int x2] M (some (.int r)) M := by
  refine kM_of (by decide) (Nat.le_of_ble_eq_true rfl) ?_
  intro p e s m args below meth c A ls X hr hlocks hl I
  have hx := X.1
  have hb := X.2.1
  have hl : lv_has ls 3 [(0, .ref (q 3)), (1, .int x1), (2, .int x2)] := hl
  rw [f_X3_signOf] at hf
  refine lv_aload_n hx hb dX3_signOf_0 rfl (lv_at hl 0 rfl) ?_
  refine k_get (T := TX3) (N := 7) X I inU3 3 cwG_3 rfl 0 (by decide) uw_1_88 rfl rfl dX3_signOf_1 ?_
  refine lv_iload_n hx hb dX3_signOf_4 rfl (lv_at hl 1 rfl) ?_
  refine lv_iconst (v := 3) hx hb dX3_signOf_5 (by decide) ?_
  refine lv_imul hx hb dX3_signOf_6 ?_
  refine lv_iload_n hx hb dX3_signOf_7 rfl (lv_at hl 2 rfl) ?_
  refine lv_iadd hx hb dX3_signOf_8 ?_
  refine k_callSN (n := 2) (As := [.ref (q 4), .int ((x1 * (3 : Int32)) + x2)]) (rest := []) X I (c_entry 4 cwG_4 (by decide)) (List.mem_of_getElem? (i := 7) rfl) uw_1_1 uw_1_198 uw_1_199 ⟨rfl, rfl⟩ (by decide +kernel) rfl ⟨Nat.le_of_ble_eq_true rfl, Nat.le_of_ble_eq_true rfl⟩ ⟨Nat.le_of_ble_eq_true rfl, Nat.le_of_ble_eq_true rfl⟩ hl.1 rfl (Nat.le_of_ble_eq_true rfl) dX3_signOf_9 (st1 := [.int (xe 15 (M.2.2 1) ((x1 * (3 : Int32)) + x2))]) rfl (fun H locs I => ?_)
  exact k_iretP X I hr hlocks dX3_signOf_12 hf
/-! LostTent$Tent.register()LLostTent$Register; -/
abbrev rm_X3_register : Room := { frames := 0, cells := 0, slots := 0, locals := 0 }
set_option maxRecDepth 100000 in
set_option maxHeartbeats 8000000 in
theorem c_X3_register {l : Launch} {D : va_G} {aI : ClassId} {q t : Nat → Nat} {M : xM} : kM l yX3_register (wk yX3_register cX3_register 1 (some (.object "LostTent$Register"))) rm_X3_register (cw q aI) D aI t [.ref (q 3)] M (some (.ref (q 6))) M := by
  refine kM_of (by decide) (Nat.le_of_ble_eq_true rfl) ?_
  intro p e s m args below meth c A ls X hr hlocks hl I
  have hx := X.1
  have hb := X.2.1
  have hl : lv_has ls 1 [(0, .ref (q 3))] := hl
  refine lv_aload_n hx hb dX3_register_0 rfl (lv_at hl 0 rfl) ?_
  refine k_get (T := TX3) (N := 7) X I inU3 3 cwG_3 rfl 2 (by decide) uw_1_90 rfl rfl dX3_register_1 ?_
  exact k_aret X I hr hlocks dX3_register_4
/-! LostTent$Register.holderOf(I)I -/
abbrev rm_X2_holderOf : Room := { frames := 1, cells := 0, slots := 0, locals := 21 }
def f_X2_holderOf (x1 : Int32) (M : xM) : Option Int32 :=
  some (xe 5 (M.2.2 3) x1)
set_option maxRecDepth 100000 in
set_option maxHeartbeats 8000000 in
theorem c_X2_holderOf {l : Launch} {D : va_G} {aI : ClassId} {q t : Nat → Nat} {x1 : Int32} {M : xM} {r : Int32} (hf : f_X2_holderOf x1 M = some r) : kM l yX2_holderOf (wk yX2_holderOf cX2_holderOf 2 (some .int)) rm_X2_holderOf (cw q aI) D aI t [.ref (q 6), .int x1] M (some (.int r)) M := by
  refine kM_of (by decide) (Nat.le_of_ble_eq_true rfl) ?_
  intro p e s m args below meth c A ls X hr hlocks hl I
  have hx := X.1
  have hb := X.2.1
  have hl : lv_has ls 2 [(0, .ref (q 6)), (1, .int x1)] := hl
  rw [f_X2_holderOf] at hf
  refine lv_aload_n hx hb dX2_holderOf_0 rfl (lv_at hl 0 rfl) ?_
  refine k_get (T := TX2) (N := 9) X I inU2 6 cwG_6 rfl 0 (by decide) uw_1_60 rfl rfl dX2_holderOf_1 ?_
  refine lv_iload_n hx hb dX2_holderOf_4 rfl (lv_at hl 1 rfl) ?_
  refine k_callSN (n := 2) (As := [.ref (q 7), .int x1]) (rest := []) X I (c_entry 7 cwG_7 (by decide)) (List.mem_of_getElem? (i := 8) rfl) uw_1_1 uw_1_198 uw_1_199 ⟨rfl, rfl⟩ (by decide +kernel) rfl ⟨Nat.le_of_ble_eq_true rfl, Nat.le_of_ble_eq_true rfl⟩ ⟨Nat.le_of_ble_eq_true rfl, Nat.le_of_ble_eq_true rfl⟩ hl.1 rfl (Nat.le_of_ble_eq_true rfl) dX2_holderOf_5 (st1 := [.int (xe 5 (M.2.2 3) x1)]) rfl (fun H locs I => ?_)
  exact k_iretP X I hr hlocks dX2_holderOf_8 hf
/-! LostTent$Tent.kindOf(I)I -/
abbrev rm_X3_kindOf : Room := { frames := 1, cells := 0, slots := 0, locals := 21 }
def f_X3_kindOf (x1 : Int32) (M : xM) : Option Int32 :=
  some (xe 3 (M.2.2 2) x1)
set_option maxRecDepth 100000 in
set_option maxHeartbeats 8000000 in
theorem c_X3_kindOf {l : Launch} {D : va_G} {aI : ClassId} {q t : Nat → Nat} {x1 : Int32} {M : xM} {r : Int32} (hf : f_X3_kindOf x1 M = some r) : kM l yX3_kindOf (wk yX3_kindOf cX3_kindOf 2 (some .int)) rm_X3_kindOf (cw q aI) D aI t [.ref (q 3), .int x1] M (some (.int r)) M := by
  refine kM_of (by decide) (Nat.le_of_ble_eq_true rfl) ?_
  intro p e s m args below meth c A ls X hr hlocks hl I
  have hx := X.1
  have hb := X.2.1
  have hl : lv_has ls 2 [(0, .ref (q 3)), (1, .int x1)] := hl
  rw [f_X3_kindOf] at hf
  refine lv_aload_n hx hb dX3_kindOf_0 rfl (lv_at hl 0 rfl) ?_
  refine k_get (T := TX3) (N := 7) X I inU3 3 cwG_3 rfl 1 (by decide) uw_1_89 rfl rfl dX3_kindOf_1 ?_
  refine lv_iload_n hx hb dX3_kindOf_4 rfl (lv_at hl 1 rfl) ?_
  refine k_callSN (n := 2) (As := [.ref (q 5), .int x1]) (rest := []) X I (c_entry 5 cwG_5 (by decide)) (List.mem_of_getElem? (i := 7) rfl) uw_1_1 uw_1_198 uw_1_199 ⟨rfl, rfl⟩ (by decide +kernel) rfl ⟨Nat.le_of_ble_eq_true rfl, Nat.le_of_ble_eq_true rfl⟩ ⟨Nat.le_of_ble_eq_true rfl, Nat.le_of_ble_eq_true rfl⟩ hl.1 rfl (Nat.le_of_ble_eq_true rfl) dX3_kindOf_5 (st1 := [.int (xe 3 (M.2.2 2) x1)]) rfl (fun H locs I => ?_)
  exact k_iretP X I hr hlocks dX3_kindOf_8 hf
/-! LostTent$Register.memoryOf(II)I -/
abbrev rm_X2_memoryOf : Room := { frames := 1, cells := 0, slots := 0, locals := 21 }
def f_X2_memoryOf (x1 : Int32) (x2 : Int32) (M : xM) : Option Int32 :=
  some (xe 9 (M.2.2 4) ((x1 * (3 : Int32)) + x2))
set_option maxRecDepth 100000 in
set_option maxHeartbeats 8000000 in
theorem c_X2_memoryOf {l : Launch} {D : va_G} {aI : ClassId} {q t : Nat → Nat} {x1 : Int32} {x2 : Int32} {M : xM} {r : Int32} (hf : f_X2_memoryOf x1 x2 M = some r) : kM l yX2_memoryOf (wk yX2_memoryOf cX2_memoryOf 3 (some .int)) rm_X2_memoryOf (cw q aI) D aI t [.ref (q 6), .int x1, .int x2] M (some (.int r)) M := by
  refine kM_of (by decide) (Nat.le_of_ble_eq_true rfl) ?_
  intro p e s m args below meth c A ls X hr hlocks hl I
  have hx := X.1
  have hb := X.2.1
  have hl : lv_has ls 3 [(0, .ref (q 6)), (1, .int x1), (2, .int x2)] := hl
  rw [f_X2_memoryOf] at hf
  refine lv_aload_n hx hb dX2_memoryOf_0 rfl (lv_at hl 0 rfl) ?_
  refine k_get (T := TX2) (N := 9) X I inU2 6 cwG_6 rfl 1 (by decide) uw_1_61 rfl rfl dX2_memoryOf_1 ?_
  refine lv_iload_n hx hb dX2_memoryOf_4 rfl (lv_at hl 1 rfl) ?_
  refine lv_iconst (v := 3) hx hb dX2_memoryOf_5 (by decide) ?_
  refine lv_imul hx hb dX2_memoryOf_6 ?_
  refine lv_iload_n hx hb dX2_memoryOf_7 rfl (lv_at hl 2 rfl) ?_
  refine lv_iadd hx hb dX2_memoryOf_8 ?_
  refine k_callSN (n := 2) (As := [.ref (q 8), .int ((x1 * (3 : Int32)) + x2)]) (rest := []) X I (c_entry 8 cwG_8 (by decide)) (List.mem_of_getElem? (i := 8) rfl) uw_1_1 uw_1_198 uw_1_199 ⟨rfl, rfl⟩ (by decide +kernel) rfl ⟨Nat.le_of_ble_eq_true rfl, Nat.le_of_ble_eq_true rfl⟩ ⟨Nat.le_of_ble_eq_true rfl, Nat.le_of_ble_eq_true rfl⟩ hl.1 rfl (Nat.le_of_ble_eq_true rfl) dX2_memoryOf_9 (st1 := [.int (xe 9 (M.2.2 4) ((x1 * (3 : Int32)) + x2))]) rfl (fun H locs I => ?_)
  exact k_iretP X I hr hlocks dX2_memoryOf_12 hf
/-! LostTent.wrongBy(IIZZ)I -/
abbrev rm_X5_wrongBy : Room := { frames := 1, cells := 0, slots := 0, locals := 21 }
def f_X5_wrongBy_b27 (x0 : Int32) (x3 : Int32) (x4 : Int32) : Option Int32 :=
  if x3 = 0 then
    some x4
  else
    some (x4 + (xe 5 (xT [2, 2, 2, 3, 2]) x0))
def f_X5_wrongBy (x0 : Int32) (x1 : Int32) (x2 : Int32) (x3 : Int32) : Option Int32 :=
  if x2 = 0 then
    f_X5_wrongBy_b27 x0 x3 ((xe 5 (xT [1, 1, 3, 0, 1]) x0) * x1)
  else
    f_X5_wrongBy_b27 x0 x3 (((xe 5 (xT [1, 1, 3, 0, 1]) x0) * x1) + (xe 5 (xT [2, 0, 2, 0, 0]) x0))
set_option maxRecDepth 100000 in
set_option maxHeartbeats 8000000 in
theorem c_X5_wrongBy {l : Launch} {D : va_G} {aI : ClassId} {q t : Nat → Nat} {x0 : Int32} {x1 : Int32} {x2 : Int32} {x3 : Int32} {M : xM} {r : Int32} (hf : f_X5_wrongBy x0 x1 x2 x3 = some r) : kM l yX5_wrongBy (wk yX5_wrongBy cX5_wrongBy 5 (some .int)) rm_X5_wrongBy (cw q aI) D aI t [.int x0, .int x1, .int x2, .int x3] M (some (.int r)) M := by
  refine kM_of (by decide) (Nat.le_of_ble_eq_true rfl) ?_
  intro p e s m args below meth c A ls X hr hlocks hl I
  have hx := X.1
  have hb := X.2.1
  have hl : lv_has ls 5 [(0, .int x0), (1, .int x1), (2, .int x2), (3, .int x3)] := hl
  have B27 : ∀ (x0 : Int32) (x3 : Int32) (x4 : Int32) (H : Heap) (locs : List Loc) (ls : Array Slot), f_X5_wrongBy_b27 x0 x3 x4 = some r → kI (cw q aI) D A s M H locs → lv_has ls 5 [(0, .int x0), (3, .int x3), (4, .int x4)] → W p l e rm_X5_wrongBy s m args below meth c H locs 0 0 (MQ below (kQ (cw q aI) D A (some (.int r)) M) args s 0 0 A) (F0 m 27 ls []) := by
    intro x0 x3 x4 H locs ls hf I hl
    rw [f_X5_wrongBy_b27] at hf
    refine lv_iload_n hx hb dX5_wrongBy_27 rfl (lv_at hl 1 rfl) ?_
    refine lv_if_eq (tgt := 43) hx hb dX5_wrongBy_28 (by decide) (fun c2 => ?_) (fun c2 => ?_)
    · rw [if_pos c2] at hf
      refine lv_iload hx hb dX5_wrongBy_43 (lv_at hl 2 rfl) ?_
      exact k_iretP X I hr hlocks dX5_wrongBy_45 hf
    · rw [if_neg c2] at hf
      refine lv_iload hx hb dX5_wrongBy_31 (lv_at hl 2 rfl) ?_
      refine k_gets X I (cZ_3 X.2.2.2.2.2.2.1) uw_2_163 rfl dX5_wrongBy_33 ?_
      refine lv_iload_n hx hb dX5_wrongBy_36 rfl (lv_at hl 0 rfl) ?_
      refine k_callS (n := 2) (As := [.ref (t 3), .int x0]) (rest := [.int x4]) X I (c_entryT cT_3 (by decide)) uw_2_160 uw_1_198 uw_1_1 uw_1_199 ⟨rfl, rfl⟩ (by decide +kernel) rfl ⟨Nat.le_of_ble_eq_true rfl, Nat.le_of_ble_eq_true rfl⟩ ⟨Nat.le_of_ble_eq_true rfl, Nat.le_of_ble_eq_true rfl⟩ hl.1 rfl (Nat.le_of_ble_eq_true rfl) dX5_wrongBy_37 (st1 := [.int (xe 5 (xT [2, 2, 2, 3, 2]) x0), .int x4]) rfl (fun H locs I => ?_)
      refine lv_iadd hx hb dX5_wrongBy_40 ?_
      refine lv_istore (lv' := [(4, .int (x4 + (xe 5 (xT [2, 2, 2, 3, 2]) x0))), (0, .int x0), (3, .int x3)]) hx hb dX5_wrongBy_41 hl (by decide) rfl (fun ls hl => ?_)
      refine lv_iload hx hb dX5_wrongBy_43 (lv_at hl 0 rfl) ?_
      exact k_iretP X I hr hlocks dX5_wrongBy_45 hf
  rw [f_X5_wrongBy] at hf
  refine k_gets X I (cZ_1 X.2.2.2.2.2.2.1) uw_2_158 rfl dX5_wrongBy_0 ?_
  refine lv_iload_n hx hb dX5_wrongBy_3 rfl (lv_at hl 0 rfl) ?_
  refine k_callS (n := 2) (As := [.ref (t 1), .int x0]) (rest := []) X I (c_entryT cT_1 (by decide)) uw_2_160 uw_1_198 uw_1_1 uw_1_199 ⟨rfl, rfl⟩ (by decide +kernel) rfl ⟨Nat.le_of_ble_eq_true rfl, Nat.le_of_ble_eq_true rfl⟩ ⟨Nat.le_of_ble_eq_true rfl, Nat.le_of_ble_eq_true rfl⟩ hl.1 rfl (Nat.le_of_ble_eq_true rfl) dX5_wrongBy_4 (st1 := [.int (xe 5 (xT [1, 1, 3, 0, 1]) x0)]) rfl (fun H locs I => ?_)
  refine lv_iload_n hx hb dX5_wrongBy_7 rfl (lv_at hl 1 rfl) ?_
  refine lv_imul hx hb dX5_wrongBy_8 ?_
  refine lv_istore (lv' := [(4, .int ((xe 5 (xT [1, 1, 3, 0, 1]) x0) * x1)), (0, .int x0), (1, .int x1), (2, .int x2), (3, .int x3)]) hx hb dX5_wrongBy_9 hl (by decide) rfl (fun ls hl => ?_)
  refine lv_iload_n hx hb dX5_wrongBy_11 rfl (lv_at hl 3 rfl) ?_
  refine lv_if_eq (tgt := 27) hx hb dX5_wrongBy_12 (by decide) (fun c1 => ?_) (fun c1 => ?_)
  · rw [if_pos c1] at hf
    exact B27 x0 x3 ((xe 5 (xT [1, 1, 3, 0, 1]) x0) * x1) _ _ ls hf I (lv_sub hl [1, 4, 0] rfl)
  · rw [if_neg c1] at hf
    refine lv_iload hx hb dX5_wrongBy_15 (lv_at hl 0 rfl) ?_
    refine k_gets X I (cZ_2 X.2.2.2.2.2.2.1) uw_2_161 rfl dX5_wrongBy_17 ?_
    refine lv_iload_n hx hb dX5_wrongBy_20 rfl (lv_at hl 1 rfl) ?_
    refine k_callS (n := 2) (As := [.ref (t 2), .int x0]) (rest := [.int ((xe 5 (xT [1, 1, 3, 0, 1]) x0) * x1)]) X I (c_entryT cT_2 (by decide)) uw_2_160 uw_1_198 uw_1_1 uw_1_199 ⟨rfl, rfl⟩ (by decide +kernel) rfl ⟨Nat.le_of_ble_eq_true rfl, Nat.le_of_ble_eq_true rfl⟩ ⟨Nat.le_of_ble_eq_true rfl, Nat.le_of_ble_eq_true rfl⟩ hl.1 rfl (Nat.le_of_ble_eq_true rfl) dX5_wrongBy_21 (st1 := [.int (xe 5 (xT [2, 0, 2, 0, 0]) x0), .int ((xe 5 (xT [1, 1, 3, 0, 1]) x0) * x1)]) rfl (fun H locs I => ?_)
    refine lv_iadd hx hb dX5_wrongBy_24 ?_
    refine lv_istore (lv' := [(4, .int (((xe 5 (xT [1, 1, 3, 0, 1]) x0) * x1) + (xe 5 (xT [2, 0, 2, 0, 0]) x0))), (0, .int x0), (1, .int x1), (2, .int x2), (3, .int x3)]) hx hb dX5_wrongBy_25 hl (by decide) rfl (fun ls hl => ?_)
    exact B27 x0 x3 (((xe 5 (xT [1, 1, 3, 0, 1]) x0) * x1) + (xe 5 (xT [2, 0, 2, 0, 0]) x0)) _ _ ls hf I (lv_sub hl [1, 4, 0] rfl)
