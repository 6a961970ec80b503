/-! ===== STRINGS: indexOf on the constant of the kinds ===== -/
def xK8 (b : Int32) : Int32 := if ¬ (99 : Int32) = b then (if ¬ (119 : Int32) = b then (if ¬ (108 : Int32) = b then (if ¬ (104 : Int32) = b then (if ¬ (110 : Int32) = b then -1 else 4) else 3) else 2) else 1) else 0
def xK (x : Int32) : Int32 := if x < 0 then -1 else if 255 < x then -1 else xK8 x.toInt8.toInt32
def xCE (x : Int32) : Int32 := if x < 0 then 0 else if 255 < x then 0 else 1
section STRS
variable {p : Program} {l : Launch} {e : Env} {R : Room} {s : State} {m : MethodId} {args : Array Value} {below : List Frame} {meth : Method} {c : Code} {H : Heap} {locs : List Loc} {cells slots : Nat} {Q : State → Prop}
variable {cc : ByteArray} {pc : Nat} {ls : Array Slot} {rest st0 : List Value} {D : va_G} {aI : ClassId} {t : Nat → Nat} {own : String} {nL : Nat} {A : Nat → Prop} {w : xM → va_W} {M M' M1 : xM}
theorem k_preK {As : List Value} (X : kX D aI t p s m args c cc own nL A) (I : kI w D A s M H locs) : PreV s H "java/lang/String" (t 5) (va_Pc (.ref (t 5) :: As) (kB w D aI t M H.size)) As := by
  obtain ⟨-, -, -, -, -, hK, hE, hA⟩ := X
  refine ⟨fun a U g mk z => ?_, vk_recv (i := 0) (cK_S hE) (by decide) I.2.2, fun U hU hW => ⟨rfl, by rw [hU], by rw [hU]; exact I.1, va_K.moved hW.alike hK, I.2.1.weaken (fun _ _ _ _ => trivial), cE_call hE hW hU I.2.2 (k_free I hA)⟩⟩
  obtain ⟨z0, z1, z2, z3, z4, z5⟩ := z
  exact ⟨z0, z1, z2, va_K.moved (u := U) (U := U.calling g mk a) (Vm.Alike.refl U.vm) z3, z4, cE_blind z5⟩
theorem k_callK {y : MethodName} {rm : Room} {bytes : ByteArray} {maxL index n : Nat} {ret : Option FieldType} {As : List Value} {rv : Option Value}
    (X : kX D aI t p s m args c cc own nL A) (I : kI w D A s M H locs) (hM : kM l y (wk y bytes maxL ret) rm w D aI t (.ref (t 5) :: As) M rv M') (h1 : Cond.methodLink own index y ∈ xU) (h2 : Cond.instanceMethod y ∈ xU) (h3 : Cond.selects "java/lang/String" y y ∈ xU) (h4 : Cond.initialized "java/lang/String" ∈ xU) (h5 : Cond.code y bytes maxL ret ∈ xU) (hrc : rm.cells = 0 ∧ rm.slots = 0)
    (hd : y.cls = "java/lang/String" ∧ y.cls ≠ "java/lang/invoke/MethodHandle" ∧ y.cls ≠ "java/lang/invoke/VarHandle" ∧ (parseMethodDescriptor y.desc).map (fun d => d.parameters.length) = some n) (hn : As.length = n) (hR : rm.frames + 1 ≤ R.frames ∧ 8 + (maxL + 11) + rm.locals ≤ R.locals) (hc0 : cells ≤ R.cells ∧ slots ≤ R.slots)
    (hls : ls.size = nL) (hst : st0 = As.reverse ++ .ref (t 5) :: rest) (hroom : (rest.map fun v => v.category).sum ≤ 8) (hdg : decode cc pc = .ok (.invokevirtual index, 3)) {st1 : List Value} (hst1 : rv.toList ++ rest = st1)
    (kk : ∀ (H1 : Heap) (locs1 : List Loc), kI w D A s M' H1 locs1 → W p l e R s m args below meth c H1 locs1 cells slots Q (F0 m (pc + 3) ls st1)) : W p l e R s m args below meth c H locs cells slots Q (F0 m pc ls st0) := by
  have hX := X
  obtain ⟨hx, hb, hml, hown, hts, hK, hE, hA⟩ := X
  subst hst1
  exact k_call (va_runV (As := As) (rest := rest) ⟨hx, hb, hml, hown, hts⟩ (hM H.size) (cwV n hts (gV h1 h2 h3 h4 h5) rfl hrc.1 hrc.2 hd hR) (k_preK hX I) rfl hn hls hst (lv_room hroom) hdg hc0) I hA kk
end STRS
section STRC
variable {l : Launch} {w : xM → va_W} {D : va_G} {aI : ClassId} {t : Nat → Nat} {M : xM}
abbrev rmK0 : Room := { frames := 0, cells := 0, slots := 0, locals := 0 }
set_option maxRecDepth 100000 in
set_option maxHeartbeats 4000000 in
theorem c_canEncode {x : Int32} : kM l yJ1_canEncode_9a6ad (wk yJ1_canEncode_9a6ad cJ1_canEncode_9a6ad 1 (some .boolean)) rmK0 w D aI t [.int x] M (some (.int (xCE x))) M := by
  refine kM_of (by decide) (Nat.le_of_ble_eq_true rfl) ?_
  intro p e s m args below meth c A ls X hr hlocks hl I
  have hx := X.1
  have hb := X.2.1
  have hS := cK_S X.2.2.2.2.2.2.1
  have hl : lv_has ls 1 [(0, .int x)] := hl
  refine lv_iload_n hx hb dJ1_canEncode_9a6ad_0 rfl (lv_at hl 0 rfl) ?_
  refine lv_if_lt (tgt := 15) hx hb dJ1_canEncode_9a6ad_1 (by decide) (fun c1 => ?_) (fun c1 => ?_)
  · refine lv_iconst (v := 0) hx hb dJ1_canEncode_9a6ad_15 (by decide) ?_
    exact k_zretP X I hr hlocks dJ1_canEncode_9a6ad_16 (by simp [xCE, xbo, c1])
  refine lv_iload_n hx hb dJ1_canEncode_9a6ad_4 rfl (lv_at hl 0 rfl) ?_
  refine lv_sipush (v := 255) hx hb dJ1_canEncode_9a6ad_5 (by decide) ?_
  refine lv_icmp_gt (tgt := 15) hx hb dJ1_canEncode_9a6ad_8 (by decide) (fun c2 => ?_) (fun c2 => ?_)
  · refine lv_iconst (v := 0) hx hb dJ1_canEncode_9a6ad_15 (by decide) ?_
    exact k_zretP X I hr hlocks dJ1_canEncode_9a6ad_16 (by simp [xCE, xbo, c1, c2])
  refine lv_iconst (v := 1) hx hb dJ1_canEncode_9a6ad_11 (by decide) ?_
  refine lv_goto (tgt := 16) hx hb dJ1_canEncode_9a6ad_12 (by decide) ?_
  exact k_zretP X I hr hlocks dJ1_canEncode_9a6ad_16 (by simp [xCE, xbo, c1, c2])
set_option maxRecDepth 100000 in
set_option maxHeartbeats 4000000 in
theorem c_coder : kM l yJ0_coder_7d493 (wk yJ0_coder_7d493 cJ0_coder_7d493 1 (some .byte)) rmK0 w D aI t [.ref (t 5)] M (some (.int 0)) M := by
  refine kM_of (by decide) (Nat.le_of_ble_eq_true rfl) ?_
  intro p e s m args below meth c A ls X hr hlocks hl I
  have hx := X.1
  have hb := X.2.1
  have hS := cK_S X.2.2.2.2.2.2.1
  have hl : lv_has ls 1 [(0, .ref (t 5))] := hl
  refine k_gets X I (cZ_S X.2.2.2.2.2.2.1) uw_1_230 rfl dJ0_coder_7d493_0 ?_
  refine lv_if_eq (tgt := 13) hx hb dJ0_coder_7d493_3 (by decide) (fun c1 => ?_) (fun c1 => ?_)
  · exact absurd c1 (by decide)
  refine lv_aload_n hx hb dJ0_coder_7d493_6 rfl (lv_at hl 0 rfl) ?_
  refine vk_getf hx hb (hS.1 0 (by decide)).2.1 I.2.2 X.2.2.2.1 (X.2.2.2.2.1 _ uw_5_41) (fun _ h => h) dJ0_coder_7d493_7 ?_
  refine lv_goto (tgt := 14) hx hb dJ0_coder_7d493_10 (by decide) ?_
  exact W.zret (v := 0) hx hb hr (by decide) (fun u hu hW => ⟨⟨rfl, by rw [hu]; exact I.1, I.2.1⟩, I.2.2.F hu⟩) I.2.2.2.2 dJ0_coder_7d493_14 hlocks
set_option maxRecDepth 100000 in
set_option maxHeartbeats 4000000 in
theorem c_isLatin1 : kM l yJ0_isLatin1_aae02 (wk yJ0_isLatin1_aae02 cJ0_isLatin1_aae02 1 (some .boolean)) rmK0 w D aI t [.ref (t 5)] M (some (.int 1)) M := by
  refine kM_of (by decide) (Nat.le_of_ble_eq_true rfl) ?_
  intro p e s m args below meth c A ls X hr hlocks hl I
  have hx := X.1
  have hb := X.2.1
  have hS := cK_S X.2.2.2.2.2.2.1
  have hl : lv_has ls 1 [(0, .ref (t 5))] := hl
  refine k_gets X I (cZ_S X.2.2.2.2.2.2.1) uw_1_230 rfl dJ0_isLatin1_aae02_0 ?_
  refine lv_if_eq (tgt := 17) hx hb dJ0_isLatin1_aae02_3 (by decide) (fun c1 => ?_) (fun c1 => ?_)
  · exact absurd c1 (by decide)
  refine lv_aload_n hx hb dJ0_isLatin1_aae02_6 rfl (lv_at hl 0 rfl) ?_
  refine vk_getf hx hb (hS.1 0 (by decide)).2.1 I.2.2 X.2.2.2.1 (X.2.2.2.2.1 _ uw_5_41) (fun _ h => h) dJ0_isLatin1_aae02_7 ?_
  refine lv_if_ne (tgt := 17) hx hb dJ0_isLatin1_aae02_10 (by decide) (fun c2 => ?_) (fun c2 => ?_)
  · exact absurd rfl c2
  refine lv_iconst (v := 1) hx hb dJ0_isLatin1_aae02_13 (by decide) ?_
  refine lv_goto (tgt := 18) hx hb dJ0_isLatin1_aae02_14 (by decide) ?_
  exact k_zretP X I hr hlocks dJ0_isLatin1_aae02_18 (by simp [xbo])
abbrev rmK1 : Room := { frames := 1, cells := 0, slots := 0, locals := 40 }
set_option maxRecDepth 100000 in
set_option maxHeartbeats 4000000 in
theorem c_strlen : kM l yJ0_length_8abf5 (wk yJ0_length_8abf5 cJ0_length_8abf5 1 (some .int)) rmK1 w D aI t [.ref (t 5)] M (some (.int 5)) M := by
  refine kM_of (by decide) (Nat.le_of_ble_eq_true rfl) ?_
  intro p e s m args below meth c A ls X hr hlocks hl I
  have hx := X.1
  have hb := X.2.1
  have hS := cK_S X.2.2.2.2.2.2.1
  have hl : lv_has ls 1 [(0, .ref (t 5))] := hl
  refine lv_aload_n hx hb dJ0_length_8abf5_0 rfl (lv_at hl 0 rfl) ?_
  refine vk_getf hx hb (hS.1 0 (by decide)).2.2.1 I.2.2 X.2.2.2.1 (X.2.2.2.2.1 _ uw_5_42) (fun _ h => h) dJ0_length_8abf5_1 ?_
  refine va_tlen hx hb (hS.1 0 (by decide)).2.2.2 I.2.2 (v := 5) rfl dJ0_length_8abf5_4 ?_
  refine lv_aload_n hx hb dJ0_length_8abf5_5 rfl (lv_at hl 0 rfl) ?_
  refine k_callK (n := 0) (As := []) (rest := [.int 5]) X I c_coder uw_1_236 uw_1_237 uw_1_238 uw_1_8 uw_1_239 ⟨rfl, rfl⟩ (by decide +kernel) rfl ⟨Nat.le_of_ble_eq_true rfl, Nat.le_of_ble_eq_true rfl⟩ ⟨Nat.le_of_ble_eq_true rfl, Nat.le_of_ble_eq_true rfl⟩ hl.1 rfl (Nat.le_of_ble_eq_true rfl) dJ0_length_8abf5_6 (st1 := [.int 0, .int 5]) rfl (fun H locs I => ?_)
  refine lv_ishr hx hb dJ0_length_8abf5_9 ?_
  exact k_iretP X I hr hlocks dJ0_length_8abf5_10 (by decide)
set_option maxRecDepth 100000 in
set_option maxHeartbeats 4000000 in
theorem c_ioc {x : Int32} : kM l yJ1_indexOfChar_4cfef (wk yJ1_indexOfChar_4cfef cJ1_indexOfChar_4cfef 6 (some .int)) rmK0 w D aI t [.ref (t 6), .int x, .int 0, .int 5] M (some (.int (xK8 x.toInt8.toInt32))) M := by
  refine kM_of (by decide) (Nat.le_of_ble_eq_true rfl) ?_
  intro p e s m args below meth c A ls X hr hlocks hl I
  have hx := X.1
  have hb := X.2.1
  have hS := cK_S X.2.2.2.2.2.2.1
  have hl : lv_has ls 6 [(0, .ref (t 6)), (1, .int x), (2, .int 0), (3, .int 5)] := hl
  have hT := (hS.1 0 (by decide)).2.2.2
  have L5 : ¬ (99 : Int32) = x.toInt8.toInt32 → ¬ (119 : Int32) = x.toInt8.toInt32 → ¬ (108 : Int32) = x.toInt8.toInt32 → ¬ (104 : Int32) = x.toInt8.toInt32 → ¬ (110 : Int32) = x.toInt8.toInt32 → ∀ ls : Array Slot, lv_has ls 6 [(5, .int 5), (0, .ref (t 6)), (3, .int 5), (4, .int x.toInt8.toInt32)] → W p l e rmK0 s m args below meth c s.heap [] 0 0 (MQ below (kQ w D A (some (.int (xK8 x.toInt8.toInt32))) M) args s 0 0 A) (F0 m 7 ls []) := by
    intro n0 n1 n2 n3 n4 ls hl
    refine lv_iload hx hb dJ1_indexOfChar_4cfef_7 (lv_at hl 0 rfl) ?_
    refine lv_iload_n hx hb dJ1_indexOfChar_4cfef_9 rfl (lv_at hl 2 rfl) ?_
    refine lv_icmp_ge (tgt := 31) hx hb dJ1_indexOfChar_4cfef_10 (by decide) (fun c1 => ?_) (fun c1 => ?_)
    · refine lv_iconst (v := -1) hx hb dJ1_indexOfChar_4cfef_31 (by decide) ?_
      exact k_iretP X I hr hlocks dJ1_indexOfChar_4cfef_32 (by rw [xK8, if_pos n0, if_pos n1, if_pos n2, if_pos n3, if_pos n4])
    · exact absurd (by decide) c1
  have L4 : ¬ (99 : Int32) = x.toInt8.toInt32 → ¬ (119 : Int32) = x.toInt8.toInt32 → ¬ (108 : Int32) = x.toInt8.toInt32 → ¬ (104 : Int32) = x.toInt8.toInt32 → ∀ ls : Array Slot, lv_has ls 6 [(5, .int 4), (0, .ref (t 6)), (3, .int 5), (4, .int x.toInt8.toInt32)] → W p l e rmK0 s m args below meth c s.heap [] 0 0 (MQ below (kQ w D A (some (.int (xK8 x.toInt8.toInt32))) M) args s 0 0 A) (F0 m 7 ls []) := by
    intro n0 n1 n2 n3 ls hl
    refine lv_iload hx hb dJ1_indexOfChar_4cfef_7 (lv_at hl 0 rfl) ?_
    refine lv_iload_n hx hb dJ1_indexOfChar_4cfef_9 rfl (lv_at hl 2 rfl) ?_
    refine lv_icmp_ge (tgt := 31) hx hb dJ1_indexOfChar_4cfef_10 (by decide) (fun c1 => ?_) (fun c1 => ?_)
    · exact absurd c1 (by decide)
    refine lv_aload_n hx hb dJ1_indexOfChar_4cfef_13 rfl (lv_at hl 1 rfl) ?_
    refine lv_iload hx hb dJ1_indexOfChar_4cfef_14 (lv_at hl 0 rfl) ?_
    refine va_tb hx hb hT I.2.2 (i := 4) (by unfold vp_in; decide) (v := .int 110) (by rfl) dJ1_indexOfChar_4cfef_16 ?_
    refine lv_iload hx hb dJ1_indexOfChar_4cfef_17 (lv_at hl 3 rfl) ?_
    refine lv_icmp_ne (tgt := 25) hx hb dJ1_indexOfChar_4cfef_19 (by decide) (fun c2 => ?_) (fun c2 => ?_)
    · refine lv_iinc (v := 5) (lv' := [(5, .int 5), (0, .ref (t 6)), (3, .int 5), (4, .int x.toInt8.toInt32)]) hx hb dJ1_indexOfChar_4cfef_25 hl (k := 0) rfl (by decide) (by decide) rfl (fun ls hl => ?_)
      refine lv_goto (tgt := 7) hx hb dJ1_indexOfChar_4cfef_28 (by decide) ?_
      exact L5 n0 n1 n2 n3 c2 ls hl
    · have cx : ¬ ¬ (110 : Int32) = x.toInt8.toInt32 := fun h => h c2
      refine lv_iload hx hb dJ1_indexOfChar_4cfef_22 (lv_at hl 0 rfl) ?_
      exact k_iretP X I hr hlocks dJ1_indexOfChar_4cfef_24 (by rw [xK8, if_pos n0, if_pos n1, if_pos n2, if_pos n3, if_neg cx])
  have L3 : ¬ (99 : Int32) = x.toInt8.toInt32 → ¬ (119 : Int32) = x.toInt8.toInt32 → ¬ (108 : Int32) = x.toInt8.toInt32 → ∀ ls : Array Slot, lv_has ls 6 [(5, .int 3), (0, .ref (t 6)), (3, .int 5), (4, .int x.toInt8.toInt32)] → W p l e rmK0 s m args below meth c s.heap [] 0 0 (MQ below (kQ w D A (some (.int (xK8 x.toInt8.toInt32))) M) args s 0 0 A) (F0 m 7 ls []) := by
    intro n0 n1 n2 ls hl
    refine lv_iload hx hb dJ1_indexOfChar_4cfef_7 (lv_at hl 0 rfl) ?_
    refine lv_iload_n hx hb dJ1_indexOfChar_4cfef_9 rfl (lv_at hl 2 rfl) ?_
    refine lv_icmp_ge (tgt := 31) hx hb dJ1_indexOfChar_4cfef_10 (by decide) (fun c1 => ?_) (fun c1 => ?_)
    · exact absurd c1 (by decide)
    refine lv_aload_n hx hb dJ1_indexOfChar_4cfef_13 rfl (lv_at hl 1 rfl) ?_
    refine lv_iload hx hb dJ1_indexOfChar_4cfef_14 (lv_at hl 0 rfl) ?_
    refine va_tb hx hb hT I.2.2 (i := 3) (by unfold vp_in; decide) (v := .int 104) (by rfl) dJ1_indexOfChar_4cfef_16 ?_
    refine lv_iload hx hb dJ1_indexOfChar_4cfef_17 (lv_at hl 3 rfl) ?_
    refine lv_icmp_ne (tgt := 25) hx hb dJ1_indexOfChar_4cfef_19 (by decide) (fun c2 => ?_) (fun c2 => ?_)
    · refine lv_iinc (v := 4) (lv' := [(5, .int 4), (0, .ref (t 6)), (3, .int 5), (4, .int x.toInt8.toInt32)]) hx hb dJ1_indexOfChar_4cfef_25 hl (k := 0) rfl (by decide) (by decide) rfl (fun ls hl => ?_)
      refine lv_goto (tgt := 7) hx hb dJ1_indexOfChar_4cfef_28 (by decide) ?_
      exact L4 n0 n1 n2 c2 ls hl
    · have cx : ¬ ¬ (104 : Int32) = x.toInt8.toInt32 := fun h => h c2
      refine lv_iload hx hb dJ1_indexOfChar_4cfef_22 (lv_at hl 0 rfl) ?_
      exact k_iretP X I hr hlocks dJ1_indexOfChar_4cfef_24 (by rw [xK8, if_pos n0, if_pos n1, if_pos n2, if_neg cx])
  have L2 : ¬ (99 : Int32) = x.toInt8.toInt32 → ¬ (119 : Int32) = x.toInt8.toInt32 → ∀ ls : Array Slot, lv_has ls 6 [(5, .int 2), (0, .ref (t 6)), (3, .int 5), (4, .int x.toInt8.toInt32)] → W p l e rmK0 s m args below meth c s.heap [] 0 0 (MQ below (kQ w D A (some (.int (xK8 x.toInt8.toInt32))) M) args s 0 0 A) (F0 m 7 ls []) := by
    intro n0 n1 ls hl
    refine lv_iload hx hb dJ1_indexOfChar_4cfef_7 (lv_at hl 0 rfl) ?_
    refine lv_iload_n hx hb dJ1_indexOfChar_4cfef_9 rfl (lv_at hl 2 rfl) ?_
    refine lv_icmp_ge (tgt := 31) hx hb dJ1_indexOfChar_4cfef_10 (by decide) (fun c1 => ?_) (fun c1 => ?_)
    · exact absurd c1 (by decide)
    refine lv_aload_n hx hb dJ1_indexOfChar_4cfef_13 rfl (lv_at hl 1 rfl) ?_
    refine lv_iload hx hb dJ1_indexOfChar_4cfef_14 (lv_at hl 0 rfl) ?_
    refine va_tb hx hb hT I.2.2 (i := 2) (by unfold vp_in; decide) (v := .int 108) (by rfl) dJ1_indexOfChar_4cfef_16 ?_
    refine lv_iload hx hb dJ1_indexOfChar_4cfef_17 (lv_at hl 3 rfl) ?_
    refine lv_icmp_ne (tgt := 25) hx hb dJ1_indexOfChar_4cfef_19 (by decide) (fun c2 => ?_) (fun c2 => ?_)
    · refine lv_iinc (v := 3) (lv' := [(5, .int 3), (0, .ref (t 6)), (3, .int 5), (4, .int x.toInt8.toInt32)]) hx hb dJ1_indexOfChar_4cfef_25 hl (k := 0) rfl (by decide) (by decide) rfl (fun ls hl => ?_)
      refine lv_goto (tgt := 7) hx hb dJ1_indexOfChar_4cfef_28 (by decide) ?_
      exact L3 n0 n1 c2 ls hl
    · have cx : ¬ ¬ (108 : Int32) = x.toInt8.toInt32 := fun h => h c2
      refine lv_iload hx hb dJ1_indexOfChar_4cfef_22 (lv_at hl 0 rfl) ?_
      exact k_iretP X I hr hlocks dJ1_indexOfChar_4cfef_24 (by rw [xK8, if_pos n0, if_pos n1, if_neg cx])
  have L1 : ¬ (99 : Int32) = x.toInt8.toInt32 → ∀ ls : Array Slot, lv_has ls 6 [(5, .int 1), (0, .ref (t 6)), (3, .int 5), (4, .int x.toInt8.toInt32)] → W p l e rmK0 s m args below meth c s.heap [] 0 0 (MQ below (kQ w D A (some (.int (xK8 x.toInt8.toInt32))) M) args s 0 0 A) (F0 m 7 ls []) := by
    intro n0 ls hl
    refine lv_iload hx hb dJ1_indexOfChar_4cfef_7 (lv_at hl 0 rfl) ?_
    refine lv_iload_n hx hb dJ1_indexOfChar_4cfef_9 rfl (lv_at hl 2 rfl) ?_
    refine lv_icmp_ge (tgt := 31) hx hb dJ1_indexOfChar_4cfef_10 (by decide) (fun c1 => ?_) (fun c1 => ?_)
    · exact absurd c1 (by decide)
    refine lv_aload_n hx hb dJ1_indexOfChar_4cfef_13 rfl (lv_at hl 1 rfl) ?_
    refine lv_iload hx hb dJ1_indexOfChar_4cfef_14 (lv_at hl 0 rfl) ?_
    refine va_tb hx hb hT I.2.2 (i := 1) (by unfold vp_in; decide) (v := .int 119) (by rfl) dJ1_indexOfChar_4cfef_16 ?_
    refine lv_iload hx hb dJ1_indexOfChar_4cfef_17 (lv_at hl 3 rfl) ?_
    refine lv_icmp_ne (tgt := 25) hx hb dJ1_indexOfChar_4cfef_19 (by decide) (fun c2 => ?_) (fun c2 => ?_)
    · refine lv_iinc (v := 2) (lv' := [(5, .int 2), (0, .ref (t 6)), (3, .int 5), (4, .int x.toInt8.toInt32)]) hx hb dJ1_indexOfChar_4cfef_25 hl (k := 0) rfl (by decide) (by decide) rfl (fun ls hl => ?_)
      refine lv_goto (tgt := 7) hx hb dJ1_indexOfChar_4cfef_28 (by decide) ?_
      exact L2 n0 c2 ls hl
    · have cx : ¬ ¬ (119 : Int32) = x.toInt8.toInt32 := fun h => h c2
      refine lv_iload hx hb dJ1_indexOfChar_4cfef_22 (lv_at hl 0 rfl) ?_
      exact k_iretP X I hr hlocks dJ1_indexOfChar_4cfef_24 (by rw [xK8, if_pos n0, if_neg cx])
  have L0 : ∀ ls : Array Slot, lv_has ls 6 [(5, .int 0), (0, .ref (t 6)), (3, .int 5), (4, .int x.toInt8.toInt32)] → W p l e rmK0 s m args below meth c s.heap [] 0 0 (MQ below (kQ w D A (some (.int (xK8 x.toInt8.toInt32))) M) args s 0 0 A) (F0 m 7 ls []) := by
    intro  ls hl
    refine lv_iload hx hb dJ1_indexOfChar_4cfef_7 (lv_at hl 0 rfl) ?_
    refine lv_iload_n hx hb dJ1_indexOfChar_4cfef_9 rfl (lv_at hl 2 rfl) ?_
    refine lv_icmp_ge (tgt := 31) hx hb dJ1_indexOfChar_4cfef_10 (by decide) (fun c1 => ?_) (fun c1 => ?_)
    · exact absurd c1 (by decide)
    refine lv_aload_n hx hb dJ1_indexOfChar_4cfef_13 rfl (lv_at hl 1 rfl) ?_
    refine lv_iload hx hb dJ1_indexOfChar_4cfef_14 (lv_at hl 0 rfl) ?_
    refine va_tb hx hb hT I.2.2 (i := 0) (by unfold vp_in; decide) (v := .int 99) (by rfl) dJ1_indexOfChar_4cfef_16 ?_
    refine lv_iload hx hb dJ1_indexOfChar_4cfef_17 (lv_at hl 3 rfl) ?_
    refine lv_icmp_ne (tgt := 25) hx hb dJ1_indexOfChar_4cfef_19 (by decide) (fun c2 => ?_) (fun c2 => ?_)
    · refine lv_iinc (v := 1) (lv' := [(5, .int 1), (0, .ref (t 6)), (3, .int 5), (4, .int x.toInt8.toInt32)]) hx hb dJ1_indexOfChar_4cfef_25 hl (k := 0) rfl (by decide) (by decide) rfl (fun ls hl => ?_)
      refine lv_goto (tgt := 7) hx hb dJ1_indexOfChar_4cfef_28 (by decide) ?_
      exact L1  c2 ls hl
    · have cx : ¬ ¬ (99 : Int32) = x.toInt8.toInt32 := fun h => h c2
      refine lv_iload hx hb dJ1_indexOfChar_4cfef_22 (lv_at hl 0 rfl) ?_
      exact k_iretP X I hr hlocks dJ1_indexOfChar_4cfef_24 (by rw [xK8, if_neg cx])
  refine lv_iload_n hx hb dJ1_indexOfChar_4cfef_0 rfl (lv_at hl 1 rfl) ?_
  refine lv_i2b hx hb dJ1_indexOfChar_4cfef_1 rfl ?_
  refine lv_istore (lv' := [(4, .int x.toInt8.toInt32), (0, .ref (t 6)), (1, .int x), (2, .int 0), (3, .int 5)]) hx hb dJ1_indexOfChar_4cfef_2 hl (by decide) rfl (fun ls hl => ?_)
  refine lv_iload_n hx hb dJ1_indexOfChar_4cfef_4 rfl (lv_at hl 3 rfl) ?_
  refine lv_istore (lv' := [(5, .int 0), (4, .int x.toInt8.toInt32), (0, .ref (t 6)), (1, .int x), (2, .int 0), (3, .int 5)]) hx hb dJ1_indexOfChar_4cfef_5 hl (by decide) rfl (fun ls hl => ?_)
  exact L0 ls (lv_sub hl [0, 2, 5, 1] rfl)
abbrev rmK2 : Room := { frames := 1, cells := 0, slots := 0, locals := 40 }
set_option maxRecDepth 100000 in
set_option maxHeartbeats 4000000 in
theorem c_io4 {x : Int32} : kM l yJ1_indexOf_4cfef (wk yJ1_indexOf_4cfef cJ1_indexOf_4cfef 4 (some .int)) rmK2 w D aI t [.ref (t 6), .int x, .int 0, .int 5] M (some (.int (xK x))) M := by
  refine kM_of (by decide) (Nat.le_of_ble_eq_true rfl) ?_
  intro p e s m args below meth c A ls X hr hlocks hl I
  have hx := X.1
  have hb := X.2.1
  have hS := cK_S X.2.2.2.2.2.2.1
  have hl : lv_has ls 4 [(0, .ref (t 6)), (1, .int x), (2, .int 0), (3, .int 5)] := hl
  refine lv_iload_n hx hb dJ1_indexOf_4cfef_0 rfl (lv_at hl 1 rfl) ?_
  refine k_callS (n := 1) (As := [.int x]) (rest := []) X I (c_canEncode (x := x)) uw_2_3 uw_2_4 uw_1_9 uw_2_5 ⟨rfl, rfl⟩ (by decide +kernel) rfl ⟨Nat.le_of_ble_eq_true rfl, Nat.le_of_ble_eq_true rfl⟩ ⟨Nat.le_of_ble_eq_true rfl, Nat.le_of_ble_eq_true rfl⟩ hl.1 rfl (Nat.le_of_ble_eq_true rfl) dJ1_indexOf_4cfef_1 (st1 := [.int (xCE x)]) rfl (fun H locs I => ?_)
  refine lv_if_ne (tgt := 9) hx hb dJ1_indexOf_4cfef_4 (by decide) (fun c1 => ?_) (fun c1 => ?_)
  · have hx0 : ¬ x < 0 := fun h => c1 (by simp [xCE, h])
    have hx1 : ¬ 255 < x := fun h => c1 (by simp [xCE, hx0, h])
    refine lv_iload_n hx hb dJ1_indexOf_4cfef_9 rfl (lv_at hl 2 rfl) ?_
    refine lv_iconst (v := 0) hx hb dJ1_indexOf_4cfef_10 (by decide) ?_
    refine k_mmax (rest := []) X hl.1 uw_2_6 ⟨Nat.le_of_ble_eq_true rfl, Nat.le_of_ble_eq_true rfl⟩ (Nat.le_of_ble_eq_true rfl) ⟨Nat.le_of_ble_eq_true rfl, Nat.le_of_ble_eq_true rfl⟩ dJ1_indexOf_4cfef_11 ?_
    refine lv_istore_n (lv' := [(2, .int (if (0 : Int32) < 0 then 0 else 0)), (0, .ref (t 6)), (1, .int x), (3, .int 5)]) hx hb dJ1_indexOf_4cfef_14 rfl hl (by decide) rfl (fun ls hl => ?_)
    refine lv_iload_n hx hb dJ1_indexOf_4cfef_15 rfl (lv_at hl 3 rfl) ?_
    refine lv_aload_n hx hb dJ1_indexOf_4cfef_16 rfl (lv_at hl 1 rfl) ?_
    refine va_tlen hx hb (hS.1 0 (by decide)).2.2.2 I.2.2 (v := 5) rfl dJ1_indexOf_4cfef_17 ?_
    refine k_mmin (rest := []) X hl.1 uw_2_9 ⟨Nat.le_of_ble_eq_true rfl, Nat.le_of_ble_eq_true rfl⟩ (Nat.le_of_ble_eq_true rfl) ⟨Nat.le_of_ble_eq_true rfl, Nat.le_of_ble_eq_true rfl⟩ dJ1_indexOf_4cfef_18 ?_
    refine lv_istore_n (lv' := [(3, .int (if (5 : Int32) < 5 then 5 else 5)), (2, .int (if (0 : Int32) < 0 then 0 else 0)), (0, .ref (t 6)), (1, .int x)]) hx hb dJ1_indexOf_4cfef_21 rfl hl (by decide) rfl (fun ls hl => ?_)
    have e0 : (if (0 : Int32) < 0 then (0 : Int32) else 0) = 0 := by decide
    have e5 : (if (5 : Int32) < 5 then (5 : Int32) else 5) = 5 := by decide
    rw [e0, e5] at hl
    refine lv_iload_n hx hb dJ1_indexOf_4cfef_22 rfl (lv_at hl 1 rfl) ?_
    refine lv_iload_n hx hb dJ1_indexOf_4cfef_23 rfl (lv_at hl 0 rfl) ?_
    refine lv_icmp_lt (tgt := 29) hx hb dJ1_indexOf_4cfef_24 (by decide) (fun c2 => ?_) (fun c2 => ?_)
    · refine lv_aload_n hx hb dJ1_indexOf_4cfef_29 rfl (lv_at hl 2 rfl) ?_
      refine lv_iload_n hx hb dJ1_indexOf_4cfef_30 rfl (lv_at hl 3 rfl) ?_
      refine lv_iload_n hx hb dJ1_indexOf_4cfef_31 rfl (lv_at hl 1 rfl) ?_
      refine lv_iload_n hx hb dJ1_indexOf_4cfef_32 rfl (lv_at hl 0 rfl) ?_
      refine k_callS (n := 4) (As := [.ref (t 6), .int x, .int 0, .int 5]) (rest := []) X I (c_ioc (x := x)) uw_2_12 uw_2_13 uw_1_9 uw_2_14 ⟨rfl, rfl⟩ (by decide +kernel) rfl ⟨Nat.le_of_ble_eq_true rfl, Nat.le_of_ble_eq_true rfl⟩ ⟨Nat.le_of_ble_eq_true rfl, Nat.le_of_ble_eq_true rfl⟩ hl.1 rfl (Nat.le_of_ble_eq_true rfl) dJ1_indexOf_4cfef_33 (st1 := [.int (xK8 x.toInt8.toInt32)]) rfl (fun H locs I => ?_)
      exact k_iretP X I hr hlocks dJ1_indexOf_4cfef_36 (by rw [xK, if_neg hx0, if_neg hx1])
    · exact absurd (by decide) c2
  · refine lv_iconst (v := -1) hx hb dJ1_indexOf_4cfef_7 (by decide) ?_
    refine k_iretP X I hr hlocks dJ1_indexOf_4cfef_8 ?_
    by_cases h0 : x < 0
    · rw [xK, if_pos h0]
    · by_cases h1 : 255 < x
      · rw [xK, if_neg h0, if_pos h1]
      · exact absurd c1 (by simp [xCE, h0, h1])
abbrev rmK3 : Room := { frames := 2, cells := 0, slots := 0, locals := 80 }
set_option maxRecDepth 100000 in
set_option maxHeartbeats 4000000 in
theorem c_io2 {x : Int32} : kM l yJ0_indexOf_7cf53 (wk yJ0_indexOf_7cf53 cJ0_indexOf_7cf53 3 (some .int)) rmK3 w D aI t [.ref (t 5), .int x, .int 0] M (some (.int (xK x))) M := by
  refine kM_of (by decide) (Nat.le_of_ble_eq_true rfl) ?_
  intro p e s m args below meth c A ls X hr hlocks hl I
  have hx := X.1
  have hb := X.2.1
  have hS := cK_S X.2.2.2.2.2.2.1
  have hl : lv_has ls 3 [(0, .ref (t 5)), (1, .int x), (2, .int 0)] := hl
  refine lv_aload_n hx hb dJ0_indexOf_7cf53_0 rfl (lv_at hl 0 rfl) ?_
  refine k_callK (n := 0) (As := []) (rest := []) X I c_isLatin1 uw_1_226 uw_1_227 uw_1_228 uw_1_8 uw_1_229 ⟨rfl, rfl⟩ (by decide +kernel) rfl ⟨Nat.le_of_ble_eq_true rfl, Nat.le_of_ble_eq_true rfl⟩ ⟨Nat.le_of_ble_eq_true rfl, Nat.le_of_ble_eq_true rfl⟩ hl.1 rfl (Nat.le_of_ble_eq_true rfl) dJ0_indexOf_7cf53_1 (st1 := [.int 1]) rfl (fun H locs I => ?_)
  refine lv_if_eq (tgt := 23) hx hb dJ0_indexOf_7cf53_4 (by decide) (fun c1 => ?_) (fun c1 => ?_)
  · exact absurd c1 (by decide)
  refine lv_aload_n hx hb dJ0_indexOf_7cf53_7 rfl (lv_at hl 0 rfl) ?_
  refine vk_getf hx hb (hS.1 0 (by decide)).2.2.1 I.2.2 X.2.2.2.1 (X.2.2.2.2.1 _ uw_5_42) (fun _ h => h) dJ0_indexOf_7cf53_8 ?_
  refine lv_iload_n hx hb dJ0_indexOf_7cf53_11 rfl (lv_at hl 1 rfl) ?_
  refine lv_iload_n hx hb dJ0_indexOf_7cf53_12 rfl (lv_at hl 2 rfl) ?_
  refine lv_aload_n hx hb dJ0_indexOf_7cf53_13 rfl (lv_at hl 0 rfl) ?_
  refine k_callK (n := 0) (As := []) (rest := [.int 0, .int x, .ref (t 6)]) X I c_strlen uw_1_232 uw_1_233 uw_1_234 uw_1_8 uw_1_235 ⟨rfl, rfl⟩ (by decide +kernel) rfl ⟨Nat.le_of_ble_eq_true rfl, Nat.le_of_ble_eq_true rfl⟩ ⟨Nat.le_of_ble_eq_true rfl, Nat.le_of_ble_eq_true rfl⟩ hl.1 rfl (Nat.le_of_ble_eq_true rfl) dJ0_indexOf_7cf53_14 (st1 := [.int 5, .int 0, .int x, .ref (t 6)]) rfl (fun H locs I => ?_)
  refine k_callS (n := 4) (As := [.ref (t 6), .int x, .int 0, .int 5]) (rest := []) X I (c_io4 (x := x)) uw_2_0 uw_2_1 uw_1_9 uw_2_2 ⟨rfl, rfl⟩ (by decide +kernel) rfl ⟨Nat.le_of_ble_eq_true rfl, Nat.le_of_ble_eq_true rfl⟩ ⟨Nat.le_of_ble_eq_true rfl, Nat.le_of_ble_eq_true rfl⟩ hl.1 rfl (Nat.le_of_ble_eq_true rfl) dJ0_indexOf_7cf53_17 (st1 := [.int (xK x)]) rfl (fun H locs I => ?_)
  refine lv_goto (tgt := 36) hx hb dJ0_indexOf_7cf53_20 (by decide) ?_
  exact k_iretP X I hr hlocks dJ0_indexOf_7cf53_36 rfl
abbrev rmK4 : Room := { frames := 3, cells := 0, slots := 0, locals := 120 }
set_option maxRecDepth 100000 in
set_option maxHeartbeats 4000000 in
theorem c_io1 {x : Int32} : kM l yJ0_indexOf_0f7a4 (wk yJ0_indexOf_0f7a4 cJ0_indexOf_0f7a4 2 (some .int)) rmK4 w D aI t [.ref (t 5), .int x] M (some (.int (xK x))) M := by
  refine kM_of (by decide) (Nat.le_of_ble_eq_true rfl) ?_
  intro p e s m args below meth c A ls X hr hlocks hl I
  have hx := X.1
  have hb := X.2.1
  have hS := cK_S X.2.2.2.2.2.2.1
  have hl : lv_has ls 2 [(0, .ref (t 5)), (1, .int x)] := hl
  refine lv_aload_n hx hb dJ0_indexOf_0f7a4_0 rfl (lv_at hl 0 rfl) ?_
  refine lv_iload_n hx hb dJ0_indexOf_0f7a4_1 rfl (lv_at hl 1 rfl) ?_
  refine lv_iconst (v := 0) hx hb dJ0_indexOf_0f7a4_2 (by decide) ?_
  refine k_callK (n := 2) (As := [.int x, .int 0]) (rest := []) X I (c_io2 (x := x)) uw_1_222 uw_1_223 uw_1_224 uw_1_8 uw_1_225 ⟨rfl, rfl⟩ (by decide +kernel) rfl ⟨Nat.le_of_ble_eq_true rfl, Nat.le_of_ble_eq_true rfl⟩ ⟨Nat.le_of_ble_eq_true rfl, Nat.le_of_ble_eq_true rfl⟩ hl.1 rfl (Nat.le_of_ble_eq_true rfl) dJ0_indexOf_0f7a4_3 (st1 := [.int (xK x)]) rfl (fun H locs I => ?_)
  exact k_iretP X I hr hlocks dJ0_indexOf_0f7a4_6 rfl
end STRC
theorem k_idx {p : Program} {l : Launch} {e : Env} {R : Room} {s : State} {m : MethodId} {args : Array Value} {below : List Frame} {meth : Method} {c : Code} {H : Heap} {locs : List Loc} {cells slots : Nat} {Q : State → Prop} {cc : ByteArray} {pc : Nat} {ls : Array Slot} {rest : List Value} {D : va_G} {aI : ClassId} {t : Nat → Nat} {nL : Nat} {A : Nat → Prop} {w : xM → va_W} {M : xM} {x : Int32}
    (X : kX D aI t p s m args c cc yX1_kindOfLetter.cls nL A) (I : kI w D A s M H locs) (hls : ls.size = nL) (hR : 4 ≤ R.frames ∧ 171 ≤ R.locals) (hc0 : cells ≤ R.cells ∧ slots ≤ R.slots) (hroom : (rest.map fun v => v.category).sum ≤ 8) (hdg : decode cc pc = .ok (.invokevirtual 56, 3))
    (kk : ∀ (H1 : Heap) (locs1 : List Loc), kI w D A s M H1 locs1 → W p l e R s m args below meth c H1 locs1 cells slots Q (F0 m (pc + 3) ls (.int (xK x) :: rest))) : W p l e R s m args below meth c H locs cells slots Q (F0 m pc ls (.int x :: .ref (t 5) :: rest)) :=
  k_callK (n := 1) (As := [.int x]) (rest := rest) X I (c_io1 (x := x)) uw_1_218 uw_1_219 uw_1_220 uw_1_8 uw_1_221 ⟨rfl, rfl⟩ (by decide +kernel) rfl ⟨Nat.le_trans (Nat.le_of_ble_eq_true rfl) hR.1, Nat.le_trans (Nat.le_of_ble_eq_true rfl) hR.2⟩ hc0 hls rfl hroom hdg (st1 := .int (xK x) :: rest) rfl kk
