/-! ===== LAW: the calls of the law, its loop, open in the twenty laws of the calls ===== -/
section KW2
variable {p : Program} {l : Launch} {e : Env} {R : Room} {s : State} {m : MethodId} {args : Array Value} {below : List Frame} {meth : Method} {c : Code} {H : Heap} {locs : List Loc} {cells slots : Nat} {Q : State → Prop}
variable {cc : ByteArray} {pc : Nat} {ls : Array Slot} {rest st0 : List Value} {D : va_G} {aI : ClassId} {t : Nat → Nat} {own : String} {nL : Nat} {A : Nat → Prop} {w v : xM → va_W} {M M' N : xM}
theorem k_call2 {a : Array Value} {rv : Option Value} (hr : va_Run p l e R s m args below meth c H locs cells slots 0 0 (F0 m pc ls st0) rest (kQ w D (va_A (w M) H.size) rv M' a) (va_A (w M) H.size)) (I : kI w D A s M H locs) (J : kI v D A s N H locs) (hap : ∀ (k : Nat) (q : Nat × va_E) (k' : Nat) (e' : va_E), (v N)[k]? = some q → (w M)[k']? = some (q.1, e') → False) (hA : ∀ q, s.heap.size ≤ q → A q)
    (kk : ∀ (H1 : Heap) (locs1 : List Loc), kI w D A s M' H1 locs1 → kI v D A s N H1 locs1 → W p l e R s m args below meth c H1 locs1 cells slots Q (F0 m (pc + 3) ls (rv.toList ++ rest))) : W p l e R s m args below meth c H locs cells slots Q (F0 m pc ls st0) := by
  intro T hT X
  obtain ⟨v1, st₀, u, T', L, h0, X', hL, e1, e2, ⟨⟨hv, hp, hd⟩, hz, hk⟩, st⟩ := hr T hT X
  cases hv
  rw [h0] at hz hk
  have hF := k_free I hA
  have hS := I.2.2
  have hS' : va_S A s.heap T'.heap (locs ++ L) := ⟨Nat.le_trans hS.1 (by rw [e1]; exact hz), fun q h1 h2 => by rw [e1, hk q (Nat.lt_of_lt_of_le h1 hS.1) (fun z => h2 (hF q z))]; exact hS.2.1 q h1 h2, fun q hq => by
      rcases List.mem_append.mp hq with h | h
      · exact hS.2.2 q h
      · exact hF _ (hL q h)⟩
  obtain ⟨t2, a1, b1⟩ := kk T'.heap (locs ++ L) ⟨by rw [e1]; exact hp, hd.weaken (fun _ _ _ h => hF _ h), hS'⟩ ⟨J.1.kept (fun k q hq => by
      rw [e1]
      refine hk q.1 (J.1 k q hq).lt (fun z => ?_)
      rcases z with ⟨k', e', h⟩ | h
      · exact hap k q k' e' hq h
      · exact absurd (J.1 k q hq).lt (Nat.not_lt.mpr h)), J.2.1, hS'⟩ T' rfl X'
  exact ⟨t2, st t2 a1, b1⟩
theorem k_callV2 {y : MethodName} {rm : Room} {bytes : ByteArray} {maxL b ci index n : Nat} {ret : Option FieldType} {As fs : List Value} {rv : Option Value} {C : String} {T : u_T} {N' : Nat}
    (X : kX D aI t p s m args c cc own nL A) (I : kI w D A s M H locs) (J : kI v D A s N H locs) (hap : ∀ (k : Nat) (q : Nat × va_E) (k' : Nat) (e' : va_E), (v N)[k]? = some q → (w M)[k']? = some (q.1, e') → False) (hM : kM l y (wk y bytes maxL ret) rm w D aI t (.ref b :: As) M rv M') (h1 : Cond.methodLink own index y ∈ xU) (h2 : Cond.instanceMethod y ∈ xU) (h3 : Cond.selects C y y ∈ xU) (h4 : Cond.initialized C ∈ xU) (h5 : Cond.code y bytes maxL ret ∈ xU) (hrc : rm.cells = 0 ∧ rm.slots = 0)
    (hd : y.cls = C ∧ y.cls ≠ "java/lang/invoke/MethodHandle" ∧ y.cls ≠ "java/lang/invoke/VarHandle" ∧ (parseMethodDescriptor y.desc).map (fun d => d.parameters.length) = some n) (hn : As.length = n) (hR : rm.frames + 1 ≤ R.frames ∧ 8 + (maxL + 11) + rm.locals ≤ R.locals) (hc0 : cells ≤ R.cells ∧ slots ≤ R.slots)
    (i : Nat) (he : (w M)[i]? = some (b, .inr (ci, fs))) (hc : vwCl[ci]? = some (C, T, N')) (hls : ls.size = nL) (hst : st0 = As.reverse ++ .ref b :: rest) (hroom : (rest.map fun v => v.category).sum ≤ 8) (hdg : decode cc pc = .ok (.invokevirtual index, 3)) {st1 : List Value} (hst1 : rv.toList ++ rest = st1)
    (kk : ∀ (H1 : Heap) (locs1 : List Loc), kI w D A s M' H1 locs1 → kI v D A s N H1 locs1 → W p l e R s m args below meth c H1 locs1 cells slots Q (F0 m (pc + 3) ls st1)) : W p l e R s m args below meth c H locs cells slots Q (F0 m pc ls st0) := by
  have hX := X
  obtain ⟨hx, hb, hml, hown, hts, hK, hE, hA⟩ := X
  subst hst1
  exact k_call2 (va_runV (As := As) (rest := rest) ⟨hx, hb, hml, hown, hts⟩ (hM H.size) (cwV n hts (gV h1 h2 h3 h4 h5) rfl hrc.1 hrc.2 hd hR) (k_preV hX I i he hc) rfl hn hls hst (lv_room hroom) hdg hc0) I J hap hA kk
end KW2
theorem cw_ad (q : Nat → Nat) (aI : ClassId) (M : xM) : (cw q aI M).map Prod.fst = (List.range 22).map q := rfl
theorem dw_ad (q : Nat → Nat) (aI : ClassId) (M : xM) : (dw q aI M).map Prod.fst = (List.range 12).map q := rfl
theorem ad_of {l : va_W} {n : Nat} {q : Nat → Nat} (h : l.map Prod.fst = (List.range n).map q) {k : Nat} {p : Nat × va_E} (hk : l[k]? = some p) : ∃ i, i < n ∧ p.1 = q i := by
  have h1 : p.1 ∈ l.map Prod.fst := List.mem_map_of_mem (List.mem_of_getElem? hk)
  rw [h] at h1
  obtain ⟨i, hi, he⟩ := List.mem_map.mp h1
  exact ⟨i, List.mem_range.mp hi, he.symm⟩
def lwap (qc qd : Nat → Nat) : Prop := ∀ i j : Nat, i < 22 → j < 12 → qc i ≠ qd j
theorem lwap1 {qc qd : Nat → Nat} (h : lwap qc qd) {aI : ClassId} {C D : xM} : ∀ (k : Nat) (q : Nat × va_E) (k' : Nat) (e' : va_E), (dw qd aI D)[k]? = some q → (cw qc aI C)[k']? = some (q.1, e') → False := by
  intro k q k' e' h1 h2
  obtain ⟨i, hi, e1⟩ := ad_of (dw_ad qd aI D) h1
  obtain ⟨j, hj, e2⟩ := ad_of (cw_ad qc aI C) h2
  exact h j i hj hi (e2.symm.trans e1)
theorem lwap2 {qc qd : Nat → Nat} (h : lwap qc qd) {aI : ClassId} {C D : xM} : ∀ (k : Nat) (q : Nat × va_E) (k' : Nat) (e' : va_E), (cw qc aI C)[k]? = some q → (dw qd aI D)[k']? = some (q.1, e') → False := by
  intro k q k' e' h1 h2
  obtain ⟨i, hi, e1⟩ := ad_of (cw_ad qc aI C) h1
  obtain ⟨j, hj, e2⟩ := ad_of (dw_ad qd aI D) h2
  exact h i j hi hj (e1.symm.trans e2)
def op_letter (Inv : xM → xM → Nat → Prop) : Prop := ∀ (C D : xM) (j : Nat), j < 64 → Inv C D j → ∀ (x : Int32), ∃ (r : Int32) (C' : xM) (D' : xM), f_X5_letter x C = some (r, C') ∧ f_X6_letter x D = some (r, D') ∧ Inv C' D' (j + 1)
def op_blank (Inv : xM → xM → Nat → Prop) : Prop := ∀ (C D : xM) (j : Nat), j < 64 → Inv C D j → ∃ (r : Int32) (C' : xM) (D' : xM), f_X5_blank C = some (r, C') ∧ f_X6_blank D = some (r, D') ∧ Inv C' D' (j + 1)
def op_fault (Inv : xM → xM → Nat → Prop) : Prop := ∀ (C D : xM) (j : Nat), j < 64 → Inv C D j → ∃ (r : Int32) (D' : xM), f_X5_fault C = some r ∧ f_X6_fault D = some (r, D') ∧ Inv C D' (j + 1)
def op_tent (Inv : xM → xM → Nat → Prop) : Prop := ∀ (C D : xM) (j : Nat), j < 64 → Inv C D j → ∃ (r : Int32) (C' : xM) (D' : xM), f_X5_tent C = some (r, C') ∧ f_X6_tent D = some (r, D') ∧ Inv C' D' (j + 1)
def op_thing (Inv : xM → xM → Nat → Prop) : Prop := ∀ (C D : xM) (j : Nat), j < 64 → Inv C D j → ∀ (x y : Int32), ∃ (r : Int32), f_X5_thing x y C = some r ∧ f_X6_thing x y D = some r ∧ Inv C D (j + 1)
def op_claimer (Inv : xM → xM → Nat → Prop) : Prop := ∀ (C D : xM) (j : Nat), j < 64 → Inv C D j → ∀ (x y : Int32), ∃ (r : Int32) (D' : xM), f_X5_claimer x y C = some r ∧ f_X6_claimer x y D = some (r, D') ∧ Inv C D' (j + 1)
def op_as (Inv : xM → xM → Nat → Prop) : Prop := ∀ (C D : xM) (j : Nat), j < 64 → Inv C D j → ∀ (x y : Int32), ∃ (r : Int32), f_X5_as x y C = some r ∧ f_X6_as x y D = some r ∧ Inv C D (j + 1)
def op_wrong (Inv : xM → xM → Nat → Prop) : Prop := ∀ (C D : xM) (j : Nat), j < 64 → Inv C D j → ∀ (x y : Int32), ∃ (r : Int32), f_X5_wrong x y C = some r ∧ f_X6_wrong x y D = some r ∧ Inv C D (j + 1)
def op_give (Inv : xM → xM → Nat → Prop) : Prop := ∀ (C D : xM) (j : Nat), j < 64 → Inv C D j → ∀ (x y : Int32), ∃ (r : Int32) (C' : xM) (D' : xM), f_X5_give x y C = some (r, C') ∧ f_X6_give x y D = some (r, D') ∧ Inv C' D' (j + 1)
def op_back (Inv : xM → xM → Nat → Prop) : Prop := ∀ (C D : xM) (j : Nat), j < 64 → Inv C D j → ∀ (x : Int32), ∃ (r : Int32) (C' : xM) (D' : xM), f_X5_back x C = some (r, C') ∧ f_X6_back x D = some (r, D') ∧ Inv C' D' (j + 1)
def op_remember (Inv : xM → xM → Nat → Prop) : Prop := ∀ (C D : xM) (j : Nat), j < 64 → Inv C D j → ∀ (x y z : Int32), ∃ (r : Int32) (C' : xM) (D' : xM), f_X5_remember x y z C = some (r, C') ∧ f_X6_remember x y z D = some (r, D') ∧ Inv C' D' (j + 1)
def op_six (Inv : xM → xM → Nat → Prop) : Prop := ∀ (C D : xM) (j : Nat), j < 64 → Inv C D j → ∃ (r : Int32) (C' : xM) (D' : xM), f_X5_six C = some (r, C') ∧ f_X6_six D = some (r, D') ∧ Inv C' D' (j + 1)
def op_match (Inv : xM → xM → Nat → Prop) : Prop := ∀ (C D : xM) (j : Nat), j < 64 → Inv C D j → ∀ (x : Int32), ∃ (r : Int32) (C' : xM) (D' : xM), f_X5_match x C = some (r, C') ∧ f_X6_match x D = some (r, D') ∧ Inv C' D' (j + 1)
def op_see (Inv : xM → xM → Nat → Prop) : Prop := ∀ (C D : xM) (j : Nat), j < 64 → Inv C D j → ∀ (x y z : Int32), (z = 0 ∨ z = 1) → ∃ (r : Int32) (C' : xM) (D' : xM), f_X5_see x y z C = some (r, C') ∧ f_X6_see x y z D = some (r, D') ∧ Inv C' D' (j + 1)
def op_forget (Inv : xM → xM → Nat → Prop) : Prop := ∀ (C D : xM) (j : Nat), j < 64 → Inv C D j → ∃ (r : Int32) (C' : xM) (D' : xM), f_X5_forget C = some (r, C') ∧ f_X6_forget D = some (r, D') ∧ Inv C' D' (j + 1)
def op_mondays (Inv : xM → xM → Nat → Prop) : Prop := ∀ (C D : xM) (j : Nat), j < 64 → Inv C D j → ∀ (x y z : Int32), ∃ (r : Int32) (C' : xM) (D' : xM), f_X5_mondays x y z C = some (r, C') ∧ f_X6_mondays x y z D = some (r, D') ∧ Inv C' D' (j + 1)
def op_image (Inv : xM → xM → Nat → Prop) : Prop := ∀ (C D : xM) (j : Nat), j < 64 → Inv C D j → ∃ (r : Int32) (C' : xM) (D' : xM), f_X5_image C = some (r, C') ∧ f_X6_image D = some (r, D') ∧ Inv C' D' (j + 1)
def op_restore (Inv : xM → xM → Nat → Prop) : Prop := ∀ (C D : xM) (j : Nat), j < 64 → Inv C D j → ∃ (r : Int32) (C' : xM) (D' : xM), f_X5_restore C = some (r, C') ∧ f_X6_restore D = some (r, D') ∧ Inv C' D' (j + 1)
def op_count (Inv : xM → xM → Nat → Prop) : Prop := ∀ (C D : xM) (j : Nat), j < 64 → Inv C D j → ∀ (x : Int32), ∃ (r : Int32), f_X5_count x C = some r ∧ f_X6_count x D = some r ∧ Inv C D (j + 1)
def op_digest (Inv : xM → xM → Nat → Prop) : Prop := ∀ (C D : xM) (j : Nat), j < 64 → Inv C D j → ∃ (r : Int64) (C' : xM) (D' : xM), f_X5_digest C = some (r, C') ∧ f_X6_digest D = some (r, D') ∧ Inv C' D' (j + 1)
def lwops (Inv : xM → xM → Nat → Prop) : Prop := op_letter Inv ∧ op_blank Inv ∧ op_fault Inv ∧ op_tent Inv ∧ op_thing Inv ∧ op_claimer Inv ∧ op_as Inv ∧ op_wrong Inv ∧ op_give Inv ∧ op_back Inv ∧ op_remember Inv ∧ op_six Inv ∧ op_match Inv ∧ op_see Inv ∧ op_forget Inv ∧ op_mondays Inv ∧ op_image Inv ∧ op_restore Inv ∧ op_count Inv ∧ op_digest Inv
theorem lw_in {j L k : Nat} (hj : 4 * j + 4 ≤ L) (hL : L ≤ 256) (hk : k < 4) : vp_in (nI (4 * j) + nI k) L := by
  rw [nI_add]
  exact vp_in_nI (by omega) (by omega)
set_option maxRecDepth 100000 in
set_option maxHeartbeats 4000000 in
theorem lw_c0 {p : Program} {l : Launch} {e : Env} {s : State} {m : MethodId} {below : List Frame} {meth : Method} {c : Code} {G : va_G} {aI : ClassId} {t qc qd : Nat → Nat} {A : Nat → Prop} {b L : Nat} {xs : Nat → Int32} {Inv : xM → xM → Nat → Prop} (X : kX G aI t p s m #[Value.ref b] c code RL 4 A) (hX : va_X b L xs s s.heap) (hbl : b < s.heap.size) (hbA : ¬ A b) (hap : lwap qc qd) {j : Nat} (hj : 4 * j + 4 ≤ L) (hL : L ≤ 256) {C D : xM} (hI : Inv C D j) {H : Heap} {locs : List Loc} {ls : Array Slot} (IC : kI (cw qc aI) G A s C H locs) (ID : kI (dw qd aI) G A s D H locs) (hl : lv_has ls 4 [(3, .int (nI (4 * j))), (0, .ref b), (1, .ref (qc 0)), (2, .ref (qd 0))]) (hop : op_letter Inv) (kk : ∀ (C' D' : xM) (H : Heap) (locs : List Loc), Inv C' D' (j + 1) → kI (cw qc aI) G A s C' H locs → kI (dw qd aI) G A s D' H locs → W p l e room_1 s m #[Value.ref b] below meth c H locs 34 400 (lw_Z below #[Value.ref b] s) (F0 m 635 ls [])) : W p l e room_1 s m #[Value.ref b] below meth c H locs 34 400 (lw_Z below #[Value.ref b] s) (F0 m 128 ls []) := by
  have hx := X.1
  have hb := X.2.1
  obtain ⟨z1, ez1⟩ : ∃ z : Int32, z = xs (nI (4 * j) + 1).toNatClampNeg := ⟨_, rfl⟩
  obtain ⟨r, C1, D1, h5, h6, hI1⟩ := hop C D j (by omega) hI z1
  refine lv_aload_n hx hb dL_law_128 rfl (lv_at hl 2 rfl) ?_
  refine lv_aload_n hx hb dL_law_129 rfl (lv_at hl 1 rfl) ?_
  refine lv_iload_n hx hb dL_law_130 rfl (lv_at hl 0 rfl) ?_
  refine lv_iconst (v := 1) hx hb dL_law_131 (by decide) ?_
  refine lv_iadd hx hb dL_law_132 ?_
  refine va_sld hx hb hX hbl hbA IC.2.2 (lw_in (k := 1) hj hL (by decide)) dL_law_133 ?_
  rw [← ez1]
  refine k_callV2 (w := cw qc aI) (v := dw qd aI) (n := 1) (As := [.int z1]) (rest := []) X IC ID (lwap1 hap) (c_X5_letter h5) uw_1_164 uw_1_165 uw_1_166 uw_1_1 uw_1_167 ⟨rfl, rfl⟩ (by decide +kernel) rfl ⟨Nat.le_of_ble_eq_true rfl, Nat.le_of_ble_eq_true rfl⟩ ⟨Nat.le_of_ble_eq_true rfl, Nat.le_of_ble_eq_true rfl⟩ 0 cwG_0 rfl hl.1 rfl (Nat.le_of_ble_eq_true rfl) dL_law_134 (st1 := [.int r]) rfl (fun H locs IC ID => ?_)
  refine lv_aload_n hx hb dL_law_137 rfl (lv_at hl 3 rfl) ?_
  refine lv_aload_n hx hb dL_law_138 rfl (lv_at hl 1 rfl) ?_
  refine lv_iload_n hx hb dL_law_139 rfl (lv_at hl 0 rfl) ?_
  refine lv_iconst (v := 1) hx hb dL_law_140 (by decide) ?_
  refine lv_iadd hx hb dL_law_141 ?_
  refine va_sld hx hb hX hbl hbA IC.2.2 (lw_in (k := 1) hj hL (by decide)) dL_law_142 ?_
  rw [← ez1]
  refine k_callV2 (w := dw qd aI) (v := cw qc aI) (n := 1) (As := [.int z1]) (rest := [.int r]) X ID IC (lwap2 hap) (c_X6_letter h6) uw_4_81 uw_4_82 uw_4_83 uw_1_7 uw_4_84 ⟨rfl, rfl⟩ (by decide +kernel) rfl ⟨Nat.le_of_ble_eq_true rfl, Nat.le_of_ble_eq_true rfl⟩ ⟨Nat.le_of_ble_eq_true rfl, Nat.le_of_ble_eq_true rfl⟩ 0 dwG_0 rfl hl.1 rfl (Nat.le_of_ble_eq_true rfl) dL_law_143 (st1 := [.int r, .int r]) rfl (fun H locs ID IC => ?_)
  refine lv_icmp_eq (tgt := 635) hx hb dL_law_146 (by decide) (fun c9 => ?_) (fun c9 => absurd rfl c9)
  exact kk C1 D1 H locs hI1 IC ID
set_option maxRecDepth 100000 in
set_option maxHeartbeats 4000000 in
theorem lw_c1 {p : Program} {l : Launch} {e : Env} {s : State} {m : MethodId} {below : List Frame} {meth : Method} {c : Code} {G : va_G} {aI : ClassId} {t qc qd : Nat → Nat} {A : Nat → Prop} {b L : Nat} {xs : Nat → Int32} {Inv : xM → xM → Nat → Prop} (X : kX G aI t p s m #[Value.ref b] c code RL 4 A) (hX : va_X b L xs s s.heap) (hbl : b < s.heap.size) (hbA : ¬ A b) (hap : lwap qc qd) {j : Nat} (hj : 4 * j + 4 ≤ L) (hL : L ≤ 256) {C D : xM} (hI : Inv C D j) {H : Heap} {locs : List Loc} {ls : Array Slot} (IC : kI (cw qc aI) G A s C H locs) (ID : kI (dw qd aI) G A s D H locs) (hl : lv_has ls 4 [(3, .int (nI (4 * j))), (0, .ref b), (1, .ref (qc 0)), (2, .ref (qd 0))]) (hop : op_blank Inv) (kk : ∀ (C' D' : xM) (H : Heap) (locs : List Loc), Inv C' D' (j + 1) → kI (cw qc aI) G A s C' H locs → kI (dw qd aI) G A s D' H locs → W p l e room_1 s m #[Value.ref b] below meth c H locs 34 400 (lw_Z below #[Value.ref b] s) (F0 m 635 ls [])) : W p l e room_1 s m #[Value.ref b] below meth c H locs 34 400 (lw_Z below #[Value.ref b] s) (F0 m 151 ls []) := by
  have hx := X.1
  have hb := X.2.1
  obtain ⟨r, C1, D1, h5, h6, hI1⟩ := hop C D j (by omega) hI
  refine lv_aload_n hx hb dL_law_151 rfl (lv_at hl 2 rfl) ?_
  refine k_callV2 (w := cw qc aI) (v := dw qd aI) (n := 0) (As := []) (rest := []) X IC ID (lwap1 hap) (c_X5_blank h5) uw_1_177 uw_1_178 uw_1_179 uw_1_1 uw_1_180 ⟨rfl, rfl⟩ (by decide +kernel) rfl ⟨Nat.le_of_ble_eq_true rfl, Nat.le_of_ble_eq_true rfl⟩ ⟨Nat.le_of_ble_eq_true rfl, Nat.le_of_ble_eq_true rfl⟩ 0 cwG_0 rfl hl.1 rfl (Nat.le_of_ble_eq_true rfl) dL_law_152 (st1 := [.int r]) rfl (fun H locs IC ID => ?_)
  refine lv_aload_n hx hb dL_law_155 rfl (lv_at hl 3 rfl) ?_
  refine k_callV2 (w := dw qd aI) (v := cw qc aI) (n := 0) (As := []) (rest := [.int r]) X ID IC (lwap2 hap) (c_X6_blank h6) uw_4_89 uw_4_90 uw_4_91 uw_1_7 uw_4_92 ⟨rfl, rfl⟩ (by decide +kernel) rfl ⟨Nat.le_of_ble_eq_true rfl, Nat.le_of_ble_eq_true rfl⟩ ⟨Nat.le_of_ble_eq_true rfl, Nat.le_of_ble_eq_true rfl⟩ 0 dwG_0 rfl hl.1 rfl (Nat.le_of_ble_eq_true rfl) dL_law_156 (st1 := [.int r, .int r]) rfl (fun H locs ID IC => ?_)
  refine lv_icmp_eq (tgt := 635) hx hb dL_law_159 (by decide) (fun c9 => ?_) (fun c9 => absurd rfl c9)
  exact kk C1 D1 H locs hI1 IC ID
set_option maxRecDepth 100000 in
set_option maxHeartbeats 4000000 in
theorem lw_c2 {p : Program} {l : Launch} {e : Env} {s : State} {m : MethodId} {below : List Frame} {meth : Method} {c : Code} {G : va_G} {aI : ClassId} {t qc qd : Nat → Nat} {A : Nat → Prop} {b L : Nat} {xs : Nat → Int32} {Inv : xM → xM → Nat → Prop} (X : kX G aI t p s m #[Value.ref b] c code RL 4 A) (hX : va_X b L xs s s.heap) (hbl : b < s.heap.size) (hbA : ¬ A b) (hap : lwap qc qd) {j : Nat} (hj : 4 * j + 4 ≤ L) (hL : L ≤ 256) {C D : xM} (hI : Inv C D j) {H : Heap} {locs : List Loc} {ls : Array Slot} (IC : kI (cw qc aI) G A s C H locs) (ID : kI (dw qd aI) G A s D H locs) (hl : lv_has ls 4 [(3, .int (nI (4 * j))), (0, .ref b), (1, .ref (qc 0)), (2, .ref (qd 0))]) (hop : op_fault Inv) (kk : ∀ (C' D' : xM) (H : Heap) (locs : List Loc), Inv C' D' (j + 1) → kI (cw qc aI) G A s C' H locs → kI (dw qd aI) G A s D' H locs → W p l e room_1 s m #[Value.ref b] below meth c H locs 34 400 (lw_Z below #[Value.ref b] s) (F0 m 635 ls [])) : W p l e room_1 s m #[Value.ref b] below meth c H locs 34 400 (lw_Z below #[Value.ref b] s) (F0 m 164 ls []) := by
  have hx := X.1
  have hb := X.2.1
  obtain ⟨r, D1, h5, h6, hI1⟩ := hop C D j (by omega) hI
  refine lv_aload_n hx hb dL_law_164 rfl (lv_at hl 2 rfl) ?_
  refine k_callV2 (w := cw qc aI) (v := dw qd aI) (n := 0) (As := []) (rest := []) X IC ID (lwap1 hap) (c_X5_fault h5) uw_1_185 uw_1_186 uw_1_187 uw_1_1 uw_1_188 ⟨rfl, rfl⟩ (by decide +kernel) rfl ⟨Nat.le_of_ble_eq_true rfl, Nat.le_of_ble_eq_true rfl⟩ ⟨Nat.le_of_ble_eq_true rfl, Nat.le_of_ble_eq_true rfl⟩ 0 cwG_0 rfl hl.1 rfl (Nat.le_of_ble_eq_true rfl) dL_law_165 (st1 := [.int r]) rfl (fun H locs IC ID => ?_)
  refine lv_aload_n hx hb dL_law_168 rfl (lv_at hl 3 rfl) ?_
  refine k_callV2 (w := dw qd aI) (v := cw qc aI) (n := 0) (As := []) (rest := [.int r]) X ID IC (lwap2 hap) (c_X6_fault h6) uw_4_93 uw_4_94 uw_4_95 uw_1_7 uw_4_96 ⟨rfl, rfl⟩ (by decide +kernel) rfl ⟨Nat.le_of_ble_eq_true rfl, Nat.le_of_ble_eq_true rfl⟩ ⟨Nat.le_of_ble_eq_true rfl, Nat.le_of_ble_eq_true rfl⟩ 0 dwG_0 rfl hl.1 rfl (Nat.le_of_ble_eq_true rfl) dL_law_169 (st1 := [.int r, .int r]) rfl (fun H locs ID IC => ?_)
  refine lv_icmp_eq (tgt := 635) hx hb dL_law_172 (by decide) (fun c9 => ?_) (fun c9 => absurd rfl c9)
  exact kk C D1 H locs hI1 IC ID
set_option maxRecDepth 100000 in
set_option maxHeartbeats 4000000 in
theorem lw_c3 {p : Program} {l : Launch} {e : Env} {s : State} {m : MethodId} {below : List Frame} {meth : Method} {c : Code} {G : va_G} {aI : ClassId} {t qc qd : Nat → Nat} {A : Nat → Prop} {b L : Nat} {xs : Nat → Int32} {Inv : xM → xM → Nat → Prop} (X : kX G aI t p s m #[Value.ref b] c code RL 4 A) (hX : va_X b L xs s s.heap) (hbl : b < s.heap.size) (hbA : ¬ A b) (hap : lwap qc qd) {j : Nat} (hj : 4 * j + 4 ≤ L) (hL : L ≤ 256) {C D : xM} (hI : Inv C D j) {H : Heap} {locs : List Loc} {ls : Array Slot} (IC : kI (cw qc aI) G A s C H locs) (ID : kI (dw qd aI) G A s D H locs) (hl : lv_has ls 4 [(3, .int (nI (4 * j))), (0, .ref b), (1, .ref (qc 0)), (2, .ref (qd 0))]) (hop : op_tent Inv) (kk : ∀ (C' D' : xM) (H : Heap) (locs : List Loc), Inv C' D' (j + 1) → kI (cw qc aI) G A s C' H locs → kI (dw qd aI) G A s D' H locs → W p l e room_1 s m #[Value.ref b] below meth c H locs 34 400 (lw_Z below #[Value.ref b] s) (F0 m 635 ls [])) : W p l e room_1 s m #[Value.ref b] below meth c H locs 34 400 (lw_Z below #[Value.ref b] s) (F0 m 177 ls []) := by
  have hx := X.1
  have hb := X.2.1
  obtain ⟨r, C1, D1, h5, h6, hI1⟩ := hop C D j (by omega) hI
  refine lv_aload_n hx hb dL_law_177 rfl (lv_at hl 2 rfl) ?_
  refine k_callV2 (w := cw qc aI) (v := dw qd aI) (n := 0) (As := []) (rest := []) X IC ID (lwap1 hap) (c_X5_tent h5) uw_2_65 uw_2_66 uw_2_67 uw_1_1 uw_2_68 ⟨rfl, rfl⟩ (by decide +kernel) rfl ⟨Nat.le_of_ble_eq_true rfl, Nat.le_of_ble_eq_true rfl⟩ ⟨Nat.le_of_ble_eq_true rfl, Nat.le_of_ble_eq_true rfl⟩ 0 cwG_0 rfl hl.1 rfl (Nat.le_of_ble_eq_true rfl) dL_law_178 (st1 := [.int r]) rfl (fun H locs IC ID => ?_)
  refine lv_aload_n hx hb dL_law_181 rfl (lv_at hl 3 rfl) ?_
  refine k_callV2 (w := dw qd aI) (v := cw qc aI) (n := 0) (As := []) (rest := [.int r]) X ID IC (lwap2 hap) (c_X6_tent h6) uw_4_111 uw_4_112 uw_4_113 uw_1_7 uw_4_114 ⟨rfl, rfl⟩ (by decide +kernel) rfl ⟨Nat.le_of_ble_eq_true rfl, Nat.le_of_ble_eq_true rfl⟩ ⟨Nat.le_of_ble_eq_true rfl, Nat.le_of_ble_eq_true rfl⟩ 0 dwG_0 rfl hl.1 rfl (Nat.le_of_ble_eq_true rfl) dL_law_182 (st1 := [.int r, .int r]) rfl (fun H locs ID IC => ?_)
  refine lv_icmp_eq (tgt := 635) hx hb dL_law_185 (by decide) (fun c9 => ?_) (fun c9 => absurd rfl c9)
  exact kk C1 D1 H locs hI1 IC ID
set_option maxRecDepth 100000 in
set_option maxHeartbeats 4000000 in
theorem lw_c4 {p : Program} {l : Launch} {e : Env} {s : State} {m : MethodId} {below : List Frame} {meth : Method} {c : Code} {G : va_G} {aI : ClassId} {t qc qd : Nat → Nat} {A : Nat → Prop} {b L : Nat} {xs : Nat → Int32} {Inv : xM → xM → Nat → Prop} (X : kX G aI t p s m #[Value.ref b] c code RL 4 A) (hX : va_X b L xs s s.heap) (hbl : b < s.heap.size) (hbA : ¬ A b) (hap : lwap qc qd) {j : Nat} (hj : 4 * j + 4 ≤ L) (hL : L ≤ 256) {C D : xM} (hI : Inv C D j) {H : Heap} {locs : List Loc} {ls : Array Slot} (IC : kI (cw qc aI) G A s C H locs) (ID : kI (dw qd aI) G A s D H locs) (hl : lv_has ls 4 [(3, .int (nI (4 * j))), (0, .ref b), (1, .ref (qc 0)), (2, .ref (qd 0))]) (hop : op_thing Inv) (kk : ∀ (C' D' : xM) (H : Heap) (locs : List Loc), Inv C' D' (j + 1) → kI (cw qc aI) G A s C' H locs → kI (dw qd aI) G A s D' H locs → W p l e room_1 s m #[Value.ref b] below meth c H locs 34 400 (lw_Z below #[Value.ref b] s) (F0 m 635 ls [])) : W p l e room_1 s m #[Value.ref b] below meth c H locs 34 400 (lw_Z below #[Value.ref b] s) (F0 m 190 ls []) := by
  have hx := X.1
  have hb := X.2.1
  obtain ⟨z1, ez1⟩ : ∃ z : Int32, z = xs (nI (4 * j) + 1).toNatClampNeg := ⟨_, rfl⟩
  obtain ⟨z2, ez2⟩ : ∃ z : Int32, z = xs (nI (4 * j) + 2).toNatClampNeg := ⟨_, rfl⟩
  obtain ⟨r, h5, h6, hI1⟩ := hop C D j (by omega) hI z1 z2
  refine lv_aload_n hx hb dL_law_190 rfl (lv_at hl 2 rfl) ?_
  refine lv_aload_n hx hb dL_law_191 rfl (lv_at hl 1 rfl) ?_
  refine lv_iload_n hx hb dL_law_192 rfl (lv_at hl 0 rfl) ?_
  refine lv_iconst (v := 1) hx hb dL_law_193 (by decide) ?_
  refine lv_iadd hx hb dL_law_194 ?_
  refine va_sld hx hb hX hbl hbA IC.2.2 (lw_in (k := 1) hj hL (by decide)) dL_law_195 ?_
  rw [← ez1]
  refine lv_aload_n hx hb dL_law_196 rfl (lv_at hl 1 rfl) ?_
  refine lv_iload_n hx hb dL_law_197 rfl (lv_at hl 0 rfl) ?_
  refine lv_iconst (v := 2) hx hb dL_law_198 (by decide) ?_
  refine lv_iadd hx hb dL_law_199 ?_
  refine va_sld hx hb hX hbl hbA IC.2.2 (lw_in (k := 2) hj hL (by decide)) dL_law_200 ?_
  rw [← ez2]
  refine k_callV2 (w := cw qc aI) (v := dw qd aI) (n := 2) (As := [.int z1, .int z2]) (rest := []) X IC ID (lwap1 hap) (c_X5_thing h5) uw_2_108 uw_2_109 uw_2_110 uw_1_1 uw_2_111 ⟨rfl, rfl⟩ (by decide +kernel) rfl ⟨Nat.le_of_ble_eq_true rfl, Nat.le_of_ble_eq_true rfl⟩ ⟨Nat.le_of_ble_eq_true rfl, Nat.le_of_ble_eq_true rfl⟩ 0 cwG_0 rfl hl.1 rfl (Nat.le_of_ble_eq_true rfl) dL_law_201 (st1 := [.int r]) rfl (fun H locs IC ID => ?_)
  refine lv_aload_n hx hb dL_law_204 rfl (lv_at hl 3 rfl) ?_
  refine lv_aload_n hx hb dL_law_205 rfl (lv_at hl 1 rfl) ?_
  refine lv_iload_n hx hb dL_law_206 rfl (lv_at hl 0 rfl) ?_
  refine lv_iconst (v := 1) hx hb dL_law_207 (by decide) ?_
  refine lv_iadd hx hb dL_law_208 ?_
  refine va_sld hx hb hX hbl hbA IC.2.2 (lw_in (k := 1) hj hL (by decide)) dL_law_209 ?_
  rw [← ez1]
  refine lv_aload_n hx hb dL_law_210 rfl (lv_at hl 1 rfl) ?_
  refine lv_iload_n hx hb dL_law_211 rfl (lv_at hl 0 rfl) ?_
  refine lv_iconst (v := 2) hx hb dL_law_212 (by decide) ?_
  refine lv_iadd hx hb dL_law_213 ?_
  refine va_sld hx hb hX hbl hbA IC.2.2 (lw_in (k := 2) hj hL (by decide)) dL_law_214 ?_
  rw [← ez2]
  refine k_callV2 (w := dw qd aI) (v := cw qc aI) (n := 2) (As := [.int z1, .int z2]) (rest := [.int r]) X ID IC (lwap2 hap) (c_X6_thing h6) uw_4_115 uw_4_116 uw_4_117 uw_1_7 uw_4_118 ⟨rfl, rfl⟩ (by decide +kernel) rfl ⟨Nat.le_of_ble_eq_true rfl, Nat.le_of_ble_eq_true rfl⟩ ⟨Nat.le_of_ble_eq_true rfl, Nat.le_of_ble_eq_true rfl⟩ 0 dwG_0 rfl hl.1 rfl (Nat.le_of_ble_eq_true rfl) dL_law_215 (st1 := [.int r, .int r]) rfl (fun H locs ID IC => ?_)
  refine lv_icmp_eq (tgt := 635) hx hb dL_law_218 (by decide) (fun c9 => ?_) (fun c9 => absurd rfl c9)
  exact kk C D H locs hI1 IC ID
set_option maxRecDepth 100000 in
set_option maxHeartbeats 4000000 in
theorem lw_c5 {p : Program} {l : Launch} {e : Env} {s : State} {m : MethodId} {below : List Frame} {meth : Method} {c : Code} {G : va_G} {aI : ClassId} {t qc qd : Nat → Nat} {A : Nat → Prop} {b L : Nat} {xs : Nat → Int32} {Inv : xM → xM → Nat → Prop} (X : kX G aI t p s m #[Value.ref b] c code RL 4 A) (hX : va_X b L xs s s.heap) (hbl : b < s.heap.size) (hbA : ¬ A b) (hap : lwap qc qd) {j : Nat} (hj : 4 * j + 4 ≤ L) (hL : L ≤ 256) {C D : xM} (hI : Inv C D j) {H : Heap} {locs : List Loc} {ls : Array Slot} (IC : kI (cw qc aI) G A s C H locs) (ID : kI (dw qd aI) G A s D H locs) (hl : lv_has ls 4 [(3, .int (nI (4 * j))), (0, .ref b), (1, .ref (qc 0)), (2, .ref (qd 0))]) (hop : op_claimer Inv) (kk : ∀ (C' D' : xM) (H : Heap) (locs : List Loc), Inv C' D' (j + 1) → kI (cw qc aI) G A s C' H locs → kI (dw qd aI) G A s D' H locs → W p l e room_1 s m #[Value.ref b] below meth c H locs 34 400 (lw_Z below #[Value.ref b] s) (F0 m 635 ls [])) : W p l e room_1 s m #[Value.ref b] below meth c H locs 34 400 (lw_Z below #[Value.ref b] s) (F0 m 223 ls []) := by
  have hx := X.1
  have hb := X.2.1
  obtain ⟨z1, ez1⟩ : ∃ z : Int32, z = xs (nI (4 * j) + 1).toNatClampNeg := ⟨_, rfl⟩
  obtain ⟨z2, ez2⟩ : ∃ z : Int32, z = xs (nI (4 * j) + 2).toNatClampNeg := ⟨_, rfl⟩
  obtain ⟨r, D1, h5, h6, hI1⟩ := hop C D j (by omega) hI z1 z2
  refine lv_aload_n hx hb dL_law_223 rfl (lv_at hl 2 rfl) ?_
  refine lv_aload_n hx hb dL_law_224 rfl (lv_at hl 1 rfl) ?_
  refine lv_iload_n hx hb dL_law_225 rfl (lv_at hl 0 rfl) ?_
  refine lv_iconst (v := 1) hx hb dL_law_226 (by decide) ?_
  refine lv_iadd hx hb dL_law_227 ?_
  refine va_sld hx hb hX hbl hbA IC.2.2 (lw_in (k := 1) hj hL (by decide)) dL_law_228 ?_
  rw [← ez1]
  refine lv_aload_n hx hb dL_law_229 rfl (lv_at hl 1 rfl) ?_
  refine lv_iload_n hx hb dL_law_230 rfl (lv_at hl 0 rfl) ?_
  refine lv_iconst (v := 2) hx hb dL_law_231 (by decide) ?_
  refine lv_iadd hx hb dL_law_232 ?_
  refine va_sld hx hb hX hbl hbA IC.2.2 (lw_in (k := 2) hj hL (by decide)) dL_law_233 ?_
  rw [← ez2]
  refine k_callV2 (w := cw qc aI) (v := dw qd aI) (n := 2) (As := [.int z1, .int z2]) (rest := []) X IC ID (lwap1 hap) (c_X5_claimer h5) uw_2_205 uw_2_206 uw_2_207 uw_1_1 uw_2_208 ⟨rfl, rfl⟩ (by decide +kernel) rfl ⟨Nat.le_of_ble_eq_true rfl, Nat.le_of_ble_eq_true rfl⟩ ⟨Nat.le_of_ble_eq_true rfl, Nat.le_of_ble_eq_true rfl⟩ 0 cwG_0 rfl hl.1 rfl (Nat.le_of_ble_eq_true rfl) dL_law_234 (st1 := [.int r]) rfl (fun H locs IC ID => ?_)
  refine lv_aload_n hx hb dL_law_237 rfl (lv_at hl 3 rfl) ?_
  refine lv_aload_n hx hb dL_law_238 rfl (lv_at hl 1 rfl) ?_
  refine lv_iload_n hx hb dL_law_239 rfl (lv_at hl 0 rfl) ?_
  refine lv_iconst (v := 1) hx hb dL_law_240 (by decide) ?_
  refine lv_iadd hx hb dL_law_241 ?_
  refine va_sld hx hb hX hbl hbA IC.2.2 (lw_in (k := 1) hj hL (by decide)) dL_law_242 ?_
  rw [← ez1]
  refine lv_aload_n hx hb dL_law_243 rfl (lv_at hl 1 rfl) ?_
  refine lv_iload_n hx hb dL_law_244 rfl (lv_at hl 0 rfl) ?_
  refine lv_iconst (v := 2) hx hb dL_law_245 (by decide) ?_
  refine lv_iadd hx hb dL_law_246 ?_
  refine va_sld hx hb hX hbl hbA IC.2.2 (lw_in (k := 2) hj hL (by decide)) dL_law_247 ?_
  rw [← ez2]
  refine k_callV2 (w := dw qd aI) (v := cw qc aI) (n := 2) (As := [.int z1, .int z2]) (rest := [.int r]) X ID IC (lwap2 hap) (c_X6_claimer h6) uw_4_155 uw_4_156 uw_4_157 uw_1_7 uw_4_158 ⟨rfl, rfl⟩ (by decide +kernel) rfl ⟨Nat.le_of_ble_eq_true rfl, Nat.le_of_ble_eq_true rfl⟩ ⟨Nat.le_of_ble_eq_true rfl, Nat.le_of_ble_eq_true rfl⟩ 0 dwG_0 rfl hl.1 rfl (Nat.le_of_ble_eq_true rfl) dL_law_248 (st1 := [.int r, .int r]) rfl (fun H locs ID IC => ?_)
  refine lv_icmp_eq (tgt := 635) hx hb dL_law_251 (by decide) (fun c9 => ?_) (fun c9 => absurd rfl c9)
  exact kk C D1 H locs hI1 IC ID
set_option maxRecDepth 100000 in
set_option maxHeartbeats 4000000 in
theorem lw_c6 {p : Program} {l : Launch} {e : Env} {s : State} {m : MethodId} {below : List Frame} {meth : Method} {c : Code} {G : va_G} {aI : ClassId} {t qc qd : Nat → Nat} {A : Nat → Prop} {b L : Nat} {xs : Nat → Int32} {Inv : xM → xM → Nat → Prop} (X : kX G aI t p s m #[Value.ref b] c code RL 4 A) (hX : va_X b L xs s s.heap) (hbl : b < s.heap.size) (hbA : ¬ A b) (hap : lwap qc qd) {j : Nat} (hj : 4 * j + 4 ≤ L) (hL : L ≤ 256) {C D : xM} (hI : Inv C D j) {H : Heap} {locs : List Loc} {ls : Array Slot} (IC : kI (cw qc aI) G A s C H locs) (ID : kI (dw qd aI) G A s D H locs) (hl : lv_has ls 4 [(3, .int (nI (4 * j))), (0, .ref b), (1, .ref (qc 0)), (2, .ref (qd 0))]) (hop : op_as Inv) (kk : ∀ (C' D' : xM) (H : Heap) (locs : List Loc), Inv C' D' (j + 1) → kI (cw qc aI) G A s C' H locs → kI (dw qd aI) G A s D' H locs → W p l e room_1 s m #[Value.ref b] below meth c H locs 34 400 (lw_Z below #[Value.ref b] s) (F0 m 635 ls [])) : W p l e room_1 s m #[Value.ref b] below meth c H locs 34 400 (lw_Z below #[Value.ref b] s) (F0 m 256 ls []) := by
  have hx := X.1
  have hb := X.2.1
  obtain ⟨z1, ez1⟩ : ∃ z : Int32, z = xs (nI (4 * j) + 1).toNatClampNeg := ⟨_, rfl⟩
  obtain ⟨z2, ez2⟩ : ∃ z : Int32, z = xs (nI (4 * j) + 2).toNatClampNeg := ⟨_, rfl⟩
  obtain ⟨r, h5, h6, hI1⟩ := hop C D j (by omega) hI z1 z2
  refine lv_aload_n hx hb dL_law_256 rfl (lv_at hl 2 rfl) ?_
  refine lv_aload_n hx hb dL_law_257 rfl (lv_at hl 1 rfl) ?_
  refine lv_iload_n hx hb dL_law_258 rfl (lv_at hl 0 rfl) ?_
  refine lv_iconst (v := 1) hx hb dL_law_259 (by decide) ?_
  refine lv_iadd hx hb dL_law_260 ?_
  refine va_sld hx hb hX hbl hbA IC.2.2 (lw_in (k := 1) hj hL (by decide)) dL_law_261 ?_
  rw [← ez1]
  refine lv_aload_n hx hb dL_law_262 rfl (lv_at hl 1 rfl) ?_
  refine lv_iload_n hx hb dL_law_263 rfl (lv_at hl 0 rfl) ?_
  refine lv_iconst (v := 2) hx hb dL_law_264 (by decide) ?_
  refine lv_iadd hx hb dL_law_265 ?_
  refine va_sld hx hb hX hbl hbA IC.2.2 (lw_in (k := 2) hj hL (by decide)) dL_law_266 ?_
  rw [← ez2]
  refine k_callV2 (w := cw qc aI) (v := dw qd aI) (n := 2) (As := [.int z1, .int z2]) (rest := []) X IC ID (lwap1 hap) (c_X5_as h5) uw_3_3 uw_3_4 uw_3_5 uw_1_1 uw_3_6 ⟨rfl, rfl⟩ (by decide +kernel) rfl ⟨Nat.le_of_ble_eq_true rfl, Nat.le_of_ble_eq_true rfl⟩ ⟨Nat.le_of_ble_eq_true rfl, Nat.le_of_ble_eq_true rfl⟩ 0 cwG_0 rfl hl.1 rfl (Nat.le_of_ble_eq_true rfl) dL_law_267 (st1 := [.int r]) rfl (fun H locs IC ID => ?_)
  refine lv_aload_n hx hb dL_law_270 rfl (lv_at hl 3 rfl) ?_
  refine lv_aload_n hx hb dL_law_271 rfl (lv_at hl 1 rfl) ?_
  refine lv_iload_n hx hb dL_law_272 rfl (lv_at hl 0 rfl) ?_
  refine lv_iconst (v := 1) hx hb dL_law_273 (by decide) ?_
  refine lv_iadd hx hb dL_law_274 ?_
  refine va_sld hx hb hX hbl hbA IC.2.2 (lw_in (k := 1) hj hL (by decide)) dL_law_275 ?_
  rw [← ez1]
  refine lv_aload_n hx hb dL_law_276 rfl (lv_at hl 1 rfl) ?_
  refine lv_iload_n hx hb dL_law_277 rfl (lv_at hl 0 rfl) ?_
  refine lv_iconst (v := 2) hx hb dL_law_278 (by decide) ?_
  refine lv_iadd hx hb dL_law_279 ?_
  refine va_sld hx hb hX hbl hbA IC.2.2 (lw_in (k := 2) hj hL (by decide)) dL_law_280 ?_
  rw [← ez2]
  refine k_callV2 (w := dw qd aI) (v := cw qc aI) (n := 2) (As := [.int z1, .int z2]) (rest := [.int r]) X ID IC (lwap2 hap) (c_X6_as h6) uw_4_175 uw_4_176 uw_4_177 uw_1_7 uw_4_178 ⟨rfl, rfl⟩ (by decide +kernel) rfl ⟨Nat.le_of_ble_eq_true rfl, Nat.le_of_ble_eq_true rfl⟩ ⟨Nat.le_of_ble_eq_true rfl, Nat.le_of_ble_eq_true rfl⟩ 0 dwG_0 rfl hl.1 rfl (Nat.le_of_ble_eq_true rfl) dL_law_281 (st1 := [.int r, .int r]) rfl (fun H locs ID IC => ?_)
  refine lv_icmp_eq (tgt := 635) hx hb dL_law_284 (by decide) (fun c9 => ?_) (fun c9 => absurd rfl c9)
  exact kk C D H locs hI1 IC ID
set_option maxRecDepth 100000 in
set_option maxHeartbeats 4000000 in
theorem lw_c7 {p : Program} {l : Launch} {e : Env} {s : State} {m : MethodId} {below : List Frame} {meth : Method} {c : Code} {G : va_G} {aI : ClassId} {t qc qd : Nat → Nat} {A : Nat → Prop} {b L : Nat} {xs : Nat → Int32} {Inv : xM → xM → Nat → Prop} (X : kX G aI t p s m #[Value.ref b] c code RL 4 A) (hX : va_X b L xs s s.heap) (hbl : b < s.heap.size) (hbA : ¬ A b) (hap : lwap qc qd) {j : Nat} (hj : 4 * j + 4 ≤ L) (hL : L ≤ 256) {C D : xM} (hI : Inv C D j) {H : Heap} {locs : List Loc} {ls : Array Slot} (IC : kI (cw qc aI) G A s C H locs) (ID : kI (dw qd aI) G A s D H locs) (hl : lv_has ls 4 [(3, .int (nI (4 * j))), (0, .ref b), (1, .ref (qc 0)), (2, .ref (qd 0))]) (hop : op_wrong Inv) (kk : ∀ (C' D' : xM) (H : Heap) (locs : List Loc), Inv C' D' (j + 1) → kI (cw qc aI) G A s C' H locs → kI (dw qd aI) G A s D' H locs → W p l e room_1 s m #[Value.ref b] below meth c H locs 34 400 (lw_Z below #[Value.ref b] s) (F0 m 635 ls [])) : W p l e room_1 s m #[Value.ref b] below meth c H locs 34 400 (lw_Z below #[Value.ref b] s) (F0 m 289 ls []) := by
  have hx := X.1
  have hb := X.2.1
  obtain ⟨z1, ez1⟩ : ∃ z : Int32, z = xs (nI (4 * j) + 1).toNatClampNeg := ⟨_, rfl⟩
  obtain ⟨z2, ez2⟩ : ∃ z : Int32, z = xs (nI (4 * j) + 2).toNatClampNeg := ⟨_, rfl⟩
  obtain ⟨r, h5, h6, hI1⟩ := hop C D j (by omega) hI z1 z2
  refine lv_aload_n hx hb dL_law_289 rfl (lv_at hl 2 rfl) ?_
  refine lv_aload_n hx hb dL_law_290 rfl (lv_at hl 1 rfl) ?_
  refine lv_iload_n hx hb dL_law_291 rfl (lv_at hl 0 rfl) ?_
  refine lv_iconst (v := 1) hx hb dL_law_292 (by decide) ?_
  refine lv_iadd hx hb dL_law_293 ?_
  refine va_sld hx hb hX hbl hbA IC.2.2 (lw_in (k := 1) hj hL (by decide)) dL_law_294 ?_
  rw [← ez1]
  refine lv_aload_n hx hb dL_law_295 rfl (lv_at hl 1 rfl) ?_
  refine lv_iload_n hx hb dL_law_296 rfl (lv_at hl 0 rfl) ?_
  refine lv_iconst (v := 2) hx hb dL_law_297 (by decide) ?_
  refine lv_iadd hx hb dL_law_298 ?_
  refine va_sld hx hb hX hbl hbA IC.2.2 (lw_in (k := 2) hj hL (by decide)) dL_law_299 ?_
  rw [← ez2]
  refine k_callV2 (w := cw qc aI) (v := dw qd aI) (n := 2) (As := [.int z1, .int z2]) (rest := []) X IC ID (lwap1 hap) (c_X5_wrong h5) uw_3_11 uw_3_12 uw_3_13 uw_1_1 uw_3_14 ⟨rfl, rfl⟩ (by decide +kernel) rfl ⟨Nat.le_of_ble_eq_true rfl, Nat.le_of_ble_eq_true rfl⟩ ⟨Nat.le_of_ble_eq_true rfl, Nat.le_of_ble_eq_true rfl⟩ 0 cwG_0 rfl hl.1 rfl (Nat.le_of_ble_eq_true rfl) dL_law_300 (st1 := [.int r]) rfl (fun H locs IC ID => ?_)
  refine lv_aload_n hx hb dL_law_303 rfl (lv_at hl 3 rfl) ?_
  refine lv_aload_n hx hb dL_law_304 rfl (lv_at hl 1 rfl) ?_
  refine lv_iload_n hx hb dL_law_305 rfl (lv_at hl 0 rfl) ?_
  refine lv_iconst (v := 1) hx hb dL_law_306 (by decide) ?_
  refine lv_iadd hx hb dL_law_307 ?_
  refine va_sld hx hb hX hbl hbA IC.2.2 (lw_in (k := 1) hj hL (by decide)) dL_law_308 ?_
  rw [← ez1]
  refine lv_aload_n hx hb dL_law_309 rfl (lv_at hl 1 rfl) ?_
  refine lv_iload_n hx hb dL_law_310 rfl (lv_at hl 0 rfl) ?_
  refine lv_iconst (v := 2) hx hb dL_law_311 (by decide) ?_
  refine lv_iadd hx hb dL_law_312 ?_
  refine va_sld hx hb hX hbl hbA IC.2.2 (lw_in (k := 2) hj hL (by decide)) dL_law_313 ?_
  rw [← ez2]
  refine k_callV2 (w := dw qd aI) (v := cw qc aI) (n := 2) (As := [.int z1, .int z2]) (rest := [.int r]) X ID IC (lwap2 hap) (c_X6_wrong h6) uw_4_180 uw_4_181 uw_4_182 uw_1_7 uw_4_183 ⟨rfl, rfl⟩ (by decide +kernel) rfl ⟨Nat.le_of_ble_eq_true rfl, Nat.le_of_ble_eq_true rfl⟩ ⟨Nat.le_of_ble_eq_true rfl, Nat.le_of_ble_eq_true rfl⟩ 0 dwG_0 rfl hl.1 rfl (Nat.le_of_ble_eq_true rfl) dL_law_314 (st1 := [.int r, .int r]) rfl (fun H locs ID IC => ?_)
  refine lv_icmp_eq (tgt := 635) hx hb dL_law_317 (by decide) (fun c9 => ?_) (fun c9 => absurd rfl c9)
  exact kk C D H locs hI1 IC ID
set_option maxRecDepth 100000 in
set_option maxHeartbeats 4000000 in
theorem lw_c8 {p : Program} {l : Launch} {e : Env} {s : State} {m : MethodId} {below : List Frame} {meth : Method} {c : Code} {G : va_G} {aI : ClassId} {t qc qd : Nat → Nat} {A : Nat → Prop} {b L : Nat} {xs : Nat → Int32} {Inv : xM → xM → Nat → Prop} (X : kX G aI t p s m #[Value.ref b] c code RL 4 A) (hX : va_X b L xs s s.heap) (hbl : b < s.heap.size) (hbA : ¬ A b) (hap : lwap qc qd) {j : Nat} (hj : 4 * j + 4 ≤ L) (hL : L ≤ 256) {C D : xM} (hI : Inv C D j) {H : Heap} {locs : List Loc} {ls : Array Slot} (IC : kI (cw qc aI) G A s C H locs) (ID : kI (dw qd aI) G A s D H locs) (hl : lv_has ls 4 [(3, .int (nI (4 * j))), (0, .ref b), (1, .ref (qc 0)), (2, .ref (qd 0))]) (hop : op_give Inv) (kk : ∀ (C' D' : xM) (H : Heap) (locs : List Loc), Inv C' D' (j + 1) → kI (cw qc aI) G A s C' H locs → kI (dw qd aI) G A s D' H locs → W p l e room_1 s m #[Value.ref b] below meth c H locs 34 400 (lw_Z below #[Value.ref b] s) (F0 m 635 ls [])) : W p l e room_1 s m #[Value.ref b] below meth c H locs 34 400 (lw_Z below #[Value.ref b] s) (F0 m 322 ls []) := by
  have hx := X.1
  have hb := X.2.1
  obtain ⟨z1, ez1⟩ : ∃ z : Int32, z = xs (nI (4 * j) + 1).toNatClampNeg := ⟨_, rfl⟩
  obtain ⟨z2, ez2⟩ : ∃ z : Int32, z = xs (nI (4 * j) + 2).toNatClampNeg := ⟨_, rfl⟩
  obtain ⟨r, C1, D1, h5, h6, hI1⟩ := hop C D j (by omega) hI z1 z2
  refine lv_aload_n hx hb dL_law_322 rfl (lv_at hl 2 rfl) ?_
  refine lv_aload_n hx hb dL_law_323 rfl (lv_at hl 1 rfl) ?_
  refine lv_iload_n hx hb dL_law_324 rfl (lv_at hl 0 rfl) ?_
  refine lv_iconst (v := 1) hx hb dL_law_325 (by decide) ?_
  refine lv_iadd hx hb dL_law_326 ?_
  refine va_sld hx hb hX hbl hbA IC.2.2 (lw_in (k := 1) hj hL (by decide)) dL_law_327 ?_
  rw [← ez1]
  refine lv_aload_n hx hb dL_law_328 rfl (lv_at hl 1 rfl) ?_
  refine lv_iload_n hx hb dL_law_329 rfl (lv_at hl 0 rfl) ?_
  refine lv_iconst (v := 2) hx hb dL_law_330 (by decide) ?_
  refine lv_iadd hx hb dL_law_331 ?_
  refine va_sld hx hb hX hbl hbA IC.2.2 (lw_in (k := 2) hj hL (by decide)) dL_law_332 ?_
  rw [← ez2]
  refine k_callV2 (w := cw qc aI) (v := dw qd aI) (n := 2) (As := [.int z1, .int z2]) (rest := []) X IC ID (lwap1 hap) (c_X5_give h5) uw_3_25 uw_3_26 uw_3_27 uw_1_1 uw_3_28 ⟨rfl, rfl⟩ (by decide +kernel) rfl ⟨Nat.le_of_ble_eq_true rfl, Nat.le_of_ble_eq_true rfl⟩ ⟨Nat.le_of_ble_eq_true rfl, Nat.le_of_ble_eq_true rfl⟩ 0 cwG_0 rfl hl.1 rfl (Nat.le_of_ble_eq_true rfl) dL_law_333 (st1 := [.int r]) rfl (fun H locs IC ID => ?_)
  refine lv_aload_n hx hb dL_law_336 rfl (lv_at hl 3 rfl) ?_
  refine lv_aload_n hx hb dL_law_337 rfl (lv_at hl 1 rfl) ?_
  refine lv_iload_n hx hb dL_law_338 rfl (lv_at hl 0 rfl) ?_
  refine lv_iconst (v := 1) hx hb dL_law_339 (by decide) ?_
  refine lv_iadd hx hb dL_law_340 ?_
  refine va_sld hx hb hX hbl hbA IC.2.2 (lw_in (k := 1) hj hL (by decide)) dL_law_341 ?_
  rw [← ez1]
  refine lv_aload_n hx hb dL_law_342 rfl (lv_at hl 1 rfl) ?_
  refine lv_iload_n hx hb dL_law_343 rfl (lv_at hl 0 rfl) ?_
  refine lv_iconst (v := 2) hx hb dL_law_344 (by decide) ?_
  refine lv_iadd hx hb dL_law_345 ?_
  refine va_sld hx hb hX hbl hbA IC.2.2 (lw_in (k := 2) hj hL (by decide)) dL_law_346 ?_
  rw [← ez2]
  refine k_callV2 (w := dw qd aI) (v := cw qc aI) (n := 2) (As := [.int z1, .int z2]) (rest := [.int r]) X ID IC (lwap2 hap) (c_X6_give h6) uw_4_184 uw_4_185 uw_4_186 uw_1_7 uw_4_187 ⟨rfl, rfl⟩ (by decide +kernel) rfl ⟨Nat.le_of_ble_eq_true rfl, Nat.le_of_ble_eq_true rfl⟩ ⟨Nat.le_of_ble_eq_true rfl, Nat.le_of_ble_eq_true rfl⟩ 0 dwG_0 rfl hl.1 rfl (Nat.le_of_ble_eq_true rfl) dL_law_347 (st1 := [.int r, .int r]) rfl (fun H locs ID IC => ?_)
  refine lv_icmp_eq (tgt := 635) hx hb dL_law_350 (by decide) (fun c9 => ?_) (fun c9 => absurd rfl c9)
  exact kk C1 D1 H locs hI1 IC ID
set_option maxRecDepth 100000 in
set_option maxHeartbeats 4000000 in
theorem lw_c9 {p : Program} {l : Launch} {e : Env} {s : State} {m : MethodId} {below : List Frame} {meth : Method} {c : Code} {G : va_G} {aI : ClassId} {t qc qd : Nat → Nat} {A : Nat → Prop} {b L : Nat} {xs : Nat → Int32} {Inv : xM → xM → Nat → Prop} (X : kX G aI t p s m #[Value.ref b] c code RL 4 A) (hX : va_X b L xs s s.heap) (hbl : b < s.heap.size) (hbA : ¬ A b) (hap : lwap qc qd) {j : Nat} (hj : 4 * j + 4 ≤ L) (hL : L ≤ 256) {C D : xM} (hI : Inv C D j) {H : Heap} {locs : List Loc} {ls : Array Slot} (IC : kI (cw qc aI) G A s C H locs) (ID : kI (dw qd aI) G A s D H locs) (hl : lv_has ls 4 [(3, .int (nI (4 * j))), (0, .ref b), (1, .ref (qc 0)), (2, .ref (qd 0))]) (hop : op_back Inv) (kk : ∀ (C' D' : xM) (H : Heap) (locs : List Loc), Inv C' D' (j + 1) → kI (cw qc aI) G A s C' H locs → kI (dw qd aI) G A s D' H locs → W p l e room_1 s m #[Value.ref b] below meth c H locs 34 400 (lw_Z below #[Value.ref b] s) (F0 m 635 ls [])) : W p l e room_1 s m #[Value.ref b] below meth c H locs 34 400 (lw_Z below #[Value.ref b] s) (F0 m 355 ls []) := by
  have hx := X.1
  have hb := X.2.1
  obtain ⟨z1, ez1⟩ : ∃ z : Int32, z = xs (nI (4 * j) + 1).toNatClampNeg := ⟨_, rfl⟩
  obtain ⟨r, C1, D1, h5, h6, hI1⟩ := hop C D j (by omega) hI z1
  refine lv_aload_n hx hb dL_law_355 rfl (lv_at hl 2 rfl) ?_
  refine lv_aload_n hx hb dL_law_356 rfl (lv_at hl 1 rfl) ?_
  refine lv_iload_n hx hb dL_law_357 rfl (lv_at hl 0 rfl) ?_
  refine lv_iconst (v := 1) hx hb dL_law_358 (by decide) ?_
  refine lv_iadd hx hb dL_law_359 ?_
  refine va_sld hx hb hX hbl hbA IC.2.2 (lw_in (k := 1) hj hL (by decide)) dL_law_360 ?_
  rw [← ez1]
  refine k_callV2 (w := cw qc aI) (v := dw qd aI) (n := 1) (As := [.int z1]) (rest := []) X IC ID (lwap1 hap) (c_X5_back h5) uw_3_33 uw_3_34 uw_3_35 uw_1_1 uw_3_36 ⟨rfl, rfl⟩ (by decide +kernel) rfl ⟨Nat.le_of_ble_eq_true rfl, Nat.le_of_ble_eq_true rfl⟩ ⟨Nat.le_of_ble_eq_true rfl, Nat.le_of_ble_eq_true rfl⟩ 0 cwG_0 rfl hl.1 rfl (Nat.le_of_ble_eq_true rfl) dL_law_361 (st1 := [.int r]) rfl (fun H locs IC ID => ?_)
  refine lv_aload_n hx hb dL_law_364 rfl (lv_at hl 3 rfl) ?_
  refine lv_aload_n hx hb dL_law_365 rfl (lv_at hl 1 rfl) ?_
  refine lv_iload_n hx hb dL_law_366 rfl (lv_at hl 0 rfl) ?_
  refine lv_iconst (v := 1) hx hb dL_law_367 (by decide) ?_
  refine lv_iadd hx hb dL_law_368 ?_
  refine va_sld hx hb hX hbl hbA IC.2.2 (lw_in (k := 1) hj hL (by decide)) dL_law_369 ?_
  rw [← ez1]
  refine k_callV2 (w := dw qd aI) (v := cw qc aI) (n := 1) (As := [.int z1]) (rest := [.int r]) X ID IC (lwap2 hap) (c_X6_back h6) uw_4_188 uw_4_189 uw_4_190 uw_1_7 uw_4_191 ⟨rfl, rfl⟩ (by decide +kernel) rfl ⟨Nat.le_of_ble_eq_true rfl, Nat.le_of_ble_eq_true rfl⟩ ⟨Nat.le_of_ble_eq_true rfl, Nat.le_of_ble_eq_true rfl⟩ 0 dwG_0 rfl hl.1 rfl (Nat.le_of_ble_eq_true rfl) dL_law_370 (st1 := [.int r, .int r]) rfl (fun H locs ID IC => ?_)
  refine lv_icmp_eq (tgt := 635) hx hb dL_law_373 (by decide) (fun c9 => ?_) (fun c9 => absurd rfl c9)
  exact kk C1 D1 H locs hI1 IC ID
set_option maxRecDepth 100000 in
set_option maxHeartbeats 4000000 in
theorem lw_c10 {p : Program} {l : Launch} {e : Env} {s : State} {m : MethodId} {below : List Frame} {meth : Method} {c : Code} {G : va_G} {aI : ClassId} {t qc qd : Nat → Nat} {A : Nat → Prop} {b L : Nat} {xs : Nat → Int32} {Inv : xM → xM → Nat → Prop} (X : kX G aI t p s m #[Value.ref b] c code RL 4 A) (hX : va_X b L xs s s.heap) (hbl : b < s.heap.size) (hbA : ¬ A b) (hap : lwap qc qd) {j : Nat} (hj : 4 * j + 4 ≤ L) (hL : L ≤ 256) {C D : xM} (hI : Inv C D j) {H : Heap} {locs : List Loc} {ls : Array Slot} (IC : kI (cw qc aI) G A s C H locs) (ID : kI (dw qd aI) G A s D H locs) (hl : lv_has ls 4 [(3, .int (nI (4 * j))), (0, .ref b), (1, .ref (qc 0)), (2, .ref (qd 0))]) (hop : op_remember Inv) (kk : ∀ (C' D' : xM) (H : Heap) (locs : List Loc), Inv C' D' (j + 1) → kI (cw qc aI) G A s C' H locs → kI (dw qd aI) G A s D' H locs → W p l e room_1 s m #[Value.ref b] below meth c H locs 34 400 (lw_Z below #[Value.ref b] s) (F0 m 635 ls [])) : W p l e room_1 s m #[Value.ref b] below meth c H locs 34 400 (lw_Z below #[Value.ref b] s) (F0 m 378 ls []) := by
  have hx := X.1
  have hb := X.2.1
  obtain ⟨z1, ez1⟩ : ∃ z : Int32, z = xs (nI (4 * j) + 1).toNatClampNeg := ⟨_, rfl⟩
  obtain ⟨z2, ez2⟩ : ∃ z : Int32, z = xs (nI (4 * j) + 2).toNatClampNeg := ⟨_, rfl⟩
  obtain ⟨z3, ez3⟩ : ∃ z : Int32, z = xs (nI (4 * j) + 3).toNatClampNeg := ⟨_, rfl⟩
  obtain ⟨r, C1, D1, h5, h6, hI1⟩ := hop C D j (by omega) hI z1 z2 z3
  refine lv_aload_n hx hb dL_law_378 rfl (lv_at hl 2 rfl) ?_
  refine lv_aload_n hx hb dL_law_379 rfl (lv_at hl 1 rfl) ?_
  refine lv_iload_n hx hb dL_law_380 rfl (lv_at hl 0 rfl) ?_
  refine lv_iconst (v := 1) hx hb dL_law_381 (by decide) ?_
  refine lv_iadd hx hb dL_law_382 ?_
  refine va_sld hx hb hX hbl hbA IC.2.2 (lw_in (k := 1) hj hL (by decide)) dL_law_383 ?_
  rw [← ez1]
  refine lv_aload_n hx hb dL_law_384 rfl (lv_at hl 1 rfl) ?_
  refine lv_iload_n hx hb dL_law_385 rfl (lv_at hl 0 rfl) ?_
  refine lv_iconst (v := 2) hx hb dL_law_386 (by decide) ?_
  refine lv_iadd hx hb dL_law_387 ?_
  refine va_sld hx hb hX hbl hbA IC.2.2 (lw_in (k := 2) hj hL (by decide)) dL_law_388 ?_
  rw [← ez2]
  refine lv_aload_n hx hb dL_law_389 rfl (lv_at hl 1 rfl) ?_
  refine lv_iload_n hx hb dL_law_390 rfl (lv_at hl 0 rfl) ?_
  refine lv_iconst (v := 3) hx hb dL_law_391 (by decide) ?_
  refine lv_iadd hx hb dL_law_392 ?_
  refine va_sld hx hb hX hbl hbA IC.2.2 (lw_in (k := 3) hj hL (by decide)) dL_law_393 ?_
  rw [← ez3]
  refine k_callV2 (w := cw qc aI) (v := dw qd aI) (n := 3) (As := [.int z1, .int z2, .int z3]) (rest := []) X IC ID (lwap1 hap) (c_X5_remember h5) uw_3_37 uw_3_38 uw_3_39 uw_1_1 uw_3_40 ⟨rfl, rfl⟩ (by decide +kernel) rfl ⟨Nat.le_of_ble_eq_true rfl, Nat.le_of_ble_eq_true rfl⟩ ⟨Nat.le_of_ble_eq_true rfl, Nat.le_of_ble_eq_true rfl⟩ 0 cwG_0 rfl hl.1 rfl (Nat.le_of_ble_eq_true rfl) dL_law_394 (st1 := [.int r]) rfl (fun H locs IC ID => ?_)
  refine lv_aload_n hx hb dL_law_397 rfl (lv_at hl 3 rfl) ?_
  refine lv_aload_n hx hb dL_law_398 rfl (lv_at hl 1 rfl) ?_
  refine lv_iload_n hx hb dL_law_399 rfl (lv_at hl 0 rfl) ?_
  refine lv_iconst (v := 1) hx hb dL_law_400 (by decide) ?_
  refine lv_iadd hx hb dL_law_401 ?_
  refine va_sld hx hb hX hbl hbA IC.2.2 (lw_in (k := 1) hj hL (by decide)) dL_law_402 ?_
  rw [← ez1]
  refine lv_aload_n hx hb dL_law_403 rfl (lv_at hl 1 rfl) ?_
  refine lv_iload_n hx hb dL_law_404 rfl (lv_at hl 0 rfl) ?_
  refine lv_iconst (v := 2) hx hb dL_law_405 (by decide) ?_
  refine lv_iadd hx hb dL_law_406 ?_
  refine va_sld hx hb hX hbl hbA IC.2.2 (lw_in (k := 2) hj hL (by decide)) dL_law_407 ?_
  rw [← ez2]
  refine lv_aload_n hx hb dL_law_408 rfl (lv_at hl 1 rfl) ?_
  refine lv_iload_n hx hb dL_law_409 rfl (lv_at hl 0 rfl) ?_
  refine lv_iconst (v := 3) hx hb dL_law_410 (by decide) ?_
  refine lv_iadd hx hb dL_law_411 ?_
  refine va_sld hx hb hX hbl hbA IC.2.2 (lw_in (k := 3) hj hL (by decide)) dL_law_412 ?_
  rw [← ez3]
  refine k_callV2 (w := dw qd aI) (v := cw qc aI) (n := 3) (As := [.int z1, .int z2, .int z3]) (rest := [.int r]) X ID IC (lwap2 hap) (c_X6_remember h6) uw_4_192 uw_4_193 uw_4_194 uw_1_7 uw_4_195 ⟨rfl, rfl⟩ (by decide +kernel) rfl ⟨Nat.le_of_ble_eq_true rfl, Nat.le_of_ble_eq_true rfl⟩ ⟨Nat.le_of_ble_eq_true rfl, Nat.le_of_ble_eq_true rfl⟩ 0 dwG_0 rfl hl.1 rfl (Nat.le_of_ble_eq_true rfl) dL_law_413 (st1 := [.int r, .int r]) rfl (fun H locs ID IC => ?_)
  refine lv_icmp_eq (tgt := 635) hx hb dL_law_416 (by decide) (fun c9 => ?_) (fun c9 => absurd rfl c9)
  exact kk C1 D1 H locs hI1 IC ID
set_option maxRecDepth 100000 in
set_option maxHeartbeats 4000000 in
theorem lw_c11 {p : Program} {l : Launch} {e : Env} {s : State} {m : MethodId} {below : List Frame} {meth : Method} {c : Code} {G : va_G} {aI : ClassId} {t qc qd : Nat → Nat} {A : Nat → Prop} {b L : Nat} {xs : Nat → Int32} {Inv : xM → xM → Nat → Prop} (X : kX G aI t p s m #[Value.ref b] c code RL 4 A) (hX : va_X b L xs s s.heap) (hbl : b < s.heap.size) (hbA : ¬ A b) (hap : lwap qc qd) {j : Nat} (hj : 4 * j + 4 ≤ L) (hL : L ≤ 256) {C D : xM} (hI : Inv C D j) {H : Heap} {locs : List Loc} {ls : Array Slot} (IC : kI (cw qc aI) G A s C H locs) (ID : kI (dw qd aI) G A s D H locs) (hl : lv_has ls 4 [(3, .int (nI (4 * j))), (0, .ref b), (1, .ref (qc 0)), (2, .ref (qd 0))]) (hop : op_six Inv) (kk : ∀ (C' D' : xM) (H : Heap) (locs : List Loc), Inv C' D' (j + 1) → kI (cw qc aI) G A s C' H locs → kI (dw qd aI) G A s D' H locs → W p l e room_1 s m #[Value.ref b] below meth c H locs 34 400 (lw_Z below #[Value.ref b] s) (F0 m 635 ls [])) : W p l e room_1 s m #[Value.ref b] below meth c H locs 34 400 (lw_Z below #[Value.ref b] s) (F0 m 421 ls []) := by
  have hx := X.1
  have hb := X.2.1
  obtain ⟨r, C1, D1, h5, h6, hI1⟩ := hop C D j (by omega) hI
  refine lv_aload_n hx hb dL_law_421 rfl (lv_at hl 2 rfl) ?_
  refine k_callV2 (w := cw qc aI) (v := dw qd aI) (n := 0) (As := []) (rest := []) X IC ID (lwap1 hap) (c_X5_six h5) uw_3_43 uw_3_44 uw_3_45 uw_1_1 uw_3_46 ⟨rfl, rfl⟩ (by decide +kernel) rfl ⟨Nat.le_of_ble_eq_true rfl, Nat.le_of_ble_eq_true rfl⟩ ⟨Nat.le_of_ble_eq_true rfl, Nat.le_of_ble_eq_true rfl⟩ 0 cwG_0 rfl hl.1 rfl (Nat.le_of_ble_eq_true rfl) dL_law_422 (st1 := [.int r]) rfl (fun H locs IC ID => ?_)
  refine lv_aload_n hx hb dL_law_425 rfl (lv_at hl 3 rfl) ?_
  refine k_callV2 (w := dw qd aI) (v := cw qc aI) (n := 0) (As := []) (rest := [.int r]) X ID IC (lwap2 hap) (c_X6_six h6) uw_4_197 uw_4_198 uw_4_199 uw_1_7 uw_4_200 ⟨rfl, rfl⟩ (by decide +kernel) rfl ⟨Nat.le_of_ble_eq_true rfl, Nat.le_of_ble_eq_true rfl⟩ ⟨Nat.le_of_ble_eq_true rfl, Nat.le_of_ble_eq_true rfl⟩ 0 dwG_0 rfl hl.1 rfl (Nat.le_of_ble_eq_true rfl) dL_law_426 (st1 := [.int r, .int r]) rfl (fun H locs ID IC => ?_)
  refine lv_icmp_eq (tgt := 635) hx hb dL_law_429 (by decide) (fun c9 => ?_) (fun c9 => absurd rfl c9)
  exact kk C1 D1 H locs hI1 IC ID
set_option maxRecDepth 100000 in
set_option maxHeartbeats 4000000 in
theorem lw_c12 {p : Program} {l : Launch} {e : Env} {s : State} {m : MethodId} {below : List Frame} {meth : Method} {c : Code} {G : va_G} {aI : ClassId} {t qc qd : Nat → Nat} {A : Nat → Prop} {b L : Nat} {xs : Nat → Int32} {Inv : xM → xM → Nat → Prop} (X : kX G aI t p s m #[Value.ref b] c code RL 4 A) (hX : va_X b L xs s s.heap) (hbl : b < s.heap.size) (hbA : ¬ A b) (hap : lwap qc qd) {j : Nat} (hj : 4 * j + 4 ≤ L) (hL : L ≤ 256) {C D : xM} (hI : Inv C D j) {H : Heap} {locs : List Loc} {ls : Array Slot} (IC : kI (cw qc aI) G A s C H locs) (ID : kI (dw qd aI) G A s D H locs) (hl : lv_has ls 4 [(3, .int (nI (4 * j))), (0, .ref b), (1, .ref (qc 0)), (2, .ref (qd 0))]) (hop : op_match Inv) (kk : ∀ (C' D' : xM) (H : Heap) (locs : List Loc), Inv C' D' (j + 1) → kI (cw qc aI) G A s C' H locs → kI (dw qd aI) G A s D' H locs → W p l e room_1 s m #[Value.ref b] below meth c H locs 34 400 (lw_Z below #[Value.ref b] s) (F0 m 635 ls [])) : W p l e room_1 s m #[Value.ref b] below meth c H locs 34 400 (lw_Z below #[Value.ref b] s) (F0 m 434 ls []) := by
  have hx := X.1
  have hb := X.2.1
  obtain ⟨z1, ez1⟩ : ∃ z : Int32, z = xs (nI (4 * j) + 1).toNatClampNeg := ⟨_, rfl⟩
  obtain ⟨r, C1, D1, h5, h6, hI1⟩ := hop C D j (by omega) hI z1
  refine lv_aload_n hx hb dL_law_434 rfl (lv_at hl 2 rfl) ?_
  refine lv_aload_n hx hb dL_law_435 rfl (lv_at hl 1 rfl) ?_
  refine lv_iload_n hx hb dL_law_436 rfl (lv_at hl 0 rfl) ?_
  refine lv_iconst (v := 1) hx hb dL_law_437 (by decide) ?_
  refine lv_iadd hx hb dL_law_438 ?_
  refine va_sld hx hb hX hbl hbA IC.2.2 (lw_in (k := 1) hj hL (by decide)) dL_law_439 ?_
  rw [← ez1]
  refine k_callV2 (w := cw qc aI) (v := dw qd aI) (n := 1) (As := [.int z1]) (rest := []) X IC ID (lwap1 hap) (c_X5_match h5) uw_3_68 uw_3_69 uw_3_70 uw_1_1 uw_3_71 ⟨rfl, rfl⟩ (by decide +kernel) rfl ⟨Nat.le_of_ble_eq_true rfl, Nat.le_of_ble_eq_true rfl⟩ ⟨Nat.le_of_ble_eq_true rfl, Nat.le_of_ble_eq_true rfl⟩ 0 cwG_0 rfl hl.1 rfl (Nat.le_of_ble_eq_true rfl) dL_law_440 (st1 := [.int r]) rfl (fun H locs IC ID => ?_)
  refine lv_aload_n hx hb dL_law_443 rfl (lv_at hl 3 rfl) ?_
  refine lv_aload_n hx hb dL_law_444 rfl (lv_at hl 1 rfl) ?_
  refine lv_iload_n hx hb dL_law_445 rfl (lv_at hl 0 rfl) ?_
  refine lv_iconst (v := 1) hx hb dL_law_446 (by decide) ?_
  refine lv_iadd hx hb dL_law_447 ?_
  refine va_sld hx hb hX hbl hbA IC.2.2 (lw_in (k := 1) hj hL (by decide)) dL_law_448 ?_
  rw [← ez1]
  refine k_callV2 (w := dw qd aI) (v := cw qc aI) (n := 1) (As := [.int z1]) (rest := [.int r]) X ID IC (lwap2 hap) (c_X6_match h6) uw_4_209 uw_4_210 uw_4_211 uw_1_7 uw_4_212 ⟨rfl, rfl⟩ (by decide +kernel) rfl ⟨Nat.le_of_ble_eq_true rfl, Nat.le_of_ble_eq_true rfl⟩ ⟨Nat.le_of_ble_eq_true rfl, Nat.le_of_ble_eq_true rfl⟩ 0 dwG_0 rfl hl.1 rfl (Nat.le_of_ble_eq_true rfl) dL_law_449 (st1 := [.int r, .int r]) rfl (fun H locs ID IC => ?_)
  refine lv_icmp_eq (tgt := 635) hx hb dL_law_452 (by decide) (fun c9 => ?_) (fun c9 => absurd rfl c9)
  exact kk C1 D1 H locs hI1 IC ID
set_option maxRecDepth 100000 in
set_option maxHeartbeats 4000000 in
theorem lw_c13 {p : Program} {l : Launch} {e : Env} {s : State} {m : MethodId} {below : List Frame} {meth : Method} {c : Code} {G : va_G} {aI : ClassId} {t qc qd : Nat → Nat} {A : Nat → Prop} {b L : Nat} {xs : Nat → Int32} {Inv : xM → xM → Nat → Prop} (X : kX G aI t p s m #[Value.ref b] c code RL 4 A) (hX : va_X b L xs s s.heap) (hbl : b < s.heap.size) (hbA : ¬ A b) (hap : lwap qc qd) {j : Nat} (hj : 4 * j + 4 ≤ L) (hL : L ≤ 256) {C D : xM} (hI : Inv C D j) {H : Heap} {locs : List Loc} {ls : Array Slot} (IC : kI (cw qc aI) G A s C H locs) (ID : kI (dw qd aI) G A s D H locs) (hl : lv_has ls 4 [(3, .int (nI (4 * j))), (0, .ref b), (1, .ref (qc 0)), (2, .ref (qd 0))]) (hop : op_see Inv) (kk : ∀ (C' D' : xM) (H : Heap) (locs : List Loc), Inv C' D' (j + 1) → kI (cw qc aI) G A s C' H locs → kI (dw qd aI) G A s D' H locs → W p l e room_1 s m #[Value.ref b] below meth c H locs 34 400 (lw_Z below #[Value.ref b] s) (F0 m 635 ls [])) : W p l e room_1 s m #[Value.ref b] below meth c H locs 34 400 (lw_Z below #[Value.ref b] s) (F0 m 457 ls []) := by
  have hx := X.1
  have hb := X.2.1
  obtain ⟨z1, ez1⟩ : ∃ z : Int32, z = xs (nI (4 * j) + 1).toNatClampNeg := ⟨_, rfl⟩
  obtain ⟨z2, ez2⟩ : ∃ z : Int32, z = xs (nI (4 * j) + 2).toNatClampNeg := ⟨_, rfl⟩
  obtain ⟨z3, ez3⟩ : ∃ z : Int32, z = xs (nI (4 * j) + 3).toNatClampNeg := ⟨_, rfl⟩
  obtain ⟨bz, hbz, hb0, hb1⟩ : ∃ z : Int32, (z = 0 ∨ z = 1) ∧ (z3 = 0 → z = 0) ∧ (¬ z3 = 0 → z = 1) := by
    by_cases h : z3 = 0
    · exact ⟨0, Or.inl rfl, fun _ => rfl, fun g => absurd h g⟩
    · exact ⟨1, Or.inr rfl, fun g => absurd g h, fun _ => rfl⟩
  obtain ⟨r, C1, D1, h5, h6, hI1⟩ := hop C D j (by omega) hI z1 z2 bz hbz
  refine lv_aload_n hx hb dL_law_457 rfl (lv_at hl 2 rfl) ?_
  refine lv_aload_n hx hb dL_law_458 rfl (lv_at hl 1 rfl) ?_
  refine lv_iload_n hx hb dL_law_459 rfl (lv_at hl 0 rfl) ?_
  refine lv_iconst (v := 1) hx hb dL_law_460 (by decide) ?_
  refine lv_iadd hx hb dL_law_461 ?_
  refine va_sld hx hb hX hbl hbA IC.2.2 (lw_in (k := 1) hj hL (by decide)) dL_law_462 ?_
  rw [← ez1]
  refine lv_aload_n hx hb dL_law_463 rfl (lv_at hl 1 rfl) ?_
  refine lv_iload_n hx hb dL_law_464 rfl (lv_at hl 0 rfl) ?_
  refine lv_iconst (v := 2) hx hb dL_law_465 (by decide) ?_
  refine lv_iadd hx hb dL_law_466 ?_
  refine va_sld hx hb hX hbl hbA IC.2.2 (lw_in (k := 2) hj hL (by decide)) dL_law_467 ?_
  rw [← ez2]
  refine lv_aload_n hx hb dL_law_468 rfl (lv_at hl 1 rfl) ?_
  refine lv_iload_n hx hb dL_law_469 rfl (lv_at hl 0 rfl) ?_
  refine lv_iconst (v := 3) hx hb dL_law_470 (by decide) ?_
  refine lv_iadd hx hb dL_law_471 ?_
  refine va_sld hx hb hX hbl hbA IC.2.2 (lw_in (k := 3) hj hL (by decide)) dL_law_472 ?_
  rw [← ez3]
  have hzc : W p l e room_1 s m #[Value.ref b] below meth c H locs 34 400 (lw_Z below #[Value.ref b] s) (F0 m 481 ls [.int bz, .int z2, .int z1, .ref (qc 0)]) := ?_
  · refine lv_if_eq (tgt := 480) hx hb dL_law_473 (by decide) (fun c1 => ?_) (fun c1 => ?_)
    · refine lv_iconst (v := 0) hx hb dL_law_480 (by decide) ?_
      rw [hb0 c1] at hzc
      exact hzc
    · refine lv_iconst (v := 1) hx hb dL_law_476 (by decide) ?_
      refine lv_goto (tgt := 481) hx hb dL_law_477 (by decide) ?_
      rw [hb1 c1] at hzc
      exact hzc
  refine k_callV2 (w := cw qc aI) (v := dw qd aI) (n := 3) (As := [.int z1, .int z2, .int bz]) (rest := []) X IC ID (lwap1 hap) (c_X5_see h5) uw_3_119 uw_3_120 uw_3_121 uw_1_1 uw_3_122 ⟨rfl, rfl⟩ (by decide +kernel) rfl ⟨Nat.le_of_ble_eq_true rfl, Nat.le_of_ble_eq_true rfl⟩ ⟨Nat.le_of_ble_eq_true rfl, Nat.le_of_ble_eq_true rfl⟩ 0 cwG_0 rfl hl.1 rfl (Nat.le_of_ble_eq_true rfl) dL_law_481 (st1 := [.int r]) rfl (fun H locs IC ID => ?_)
  refine lv_aload_n hx hb dL_law_484 rfl (lv_at hl 3 rfl) ?_
  refine lv_aload_n hx hb dL_law_485 rfl (lv_at hl 1 rfl) ?_
  refine lv_iload_n hx hb dL_law_486 rfl (lv_at hl 0 rfl) ?_
  refine lv_iconst (v := 1) hx hb dL_law_487 (by decide) ?_
  refine lv_iadd hx hb dL_law_488 ?_
  refine va_sld hx hb hX hbl hbA IC.2.2 (lw_in (k := 1) hj hL (by decide)) dL_law_489 ?_
  rw [← ez1]
  refine lv_aload_n hx hb dL_law_490 rfl (lv_at hl 1 rfl) ?_
  refine lv_iload_n hx hb dL_law_491 rfl (lv_at hl 0 rfl) ?_
  refine lv_iconst (v := 2) hx hb dL_law_492 (by decide) ?_
  refine lv_iadd hx hb dL_law_493 ?_
  refine va_sld hx hb hX hbl hbA IC.2.2 (lw_in (k := 2) hj hL (by decide)) dL_law_494 ?_
  rw [← ez2]
  refine lv_aload_n hx hb dL_law_495 rfl (lv_at hl 1 rfl) ?_
  refine lv_iload_n hx hb dL_law_496 rfl (lv_at hl 0 rfl) ?_
  refine lv_iconst (v := 3) hx hb dL_law_497 (by decide) ?_
  refine lv_iadd hx hb dL_law_498 ?_
  refine va_sld hx hb hX hbl hbA IC.2.2 (lw_in (k := 3) hj hL (by decide)) dL_law_499 ?_
  rw [← ez3]
  have hzd : W p l e room_1 s m #[Value.ref b] below meth c H locs 34 400 (lw_Z below #[Value.ref b] s) (F0 m 508 ls [.int bz, .int z2, .int z1, .ref (qd 0), .int r]) := ?_
  · refine lv_if_eq (tgt := 507) hx hb dL_law_500 (by decide) (fun c1 => ?_) (fun c1 => ?_)
    · refine lv_iconst (v := 0) hx hb dL_law_507 (by decide) ?_
      rw [hb0 c1] at hzd
      exact hzd
    · refine lv_iconst (v := 1) hx hb dL_law_503 (by decide) ?_
      refine lv_goto (tgt := 508) hx hb dL_law_504 (by decide) ?_
      rw [hb1 c1] at hzd
      exact hzd
  refine k_callV2 (w := dw qd aI) (v := cw qc aI) (n := 3) (As := [.int z1, .int z2, .int bz]) (rest := [.int r]) X ID IC (lwap2 hap) (c_X6_see h6) uw_4_226 uw_4_227 uw_4_228 uw_1_7 uw_4_229 ⟨rfl, rfl⟩ (by decide +kernel) rfl ⟨Nat.le_of_ble_eq_true rfl, Nat.le_of_ble_eq_true rfl⟩ ⟨Nat.le_of_ble_eq_true rfl, Nat.le_of_ble_eq_true rfl⟩ 0 dwG_0 rfl hl.1 rfl (Nat.le_of_ble_eq_true rfl) dL_law_508 (st1 := [.int r, .int r]) rfl (fun H locs ID IC => ?_)
  refine lv_icmp_eq (tgt := 635) hx hb dL_law_511 (by decide) (fun c9 => ?_) (fun c9 => absurd rfl c9)
  exact kk C1 D1 H locs hI1 IC ID
set_option maxRecDepth 100000 in
set_option maxHeartbeats 4000000 in
theorem lw_c14 {p : Program} {l : Launch} {e : Env} {s : State} {m : MethodId} {below : List Frame} {meth : Method} {c : Code} {G : va_G} {aI : ClassId} {t qc qd : Nat → Nat} {A : Nat → Prop} {b L : Nat} {xs : Nat → Int32} {Inv : xM → xM → Nat → Prop} (X : kX G aI t p s m #[Value.ref b] c code RL 4 A) (hX : va_X b L xs s s.heap) (hbl : b < s.heap.size) (hbA : ¬ A b) (hap : lwap qc qd) {j : Nat} (hj : 4 * j + 4 ≤ L) (hL : L ≤ 256) {C D : xM} (hI : Inv C D j) {H : Heap} {locs : List Loc} {ls : Array Slot} (IC : kI (cw qc aI) G A s C H locs) (ID : kI (dw qd aI) G A s D H locs) (hl : lv_has ls 4 [(3, .int (nI (4 * j))), (0, .ref b), (1, .ref (qc 0)), (2, .ref (qd 0))]) (hop : op_forget Inv) (kk : ∀ (C' D' : xM) (H : Heap) (locs : List Loc), Inv C' D' (j + 1) → kI (cw qc aI) G A s C' H locs → kI (dw qd aI) G A s D' H locs → W p l e room_1 s m #[Value.ref b] below meth c H locs 34 400 (lw_Z below #[Value.ref b] s) (F0 m 635 ls [])) : W p l e room_1 s m #[Value.ref b] below meth c H locs 34 400 (lw_Z below #[Value.ref b] s) (F0 m 516 ls []) := by
  have hx := X.1
  have hb := X.2.1
  obtain ⟨r, C1, D1, h5, h6, hI1⟩ := hop C D j (by omega) hI
  refine lv_aload_n hx hb dL_law_516 rfl (lv_at hl 2 rfl) ?_
  refine k_callV2 (w := cw qc aI) (v := dw qd aI) (n := 0) (As := []) (rest := []) X IC ID (lwap1 hap) (c_X5_forget h5) uw_3_128 uw_3_129 uw_3_130 uw_1_1 uw_3_131 ⟨rfl, rfl⟩ (by decide +kernel) rfl ⟨Nat.le_of_ble_eq_true rfl, Nat.le_of_ble_eq_true rfl⟩ ⟨Nat.le_of_ble_eq_true rfl, Nat.le_of_ble_eq_true rfl⟩ 0 cwG_0 rfl hl.1 rfl (Nat.le_of_ble_eq_true rfl) dL_law_517 (st1 := [.int r]) rfl (fun H locs IC ID => ?_)
  refine lv_aload_n hx hb dL_law_520 rfl (lv_at hl 3 rfl) ?_
  refine k_callV2 (w := dw qd aI) (v := cw qc aI) (n := 0) (As := []) (rest := [.int r]) X ID IC (lwap2 hap) (c_X6_forget h6) uw_4_230 uw_4_231 uw_4_232 uw_1_7 uw_4_233 ⟨rfl, rfl⟩ (by decide +kernel) rfl ⟨Nat.le_of_ble_eq_true rfl, Nat.le_of_ble_eq_true rfl⟩ ⟨Nat.le_of_ble_eq_true rfl, Nat.le_of_ble_eq_true rfl⟩ 0 dwG_0 rfl hl.1 rfl (Nat.le_of_ble_eq_true rfl) dL_law_521 (st1 := [.int r, .int r]) rfl (fun H locs ID IC => ?_)
  refine lv_icmp_eq (tgt := 635) hx hb dL_law_524 (by decide) (fun c9 => ?_) (fun c9 => absurd rfl c9)
  exact kk C1 D1 H locs hI1 IC ID
set_option maxRecDepth 100000 in
set_option maxHeartbeats 4000000 in
theorem lw_c15 {p : Program} {l : Launch} {e : Env} {s : State} {m : MethodId} {below : List Frame} {meth : Method} {c : Code} {G : va_G} {aI : ClassId} {t qc qd : Nat → Nat} {A : Nat → Prop} {b L : Nat} {xs : Nat → Int32} {Inv : xM → xM → Nat → Prop} (X : kX G aI t p s m #[Value.ref b] c code RL 4 A) (hX : va_X b L xs s s.heap) (hbl : b < s.heap.size) (hbA : ¬ A b) (hap : lwap qc qd) {j : Nat} (hj : 4 * j + 4 ≤ L) (hL : L ≤ 256) {C D : xM} (hI : Inv C D j) {H : Heap} {locs : List Loc} {ls : Array Slot} (IC : kI (cw qc aI) G A s C H locs) (ID : kI (dw qd aI) G A s D H locs) (hl : lv_has ls 4 [(3, .int (nI (4 * j))), (0, .ref b), (1, .ref (qc 0)), (2, .ref (qd 0))]) (hop : op_mondays Inv) (kk : ∀ (C' D' : xM) (H : Heap) (locs : List Loc), Inv C' D' (j + 1) → kI (cw qc aI) G A s C' H locs → kI (dw qd aI) G A s D' H locs → W p l e room_1 s m #[Value.ref b] below meth c H locs 34 400 (lw_Z below #[Value.ref b] s) (F0 m 635 ls [])) : W p l e room_1 s m #[Value.ref b] below meth c H locs 34 400 (lw_Z below #[Value.ref b] s) (F0 m 529 ls []) := by
  have hx := X.1
  have hb := X.2.1
  obtain ⟨z1, ez1⟩ : ∃ z : Int32, z = xs (nI (4 * j) + 1).toNatClampNeg := ⟨_, rfl⟩
  obtain ⟨z2, ez2⟩ : ∃ z : Int32, z = xs (nI (4 * j) + 2).toNatClampNeg := ⟨_, rfl⟩
  obtain ⟨z3, ez3⟩ : ∃ z : Int32, z = xs (nI (4 * j) + 3).toNatClampNeg := ⟨_, rfl⟩
  obtain ⟨r, C1, D1, h5, h6, hI1⟩ := hop C D j (by omega) hI z1 z2 z3
  refine lv_aload_n hx hb dL_law_529 rfl (lv_at hl 2 rfl) ?_
  refine lv_aload_n hx hb dL_law_530 rfl (lv_at hl 1 rfl) ?_
  refine lv_iload_n hx hb dL_law_531 rfl (lv_at hl 0 rfl) ?_
  refine lv_iconst (v := 1) hx hb dL_law_532 (by decide) ?_
  refine lv_iadd hx hb dL_law_533 ?_
  refine va_sld hx hb hX hbl hbA IC.2.2 (lw_in (k := 1) hj hL (by decide)) dL_law_534 ?_
  rw [← ez1]
  refine lv_aload_n hx hb dL_law_535 rfl (lv_at hl 1 rfl) ?_
  refine lv_iload_n hx hb dL_law_536 rfl (lv_at hl 0 rfl) ?_
  refine lv_iconst (v := 2) hx hb dL_law_537 (by decide) ?_
  refine lv_iadd hx hb dL_law_538 ?_
  refine va_sld hx hb hX hbl hbA IC.2.2 (lw_in (k := 2) hj hL (by decide)) dL_law_539 ?_
  rw [← ez2]
  refine lv_aload_n hx hb dL_law_540 rfl (lv_at hl 1 rfl) ?_
  refine lv_iload_n hx hb dL_law_541 rfl (lv_at hl 0 rfl) ?_
  refine lv_iconst (v := 3) hx hb dL_law_542 (by decide) ?_
  refine lv_iadd hx hb dL_law_543 ?_
  refine va_sld hx hb hX hbl hbA IC.2.2 (lw_in (k := 3) hj hL (by decide)) dL_law_544 ?_
  rw [← ez3]
  refine k_callV2 (w := cw qc aI) (v := dw qd aI) (n := 3) (As := [.int z1, .int z2, .int z3]) (rest := []) X IC ID (lwap1 hap) (c_X5_mondays h5) uw_3_136 uw_3_137 uw_3_138 uw_1_1 uw_3_139 ⟨rfl, rfl⟩ (by decide +kernel) rfl ⟨Nat.le_of_ble_eq_true rfl, Nat.le_of_ble_eq_true rfl⟩ ⟨Nat.le_of_ble_eq_true rfl, Nat.le_of_ble_eq_true rfl⟩ 0 cwG_0 rfl hl.1 rfl (Nat.le_of_ble_eq_true rfl) dL_law_545 (st1 := [.int r]) rfl (fun H locs IC ID => ?_)
  refine lv_aload_n hx hb dL_law_548 rfl (lv_at hl 3 rfl) ?_
  refine lv_aload_n hx hb dL_law_549 rfl (lv_at hl 1 rfl) ?_
  refine lv_iload_n hx hb dL_law_550 rfl (lv_at hl 0 rfl) ?_
  refine lv_iconst (v := 1) hx hb dL_law_551 (by decide) ?_
  refine lv_iadd hx hb dL_law_552 ?_
  refine va_sld hx hb hX hbl hbA IC.2.2 (lw_in (k := 1) hj hL (by decide)) dL_law_553 ?_
  rw [← ez1]
  refine lv_aload_n hx hb dL_law_554 rfl (lv_at hl 1 rfl) ?_
  refine lv_iload_n hx hb dL_law_555 rfl (lv_at hl 0 rfl) ?_
  refine lv_iconst (v := 2) hx hb dL_law_556 (by decide) ?_
  refine lv_iadd hx hb dL_law_557 ?_
  refine va_sld hx hb hX hbl hbA IC.2.2 (lw_in (k := 2) hj hL (by decide)) dL_law_558 ?_
  rw [← ez2]
  refine lv_aload_n hx hb dL_law_559 rfl (lv_at hl 1 rfl) ?_
  refine lv_iload_n hx hb dL_law_560 rfl (lv_at hl 0 rfl) ?_
  refine lv_iconst (v := 3) hx hb dL_law_561 (by decide) ?_
  refine lv_iadd hx hb dL_law_562 ?_
  refine va_sld hx hb hX hbl hbA IC.2.2 (lw_in (k := 3) hj hL (by decide)) dL_law_563 ?_
  rw [← ez3]
  refine k_callV2 (w := dw qd aI) (v := cw qc aI) (n := 3) (As := [.int z1, .int z2, .int z3]) (rest := [.int r]) X ID IC (lwap2 hap) (c_X6_mondays h6) uw_4_234 uw_4_235 uw_4_236 uw_1_7 uw_4_237 ⟨rfl, rfl⟩ (by decide +kernel) rfl ⟨Nat.le_of_ble_eq_true rfl, Nat.le_of_ble_eq_true rfl⟩ ⟨Nat.le_of_ble_eq_true rfl, Nat.le_of_ble_eq_true rfl⟩ 0 dwG_0 rfl hl.1 rfl (Nat.le_of_ble_eq_true rfl) dL_law_564 (st1 := [.int r, .int r]) rfl (fun H locs ID IC => ?_)
  refine lv_icmp_eq (tgt := 635) hx hb dL_law_567 (by decide) (fun c9 => ?_) (fun c9 => absurd rfl c9)
  exact kk C1 D1 H locs hI1 IC ID
set_option maxRecDepth 100000 in
set_option maxHeartbeats 4000000 in
theorem lw_c16 {p : Program} {l : Launch} {e : Env} {s : State} {m : MethodId} {below : List Frame} {meth : Method} {c : Code} {G : va_G} {aI : ClassId} {t qc qd : Nat → Nat} {A : Nat → Prop} {b L : Nat} {xs : Nat → Int32} {Inv : xM → xM → Nat → Prop} (X : kX G aI t p s m #[Value.ref b] c code RL 4 A) (hX : va_X b L xs s s.heap) (hbl : b < s.heap.size) (hbA : ¬ A b) (hap : lwap qc qd) {j : Nat} (hj : 4 * j + 4 ≤ L) (hL : L ≤ 256) {C D : xM} (hI : Inv C D j) {H : Heap} {locs : List Loc} {ls : Array Slot} (IC : kI (cw qc aI) G A s C H locs) (ID : kI (dw qd aI) G A s D H locs) (hl : lv_has ls 4 [(3, .int (nI (4 * j))), (0, .ref b), (1, .ref (qc 0)), (2, .ref (qd 0))]) (hop : op_image Inv) (kk : ∀ (C' D' : xM) (H : Heap) (locs : List Loc), Inv C' D' (j + 1) → kI (cw qc aI) G A s C' H locs → kI (dw qd aI) G A s D' H locs → W p l e room_1 s m #[Value.ref b] below meth c H locs 34 400 (lw_Z below #[Value.ref b] s) (F0 m 635 ls [])) : W p l e room_1 s m #[Value.ref b] below meth c H locs 34 400 (lw_Z below #[Value.ref b] s) (F0 m 572 ls []) := by
  have hx := X.1
  have hb := X.2.1
  obtain ⟨r, C1, D1, h5, h6, hI1⟩ := hop C D j (by omega) hI
  refine lv_aload_n hx hb dL_law_572 rfl (lv_at hl 2 rfl) ?_
  refine k_callV2 (w := cw qc aI) (v := dw qd aI) (n := 0) (As := []) (rest := []) X IC ID (lwap1 hap) (c_X5_image h5) uw_3_169 uw_3_170 uw_3_171 uw_1_1 uw_3_172 ⟨rfl, rfl⟩ (by decide +kernel) rfl ⟨Nat.le_of_ble_eq_true rfl, Nat.le_of_ble_eq_true rfl⟩ ⟨Nat.le_of_ble_eq_true rfl, Nat.le_of_ble_eq_true rfl⟩ 0 cwG_0 rfl hl.1 rfl (Nat.le_of_ble_eq_true rfl) dL_law_573 (st1 := [.int r]) rfl (fun H locs IC ID => ?_)
  refine lv_aload_n hx hb dL_law_576 rfl (lv_at hl 3 rfl) ?_
  refine k_callV2 (w := dw qd aI) (v := cw qc aI) (n := 0) (As := []) (rest := [.int r]) X ID IC (lwap2 hap) (c_X6_image h6) uw_5_7 uw_5_8 uw_5_9 uw_1_7 uw_5_10 ⟨rfl, rfl⟩ (by decide +kernel) rfl ⟨Nat.le_of_ble_eq_true rfl, Nat.le_of_ble_eq_true rfl⟩ ⟨Nat.le_of_ble_eq_true rfl, Nat.le_of_ble_eq_true rfl⟩ 0 dwG_0 rfl hl.1 rfl (Nat.le_of_ble_eq_true rfl) dL_law_577 (st1 := [.int r, .int r]) rfl (fun H locs ID IC => ?_)
  refine lv_icmp_eq (tgt := 635) hx hb dL_law_580 (by decide) (fun c9 => ?_) (fun c9 => absurd rfl c9)
  exact kk C1 D1 H locs hI1 IC ID
set_option maxRecDepth 100000 in
set_option maxHeartbeats 4000000 in
theorem lw_c17 {p : Program} {l : Launch} {e : Env} {s : State} {m : MethodId} {below : List Frame} {meth : Method} {c : Code} {G : va_G} {aI : ClassId} {t qc qd : Nat → Nat} {A : Nat → Prop} {b L : Nat} {xs : Nat → Int32} {Inv : xM → xM → Nat → Prop} (X : kX G aI t p s m #[Value.ref b] c code RL 4 A) (hX : va_X b L xs s s.heap) (hbl : b < s.heap.size) (hbA : ¬ A b) (hap : lwap qc qd) {j : Nat} (hj : 4 * j + 4 ≤ L) (hL : L ≤ 256) {C D : xM} (hI : Inv C D j) {H : Heap} {locs : List Loc} {ls : Array Slot} (IC : kI (cw qc aI) G A s C H locs) (ID : kI (dw qd aI) G A s D H locs) (hl : lv_has ls 4 [(3, .int (nI (4 * j))), (0, .ref b), (1, .ref (qc 0)), (2, .ref (qd 0))]) (hop : op_restore Inv) (kk : ∀ (C' D' : xM) (H : Heap) (locs : List Loc), Inv C' D' (j + 1) → kI (cw qc aI) G A s C' H locs → kI (dw qd aI) G A s D' H locs → W p l e room_1 s m #[Value.ref b] below meth c H locs 34 400 (lw_Z below #[Value.ref b] s) (F0 m 635 ls [])) : W p l e room_1 s m #[Value.ref b] below meth c H locs 34 400 (lw_Z below #[Value.ref b] s) (F0 m 585 ls []) := by
  have hx := X.1
  have hb := X.2.1
  obtain ⟨r, C1, D1, h5, h6, hI1⟩ := hop C D j (by omega) hI
  refine lv_aload_n hx hb dL_law_585 rfl (lv_at hl 2 rfl) ?_
  refine k_callV2 (w := cw qc aI) (v := dw qd aI) (n := 0) (As := []) (rest := []) X IC ID (lwap1 hap) (c_X5_restore h5) uw_3_184 uw_3_185 uw_3_186 uw_1_1 uw_3_187 ⟨rfl, rfl⟩ (by decide +kernel) rfl ⟨Nat.le_of_ble_eq_true rfl, Nat.le_of_ble_eq_true rfl⟩ ⟨Nat.le_of_ble_eq_true rfl, Nat.le_of_ble_eq_true rfl⟩ 0 cwG_0 rfl hl.1 rfl (Nat.le_of_ble_eq_true rfl) dL_law_586 (st1 := [.int r]) rfl (fun H locs IC ID => ?_)
  refine lv_aload_n hx hb dL_law_589 rfl (lv_at hl 3 rfl) ?_
  refine k_callV2 (w := dw qd aI) (v := cw qc aI) (n := 0) (As := []) (rest := [.int r]) X ID IC (lwap2 hap) (c_X6_restore h6) uw_5_11 uw_5_12 uw_5_13 uw_1_7 uw_5_14 ⟨rfl, rfl⟩ (by decide +kernel) rfl ⟨Nat.le_of_ble_eq_true rfl, Nat.le_of_ble_eq_true rfl⟩ ⟨Nat.le_of_ble_eq_true rfl, Nat.le_of_ble_eq_true rfl⟩ 0 dwG_0 rfl hl.1 rfl (Nat.le_of_ble_eq_true rfl) dL_law_590 (st1 := [.int r, .int r]) rfl (fun H locs ID IC => ?_)
  refine lv_icmp_eq (tgt := 635) hx hb dL_law_593 (by decide) (fun c9 => ?_) (fun c9 => absurd rfl c9)
  exact kk C1 D1 H locs hI1 IC ID
set_option maxRecDepth 100000 in
set_option maxHeartbeats 4000000 in
theorem lw_c18 {p : Program} {l : Launch} {e : Env} {s : State} {m : MethodId} {below : List Frame} {meth : Method} {c : Code} {G : va_G} {aI : ClassId} {t qc qd : Nat → Nat} {A : Nat → Prop} {b L : Nat} {xs : Nat → Int32} {Inv : xM → xM → Nat → Prop} (X : kX G aI t p s m #[Value.ref b] c code RL 4 A) (hX : va_X b L xs s s.heap) (hbl : b < s.heap.size) (hbA : ¬ A b) (hap : lwap qc qd) {j : Nat} (hj : 4 * j + 4 ≤ L) (hL : L ≤ 256) {C D : xM} (hI : Inv C D j) {H : Heap} {locs : List Loc} {ls : Array Slot} (IC : kI (cw qc aI) G A s C H locs) (ID : kI (dw qd aI) G A s D H locs) (hl : lv_has ls 4 [(3, .int (nI (4 * j))), (0, .ref b), (1, .ref (qc 0)), (2, .ref (qd 0))]) (hop : op_count Inv) (kk : ∀ (C' D' : xM) (H : Heap) (locs : List Loc), Inv C' D' (j + 1) → kI (cw qc aI) G A s C' H locs → kI (dw qd aI) G A s D' H locs → W p l e room_1 s m #[Value.ref b] below meth c H locs 34 400 (lw_Z below #[Value.ref b] s) (F0 m 635 ls [])) : W p l e room_1 s m #[Value.ref b] below meth c H locs 34 400 (lw_Z below #[Value.ref b] s) (F0 m 598 ls []) := by
  have hx := X.1
  have hb := X.2.1
  obtain ⟨z1, ez1⟩ : ∃ z : Int32, z = xs (nI (4 * j) + 1).toNatClampNeg := ⟨_, rfl⟩
  obtain ⟨r, h5, h6, hI1⟩ := hop C D j (by omega) hI z1
  refine lv_aload_n hx hb dL_law_598 rfl (lv_at hl 2 rfl) ?_
  refine lv_aload_n hx hb dL_law_599 rfl (lv_at hl 1 rfl) ?_
  refine lv_iload_n hx hb dL_law_600 rfl (lv_at hl 0 rfl) ?_
  refine lv_iconst (v := 1) hx hb dL_law_601 (by decide) ?_
  refine lv_iadd hx hb dL_law_602 ?_
  refine va_sld hx hb hX hbl hbA IC.2.2 (lw_in (k := 1) hj hL (by decide)) dL_law_603 ?_
  rw [← ez1]
  refine k_callV2 (w := cw qc aI) (v := dw qd aI) (n := 1) (As := [.int z1]) (rest := []) X IC ID (lwap1 hap) (c_X5_count h5) uw_3_196 uw_3_197 uw_3_198 uw_1_1 uw_3_199 ⟨rfl, rfl⟩ (by decide +kernel) rfl ⟨Nat.le_of_ble_eq_true rfl, Nat.le_of_ble_eq_true rfl⟩ ⟨Nat.le_of_ble_eq_true rfl, Nat.le_of_ble_eq_true rfl⟩ 0 cwG_0 rfl hl.1 rfl (Nat.le_of_ble_eq_true rfl) dL_law_604 (st1 := [.int r]) rfl (fun H locs IC ID => ?_)
  refine lv_aload_n hx hb dL_law_607 rfl (lv_at hl 3 rfl) ?_
  refine lv_aload_n hx hb dL_law_608 rfl (lv_at hl 1 rfl) ?_
  refine lv_iload_n hx hb dL_law_609 rfl (lv_at hl 0 rfl) ?_
  refine lv_iconst (v := 1) hx hb dL_law_610 (by decide) ?_
  refine lv_iadd hx hb dL_law_611 ?_
  refine va_sld hx hb hX hbl hbA IC.2.2 (lw_in (k := 1) hj hL (by decide)) dL_law_612 ?_
  rw [← ez1]
  refine k_callV2 (w := dw qd aI) (v := cw qc aI) (n := 1) (As := [.int z1]) (rest := [.int r]) X ID IC (lwap2 hap) (c_X6_count h6) uw_5_15 uw_5_16 uw_5_17 uw_1_7 uw_5_18 ⟨rfl, rfl⟩ (by decide +kernel) rfl ⟨Nat.le_of_ble_eq_true rfl, Nat.le_of_ble_eq_true rfl⟩ ⟨Nat.le_of_ble_eq_true rfl, Nat.le_of_ble_eq_true rfl⟩ 0 dwG_0 rfl hl.1 rfl (Nat.le_of_ble_eq_true rfl) dL_law_613 (st1 := [.int r, .int r]) rfl (fun H locs ID IC => ?_)
  refine lv_icmp_eq (tgt := 635) hx hb dL_law_616 (by decide) (fun c9 => ?_) (fun c9 => absurd rfl c9)
  exact kk C D H locs hI1 IC ID
set_option maxRecDepth 100000 in
set_option maxHeartbeats 4000000 in
theorem lw_c19 {p : Program} {l : Launch} {e : Env} {s : State} {m : MethodId} {below : List Frame} {meth : Method} {c : Code} {G : va_G} {aI : ClassId} {t qc qd : Nat → Nat} {A : Nat → Prop} {b L : Nat} {xs : Nat → Int32} {Inv : xM → xM → Nat → Prop} (X : kX G aI t p s m #[Value.ref b] c code RL 4 A) (hX : va_X b L xs s s.heap) (hbl : b < s.heap.size) (hbA : ¬ A b) (hap : lwap qc qd) {j : Nat} (hj : 4 * j + 4 ≤ L) (hL : L ≤ 256) {C D : xM} (hI : Inv C D j) {H : Heap} {locs : List Loc} {ls : Array Slot} (IC : kI (cw qc aI) G A s C H locs) (ID : kI (dw qd aI) G A s D H locs) (hl : lv_has ls 4 [(3, .int (nI (4 * j))), (0, .ref b), (1, .ref (qc 0)), (2, .ref (qd 0))]) (hop : op_digest Inv) (kk : ∀ (C' D' : xM) (H : Heap) (locs : List Loc), Inv C' D' (j + 1) → kI (cw qc aI) G A s C' H locs → kI (dw qd aI) G A s D' H locs → W p l e room_1 s m #[Value.ref b] below meth c H locs 34 400 (lw_Z below #[Value.ref b] s) (F0 m 635 ls [])) : W p l e room_1 s m #[Value.ref b] below meth c H locs 34 400 (lw_Z below #[Value.ref b] s) (F0 m 621 ls []) := by
  have hx := X.1
  have hb := X.2.1
  obtain ⟨r, C1, D1, h5, h6, hI1⟩ := hop C D j (by omega) hI
  refine lv_aload_n hx hb dL_law_621 rfl (lv_at hl 2 rfl) ?_
  refine k_callV2 (w := cw qc aI) (v := dw qd aI) (n := 0) (As := []) (rest := []) X IC ID (lwap1 hap) (c_X5_digest h5) uw_3_217 uw_3_218 uw_3_219 uw_1_1 uw_3_220 ⟨rfl, rfl⟩ (by decide +kernel) rfl ⟨Nat.le_of_ble_eq_true rfl, Nat.le_of_ble_eq_true rfl⟩ ⟨Nat.le_of_ble_eq_true rfl, Nat.le_of_ble_eq_true rfl⟩ 0 cwG_0 rfl hl.1 rfl (Nat.le_of_ble_eq_true rfl) dL_law_622 (st1 := [.long r]) rfl (fun H locs IC ID => ?_)
  refine lv_aload_n hx hb dL_law_625 rfl (lv_at hl 3 rfl) ?_
  refine k_callV2 (w := dw qd aI) (v := cw qc aI) (n := 0) (As := []) (rest := [.long r]) X ID IC (lwap2 hap) (c_X6_digest h6) uw_5_31 uw_5_32 uw_5_33 uw_1_7 uw_5_34 ⟨rfl, rfl⟩ (by decide +kernel) rfl ⟨Nat.le_of_ble_eq_true rfl, Nat.le_of_ble_eq_true rfl⟩ ⟨Nat.le_of_ble_eq_true rfl, Nat.le_of_ble_eq_true rfl⟩ 0 dwG_0 rfl hl.1 rfl (Nat.le_of_ble_eq_true rfl) dL_law_626 (st1 := [.long r, .long r]) rfl (fun H locs ID IC => ?_)
  refine W.lcmp hx hb dL_law_629 ?_
  have e0 : lg_cmp r r = 0 := by simp [lg_cmp, Int64.lt_irrefl]
  rw [e0]
  refine lv_if_eq (tgt := 635) hx hb dL_law_630 (by decide) (fun c9 => ?_) (fun c9 => absurd rfl c9)
  exact kk C1 D1 H locs hI1 IC ID
set_option maxRecDepth 100000 in
set_option maxHeartbeats 8000000 in
theorem lw_loop {p : Program} {l : Launch} {e : Env} {s : State} {m : MethodId} {below : List Frame} {meth : Method} {c : Code} {G : va_G} {aI : ClassId} {t qc qd : Nat → Nat} {A : Nat → Prop} {b L : Nat} {xs : Nat → Int32} {Inv : xM → xM → Nat → Prop} (X : kX G aI t p s m #[Value.ref b] c code RL 4 A) (hX : va_X b L xs s s.heap) (hbl : b < s.heap.size) (hbA : ¬ A b) (hAs : ∀ q, A q → s.heap.size ≤ q) (hap : lwap qc qd) (hL : L ≤ 256) (hr : meth.sig.returnType = ret) (hlocks : meth.locks = false) (hops : lwops Inv) (hmon : ∀ (C D : xM) (j : Nat), Inv C D j → Inv C D (j + 1)) :
    ∀ (d j : Nat), 4 * j ≤ L + 3 → L + 4 ≤ 4 * j + 4 * d → ∀ (C D : xM), Inv C D j → ∀ (H : Heap) (locs : List Loc) (ls : Array Slot), kI (cw qc aI) G A s C H locs → kI (dw qd aI) G A s D H locs → lv_has ls 4 [(3, .int (nI (4 * j))), (0, .ref b), (1, .ref (qc 0)), (2, .ref (qd 0))] → W p l e room_1 s m #[Value.ref b] below meth c H locs 34 400 (lw_Z below #[Value.ref b] s) (F0 m 18 ls []) := by
  have hx := X.1
  have hb := X.2.1
  intro d
  induction d with
  | zero => intro j h1 h2; omega
  | succ d ih =>
    intro j h1 h2 C D hI H locs ls IC ID hl
    have e1 : (nI L - 4).toInt = (L : Int) - 4 := pk_sub_toInt (a := L) (b := 4) (by omega) (by omega)
    have e2 : (nI (4 * j)).toInt = ((4 * j : Nat) : Int) := nI_toInt (by omega)
    refine lv_iload_n hx hb dL_law_18 rfl (lv_at hl 0 rfl) ?_
    refine lv_aload_n hx hb dL_law_19 rfl (lv_at hl 1 rfl) ?_
    refine va_slen hx hb hX hbl hbA IC.2.2 dL_law_20 ?_
    refine lv_iconst (v := 4) hx hb dL_law_21 (by decide) ?_
    refine lv_isub hx hb dL_law_22 ?_
    refine lv_icmp_gt (tgt := 641) hx hb dL_law_23 (by decide) (fun c1 => ?_) (fun c1 => ?_)
    · refine lv_iconst (v := 1) hx hb dL_law_641 (by decide) ?_
      refine va_forget (fun q hq => hAs _ (IC.2.2.2.2 q hq)) ?_
      exact lw_ret hx hb hr hlocks dL_law_642
    have hj : 4 * j + 4 ≤ L := by
      have h3 := Int32.le_iff_toInt_le.mp (Int32.not_lt.mp c1)
      have e1' : (Int32.ofNat L - 4).toInt = (L : Int) - 4 := e1
      rw [e2, e1'] at h3
      omega
    refine lv_aload_n hx hb dL_law_26 rfl (lv_at hl 1 rfl) ?_
    refine lv_iload_n hx hb dL_law_27 rfl (lv_at hl 0 rfl) ?_
    refine va_sld hx hb hX hbl hbA IC.2.2 (vp_in_nI (n := 4 * j) (by omega) (by omega)) dL_law_28 ?_
    refine lv_bipush (v := 31) hx hb dL_law_29 (by decide) ?_
    refine lv_iand hx hb dL_law_31 ?_
    refine lv_topi (fun z ez => ?_)
    have kk : ∀ (C' D' : xM) (H : Heap) (locs : List Loc), Inv C' D' (j + 1) → kI (cw qc aI) G A s C' H locs → kI (dw qd aI) G A s D' H locs → W p l e room_1 s m #[Value.ref b] below meth c H locs 34 400 (lw_Z below #[Value.ref b] s) (F0 m 635 ls []) := by
      intro C' D' H locs hI IC ID
      refine lv_iinc (v := nI (4 * (j + 1))) (lv' := [(3, .int (nI (4 * (j + 1)))), (0, .ref b), (1, .ref (qc 0)), (2, .ref (qd 0))]) hx hb dL_law_635 hl (k := 0) rfl (nI_add (4 * j) 4) (by decide) rfl (fun ls hl => ?_)
      refine lv_goto (tgt := 18) hx hb dL_law_638 (by decide) ?_
      exact ih (j + 1) (by omega) (by omega) C' D' hI H locs ls IC ID hl
    by_cases c10 : z = 0
    · refine lv_tableIn (off := 96) (tgt := 128) hx hb dL_law_32 (by rw [c10]; decide) (by rw [c10]; decide) (by rw [c10]; rfl) (by decide) ?_
      exact lw_c0 X hX hbl hbA hap hj hL hI IC ID hl hops.1 kk
    by_cases c11 : z = 1
    · refine lv_tableIn (off := 119) (tgt := 151) hx hb dL_law_32 (by rw [c11]; decide) (by rw [c11]; decide) (by rw [c11]; rfl) (by decide) ?_
      exact lw_c1 X hX hbl hbA hap hj hL hI IC ID hl hops.2.1 kk
    by_cases c12 : z = 2
    · refine lv_tableIn (off := 132) (tgt := 164) hx hb dL_law_32 (by rw [c12]; decide) (by rw [c12]; decide) (by rw [c12]; rfl) (by decide) ?_
      exact lw_c2 X hX hbl hbA hap hj hL hI IC ID hl hops.2.2.1 kk
    by_cases c13 : z = 3
    · refine lv_tableIn (off := 145) (tgt := 177) hx hb dL_law_32 (by rw [c13]; decide) (by rw [c13]; decide) (by rw [c13]; rfl) (by decide) ?_
      exact lw_c3 X hX hbl hbA hap hj hL hI IC ID hl hops.2.2.2.1 kk
    by_cases c14 : z = 4
    · refine lv_tableIn (off := 158) (tgt := 190) hx hb dL_law_32 (by rw [c14]; decide) (by rw [c14]; decide) (by rw [c14]; rfl) (by decide) ?_
      exact lw_c4 X hX hbl hbA hap hj hL hI IC ID hl hops.2.2.2.2.1 kk
    by_cases c15 : z = 5
    · refine lv_tableIn (off := 191) (tgt := 223) hx hb dL_law_32 (by rw [c15]; decide) (by rw [c15]; decide) (by rw [c15]; rfl) (by decide) ?_
      exact lw_c5 X hX hbl hbA hap hj hL hI IC ID hl hops.2.2.2.2.2.1 kk
    by_cases c16 : z = 6
    · refine lv_tableIn (off := 224) (tgt := 256) hx hb dL_law_32 (by rw [c16]; decide) (by rw [c16]; decide) (by rw [c16]; rfl) (by decide) ?_
      exact lw_c6 X hX hbl hbA hap hj hL hI IC ID hl hops.2.2.2.2.2.2.1 kk
    by_cases c17 : z = 7
    · refine lv_tableIn (off := 257) (tgt := 289) hx hb dL_law_32 (by rw [c17]; decide) (by rw [c17]; decide) (by rw [c17]; rfl) (by decide) ?_
      exact lw_c7 X hX hbl hbA hap hj hL hI IC ID hl hops.2.2.2.2.2.2.2.1 kk
    by_cases c18 : z = 8
    · refine lv_tableIn (off := 290) (tgt := 322) hx hb dL_law_32 (by rw [c18]; decide) (by rw [c18]; decide) (by rw [c18]; rfl) (by decide) ?_
      exact lw_c8 X hX hbl hbA hap hj hL hI IC ID hl hops.2.2.2.2.2.2.2.2.1 kk
    by_cases c19 : z = 9
    · refine lv_tableIn (off := 323) (tgt := 355) hx hb dL_law_32 (by rw [c19]; decide) (by rw [c19]; decide) (by rw [c19]; rfl) (by decide) ?_
      exact lw_c9 X hX hbl hbA hap hj hL hI IC ID hl hops.2.2.2.2.2.2.2.2.2.1 kk
    by_cases c20 : z = 10
    · refine lv_tableIn (off := 346) (tgt := 378) hx hb dL_law_32 (by rw [c20]; decide) (by rw [c20]; decide) (by rw [c20]; rfl) (by decide) ?_
      exact lw_c10 X hX hbl hbA hap hj hL hI IC ID hl hops.2.2.2.2.2.2.2.2.2.2.1 kk
    by_cases c21 : z = 11
    · refine lv_tableIn (off := 389) (tgt := 421) hx hb dL_law_32 (by rw [c21]; decide) (by rw [c21]; decide) (by rw [c21]; rfl) (by decide) ?_
      exact lw_c11 X hX hbl hbA hap hj hL hI IC ID hl hops.2.2.2.2.2.2.2.2.2.2.2.1 kk
    by_cases c22 : z = 12
    · refine lv_tableIn (off := 402) (tgt := 434) hx hb dL_law_32 (by rw [c22]; decide) (by rw [c22]; decide) (by rw [c22]; rfl) (by decide) ?_
      exact lw_c12 X hX hbl hbA hap hj hL hI IC ID hl hops.2.2.2.2.2.2.2.2.2.2.2.2.1 kk
    by_cases c23 : z = 13
    · refine lv_tableIn (off := 425) (tgt := 457) hx hb dL_law_32 (by rw [c23]; decide) (by rw [c23]; decide) (by rw [c23]; rfl) (by decide) ?_
      exact lw_c13 X hX hbl hbA hap hj hL hI IC ID hl hops.2.2.2.2.2.2.2.2.2.2.2.2.2.1 kk
    by_cases c24 : z = 14
    · refine lv_tableIn (off := 484) (tgt := 516) hx hb dL_law_32 (by rw [c24]; decide) (by rw [c24]; decide) (by rw [c24]; rfl) (by decide) ?_
      exact lw_c14 X hX hbl hbA hap hj hL hI IC ID hl hops.2.2.2.2.2.2.2.2.2.2.2.2.2.2.1 kk
    by_cases c25 : z = 15
    · refine lv_tableIn (off := 497) (tgt := 529) hx hb dL_law_32 (by rw [c25]; decide) (by rw [c25]; decide) (by rw [c25]; rfl) (by decide) ?_
      exact lw_c15 X hX hbl hbA hap hj hL hI IC ID hl hops.2.2.2.2.2.2.2.2.2.2.2.2.2.2.2.1 kk
    by_cases c26 : z = 16
    · refine lv_tableIn (off := 540) (tgt := 572) hx hb dL_law_32 (by rw [c26]; decide) (by rw [c26]; decide) (by rw [c26]; rfl) (by decide) ?_
      exact lw_c16 X hX hbl hbA hap hj hL hI IC ID hl hops.2.2.2.2.2.2.2.2.2.2.2.2.2.2.2.2.1 kk
    by_cases c27 : z = 17
    · refine lv_tableIn (off := 553) (tgt := 585) hx hb dL_law_32 (by rw [c27]; decide) (by rw [c27]; decide) (by rw [c27]; rfl) (by decide) ?_
      exact lw_c17 X hX hbl hbA hap hj hL hI IC ID hl hops.2.2.2.2.2.2.2.2.2.2.2.2.2.2.2.2.2.1 kk
    by_cases c28 : z = 18
    · refine lv_tableIn (off := 566) (tgt := 598) hx hb dL_law_32 (by rw [c28]; decide) (by rw [c28]; decide) (by rw [c28]; rfl) (by decide) ?_
      exact lw_c18 X hX hbl hbA hap hj hL hI IC ID hl hops.2.2.2.2.2.2.2.2.2.2.2.2.2.2.2.2.2.2.1 kk
    by_cases c29 : z = 19
    · refine lv_tableIn (off := 589) (tgt := 621) hx hb dL_law_32 (by rw [c29]; decide) (by rw [c29]; decide) (by rw [c29]; rfl) (by decide) ?_
      exact lw_c19 X hX hbl hbA hap hj hL hI IC ID hl hops.2.2.2.2.2.2.2.2.2.2.2.2.2.2.2.2.2.2.2 kk
    refine lv_tableOut (tgt := 635) hx hb dL_law_32 (sw_out fun k h1 h2 h3 => by
      have h4 : k = 0 ∨ k = 1 ∨ k = 2 ∨ k = 3 ∨ k = 4 ∨ k = 5 ∨ k = 6 ∨ k = 7 ∨ k = 8 ∨ k = 9 ∨ k = 10 ∨ k = 11 ∨ k = 12 ∨ k = 13 ∨ k = 14 ∨ k = 15 ∨ k = 16 ∨ k = 17 ∨ k = 18 ∨ k = 19 := by omega
      rcases h4 with rfl | rfl | rfl | rfl | rfl | rfl | rfl | rfl | rfl | rfl | rfl | rfl | rfl | rfl | rfl | rfl | rfl | rfl | rfl | rfl
      · exact c10 (sw_eq h3 (by decide))
      · exact c11 (sw_eq h3 (by decide))
      · exact c12 (sw_eq h3 (by decide))
      · exact c13 (sw_eq h3 (by decide))
      · exact c14 (sw_eq h3 (by decide))
      · exact c15 (sw_eq h3 (by decide))
      · exact c16 (sw_eq h3 (by decide))
      · exact c17 (sw_eq h3 (by decide))
      · exact c18 (sw_eq h3 (by decide))
      · exact c19 (sw_eq h3 (by decide))
      · exact c20 (sw_eq h3 (by decide))
      · exact c21 (sw_eq h3 (by decide))
      · exact c22 (sw_eq h3 (by decide))
      · exact c23 (sw_eq h3 (by decide))
      · exact c24 (sw_eq h3 (by decide))
      · exact c25 (sw_eq h3 (by decide))
      · exact c26 (sw_eq h3 (by decide))
      · exact c27 (sw_eq h3 (by decide))
      · exact c28 (sw_eq h3 (by decide))
      · exact c29 (sw_eq h3 (by decide))) (by decide) ?_
    exact kk C D H locs (hmon C D j hI) IC ID
