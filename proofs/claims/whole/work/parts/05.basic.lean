/-! ===== BASIC: entry, put, copy ===== -/
abbrev rm_0 : Room := { frames := 0, cells := 0, slots := 0, locals := 0 }
def xe (n : Nat) (f : Nat → Int32) (i : Int32) : Int32 := if i < 0 then 0 else if nI n ≤ i then 0 else f i.toNatClampNeg
def xp (n : Nat) (f : Nat → Int32) (i x : Int32) : Nat → Int32 := if i < 0 then f else if nI n ≤ i then f else upd f i.toNatClampNeg x
def xc (n1 n2 : Nat) (f g : Nat → Int32) : Nat → Int32 := fun j => if j < n1 ∧ j < n2 then f j else g j
def xT (l : List Int32) : Nat → Int32 := fun j => l.getD j 0
theorem xin {i : Int32} {n : Nat} (h1 : ¬ i < 0) (h2 : ¬ nI n ≤ i) (hn : n < 2 ^ 31) : vp_in i n := by
  have a1 := Int32.le_iff_toInt_le.mp (Int32.not_lt.mp h1)
  have a2 := Int32.lt_iff_toInt_lt.mp (Int32.not_le.mp h2)
  rw [nI_toInt hn] at a2
  exact vp_in_iff.mpr ⟨by simpa using a1, a2⟩
theorem l_set_self {α : Type} {l : List α} {k : Nat} {x : α} (h : l[k]? = some x) : l.set k x = l := by
  apply List.ext_getElem?
  intro j
  have hk := (List.getElem?_eq_some_iff.mp h).1
  by_cases hj : j = k
  · subst hj
    rw [List.getElem?_set_self hk, h]
  · rw [List.getElem?_set_ne (Ne.symm hj)]
def nmM {β : Type} (a : xM) (f : xM → Option β) : Option β := f a
theorem k_nm {β : Type} {a : xM} {f : xM → Option β} {b : β} (h : nmM a f = some b) : ∃ M1, a = M1 ∧ f M1 = some b := ⟨a, rfl, h⟩
section BAS
variable {l : Launch} {w : xM → va_W} {D : va_G} {aI : ClassId} {t : Nat → Nat} {M M' : xM}
set_option maxRecDepth 100000 in
set_option maxHeartbeats 4000000 in
theorem c_entry {a n : Nat} {f : Nat → Int32} {i : Int32} (k : Nat) (he : (w M)[k]? = some (a, .inl (aI, n, .inl f))) (hn : n < 2 ^ 31) : kM l yX5_entry (wk yX5_entry cX5_entry 2 (some .int)) rm_0 w D aI t [.ref a, .int i] M (some (.int (xe n f i))) M := by
  refine kM_of (by decide) (Nat.le_of_ble_eq_true rfl) ?_
  intro p e s m args below meth c A ls X hr hlocks hl I
  have hx := X.1
  have hb := X.2.1
  have hl : lv_has ls 2 [(0, .ref a), (1, .int i)] := hl
  have R17 : ∀ v : Int32, v = xe n f i → W p l e rm_0 s m args below meth c s.heap [] 0 0 (MQ below (kQ w D A (some (.int (xe n f i))) M) args s 0 0 A) (F0 m 17 ls [.int v]) := fun v hv => k_iretP X I hr hlocks dX5_entry_17 (by rw [hv])
  refine lv_iload_n hx hb dX5_entry_0 rfl (lv_at hl 1 rfl) ?_
  refine lv_if_lt (tgt := 16) hx hb dX5_entry_1 (by decide) (fun c1 => ?_) (fun c1 => ?_)
  · refine lv_iconst (v := 0) hx hb dX5_entry_16 (by decide) ?_
    exact R17 0 (by simp only [xe, if_pos c1])
  refine lv_iload_n hx hb dX5_entry_4 rfl (lv_at hl 1 rfl) ?_
  refine lv_aload_n hx hb dX5_entry_5 rfl (lv_at hl 0 rfl) ?_
  refine k_alen X I k he dX5_entry_6 ?_
  refine lv_icmp_ge (tgt := 16) hx hb dX5_entry_7 (by decide) (fun c2 => ?_) (fun c2 => ?_)
  · refine lv_iconst (v := 0) hx hb dX5_entry_16 (by decide) ?_
    exact R17 0 (by simp only [xe, if_neg c1, if_pos c2])
  refine lv_aload_n hx hb dX5_entry_10 rfl (lv_at hl 0 rfl) ?_
  refine lv_iload_n hx hb dX5_entry_11 rfl (lv_at hl 1 rfl) ?_
  refine va_iald hx hb X.2.2.2.2.2.1 I.1 k 0 he rfl (xin c1 c2 hn) dX5_entry_12 ?_
  refine lv_goto (tgt := 17) hx hb dX5_entry_13 (by decide) ?_
  exact R17 _ (by simp only [xe, if_neg c1, if_neg c2])
set_option maxRecDepth 100000 in
set_option maxHeartbeats 4000000 in
theorem c_entryT {a n : Nat} {lst : List Int32} {i : Int32} (hT : ∀ (A : Nat → Prop) (s : State), cE t A s → va_T .int a n (cV lst) A s s.heap) (hn : n < 2 ^ 31) : kM l yX5_entry (wk yX5_entry cX5_entry 2 (some .int)) rm_0 w D aI t [.ref a, .int i] M (some (.int (xe n (xT lst) i))) M := by
  refine kM_of (by decide) (Nat.le_of_ble_eq_true rfl) ?_
  intro p e s m args below meth c A ls X hr hlocks hl I
  have hx := X.1
  have hb := X.2.1
  have hTs := hT A s X.2.2.2.2.2.2.1
  have hl : lv_has ls 2 [(0, .ref a), (1, .int i)] := hl
  have R17 : ∀ v : Int32, v = xe n (xT lst) i → W p l e rm_0 s m args below meth c s.heap [] 0 0 (MQ below (kQ w D A (some (.int (xe n (xT lst) i))) M) args s 0 0 A) (F0 m 17 ls [.int v]) := fun v hv => k_iretP X I hr hlocks dX5_entry_17 (by rw [hv])
  refine lv_iload_n hx hb dX5_entry_0 rfl (lv_at hl 1 rfl) ?_
  refine lv_if_lt (tgt := 16) hx hb dX5_entry_1 (by decide) (fun c1 => ?_) (fun c1 => ?_)
  · refine lv_iconst (v := 0) hx hb dX5_entry_16 (by decide) ?_
    exact R17 0 (by simp only [xe, if_pos c1])
  refine lv_iload_n hx hb dX5_entry_4 rfl (lv_at hl 1 rfl) ?_
  refine lv_aload_n hx hb dX5_entry_5 rfl (lv_at hl 0 rfl) ?_
  refine va_tlen hx hb hTs I.2.2 (v := nI n) rfl dX5_entry_6 ?_
  refine lv_icmp_ge (tgt := 16) hx hb dX5_entry_7 (by decide) (fun c2 => ?_) (fun c2 => ?_)
  · refine lv_iconst (v := 0) hx hb dX5_entry_16 (by decide) ?_
    exact R17 0 (by simp only [xe, if_neg c1, if_pos c2])
  refine lv_aload_n hx hb dX5_entry_10 rfl (lv_at hl 0 rfl) ?_
  refine lv_iload_n hx hb dX5_entry_11 rfl (lv_at hl 1 rfl) ?_
  refine va_ti hx hb hTs I.2.2 (xin c1 c2 hn) (v := .int (xT lst i.toNatClampNeg)) rfl dX5_entry_12 ?_
  refine lv_goto (tgt := 17) hx hb dX5_entry_13 (by decide) ?_
  exact R17 _ (by simp only [xe, if_neg c1, if_neg c2])
set_option maxRecDepth 100000 in
set_option maxHeartbeats 4000000 in
theorem c_put {a n : Nat} {f : Nat → Int32} {i x : Int32} (k : Nat) (he : (w M)[k]? = some (a, .inl (aI, n, .inl f))) (hn : n < 2 ^ 31) (hset : (w M).set k (a, .inl (aI, n, .inl (xp n f i x))) = w M') : kM l yX5_put (wk yX5_put cX5_put 3 none) rm_0 w D aI t [.ref a, .int i, .int x] M none M' := by
  refine kM_of (by decide) (Nat.le_of_ble_eq_true rfl) ?_
  intro p e s m args below meth c A ls X hr hlocks hl I
  have hx := X.1
  have hb := X.2.1
  have hl : lv_has ls 3 [(0, .ref a), (1, .int i), (2, .int x)] := hl
  have same : xp n f i x = f → kI w D A s M' s.heap [] := fun h => by
    rw [h, l_set_self he] at hset
    rw [kI, ← hset]
    exact I
  refine lv_iload_n hx hb dX5_put_0 rfl (lv_at hl 1 rfl) ?_
  refine lv_if_lt (tgt := 14) hx hb dX5_put_1 (by decide) (fun c1 => ?_) (fun c1 => ?_)
  · exact k_vret X (same (by simp only [xp, if_pos c1])) hr hlocks dX5_put_14 rfl
  refine lv_iload_n hx hb dX5_put_4 rfl (lv_at hl 1 rfl) ?_
  refine lv_aload_n hx hb dX5_put_5 rfl (lv_at hl 0 rfl) ?_
  refine k_alen X I k he dX5_put_6 ?_
  refine lv_icmp_ge (tgt := 14) hx hb dX5_put_7 (by decide) (fun c2 => ?_) (fun c2 => ?_)
  · exact k_vret X (same (by simp only [xp, if_neg c1, if_pos c2])) hr hlocks dX5_put_14 rfl
  refine lv_aload_n hx hb dX5_put_10 rfl (lv_at hl 0 rfl) ?_
  refine lv_iload_n hx hb dX5_put_11 rfl (lv_at hl 1 rfl) ?_
  refine lv_iload_n hx hb dX5_put_12 rfl (lv_at hl 2 rfl) ?_
  refine k_ast (f1 := xp n f i x) (M1 := M') X I ?_ k he dX5_put_13 hset (fun H locs I => ?_)
  · have h := xin c1 c2 hn
    unfold vp_in at h
    simp only [xst, if_neg h, xp, if_neg c1, if_neg c2]
  exact k_vret X I hr hlocks dX5_put_14 rfl
def xcn (i : Nat) (f g : Nat → Int32) : Nat → Int32 := fun j => if j < i then f j else g j
theorem xcn_0 (f g : Nat → Int32) : xcn 0 f g = g := by funext j; simp [xcn]
theorem xcn_s (i : Nat) (f g : Nat → Int32) : upd (xcn i f g) i (f i) = xcn (i + 1) f g := by
  funext j
  unfold upd xcn
  by_cases h : j = i
  · subst h; simp
  · by_cases h2 : j < i
    · simp [h, h2, Nat.lt_succ_of_lt h2]
    · rw [if_neg h, if_neg h2, if_neg (by omega)]
theorem xcn_e {n1 n2 i : Nat} (f g : Nat → Int32) (h1 : i ≤ n1) (h2 : i ≤ n2) (h : n1 ≤ i ∨ n2 ≤ i) : xcn i f g = xc n1 n2 f g := by
  funext j
  unfold xcn xc
  by_cases hj : j < i
  · rw [if_pos hj, if_pos ⟨by omega, by omega⟩]
  · rw [if_neg hj, if_neg (by omega)]
set_option maxRecDepth 100000 in
set_option maxHeartbeats 4000000 in
theorem c_copy {a1 a2 n1 n2 : Nat} {f g : Nat → Int32} (k1 k2 : Nat) (he1 : (w M)[k1]? = some (a1, .inl (aI, n1, .inl f))) (he2 : (w M)[k2]? = some (a2, .inl (aI, n2, .inl g))) (hne : k2 ≠ k1) (hn1 : n1 < 2 ^ 30) (hn2 : n2 < 2 ^ 30) (Mf : (Nat → Int32) → xM) (hset : ∀ g' : Nat → Int32, (w M).set k2 (a2, .inl (aI, n2, .inl g')) = w (Mf g')) {Mz : xM} (hz : Mf (xc n1 n2 f g) = Mz) : kM l yX5_copy (wk yX5_copy cX5_copy 3 none) rm_0 w D aI t [.ref a1, .ref a2] M none Mz := by
  subst hz
  refine kM_of (by decide) (Nat.le_of_ble_eq_true rfl) ?_
  intro p e s m args below meth c A ls X hr hlocks hl I
  have hx := X.1
  have hb := X.2.1
  have hk2 := (List.getElem?_eq_some_iff.mp he2).1
  have hl : lv_has ls 3 [(0, .ref a1), (1, .ref a2)] := hl
  have loop : ∀ (d i : Nat), i + d = n1 → i ≤ n2 → ∀ (H : Heap) (locs : List Loc) (ls : Array Slot), kI w D A s (Mf (xcn i f g)) H locs → lv_has ls 3 [(2, .int (nI i)), (0, .ref a1), (1, .ref a2)] → W p l e rm_0 s m args below meth c H locs 0 0 (MQ below (kQ w D A none (Mf (xc n1 n2 f g))) args s 0 0 A) (F0 m 2 ls []) := by
    intro d
    induction d with
    | zero =>
      intro i hid hi2 H locs ls I hl
      have e1 : (w (Mf (xcn i f g)))[k1]? = some (a1, .inl (aI, n1, .inl f)) := by rw [← hset, List.getElem?_set_ne hne]; exact he1
      refine lv_iload_n hx hb dX5_copy_2 rfl (lv_at hl 0 rfl) ?_
      refine lv_aload_n hx hb dX5_copy_3 rfl (lv_at hl 1 rfl) ?_
      refine k_alen X I k1 e1 dX5_copy_4 ?_
      refine lv_icmp_ge (tgt := 26) hx hb dX5_copy_5 (by decide) (fun c1 => ?_) (fun c1 => ?_)
      · rw [xcn_e (n1 := n1) (n2 := n2) f g (by omega) hi2 (Or.inl (by omega))] at I
        exact k_vret X I hr hlocks dX5_copy_26 rfl
      · exact absurd (nI_le (by omega) (by omega)) c1
    | succ d ih =>
      intro i hid hi2 H locs ls I hl
      have e1 : (w (Mf (xcn i f g)))[k1]? = some (a1, .inl (aI, n1, .inl f)) := by rw [← hset, List.getElem?_set_ne hne]; exact he1
      have e2 : (w (Mf (xcn i f g)))[k2]? = some (a2, .inl (aI, n2, .inl (xcn i f g))) := by rw [← hset, List.getElem?_set_self hk2]
      refine lv_iload_n hx hb dX5_copy_2 rfl (lv_at hl 0 rfl) ?_
      refine lv_aload_n hx hb dX5_copy_3 rfl (lv_at hl 1 rfl) ?_
      refine k_alen X I k1 e1 dX5_copy_4 ?_
      refine lv_icmp_ge (tgt := 26) hx hb dX5_copy_5 (by decide) (fun c1 => ?_) (fun c1 => ?_)
      · exact absurd c1 (nI_ge (by omega) (by omega))
      refine lv_iload_n hx hb dX5_copy_8 rfl (lv_at hl 0 rfl) ?_
      refine lv_aload_n hx hb dX5_copy_9 rfl (lv_at hl 2 rfl) ?_
      refine k_alen X I k2 e2 dX5_copy_10 ?_
      refine lv_icmp_ge (tgt := 26) hx hb dX5_copy_11 (by decide) (fun c2 => ?_) (fun c2 => ?_)
      · have hge : n2 ≤ i := (nI_leI (by omega) (by omega)).mp c2
        rw [xcn_e (n1 := n1) (n2 := n2) f g (by omega) hi2 (Or.inr hge)] at I
        exact k_vret X I hr hlocks dX5_copy_26 rfl
      have hlt : i < n2 := by
        rcases Nat.lt_or_ge i n2 with h | h
        · exact h
        · exact absurd (nI_le h (by omega)) c2
      refine lv_aload_n hx hb dX5_copy_14 rfl (lv_at hl 2 rfl) ?_
      refine lv_iload_n hx hb dX5_copy_15 rfl (lv_at hl 0 rfl) ?_
      refine lv_aload_n hx hb dX5_copy_16 rfl (lv_at hl 1 rfl) ?_
      refine lv_iload_n hx hb dX5_copy_17 rfl (lv_at hl 0 rfl) ?_
      refine va_iald hx hb X.2.2.2.2.2.1 I.1 k1 0 e1 rfl (vp_in_nI (by omega) (by omega)) dX5_copy_18 ?_
      refine k_ast (f1 := xcn (i + 1) f g) (M1 := Mf (xcn (i + 1) f g)) X I ?_ k2 e2 dX5_copy_19 (by rw [← hset, List.set_set, hset]) (fun H locs I => ?_)
      · have h : ¬ (nI i < 0 ∨ n2 ≤ (nI i).toNatClampNeg) := vp_in_nI hlt (by omega)
        rw [xst, if_neg h, nI_clamp (by omega), xcn_s]
      refine lv_iinc (v := nI (i + 1)) (lv' := [(2, .int (nI (i + 1))), (0, .ref a1), (1, .ref a2)]) hx hb dX5_copy_20 hl (k := 0) rfl (nI_1 i) (by decide) rfl (fun ls hl => ?_)
      refine lv_goto (tgt := 2) hx hb dX5_copy_23 (by decide) ?_
      exact ih (i + 1) (by omega) (by omega) H locs ls I hl
  refine lv_iconst (v := 0) hx hb dX5_copy_0 (by decide) ?_
  refine lv_istore_n (lv' := [(2, .int 0), (0, .ref a1), (1, .ref a2)]) hx hb dX5_copy_1 rfl hl (by decide) rfl (fun ls hl => ?_)
  refine loop n1 0 (by omega) (Nat.zero_le _) _ _ ls ?_ hl
  rw [xcn_0, kI, ← hset, l_set_self he2]
  exact I
set_option maxRecDepth 100000 in
set_option maxHeartbeats 4000000 in
theorem d_copy {a1 a2 n1 n2 : Nat} {f g : Nat → Int32} (k1 k2 : Nat) (he1 : (w M)[k1]? = some (a1, .inl (aI, n1, .inl f))) (he2 : (w M)[k2]? = some (a2, .inl (aI, n2, .inl g))) (hne : k2 ≠ k1) (hn1 : n1 ≤ n2) (hn2 : n2 < 2 ^ 30) (Mf : (Nat → Int32) → xM) (hset : ∀ g' : Nat → Int32, (w M).set k2 (a2, .inl (aI, n2, .inl g')) = w (Mf g')) {Mz : xM} (hz : Mf (xc n1 n2 f g) = Mz) : kM l yX6_copy (wk yX6_copy cX6_copy 3 none) rm_0 w D aI t [.ref a1, .ref a2] M none Mz := by
  subst hz
  refine kM_of (by decide) (Nat.le_of_ble_eq_true rfl) ?_
  intro p e s m args below meth c A ls X hr hlocks hl I
  have hx := X.1
  have hb := X.2.1
  have hk2 := (List.getElem?_eq_some_iff.mp he2).1
  have hl : lv_has ls 3 [(0, .ref a1), (1, .ref a2)] := hl
  have loop : ∀ (d i : Nat), i + d = n1 → ∀ (H : Heap) (locs : List Loc) (ls : Array Slot), kI w D A s (Mf (xcn i f g)) H locs → lv_has ls 3 [(2, .int (nI i)), (0, .ref a1), (1, .ref a2)] → W p l e rm_0 s m args below meth c H locs 0 0 (MQ below (kQ w D A none (Mf (xc n1 n2 f g))) args s 0 0 A) (F0 m 2 ls []) := by
    intro d
    induction d with
    | zero =>
      intro i hid H locs ls I hl
      have e1 : (w (Mf (xcn i f g)))[k1]? = some (a1, .inl (aI, n1, .inl f)) := by rw [← hset, List.getElem?_set_ne hne]; exact he1
      refine lv_iload_n hx hb dX6_copy_2 rfl (lv_at hl 0 rfl) ?_
      refine lv_aload_n hx hb dX6_copy_3 rfl (lv_at hl 1 rfl) ?_
      refine k_alen X I k1 e1 dX6_copy_4 ?_
      refine lv_icmp_ge (tgt := 20) hx hb dX6_copy_5 (by decide) (fun c1 => ?_) (fun c1 => ?_)
      · rw [xcn_e (n1 := n1) (n2 := n2) f g (by omega) (by omega) (Or.inl (by omega))] at I
        exact k_vret X I hr hlocks dX6_copy_20 rfl
      · exact absurd (nI_le (by omega) (by omega)) c1
    | succ d ih =>
      intro i hid H locs ls I hl
      have e1 : (w (Mf (xcn i f g)))[k1]? = some (a1, .inl (aI, n1, .inl f)) := by rw [← hset, List.getElem?_set_ne hne]; exact he1
      have e2 : (w (Mf (xcn i f g)))[k2]? = some (a2, .inl (aI, n2, .inl (xcn i f g))) := by rw [← hset, List.getElem?_set_self hk2]
      refine lv_iload_n hx hb dX6_copy_2 rfl (lv_at hl 0 rfl) ?_
      refine lv_aload_n hx hb dX6_copy_3 rfl (lv_at hl 1 rfl) ?_
      refine k_alen X I k1 e1 dX6_copy_4 ?_
      refine lv_icmp_ge (tgt := 20) hx hb dX6_copy_5 (by decide) (fun c1 => ?_) (fun c1 => ?_)
      · exact absurd c1 (nI_ge (by omega) (by omega))
      refine lv_aload_n hx hb dX6_copy_8 rfl (lv_at hl 2 rfl) ?_
      refine lv_iload_n hx hb dX6_copy_9 rfl (lv_at hl 0 rfl) ?_
      refine lv_aload_n hx hb dX6_copy_10 rfl (lv_at hl 1 rfl) ?_
      refine lv_iload_n hx hb dX6_copy_11 rfl (lv_at hl 0 rfl) ?_
      refine va_iald hx hb X.2.2.2.2.2.1 I.1 k1 0 e1 rfl (vp_in_nI (by omega) (by omega)) dX6_copy_12 ?_
      refine k_ast (f1 := xcn (i + 1) f g) (M1 := Mf (xcn (i + 1) f g)) X I ?_ k2 e2 dX6_copy_13 (by rw [← hset, List.set_set, hset]) (fun H locs I => ?_)
      · have h : ¬ (nI i < 0 ∨ n2 ≤ (nI i).toNatClampNeg) := vp_in_nI (by omega) (by omega)
        rw [xst, if_neg h, nI_clamp (by omega), xcn_s]
      refine lv_iinc (v := nI (i + 1)) (lv' := [(2, .int (nI (i + 1))), (0, .ref a1), (1, .ref a2)]) hx hb dX6_copy_14 hl (k := 0) rfl (nI_1 i) (by decide) rfl (fun ls hl => ?_)
      refine lv_goto (tgt := 2) hx hb dX6_copy_17 (by decide) ?_
      exact ih (i + 1) (by omega) H locs ls I hl
  refine lv_iconst (v := 0) hx hb dX6_copy_0 (by decide) ?_
  refine lv_istore_n (lv' := [(2, .int 0), (0, .ref a1), (1, .ref a2)]) hx hb dX6_copy_1 rfl hl (by decide) rfl (fun ls hl => ?_)
  refine loop n1 0 (by omega) _ _ ls ?_ hl
  rw [xcn_0, kI, ← hset, l_set_self he2]
  exact I
end BAS
