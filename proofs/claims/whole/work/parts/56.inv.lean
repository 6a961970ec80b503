/-! ===== what class and reference have in common ===== -/
def IvB (T K : Nat) (C D : xM) : Prop := C.1 2 = nI T ∧ D.1 2 = nI T ∧ C.1 3 = nI K ∧ D.1 3 = nI K ∧ T ≤ 5 ∧ K ≤ 3 ∧ (0 < T → 0 < K) ∧ (T = 0 → K = 0) ∧ ∀ c, c < 3 → ∃ k, k ≤ 4 ∧ C.2.2 2 c = nI k
def IvR (T K S mo : Nat) (C D : xM) : Prop := RG T K (C.2.2 1) (C.2.2 2) (C.2.2 3) (C.2.2 4) (D.2.2 1) (D.2.2 2) ∧ C.1 5 = nI S ∧ D.1 8 = nI S ∧ RS S T K (C.2.2 5) (C.2.2 6) (C.2.2 7) (D.2.2 6) ∧ C.1 6 = nI mo ∧ D.1 4 = nI mo ∧ mo ≤ 99 ∧ C.1 7 = D.1 5 ∧ C.1 8 = D.1 6
def IvI (T K S mo : Nat) (C D : xM) : Prop := RG T K (C.2.2 1) (C.2.2 2) (C.2.2 8) (C.2.2 9) (D.2.2 8) (D.2.2 9) ∧ C.1 9 = nI S ∧ D.1 14 = nI S ∧ RS S T K (C.2.2 10) (C.2.2 11) (C.2.2 12) (D.2.2 10) ∧ C.1 10 = nI mo ∧ D.1 11 = nI mo ∧ mo ≤ 99 ∧ C.1 11 = D.1 12 ∧ C.1 12 = D.1 13
def IvP (n : Nat) (C D : xM) : Prop := C.1 1 = nI n ∧ D.1 0 = nI n ∧ n ≤ 36 ∧ ∀ i, i < n → C.2.2 0 i = D.2.2 0 i ∧ ∃ v, 1 ≤ v ∧ v ≤ 126 ∧ C.2.2 0 i = nI v
def IvN (b : Nat) (C D : xM) : Prop := C.1 0 = nI b ∧ D.1 7 = nI b
def IvK (T K b : Nat) (C D : xM) : Prop := (C.1 4 = 0 ∧ (D.1 10 = -1 ∨ ∃ a, a < b ∧ D.1 10 = nI a)) ∨ (C.1 4 = 1 ∧ D.1 10 = nI b ∧ 0 < T ∧ ∃ S mo, IvI T K S mo C D)
def Inv (C D : xM) (j : Nat) : Prop := ∃ T K S mo n b, b ≤ j ∧ IvB T K C D ∧ IvR T K S mo C D ∧ IvP n C D ∧ IvN b C D ∧ IvK T K b C D
theorem inv_mon (C D : xM) (j : Nat) (h : Inv C D j) : Inv C D (j + 1) := by
  obtain ⟨T, K, S, mo, n, b, h1, h2⟩ := h
  exact ⟨T, K, S, mo, n, b, by omega, h2⟩
theorem inv_0 (f g : Nat → Int32) (hf : ∀ j : Nat, j < 5 → f j = -1) (hg : ∀ j : Nat, j < 5 → g j = -1) : Inv (xC0 f g) xD0 0 := by
  have hx : ∀ c : Int32, ¬ c = -1 → xOf f c = -1 := by
    intro c hc
    have hc : ∀ j, j < 5 → ¬ f j = c := fun j hj e => hc (by rw [← e, hf j hj])
    rw [xOf, if_neg (hc 0 (by omega)), if_neg (hc 1 (by omega)), if_neg (hc 2 (by omega)), if_neg (hc 3 (by omega)), if_neg (hc 4 (by omega))]
  refine ⟨0, 0, 0, 0, 0, 0, Nat.le_refl 0, ⟨rfl, rfl, rfl, rfl, by omega, by omega, fun h => by omega, fun _ => rfl, fun c hc => ⟨0, by omega, rfl⟩⟩, ⟨⟨fun t s h => by omega, fun t h => by omega, fun c s h => by omega, fun c h => by omega, fun c h => by omega, fun t ht => Or.inl (hf t ht), fun t u ht hu h1 h2 => absurd (hf t ht) h2⟩, rfl, rfl, ⟨by omega, fun i h => by omega⟩, rfl, rfl, by omega, rfl, rfl⟩, ⟨rfl, rfl, by omega, fun i h => by omega⟩, ⟨rfl, rfl⟩, Or.inl ⟨rfl, Or.inl rfl⟩⟩
theorem ivWC {T K : Nat} {C D : xM} (h : IvB T K C D) : WC C T K := ⟨h.1, h.2.2.1, h.2.2.2.2.1, h.2.2.2.2.2.1, h.2.2.2.2.2.2.2.2⟩
theorem ivRD {T K S mo : Nat} {C D : xM} (h : IvB T K C D) (g : IvR T K S mo C D) : RD C D T K := ⟨ivWC h, h.2.1, h.2.2.2.1, g.1⟩
theorem ivSW {T K S mo : Nat} {C D : xM} (h : IvB T K C D) (g : IvR T K S mo C D) : SW C S := by
  have h5 := h.2.2.2.2.1
  have h3 := h.2.2.2.2.2.1
  refine ⟨g.2.1, g.2.2.2.1.1, fun i hi => ?_⟩
  obtain ⟨-, -, -, ⟨t, ht, et⟩, ⟨c, hc, ec⟩, hb⟩ := g.2.2.2.1.2 i hi
  exact ⟨⟨t, by omega, et⟩, ⟨c, by omega, ec⟩, hb⟩
theorem xOf_congr {h h' : Nat → Int32} (e : ∀ t, t < 5 → h' t = h t) (c : Int32) : xOf h' c = xOf h c := by
  unfold xOf
  rw [e 0 (by omega), e 1 (by omega), e 2 (by omega), e 3 (by omega), e 4 (by omega)]
theorem RG_congr {T K : Nat} {sg kd hd mm lots rows hd' mm' lots' rows' : Nat → Int32} (hT : T ≤ 5) (hK : K ≤ 3) (e1 : ∀ t, t < 5 → hd' t = hd t) (e2 : ∀ j, j < 9 → mm' j = mm j) (e3 : ∀ j, j < 20 → lots' j = lots j) (e4 : ∀ j, j < 15 → rows' j = rows j) (h : RG T K sg kd hd mm lots rows) : RG T K sg kd hd' mm' lots' rows' := by
  obtain ⟨h1, h2, h3, h4, h5, h6, h7⟩ := h
  refine ⟨fun t s ht hs => ?_, fun t ht => ?_, fun c s hc hs => ?_, fun c hc => ?_, fun c hc => ?_, fun t ht => ?_, fun t u ht hu => ?_⟩
  · rw [e3 _ (by omega)]; exact h1 t s ht hs
  · rw [e3 _ (by omega), e1 _ (by omega)]; exact h2 t ht
  · rw [e4 _ (by omega), e2 _ (by omega)]; exact h3 c s hc hs
  · rw [e4 _ (by omega)]; exact h4 c hc
  · rw [e4 _ (by omega), xOf_congr e1]; exact h5 c hc
  · rw [e1 t ht]; exact h6 t ht
  · rw [e1 t ht, e1 u hu]; exact h7 t u ht hu
theorem RS_congr {S T K : Nat} {sT sC sF sg sT' sC' sF' sg' : Nat → Int32} (e1 : ∀ i, i < 8 → sT' i = sT i) (e2 : ∀ i, i < 8 → sC' i = sC i) (e3 : ∀ i, i < 8 → sF' i = sF i) (e4 : ∀ i, i < 24 → sg' i = sg i) (h : RS S T K sT sC sF sg) : RS S T K sT' sC' sF' sg' := by
  obtain ⟨h1, h2⟩ := h
  refine ⟨h1, fun i hi => ?_⟩
  rw [e1 i (by omega), e2 i (by omega), e3 i (by omega), e4 _ (by omega), e4 _ (by omega), e4 _ (by omega)]
  exact h2 i hi
theorem xc_lt {n j : Nat} {f g : Nat → Int32} (h : j < n) : xc n n f g j = f j := by
  rw [xc, if_pos ⟨h, h⟩]
/-! in the range: class and reference -/
def isIx (x : Int32) (n : Nat) : Bool := decide (0 ≤ x ∧ x < nI n)
theorem isIx_of {x : Int32} {n : Nat} (hn : n < 2 ^ 31) (h : isIx x n = true) : ∃ k, k < n ∧ x = nI k := by
  have h := of_decide_eq_true h
  obtain ⟨k, hk, rfl⟩ := nI_of (Int32.not_lt.mpr h.1)
  exact ⟨k, (nI_ltI hk hn).mp h.2, rfl⟩
theorem isIx_no {x : Int32} {n : Nat} (hn : n < 2 ^ 31) (h : isIx x n = false) : ∀ k, k < n → x ≠ nI k := by
  intro k hk e
  have h := of_decide_eq_false h
  exact h (by rw [e]; exact ⟨nI_pos' (by omega), nI_lt hk hn⟩)
theorem c_below (x : Int32) {n : Nat} : f_X5_isBelow x (nI n) = some (bI (isIx x n)) := by
  rw [f_X5_isBelow]
  by_cases h0 : x < 0
  · rw [if_pos h0, xbo_0, isIx, decide_eq_false (fun h => (Int32.not_le.mpr h0) h.1)]
  · rw [if_neg h0]
    by_cases h1 : nI n ≤ x
    · rw [if_pos h1, xbo_0, isIx, decide_eq_false (fun h => (Int32.not_lt.mpr h1) h.2)]
    · rw [if_neg h1, xbo_1, isIx, decide_eq_true ⟨Int32.not_lt.mp h0, Int32.not_le.mp h1⟩]
theorem i64_le (x y : Int32) : x.toInt64 ≤ y.toInt64 ↔ x ≤ y := by
  rw [Int64.le_iff_toInt_le, Int32.le_iff_toInt_le, Int32.toInt_toInt64, Int32.toInt_toInt64]
theorem i64_lt (x y : Int32) : x.toInt64 < y.toInt64 ↔ x < y := by
  rw [Int64.lt_iff_toInt_lt, Int32.lt_iff_toInt_lt, Int32.toInt_toInt64, Int32.toInt_toInt64]
theorem m_in (x lo hi : Int32) : f_X6_in x.toInt64 lo.toInt64 hi.toInt64 = some (bI (decide (lo ≤ x ∧ x ≤ hi))) := by
  have c1 : (lg_cmp x.toInt64 lo.toInt64 < 0) ↔ x < lo := by
    unfold lg_cmp
    constructor
    · intro h
      split at h
      · exact absurd h (by decide)
      · split at h
        · exact absurd h (by decide)
        · rename_i h1 h2
          have h1 : ¬ lo.toInt64 < x.toInt64 := h1
          rw [i64_lt] at h1
          refine Int32.not_le.mp (fun h3 => h2 ?_)
          have := Int32.le_antisymm h3 (Int32.not_lt.mp h1)
          rw [this]
    · intro h
      have h1 : ¬ x.toInt64 > lo.toInt64 := fun g => by
        have g : lo.toInt64 < x.toInt64 := g
        rw [i64_lt] at g
        exact Int32.lt_irrefl (Int32.lt_trans g h)
      have h2 : ¬ x.toInt64 = lo.toInt64 := fun g => by
        have := (i64_lt x lo).mpr h
        rw [g] at this
        exact Int64.lt_irrefl this
      rw [if_neg h1, if_neg h2]; decide
  have c2 : (0 < lg_cmp x.toInt64 hi.toInt64) ↔ hi < x := by
    unfold lg_cmp
    constructor
    · intro h
      split at h
      · rename_i h1
        have h1 : hi.toInt64 < x.toInt64 := h1
        exact (i64_lt _ _).mp h1
      · split at h <;> exact absurd h (by decide)
    · intro h
      have h1 : x.toInt64 > hi.toInt64 := (i64_lt _ _).mpr h
      rw [if_pos h1]; decide
  rw [f_X6_in]
  by_cases h1 : x < lo
  · rw [if_pos (c1.mpr h1), xbo_0, decide_eq_false (fun h => Int32.not_le.mpr h1 h.1)]
  · rw [if_neg (fun h => h1 (c1.mp h))]
    by_cases h2 : hi < x
    · rw [if_pos (c2.mpr h2), xbo_0, decide_eq_false (fun h => Int32.not_le.mpr h2 h.2)]
    · rw [if_neg (fun h => h2 (c2.mp h)), xbo_1, decide_eq_true ⟨Int32.not_lt.mp h1, Int32.not_lt.mp h2⟩]
theorem le_pred {x : Int32} {n : Nat} (hn : n < 2 ^ 30) : (0 ≤ x ∧ x ≤ nI n - 1) ↔ (0 ≤ x ∧ x < nI n) := by
  have e := pk_sub_toInt (a := n) (b := 1) hn (by omega)
  have e1 : (nI n - nI 1) = nI n - 1 := rfl
  rw [e1] at e
  have e2 := nI_toInt (n := n) (by omega)
  have q1 : x ≤ nI n - 1 ↔ x < nI n := by
    rw [Int32.le_iff_toInt_le, Int32.lt_iff_toInt_lt, e, e2]
    constructor <;> intro h <;> omega
  exact ⟨fun h => ⟨h.1, q1.mp h.2⟩, fun h => ⟨h.1, q1.mpr h.2⟩⟩
theorem m_ix (x : Int32) {n : Nat} (hn : n < 2 ^ 30) : f_X6_in x.toInt64 (0 : Int64) (nI n - 1).toInt64 = some (bI (isIx x n)) := by
  have := m_in x 0 (nI n - 1)
  rw [show ((0 : Int32)).toInt64 = (0 : Int64) from rfl] at this
  rw [this, isIx]
  congr 2
  exact decide_eq_decide.mpr (le_pred hn)
section IX
variable {T K : Nat} {C D : xM}
theorem c_isT (h : IvB T K C D) (x : Int32) : f_X3_hasThing x C = some (bI (isIx x T)) := by rw [f_X3_hasThing, h.1, c_below, ob_s, xbo_bI]
theorem c_isC (h : IvB T K C D) (x : Int32) : f_X3_hasClaimer x C = some (bI (isIx x K)) := by rw [f_X3_hasClaimer, h.2.2.1, c_below, ob_s, xbo_bI]
theorem c_both (h : IvB T K C D) (x y : Int32) : f_X3_hasBoth x y C = some (bI (isIx x T && isIx y K)) := by
  rw [f_X3_hasBoth, c_isT h, ob_s, ite_bI, c_isC h, ob_s, ite_bI, xbo_0, xbo_1]
  cases isIx x T <;> cases isIx y K <;> rfl
theorem m_isT (h : IvB T K C D) (x : Int32) : f_X6_isThing x D = some (bI (isIx x T)) := by
  have h5 := h.2.2.2.2.1
  rw [f_X6_isThing, h.2.1, m_ix x (by omega), ob_s, xbo_bI]
theorem m_isC (h : IvB T K C D) (x : Int32) : f_X6_isClaimer x D = some (bI (isIx x K)) := by
  have h3 := h.2.2.2.2.2.1
  rw [f_X6_isClaimer, h.2.2.2.1, m_ix x (by omega), ob_s, xbo_bI]
theorem c_stands (h : IvB T K C D) : f_X3_stands C = some (bI (decide (0 < T))) := by
  have h5 := h.2.2.2.2.1
  rw [f_X3_stands, h.1, n0, ite_le (by omega) (by omega)]
  by_cases e : 0 < T
  · rw [if_neg (by omega), xbo_1, decide_eq_true e]
  · rw [if_pos (by omega), ← n0, xbo_0, decide_eq_false e]
theorem m_lacks (h : IvB T K C D) : f_X6_lacks D = some (bI (decide (T = 0))) := by
  have h5 := h.2.2.2.2.1
  rw [f_X6_lacks, h.2.1, n0, ite_eq (by omega) (by omega)]
  by_cases e : T = 0
  · rw [if_pos e, xbo_1, decide_eq_true e]
  · rw [if_neg e, ← n0, xbo_0, decide_eq_false e]
end IX
