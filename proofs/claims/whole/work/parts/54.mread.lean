/-! ===== the reference's reads ===== -/
def RG (T K : Nat) (sg kd hd mm lots rows : Nat → Int32) : Prop :=
  (∀ t s, t < T → s < 3 → lots (4 * t + s) = sg (t * 3 + s) ∧ ∃ v, v ≤ 9 ∧ sg (t * 3 + s) = nI v) ∧
  (∀ t, t < T → lots (4 * t + 3) = hd t) ∧
  (∀ c s, c < K → s < 3 → rows (5 * c + s) = mm (c * 3 + s) ∧ ∃ v, v ≤ 9 ∧ mm (c * 3 + s) = nI v) ∧
  (∀ c, c < K → rows (5 * c + 3) = kd c) ∧
  (∀ c, c < K → rows (5 * c + 4) = xOf hd (nI c)) ∧
  (∀ t, t < 5 → hd t = -1 ∨ (t < T ∧ ∃ c, c < K ∧ hd t = nI c)) ∧
  (∀ t u, t < 5 → u < 5 → hd t = hd u → hd t ≠ -1 → t = u)
def RD (C D : xM) (T K : Nat) : Prop := WC C T K ∧ D.1 2 = nI T ∧ D.1 3 = nI K ∧ RG T K (C.2.2 1) (C.2.2 2) (C.2.2 3) (C.2.2 4) (D.2.2 1) (D.2.2 2)
def RS (S T K : Nat) (sT sC sF sights : Nat → Int32) : Prop := S ≤ 8 ∧ ∀ i, i < S → sights (3 * i) = sT i ∧ sights (3 * i + 1) = sC i ∧ sights (3 * i + 2) = sF i ∧ (∃ t, t < T ∧ sT i = nI t) ∧ (∃ c, c < K ∧ sC i = nI c) ∧ (sF i = 0 ∨ sF i = 1)
theorem ix4 (t s : Nat) : (4 : Int32) * nI t + nI s = nI (4 * t + s) := by rw [n4, pk_mul, nI_add]
theorem ix5 (c s : Nat) : (5 : Int32) * nI c + nI s = nI (5 * c + s) := by rw [n5, pk_mul, nI_add]
theorem ix3 (c s : Nat) : (3 : Int32) * nI c + nI s = nI (3 * c + s) := by rw [n3, pk_mul, nI_add]
theorem ix40 (t : Nat) : (4 : Int32) * nI t = nI (4 * t) := by rw [n4, pk_mul]
theorem ix50 (t : Nat) : (5 : Int32) * nI t = nI (5 * t) := by rw [n5, pk_mul]
theorem ix30 (t : Nat) : (3 : Int32) * nI t = nI (3 * t) := by rw [n3, pk_mul]
section MR
variable {C D : xM} {T K t c : Nat}
theorem l_s0 (h : RD C D T K) (ht : t < T) : xld 20 (D.2.2 1) ((4 : Int32) * nI t) = some (C.2.2 1 (t * 3)) := by
  have h5 := h.1.2.2.1
  rw [ix40, xld_n (by omega) (by omega)]
  exact congrArg some (h.2.2.2.1 t 0 ht (by omega)).1
theorem l_s1 (h : RD C D T K) (ht : t < T) : xld 20 (D.2.2 1) ((4 : Int32) * nI t + 1) = some (C.2.2 1 (t * 3 + 1)) := by
  have h5 := h.1.2.2.1
  rw [n1, ix4, xld_n (by omega) (by omega)]
  exact congrArg some (h.2.2.2.1 t 1 ht (by omega)).1
theorem l_s2 (h : RD C D T K) (ht : t < T) : xld 20 (D.2.2 1) ((4 : Int32) * nI t + 2) = some (C.2.2 1 (t * 3 + 2)) := by
  have h5 := h.1.2.2.1
  rw [n2, ix4, xld_n (by omega) (by omega)]
  exact congrArg some (h.2.2.2.1 t 2 ht (by omega)).1
theorem l_h (h : RD C D T K) (ht : t < T) : xld 20 (D.2.2 1) ((4 : Int32) * nI t + 3) = some (C.2.2 3 t) := by
  have h5 := h.1.2.2.1
  rw [n3, ix4, xld_n (by omega) (by omega)]
  exact congrArg some (h.2.2.2.2.1 t ht)
theorem r_0 (h : RD C D T K) (hc : c < K) : xld 15 (D.2.2 2) ((5 : Int32) * nI c) = some (C.2.2 4 (c * 3)) := by
  have h5 := h.1.2.2.2.1
  rw [ix50, xld_n (by omega) (by omega)]
  exact congrArg some (h.2.2.2.2.2.1 c 0 hc (by omega)).1
theorem r_1 (h : RD C D T K) (hc : c < K) : xld 15 (D.2.2 2) ((5 : Int32) * nI c + 1) = some (C.2.2 4 (c * 3 + 1)) := by
  have h5 := h.1.2.2.2.1
  rw [n1, ix5, xld_n (by omega) (by omega)]
  exact congrArg some (h.2.2.2.2.2.1 c 1 hc (by omega)).1
theorem r_2 (h : RD C D T K) (hc : c < K) : xld 15 (D.2.2 2) ((5 : Int32) * nI c + 2) = some (C.2.2 4 (c * 3 + 2)) := by
  have h5 := h.1.2.2.2.1
  rw [n2, ix5, xld_n (by omega) (by omega)]
  exact congrArg some (h.2.2.2.2.2.1 c 2 hc (by omega)).1
theorem r_k (h : RD C D T K) (hc : c < K) : xld 15 (D.2.2 2) ((5 : Int32) * nI c + 3) = some (C.2.2 2 c) := by
  have h5 := h.1.2.2.2.1
  rw [n3, ix5, xld_n (by omega) (by omega)]
  exact congrArg some (h.2.2.2.2.2.2.1 c hc)
theorem r_h (h : RD C D T K) (hc : c < K) : xld 15 (D.2.2 2) ((5 : Int32) * nI c + 4) = some (xOf (C.2.2 3) (nI c)) := by
  have h5 := h.1.2.2.2.1
  rw [n4, ix5, xld_n (by omega) (by omega)]
  exact congrArg some (h.2.2.2.2.2.2.2.1 c hc)
theorem m_wI (h : RD C D T K) (ht : t < T) (hc : c < K) (y : Int32) : f_X6_wrongIn (nI t) (nI c) y D = some (wI C t c y) := by
  rw [f_X6_wrongIn, r_k h hc, ob_s, l_s2 h ht, ob_s, r_2 h hc, ob_s, wI]
  simp only [f_X6_wrongIn_b40, r_0 h hc, ob_s, f_X6_wrongIn_b78, l_s1 h ht, r_1 h hc, f_X6_wrongIn_b115, f_X6_wrongIn_b120, f_X6_wrongIn_b137]
  generalize C.2.2 2 c = k
  generalize C.2.2 4 (c * 3) = my
  generalize C.2.2 1 (t * 3 + 1) = p
  generalize C.2.2 4 (c * 3 + 1) = mp
  generalize C.2.2 1 (t * 3 + 2) = l
  generalize C.2.2 4 (c * 3 + 2) = ml
  have e0 : (2 : Int32) * 0 = 0 := rfl
  have e1 : (2 : Int32) * 1 = 2 := rfl
  have e2 : (3 : Int32) * 0 = 0 := rfl
  have e3 : (3 : Int32) * 1 = 3 := rfl
  have en : ∀ z : Int32, -z = 0 - z := fun z => by simp
  unfold Wr far
  by_cases h1 : l = ml
  · by_cases h2 : k = 3
    · simp only [if_pos h1, if_pos h2, e2]
    · simp only [if_pos h1, if_neg h2, e0, en]
      by_cases h3 : 0 ≤ y - my
      · simp only [if_pos h3]
        by_cases h4 : p = mp
        · by_cases h5 : k = 2 <;> simp only [if_pos h4, h5, if_true, if_false]
        · by_cases h5 : k = 2
          · subst h5
            simp [h4]
          · simp only [if_neg h4, if_neg h5]
            by_cases h6 : k = 1
            · simp only [if_pos h6]
            · by_cases h7 : k = 4
              · simp only [if_pos h7, if_neg h6]
              · simp only [if_neg h7, if_neg h6]
      · simp only [if_neg h3]
        by_cases h4 : p = mp
        · by_cases h5 : k = 2 <;> simp only [if_pos h4, h5, if_true, if_false]
        · by_cases h5 : k = 2
          · subst h5
            simp [h4]
          · simp only [if_neg h4, if_neg h5]
            by_cases h6 : k = 1
            · simp only [if_pos h6]
            · by_cases h7 : k = 4
              · simp only [if_pos h7, if_neg h6]
              · simp only [if_neg h7, if_neg h6]
  · by_cases h2 : k = 3
    · simp only [if_neg h1, if_pos h2, e3]
    · simp only [if_neg h1, if_neg h2, e1, en]
      by_cases h3 : 0 ≤ y - my
      · simp only [if_pos h3]
        by_cases h4 : p = mp
        · by_cases h5 : k = 2 <;> simp only [if_pos h4, h5, if_true, if_false]
        · by_cases h5 : k = 2
          · subst h5
            simp [h4]
          · simp only [if_neg h4, if_neg h5]
            by_cases h6 : k = 1
            · simp only [if_pos h6]
            · by_cases h7 : k = 4
              · simp only [if_pos h7, if_neg h6]
              · simp only [if_neg h7, if_neg h6]
      · simp only [if_neg h3]
        by_cases h4 : p = mp
        · by_cases h5 : k = 2 <;> simp only [if_pos h4, h5, if_true, if_false]
        · by_cases h5 : k = 2
          · subst h5
            simp [h4]
          · simp only [if_neg h4, if_neg h5]
            by_cases h6 : k = 1
            · simp only [if_pos h6]
            · by_cases h7 : k = 4
              · simp only [if_pos h7, if_neg h6]
              · simp only [if_neg h7, if_neg h6]
theorem m_wO (h : RD C D T K) (ht : t < T) (hc : c < K) : f_X6_wrongOf (nI t) (nI c) D = some (wO C t c) := by
  rw [f_X6_wrongOf, l_s0 h ht, ob_s, m_wI h ht hc, ob_s, wO]
theorem m_fitsBy (h : RD C D T K) (hc : c < K) (w : Int32) : f_X6_fitsBy (nI c) w D = some (bI (Ft (C.2.2 2 c) w)) := by
  rw [f_X6_fitsBy, r_k h hc, ob_s]
  simp only [f_X6_fitsBy_b20, Ft]
  by_cases h4 : C.2.2 2 c = 4
  · simp only [if_pos h4]
    by_cases h5 : 4 < w
    · rw [if_pos h5, xbo_0, decide_eq_false (Int32.not_le.mpr h5)]
    · rw [if_neg h5, xbo_1, decide_eq_true (Int32.not_lt.mp h5)]
  · simp only [if_neg h4]
    by_cases h5 : 2 < w
    · rw [if_pos h5, xbo_0, decide_eq_false (Int32.not_le.mpr h5)]
    · rw [if_neg h5, xbo_1, decide_eq_true (Int32.not_lt.mp h5)]
theorem m_fits (h : RD C D T K) (ht : t < T) (hc : c < K) : f_X6_fits (nI t) (nI c) D = some (bI (fO C t c)) := by
  rw [f_X6_fits, m_wO h ht hc, ob_s, m_fitsBy h hc, ob_s, xbo_bI, fO]
theorem or_0 (x : Int32) : x ||| 0 = x := by simp
theorem m_claimersOf (h : RD C D T K) (ht : t < T) : f_X6_claimersOf (nI t) D = some (bS (fun c => fO C t c) K) := by
  have hK := h.2.2.1
  have hK3 := h.1.2.2.2.1
  refine for_ix (fun n a i => f_X6_claimersOf_l4 n (nI t) a i D) nI K (fun i a => a = bS (fun c => fO C t c) i) _ ?_ ?_ xN 0 (by rw [xN_v]; omega) rfl
  · rintro n a rfl
    show f_X6_claimersOf_l4 (n + 1) (nI t) _ (nI K) D = _
    rw [f_X6_claimersOf_l4, hK, ite_le (by omega) (by omega), if_pos (Nat.le_refl K)]
  · rintro n i a hi rfl
    refine Or.inr ⟨_, rfl, ?_⟩
    show f_X6_claimersOf_l4 (n + 1) (nI t) _ (nI i) D = f_X6_claimersOf_l4 n (nI t) _ (nI (i + 1)) D
    rw [f_X6_claimersOf_l4, hK, ite_le (by omega) (by omega), if_neg (by omega), m_fits h ht hi, ob_s, ite_bI, bS]
    cases fO C t i <;> simp [f_X6_claimersOf_b29, nI_1, or_0]
theorem m_thingsOf (h : RD C D T K) (hc : c < K) : f_X6_thingsOf (nI c) D = some (bS (fun t => fO C t c) T) := by
  have hT := h.2.1
  have hT5 := h.1.2.2.1
  refine for_ix (fun n a i => f_X6_thingsOf_l4 n (nI c) a i D) nI T (fun i a => a = bS (fun t => fO C t c) i) _ ?_ ?_ xN 0 (by rw [xN_v]; omega) rfl
  · rintro n a rfl
    show f_X6_thingsOf_l4 (n + 1) (nI c) _ (nI T) D = _
    rw [f_X6_thingsOf_l4, hT, ite_le (by omega) (by omega), if_pos (Nat.le_refl T)]
  · rintro n i a hi rfl
    refine Or.inr ⟨_, rfl, ?_⟩
    show f_X6_thingsOf_l4 (n + 1) (nI c) _ (nI i) D = f_X6_thingsOf_l4 n (nI c) _ (nI (i + 1)) D
    rw [f_X6_thingsOf_l4, hT, ite_le (by omega) (by omega), if_neg (by omega), m_fits h hi hc, ob_s, ite_bI, bS]
    cases fO C i c <;> simp [f_X6_thingsOf_b29, nI_1, or_0]
theorem bI_ne {b : Bool} : (bI b = 0) = (b = false) := by cases b <;> simp [bI]
theorem m_yearsOf {S : Nat} (h : RD C D T K) (h8 : D.1 8 = nI S) (hS : RS S T K (C.2.2 5) (C.2.2 6) (C.2.2 7) (D.2.2 6)) (ht : t < T) : f_X6_yearsOf (nI t) D = some (bS (okN C t S) 10) := by
  have hT5 := h.1.2.2.1
  have hK3 := h.1.2.2.2.1
  obtain ⟨hS8, hN⟩ := hS
  refine for_ix (fun n a i => f_X6_yearsOf_l4 n (nI t) a i D) nI 10 (fun i a => a = bS (okN C t S) i) _ ?_ ?_ xN 0 (by rw [xN_v]; omega) rfl
  · rintro n a rfl
    show f_X6_yearsOf_l4 (n + 1) (nI t) _ (nI 10) D = _
    rw [f_X6_yearsOf_l4, n10, ite_le (by omega) (by omega), if_pos (Nat.le_refl 10)]
  · rintro n v a hv rfl
    refine Or.inr ⟨_, rfl, ?_⟩
    show f_X6_yearsOf_l4 (n + 1) (nI t) _ (nI v) D = f_X6_yearsOf_l4 n (nI t) _ (nI (v + 1)) D
    rw [f_X6_yearsOf_l4, n10, ite_le (by omega) (by omega), if_neg (by omega)]
    refine for_ix (fun n' b i => f_X6_yearsOf_l16 (f_X6_yearsOf_l4 n) n' (nI t) (bS (okN C t S) v) (nI v) b i D) nI S (fun i b => b = bI (okN C t i v)) _ ?_ ?_ xN 1 (by rw [xN_v]; omega) rfl
    · rintro n' b rfl
      show f_X6_yearsOf_l16 (f_X6_yearsOf_l4 n) (n' + 1) (nI t) (bS (okN C t S) v) (nI v) (bI (okN C t S v)) (nI S) D = _
      rw [f_X6_yearsOf_l16, h8, ite_le (by omega) (by omega), if_pos (Nat.le_refl S), ite_bI, bS]
      cases okN C t S v <;> simp [f_X6_yearsOf_b122, nI_1, or_0]
    · rintro n' i b hi rfl
      obtain ⟨e1, e2, e3, ⟨t2, ht2, et⟩, ⟨c2, hc2, ec⟩, hb⟩ := hN i hi
      refine Or.inr ⟨_, rfl, ?_⟩
      show f_X6_yearsOf_l16 (f_X6_yearsOf_l4 n) (n' + 1) (nI t) (bS (okN C t S) v) (nI v) (bI (okN C t i v)) (nI i) D = f_X6_yearsOf_l16 (f_X6_yearsOf_l4 n) n' (nI t) (bS (okN C t S) v) (nI v) (bI (okN C t (i + 1) v)) (nI (i + 1)) D
      have l0 : xld 24 (D.2.2 6) (3 * nI i) = some (C.2.2 5 i) := by rw [ix30, xld_n (by omega) (by omega), e1]
      have l1 : xld 24 (D.2.2 6) (3 * nI i + 1) = some (nI c2) := by rw [n1, ix3, xld_n (by omega) (by omega), e2, ec]
      have l2 : xld 24 (D.2.2 6) (3 * nI i + 2) = some (C.2.2 7 i) := by rw [n2, ix3, xld_n (by omega) (by omega), e3]
      have hcl : (nI c2).toNatClampNeg = c2 := nI_clamp (by omega)
      rw [f_X6_yearsOf_l16, h8, ite_le (by omega) (by omega), if_neg (by omega), l1, ob_s, m_wI h ht hc2, ob_s, m_fitsBy h hc2, ob_s, okN, ec, hcl, ite_bI]
      simp only [f_X6_yearsOf_b60, l0, l2, ob_s, f_X6_yearsOf_b96, f_X6_yearsOf_b100, f_X6_yearsOf_b101, nI_1, bI_ne]
      cases okN C t i v with
      | false => simp [bI]
      | true =>
        by_cases hT2 : C.2.2 5 i = nI t
        · rcases hb with hb | hb
          · cases Ft (C.2.2 2 c2) (wI C t c2 (nI v)) <;> simp [hT2, hb, bI]
          · cases Ft (C.2.2 2 c2) (wI C t c2 (nI v)) <;> simp [hT2, hb, bI]
        · cases Ft (C.2.2 2 c2) (wI C t c2 (nI v)) <;> simp [hT2, bI]
theorem cS_split (P Q : Nat → Bool) (n : Nat) : cS P n = cS (fun i => P i && Q i) n + cS (fun i => P i && !Q i) n := by
  induction n with
  | zero => rfl
  | succ n ih =>
    rw [cS, cS, cS, ih]
    cases P n <;> cases Q n <;> simp <;> omega
theorem bI_nI (b : Bool) : bI b = nI (if b then 1 else 0) := by cases b <;> rfl
theorem m_showOf {S : Nat} (h : RD C D T K) (h8 : D.1 8 = nI S) (hS : RS S T K (C.2.2 5) (C.2.2 6) (C.2.2 7) (D.2.2 6)) (ht : t < T) : f_X6_showOf (nI t) D = some (if bS (okN C t S) 10 = 0 then -1 else mnR (shW C (okN C t S) t) K) := by
  have hT5 := h.1.2.2.1
  have hK3 := h.1.2.2.2.1
  have hK := h.2.2.1
  rw [f_X6_showOf, m_yearsOf h h8 hS ht, ob_s]
  obtain ⟨P, hP⟩ : ∃ P, P = okN C t S := ⟨_, rfl⟩
  rw [← hP]
  by_cases h0 : bS P 10 = 0
  · rw [if_pos h0, h0, show xN = 399 + 1 from rfl, f_X6_showOf_l15]
    split
    · rfl
    · rw [if_pos rfl]
  rw [if_neg h0]
  refine for_ix (fun n (a : Int32 × Int32) i => f_X6_showOf_l15 n (nI t) (bS P 10) a.1 a.2 i D) nI K (fun i a => (i = 0 ∧ a.1 = -1 ∧ a.2 = nI 11) ∨ (0 < i ∧ a.1 = nI (mn (shW C P t) i) ∧ a.2 = nI (shW C P t (mn (shW C P t) i)))) _ ?_ ?_ xN (-1, 11) (by rw [xN_v]; omega) (Or.inl ⟨rfl, rfl, rfl⟩)
  · rintro n ⟨a1, a2⟩ g
    show f_X6_showOf_l15 (n + 1) (nI t) (bS P 10) a1 a2 (nI K) D = _
    rw [f_X6_showOf_l15, hK, ite_le (by omega) (by omega), if_pos (Nat.le_refl K), mnR]
    rcases g with ⟨h1, h2, h3⟩ | ⟨h1, h2, h3⟩
    · rw [if_pos h1]; exact congrArg some h2
    · rw [if_neg (by omega)]; exact congrArg some h2
  · rintro n i ⟨a1, a2⟩ hi g
    have hw := shW_le C P t i
    have hstep : f_X6_showOf_l15 (n + 1) (nI t) (bS P 10) a1 a2 (nI i) D = if a2 ≤ nI (shW C P t i) then f_X6_showOf_l15 n (nI t) (bS P 10) a1 a2 (nI (i + 1)) D else f_X6_showOf_l15 n (nI t) (bS P 10) (nI i) (nI (shW C P t i)) (nI (i + 1)) D := by
      rw [f_X6_showOf_l15, hK, ite_le (by omega) (by omega), if_neg (by omega), if_neg h0]
      refine for_ix (fun n' (b : Int32 × Int32) v => f_X6_showOf_l37 (f_X6_showOf_l15 n) n' (nI t) (bS P 10) a1 a2 (nI i) b.1 b.2 v D) nI 10 (fun v b => b = (nI (cS (fun y => P y && fY C t i y) v), nI (cS P v))) _ ?_ ?_ xN (0, 0) (by rw [xN_v]; omega) rfl
      · rintro n' b rfl
        show f_X6_showOf_l37 (f_X6_showOf_l15 n) (n' + 1) (nI t) (bS P 10) a1 a2 (nI i) (nI (cS (fun y => P y && fY C t i y) 10)) (nI (cS P 10)) (nI 10) D = _
        have c1 := cS_le (fun y => P y && fY C t i y) 10
        have c2 := cS_le (fun y => P y && !fY C t i y) 10
        have cs := cS_split P (fun y => fY C t i y) 10
        have c3 := cS_le P 10
        rw [f_X6_showOf_l37, n10, ite_le (by omega) (by omega), if_pos (Nat.le_refl 10), pk_sub (by omega), show cS P 10 - cS (fun y => P y && fY C t i y) 10 = cS (fun y => P y && !fY C t i y) 10 by omega, ite_le (by omega) (by omega)]
        have e : (if cS (fun y => P y && fY C t i y) 10 ≤ cS (fun y => P y && !fY C t i y) 10 then f_X6_showOf_b114 (f_X6_showOf_l15 n) (nI t) (bS P 10) a1 a2 (nI i) (nI (cS (fun y => P y && !fY C t i y) 10)) D else f_X6_showOf_b114 (f_X6_showOf_l15 n) (nI t) (bS P 10) a1 a2 (nI i) (nI (cS (fun y => P y && fY C t i y) 10)) D) = f_X6_showOf_b114 (f_X6_showOf_l15 n) (nI t) (bS P 10) a1 a2 (nI i) (nI (shW C P t i)) D := by
          unfold shW
          by_cases hq : cS (fun y => P y && fY C t i y) 10 ≤ cS (fun y => P y && !fY C t i y) 10
          · rw [if_pos hq]
            by_cases hq2 : cS (fun y => P y && fY C t i y) 10 < cS (fun y => P y && !fY C t i y) 10
            · rw [if_pos hq2]
            · rw [if_neg hq2, show cS (fun y => P y && fY C t i y) 10 = cS (fun y => P y && !fY C t i y) 10 by omega]
          · rw [if_neg hq, if_neg (by omega)]
        rw [e]
        simp only [f_X6_showOf_b114, f_X6_showOf_b129, f_X6_showOf_b144, nI_1]
        by_cases hz : a2 ≤ nI (shW C P t i)
        · simp only [if_pos hz]
        · simp only [if_neg hz]
      · rintro n' v b hv rfl
        refine Or.inr ⟨_, rfl, ?_⟩
        show f_X6_showOf_l37 (f_X6_showOf_l15 n) (n' + 1) (nI t) (bS P 10) a1 a2 (nI i) (nI (cS (fun y => P y && fY C t i y) v)) (nI (cS P v)) (nI v) D = f_X6_showOf_l37 (f_X6_showOf_l15 n) n' (nI t) (bS P 10) a1 a2 (nI i) (nI (cS (fun y => P y && fY C t i y) (v + 1))) (nI (cS P (v + 1))) (nI (v + 1)) D
        rw [f_X6_showOf_l37, n10, ite_le (by omega) (by omega), if_neg (by omega), m_wI h ht hi, ob_s, m_fitsBy h hi, ob_s, ite_bI, ← fY]
        simp only [f_X6_showOf_b85, shr_bit P (m := 10) (n := v) (by omega) hv, nI_1, bI_nI, nI_add]
        rw [cS, cS]
        cases P v <;> cases fY C t i v <;> simp [n0, nI_add]
    refine Or.inr ?_
    show ∃ a' : Int32 × Int32, _ ∧ f_X6_showOf_l15 (n + 1) (nI t) (bS P 10) a1 a2 (nI i) D = _
    rw [hstep]
    rcases g with ⟨h1, h2, h3⟩ | ⟨h1, h2, h3⟩
    · have h3 : a2 = nI 11 := h3
      refine ⟨(nI i, nI (shW C P t i)), Or.inr ⟨by omega, ?_, ?_⟩, ?_⟩
      · subst h1; rfl
      · subst h1; rfl
      · rw [h3, ite_le (by omega) (by omega), if_neg (by omega)]
    · have h2 : a1 = nI (mn (shW C P t) i) := h2
      have h3 : a2 = nI (shW C P t (mn (shW C P t) i)) := h3
      have hm := mn_lt (shW C P t) h1
      have hw2 := shW_le C P t (mn (shW C P t) i)
      rw [h3, ite_le (by omega) (by omega)]
      by_cases hc : shW C P t (mn (shW C P t) i) ≤ shW C P t i
      · refine ⟨(a1, a2), Or.inr ⟨by omega, ?_, ?_⟩, ?_⟩
        · rw [mn, if_neg (by omega), if_neg (by omega)]; exact h2
        · rw [mn, if_neg (by omega), if_neg (by omega)]; exact h3
        · rw [if_pos hc, h3]
      · refine ⟨(nI i, nI (shW C P t i)), Or.inr ⟨by omega, ?_, ?_⟩, ?_⟩
        · rw [mn, if_neg (by omega), if_pos (by omega)]
        · rw [mn, if_neg (by omega), if_pos (by omega)]
        · rw [if_neg hc]
end MR
