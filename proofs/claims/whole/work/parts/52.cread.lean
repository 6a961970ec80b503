/-! ===== the class's reads, as plain numbers ===== -/
theorem g_wrongBy' {k : Nat} (hk : k ≤ 4) (y my p mp l ml : Int32) : f_X5_wrongBy (nI k) (far y my) (if p = mp then 0 else 1) (if l = ml then 0 else 1) = some (Wr (nI k) y my p mp l ml) := by
  have h := g_wrongBy hk y my p mp l ml
  by_cases hp : p = mp
  · by_cases hl : l = ml
    · simpa [hp, hl, bI] using h
    · simpa [hp, hl, bI] using h
  · by_cases hl : l = ml
    · simpa [hp, hl, bI] using h
    · simpa [hp, hl, bI] using h
theorem g_wIL {C : xM} {T K t c : Nat} (hW : WC C T K) (ht : t < 5) (hc : c < 3) (y : Int32) : f_X3_wrongIfLostIn y (nI t) (nI c) C = some (wI C t c y) := by
  obtain ⟨k, hk, ek⟩ := hW.2.2.2.2 c hc
  have h := g_wrongBy' hk y (C.2.2 4 (c * 3)) (C.2.2 1 (t * 3 + 1)) (C.2.2 4 (c * 3 + 1)) (C.2.2 1 (t * 3 + 2)) (C.2.2 4 (c * 3 + 2))
  rw [f_X3_wrongIfLostIn, g_kind hc, ob_s, g_mem0 hc, ob_s, g_sign1 ht, ob_s, g_mem1 hc, ob_s, wI, ek]
  simp only [f_X3_wrongIfLostIn_b42, f_X3_wrongIfLostIn_b65, g_sign2 ht, g_mem2 hc, ob_s]
  unfold far at h
  by_cases hp : C.2.2 1 (t * 3 + 1) = C.2.2 4 (c * 3 + 1)
  · rw [if_pos hp] at h ⊢
    by_cases hl : C.2.2 1 (t * 3 + 2) = C.2.2 4 (c * 3 + 2)
    · rw [if_pos hl] at h ⊢
      rw [h, ob_s]
    · rw [if_neg hl] at h ⊢
      rw [h, ob_s]
  · rw [if_neg hp] at h ⊢
    by_cases hl : C.2.2 1 (t * 3 + 2) = C.2.2 4 (c * 3 + 2)
    · rw [if_pos hl] at h ⊢
      rw [h, ob_s]
    · rw [if_neg hl] at h ⊢
      rw [h, ob_s]
theorem g_isFitC {C : xM} {T K c : Nat} (hW : WC C T K) (hc : c < 3) (w : Int32) : f_X5_isFit (C.2.2 2 c) w = some (bI (Ft (C.2.2 2 c) w)) := by
  obtain ⟨k, hk, ek⟩ := hW.2.2.2.2 c hc
  rw [ek]
  exact g_isFit hk w
theorem g_wrongOf {C : xM} {T K t c : Nat} (hW : WC C T K) (ht : t < 5) (hc : c < 3) : f_X3_wrongOf (nI t) (nI c) C = some (wO C t c) := by
  rw [f_X3_wrongOf, g_sign0 ht, ob_s, g_wIL hW ht hc, ob_s, wO]
theorem g_fits {C : xM} {T K t c : Nat} (hW : WC C T K) (ht : t < 5) (hc : c < 3) : f_X3_fits (nI t) (nI c) C = some (bI (fO C t c)) := by
  rw [f_X3_fits, g_kind hc, ob_s, g_sign0 ht, ob_s, g_wIL hW ht hc, ob_s, g_isFitC hW hc, ob_s, xbo_bI, fO, wO]
theorem g_claimersFitted {C : xM} {T K t : Nat} (hW : WC C T K) (ht : t < 5) : f_X3_claimersFitted (nI t) C = some (bS (fun c => fO C t c) K) := by
  have hK := hW.2.1
  have hK3 := hW.2.2.2.1
  refine for_ix (fun n a i => f_X3_claimersFitted_l4 n (nI t) a i C) nI K (fun i a => a = bS (fun c => fO C t c) i) _ ?_ ?_ xN 0 (by rw [xN_v]; omega) rfl
  · rintro n a rfl
    show f_X3_claimersFitted_l4 (n + 1) (nI t) _ (nI K) C = _
    rw [f_X3_claimersFitted_l4, hK, ite_le (by omega) (by omega), if_pos (Nat.le_refl K)]
  · rintro n i a hi rfl
    refine Or.inr ⟨_, rfl, ?_⟩
    show f_X3_claimersFitted_l4 (n + 1) (nI t) _ (nI i) C = f_X3_claimersFitted_l4 n (nI t) _ (nI (i + 1)) C
    rw [f_X3_claimersFitted_l4, hK, ite_le (by omega) (by omega), if_neg (by omega), g_fits hW ht (by omega), ob_s, ite_bI, bS]
    cases fO C t i <;> simp [f_X3_claimersFitted_b27, nI_1]
theorem g_thingsFitting {C : xM} {T K c : Nat} (hW : WC C T K) (hc : c < 3) : f_X3_thingsFitting (nI c) C = some (bS (fun t => fO C t c) T) := by
  have hT := hW.1
  have hT5 := hW.2.2.1
  refine for_ix (fun n a i => f_X3_thingsFitting_l4 n (nI c) a i C) nI T (fun i a => a = bS (fun t => fO C t c) i) _ ?_ ?_ xN 0 (by rw [xN_v]; omega) rfl
  · rintro n a rfl
    show f_X3_thingsFitting_l4 (n + 1) (nI c) _ (nI T) C = _
    rw [f_X3_thingsFitting_l4, hT, ite_le (by omega) (by omega), if_pos (Nat.le_refl T)]
  · rintro n i a hi rfl
    refine Or.inr ⟨_, rfl, ?_⟩
    show f_X3_thingsFitting_l4 (n + 1) (nI c) _ (nI i) C = f_X3_thingsFitting_l4 n (nI c) _ (nI (i + 1)) C
    rw [f_X3_thingsFitting_l4, hT, ite_le (by omega) (by omega), if_neg (by omega), g_fits hW (by omega) hc, ob_s, ite_bI, bS]
    cases fO C i c <;> simp [f_X3_thingsFitting_b27, nI_1]
theorem g_thingsNotGiven {C : xM} {T K : Nat} (hW : WC C T K) : f_X3_thingsNotGiven C = some (bS (fun t => decide (C.2.2 3 t = -1)) T) := by
  have hT := hW.1
  have hT5 := hW.2.2.1
  refine for_ix (fun n a i => f_X3_thingsNotGiven_l4 n a i C) nI T (fun i a => a = bS (fun t => decide (C.2.2 3 t = -1)) i) _ ?_ ?_ xN 0 (by rw [xN_v]; omega) rfl
  · rintro n a rfl
    show f_X3_thingsNotGiven_l4 (n + 1) _ (nI T) C = _
    rw [f_X3_thingsNotGiven_l4, hT, ite_le (by omega) (by omega), if_pos (Nat.le_refl T)]
  · rintro n i a hi rfl
    refine Or.inr ⟨_, rfl, ?_⟩
    show f_X3_thingsNotGiven_l4 (n + 1) _ (nI i) C = f_X3_thingsNotGiven_l4 n _ (nI (i + 1)) C
    rw [f_X3_thingsNotGiven_l4, hT, ite_le (by omega) (by omega), if_neg (by omega), g_holder (by omega), ob_s, bS]
    by_cases h : C.2.2 3 i = -1 <;> simp [f_X3_thingsNotGiven_b30, nI_1, h]
theorem g_yearsFitting {C : xM} {T K t c : Nat} (hW : WC C T K) (ht : t < 5) (hc : c < 3) : f_X3_yearsFitting (nI t) (nI c) C = some (bS (fun y => fY C t c y) 10) := by
  refine for_ix (fun n a i => f_X3_yearsFitting_l5 n (nI t) (nI c) a i C) nI 10 (fun i a => a = bS (fun y => fY C t c y) i) _ ?_ ?_ xN 0 (by rw [xN_v]; omega) rfl
  · rintro n a rfl
    show f_X3_yearsFitting_l5 (n + 1) (nI t) (nI c) _ (nI 10) C = _
    rw [f_X3_yearsFitting_l5, n10, ite_le (by omega) (by omega), if_pos (Nat.le_refl 10)]
  · rintro n i a hi rfl
    refine Or.inr ⟨_, rfl, ?_⟩
    show f_X3_yearsFitting_l5 (n + 1) (nI t) (nI c) _ (nI i) C = f_X3_yearsFitting_l5 n (nI t) (nI c) _ (nI (i + 1)) C
    rw [f_X3_yearsFitting_l5, n10, ite_le (by omega) (by omega), if_neg (by omega), g_kind hc, ob_s, g_wIL hW ht hc, ob_s, g_isFitC hW hc, ob_s, ite_bI, bS, ← fY]
    cases fY C t c i <;> simp [f_X3_yearsFitting_b38, nI_1]
/-- what is seen: S notes, of things and claimers that are there -/
def SW (C : xM) (S : Nat) : Prop := C.1 5 = nI S ∧ S ≤ 8 ∧ ∀ i, i < S → (∃ t, t < 5 ∧ C.2.2 5 i = nI t) ∧ (∃ c, c < 3 ∧ C.2.2 6 i = nI c) ∧ (C.2.2 7 i = 0 ∨ C.2.2 7 i = 1)
/-- that all the first i notes of t are so in the year y -/
def okN (C : xM) (t i : Nat) (y : Nat) : Bool := match i with
  | 0 => true
  | i + 1 => okN C t i y && (decide (¬ C.2.2 5 i = nI t) || (Ft (C.2.2 2 (C.2.2 6 i).toNatClampNeg) (wI C t (C.2.2 6 i).toNatClampNeg (nI y)) == decide (C.2.2 7 i = 1)))
theorem g_seen {C : xM} {i : Nat} (hi : i < 8) : f_X2_seenThing (nI i) C = some (C.2.2 5 i) ∧ f_X2_seenClaimer (nI i) C = some (C.2.2 6 i) ∧ f_X2_seenFitted (nI i) C = some (bI (decide (C.2.2 7 i = 1))) := by
  refine ⟨by rw [f_X2_seenThing, xe_n hi (by omega)], by rw [f_X2_seenClaimer, xe_n hi (by omega)], ?_⟩
  rw [f_X2_seenFitted, xe_n hi (by omega)]
  by_cases h : C.2.2 7 i = 1
  · rw [if_pos h, xbo_1, decide_eq_true h]
  · rw [if_neg h, xbo_0, decide_eq_false h]
theorem g_yearsOf {C : xM} {T K S t : Nat} (hW : WC C T K) (hS : SW C S) (ht : t < 5) : f_X3_yearsOf (nI t) C = some (bS (okN C t S) 10) := by
  obtain ⟨h5, hS8, hN⟩ := hS
  have e0 : (1023 : Int32) = bS (okN C t 0) 10 := by
    have : bS (okN C t 0) 10 = bS (fun _ => true) 10 := bS_congr (fun i hi => rfl)
    rw [this]; decide
  refine for_ix (fun n a i => f_X3_yearsOf_l6 n (nI t) a i C) nI S (fun i a => a = bS (okN C t i) 10) _ ?_ ?_ xN 1023 (by rw [xN_v]; omega) e0
  · rintro n a rfl
    show f_X3_yearsOf_l6 (n + 1) (nI t) _ (nI S) C = _
    rw [f_X3_yearsOf_l6, f_X2_seenInAll, ob_s, h5, ite_le (by omega) (by omega), if_pos (Nat.le_refl S)]
  · rintro n i a hi rfl
    obtain ⟨⟨t2, ht2, et⟩, ⟨c, hc, ec⟩, hb⟩ := hN i hi
    obtain ⟨g1, g2, g3⟩ := g_seen (C := C) (i := i) (by omega)
    refine Or.inr ⟨_, rfl, ?_⟩
    show f_X3_yearsOf_l6 (n + 1) (nI t) _ (nI i) C = f_X3_yearsOf_l6 n (nI t) _ (nI (i + 1)) C
    rw [f_X3_yearsOf_l6, f_X2_seenInAll, ob_s, h5, ite_le (by omega) (by omega), if_neg (by omega), g1, ob_s]
    by_cases h1 : C.2.2 5 i = nI t
    · rw [if_pos h1, g2, ob_s, ec, g_yearsFitting hW ht hc, ob_s, g3, ob_s, ite_bI]
      have hcl : (nI c).toNatClampNeg = c := nI_clamp (by omega)
      by_cases h7 : C.2.2 7 i = 1
      · rw [if_pos (decide_eq_true h7), f_X3_yearsOf_b65, f_X3_yearsOf_b67, bS_and _ _ (by omega), nI_1]
        congr 1
        exact bS_congr (fun y hy => by simp [okN, h1, h7, ec, hcl, fY])
      · rw [if_neg (by simp [h7]), f_X3_yearsOf_b65, f_X3_yearsOf_b67, bS_andn _ _ (by omega), nI_1]
        congr 1
        exact bS_congr (fun y hy => by simp [okN, h1, h7, ec, hcl, fY])
    · rw [if_neg h1, f_X3_yearsOf_b67, nI_1]
      congr 1
      exact bS_congr (fun y hy => by simp [okN, h1])
