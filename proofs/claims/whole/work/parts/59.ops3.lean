/-! ===== count and six ===== -/
def sZ (f : Nat → Int32) : Nat → Int32
  | 0 => 0
  | n + 1 => sZ f n + f n
theorem sZ_congr {f g : Nat → Int32} {n : Nat} (h : ∀ i, i < n → f i = g i) : sZ f n = sZ g n := by
  induction n with
  | zero => rfl
  | succ n ih => rw [sZ, sZ, ih (fun i hi => h i (by omega)), h n (by omega)]
theorem sZ_zero {f : Nat → Int32} {n : Nat} (h : ∀ i, i < n → f i = 0) : sZ f n = 0 := by
  induction n with
  | zero => rfl
  | succ n ih => rw [sZ, ih (fun i hi => h i (by omega)), h n (by omega)]; rfl
theorem sZ_one {f : Nat → Int32} {n k : Nat} (hk : k < n) (h : ∀ i, i < n → i ≠ k → f i = 0) : sZ f n = f k := by
  induction n with
  | zero => omega
  | succ n ih =>
    rw [sZ]
    by_cases e : k = n
    · subst e
      rw [sZ_zero (fun i hi => h i (by omega) (by omega)), Int32.zero_add]
    · rw [ih (by omega) (fun i hi hne => h i (by omega) hne), h n (by omega) (fun q => e q.symm), Int32.add_zero]
theorem add4 (a b c d : Int32) : (a + b) + (c + d) = (a + c) + (b + d) := by
  rw [Int32.add_assoc, ← Int32.add_assoc b c d, Int32.add_comm b c, Int32.add_assoc c b d, ← Int32.add_assoc]
theorem sZ_add (f g : Nat → Int32) (n : Nat) : sZ (fun i => f i + g i) n = sZ f n + sZ g n := by
  induction n with
  | zero => rfl
  | succ n ih =>
    rw [sZ, sZ, sZ, ih]
    exact add4 _ _ _ _
theorem sZ_swap (a : Nat → Nat → Int32) (T K : Nat) : sZ (fun t => sZ (fun c => a t c) K) T = sZ (fun c => sZ (fun t => a t c) T) K := by
  induction T with
  | zero => exact (sZ_zero (fun i hi => rfl)).symm
  | succ T ih =>
    rw [sZ, ih, ← sZ_add]
    exact sZ_congr (fun i hi => rfl)
theorem sZ_pairs {T K : Nat} {hd : Nat → Int32} (hT : T ≤ 5) (hK : K ≤ 3) (r6 : ∀ t, t < 5 → hd t = -1 ∨ (t < T ∧ ∃ c, c < K ∧ hd t = nI c)) (r7 : ∀ t u, t < 5 → u < 5 → hd t = hd u → hd t ≠ -1 → t = u) (v : Nat → Nat → Int32) :
    sZ (fun t => if hd t = -1 then 0 else v t (hd t).toNatClampNeg) T = sZ (fun c => if xOf hd (nI c) = -1 then 0 else v (xOf hd (nI c)).toNatClampNeg c) K := by
  have e1 : sZ (fun t => if hd t = -1 then 0 else v t (hd t).toNatClampNeg) T = sZ (fun t => sZ (fun c => if hd t = nI c then v t c else 0) K) T := by
    refine sZ_congr (fun t ht => ?_)
    rcases r6 t (by omega) with h | ⟨-, c, hc, h⟩
    · rw [if_pos h]
      refine (sZ_zero (fun c hc => ?_)).symm
      rw [if_neg]
      rw [h]; exact fun q => nI_m1 (by omega) q.symm
    · rw [if_neg (by rw [h]; exact nI_m1 (by omega))]
      rw [sZ_one hc (fun i hi hne => by
        rw [if_neg]
        rw [h]
        exact fun q => hne (nI_inj (by omega) (by omega) q).symm), if_pos h, h, nI_clamp (by omega)]
  have e2 : sZ (fun c => if xOf hd (nI c) = -1 then 0 else v (xOf hd (nI c)).toNatClampNeg c) K = sZ (fun c => sZ (fun t => if hd t = nI c then v t c else 0) T) K := by
    refine sZ_congr (fun c hc => ?_)
    rcases xOf_spec hd (nI c) with ⟨t, h1, h2, h3⟩ | ⟨h1, h2⟩
    · have ht : t < T := by
        rcases r6 t h1 with q | q
        · rw [h2] at q; exact absurd q (nI_m1 (by omega))
        · exact q.1
      rw [h3, if_neg (nI_m1 (by omega)), nI_clamp (by omega), sZ_one ht (fun i hi hne => by
        rw [if_neg]
        exact fun q => hne (r7 i t (by omega) h1 (q.trans h2.symm) (by rw [q]; exact nI_m1 (by omega)))), if_pos h2]
    · rw [if_pos h2]
      exact (sZ_zero (fun t ht => if_neg (h1 t (by omega)))).symm
  rw [e1, e2, sZ_swap]
theorem cS_compl (P : Nat → Bool) (n : Nat) : cS P n + cS (fun i => !P i) n = n := by
  induction n with
  | zero => rfl
  | succ n ih =>
    rw [cS, cS]
    cases P n <;> simp <;> omega
section CNT
variable {T K S mo : Nat} {C D : xM}
def gN (C : xM) (T : Nat) : Nat := cS (fun t => !decide (C.2.2 3 t = -1)) T
theorem c_given (hB : IvB T K C D) : f_X3_given C = some (nI (gN C T)) := by
  have h5 := hB.2.2.2.2.1
  have e := cS_compl (fun t => decide (C.2.2 3 t = -1)) T
  have e' : cS (fun t => decide (C.2.2 3 t = -1)) T + gN C T = T := e
  rw [f_X3_given, g_thingsNotGiven (ivWC hB), ob_s, g_bcn _ (by omega), ob_s, hB.1, pk_sub (by omega), show T - cS (fun t => decide (C.2.2 3 t = -1)) T = gN C T by omega]
theorem m_given (h : RD C D T K) : f_X6_givenMany D = some (nI (gN C T)) := by
  have hT := h.2.1
  have hT5 := h.1.2.2.1
  refine for_ix (fun n a i => f_X6_givenMany_l4 n a i D) nI T (fun i a => a = nI (gN C i)) _ ?_ ?_ xN 0 (by rw [xN_v]; omega) rfl
  · rintro n a rfl
    show f_X6_givenMany_l4 (n + 1) _ (nI T) D = _
    rw [f_X6_givenMany_l4, hT, ite_le (by omega) (by omega), if_pos (Nat.le_refl T)]
  · rintro n i a hi rfl
    refine Or.inr ⟨_, rfl, ?_⟩
    show f_X6_givenMany_l4 (n + 1) (nI (gN C i)) (nI i) D = f_X6_givenMany_l4 n (nI (gN C (i + 1))) (nI (i + 1)) D
    have eg : gN C (i + 1) = if !decide (C.2.2 3 i = -1) then gN C i + 1 else gN C i := rfl
    rw [f_X6_givenMany_l4, hT, ite_le (by omega) (by omega), if_neg (by omega), l_h h hi, ob_s, eg]
    by_cases q : C.2.2 3 i = -1
    · simp [q, f_X6_givenMany_b32, nI_1]
    · simp [q, f_X6_givenMany_b32, nI_1]
theorem c_gFit (hB : IvB T K C D) (hR : IvR T K S mo C D) : f_X3_givenThatFit C = some (sZ (fun t => if C.2.2 3 t = -1 then 0 else bI (fO C t (C.2.2 3 t).toNatClampNeg)) T) := by
  have h5 := hB.2.2.2.2.1
  have h3 := hB.2.2.2.2.2.1
  have hT := hB.1
  obtain ⟨r1, r2, r3, r4, r5, r6, r7⟩ := hR.1
  refine for_ix (fun n a i => f_X3_givenThatFit_l4 n a i C) nI T (fun i a => a = sZ (fun t => if C.2.2 3 t = -1 then 0 else bI (fO C t (C.2.2 3 t).toNatClampNeg)) i) _ ?_ ?_ xN 0 (by rw [xN_v]; omega) rfl
  · rintro n a rfl
    show f_X3_givenThatFit_l4 (n + 1) _ (nI T) C = _
    rw [f_X3_givenThatFit_l4, hT, ite_le (by omega) (by omega), if_pos (Nat.le_refl T)]
  · rintro n i a hi rfl
    refine Or.inr ⟨_, rfl, ?_⟩
    show f_X3_givenThatFit_l4 (n + 1) _ (nI i) C = f_X3_givenThatFit_l4 n _ (nI (i + 1)) C
    rw [f_X3_givenThatFit_l4, hT, ite_le (by omega) (by omega), if_neg (by omega), g_holder (by omega), ob_s, sZ]
    by_cases q : C.2.2 3 i = -1
    · rw [if_pos q, if_pos q, f_X3_givenThatFit_b38, nI_1, Int32.add_zero]
    · obtain ⟨-, c, hc, ec⟩ := (r6 i (by omega)).resolve_left q
      rw [if_neg q, if_neg q, ec, nI_clamp (by omega), g_fits (ivWC hB) (by omega) (by omega), ob_s, ite_bI]
      simp only [f_X3_givenThatFit_b38, nI_1]
      cases fO C i c
      · rw [if_neg (by decide), bI_f, Int32.add_zero]
      · rw [if_pos rfl, bI_t]
theorem c_gWr (hB : IvB T K C D) (hR : IvR T K S mo C D) : f_X3_givenWrong C = some (sZ (fun t => if C.2.2 3 t = -1 then 0 else wO C t (C.2.2 3 t).toNatClampNeg) T) := by
  have h5 := hB.2.2.2.2.1
  have h3 := hB.2.2.2.2.2.1
  have hT := hB.1
  obtain ⟨r1, r2, r3, r4, r5, r6, r7⟩ := hR.1
  refine for_ix (fun n a i => f_X3_givenWrong_l4 n a i C) nI T (fun i a => a = sZ (fun t => if C.2.2 3 t = -1 then 0 else wO C t (C.2.2 3 t).toNatClampNeg) i) _ ?_ ?_ xN 0 (by rw [xN_v]; omega) rfl
  · rintro n a rfl
    show f_X3_givenWrong_l4 (n + 1) _ (nI T) C = _
    rw [f_X3_givenWrong_l4, hT, ite_le (by omega) (by omega), if_pos (Nat.le_refl T)]
  · rintro n i a hi rfl
    refine Or.inr ⟨_, rfl, ?_⟩
    show f_X3_givenWrong_l4 (n + 1) _ (nI i) C = f_X3_givenWrong_l4 n _ (nI (i + 1)) C
    rw [f_X3_givenWrong_l4, hT, ite_le (by omega) (by omega), if_neg (by omega), g_holder (by omega), ob_s, sZ]
    by_cases q : C.2.2 3 i = -1
    · rw [if_pos q, if_pos q, f_X3_givenWrong_b35, nI_1, Int32.add_zero]
    · obtain ⟨-, c, hc, ec⟩ := (r6 i (by omega)).resolve_left q
      rw [if_neg q, if_neg q, ec, nI_clamp (by omega), g_wrongOf (ivWC hB) (by omega) (by omega), ob_s, f_X3_givenWrong_b35, nI_1]
theorem xOf_T (hR : IvR T K S mo C D) {c t : Nat} (e : xOf (C.2.2 3) (nI c) = nI t) (hc : c < K) (hK : K ≤ 3) (ht : t < 5) : t < T := by
  obtain ⟨r1, r2, r3, r4, r5, r6, r7⟩ := hR.1
  rcases xOf_spec (C.2.2 3) (nI c) with ⟨u, h1, h2, h3⟩ | ⟨h1, h2⟩
  · have : u = t := nI_inj (by omega) (by omega) (h3.symm.trans e)
    subst this
    rcases r6 u h1 with q | q
    · rw [h2] at q; exact absurd q (nI_m1 (by omega))
    · exact q.1
  · rw [e] at h2; exact absurd h2 (nI_m1 (by omega))
theorem m_gFit (hB : IvB T K C D) (hR : IvR T K S mo C D) : f_X6_givenFit D = some (sZ (fun c => if xOf (C.2.2 3) (nI c) = -1 then 0 else bI (fO C (xOf (C.2.2 3) (nI c)).toNatClampNeg c)) K) := by
  have h3 := hB.2.2.2.2.2.1
  have h := ivRD hB hR
  have hK := h.2.2.1
  refine for_ix (fun n a i => f_X6_givenFit_l4 n a i D) nI K (fun i a => a = sZ (fun c => if xOf (C.2.2 3) (nI c) = -1 then 0 else bI (fO C (xOf (C.2.2 3) (nI c)).toNatClampNeg c)) i) _ ?_ ?_ xN 0 (by rw [xN_v]; omega) rfl
  · rintro n a rfl
    show f_X6_givenFit_l4 (n + 1) _ (nI K) D = _
    rw [f_X6_givenFit_l4, hK, ite_le (by omega) (by omega), if_pos (Nat.le_refl K)]
  · rintro n i a hi rfl
    refine Or.inr ⟨_, rfl, ?_⟩
    show f_X6_givenFit_l4 (n + 1) _ (nI i) D = f_X6_givenFit_l4 n _ (nI (i + 1)) D
    rw [f_X6_givenFit_l4, hK, ite_le (by omega) (by omega), if_neg (by omega), r_h h hi, ob_s, ob_s, sZ]
    simp only [f_X6_givenFit_b49, f_X6_givenFit_b50, nI_1]
    rcases xOf_spec (C.2.2 3) (nI i) with ⟨t, h1, h2, h3'⟩ | ⟨h1, h2⟩
    · have ht := xOf_T hR h3' hi h3 h1
      rw [h3', if_neg (nI_m1 (by omega)), if_neg (nI_m1 (by omega)), m_fits h ht hi, ob_s, ite_bI, nI_clamp (by omega)]
      cases fO C t i
      · rw [if_neg (by decide), bI_f]
      · rw [if_pos rfl, bI_t]
    · rw [h2, if_pos rfl, if_pos rfl]
theorem m_gWr (hB : IvB T K C D) (hR : IvR T K S mo C D) : f_X6_givenWrong D = some (sZ (fun c => if xOf (C.2.2 3) (nI c) = -1 then 0 else wO C (xOf (C.2.2 3) (nI c)).toNatClampNeg c) K) := by
  have h3 := hB.2.2.2.2.2.1
  have h := ivRD hB hR
  have hK := h.2.2.1
  refine for_ix (fun n a i => f_X6_givenWrong_l4 n a i D) nI K (fun i a => a = sZ (fun c => if xOf (C.2.2 3) (nI c) = -1 then 0 else wO C (xOf (C.2.2 3) (nI c)).toNatClampNeg c) i) _ ?_ ?_ xN 0 (by rw [xN_v]; omega) rfl
  · rintro n a rfl
    show f_X6_givenWrong_l4 (n + 1) _ (nI K) D = _
    rw [f_X6_givenWrong_l4, hK, ite_le (by omega) (by omega), if_pos (Nat.le_refl K)]
  · rintro n i a hi rfl
    refine Or.inr ⟨_, rfl, ?_⟩
    show f_X6_givenWrong_l4 (n + 1) _ (nI i) D = f_X6_givenWrong_l4 n _ (nI (i + 1)) D
    rw [f_X6_givenWrong_l4, hK, ite_le (by omega) (by omega), if_neg (by omega), r_h h hi, ob_s, ob_s, sZ]
    simp only [f_X6_givenWrong_b46, nI_1]
    rcases xOf_spec (C.2.2 3) (nI i) with ⟨t, h1, h2, h3'⟩ | ⟨h1, h2⟩
    · have ht := xOf_T hR h3' hi h3 h1
      rw [h3', if_neg (nI_m1 (by omega)), if_neg (nI_m1 (by omega)), m_wO h ht hi, ob_s, nI_clamp (by omega)]
    · rw [h2, if_pos rfl, if_pos rfl]
theorem count_eq {n b : Nat} (hB : IvB T K C D) (hR : IvR T K S mo C D) (hP : IvP n C D) (hN : IvN b C D) (x : Int32) : ∃ r, f_X5_count x C = some r ∧ f_X6_countOf x D = some r := by
  have h5 := hB.2.2.2.2.1
  have h3 := hB.2.2.2.2.2.1
  obtain ⟨r1, r2, r3, r4, r5, r6, r7⟩ := hR.1
  obtain ⟨s1, s2, s3, m1, m2, m3, m4, m5⟩ := hR.2
  rw [f_X5_count, f_X6_countOf]
  by_cases c0 : x = 0
  · exact ⟨nI T, by rw [if_pos c0, f_X3_things, ob_s, hB.1], by rw [if_pos c0, hB.2.1]⟩
  rw [if_neg c0, if_neg c0]
  by_cases c1 : x = 1
  · exact ⟨nI K, by rw [if_pos c1, f_X3_claimers, ob_s, hB.2.2.1], by rw [if_pos c1, hB.2.2.2.1]⟩
  rw [if_neg c1, if_neg c1]
  by_cases c2 : x = 2
  · exact ⟨_, by rw [if_pos c2, c_given hB, ob_s], by rw [if_pos c2, m_given (ivRD hB hR), ob_s]⟩
  rw [if_neg c2, if_neg c2]
  by_cases c3 : x = 3
  · exact ⟨_, by rw [if_pos c3, c_gFit hB hR, ob_s], by rw [if_pos c3, m_gFit hB hR, ob_s, sZ_pairs h5 h3 r6 r7 (fun t c => bI (fO C t c))]⟩
  rw [if_neg c3, if_neg c3]
  by_cases c4 : x = 4
  · exact ⟨_, by rw [if_pos c4, c_gWr hB hR, ob_s], by rw [if_pos c4, m_gWr hB hR, ob_s, sZ_pairs h5 h3 r6 r7 (fun t c => wO C t c)]⟩
  rw [if_neg c4, if_neg c4]
  by_cases c5 : x = 5
  · exact ⟨_, by rw [if_pos c5, f_X2_mondaysOver, ob_s, m1], by rw [if_pos c5, m2]⟩
  rw [if_neg c5, if_neg c5]
  by_cases c6 : x = 6
  · exact ⟨_, by rw [if_pos c6, f_X2_thingsLeft, ob_s], by rw [if_pos c6, m4]⟩
  rw [if_neg c6, if_neg c6]
  by_cases c7 : x = 7
  · exact ⟨_, by rw [if_pos c7, f_X2_claimersLeft, ob_s], by rw [if_pos c7, m5]⟩
  rw [if_neg c7, if_neg c7]
  by_cases c8 : x = 8
  · exact ⟨_, by rw [if_pos c8, f_X2_seenInAll, ob_s, s1], by rw [if_pos c8, s2]⟩
  rw [if_neg c8, if_neg c8]
  by_cases c9 : x = 9
  · exact ⟨_, by rw [if_pos c9, f_X1_length, ob_s, hP.1], by rw [if_pos c9, hP.2.1]⟩
  rw [if_neg c9, if_neg c9]
  by_cases c10 : x = 10
  · exact ⟨_, by rw [if_pos c10, hN.1], by rw [if_pos c10, hN.2]⟩
  rw [if_neg c10, if_neg c10]
  exact ⟨_, rfl, rfl⟩
end CNT
theorem o_count : op_count Inv := by
  intro C D j hj hI x
  have hI' := inv_mon C D j hI
  obtain ⟨T, K, S, mo, n, b, hb, hB, hR, hP, hN, hK⟩ := hI
  obtain ⟨r, h1, h2⟩ := count_eq hB hR hP hN x
  exact ⟨r, h1, by rw [f_X6_count, h2, ob_s], hI'⟩
/-! six -/
def lzL (f : Nat → Int32) : Nat → Nat → Int32
  | 0 => f
  | n + 1 => upd (lzL f n) (4 * n + 3) (-1)
def rzL (f : Nat → Int32) : Nat → Nat → Int32
  | 0 => f
  | n + 1 => upd (rzL f n) (5 * n + 4) (-1)
theorem lzL_in {f : Nat → Int32} {n u : Nat} (h : u < n) : lzL f n (4 * u + 3) = -1 := by
  induction n with
  | zero => omega
  | succ n ih =>
    rw [lzL]
    by_cases e : u = n
    · subst e; exact upd_s
    · rw [upd_n (by omega)]; exact ih (by omega)
theorem lzL_out {f : Nat → Int32} {n k : Nat} (h : ∀ u, k ≠ 4 * u + 3) : lzL f n k = f k := by
  induction n with
  | zero => rfl
  | succ n ih => rw [lzL, upd_n (h n)]; exact ih
theorem rzL_in {f : Nat → Int32} {n u : Nat} (h : u < n) : rzL f n (5 * u + 4) = -1 := by
  induction n with
  | zero => omega
  | succ n ih =>
    rw [rzL]
    by_cases e : u = n
    · subst e; exact upd_s
    · rw [upd_n (by omega)]; exact ih (by omega)
theorem rzL_out {f : Nat → Int32} {n k : Nat} (h : ∀ u, k ≠ 5 * u + 4) : rzL f n k = f k := by
  induction n with
  | zero => rfl
  | succ n ih => rw [rzL, upd_n (h n)]; exact ih
def allB (f : Nat → Int32) : Nat → Int32 := upd (upd (upd (upd (upd f 0 (-1)) 1 (-1)) 2 (-1)) 3 (-1)) 4 (-1)
theorem allB_v {f : Nat → Int32} {t : Nat} (h : t < 5) : allB f t = -1 := by
  unfold allB
  rcases (show t = 0 ∨ t = 1 ∨ t = 2 ∨ t = 3 ∨ t = 4 by omega) with rfl | rfl | rfl | rfl | rfl <;> rfl
theorem g_takeAllBack (M : xM) : f_X2_takeAllBack M = some (xA M 3 (allB (M.2.2 3))) := by
  have a0 : (0 : Int32) + 1 = nI 1 := rfl
  have st : ∀ (n i : Nat) (f : Nat → Int32), i < 5 → f_X2_takeAllBack_l2 (n + 1) (nI i) (xA M 3 f) = f_X2_takeAllBack_l2 n (nI (i + 1)) (xA M 3 (upd f i (-1))) := by
    intro n i f hi
    rw [f_X2_takeAllBack_l2, n5, ite_le (by omega) (by omega), if_neg (by omega), nm_s, xp_n hi (by omega), xA_A, nI_1]
    rfl
  have e0 : f_X2_takeAllBack_l2 (399 + 1) (nI 0) M = f_X2_takeAllBack_l2 399 (nI 1) (xA M 3 (upd (M.2.2 3) 0 (-1))) := by
    rw [f_X2_takeAllBack_l2, n5, ite_le (by omega) (by omega), if_neg (by omega), nm_s, xp_n (by omega) (by omega), nI_1]
  have e5 : ∀ (n : Nat) (f : Nat → Int32), f_X2_takeAllBack_l2 (n + 1) (nI 5) (xA M 3 f) = some (xA M 3 f) := by
    intro n f
    rw [f_X2_takeAllBack_l2, n5, ite_le (by omega) (by omega), if_pos (by omega)]
  show f_X2_takeAllBack_l2 (399 + 1) (nI 0) M = _
  rw [e0, st 398 1 _ (by omega), st 397 2 _ (by omega), st 396 3 _ (by omega), st 395 4 _ (by omega), e5, allB]
theorem m_sixL {C D : xM} {T K : Nat} (hT : D.1 2 = nI T) (hK : D.1 3 = nI K) (h5 : T ≤ 5) (h3 : K ≤ 3) (x : Int32) : f_X6_six_l69 xN x 0 D = some (nI T - x, xA (xA D 1 (lzL (D.2.2 1) T)) 2 (rzL (D.2.2 2) K)) := by
  have a : ∀ E : xM, E.1 2 = nI T → E.1 3 = nI K → f_X6_six_l96 xN x 0 E = some (nI T - x, xA E 2 (rzL (E.2.2 2) K)) := by
    intro E eT eK
    have b : f_X6_six_l96 xN x 0 (xA E 2 (E.2.2 2)) = some (nI T - x, xA E 2 (rzL (E.2.2 2) K)) := by
      refine for_ix (fun n (a : xM) i => f_X6_six_l96 n x i a) nI K (fun i a => a = xA E 2 (rzL (E.2.2 2) i)) _ ?_ ?_ xN _ (by rw [xN_v]; omega) rfl
      · rintro n a rfl
        show f_X6_six_l96 (n + 1) x (nI K) (xA E 2 (rzL (E.2.2 2) K)) = _
        rw [f_X6_six_l96, xA_1, eK, eT, ite_le (by omega) (by omega), if_pos (Nat.le_refl K)]
      · rintro n i a hi rfl
        refine Or.inr ⟨_, rfl, ?_⟩
        show f_X6_six_l96 (n + 1) x (nI i) (xA E 2 (rzL (E.2.2 2) i)) = f_X6_six_l96 n x (nI (i + 1)) (xA E 2 (rzL (E.2.2 2) (i + 1)))
        rw [f_X6_six_l96, xA_1, eK, ite_le (by omega) (by omega), if_neg (by omega), n4, ix5, xst_n (by omega) (by omega), ob_s, nm_s, xA_A, nI_1]
        rfl
    have eE : xA E 2 (E.2.2 2) = E := by
      unfold xA
      have : va_up E.2.2 2 (E.2.2 2) = E.2.2 := by
        funext j
        unfold va_up
        by_cases e : j = 2
        · rw [if_pos e, e]
        · rw [if_neg e]
      rw [this]
    rw [eE] at b
    exact b
  have eE : xA D 1 (D.2.2 1) = D := by
    unfold xA
    have : va_up D.2.2 1 (D.2.2 1) = D.2.2 := by
      funext j
      unfold va_up
      by_cases e : j = 1
      · rw [if_pos e, e]
      · rw [if_neg e]
    rw [this]
  have b : f_X6_six_l69 xN x 0 (xA D 1 (D.2.2 1)) = some (nI T - x, xA (xA D 1 (lzL (D.2.2 1) T)) 2 (rzL (D.2.2 2) K)) := by
    refine for_ix (fun n (a : xM) i => f_X6_six_l69 n x i a) nI T (fun i a => a = xA D 1 (lzL (D.2.2 1) i)) _ ?_ ?_ xN _ (by rw [xN_v]; omega) rfl
    · rintro n a' rfl
      show f_X6_six_l69 (n + 1) x (nI T) (xA D 1 (lzL (D.2.2 1) T)) = _
      rw [f_X6_six_l69, xA_1, hT, ite_le (by omega) (by omega), if_pos (Nat.le_refl T)]
      exact a (xA D 1 (lzL (D.2.2 1) T)) hT hK
    · rintro n i a' hi rfl
      refine Or.inr ⟨_, rfl, ?_⟩
      show f_X6_six_l69 (n + 1) x (nI i) (xA D 1 (lzL (D.2.2 1) i)) = f_X6_six_l69 n x (nI (i + 1)) (xA D 1 (lzL (D.2.2 1) (i + 1)))
      rw [f_X6_six_l69, xA_1, hT, ite_le (by omega) (by omega), if_neg (by omega), n3, ix4, xst_n (by omega) (by omega), ob_s, nm_s, xA_A, nI_1]
      rfl
  rw [eE] at b
  exact b
theorem o_six : op_six Inv := by
  intro C D j hj hI
  have hI' := inv_mon C D j hI
  obtain ⟨T, K, S, mo, n, b, hb, hB, hR, hP, hN, hK⟩ := hI
  have h3 := hB.2.2.2.2.2.1
  have h5 := hB.2.2.2.2.1
  have hD := ivRD hB hR
  obtain ⟨rg, s1, s2, hs, m1, m2, m3, m4, m5⟩ := hR
  obtain ⟨r1, r2, r3, r4, r5, r6, r7⟩ := rg
  rw [f_X5_six, c_stands hB, ob_s, ite_bI, f_X6_six, m_lacks hB, ob_s, ite_bI]
  by_cases hT : 0 < T
  · rw [if_pos (decide_eq_true hT), if_neg (by simp; omega), f_X2_mondaysOver, ob_s, m1, m2, show (99 : Int32) = nI 99 from rfl, ite_lt (by omega) (by omega), ite_eq (by omega) (by omega)]
    by_cases hm : mo < 99
    · rw [if_pos hm, if_neg (by omega), c_given hB, ob_s, f_X3_things, ob_s, f_X3_claimers, ob_s, m_given hD, ob_s, nm_s, nm_s, nm_s, f_X2_endMonday, nm_s, nm_s, nm_s, g_takeAllBack, ob_s, ob_s]
      obtain ⟨g, hg⟩ : ∃ g, g = gN C T := ⟨_, rfl⟩
      rw [← hg]
      obtain ⟨D1, hD1⟩ : ∃ D1 : xM, D1 = xI (xI (xI D 4 (nI mo + 1)) 5 (D.1 5 + (D.1 2 - nI g))) 6 (D.1 6 + (D.1 3 - nI g)) := ⟨_, rfl⟩
      have e1 : D1.1 2 = nI T := by rw [hD1]; exact hB.2.1
      have e2 : D1.1 3 = nI K := by rw [hD1]; exact hB.2.2.2.1
      have e3 := m_sixL (C := C) e1 e2 h5 h3 (nI g)
      have e4 : ((xI D 4 (nI mo + 1)).1 5 : Int32) = D.1 5 := rfl
      have hrun : f_X6_six_l69 xN (nI g) 0 (xI (xI (xI D 4 (nI mo + 1)) 5 ((xI D 4 (nI mo + 1)).1 5 + ((xI D 4 (nI mo + 1)).1 2 - nI g))) 6 ((xI (xI D 4 (nI mo + 1)) 5 ((xI D 4 (nI mo + 1)).1 5 + ((xI D 4 (nI mo + 1)).1 2 - nI g))).1 6 + ((xI (xI D 4 (nI mo + 1)) 5 ((xI D 4 (nI mo + 1)).1 5 + ((xI D 4 (nI mo + 1)).1 2 - nI g))).1 3 - nI g))) = some (nI T - nI g, xA (xA D1 1 (lzL (D1.2.2 1) T)) 2 (rzL (D1.2.2 2) K)) := by
        rw [hD1] at e3 ⊢
        exact e3
      rw [hrun]
      obtain ⟨C1, hC1⟩ : ∃ C1 : xM, C1 = xA (xI (xI (xI C 7 (C.1 7 + (nI T - nI g))) 8 (C.1 8 + (nI K - nI g))) 6 (nI mo + 1)) 3 (allB (C.2.2 3)) := ⟨_, rfl⟩
      refine ⟨nI T - nI g, C1, xA (xA D1 1 (lzL (D1.2.2 1) T)) 2 (rzL (D1.2.2 2) K), ?_, rfl, T, K, S, mo + 1, n, b, by omega, ?_, ⟨?_, ?_, ?_, ?_, ?_, ?_, by omega, ?_, ?_⟩, ?_, ?_, ?_⟩
      · have c1 : ∀ z : Int32, (xI (xI C 7 (C.1 7 + (C.1 2 - nI g))) 8 z).1 6 = nI mo := fun z => m1
        rw [hC1, ← hB.1, ← hB.2.2.1, ← m1]
        rfl
      · rw [hC1, hD1]; exact hB
      · rw [hC1, hD1]
        show RG T K (C.2.2 1) (C.2.2 2) (allB (C.2.2 3)) (C.2.2 4) (lzL (D.2.2 1) T) (rzL (D.2.2 2) K)
        refine ⟨fun t s ht hs => ?_, fun t ht => ?_, fun c s hc hs => ?_, fun c hc => ?_, fun c hc => ?_, fun t ht => Or.inl (allB_v ht), fun t u ht hu _ h => absurd (allB_v ht) h⟩
        · rw [lzL_out (fun u => by omega)]; exact r1 t s ht hs
        · rw [lzL_in ht, allB_v (by omega)]
        · rw [rzL_out (fun u => by omega)]; exact r3 c s hc hs
        · rw [rzL_out (fun u => by omega)]; exact r4 c hc
        · rw [rzL_in hc]
          refine (xOf_none (fun v hv h => ?_)).symm
          rw [allB_v hv] at h
          exact nI_m1 (by omega) h.symm
      · rw [hC1]; exact s1
      · rw [hD1]; exact s2
      · rw [hC1, hD1]; exact hs
      · rw [hC1]; exact nI_1 mo
      · rw [hD1]; exact nI_1 mo
      · rw [hC1, hD1]
        show C.1 7 + (nI T - nI g) = D.1 5 + (D.1 2 - nI g)
        rw [m4, hB.2.1]
      · rw [hC1, hD1]
        show C.1 8 + (nI K - nI g) = D.1 6 + (D.1 3 - nI g)
        rw [m5, hB.2.2.2.1]
      · rw [hC1, hD1]; exact hP
      · rw [hC1, hD1]; exact hN
      · rw [hC1, hD1]; exact hK
    · rw [if_neg hm, if_pos (by omega)]
      exact ⟨-104, C, D, rfl, rfl, hI'⟩
  · rw [if_neg (by simp; omega), if_pos (by simp; omega)]
    exact ⟨-103, C, D, rfl, rfl, hI'⟩
