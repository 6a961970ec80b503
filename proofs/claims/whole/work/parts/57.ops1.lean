/-! ===== the calls that read, and the page ===== -/
theorem xOf_spec (h : Nat → Int32) (c : Int32) : (∃ t, t < 5 ∧ h t = c ∧ xOf h c = nI t) ∨ ((∀ t, t < 5 → h t ≠ c) ∧ xOf h c = -1) := by
  unfold xOf
  by_cases h0 : h 0 = c
  · exact Or.inl ⟨0, by omega, h0, by rw [if_pos h0]; rfl⟩
  by_cases h1 : h 1 = c
  · exact Or.inl ⟨1, by omega, h1, by rw [if_neg h0, if_pos h1]; rfl⟩
  by_cases h2 : h 2 = c
  · exact Or.inl ⟨2, by omega, h2, by rw [if_neg h0, if_neg h1, if_pos h2]; rfl⟩
  by_cases h3 : h 3 = c
  · exact Or.inl ⟨3, by omega, h3, by rw [if_neg h0, if_neg h1, if_neg h2, if_pos h3]; rfl⟩
  by_cases h4 : h 4 = c
  · exact Or.inl ⟨4, by omega, h4, by rw [if_neg h0, if_neg h1, if_neg h2, if_neg h3, if_pos h4]; rfl⟩
  refine Or.inr ⟨fun t ht => ?_, by rw [if_neg h0, if_neg h1, if_neg h2, if_neg h3, if_neg h4]⟩
  rcases (show t = 0 ∨ t = 1 ∨ t = 2 ∨ t = 3 ∨ t = 4 by omega) with rfl | rfl | rfl | rfl | rfl <;> assumption
theorem xOf_eq {h : Nat → Int32} {c : Int32} {t : Nat} (ht : t < 5) (e : h t = c) (u : ∀ v, v < 5 → h v = c → v = t) : xOf h c = nI t := by
  rcases xOf_spec h c with ⟨v, h1, h2, h3⟩ | ⟨h1, h2⟩
  · rw [h3, u v h1 h2]
  · exact absurd e (h1 t ht)
theorem xOf_none {h : Nat → Int32} {c : Int32} (u : ∀ v, v < 5 → h v ≠ c) : xOf h c = -1 := by
  rcases xOf_spec h c with ⟨v, h1, h2, h3⟩ | ⟨h1, h2⟩
  · exact absurd h2 (u v h1)
  · exact h2
theorem xOf_m1 {h : Nat → Int32} {c : Int32} (e : xOf h c = -1) : ∀ v, v < 5 → h v ≠ c := by
  rcases xOf_spec h c with ⟨v, h1, h2, h3⟩ | ⟨h1, h2⟩
  · rw [h3] at e; exact absurd e (nI_m1 (by omega))
  · exact h1
section TELL
variable {T K S mo t c : Nat} {C D : xM}
theorem l_sg {s : Nat} (h : RD C D T K) (ht : t < T) (hs : s < 3) : xld 20 (D.2.2 1) ((4 : Int32) * nI t + nI s) = some (C.2.2 1 (t * 3 + s)) := by
  have h5 := h.1.2.2.1
  rw [ix4, xld_n (by omega) (by omega)]
  exact congrArg some (h.2.2.2.1 t s ht hs).1
theorem r_sg {s : Nat} (h : RD C D T K) (hc : c < K) (hs : s < 3) : xld 15 (D.2.2 2) ((5 : Int32) * nI c + nI s) = some (C.2.2 4 (c * 3 + s)) := by
  have h5 := h.1.2.2.2.1
  rw [ix5, xld_n (by omega) (by omega)]
  exact congrArg some (h.2.2.2.2.2.1 c s hc hs).1
theorem tell_thing (hB : IvB T K C D) (hR : IvR T K S mo C D) (ht : t < T) (y : Int32) : ∃ r, f_X5_thing (nI t) y C = some r ∧ f_X6_tellThing (nI t) y D = some r := by
  have h5 := hB.2.2.2.2.1
  have hW := ivWC hB
  have hD := ivRD hB hR
  have hS := ivSW hB hR
  have hx : isIx (nI t) T = true := decide_eq_true ⟨nI_pos' (by omega), nI_lt ht (by omega)⟩
  rw [f_X5_thing, c_isT hB, ob_s, ite_bI, if_pos hx, f_X6_tellThing]
  simp only [f_X5_thing_b56, f_X6_tellThing_b44]
  by_cases h0 : y = 0
  · subst h0
    exact ⟨_, by rw [if_pos rfl, g_sign0 (by omega), ob_s], by rw [if_pos rfl, n0, l_sg hD ht (by omega), ob_s]; rfl⟩
  rw [if_neg h0, if_neg h0]
  by_cases h1 : y = 1
  · subst h1
    exact ⟨_, by rw [if_pos rfl, g_sign1 (by omega), ob_s], by rw [if_pos rfl, n1, l_sg hD ht (by omega), ob_s]⟩
  rw [if_neg h1, if_neg h1]
  by_cases h2 : y = 2
  · subst h2
    exact ⟨_, by rw [if_pos rfl, g_sign2 (by omega), ob_s], by rw [if_pos rfl, n2, l_sg hD ht (by omega), ob_s]⟩
  rw [if_neg h2, if_neg h2]
  by_cases h3 : y = 3
  · subst h3
    exact ⟨_, by rw [if_pos rfl, g_holder (by omega), ob_s], by rw [if_pos rfl, l_h hD ht, ob_s]⟩
  rw [if_neg h3, if_neg h3]
  by_cases h4 : y = 4
  · subst h4
    exact ⟨_, by rw [if_pos rfl, g_claimersFitted hW (by omega), ob_s], by rw [if_pos rfl, m_claimersOf hD ht, ob_s]⟩
  rw [if_neg h4, if_neg h4]
  by_cases h5' : y = 5
  · subst h5'
    exact ⟨_, by rw [if_pos rfl, g_yearsOf hW hS (by omega), ob_s], by rw [if_pos rfl, m_yearsOf hD hR.2.2.1 hR.2.2.2.1 ht, ob_s]⟩
  rw [if_neg h5', if_neg h5']
  by_cases h6 : y = 6
  · subst h6
    exact ⟨_, by rw [if_pos rfl, g_yearsOf hW hS (by omega), ob_s, g_show hW (by omega), ob_s], by rw [if_pos rfl, m_showOf hD hR.2.2.1 hR.2.2.2.1 ht, ob_s]⟩
  rw [if_neg h6, if_neg h6]
  exact ⟨_, rfl, rfl⟩
theorem tell_claimer (hB : IvB T K C D) (hR : IvR T K S mo C D) (hc : c < K) (y : Int32) : ∃ r g, f_X5_claimer (nI c) y C = some r ∧ f_X6_tellClaimer (nI c) y D = some (r, xA D 3 g) := by
  have h3 := hB.2.2.2.2.2.1
  have h5 := hB.2.2.2.2.1
  have hW := ivWC hB
  have hD := ivRD hB hR
  have hx : isIx (nI c) K = true := decide_eq_true ⟨nI_pos' (by omega), nI_lt hc (by omega)⟩
  have eD : xA D 3 (D.2.2 3) = D := by
    unfold xA
    have : va_up D.2.2 3 (D.2.2 3) = D.2.2 := by
      funext j
      unfold va_up
      by_cases e : j = 3
      · rw [if_pos e, e]
      · rw [if_neg e]
    rw [this]
  rw [f_X5_claimer, c_isC hB, ob_s, ite_bI, if_pos hx, f_X6_tellClaimer]
  simp only [f_X5_claimer_b56, f_X6_tellClaimer_b44]
  by_cases h0 : y = 0
  · subst h0
    exact ⟨_, D.2.2 3, by rw [if_pos rfl, g_mem0 (by omega), ob_s], by rw [if_pos rfl, n0, r_sg hD hc (by omega), ob_s, eD]; rfl⟩
  rw [if_neg h0, if_neg h0]
  by_cases h1 : y = 1
  · subst h1
    exact ⟨_, D.2.2 3, by rw [if_pos rfl, g_mem1 (by omega), ob_s], by rw [if_pos rfl, n1, r_sg hD hc (by omega), ob_s, eD]⟩
  rw [if_neg h1, if_neg h1]
  by_cases h2 : y = 2
  · subst h2
    exact ⟨_, D.2.2 3, by rw [if_pos rfl, g_mem2 (by omega), ob_s], by rw [if_pos rfl, n2, r_sg hD hc (by omega), ob_s, eD]⟩
  rw [if_neg h2, if_neg h2]
  by_cases h3' : y = 3
  · subst h3'
    exact ⟨_, D.2.2 3, by rw [if_pos rfl, g_kind (by omega), ob_s], by rw [if_pos rfl, r_k hD hc, ob_s, eD]⟩
  rw [if_neg h3', if_neg h3']
  by_cases h4 : y = 4
  · subst h4
    exact ⟨_, D.2.2 3, by rw [if_pos rfl, g_thingOf, ob_s], by rw [if_pos rfl, r_h hD hc, ob_s, eD]⟩
  rw [if_neg h4, if_neg h4]
  by_cases h5' : y = 5
  · subst h5'
    exact ⟨_, D.2.2 3, by rw [if_pos rfl, g_thingsFitting hW (by omega), ob_s], by rw [if_pos rfl, m_thingsOf hD hc, ob_s, eD]⟩
  rw [if_neg h5', if_neg h5']
  by_cases h6 : y = 6
  · subst h6
    obtain ⟨g, hg⟩ := m_signOf hD hc
    exact ⟨_, g, by rw [if_pos rfl, g_thingsFitting hW (by omega), ob_s, g_thingsNotGiven hW, ob_s, bS_and _ _ (by omega), g_signToAsk hW, ob_s], by rw [if_pos rfl, hg, ob2_s]⟩
  rw [if_neg h6, if_neg h6]
  exact ⟨_, D.2.2 3, rfl, by rw [eD]⟩
end TELL
theorem inv_A3 {C D : xM} {j : Nat} (h : Inv C D j) (g : Nat → Int32) : Inv C (xA D 3 g) j := h
theorem o_thing : op_thing Inv := by
  intro C D j hj hI x y
  have hI' := inv_mon C D j hI
  obtain ⟨T, K, S, mo, n, b, hb, hB, hR, hP, hN, hK⟩ := hI
  have h5 := hB.2.2.2.2.1
  cases hx : isIx x T with
  | false =>
    refine ⟨-101, ?_, ?_, hI'⟩
    · rw [f_X5_thing, c_isT hB, ob_s, ite_bI, hx]; rfl
    · rw [f_X6_thing, m_isT hB, ob_s, ite_bI, hx]; rfl
  | true =>
    obtain ⟨t, ht, rfl⟩ := isIx_of (by omega) hx
    obtain ⟨r, h1, h2⟩ := tell_thing hB hR ht y
    exact ⟨r, h1, by rw [f_X6_thing, m_isT hB, ob_s, ite_bI, if_pos hx, h2, ob_s], hI'⟩
theorem o_claimer : op_claimer Inv := by
  intro C D j hj hI x y
  have hI' := inv_mon C D j hI
  obtain ⟨T, K, S, mo, n, b, hb, hB, hR, hP, hN, hK⟩ := hI
  have h3 := hB.2.2.2.2.2.1
  cases hx : isIx x K with
  | false =>
    refine ⟨-101, D, ?_, ?_, hI'⟩
    · rw [f_X5_claimer, c_isC hB, ob_s, ite_bI, hx]; rfl
    · rw [f_X6_claimer, m_isC hB, ob_s, ite_bI, hx]; rfl
  | true =>
    obtain ⟨c, hc, rfl⟩ := isIx_of (by omega) hx
    obtain ⟨r, g, h1, h2⟩ := tell_claimer hB hR hc y
    exact ⟨r, _, h1, by rw [f_X6_claimer, m_isC hB, ob_s, ite_bI, if_pos hx, h2, ob2_s], inv_A3 hI' g⟩
theorem o_wrong : op_wrong Inv := by
  intro C D j hj hI x y
  have hI' := inv_mon C D j hI
  obtain ⟨T, K, S, mo, n, b, hb, hB, hR, hP, hN, hK⟩ := hI
  have h3 := hB.2.2.2.2.2.1
  have h5 := hB.2.2.2.2.1
  rw [f_X5_wrong, c_both hB, ob_s, ite_bI, f_X6_wrong, m_isT hB, ob_s, ite_bI, m_isC hB, ob_s, ite_bI]
  cases hx : isIx x T with
  | false => exact ⟨-101, rfl, rfl, hI'⟩
  | true =>
    cases hy : isIx y K with
    | false => exact ⟨-101, rfl, rfl, hI'⟩
    | true =>
      obtain ⟨t, ht, rfl⟩ := isIx_of (by omega) hx
      obtain ⟨c, hc, rfl⟩ := isIx_of (by omega) hy
      refine ⟨wO C t c, ?_, ?_, hI'⟩
      · rw [if_pos (show (true && true) = true from rfl), g_wrongOf (ivWC hB) (by omega) (by omega), ob_s]
      · rw [if_pos rfl, if_pos rfl, m_wO (ivRD hB hR) ht hc, ob_s]
theorem m_ixk (x : Int32) {n : Nat} {k : Int64} (hn : n < 2 ^ 30) (hk : k = (nI n - 1).toInt64) : f_X6_in x.toInt64 (0 : Int64) k = some (bI (isIx x n)) := by
  rw [hk, m_ix x hn]
theorem o_as : op_as Inv := by
  intro C D j hj hI x y
  have hI' := inv_mon C D j hI
  obtain ⟨T, K, S, mo, n, b, hb, hB, hR, hP, hN, hK⟩ := hI
  have h3 := hB.2.2.2.2.2.1
  rw [f_X5_as, c_isC hB, ob_s, ite_bI, f_X6_as, m_isC hB, ob_s, ite_bI]
  cases hx : isIx x K with
  | false => exact ⟨-101, rfl, rfl, hI'⟩
  | true =>
    have e5 : f_X5_isBelow y 5 = some (bI (isIx y 5)) := c_below y (n := 5)
    rw [if_pos rfl, if_pos rfl, e5, ob_s, ite_bI, m_ixk y (n := 5) (by omega) (by decide), ob_s, ite_bI]
    cases hy : isIx y 5 with
    | false => exact ⟨-102, rfl, rfl, hI'⟩
    | true =>
      obtain ⟨c, hc, rfl⟩ := isIx_of (by omega) hx
      rw [if_pos rfl, if_pos rfl, g_kind (by omega), ob_s, r_k (ivRD hB hR) hc, ob_s]
      simp only [f_X6_as_b56, f_X6_as_b60, f_X6_as_b61, f_X5_isKind]
      generalize C.2.2 2 c = k
      by_cases a1 : y = k
      · subst a1
        refine ⟨nI c, ?_, ?_, hI'⟩
        · rw [if_pos rfl, xbo_1, ob_s, ite_bI]; rfl
        · by_cases a0 : y = 0
          · rw [if_pos a0]; rfl
          · rw [if_neg a0, if_pos rfl]; rfl
      · rw [if_neg a1]
        by_cases a0 : y = 0
        · exact ⟨nI c, by rw [if_pos a0, xbo_1, ob_s, ite_bI]; rfl, by rw [if_pos a0]; rfl, hI'⟩
        · rw [if_neg a0, if_neg a0, if_neg a1]
          by_cases a2 : y = 1
          · rw [if_pos a2, if_pos a2]
            by_cases a3 : k = 4
            · exact ⟨nI c, by rw [if_pos a3, xbo_1, ob_s, ite_bI]; rfl, by rw [if_pos a3]; rfl, hI'⟩
            · exact ⟨-1, by rw [if_neg a3, xbo_0, ob_s, ite_bI]; rfl, by rw [if_neg a3]; rfl, hI'⟩
          · exact ⟨-1, by rw [if_neg a2, xbo_0, ob_s, ite_bI]; rfl, by rw [if_neg a2]; rfl, hI'⟩
/-! the page -/
theorem o_letter : op_letter Inv := by
  intro C D j hj hI x
  have hI' := inv_mon C D j hI
  obtain ⟨T, K, S, mo, n, b, hb, hB, hR, hP, hN, hK⟩ := hI
  obtain ⟨p1, p2, p3, p4⟩ := hP
  have hin := m_in x 1 126
  rw [show ((1 : Int32)).toInt64 = (1 : Int64) from rfl, show ((126 : Int32)).toInt64 = (126 : Int64) from rfl] at hin
  rw [f_X5_letter, f_X6_letter, hin, ob_s, ite_bI]
  by_cases h1 : x < 1
  · refine ⟨-102, C, D, by rw [if_pos h1], ?_, hI'⟩
    rw [if_neg]
    simp only [decide_eq_true_eq]
    exact fun h => Int32.not_le.mpr h1 h.1
  rw [if_neg h1]
  by_cases h2 : x ≤ 126
  · rw [if_pos h2, if_pos (decide_eq_true ⟨Int32.not_lt.mp h1, h2⟩), f_X1_append, p1, p2, show (36 : Int32) = nI 36 from rfl, ite_lt (by omega) (by omega), ite_eq (by omega) (by omega)]
    by_cases h3 : n < 36
    · rw [if_pos h3, if_neg (by omega), nm_s, nm_s, xbo_1, ob_s, ob2_s, ite_bI, if_pos rfl, f_X1_length, ob_s, xst_n (by omega) (by omega), ob_s, nm_s, nm_s, xp_n (by omega) (by omega)]
      refine ⟨nI (n + 1), xI (xA C 0 (upd (C.2.2 0) n x)) 1 (nI (n + 1)), xI (xA D 0 (upd (D.2.2 0) n x)) 0 (nI (n + 1)), ?_, ?_, ?_⟩
      · rw [xA_1, p1, nI_1]; rfl
      · rw [xA_1, p2, nI_1]; rfl
      · obtain ⟨v, hv1, hv2, rfl⟩ : ∃ v : Nat, 1 ≤ v ∧ v ≤ 126 ∧ x = nI v := by
          have hx0 : ¬ x < 0 := fun h => h1 (Int32.lt_trans h (by decide))
          obtain ⟨v, hv, rfl⟩ := nI_of hx0
          refine ⟨v, ?_, ?_, rfl⟩
          · rw [n1, nI_ltI hv (by omega)] at h1; omega
          · exact (nI_leI hv (by omega)).mp h2
        refine ⟨T, K, S, mo, n + 1, b, by omega, hB, hR, ⟨rfl, rfl, by omega, fun i hi => ?_⟩, hN, hK⟩
        show upd (C.2.2 0) n (nI v) i = upd (D.2.2 0) n (nI v) i ∧ ∃ w, 1 ≤ w ∧ w ≤ 126 ∧ upd (C.2.2 0) n (nI v) i = nI w
        by_cases e : i = n
        · subst e; rw [upd_s, upd_s]; exact ⟨rfl, v, hv1, hv2, rfl⟩
        · rw [upd_n e, upd_n e]; exact p4 i (by omega)
    · rw [if_neg h3, if_pos (by omega), xbo_0, ob_s, ob2_s, ite_bI]
      exact ⟨-104, C, D, rfl, rfl, hI'⟩
  · refine ⟨-102, C, D, by rw [if_neg h2], ?_, hI'⟩
    rw [if_neg]
    simp only [decide_eq_true_eq]
    exact fun h => h2 h.2
theorem o_blank : op_blank Inv := by
  intro C D j hj hI
  obtain ⟨T, K, S, mo, n, b, hb, hB, hR, hP, hN, hK⟩ := hI
  obtain ⟨p1, p2, p3, p4⟩ := hP
  refine ⟨nI n, xI C 1 0, xI D 0 0, ?_, ?_, T, K, S, mo, 0, b, by omega, hB, hR, ⟨rfl, rfl, by omega, fun i hi => by omega⟩, hN, hK⟩
  · rw [f_X5_blank, f_X1_length, ob_s, f_X1_clear, nm_s, ob_s, p1]
  · rw [f_X6_blank, nm_s, p2]
