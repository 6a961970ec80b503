/-! ===== the calls that give, remember, see and keep ===== -/
theorem o_give : op_give Inv := by
  intro C D j hj hI x y
  have hI' := inv_mon C D j hI
  obtain ⟨T, K, S, mo, n, b, hb, hB, hR, hP, hN, hK⟩ := hI
  have h3 := hB.2.2.2.2.2.1
  have h5 := hB.2.2.2.2.1
  rw [f_X5_give, c_both hB, ob_s, ite_bI, f_X6_give, m_isT hB, ob_s, ite_bI, m_isC hB, ob_s, ite_bI]
  cases hx : isIx x T with
  | false => exact ⟨-101, C, D, rfl, rfl, hI'⟩
  | true =>
    cases hy : isIx y K with
    | false => exact ⟨-101, C, D, rfl, rfl, hI'⟩
    | true =>
      obtain ⟨t, ht, rfl⟩ := isIx_of (by omega) hx
      obtain ⟨c, hc, rfl⟩ := isIx_of (by omega) hy
      have hD := ivRD hB hR
      rw [if_pos (show (true && true) = true from rfl), if_pos rfl, if_pos rfl, g_holder (by omega), ob_s, l_h hD ht, ob_s]
      by_cases e1 : C.2.2 3 t = -1
      · rw [if_pos e1, if_pos e1, g_thingOf, ob_s, r_h hD hc, ob_s]
        by_cases e2 : xOf (C.2.2 3) (nI c) = -1
        · rw [if_pos e2, if_pos e2, n3, ix4, xst_n (by omega) (by omega), ob_s, nm_s]
          have er : (xA D 1 (upd (D.2.2 1) (4 * t + 3) (nI c))).2.2 2 = D.2.2 2 := rfl
          rw [er, n4, ix5, xst_n (by omega) (by omega), ob_s, nm_s, f_X2_hand, nm_s, ob_s, xp_n (by omega) (by omega)]
          obtain ⟨r1, r2, r3, r4, r5, r6, r7⟩ := hR.1
          have hno := xOf_m1 e2
          have hR' : IvR T K S mo (xA C 3 (upd (C.2.2 3) t (nI c))) (xA (xA D 1 (upd (D.2.2 1) (4 * t + 3) (nI c))) 2 (upd (D.2.2 2) (5 * c + 4) (nI t))) := by
            refine ⟨?_, hR.2⟩
            show RG T K (C.2.2 1) (C.2.2 2) (upd (C.2.2 3) t (nI c)) (C.2.2 4) (upd (D.2.2 1) (4 * t + 3) (nI c)) (upd (D.2.2 2) (5 * c + 4) (nI t))
            refine ⟨fun u s hu hs => ?_, fun u hu => ?_, fun d s hd hs => ?_, fun d hd => ?_, fun d hd => ?_, fun u hu => ?_, fun u v hu hv => ?_⟩
            · rw [upd_n (by omega)]; exact r1 u s hu hs
            · by_cases e : u = t
              · subst e; rw [upd_s, upd_s]
              · rw [upd_n (by omega), upd_n e]; exact r2 u hu
            · rw [upd_n (by omega)]; exact r3 d s hd hs
            · rw [upd_n (by omega)]; exact r4 d hd
            · by_cases e : d = c
              · subst e
                rw [upd_s]
                refine (xOf_eq (t := t) (by omega) upd_s (fun v hv hq => ?_)).symm
                apply Classical.byContradiction
                intro hne
                rw [upd_n hne] at hq
                exact hno v hv hq
              · rw [upd_n (by omega), r5 d hd]
                rcases xOf_spec (C.2.2 3) (nI d) with ⟨v, v1, v2, v3⟩ | ⟨v1, v2⟩
                · have hvt : v ≠ t := fun q => by
                    rw [q, e1] at v2
                    exact nI_m1 (by omega) v2.symm
                  rw [v3]
                  refine (xOf_eq v1 (by rw [upd_n hvt]; exact v2) (fun w hw hq => ?_)).symm
                  by_cases q : w = t
                  · rw [q, upd_s] at hq
                    exact absurd (nI_inj (by omega) (by omega) hq).symm e
                  · rw [upd_n q] at hq
                    exact r7 w v hw v1 (hq.trans v2.symm) (by rw [hq]; exact nI_m1 (by omega))
                · rw [v2]
                  refine (xOf_none (fun w hw hq => ?_)).symm
                  by_cases q : w = t
                  · rw [q, upd_s] at hq
                    exact absurd (nI_inj (by omega) (by omega) hq).symm e
                  · rw [upd_n q] at hq
                    exact v1 w hw hq
            · by_cases e : u = t
              · subst e; rw [upd_s]; exact Or.inr ⟨ht, c, hc, rfl⟩
              · rw [upd_n e]; exact r6 u hu
            · by_cases e : u = t
              · by_cases f : v = t
                · intro _ _; omega
                · subst e
                  rw [upd_s, upd_n f]
                  intro h _
                  exact absurd h.symm (hno v hv)
              · by_cases f : v = t
                · subst f
                  rw [upd_s, upd_n e]
                  intro h _
                  exact absurd h (hno u hu)
                · rw [upd_n e, upd_n f]
                  exact r7 u v hu hv
          have hD' := ivRD (C := xA C 3 (upd (C.2.2 3) t (nI c))) (D := xA (xA D 1 (upd (D.2.2 1) (4 * t + 3) (nI c))) 2 (upd (D.2.2 2) (5 * c + 4) (nI t))) hB hR'
          refine ⟨wO C t c, xA C 3 (upd (C.2.2 3) t (nI c)), xA (xA D 1 (upd (D.2.2 1) (4 * t + 3) (nI c))) 2 (upd (D.2.2 2) (5 * c + 4) (nI t)), ?_, ?_, T, K, S, mo, n, b, by omega, hB, hR', hP, hN, hK⟩
          · rw [g_wrongOf hD'.1 (by omega) (by omega), ob_s]; rfl
          · rw [m_wO hD' ht hc, ob_s]; rfl
        · rw [if_neg e2, if_neg e2]
          exact ⟨-103, C, D, rfl, rfl, hI'⟩
      · rw [if_neg e1, if_neg e1]
        exact ⟨-103, C, D, rfl, rfl, hI'⟩
theorem o_back : op_back Inv := by
  intro C D j hj hI x
  have hI' := inv_mon C D j hI
  obtain ⟨T, K, S, mo, n, b, hb, hB, hR, hP, hN, hK⟩ := hI
  have h3 := hB.2.2.2.2.2.1
  have h5 := hB.2.2.2.2.1
  rw [f_X5_back, c_isT hB, ob_s, ite_bI, f_X6_back, m_isT hB, ob_s, ite_bI]
  cases hx : isIx x T with
  | false => exact ⟨-101, C, D, rfl, rfl, hI'⟩
  | true =>
    obtain ⟨t, ht, rfl⟩ := isIx_of (by omega) hx
    have hD := ivRD hB hR
    rw [if_pos rfl, if_pos rfl, g_holder (by omega), ob_s, l_h hD ht, ob_s]
    by_cases e1 : C.2.2 3 t = -1
    · rw [if_pos e1, if_pos e1]
      exact ⟨-103, C, D, rfl, rfl, hI'⟩
    · obtain ⟨r1, r2, r3, r4, r5, r6, r7⟩ := hR.1
      obtain ⟨-, c, hc, ec⟩ := (r6 t (by omega)).resolve_left e1
      have er : (xA D 1 (upd (D.2.2 1) (4 * t + 3) (-1))).2.2 2 = D.2.2 2 := rfl
      rw [if_neg e1, if_neg e1, n3, ix4, xst_n (by omega) (by omega), ob_s, nm_s, er, ec, n4, ix5, xst_n (by omega) (by omega), ob_s, nm_s, f_X2_hand, nm_s, ob_s, xp_n (by omega) (by omega)]
      refine ⟨nI c, xA C 3 (upd (C.2.2 3) t (-1)), xA (xA D 1 (upd (D.2.2 1) (4 * t + 3) (-1))) 2 (upd (D.2.2 2) (5 * c + 4) (-1)), rfl, rfl, T, K, S, mo, n, b, by omega, hB, ⟨?_, hR.2⟩, hP, hN, hK⟩
      show RG T K (C.2.2 1) (C.2.2 2) (upd (C.2.2 3) t (-1)) (C.2.2 4) (upd (D.2.2 1) (4 * t + 3) (-1)) (upd (D.2.2 2) (5 * c + 4) (-1))
      refine ⟨fun u s hu hs => ?_, fun u hu => ?_, fun d s hd hs => ?_, fun d hd => ?_, fun d hd => ?_, fun u hu => ?_, fun u v hu hv => ?_⟩
      · rw [upd_n (by omega)]; exact r1 u s hu hs
      · by_cases e : u = t
        · subst e; rw [upd_s, upd_s]
        · rw [upd_n (by omega), upd_n e]; exact r2 u hu
      · rw [upd_n (by omega)]; exact r3 d s hd hs
      · rw [upd_n (by omega)]; exact r4 d hd
      · by_cases e : d = c
        · subst e
          rw [upd_s]
          refine (xOf_none (fun w hw hq => ?_)).symm
          by_cases q : w = t
          · rw [q, upd_s] at hq
            exact nI_m1 (by omega) hq.symm
          · rw [upd_n q] at hq
            exact q (r7 w t hw (by omega) (hq.trans ec.symm) (by rw [hq]; exact nI_m1 (by omega)))
        · rw [upd_n (by omega), r5 d hd]
          rcases xOf_spec (C.2.2 3) (nI d) with ⟨v, v1, v2, v3⟩ | ⟨v1, v2⟩
          · have hvt : v ≠ t := fun q => by
              rw [q, ec] at v2
              exact e (nI_inj (by omega) (by omega) v2).symm
            rw [v3]
            refine (xOf_eq v1 (by rw [upd_n hvt]; exact v2) (fun w hw hq => ?_)).symm
            by_cases q : w = t
            · rw [q, upd_s] at hq
              exact absurd hq.symm (nI_m1 (by omega))
            · rw [upd_n q] at hq
              exact r7 w v hw v1 (hq.trans v2.symm) (by rw [hq]; exact nI_m1 (by omega))
          · rw [v2]
            refine (xOf_none (fun w hw hq => ?_)).symm
            by_cases q : w = t
            · rw [q, upd_s] at hq
              exact absurd hq.symm (nI_m1 (by omega))
            · rw [upd_n q] at hq
              exact v1 w hw hq
      · by_cases e : u = t
        · subst e; rw [upd_s]; exact Or.inl rfl
        · rw [upd_n e]; exact r6 u hu
      · by_cases e : u = t
        · subst e
          rw [upd_s]
          intro _ h
          exact absurd rfl h
        · by_cases f : v = t
          · subst f
            rw [upd_s, upd_n e]
            intro h h'
            exact absurd h h'
          · rw [upd_n e, upd_n f]
            exact r7 u v hu hv
theorem g_vals {s : Nat} (hs : s < 3) : ∃ k, k ≤ 10 ∧ k < 2 ^ 30 ∧ xe 3 (xT [10, 6, 5]) (nI s) = nI k ∧ f_X6_mostOf (nI s) = some (nI k - 1) := by
  rcases (show s = 0 ∨ s = 1 ∨ s = 2 by omega) with rfl | rfl | rfl
  · exact ⟨10, by omega, by omega, rfl, rfl⟩
  · exact ⟨6, by omega, by omega, rfl, rfl⟩
  · exact ⟨5, by omega, by omega, rfl, rfl⟩
theorem o_remember : op_remember Inv := by
  intro C D j hj hI x y z
  have hI' := inv_mon C D j hI
  obtain ⟨T, K, S, mo, n, b, hb, hB, hR, hP, hN, hK⟩ := hI
  have h3 := hB.2.2.2.2.2.1
  have h5 := hB.2.2.2.2.1
  have e3 : f_X5_isBelow y 3 = some (bI (isIx y 3)) := c_below y (n := 3)
  rw [f_X5_remember, c_isC hB, ob_s, ite_bI, f_X6_remember, m_isC hB, ob_s, ite_bI]
  cases hx : isIx x K with
  | false => exact ⟨-101, C, D, rfl, rfl, hI'⟩
  | true =>
    rw [if_pos rfl, if_pos rfl, e3, ob_s, ite_bI, m_ixk y (n := 3) (by omega) (by decide), ob_s, ite_bI]
    cases hy : isIx y 3 with
    | false => exact ⟨-102, C, D, rfl, rfl, hI'⟩
    | true =>
      obtain ⟨c, hc, rfl⟩ := isIx_of (by omega) hx
      obtain ⟨s, hs, rfl⟩ := isIx_of (by omega) hy
      obtain ⟨k, hk10, hk, k1, k2⟩ := g_vals hs
      rw [if_pos rfl, if_pos rfl, k1, k2, ob_s, c_below, ob_s, ite_bI, m_ix z hk, ob_s, ite_bI]
      cases hz : isIx z k with
      | false => exact ⟨-102, C, D, rfl, rfl, hI'⟩
      | true =>
        have hD := ivRD hB hR
        have hz9 : ∃ v, v ≤ 9 ∧ z = nI v := by
          obtain ⟨v, h1, h2⟩ := isIx_of (by omega) hz
          exact ⟨v, by omega, h2⟩
        rw [if_pos rfl, if_pos rfl, g_mem (by omega) hs, ob_s, r_sg hD hc hs, ob_s, ix5, xst_n (by omega) (by omega), ob_s, nm_s, f_X2_setMemory, nm_s, ob_s, n3, pk_mul, nI_add, xp_n (by omega) (by omega)]
        obtain ⟨r1, r2, r3, r4, r5, r6, r7⟩ := hR.1
        refine ⟨C.2.2 4 (c * 3 + s), xA C 4 (upd (C.2.2 4) (c * 3 + s) z), xA D 2 (upd (D.2.2 2) (5 * c + s) z), rfl, rfl, T, K, S, mo, n, b, by omega, hB, ⟨?_, hR.2⟩, hP, hN, hK⟩
        show RG T K (C.2.2 1) (C.2.2 2) (C.2.2 3) (upd (C.2.2 4) (c * 3 + s) z) (D.2.2 1) (upd (D.2.2 2) (5 * c + s) z)
        refine ⟨r1, r2, fun d u hd hu => ?_, fun d hd => ?_, fun d hd => ?_, r6, r7⟩
        · by_cases e : d = c ∧ u = s
          · obtain ⟨rfl, rfl⟩ := e; rw [upd_s, upd_s]; exact ⟨rfl, hz9⟩
          · rw [upd_n (by omega), upd_n (by omega)]; exact r3 d u hd hu
        · rw [upd_n (by omega)]; exact r4 d hd
        · rw [upd_n (by omega)]; exact r5 d hd
theorem o_see : op_see Inv := by
  intro C D j hj hI x y z hz
  have hI' := inv_mon C D j hI
  obtain ⟨T, K, S, mo, n, b, hb, hB, hR, hP, hN, hK⟩ := hI
  have h3 := hB.2.2.2.2.2.1
  have h5 := hB.2.2.2.2.1
  rw [f_X5_see, c_both hB, ob_s, ite_bI, f_X6_see, m_isT hB, ob_s, ite_bI, m_isC hB, ob_s, ite_bI]
  cases hx : isIx x T with
  | false => exact ⟨-101, C, D, rfl, rfl, hI'⟩
  | true =>
    cases hy : isIx y K with
    | false => exact ⟨-101, C, D, rfl, rfl, hI'⟩
    | true =>
      obtain ⟨t, ht, rfl⟩ := isIx_of (by omega) hx
      obtain ⟨c, hc, rfl⟩ := isIx_of (by omega) hy
      obtain ⟨rg, s1, s2, ⟨hS8, hs⟩, m1, m2, m3, m4, m5⟩ := hR
      rw [if_pos (show (true && true) = true from rfl), if_pos rfl, if_pos rfl, f_X2_noteSeen, s1, s2, show (8 : Int32) = nI 8 from rfl, ite_lt (by omega) (by omega), ite_eq (by omega) (by omega)]
      by_cases hlt : S < 8
      · rw [if_pos hlt, if_neg (by omega), nm_s, nm_s, ix30, xst_n (by omega) (by omega), ob_s, nm_s]
        have q1 : (xA D 6 (upd (D.2.2 6) (3 * S) (nI t))).1 8 = nI S := s2
        have q2 : (xA D 6 (upd (D.2.2 6) (3 * S) (nI t))).2.2 6 = upd (D.2.2 6) (3 * S) (nI t) := rfl
        rw [q1, q2, n1, ix3, xst_n (by omega) (by omega), ob_s, nm_s]
        have q3 : ∀ g : Nat → Int32, (xA (xA D 6 (upd (D.2.2 6) (3 * S) (nI t))) 6 g).1 8 = nI S := fun g => s2
        have q4 : ∀ g : Nat → Int32, (xA (xA D 6 (upd (D.2.2 6) (3 * S) (nI t))) 6 g).2.2 6 = g := fun g => rfl
        have w1 : (xA C 5 (xp 8 (C.2.2 5) (nI S) (nI t))).1 5 = nI S := s1
        have w2 : (xA C 5 (xp 8 (C.2.2 5) (nI S) (nI t))).2.2 6 = C.2.2 6 := rfl
        have w3 : ∀ g h : Nat → Int32, (xA (xA C 5 g) 6 h).1 5 = nI S := fun g h => s1
        have w4 : ∀ g h : Nat → Int32, (xA (xA C 5 g) 6 h).2.2 7 = C.2.2 7 := fun g h => rfl
        have w5 : ∀ g h i : Nat → Int32, (xA (xA (xA C 5 g) 6 h) 7 i).1 5 = nI S := fun g h i => s1
        have main : ∀ z : Int32, (z = 0 ∨ z = 1) → ∃ (r : Int32) (C' D' : xM), (ob2 (f_X2_noteSeen_b52 z (nI S) (xA (xA C 5 (xp 8 (C.2.2 5) (nI S) (nI t))) 6 (xp 8 (C.2.2 6) (nI S) (nI c)))) fun r3 M4 => if r3 = 0 then some (-104, M4) else (f_X2_seenInAll M4).bind fun r6 => some (r6, M4)) = some (r, C') ∧ f_X6_see_b78 z (nI (3 * S + 2)) (xA (xA D 6 (upd (D.2.2 6) (3 * S) (nI t))) 6 (upd (upd (D.2.2 6) (3 * S) (nI t)) (3 * S + 1) (nI c))) = some (r, D') ∧ Inv C' D' (j + 1) := by
          intro z hz
          rw [f_X2_noteSeen_b52, nm_s, nm_s, w5, xbo_1, ob_s, ob2_s, ite_bI, if_pos rfl, f_X2_seenInAll, ob_s, f_X6_see_b78, q4, xst_n (by omega) (by omega), ob_s, nm_s, nm_s, w4, xp_n (by omega) (by omega), xp_n (by omega) (by omega), xp_n (by omega) (by omega)]
          refine ⟨nI (S + 1), xI (xA (xA (xA C 5 (upd (C.2.2 5) S (nI t))) 6 (upd (C.2.2 6) S (nI c))) 7 (upd (C.2.2 7) S z)) 5 (nI (S + 1)), xI (xA (xA (xA D 6 (upd (D.2.2 6) (3 * S) (nI t))) 6 (upd (upd (D.2.2 6) (3 * S) (nI t)) (3 * S + 1) (nI c))) 6 (upd (upd (upd (D.2.2 6) (3 * S) (nI t)) (3 * S + 1) (nI c)) (3 * S + 2) z)) 8 (nI (S + 1)), ?_, ?_, ?_⟩
          · rw [nI_1]; rfl
          · have q5 : ∀ g h : Nat → Int32, (xA (xA (xA D 6 (upd (D.2.2 6) (3 * S) (nI t))) 6 g) 6 h).1 8 = nI S := fun g h => s2
            rw [q5, nI_1]; rfl
          · refine ⟨T, K, S + 1, mo, n, b, by omega, hB, ⟨rg, rfl, rfl, ?_, m1, m2, m3, m4, m5⟩, hP, hN, hK⟩
            show RS (S + 1) T K (upd (C.2.2 5) S (nI t)) (upd (C.2.2 6) S (nI c)) (upd (C.2.2 7) S z) (upd (upd (upd (D.2.2 6) (3 * S) (nI t)) (3 * S + 1) (nI c)) (3 * S + 2) z)
            refine ⟨by omega, fun i hi => ?_⟩
            by_cases e : i = S
            · subst e
              rw [upd_s, upd_s, upd_s, upd_n (by omega), upd_n (by omega), upd_s, upd_n (by omega), upd_s, upd_s]
              exact ⟨rfl, rfl, rfl, ⟨t, ht, rfl⟩, ⟨c, hc, rfl⟩, hz⟩
            · rw [upd_n e, upd_n e, upd_n e, upd_n (by omega), upd_n (by omega), upd_n (by omega), upd_n (by omega), upd_n (by omega), upd_n (by omega), upd_n (by omega), upd_n (by omega), upd_n (by omega)]
              exact hs i (by omega)
        rw [w1, w2, w3, q3, n2, ix3]
        rcases hz with rfl | rfl
        · rw [if_pos rfl, if_pos rfl]
          exact main 0 (Or.inl rfl)
        · rw [if_neg (by decide), if_neg (by decide)]
          exact main 1 (Or.inr rfl)
      · rw [if_neg hlt, if_pos (by omega), xbo_0, ob_s, ob2_s, ite_bI]
        exact ⟨-104, C, D, rfl, rfl, hI'⟩
theorem o_forget : op_forget Inv := by
  intro C D j hj hI
  obtain ⟨T, K, S, mo, n, b, hb, hB, hR, hP, hN, hK⟩ := hI
  obtain ⟨rg, s1, s2, hs, m⟩ := hR
  refine ⟨nI S, xI C 5 0, xI D 8 0, ?_, ?_, T, K, 0, mo, n, b, by omega, hB, ⟨rg, rfl, rfl, ⟨by omega, fun i hi => by omega⟩, m⟩, hP, hN, hK⟩
  · rw [f_X5_forget, f_X2_seenInAll, ob_s, f_X2_clearSeen, nm_s, ob_s, s1]
  · rw [f_X6_forget, nm_s, s2]
def cImg (M : xM) : xM := xI (xI (xI (xI (xI (xA (xA (xA (xA (xA M 8 (xc 5 5 (M.2.2 3) (M.2.2 8))) 9 (xc 9 9 (M.2.2 4) (M.2.2 9))) 10 (xc 8 8 (M.2.2 5) (M.2.2 10))) 11 (xc 8 8 (M.2.2 6) (M.2.2 11))) 12 (xc 8 8 (M.2.2 7) (M.2.2 12))) 9 (M.1 5)) 10 (M.1 6)) 11 (M.1 7)) 12 (M.1 8)) 4 1
def dImg (M : xM) : xM := xI (xI (xI (xI (xI (xA (xA (xA M 8 (xc 20 20 (M.2.2 1) (M.2.2 8))) 9 (xc 15 15 (M.2.2 2) (M.2.2 9))) 10 (xc 24 24 (M.2.2 6) (M.2.2 10))) 11 (M.1 4)) 12 (M.1 5)) 13 (M.1 6)) 14 (M.1 8)) 10 (M.1 7)
def cBck (M : xM) : xM := xI (xI (xI (xI (xA (xA (xA (xA (xA M 3 (xc 5 5 (M.2.2 8) (M.2.2 3))) 4 (xc 9 9 (M.2.2 9) (M.2.2 4))) 5 (xc 8 8 (M.2.2 10) (M.2.2 5))) 6 (xc 8 8 (M.2.2 11) (M.2.2 6))) 7 (xc 8 8 (M.2.2 12) (M.2.2 7))) 5 (M.1 9)) 6 (M.1 10)) 7 (M.1 11)) 8 (M.1 12)
def dBck (M : xM) : xM := xI (xI (xI (xI (xA (xA (xA M 1 (xc 20 20 (M.2.2 8) (M.2.2 1))) 2 (xc 15 15 (M.2.2 9) (M.2.2 2))) 6 (xc 24 24 (M.2.2 10) (M.2.2 6))) 4 (M.1 11)) 5 (M.1 12)) 6 (M.1 13)) 8 (M.1 14)
theorem c_keep (C : xM) : f_X3_keepImage C = some (cImg C) := rfl
theorem c_goon (C : xM) : f_X3_goOnFromImage C = some (cBck C) := rfl
theorem o_image : op_image Inv := by
  intro C D j hj hI
  have hI' := inv_mon C D j hI
  obtain ⟨T, K, S, mo, n, b, hb, hB, hR, hP, hN, hK⟩ := hI
  have h3 := hB.2.2.2.2.2.1
  have h5 := hB.2.2.2.2.1
  rw [f_X5_image, c_stands hB, ob_s, ite_bI, f_X6_image, m_lacks hB, ob_s, ite_bI]
  by_cases hT : 0 < T
  · rw [if_pos (decide_eq_true hT), if_neg (by simp; omega)]
    obtain ⟨rg, s1, s2, hs, m1, m2, m3, m4, m5⟩ := hR
    refine ⟨nI mo, cImg C, dImg D, ?_, ?_, T, K, S, mo, n, b, by omega, hB, ⟨rg, s1, s2, hs, m1, m2, m3, m4, m5⟩, hP, hN, Or.inr ⟨rfl, hN.2, hT, S, mo, ?_, s1, s2, ?_, m1, m2, m3, m4, m5⟩⟩
    · rw [c_keep, ob_s, f_X2_mondaysOver, ob_s]
      exact congrArg (fun z => some (z, cImg C)) m1
    · exact congrArg (fun z => some (z, dImg D)) m2
    · exact RG_congr h5 h3 (fun t ht => xc_lt ht) (fun i hi => xc_lt hi) (fun i hi => xc_lt hi) (fun i hi => xc_lt hi) rg
    · exact RS_congr (fun i hi => xc_lt hi) (fun i hi => xc_lt hi) (fun i hi => xc_lt hi) (fun i hi => xc_lt hi) hs
  · rw [if_neg (by simp; omega), if_pos (by simp; omega)]
    exact ⟨-103, C, D, rfl, rfl, hI'⟩
theorem o_restore : op_restore Inv := by
  intro C D j hj hI
  have hI' := inv_mon C D j hI
  obtain ⟨T, K, S, mo, n, b, hb, hB, hR, hP, hN, hK⟩ := hI
  have h3 := hB.2.2.2.2.2.1
  have h5 := hB.2.2.2.2.1
  rw [f_X5_restore, f_X3_hasImage, f_X6_restore]
  rcases hK with ⟨k1, k2⟩ | ⟨k1, k2, k3, S', mo', rg, s1, s2, hs, m1, m2, m3, m4, m5⟩
  · rw [k1, xbo_0, ob_s, ite_bI, if_neg (by decide), if_neg]
    · exact ⟨-103, C, D, rfl, rfl, hI'⟩
    · rw [hN.2]
      rcases k2 with k2 | ⟨a, ha, k2⟩
      · rw [k2]; exact fun h => nI_m1 (by omega) h.symm
      · rw [k2]
        intro h
        have := nI_inj (by omega) (by omega) h
        omega
  · rw [k1, xbo_1, ob_s, ite_bI, if_pos rfl, if_pos (k2.trans hN.2.symm)]
    refine ⟨nI mo', cBck C, dBck D, ?_, ?_, T, K, S', mo', n, b, by omega, hB, ⟨?_, s1, s2, ?_, m1, m2, m3, m4, m5⟩, hP, hN, Or.inr ⟨k1, k2, k3, S', mo', rg, s1, s2, hs, m1, m2, m3, m4, m5⟩⟩
    · rw [c_goon, ob_s, f_X2_mondaysOver, ob_s]
      exact congrArg (fun z => some (z, cBck C)) m1
    · exact congrArg (fun z => some (z, dBck D)) m2
    · exact RG_congr h5 h3 (fun t ht => xc_lt ht) (fun i hi => xc_lt hi) (fun i hi => xc_lt hi) (fun i hi => xc_lt hi) rg
    · exact RS_congr (fun i hi => xc_lt hi) (fun i hi => xc_lt hi) (fun i hi => xc_lt hi) (fun i hi => xc_lt hi) hs
