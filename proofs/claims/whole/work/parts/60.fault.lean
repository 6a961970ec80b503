/-! ===== the page read: where its first fault is ===== -/
def bh (p n : Nat) : Nat := if p < n then p + 1 else n
theorem semi (pg : Nat → Int32) (n : Nat) : ∃ p, p ≤ n ∧ (∀ i, i < p → pg i ≠ 59) ∧ (p < n → pg p = 59) := by
  induction n with
  | zero => exact ⟨0, Nat.le_refl 0, fun i h => by omega, fun h => by omega⟩
  | succ n ih =>
    obtain ⟨p, h1, h2, h3⟩ := ih
    by_cases e : p < n
    · exact ⟨p, by omega, h2, fun _ => h3 e⟩
    · have : p = n := by omega
      subst this
      by_cases f : pg p = 59
      · exact ⟨p, by omega, h2, fun _ => f⟩
      · refine ⟨p + 1, by omega, fun i hi => ?_, fun h => by omega⟩
        by_cases g : i = p
        · subst g; exact f
        · exact h2 i (by omega)
theorem g_first {M : xM} {n p : Nat} (hn : M.1 1 = nI n) (h36 : n ≤ 36) (hp : p ≤ n) (hlt : ∀ i, i < p → M.2.2 0 i ≠ 59) (hat : p < n → M.2.2 0 p = 59) : f_X1_firstClaimer M = some (nI (bh p n)) := by
  refine for_ix (fun k (_ : Unit) i => f_X1_firstClaimer_l2 k i M) nI n (fun i _ => i ≤ p) _ ?_ ?_ xN () (by rw [xN_v]; omega) (Nat.zero_le _)
  · intro k _ hi
    show f_X1_firstClaimer_l2 (k + 1) (nI n) M = _
    rw [f_X1_firstClaimer_l2, hn, ite_le (by omega) (by omega), if_pos (Nat.le_refl n), bh, if_neg (by omega)]
  · intro k i _ hi hip
    show f_X1_firstClaimer_l2 (k + 1) (nI i) M = _ ∨ ∃ _ : Unit, _ ∧ f_X1_firstClaimer_l2 (k + 1) (nI i) M = f_X1_firstClaimer_l2 k (nI (i + 1)) M
    rw [f_X1_firstClaimer_l2, hn, ite_le (by omega) (by omega), if_neg (by omega), xe_n (by omega) (by omega)]
    by_cases e : i = p
    · subst e
      rw [if_pos (hat hi), nI_1, bh, if_pos hi]
      exact Or.inl rfl
    · rw [if_neg (hlt i (by omega)), nI_1]
      exact Or.inr ⟨(), by omega, rfl⟩
def vk (s : Nat) : Nat := if s = 0 then 10 else if s = 1 then 6 else 5
theorem vk_e {s : Nat} (hs : s < 3) : xe 3 (xT [10, 6, 5]) (nI s) = nI (vk s) ∧ f_X6_mostOf (nI s) = some (nI (vk s) - 1) ∧ vk s ≤ 10 := by
  rcases (show s = 0 ∨ s = 1 ∨ s = 2 by omega) with rfl | rfl | rfl
  · exact ⟨rfl, rfl, by decide⟩
  · exact ⟨rfl, rfl, by decide⟩
  · exact ⟨rfl, rfl, by decide⟩
theorem g_isSign {s : Nat} (hs : s < 3) (z : Int32) : f_X1_isSign (nI s) z = some (bI (isIx (z - 48) (vk s))) := by
  rw [f_X1_isSign, (vk_e hs).1, c_below, ob_s, xbo_bI]
def kdV (z : Int32) : Int32 := if z = 99 then 0 else if z = 119 then 1 else if z = 108 then 2 else if z = 104 then 3 else if z = 110 then 4 else -1
theorem m_kindBy (z : Int32) : f_X6_kindBy z = some (kdV z) := by
  rw [f_X6_kindBy, kdV]
  by_cases h1 : z = 99
  · rw [if_pos h1, if_pos h1]
  by_cases h2 : z = 119
  · rw [if_neg h1, if_neg h1, if_pos h2, if_pos h2]
  by_cases h3 : z = 108
  · rw [if_neg h1, if_neg h1, if_neg h2, if_neg h2, if_pos h3, if_pos h3]
  by_cases h4 : z = 104
  · rw [if_neg h1, if_neg h1, if_neg h2, if_neg h2, if_neg h3, if_neg h3, if_pos h4, if_pos h4]
  by_cases h5 : z = 110
  · rw [if_neg h1, if_neg h1, if_neg h2, if_neg h2, if_neg h3, if_neg h3, if_neg h4, if_neg h4, if_pos h5, if_pos h5]
  · rw [if_neg h1, if_neg h1, if_neg h2, if_neg h2, if_neg h3, if_neg h3, if_neg h4, if_neg h4, if_neg h5, if_neg h5]
theorem kdV_in (z : Int32) : kdV z = -1 ∨ ∃ k, k ≤ 4 ∧ kdV z = nI k := by
  unfold kdV
  split
  · exact Or.inr ⟨0, by omega, rfl⟩
  · split
    · exact Or.inr ⟨1, by omega, rfl⟩
    · split
      · exact Or.inr ⟨2, by omega, rfl⟩
      · split
        · exact Or.inr ⟨3, by omega, rfl⟩
        · split
          · exact Or.inr ⟨4, by omega, rfl⟩
          · exact Or.inl rfl
theorem g_kindOf : ∀ v, v < 127 → f_X1_kindOfLetter (nI v) = some (kdV (nI v)) := by decide +kernel
def gT (k : Nat) (z : Int32) : Bool := if 3 ≤ k % 4 then ((decide (z = 44) && decide (k / 4 + 1 < 5)) || (decide (z = 59) && decide (2 ≤ k / 4 + 1))) else isIx (z - 48) (vk (k % 4))
def gC (k : Nat) (z : Int32) : Bool := if k % 5 = 0 then decide (¬ kdV z = -1) else if 3 < k % 5 then (decide (z = 44) && decide (k / 5 + 1 < 3)) else isIx (z - 48) (vk (k % 5 - 1))
theorem re4 {k : Nat} (hk : k < 2 ^ 31) : nI k - nI k / 4 * 4 = nI (k % 4) := pk_rem (d := 4) hk (by omega) (by omega)
theorem re5 {k : Nat} (hk : k < 2 ^ 31) : nI k - nI k / 5 * 5 = nI (k % 5) := pk_rem (d := 5) hk (by omega) (by omega)
theorem di4 {k : Nat} (hk : k < 2 ^ 31) : nI k / 4 = nI (k / 4) := pk_div (d := 4) hk (by omega) (by omega)
theorem di5 {k : Nat} (hk : k < 2 ^ 31) : nI k / 5 = nI (k / 5) := pk_div (d := 5) hk (by omega) (by omega)
theorem g_goodT {k : Nat} (hk : k < 40) (z : Int32) : f_X1_isGoodAmongThings (nI k) z = some (bI (gT k z)) := by
  have l1 : (if (nI (k / 4) + 1 : Int32) < 5 then (xbo 1) else f_X1_isGoodAmongThings_b32 z (nI (k / 4))) = if k / 4 + 1 < 5 then xbo 1 else f_X1_isGoodAmongThings_b32 z (nI (k / 4)) := by
    rw [nI_1, n5, ite_lt (by omega) (by omega)]
  have l2 : f_X1_isGoodAmongThings_b32 z (nI (k / 4)) = some (bI (decide (z = 59) && decide (2 ≤ k / 4 + 1))) := by
    rw [f_X1_isGoodAmongThings_b32, nI_1, n2, ite_lt (by omega) (by omega), xbo_0, xbo_1]
    by_cases e : z = 59
    · rw [if_pos e]
      by_cases f : k / 4 + 1 < 2
      · rw [if_pos f, decide_eq_false (show ¬ 2 ≤ k / 4 + 1 by omega), Bool.and_false]
      · rw [if_neg f, decide_eq_true e, decide_eq_true (show 2 ≤ k / 4 + 1 by omega)]; rfl
    · rw [if_neg e, decide_eq_false e]; rfl
  rw [f_X1_isGoodAmongThings, re4 (by omega), di4 (by omega), l1, l2, n3, ite_le (by omega) (by omega), gT]
  by_cases h : 3 ≤ k % 4
  · rw [if_pos h, if_pos h]
    by_cases e : z = 44
    · rw [if_pos e]
      by_cases f : k / 4 + 1 < 5
      · rw [if_pos f, xbo_1, decide_eq_true e, decide_eq_true f]; rfl
      · rw [if_neg f, decide_eq_false f, Bool.and_false, Bool.false_or]
    · rw [if_neg e, decide_eq_false e, Bool.false_and, Bool.false_or]
  · rw [if_neg h, if_neg h, g_isSign (by omega), ob_s, xbo_bI]
theorem g_goodC {k v : Nat} (hk : k < 40) (hv : v < 127) : f_X1_isGoodAmongClaimers (nI k) (nI v) = some (bI (gC k (nI v))) := by
  rw [f_X1_isGoodAmongClaimers, re5 (by omega), di5 (by omega), n0, ite_eq (by omega) (by omega), g_kindOf v hv, ob_s, gC]
  by_cases h : k % 5 = 0
  · rw [if_pos h, if_pos h, ← n0, xbo_0, xbo_1]
    by_cases e : kdV (nI v) = -1
    · rw [if_pos e, decide_eq_false (fun q => q e)]
    · rw [if_neg e, decide_eq_true e]
  rw [if_neg h, if_neg h, ← n0, n3, ite_lt (by omega) (by omega)]
  by_cases h3 : 3 < k % 5
  · rw [if_pos h3, if_pos h3, nI_1, ite_le (by omega) (by omega), xbo_0, xbo_1]
    by_cases e : nI v = 44
    · rw [if_pos e, decide_eq_true e]
      by_cases f : 3 ≤ k / 5 + 1
      · rw [if_pos f, decide_eq_false (show ¬ k / 5 + 1 < 3 by omega)]; rfl
      · rw [if_neg f, decide_eq_true (show k / 5 + 1 < 3 by omega)]; rfl
    · rw [if_neg e, decide_eq_false e]; rfl
  · rw [if_neg h3, if_neg h3, n1, pk_sub (by omega), g_isSign (by omega), ob_s, xbo_bI]
theorem sg59 {s : Nat} (hs : s < 3) : isIx ((59 : Int32) - 48) (vk s) = false := by
  rcases (show s = 0 ∨ s = 1 ∨ s = 2 by omega) with rfl | rfl | rfl <;> decide
section FAULT
variable {M : xM} {k : Nat} {z : Int32}
theorem m_goodT (hk : k < 36) (hz : M.2.2 0 k = z) (he : M.1 1 = -1) : f_X6_isGood (nI k) M = some (bI (gT k z), if gT k z = true ∧ z = 59 then xI M 1 (nI k) else M) := by
  rw [f_X6_isGood, xld_n hk (by omega), ob_s, hz, if_pos he, re4 (by omega), n3, ite_le (by omega) (by omega)]
  have hb : f_X6_isGood_b58 (nI k) z M = some (if z = 44 then (if 19 ≤ k then bI false else bI true) else bI false, M) := by
    rw [f_X6_isGood_b58, show (19 : Int32) = nI 19 from rfl, ite_le (by omega) (by omega), xbo_0, xbo_1, ob_s, ob_s]
    by_cases e : z = 44
    · rw [if_pos e, if_pos e]
      by_cases f : 19 ≤ k
      · rw [if_pos f, if_pos f]
      · rw [if_neg f, if_neg f]
    · rw [if_neg e, if_neg e]
  by_cases h : 3 ≤ k % 4
  · rw [if_pos h]
    by_cases e : z = 59
    · rw [if_pos e, show (6 : Int32) = nI 6 from rfl, ite_le (by omega) (by omega)]
      by_cases f : k ≤ 6
      · have g : gT k z = false := by
          rw [gT, if_pos h, e]
          have : ¬ 2 ≤ k / 4 + 1 := by omega
          simp [this]
        rw [if_pos f, hb, g, if_neg (by rw [e]; decide), if_neg (by simp)]
      · have g : gT k z = true := by
          rw [gT, if_pos h, e]
          have : 2 ≤ k / 4 + 1 := by omega
          simp [this]
        rw [if_neg f, nm_s, xbo_1, ob_s, g, if_pos ⟨rfl, e⟩]
    · rw [if_neg e, hb, if_neg (fun q : gT k z = true ∧ z = 59 => e q.2)]
      congr 2
      rw [gT, if_pos h]
      by_cases f : z = 44
      · rw [if_pos f, decide_eq_true f, decide_eq_false e]
        by_cases q : 19 ≤ k
        · rw [if_pos q, decide_eq_false (show ¬ k / 4 + 1 < 5 by omega)]; rfl
        · rw [if_neg q, decide_eq_true (show k / 4 + 1 < 5 by omega)]; rfl
      · rw [if_neg f, decide_eq_false f, decide_eq_false e]; rfl
  · have v := vk_e (s := k % 4) (by omega)
    rw [if_neg h, v.2.1, ob_s, m_ix _ (by omega), ob_s, xbo_bI, ob_s, gT, if_neg h, if_neg]
    rintro ⟨q1, q2⟩
    rw [q2, sg59 (by omega)] at q1
    cases q1
theorem m_goodC {p : Nat} (hk : k < 36) (hz : M.2.2 0 k = z) (he : M.1 1 = nI p) (hp : p < k) : f_X6_isGood (nI k) M = some (bI (gC (k - p - 1) z), M) := by
  have e1 : nI k - nI p - 1 = nI (k - p - 1) := by rw [pk_sub (by omega), n1, pk_sub (by omega)]
  rw [f_X6_isGood, xld_n hk (by omega), ob_s, hz, he, if_neg (nI_m1 (by omega)), e1, re5 (by omega), n0, ite_eq (by omega) (by omega), m_kindBy, ob_s, gC]
  by_cases h : (k - p - 1) % 5 = 0
  · rw [if_pos h, if_pos h, ← n0, xbo_0, xbo_1, ob_s, ob_s]
    by_cases e : kdV z = -1
    · rw [if_pos e, decide_eq_false (fun q => q e)]
    · rw [if_neg e, decide_eq_true e]
  rw [if_neg h, if_neg h, n4, ite_eq (by omega) (by omega), ← n0]
  by_cases h3 : (k - p - 1) % 5 = 4
  · rw [if_pos h3, if_pos (show 3 < (k - p - 1) % 5 by omega), show (14 : Int32) = nI 14 from rfl, ite_le (by omega) (by omega), xbo_0, xbo_1, ob_s, ob_s]
    by_cases e : z = 44
    · rw [if_pos e, decide_eq_true e]
      by_cases f : 14 ≤ k - p - 1
      · rw [if_pos f, decide_eq_false (show ¬ (k - p - 1) / 5 + 1 < 3 by omega)]; rfl
      · rw [if_neg f, decide_eq_true (show (k - p - 1) / 5 + 1 < 3 by omega)]; rfl
    · rw [if_neg e, decide_eq_false e]; rfl
  · have v := vk_e (s := (k - p - 1) % 5 - 1) (by omega)
    rw [if_neg h3, if_neg (show ¬ 3 < (k - p - 1) % 5 by omega), n1, pk_sub (by omega), v.2.1, ob_s, m_ix _ (by omega), ob_s, xbo_bI, ob_s]
end FAULT
def gd (pg : Nat → Int32) (p n i : Nat) : Bool := if i < bh p n then gT i (pg i) else gC (i - bh p n) (pg i)
def eA (p k : Nat) : Int32 := if p < k then nI p else -1
theorem fault_run {C D : xM} {n p : Nat} (hn : C.1 1 = nI n) (hm : D.1 0 = nI n) (h36 : n ≤ 36) (hpg : ∀ i, i < n → C.2.2 0 i = D.2.2 0 i ∧ ∃ v, 1 ≤ v ∧ v ≤ 126 ∧ C.2.2 0 i = nI v) (hp : p ≤ n) (hlt : ∀ i, i < p → C.2.2 0 i ≠ 59) (hat : p < n → C.2.2 0 p = 59) :
    ∀ (d k nc nd : Nat), k + d = n → d < nc → d < nd → (∀ i, i < k → gd (C.2.2 0) p n i = true) → ∃ q e', q ≤ n ∧ f_X1_firstFault_l7 nc (nI (bh p n)) (nI k) C = some (nI q) ∧ f_X6_faultOf_l7 nd (nI k) (xI D 1 (eA p k)) = some (nI q, xI D 1 e') ∧ (q = n → e' = eA p n ∧ ∀ i, i < n → gd (C.2.2 0) p n i = true) := by
  intro d
  induction d with
  | zero =>
    intro k nc nd hk h1 h2 hg
    obtain ⟨nc, rfl⟩ : ∃ j, nc = j + 1 := ⟨nc - 1, by omega⟩
    obtain ⟨nd, rfl⟩ : ∃ j, nd = j + 1 := ⟨nd - 1, by omega⟩
    have : k = n := by omega
    subst this
    refine ⟨k, eA p k, Nat.le_refl k, ?_, ?_, fun _ => ⟨rfl, hg⟩⟩
    · rw [f_X1_firstFault_l7, hn, ite_le (by omega) (by omega), if_pos (Nat.le_refl k)]
    · have e : (xI D 1 (eA p k)).1 0 = nI k := hm
      rw [f_X6_faultOf_l7, e, ite_le (by omega) (by omega), if_pos (Nat.le_refl k)]
  | succ d ih =>
    intro k nc nd hk h1 h2 hg
    obtain ⟨nc, rfl⟩ : ∃ j, nc = j + 1 := ⟨nc - 1, by omega⟩
    obtain ⟨nd, rfl⟩ : ∃ j, nd = j + 1 := ⟨nd - 1, by omega⟩
    obtain ⟨pe, v, v1, v2, ev⟩ := hpg k (by omega)
    have hb : bh p n ≤ n := by unfold bh; split <;> omega
    -- class
    have hc : f_X1_firstFault_l7 (nc + 1) (nI (bh p n)) (nI k) C = if gd (C.2.2 0) p n k = true then f_X1_firstFault_l7 nc (nI (bh p n)) (nI (k + 1)) C else some (nI k) := by
      rw [f_X1_firstFault_l7, hn, ite_le (by omega) (by omega), if_neg (by omega), ite_le (by omega) (by omega), xe_n (by omega) (by omega), gd]
      by_cases e : k < bh p n
      · rw [if_neg (by omega), if_pos e, g_goodT (by omega), ob_s, f_X1_firstFault_b44, ite_bI, nI_1]
      · rw [if_pos (by omega), if_neg e, pk_sub (by omega), ev, g_goodC (by omega) (by omega), ob_s, f_X1_firstFault_b44, ite_bI, nI_1]
    -- reference
    have hd : f_X6_faultOf_l7 (nd + 1) (nI k) (xI D 1 (eA p k)) = if gd (C.2.2 0) p n k = true then f_X6_faultOf_l7 nd (nI (k + 1)) (xI D 1 (eA p (k + 1))) else some (nI k, xI D 1 (eA p k)) := by
      have e0 : (xI D 1 (eA p k)).1 0 = nI n := hm
      have e1 : (xI D 1 (eA p k)).2.2 0 k = C.2.2 0 k := pe.symm
      have e2 : (xI D 1 (eA p k)).1 1 = eA p k := rfl
      rw [f_X6_faultOf_l7, e0, ite_le (by omega) (by omega), if_neg (by omega), gd]
      by_cases e : p < k
      · have q : bh p n = p + 1 := by rw [bh, if_pos (by omega)]
        have r := m_goodC (M := xI D 1 (eA p k)) (k := k) (p := p) (by omega) e1 (by rw [e2, eA, if_pos e]) e
        have ee : eA p k = eA p (k + 1) := by rw [eA, eA, if_pos e, if_pos (by omega)]
        rw [r, ob2_s, ite_bI, nI_1, q, if_neg (show ¬ k < p + 1 by omega), show k - (p + 1) = k - p - 1 by omega, ee]
      · have q : k < bh p n := by unfold bh; split <;> omega
        have r := m_goodT (M := xI D 1 (eA p k)) (k := k) (by omega) e1 (by rw [e2, eA, if_neg e])
        rw [r, ob2_s, ite_bI, nI_1, if_pos q]
        by_cases g : gT k (C.2.2 0 k) = true
        · rw [if_pos g, if_pos g]
          by_cases f : C.2.2 0 k = 59
          · have hkp : k = p := by
              apply Classical.byContradiction
              intro hne
              exact hlt k (by omega) f
            rw [if_pos ⟨g, f⟩]
            have : xI (xI D 1 (eA p k)) 1 (nI k) = xI D 1 (eA p (k + 1)) := by
              rw [show eA p (k + 1) = nI k by rw [eA, if_pos (by omega), hkp]]
              unfold xI
              show (va_up (va_up D.1 1 (eA p k)) 1 (nI k), D.2) = _
              rw [bx_uu]
            rw [this]
          · have hkp : k ≠ p := fun h => f (by rw [h]; exact hat (by omega))
            rw [if_neg (fun h => f h.2), show eA p k = eA p (k + 1) by rw [eA, eA, if_neg e, if_neg (by omega)]]
        · rw [if_neg g, if_neg g, if_neg (fun h => g h.1)]
    rw [hc, hd]
    by_cases g : gd (C.2.2 0) p n k = true
    · rw [if_pos g, if_pos g]
      exact ih (k + 1) nc nd (by omega) (by omega) (by omega) (fun i hi => by
        by_cases e : i = k
        · subst e; exact g
        · exact hg i (by omega))
    · rw [if_neg g, if_neg g]
      exact ⟨k, eA p k, by omega, rfl, rfl, fun h => by omega⟩
theorem inv_I1 {C D : xM} {j : Nat} (h : Inv C D j) (e : Int32) : Inv C (xI D 1 e) j := h
theorem fault_both {C D : xM} {n : Nat} (hP : IvP n C D) : ∃ p q e', p ≤ n ∧ (∀ i, i < p → C.2.2 0 i ≠ 59) ∧ (p < n → C.2.2 0 p = 59) ∧ q ≤ n ∧ f_X1_firstClaimer C = some (nI (bh p n)) ∧ f_X1_firstFault C = some (nI q) ∧ f_X6_faultOf D = some (nI q, xI D 1 e') ∧ (q = n → e' = eA p n ∧ ∀ i, i < n → gd (C.2.2 0) p n i = true) := by
  obtain ⟨hn, hm, h36, hpg⟩ := hP
  obtain ⟨p, hp, hlt, hat⟩ := semi (C.2.2 0) n
  have hf := g_first hn h36 hp hlt hat
  obtain ⟨q, e', h1, h2, h3, h4⟩ := fault_run hn hm h36 hpg hp hlt hat n 0 xN xN (by omega) (by rw [xN_v]; omega) (by rw [xN_v]; omega) (fun i hi => by omega)
  refine ⟨p, q, e', hp, hlt, hat, h1, hf, ?_, ?_, h4⟩
  · rw [f_X1_firstFault, hf, ob_s]; exact h2
  · rw [f_X6_faultOf, nm_s]
    have : eA p 0 = -1 := by rw [eA, if_neg (by omega)]
    rw [this] at h3
    exact h3
theorem o_fault : op_fault Inv := by
  intro C D j hj hI
  have hI' := inv_mon C D j hI
  obtain ⟨T, K, S, mo, n, b, hb, hB, hR, hP, hN, hK⟩ := hI
  obtain ⟨p, q, e', h1, h2, h3, h4, h5, h6, h7, h8⟩ := fault_both hP
  exact ⟨nI q, xI D 1 e', by rw [f_X5_fault, h6, ob_s], by rw [f_X6_fault, h7, ob2_s], inv_I1 hI' e'⟩
