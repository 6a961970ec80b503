/-! ===== the page read as a tent ===== -/
theorem xA_c {M : xM} {i j : Nat} {f g h : Nat → Int32} (hij : i ≠ j) : xA (xA (xA M i f) j g) i h = xA (xA M i h) j g := by
  unfold xA
  show (M.1, M.2.1, va_up (va_up (va_up M.2.2 i f) j g) i h) = (M.1, M.2.1, va_up (va_up M.2.2 i h) j g)
  have : va_up (va_up (va_up M.2.2 i f) j g) i h = va_up (va_up M.2.2 i h) j g := by
    funext k
    unfold va_up
    by_cases e : k = i
    · have : ¬ k = j := fun q => hij (e.symm.trans q)
      rw [if_pos e, if_neg this, if_pos e]
    · by_cases f : k = j
      · rw [if_neg e, if_pos f, if_pos f]
      · rw [if_neg e, if_neg f, if_neg e, if_neg f, if_neg e]
  rw [this]
theorem xA_id {M : xM} {i : Nat} : xA M i (M.2.2 i) = M := by
  unfold xA
  have : va_up M.2.2 i (M.2.2 i) = M.2.2 := by
    funext j
    unfold va_up
    by_cases e : j = i
    · rw [if_pos e, e]
    · rw [if_neg e]
  rw [this]
/-- what a page is that is a tent -/
theorem tent_form {pg : Nat → Int32} {n p : Nat} (h36 : n ≤ 36) (hp : p < n) (hlt : ∀ i, i < p → pg i ≠ 59) (hat : pg p = 59) (hm : (n - p) % 5 = 0) (hg : ∀ i, i < n → gd pg p n i = true) :
    ∃ T K, p + 1 = 4 * T ∧ n - p = 5 * K ∧ 2 ≤ T ∧ T ≤ 5 ∧ 1 ≤ K ∧ K ≤ 3 ∧ (∀ t s, t < T → s < 3 → ∃ v, v ≤ 9 ∧ pg (4 * t + s) - 48 = nI v) ∧ (∀ c, c < K → ∃ k, k ≤ 4 ∧ kdV (pg (p + 1 + 5 * c)) = nI k) ∧ (∀ c s, c < K → s < 3 → ∃ v, v ≤ 9 ∧ pg (p + 1 + 5 * c + 1 + s) - 48 = nI v) := by
  have hb : bh p n = p + 1 := by rw [bh, if_pos hp]
  have g1 := hg p hp
  rw [gd, hb, if_pos (by omega), hat, gT] at g1
  have h3 : 3 ≤ p % 4 ∧ 2 ≤ p / 4 + 1 := by
    by_cases e : 3 ≤ p % 4
    · rw [if_pos e] at g1
      refine ⟨e, ?_⟩
      have e1 : decide ((59 : Int32) = 44) = false := by decide
      rw [e1, Bool.false_and, Bool.false_or] at g1
      simp at g1
      omega
    · rw [if_neg e, sg59 (by omega)] at g1
      cases g1
  have h19 : p ≤ 19 := by
    apply Classical.byContradiction
    intro hc
    have g2 := hg 19 (by omega)
    rw [gd, hb, if_pos (by omega), gT, if_pos (by decide)] at g2
    have e1 : decide (19 / 4 + 1 < 5) = false := by decide
    rw [e1, Bool.and_false, Bool.false_or] at g2
    simp at g2
    exact hlt 19 (by omega) g2
  have hK : (n - p) / 5 ≤ 3 := by
    apply Classical.byContradiction
    intro hc
    have g2 := hg (p + 15) (by omega)
    rw [gd, hb, if_neg (by omega), show p + 15 - (p + 1) = 14 by omega, gC, if_neg (by decide), if_pos (by decide)] at g2
    have e1 : decide (14 / 5 + 1 < 3) = false := by decide
    rw [e1, Bool.and_false] at g2
    cases g2
  refine ⟨(p + 1) / 4, (n - p) / 5, by omega, by omega, by omega, by omega, by omega, hK, fun t s ht hs => ?_, fun c hc => ?_, fun c s hc hs => ?_⟩
  · have g2 := hg (4 * t + s) (by omega)
    have e4 : (4 * t + s) % 4 = s := by omega
    rw [gd, hb, if_pos (by omega), gT, e4, if_neg (by omega)] at g2
    have hv := (vk_e hs).2.2
    obtain ⟨v, h1, h2⟩ := isIx_of (by omega) g2
    exact ⟨v, by omega, h2⟩
  · have g2 := hg (p + 1 + 5 * c) (by omega)
    have e5 : (p + 1 + 5 * c - (p + 1)) % 5 = 0 := by omega
    rw [gd, hb, if_neg (by omega), gC, if_pos e5] at g2
    rcases kdV_in (pg (p + 1 + 5 * c)) with h | h
    · simp [h] at g2
    · exact h
  · have g2 := hg (p + 1 + 5 * c + 1 + s) (by omega)
    have e5 : p + 1 + 5 * c + 1 + s - (p + 1) = 5 * c + (s + 1) := by omega
    have e6 : (5 * c + (s + 1)) % 5 = s + 1 := by omega
    rw [gd, hb, if_neg (by omega), e5, gC, e6, if_neg (by omega), if_neg (by omega), show s + 1 - 1 = s by omega] at g2
    have hv := (vk_e hs).2.2
    obtain ⟨v, h1, h2⟩ := isIx_of (by omega) g2
    exact ⟨v, by omega, h2⟩
def vS (pg : Nat → Int32) (k : Nat) : Int32 := pg (k / 3 * 4 + k % 3) - 48
def vK (pg : Nat → Int32) (p : Nat) (c : Nat) : Int32 := kdV (pg (p + 1 + 5 * c))
def vM (pg : Nat → Int32) (p : Nat) (k : Nat) : Int32 := pg (p + 1 + 5 * (k / 3) + 1 + k % 3) - 48
def vL (pg : Nat → Int32) (k : Nat) : Int32 := if k % 4 = 3 then -1 else pg k - 48
def vR (pg : Nat → Int32) (p : Nat) (k : Nat) : Int32 := if k % 5 = 3 then kdV (pg (p + 1 + 5 * (k / 5))) else if k % 5 = 4 then -1 else pg (p + 1 + 5 * (k / 5) + 1 + k % 5) - 48
theorem xcn_in {i k : Nat} {f g : Nat → Int32} (h : k < i) : xcn i f g k = f k := if_pos h
theorem xcn_out {i k : Nat} {f g : Nat → Int32} (h : ¬ k < i) : xcn i f g k = g k := if_neg h
theorem c_things {M : xM} {pg : Nat → Int32} {T : Nat} (hpg : M.2.2 0 = pg) (hT : M.1 2 = nI T) (h5 : T ≤ 5) : f_X3_readFrom_l30 xN 0 M = f_X3_readFrom_l77 xN 0 (xA M 1 (xcn (T * 3) (vS pg) (M.2.2 1))) := by
  have st : ∀ (k : Int32 → xM → Option xM) (n t s : Nat) (g : Nat → Int32), t < 5 → s < 3 → f_X3_readFrom_l40 k (n + 1) (nI t) (nI s) (xA M 1 g) = f_X3_readFrom_l40 k n (nI t) (nI (s + 1)) (xA M 1 (upd g (t * 3 + s) (vS pg (t * 3 + s)))) := by
    intro k n t s g ht hs
    have e : (xA M 1 g).2.2 0 = pg := hpg
    have e1 : (xA M 1 g).2.2 1 = g := rfl
    have e2 : vS pg (t * 3 + s) = pg (t * 4 + s) - 48 := by rw [vS, show (t * 3 + s) / 3 = t by omega, show (t * 3 + s) % 3 = s by omega]
    rw [f_X3_readFrom_l40, n3, ite_le (by omega) (by omega), if_neg (by omega), f_X1_thingSign, e, n4, pk_mul, nI_add, xe_n (by omega) (by omega), ob_s, nm_s, e1, pk_mul, nI_add, xp_n (by omega) (by omega), xA_A, nI_1, e2]
  have ex : ∀ (k : Int32 → xM → Option xM) (n t : Nat) (E : xM), f_X3_readFrom_l40 k (n + 1) (nI t) (nI 3) E = k (nI (t + 1)) E := by
    intro k n t E
    rw [f_X3_readFrom_l40, n3, ite_le (by omega) (by omega), if_pos (by omega), nI_1]
  have b : f_X3_readFrom_l30 xN 0 (xA M 1 (M.2.2 1)) = f_X3_readFrom_l77 xN 0 (xA M 1 (xcn (T * 3) (vS pg) (M.2.2 1))) := by
    refine for_ix (fun n (a : xM) i => f_X3_readFrom_l30 n i a) nI T (fun i a => a = xA M 1 (xcn (i * 3) (vS pg) (M.2.2 1))) _ ?_ ?_ xN _ (by rw [xN_v]; omega) (by rw [Nat.zero_mul, xcn_0])
    · rintro n a rfl
      show f_X3_readFrom_l30 (n + 1) (nI T) (xA M 1 (xcn (T * 3) (vS pg) (M.2.2 1))) = _
      rw [f_X3_readFrom_l30, xA_1, hT, ite_le (by omega) (by omega), if_pos (Nat.le_refl T)]
    · rintro n i a hi rfl
      refine Or.inr ⟨_, rfl, ?_⟩
      show f_X3_readFrom_l30 (n + 1) (nI i) (xA M 1 (xcn (i * 3) (vS pg) (M.2.2 1))) = f_X3_readFrom_l30 n (nI (i + 1)) (xA M 1 (xcn ((i + 1) * 3) (vS pg) (M.2.2 1)))
      rw [f_X3_readFrom_l30, xA_1, hT, ite_le (by omega) (by omega), if_neg (by omega), show xN = 396 + 1 + 1 + 1 + 1 from rfl, n0, st _ _ i 0 _ (by omega) (by omega), st _ _ i 1 _ (by omega) (by omega), st _ _ i 2 _ (by omega) (by omega), ex]
      rw [show i * 3 + 0 = i * 3 from rfl, xcn_s, xcn_s, xcn_s, show i * 3 + 1 + 1 + 1 = (i + 1) * 3 by omega]
  rw [xA_id] at b
  exact b
theorem c_claimers {M : xM} {pg : Nat → Int32} {n p K : Nat} (hn : M.1 1 = nI n) (hpg : M.2.2 0 = pg) (h36 : n ≤ 36) (hp : p < n) (hlt : ∀ i, i < p → pg i ≠ 59) (hat : pg p = 59) (hv : ∀ i, i < n → ∃ v, v < 127 ∧ pg i = nI v) (hK : M.1 3 = nI K) (h3 : K ≤ 3) (hnK : n - p = 5 * K) : f_X3_readFrom_l77 xN 0 M = some (xA (xA M 2 (xcn K (vK pg p) (M.2.2 2))) 4 (xcn (K * 3) (vM pg p) (M.2.2 4))) := by
  have hb : bh p n = p + 1 := by rw [bh, if_pos hp]
  have fc : ∀ g2 g4 : Nat → Int32, f_X1_firstClaimer (xA (xA M 2 g2) 4 g4) = some (nI (p + 1)) := by
    intro g2 g4
    rw [← hb]
    refine g_first (M := xA (xA M 2 g2) 4 g4) hn h36 (by omega) (fun i hi => ?_) (fun _ => ?_)
    · show M.2.2 0 i ≠ 59
      rw [hpg]; exact hlt i hi
    · show M.2.2 0 p = 59
      rw [hpg]; exact hat
  have st : ∀ (k : Int32 → xM → Option xM) (j c s : Nat) (g2 g4 : Nat → Int32), c < K → s < 3 → f_X3_readFrom_l100 k (j + 1) (nI c) (nI s) (xA (xA M 2 g2) 4 g4) = f_X3_readFrom_l100 k j (nI c) (nI (s + 1)) (xA (xA M 2 g2) 4 (upd g4 (c * 3 + s) (vM pg p (c * 3 + s)))) := by
    intro k j c s g2 g4 hc hs
    have e : (xA (xA M 2 g2) 4 g4).2.2 0 = pg := hpg
    have e1 : (xA (xA M 2 g2) 4 g4).2.2 4 = g4 := rfl
    have e2 : vM pg p (c * 3 + s) = pg (p + 1 + c * 5 + 1 + s) - 48 := by rw [vM, show (c * 3 + s) / 3 = c by omega, show (c * 3 + s) % 3 = s by omega, Nat.mul_comm 5 c]
    rw [f_X3_readFrom_l100, n3, ite_le (by omega) (by omega), if_neg (by omega), f_X1_claimerSign, fc, ob_s, e, n5, pk_mul, nI_add, nI_1, nI_add, xe_n (by omega) (by omega), ob_s, f_X2_setMemory, nm_s, ob_s, e1, n3, pk_mul, nI_add, xp_n (by omega) (by omega), xA_A, e2, nI_1]
  have ex : ∀ (k : Int32 → xM → Option xM) (j c : Nat) (E : xM), f_X3_readFrom_l100 k (j + 1) (nI c) (nI 3) E = k (nI (c + 1)) E := by
    intro k j c E
    rw [f_X3_readFrom_l100, n3, ite_le (by omega) (by omega), if_pos (by omega), nI_1]
  have b : f_X3_readFrom_l77 xN 0 (xA (xA M 2 (M.2.2 2)) 4 (M.2.2 4)) = some (xA (xA M 2 (xcn K (vK pg p) (M.2.2 2))) 4 (xcn (K * 3) (vM pg p) (M.2.2 4))) := by
    refine for_ix (fun j (a : xM) i => f_X3_readFrom_l77 j i a) nI K (fun i a => a = xA (xA M 2 (xcn i (vK pg p) (M.2.2 2))) 4 (xcn (i * 3) (vM pg p) (M.2.2 4))) _ ?_ ?_ xN _ (by rw [xN_v]; omega) (by rw [Nat.zero_mul, xcn_0, xcn_0])
    · rintro j a rfl
      show f_X3_readFrom_l77 (j + 1) (nI K) (xA (xA M 2 (xcn K (vK pg p) (M.2.2 2))) 4 (xcn (K * 3) (vM pg p) (M.2.2 4))) = _
      rw [f_X3_readFrom_l77, xA_1, xA_1, hK, ite_le (by omega) (by omega), if_pos (Nat.le_refl K)]
    · rintro j i a hi rfl
      refine Or.inr ⟨_, rfl, ?_⟩
      show f_X3_readFrom_l77 (j + 1) (nI i) (xA (xA M 2 (xcn i (vK pg p) (M.2.2 2))) 4 (xcn (i * 3) (vM pg p) (M.2.2 4))) = f_X3_readFrom_l77 j (nI (i + 1)) (xA (xA M 2 (xcn (i + 1) (vK pg p) (M.2.2 2))) 4 (xcn ((i + 1) * 3) (vM pg p) (M.2.2 4)))
      have e : (xA (xA M 2 (xcn i (vK pg p) (M.2.2 2))) 4 (xcn (i * 3) (vM pg p) (M.2.2 4))).2.2 0 = pg := hpg
      have e1 : (xA (xA M 2 (xcn i (vK pg p) (M.2.2 2))) 4 (xcn (i * 3) (vM pg p) (M.2.2 4))).2.2 2 = xcn i (vK pg p) (M.2.2 2) := rfl
      obtain ⟨v, hv1, hv2⟩ := hv (p + 1 + i * 5) (by omega)
      have e2 : kdV (nI v) = vK pg p i := by rw [vK, Nat.mul_comm 5 i, hv2]
      rw [f_X3_readFrom_l77, xA_1, xA_1, hK, ite_le (by omega) (by omega), if_neg (by omega), f_X1_claimerKind, fc, ob_s, e, n5, pk_mul, nI_add, xe_n (by omega) (by omega), hv2, g_kindOf v hv1, ob_s, ob_s, nm_s, e1, xp_n (by omega) (by omega), xA_c (by omega), e2, xcn_s, show xN = 396 + 1 + 1 + 1 + 1 from rfl, n0, st _ _ i 0 _ _ hi (by omega), st _ _ i 1 _ _ hi (by omega), st _ _ i 2 _ _ hi (by omega), ex]
      rw [show i * 3 + 0 = i * 3 from rfl, xcn_s, xcn_s, xcn_s, show i * 3 + 1 + 1 + 1 = (i + 1) * 3 by omega]
  have e4 : xA (xA M 2 (M.2.2 2)) 4 (M.2.2 4) = M := by rw [xA_id, xA_id]
  rw [e4] at b
  exact b
theorem g_begin (M : xM) : f_X2_begin M = some (xI (xI (xI (xI (xA M 3 (allB (M.2.2 3))) 5 0) 6 0) 7 0) 8 0) := by
  rw [f_X2_begin, g_takeAllBack, ob_s]; rfl
/-! the reference -/
theorem m_things {M : xM} {pg : Nat → Int32} {T n p : Nat} (hpg : ∀ i, i < n → M.2.2 0 i = pg i) (h36 : n ≤ 36) (hTp : p + 1 = 4 * T) (hp : p < n) (hT : M.1 2 = nI T) (h5 : T ≤ 5) : f_X6_tent_l50 xN 0 M = f_X6_tent_l128 xN 0 (xI (xA M 1 (xcn (4 * T) (vL pg) (M.2.2 1))) 3 ((M.1 0 - M.1 1) / 5)) := by
  have st : ∀ (k : Int32 → xM → Option (Int32 × xM)) (j t s : Nat) (g : Nat → Int32), t < T → s < 3 → f_X6_tent_l60 k (j + 1) (nI t) (nI s) (xA M 1 g) = f_X6_tent_l60 k j (nI t) (nI (s + 1)) (xA M 1 (upd g (4 * t + s) (vL pg (4 * t + s)))) := by
    intro k j t s g ht hs
    have e : (xA M 1 g).2.2 0 (4 * t + s) = pg (4 * t + s) := hpg _ (by omega)
    have e1 : (xA M 1 g).2.2 1 = g := rfl
    have e2 : vL pg (4 * t + s) = pg (4 * t + s) - 48 := by rw [vL, if_neg (by omega)]
    rw [f_X6_tent_l60, n3, ite_le (by omega) (by omega), if_neg (by omega), ix4, xld_n (by omega) (by omega), ob_s, e, e1, xst_n (by omega) (by omega), ob_s, nm_s, xA_A, nI_1, e2]
  have ex : ∀ (k : Int32 → xM → Option (Int32 × xM)) (j t : Nat) (g : Nat → Int32), t < T → f_X6_tent_l60 k (j + 1) (nI t) (nI 3) (xA M 1 g) = k (nI (t + 1)) (xA M 1 (upd g (4 * t + 3) (vL pg (4 * t + 3)))) := by
    intro k j t g ht
    have e1 : (xA M 1 g).2.2 1 = g := rfl
    have e2 : vL pg (4 * t + 3) = -1 := by rw [vL, if_pos (by omega)]
    rw [f_X6_tent_l60, n3, ite_le (by omega) (by omega), if_pos (by omega), ix4, e1, xst_n (by omega) (by omega), ob_s, nm_s, xA_A, nI_1, e2]
  have b : f_X6_tent_l50 xN 0 (xA M 1 (M.2.2 1)) = f_X6_tent_l128 xN 0 (xI (xA M 1 (xcn (4 * T) (vL pg) (M.2.2 1))) 3 ((M.1 0 - M.1 1) / 5)) := by
    refine for_ix (fun j (a : xM) i => f_X6_tent_l50 j i a) nI T (fun i a => a = xA M 1 (xcn (4 * i) (vL pg) (M.2.2 1))) _ ?_ ?_ xN _ (by rw [xN_v]; omega) (by rw [Nat.mul_zero, xcn_0])
    · rintro j a rfl
      show f_X6_tent_l50 (j + 1) (nI T) (xA M 1 (xcn (4 * T) (vL pg) (M.2.2 1))) = _
      rw [f_X6_tent_l50, xA_1, hT, ite_le (by omega) (by omega), if_pos (Nat.le_refl T), nm_s]
    · rintro j i a hi rfl
      refine Or.inr ⟨_, rfl, ?_⟩
      show f_X6_tent_l50 (j + 1) (nI i) (xA M 1 (xcn (4 * i) (vL pg) (M.2.2 1))) = f_X6_tent_l50 j (nI (i + 1)) (xA M 1 (xcn (4 * (i + 1)) (vL pg) (M.2.2 1)))
      rw [f_X6_tent_l50, xA_1, hT, ite_le (by omega) (by omega), if_neg (by omega), show xN = 396 + 1 + 1 + 1 + 1 from rfl, n0, st _ _ i 0 _ hi (by omega), st _ _ i 1 _ hi (by omega), st _ _ i 2 _ hi (by omega), ex _ _ i _ hi]
      rw [show 4 * i + 0 = 4 * i from rfl, xcn_s, xcn_s, xcn_s, xcn_s, show 4 * i + 1 + 1 + 1 + 1 = 4 * (i + 1) by omega]
  rw [xA_id] at b
  exact b
def mEnd (M : xM) : xM := xI (xI (xI (xI (xI (xI M 4 0) 5 0) 6 0) 8 0) 7 (M.1 7 + 1)) 0 0
theorem vR_row {pg : Nat → Int32} {p c : Nat} {f : Nat → Int32} : upd (upd (upd (upd (upd (xcn (5 * c) (vR pg p) f) (5 * c + 3) (vR pg p (5 * c + 3))) (5 * c + 0) (vR pg p (5 * c + 0))) (5 * c + 1) (vR pg p (5 * c + 1))) (5 * c + 2) (vR pg p (5 * c + 2))) (5 * c + 4) (vR pg p (5 * c + 4)) = xcn (5 * (c + 1)) (vR pg p) f := by
  funext k
  by_cases h0 : k < 5 * c
  · rw [upd_n (by omega), upd_n (by omega), upd_n (by omega), upd_n (by omega), upd_n (by omega), xcn_in h0, xcn_in (by omega)]
  · by_cases h1 : k < 5 * (c + 1)
    · rw [xcn_in h1]
      rcases (show k = 5 * c + 0 ∨ k = 5 * c + 1 ∨ k = 5 * c + 2 ∨ k = 5 * c + 3 ∨ k = 5 * c + 4 by omega) with rfl | rfl | rfl | rfl | rfl
      · rw [upd_n (by omega), upd_n (by omega), upd_n (by omega), upd_s]
      · rw [upd_n (by omega), upd_n (by omega), upd_s]
      · rw [upd_n (by omega), upd_s]
      · rw [upd_n (by omega), upd_n (by omega), upd_n (by omega), upd_n (by omega), upd_s]
      · rw [upd_s]
    · rw [upd_n (by omega), upd_n (by omega), upd_n (by omega), upd_n (by omega), upd_n (by omega), xcn_out h0, xcn_out h1]
theorem m_claimers {M : xM} {pg : Nat → Int32} {T K n p : Nat} (hpg : ∀ i, i < n → M.2.2 0 i = pg i) (h36 : n ≤ 36) (hp : p < n) (hnK : n - p = 5 * K) (h3 : K ≤ 3) (hK : M.1 3 = nI K) (he : M.1 1 = nI p) (hT : M.1 2 = nI T) : f_X6_tent_l128 xN 0 M = some (nI T, mEnd (xA M 2 (xcn (5 * K) (vR pg p) (M.2.2 2)))) := by
  have st : ∀ (k : Int32 → xM → Option (Int32 × xM)) (j c s : Nat) (g : Nat → Int32), c < K → s < 3 → f_X6_tent_l168 k (j + 1) (nI c) (nI (p + 1 + 5 * c)) (nI s) (xA M 2 g) = f_X6_tent_l168 k j (nI c) (nI (p + 1 + 5 * c)) (nI (s + 1)) (xA M 2 (upd g (5 * c + s) (vR pg p (5 * c + s)))) := by
    intro k j c s g hc hs
    have e : (xA M 2 g).2.2 0 (p + 1 + 5 * c + 1 + s) = pg (p + 1 + 5 * c + 1 + s) := hpg _ (by omega)
    have e1 : (xA M 2 g).2.2 2 = g := rfl
    have e2 : vR pg p (5 * c + s) = pg (p + 1 + 5 * c + 1 + s) - 48 := by rw [vR, if_neg (by omega), if_neg (by omega), show (5 * c + s) / 5 = c by omega, show (5 * c + s) % 5 = s by omega]
    rw [f_X6_tent_l168, n3, ite_le (by omega) (by omega), if_neg (by omega), nI_1, nI_add, xld_n (by omega) (by omega), ob_s, e, e1, ix5, xst_n (by omega) (by omega), ob_s, nm_s, xA_A, nI_1, e2]
  have ex : ∀ (k : Int32 → xM → Option (Int32 × xM)) (j c : Nat) (x : Int32) (g : Nat → Int32), c < K → f_X6_tent_l168 k (j + 1) (nI c) x (nI 3) (xA M 2 g) = k (nI (c + 1)) (xA M 2 (upd g (5 * c + 4) (vR pg p (5 * c + 4)))) := by
    intro k j c x g hc
    have e1 : (xA M 2 g).2.2 2 = g := rfl
    have e2 : vR pg p (5 * c + 4) = -1 := by rw [vR, if_neg (by omega), if_pos (by omega)]
    rw [f_X6_tent_l168, n3, ite_le (by omega) (by omega), if_pos (by omega), n4, ix5, e1, xst_n (by omega) (by omega), ob_s, nm_s, xA_A, nI_1, e2]
  have b : f_X6_tent_l128 xN 0 (xA M 2 (M.2.2 2)) = some (nI T, mEnd (xA M 2 (xcn (5 * K) (vR pg p) (M.2.2 2)))) := by
    refine for_ix (fun j (a : xM) i => f_X6_tent_l128 j i a) nI K (fun i a => a = xA M 2 (xcn (5 * i) (vR pg p) (M.2.2 2))) _ ?_ ?_ xN _ (by rw [xN_v]; omega) (by rw [Nat.mul_zero, xcn_0])
    · rintro j a rfl
      show f_X6_tent_l128 (j + 1) (nI K) (xA M 2 (xcn (5 * K) (vR pg p) (M.2.2 2))) = _
      rw [f_X6_tent_l128, xA_1, hK, ite_le (by omega) (by omega), if_pos (Nat.le_refl K), nm_s, nm_s, nm_s, nm_s, nm_s, nm_s]
      exact congrArg (fun z => some (z, mEnd (xA M 2 (xcn (5 * K) (vR pg p) (M.2.2 2))))) hT
    · rintro j i a hi rfl
      refine Or.inr ⟨_, rfl, ?_⟩
      show f_X6_tent_l128 (j + 1) (nI i) (xA M 2 (xcn (5 * i) (vR pg p) (M.2.2 2))) = f_X6_tent_l128 j (nI (i + 1)) (xA M 2 (xcn (5 * (i + 1)) (vR pg p) (M.2.2 2)))
      have e : (xA M 2 (xcn (5 * i) (vR pg p) (M.2.2 2))).2.2 0 (p + 1 + 5 * i) = pg (p + 1 + 5 * i) := hpg _ (by omega)
      have e1 : (xA M 2 (xcn (5 * i) (vR pg p) (M.2.2 2))).2.2 2 = xcn (5 * i) (vR pg p) (M.2.2 2) := rfl
      have e2 : (xA M 2 (xcn (5 * i) (vR pg p) (M.2.2 2))).1 1 = nI p := he
      have e3 : kdV (pg (p + 1 + 5 * i)) = vR pg p (5 * i + 3) := by rw [vR, if_pos (by omega), show (5 * i + 3) / 5 = i by omega]
      rw [f_X6_tent_l128, xA_1, hK, ite_le (by omega) (by omega), if_neg (by omega), ← xA_1 (M := M) (k := 2) (f := xcn (5 * i) (vR pg p) (M.2.2 2)), e2, nI_1, ix50, nI_add, xld_n (by omega) (by omega), ob_s, e, m_kindBy, ob_s, e1, n3, nI_add, xst_n (by omega) (by omega), ob_s, nm_s, xA_A, e3, show xN = 396 + 1 + 1 + 1 + 1 from rfl, n0, st _ _ i 0 _ hi (by omega), st _ _ i 1 _ hi (by omega), st _ _ i 2 _ hi (by omega), ex _ _ i _ _ hi, vR_row]
  rw [xA_id] at b
  exact b
theorem o_tent : op_tent Inv := by
  intro C D j hj hI
  have hI' := inv_mon C D j hI
  obtain ⟨T0, K0, S, mo, n, b, hb, hB, hR, hP, hN, hK⟩ := hI
  obtain ⟨p, q, e', hp, hlt, hat, hq, f1, f2, f3, f4⟩ := fault_both hP
  obtain ⟨pn, pm, h36, hpg⟩ := hP
  have hbb : bh p n ≤ n := by unfold bh; split <;> omega
  -- the class: is it one
  have ct : f_X1_isTent C = some (bI (decide (q = n ∧ p < n ∧ (n - p) % 5 = 0))) := by
    rw [f_X1_isTent, f1, ob_s, pn, ite_le (by omega) (by omega), xbo_0]
    by_cases a : n ≤ bh p n
    · rw [if_pos a, decide_eq_false]
      rintro ⟨z1, z2, z3⟩
      rw [bh, if_pos z2] at a
      omega
    · have hpn : p < n := by
        apply Classical.byContradiction
        intro h
        rw [bh, if_neg h] at a
        omega
      have hbe : bh p n = p + 1 := by rw [bh, if_pos hpn]
      rw [if_neg a, f2, ob_s, ite_eq (by omega) (by omega)]
      by_cases z : q = n
      · rw [if_pos z, pk_sub (by omega), re5 (by omega), n4, ite_eq (by omega) (by omega), xbo_1]
        by_cases w : (n - bh p n) % 5 = 4
        · rw [if_pos w, decide_eq_true ⟨z, hpn, by omega⟩]
        · rw [if_neg w, decide_eq_false]
          rintro ⟨z1, z2, z3⟩
          omega
      · rw [if_neg z, decide_eq_false (fun h => z h.1)]
  rw [f_X5_tent, ct, ob_s, ite_bI, f_X6_tent, f3, ob2_s]
  have em : (xI D 1 e').1 0 = nI n := pm
  have ee : (xI D 1 e').1 1 = e' := rfl
  rw [em, ee, ite_lt (by omega) (by omega)]
  by_cases hok : q = n ∧ p < n ∧ (n - p) % 5 = 0
  · obtain ⟨z1, z2, z3⟩ := hok
    obtain ⟨f5, hgd⟩ := f4 z1
    have e'p : e' = nI p := by rw [f5, eA, if_pos z2]
    obtain ⟨T, K, t1, t2, t3, t4, t5, t6, t7, t8, t9⟩ := tent_form h36 z2 hlt (hat z2) z3 hgd
    have hv : ∀ i, i < n → ∃ v, v < 127 ∧ C.2.2 0 i = nI v := fun i hi => by
      obtain ⟨-, v, v1, v2, v3⟩ := hpg i hi
      exact ⟨v, by omega, v3⟩
    have hbe : bh p n = p + 1 := by rw [bh, if_pos z2]
    -- class
    have c1 : f_X1_things C = some (nI T) := by rw [f_X1_things, f1, ob_s, hbe, di4 (by omega), show (p + 1) / 4 = T by omega]
    have c2 : f_X1_claimers (xI C 2 (nI T)) = some (nI K) := by
      have fc : f_X1_firstClaimer (xI C 2 (nI T)) = some (nI (bh p n)) := g_first (M := xI C 2 (nI T)) pn h36 hp hlt hat
      have en : (xI C 2 (nI T)).1 1 = nI n := pn
      rw [f_X1_claimers, fc, ob_s, en, hbe, pk_sub (by omega), nI_1, di5 (by omega), show (n - (p + 1) + 1) / 5 = K by omega]
    obtain ⟨C6, hC6⟩ : ∃ C6 : xM, C6 = xI (xI (xI (xI (xA (xI (xI (xI C 2 (nI T)) 3 (nI K)) 4 0) 3 (allB (C.2.2 3))) 5 0) 6 0) 7 0) 8 0 := ⟨_, rfl⟩
    have c3 : f_X3_readFrom C = f_X3_readFrom_l30 xN 0 C6 := by
      rw [f_X3_readFrom, c1, ob_s, nm_s, c2, ob_s, nm_s, nm_s, g_begin, ob_s, hC6]
      rfl
    have d1 : C6.2.2 0 = C.2.2 0 := by rw [hC6]; rfl
    have d2 : C6.1 2 = nI T := by rw [hC6]; rfl
    have d3 : C6.1 3 = nI K := by rw [hC6]; rfl
    have d4 : C6.1 1 = nI n := by rw [hC6]; exact pn
    obtain ⟨C7, hC7⟩ : ∃ C7 : xM, C7 = xA C6 1 (xcn (T * 3) (vS (C.2.2 0)) (C6.2.2 1)) := ⟨_, rfl⟩
    have c4 : f_X3_readFrom C = some (xA (xA C7 2 (xcn K (vK (C.2.2 0) p) (C7.2.2 2))) 4 (xcn (K * 3) (vM (C.2.2 0) p) (C7.2.2 4))) := by
      rw [c3, c_things d1 d2 t4, ← hC7]
      exact c_claimers (M := C7) (pg := C.2.2 0) (n := n) (p := p) (by rw [hC7]; exact d4) (by rw [hC7]; exact d1) h36 z2 hlt (hat z2) hv (by rw [hC7]; exact d3) t6 t2
    -- reference
    have hpgD : ∀ i, i < n → D.2.2 0 i = C.2.2 0 i := fun i hi => (hpg i hi).1.symm
    obtain ⟨D6, hD6⟩ : ∃ D6 : xM, D6 = xI (xI D 1 (nI p)) 2 (nI T) := ⟨_, rfl⟩
    obtain ⟨D8, hD8⟩ : ∃ D8 : xM, D8 = xI (xA D6 1 (xcn (4 * T) (vL (C.2.2 0)) (D6.2.2 1))) 3 (nI K) := ⟨_, rfl⟩
    have r1 : f_X6_tent_l50 xN 0 D6 = some (nI T, mEnd (xA D8 2 (xcn (5 * K) (vR (C.2.2 0) p) (D8.2.2 2)))) := by
      have g0 : D6.1 0 - D6.1 1 = nI (5 * K) := by
        have a1 : D6.1 0 = nI n := by rw [hD6]; exact pm
        have a2 : D6.1 1 = nI p := by rw [hD6]; rfl
        rw [a1, a2, pk_sub (by omega), t2]
      rw [m_things (M := D6) (pg := C.2.2 0) (n := n) (p := p) (by rw [hD6]; exact hpgD) h36 t1 z2 (by rw [hD6]; rfl) t4, g0, di5 (by omega), show 5 * K / 5 = K by omega, ← hD8]
      exact m_claimers (M := D8) (pg := C.2.2 0) (n := n) (p := p) (by rw [hD8, hD6]; exact hpgD) h36 z2 t2 t6 (by rw [hD8]; rfl) (by rw [hD8, hD6]; rfl) (by rw [hD8, hD6]; rfl)
    rw [if_pos (decide_eq_true ⟨z1, z2, z3⟩), c4, ob_s, f_X1_clear, nm_s, ob_s, nm_s, f_X3_things, ob_s, if_neg (by omega), e'p, if_neg (nI_m1 (by omega)), pk_sub (by omega), re5 (by omega), n0, ite_eq (by omega) (by omega), if_pos z3, nm_s, nI_1, di4 (by omega), show (p + 1) / 4 = T by omega, ← hD6, ← n0, r1]
    refine ⟨nI T, xI (xI (xA (xA C7 2 (xcn K (vK (C.2.2 0) p) (C7.2.2 2))) 4 (xcn (K * 3) (vM (C.2.2 0) p) (C7.2.2 4))) 1 0) 0 (C.1 0 + 1), mEnd (xA D8 2 (xcn (5 * K) (vR (C.2.2 0) p) (D8.2.2 2))), ?_, rfl, T, K, 0, 0, 0, b + 1, by omega, ⟨?_, ?_, ?_, ?_, t4, t6, by omega, by omega, ?_⟩, ⟨?_, ?_, rfl, ⟨by omega, fun i hi => by omega⟩, ?_, rfl, by omega, ?_, ?_⟩, ⟨rfl, rfl, by omega, fun i hi => by omega⟩, ⟨?_, ?_⟩, Or.inl ⟨?_, ?_⟩⟩
    · rw [hC7, hC6]; rfl
    · rw [hC7, hC6]; rfl
    · rw [hD8, hD6]; rfl
    · rw [hC7, hC6]; rfl
    · rw [hD8, hD6]; rfl
    · intro c hc
      show ∃ k, k ≤ 4 ∧ xcn K (vK (C.2.2 0) p) (C7.2.2 2) c = nI k
      by_cases z : c < K
      · rw [xcn_in z]; exact t8 c z
      · rw [xcn_out z, hC7, hC6]; exact hB.2.2.2.2.2.2.2.2 c hc
    · rw [hC7, hC6, hD8, hD6]
      show RG T K (xcn (T * 3) (vS (C.2.2 0)) (C.2.2 1)) (xcn K (vK (C.2.2 0) p) (C.2.2 2)) (allB (C.2.2 3)) (xcn (K * 3) (vM (C.2.2 0) p) (C.2.2 4)) (xcn (4 * T) (vL (C.2.2 0)) (D.2.2 1)) (xcn (5 * K) (vR (C.2.2 0) p) (D.2.2 2))
      refine ⟨fun t s ht hs => ?_, fun t ht => ?_, fun c s hc hs => ?_, fun c hc => ?_, fun c hc => ?_, fun t ht => Or.inl (allB_v ht), fun t u ht hu _ h => absurd (allB_v ht) h⟩
      · have e2 : vS (C.2.2 0) (t * 3 + s) = C.2.2 0 (4 * t + s) - 48 := by rw [vS, show (t * 3 + s) / 3 = t by omega, show (t * 3 + s) % 3 = s by omega, Nat.mul_comm t 4]
        rw [xcn_in (by omega), xcn_in (by omega), e2, vL, if_neg (by omega)]
        exact ⟨rfl, t7 t s ht hs⟩
      · rw [xcn_in (by omega), vL, if_pos (by omega), allB_v (by omega)]
      · rw [xcn_in (by omega), xcn_in (by omega), vR, if_neg (by omega), if_neg (by omega), vM, show (5 * c + s) / 5 = c by omega, show (5 * c + s) % 5 = s by omega, show (c * 3 + s) / 3 = c by omega, show (c * 3 + s) % 3 = s by omega]
        exact ⟨rfl, t9 c s hc hs⟩
      · rw [xcn_in (by omega), xcn_in hc, vR, if_pos (by omega), show (5 * c + 3) / 5 = c by omega, vK]
      · rw [xcn_in (by omega), vR, if_neg (by omega), if_pos (by omega)]
        refine (xOf_none (fun v hv h => ?_)).symm
        rw [allB_v hv] at h
        exact nI_m1 (by omega) h.symm
    · rw [hC7, hC6]; rfl
    · rw [hC7, hC6]; rfl
    · rw [hC7, hC6]; rfl
    · rw [hC7, hC6]; rfl
    · show C.1 0 + 1 = nI (b + 1)
      rw [hN.1, nI_1]
    · rw [hD8, hD6]
      show D.1 7 + 1 = nI (b + 1)
      rw [hN.2, nI_1]
    · rw [hC7, hC6]; rfl
    · rw [hD8, hD6]
      show D.1 10 = -1 ∨ ∃ a, a < b + 1 ∧ D.1 10 = nI a
      rcases hK with ⟨k1, k2 | ⟨a, ha, k2⟩⟩ | ⟨k1, k2, -⟩
      · exact Or.inl k2
      · exact Or.inr ⟨a, by omega, k2⟩
      · exact Or.inr ⟨b, by omega, k2⟩
  · rw [if_neg (by simpa using hok)]
    refine ⟨-103, C, xI D 1 e', rfl, ?_, inv_I1 hI' e'⟩
    by_cases z : q < n
    · rw [if_pos z]
    · have z1 : q = n := by omega
      obtain ⟨f5, hgd⟩ := f4 z1
      rw [if_neg z]
      by_cases y : p < n
      · have e'p : e' = nI p := by rw [f5, eA, if_pos y]
        rw [e'p, if_neg (nI_m1 (by omega)), pk_sub (by omega), re5 (by omega), n0, ite_eq (by omega) (by omega), if_neg (fun h => hok ⟨z1, y, h⟩)]
      · have e'p : e' = -1 := by rw [f5, eA, if_neg y]
        rw [e'p, if_pos rfl]
