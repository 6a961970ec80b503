/-! ===== the reference's sign to ask for ===== -/
theorem xA_A {M : xM} {k : Nat} {f g : Nat → Int32} : xA (xA M k f) k g = xA M k g := by
  unfold xA
  show (M.1, M.2.1, va_up (va_up M.2.2 k f) k g) = _
  rw [bx_uu]
theorem cS_pos {P : Nat → Bool} {n : Nat} (h : 0 < cS P n) : ∃ t, t < n ∧ P t = true := by
  induction n with
  | zero => exact absurd h (Nat.lt_irrefl 0)
  | succ n ih =>
    cases hp : P n with
    | true => exact ⟨n, by omega, hp⟩
    | false =>
      rw [cS, hp] at h
      obtain ⟨t, h1, h2⟩ := ih (by simpa using h)
      exact ⟨t, by omega, h2⟩
theorem cS_one {P : Nat → Bool} {n t : Nat} (ht : t < n) (h : P t = true) : 0 < cS P n := by
  induction n with
  | zero => omega
  | succ n ih =>
    rw [cS]
    by_cases hn : t = n
    · subst hn; rw [if_pos h]; omega
    · have := ih (by omega)
      split <;> omega
def isM (C : xM) (P : Nat → Bool) (s n i W : Nat) : Prop := (∀ t, t < i → P t = true → hmS C P s (C.2.2 1 (t * 3 + s)) n ≤ W) ∧ (W = 0 ∨ ∃ t, t < i ∧ P t = true ∧ hmS C P s (C.2.2 1 (t * 3 + s)) n = W)
theorem moS_isM (C : xM) (P : Nat → Bool) (s n : Nat) : ∀ i, isM C P s n i (moS C P s n i) := by
  intro i
  induction i with
  | zero => exact ⟨fun t h => absurd h (by omega), Or.inl rfl⟩
  | succ i ih =>
    obtain ⟨h1, h2⟩ := ih
    rw [moS]
    cases hp : P i with
    | false =>
      rw [if_neg (by simp)]
      refine ⟨fun t ht hq => ?_, ?_⟩
      · by_cases e : t = i
        · subst e; rw [hp] at hq; cases hq
        · exact h1 t (by omega) hq
      · rcases h2 with h2 | ⟨t, a, b, c⟩
        · exact Or.inl h2
        · exact Or.inr ⟨t, by omega, b, c⟩
    | true =>
      rw [if_pos rfl]
      by_cases hlt : moS C P s n i < hmS C P s (C.2.2 1 (i * 3 + s)) n
      · rw [if_pos hlt]
        refine ⟨fun t ht hq => ?_, Or.inr ⟨i, by omega, hp, rfl⟩⟩
        by_cases e : t = i
        · subst e; exact Nat.le_refl _
        · have := h1 t (by omega) hq; omega
      · rw [if_neg hlt]
        refine ⟨fun t ht hq => ?_, ?_⟩
        · by_cases e : t = i
          · subst e; omega
          · exact h1 t (by omega) hq
        · rcases h2 with h2 | ⟨t, a, b, c⟩
          · exact Or.inl h2
          · exact Or.inr ⟨t, by omega, b, c⟩
theorem isM_uni {C : xM} {P : Nat → Bool} {s n i W V : Nat} (h : isM C P s n i W) (g : isM C P s n i V) : W = V := by
  have a : W ≤ V := by
    rcases h.2 with e | ⟨t, h1, h2, h3⟩
    · omega
    · have := g.1 t h1 h2; omega
  have b : V ≤ W := by
    rcases g.2 with e | ⟨t, h1, h2, h3⟩
    · omega
    · have := h.1 t h1 h2; omega
  omega
theorem hmS_s (C : xM) (P : Nat → Bool) (s : Nat) (v : Int32) (i : Nat) : hmS C P s v (i + 1) = if P i && decide (C.2.2 1 (i * 3 + s) = v) then hmS C P s v i + 1 else hmS C P s v i := rfl
theorem isM_step {C : xM} {P : Nat → Bool} {s i W : Nat} (h : isM C P s i i W) : isM C P s (i + 1) (i + 1) (if hmS C P s (C.2.2 1 (i * 3 + s)) (i + 1) ≤ W then W else hmS C P s (C.2.2 1 (i * 3 + s)) (i + 1)) := by
  obtain ⟨h1, h2⟩ := h
  obtain ⟨x, hx⟩ : ∃ x, x = hmS C P s (C.2.2 1 (i * 3 + s)) (i + 1) := ⟨_, rfl⟩
  have ub : ∀ t, t < i + 1 → P t = true → hmS C P s (C.2.2 1 (t * 3 + s)) (i + 1) ≤ (if x ≤ W then W else x) := by
    intro t ht hq
    by_cases e : t = i
    · subst e; rw [← hx]; split <;> omega
    · have g := h1 t (by omega) hq
      rw [hmS_s]
      by_cases hz : P i = true ∧ C.2.2 1 (i * 3 + s) = C.2.2 1 (t * 3 + s)
      · rw [if_pos (by simp [hz.1, hz.2])]
        rw [hmS_s, if_pos (by simp [hz.1]), hz.2] at hx
        split <;> omega
      · rw [if_neg (by simpa using hz)]
        split <;> omega
  rw [← hx]
  refine ⟨ub, ?_⟩
  by_cases hle : x ≤ W
  · rw [if_pos hle] at ub ⊢
    rcases h2 with h2 | ⟨t, a, b, c⟩
    · exact Or.inl h2
    · refine Or.inr ⟨t, by omega, b, ?_⟩
      have u := ub t (by omega) b
      rw [hmS_s] at u ⊢
      by_cases hz : (P i && decide (C.2.2 1 (i * 3 + s) = C.2.2 1 (t * 3 + s))) = true
      · rw [if_pos hz] at u; omega
      · rw [if_neg hz]; exact c
  · rw [if_neg hle]
    cases hp : P i with
    | true => exact Or.inr ⟨i, by omega, hp, hx.symm⟩
    | false =>
      rw [hmS_s, hp, if_neg (by simp)] at hx
      obtain ⟨t, h3, h4⟩ := cS_pos (P := fun t => P t && decide (C.2.2 1 (t * 3 + s) = C.2.2 1 (i * 3 + s))) (n := i) (show 0 < hmS C P s (C.2.2 1 (i * 3 + s)) i by omega)
      simp only [Bool.and_eq_true, decide_eq_true_eq] at h4
      have := h1 t h3 h4.1
      rw [h4.2] at this
      omega
theorem m_signOf {C D : xM} {T K c : Nat} (h : RD C D T K) (hc : c < K) : ∃ g, f_X6_signOf (nI c) D = some (if bS (fun t => fO C t c && decide (C.2.2 3 t = -1)) T = 0 then -1 else nI (mn (fun s => moS C (fun t => fO C t c && decide (C.2.2 3 t = -1)) s T T) 3), xA D 3 g) := by
  have hT5 := h.1.2.2.1
  have hT := h.2.1
  obtain ⟨P, hP⟩ : ∃ P : Nat → Bool, P = fun t => fO C t c && decide (C.2.2 3 t = -1) := ⟨_, rfl⟩
  obtain ⟨w, hw⟩ : ∃ w : Nat → Nat, w = fun s => moS C P s T T := ⟨_, rfl⟩
  rw [← hP, ← hw]
  have hwl : ∀ s, w s ≤ 5 := fun s => by rw [hw]; exact Nat.le_trans (moS_le _ _ _ _ _) hT5
  have hw0 : bS P T = 0 → ∀ s, w s = 0 := by
    intro e s
    rw [hw]
    rcases (moS_isM C P s T T).2 with h2 | ⟨t, h3, h4, h5⟩
    · exact h2
    · have := (bS_zero (by omega)).mp e t h3
      rw [h4] at this; cases this
  have hw1 : ¬ bS P T = 0 → ∀ s, 0 < w s := by
    intro e s
    rw [hw]
    have : ∃ t, t < T ∧ P t = true := by
      apply Classical.byContradiction
      intro hn
      exact e ((bS_zero (by omega)).mpr fun t ht => by
        cases hq : P t
        · rfl
        · exact absurd ⟨t, ht, hq⟩ hn)
    obtain ⟨t, ht, hq⟩ := this
    have h1 := (moS_isM C P s T T).1 t ht hq
    have h2 : 0 < hmS C P s (C.2.2 1 (t * 3 + s)) T := cS_one ht (by simp [hq])
    show 0 < moS C P s T T
    omega
  -- the row of parts, one sign
  have row : ∀ (k8 : Int32 → Int32 → Int32 → Int32 → xM → Option (Int32 × xM)) (s : Nat), s < 3 → ∀ (x2 x3 : Int32) (g0 : Nat → Int32), ∃ g, f_X6_signOf_l17 k8 xN (nI c) x2 x3 (nI s) 0 (xA D 3 g0) = (if nI (w s) ≤ 0 then k8 (nI c) x2 x3 (nI (s + 1)) (xA D 3 g) else if x3 ≤ nI (w s) then k8 (nI c) x2 x3 (nI (s + 1)) (xA D 3 g) else k8 (nI c) (nI s) (nI (w s)) (nI (s + 1)) (xA D 3 g)) := by
    intro k8 s hs x2 x3 g0
    have inner : ∀ g1 : Nat → Int32, (∀ v, v < 10 → g1 v = nI (hmS C P s (nI v) 0)) → ∃ g, f_X6_signOf_l44 k8 xN (nI c) x2 x3 (nI s) 0 0 (xA D 3 g1) = (if nI (w s) ≤ 0 then k8 (nI c) x2 x3 (nI (s + 1)) (xA D 3 g) else if x3 ≤ nI (w s) then k8 (nI c) x2 x3 (nI (s + 1)) (xA D 3 g) else k8 (nI c) (nI s) (nI (w s)) (nI (s + 1)) (xA D 3 g)) := by
      have key : ∀ (d i n W : Nat) (g1 : Nat → Int32), i + d = T → d < n → isM C P s i i W → (∀ v, v < 10 → g1 v = nI (hmS C P s (nI v) i)) → ∃ g, f_X6_signOf_l44 k8 n (nI c) x2 x3 (nI s) (nI W) (nI i) (xA D 3 g1) = (if nI (w s) ≤ 0 then k8 (nI c) x2 x3 (nI (s + 1)) (xA D 3 g) else if x3 ≤ nI (w s) then k8 (nI c) x2 x3 (nI (s + 1)) (xA D 3 g) else k8 (nI c) (nI s) (nI (w s)) (nI (s + 1)) (xA D 3 g)) := by
        intro d
        induction d with
        | zero =>
          intro i n W g1 hi hn hM hg
          obtain ⟨n, rfl⟩ : ∃ k, n = k + 1 := ⟨n - 1, by omega⟩
          have hiT : i = T := by omega
          subst hiT
          have hWw : W = w s := by rw [hw]; exact isM_uni hM (moS_isM C P s i i)
          refine ⟨g1, ?_⟩
          rw [f_X6_signOf_l44, xA_1, hT, ite_le (by omega) (by omega), if_pos (Nat.le_refl i), hWw]
          simp only [f_X6_signOf_b155, f_X6_signOf_b156, f_X6_signOf_b173, f_X6_signOf_b174, nI_1]
          by_cases z1 : nI (w s) ≤ 0
          · simp only [if_pos z1]
          · by_cases z2 : x3 ≤ nI (w s)
            · simp only [if_neg z1, if_pos z2]
            · simp only [if_neg z1, if_neg z2]
        | succ d ih =>
          intro i n W g1 hi hn hM hg
          obtain ⟨n, rfl⟩ : ∃ k, n = k + 1 := ⟨n - 1, by omega⟩
          have hD' : RD C (xA D 3 g1) T K := h
          obtain ⟨es, v, hv, ev⟩ := h.2.2.2.1 i s (by omega) hs
          have ls : xld 20 ((xA D 3 g1).2.2 1) (4 * nI i + nI s) = some (nI v) := by rw [ix4, xld_n (by omega) (by omega), ← ev, ← es]; rfl
          have hWi : W ≤ i := by
            rcases hM.2 with e | ⟨t, z1, z2, z3⟩
            · omega
            · rw [← z3]; exact hmS_le _ _ _ _ _
          have lp : xld 10 ((xA D 3 g1).2.2 3) (nI v) = some (nI (hmS C P s (nI v) i)) := by rw [xld_n (by omega) (by omega)]; exact congrArg some (hg v (by omega))
          have fin : ∀ a : Nat, hmS C P s (nI v) i + a = hmS C P s (nI v) (i + 1) → (∀ u, u < 10 → u ≠ v → hmS C P s (nI u) (i + 1) = hmS C P s (nI u) i) →
              ∃ g, f_X6_signOf_b105 k8 (f_X6_signOf_l44 k8 n) (nI c) x2 x3 (nI s) (nI W) (nI i) (nI v) (nI a) (nI (hmS C P s (nI v) i)) (nI v) (xA D 3 g1) = (if nI (w s) ≤ 0 then k8 (nI c) x2 x3 (nI (s + 1)) (xA D 3 g) else if x3 ≤ nI (w s) then k8 (nI c) x2 x3 (nI (s + 1)) (xA D 3 g) else k8 (nI c) (nI s) (nI (w s)) (nI (s + 1)) (xA D 3 g)) := by
            intro a ha hu
            have hx : hmS C P s (nI v) (i + 1) ≤ i + 1 := hmS_le _ _ _ _ _
            have hst := isM_step hM
            rw [ev] at hst
            rw [f_X6_signOf_b105, nI_add, ha, xst_n (by omega) (by omega), ob_s, nm_s, xA_A]
            have rd : xld 10 ((xA D 3 (upd ((xA D 3 g1).2.2 3) v (nI (hmS C P s (nI v) (i + 1))))).2.2 3) (nI v) = some (nI (hmS C P s (nI v) (i + 1))) := by
              rw [xld_n (by omega) (by omega)]
              exact congrArg some upd_s
            rw [rd, ob_s, ob_s, ite_le (by omega) (by omega)]
            simp only [f_X6_signOf_b131, nI_1]
            have hg2 : ∀ u, u < 10 → (upd ((xA D 3 g1).2.2 3) v (nI (hmS C P s (nI v) (i + 1)))) u = nI (hmS C P s (nI u) (i + 1)) := by
              intro u hu10
              by_cases e : u = v
              · subst e; exact upd_s
              · rw [upd_n e, hu u hu10 e]; exact hg u hu10
            by_cases hle : hmS C P s (nI v) (i + 1) ≤ W
            · rw [if_pos hle]
              rw [if_pos hle] at hst
              exact ih (i + 1) n W _ (by omega) (by omega) hst hg2
            · rw [if_neg hle]
              rw [if_neg hle] at hst
              exact ih (i + 1) n _ _ (by omega) (by omega) hst hg2
          have nev : ∀ u, u < 10 → u ≠ v → hmS C P s (nI u) (i + 1) = hmS C P s (nI u) i := by
            intro u hu10 hne
            rw [hmS_s, ev, if_neg (by
              simp only [Bool.and_eq_true, decide_eq_true_eq]
              intro z
              exact hne (nI_inj (by omega) (by omega) z.2).symm)]
          have f0 := fin 0
          have f1 := fin 1
          rw [← n0] at f0
          rw [← n1] at f1
          rw [f_X6_signOf_l44, xA_1, hT, ite_le (by omega) (by omega), if_neg (by omega), ls, ob_s, lp, ob_s, l_h hD' (by omega), ob_s]
          by_cases hh : C.2.2 3 i = -1
          · rw [if_pos hh, m_fits hD' (by omega) hc, ob_s, ite_bI]
            cases hf : fO C i c with
            | true =>
              rw [if_pos rfl]
              exact f1 (by rw [hmS_s, ev, if_pos (by rw [hP]; simp [hf, hh])]) nev
            | false =>
              rw [if_neg (by simp), f_X6_signOf_b104]
              exact f0 (by rw [hmS_s, if_neg (by rw [hP]; simp [hf])]; rfl) nev
          · rw [if_neg hh, f_X6_signOf_b104]
            exact f0 (by rw [hmS_s, if_neg (by rw [hP]; simp [hh])]; rfl) nev
      intro g1 hg
      exact key T 0 xN 0 g1 (by omega) (by rw [xN_v]; omega) ⟨fun t ht => absurd ht (by omega), Or.inl rfl⟩ hg
    have zero : ∀ (d i n : Nat) (g1 : Nat → Int32), i + d = 10 → d < n → (∀ v, v < i → g1 v = 0) → ∃ g2, (∀ v, v < 10 → g2 v = nI (hmS C P s (nI v) 0)) ∧ f_X6_signOf_l17 k8 n (nI c) x2 x3 (nI s) (nI i) (xA D 3 g1) = f_X6_signOf_l44 k8 xN (nI c) x2 x3 (nI s) 0 0 (xA D 3 g2) := by
      intro d
      induction d with
      | zero =>
        intro i n g1 hi hn hg
        obtain ⟨n, rfl⟩ : ∃ k, n = k + 1 := ⟨n - 1, by omega⟩
        have : i = 10 := by omega
        subst this
        exact ⟨g1, fun v hv => hg v hv, by rw [f_X6_signOf_l17, n10, ite_le (by omega) (by omega), if_pos (Nat.le_refl 10)]⟩
      | succ d ih =>
        intro i n g1 hi hn hg
        obtain ⟨n, rfl⟩ : ∃ k, n = k + 1 := ⟨n - 1, by omega⟩
        obtain ⟨g2, h1, h2⟩ := ih (i + 1) n (upd g1 i 0) (by omega) (by omega) (fun v hv => by
          by_cases e : v = i
          · subst e; exact upd_s
          · rw [upd_n e]; exact hg v (by omega))
        refine ⟨g2, h1, ?_⟩
        rw [f_X6_signOf_l17, n10, ite_le (by omega) (by omega), if_neg (by omega), xst_n (by omega) (by omega), ob_s, nm_s, xA_A, nI_1, ← h2]
        rfl
    obtain ⟨g2, h1, h2⟩ := zero 10 0 xN g0 (by omega) (by rw [xN_v]; omega) (fun v hv => absurd hv (by omega))
    obtain ⟨g, h3⟩ := inner g2 h1
    exact ⟨g, h2.trans h3⟩
  have hst : ∀ (n s : Nat), s < 3 → ∀ (x2 x3 : Int32) (g0 : Nat → Int32), ∃ g, f_X6_signOf_l8 (n + 1) (nI c) x2 x3 (nI s) (xA D 3 g0) = (if nI (w s) ≤ 0 then f_X6_signOf_l8 n (nI c) x2 x3 (nI (s + 1)) (xA D 3 g) else if x3 ≤ nI (w s) then f_X6_signOf_l8 n (nI c) x2 x3 (nI (s + 1)) (xA D 3 g) else f_X6_signOf_l8 n (nI c) (nI s) (nI (w s)) (nI (s + 1)) (xA D 3 g)) := by
    intro n s hs x2 x3 g0
    obtain ⟨g, hg⟩ := row (f_X6_signOf_l8 n) s hs x2 x3 g0
    exact ⟨g, by rw [f_X6_signOf_l8, n3, ite_le (by omega) (by omega), if_neg (by omega), hg]⟩
  have l0 : ∀ (s : Nat) (x y : Option (Int32 × xM)), (if nI (w s) ≤ 0 then x else y) = if w s = 0 then x else y := by
    intro s x y
    have h5 := hwl s
    rw [n0, ite_le (by omega) (by omega)]
    by_cases e : w s = 0
    · rw [if_pos (by omega), if_pos e]
    · rw [if_neg (by omega), if_neg e]
  have e3 : ∀ (n : Nat) (x2 x3 : Int32) (g : Nat → Int32), f_X6_signOf_l8 (n + 1) (nI c) x2 x3 (nI 3) (xA D 3 g) = some (x2, xA D 3 g) := by
    intro n x2 x3 g
    rw [f_X6_signOf_l8, n3, ite_le (by omega) (by omega), if_pos (Nat.le_refl 3)]
  have eD : D = xA D 3 (D.2.2 3) := by
    unfold xA
    have : va_up D.2.2 3 (D.2.2 3) = D.2.2 := by
      funext j
      unfold va_up
      by_cases e : j = 3
      · rw [if_pos e, e]
      · rw [if_neg e]
    rw [this]
  obtain ⟨ga, ha⟩ := hst 399 0 (by omega) (-1) 99 (D.2.2 3)
  have start : f_X6_signOf (nI c) D = f_X6_signOf_l8 (399 + 1) (nI c) (-1) 99 (nI 0) (xA D 3 (D.2.2 3)) := by
    rw [← eD]; rfl
  rw [start, ha, l0]
  by_cases hb : bS P T = 0
  · have z := hw0 hb
    rw [if_pos hb, if_pos (z 0)]
    obtain ⟨gb, hgb⟩ := hst 398 1 (by omega) (-1) 99 ga
    obtain ⟨gc, hgc⟩ := hst 397 2 (by omega) (-1) 99 gb
    rw [hgb, l0, if_pos (z 1), hgc, l0, if_pos (z 2), e3]
    exact ⟨gc, rfl⟩
  · have z := hw1 hb
    have z0 := z 0
    have z1 := z 1
    have z2 := z 2
    have y0 := hwl 0
    have y1 := hwl 1
    have y2 := hwl 2
    rw [if_neg hb, if_neg (by omega), show (99 : Int32) = nI 99 from rfl, ite_le (by omega) (by omega), if_neg (by omega)]
    obtain ⟨gb, hgb⟩ := hst 398 1 (by omega) (nI 0) (nI (w 0)) ga
    rw [hgb, l0, if_neg (by omega), ite_le (by omega) (by omega)]
    have m1 : mn w 1 = 0 := by rw [mn, if_pos rfl]
    by_cases q1 : w 0 ≤ w 1
    · have m2 : mn w 2 = 0 := by rw [mn, if_neg (by omega), m1, if_neg (by omega)]
      rw [if_pos q1]
      obtain ⟨gc, hgc⟩ := hst 397 2 (by omega) (nI 0) (nI (w 0)) gb
      rw [hgc, l0, if_neg (by omega), ite_le (by omega) (by omega)]
      by_cases q2 : w 0 ≤ w 2
      · rw [if_pos q2, e3]
        exact ⟨gc, by rw [mn, if_neg (by omega), m2, if_neg (by omega)]⟩
      · rw [if_neg q2, e3]
        exact ⟨gc, by rw [mn, if_neg (by omega), m2, if_pos (by omega)]⟩
    · have m2 : mn w 2 = 1 := by rw [mn, if_neg (by omega), m1, if_pos (by omega)]
      rw [if_neg q1]
      obtain ⟨gc, hgc⟩ := hst 397 2 (by omega) (nI 1) (nI (w 1)) gb
      rw [hgc, l0, if_neg (by omega), ite_le (by omega) (by omega)]
      by_cases q2 : w 1 ≤ w 2
      · rw [if_pos q2, e3]
        exact ⟨gc, by rw [mn, if_neg (by omega), m2, if_neg (by omega)]⟩
      · rw [if_neg q2, e3]
        exact ⟨gc, by rw [mn, if_neg (by omega), m2, if_pos (by omega)]⟩
