/-! ===== the class's choices ===== -/
/-- the first of the least -/
def mn (w : Nat → Nat) : Nat → Nat
  | 0 => 0
  | i + 1 => if i = 0 then 0 else if w i < w (mn w i) then i else mn w i
theorem mn_lt (w : Nat → Nat) {i : Nat} (h : 0 < i) : mn w i < i := by
  induction i with
  | zero => omega
  | succ i ih =>
    rw [mn]
    by_cases h0 : i = 0
    · rw [if_pos h0]; omega
    · rw [if_neg h0]
      split
      · omega
      · have := ih (by omega); omega
theorem mn_congr {w w' : Nat → Nat} {n : Nat} (h : ∀ i, i < n → w i = w' i) : mn w n = mn w' n := by
  induction n with
  | zero => rfl
  | succ n ih =>
    rw [mn, mn]
    by_cases h0 : n = 0
    · rw [if_pos h0, if_pos h0]
    · have e := ih (fun i hi => h i (by omega))
      have hl := mn_lt w' (i := n) (by omega)
      rw [if_neg h0, if_neg h0, e, h n (by omega), h (mn w' n) (by omega)]
def mnR (w : Nat → Nat) (n : Nat) : Int32 := if n = 0 then -1 else nI (mn w n)
/-- how many years are left at worst, when t is shown to c -/
def shW (C : xM) (P : Nat → Bool) (t c : Nat) : Nat := if cS (fun y => P y && fY C t c y) 10 < cS (fun y => P y && !fY C t c y) 10 then cS (fun y => P y && !fY C t c y) 10 else cS (fun y => P y && fY C t c y) 10
theorem shW_le (C : xM) (P : Nat → Bool) (t c : Nat) : shW C P t c ≤ 10 := by
  unfold shW
  split
  · exact cS_le _ _
  · exact cS_le _ _
theorem g_max {a b : Nat} (ha : a < 2 ^ 31) (hb : b < 2 ^ 31) : (if nI a < nI b then nI b else nI a) = nI (if a < b then b else a) := by
  rw [ite_lt ha hb]
  split <;> rfl
theorem g_show {C : xM} {T K t : Nat} (hW : WC C T K) (ht : t < 5) (P : Nat → Bool) : f_X3_claimerToShow (nI t) (bS P 10) C = some (if bS P 10 = 0 then -1 else mnR (shW C P t) K) := by
  rw [f_X3_claimerToShow]
  by_cases h0 : bS P 10 = 0
  · rw [if_pos h0, if_pos h0]
  rw [if_neg h0, if_neg h0]
  have hK := hW.2.1
  have hK3 := hW.2.2.2.1
  refine for_ix (fun n (a : Int32 × Int32) i => f_X3_claimerToShow_l14 n (nI t) (bS P 10) a.1 a.2 i C) nI K (fun i a => (i = 0 ∧ a.1 = -1) ∨ (0 < i ∧ a.1 = nI (mn (shW C P t) i) ∧ a.2 = nI (shW C P t (mn (shW C P t) i)))) _ ?_ ?_ xN (-1, 0) (by rw [xN_v]; omega) (Or.inl ⟨rfl, rfl⟩)
  · rintro n ⟨a1, a2⟩ h
    show f_X3_claimerToShow_l14 (n + 1) (nI t) (bS P 10) a1 a2 (nI K) C = _
    rw [f_X3_claimerToShow_l14, hK, ite_le (by omega) (by omega), if_pos (Nat.le_refl K), mnR]
    rcases h with ⟨h1, h2⟩ | ⟨h1, h2, h3⟩
    · rw [if_pos h1]; exact congrArg some h2
    · rw [if_neg (by omega)]; exact congrArg some h2
  · rintro n i ⟨a1, a2⟩ hi h
    have hw := shW_le C P t i
    have hstep : f_X3_claimerToShow_l14 (n + 1) (nI t) (bS P 10) a1 a2 (nI i) C = if a1 = -1 then f_X3_claimerToShow_l14 n (nI t) (bS P 10) (nI i) (nI (shW C P t i)) (nI (i + 1)) C else if a2 ≤ nI (shW C P t i) then f_X3_claimerToShow_l14 n (nI t) (bS P 10) a1 a2 (nI (i + 1)) C else f_X3_claimerToShow_l14 n (nI t) (bS P 10) (nI i) (nI (shW C P t i)) (nI (i + 1)) C := by
      rw [f_X3_claimerToShow_l14, hK, ite_le (by omega) (by omega), if_neg (by omega), g_yearsFitting hW ht (by omega), ob_s, bS_and _ _ (by omega), bS_andn _ _ (by omega), g_bc, ob_s, g_bc, ob_s]
      have c1 := cS_le (fun y => P y && fY C t i y) 10
      have c2 := cS_le (fun y => P y && !fY C t i y) 10
      rw [g_max (by omega) (by omega), ← shW]
      simp only [f_X3_claimerToShow_b65, f_X3_claimerToShow_b72, nI_1]
    refine Or.inr ?_
    show ∃ a' : Int32 × Int32, _ ∧ f_X3_claimerToShow_l14 (n + 1) (nI t) (bS P 10) a1 a2 (nI i) C = _
    rw [hstep]
    rcases h with ⟨h1, h2⟩ | ⟨h1, h2, h3⟩
    · have h2 : a1 = -1 := h2
      refine ⟨(nI i, nI (shW C P t i)), Or.inr ⟨by omega, ?_, ?_⟩, ?_⟩
      · subst h1; rfl
      · subst h1; rfl
      · rw [if_pos h2]
    · have h2 : a1 = nI (mn (shW C P t) i) := h2
      have h3 : a2 = nI (shW C P t (mn (shW C P t) i)) := h3
      have hm := mn_lt (shW C P t) h1
      have hw2 := shW_le C P t (mn (shW C P t) i)
      rw [if_neg (by rw [h2]; exact nI_m1 (by omega)), h3, ite_le (by omega) (by omega)]
      by_cases hc : shW C P t (mn (shW C P t) i) ≤ shW C P t i
      · refine ⟨(a1, a2), Or.inr ⟨by omega, ?_, ?_⟩, ?_⟩
        · rw [mn, if_neg (by omega), if_neg (by omega)]; exact h2
        · rw [mn, if_neg (by omega), if_neg (by omega)]; exact h3
        · rw [if_pos hc, h3]
      · refine ⟨(nI i, nI (shW C P t i)), Or.inr ⟨by omega, ?_, ?_⟩, ?_⟩
        · rw [mn, if_neg (by omega), if_pos (by omega)]
        · rw [mn, if_neg (by omega), if_pos (by omega)]
        · rw [if_neg hc]
/-- how many of the first i things, that are among, have the sign s of the value v -/
def hmS (C : xM) (P : Nat → Bool) (s : Nat) (v : Int32) : Nat → Nat := fun i => cS (fun t => P t && decide (C.2.2 1 (t * 3 + s) = v)) i
/-- most alike among the first i things, counted over the first n -/
def moS (C : xM) (P : Nat → Bool) (s n : Nat) : Nat → Nat
  | 0 => 0
  | i + 1 => if P i then (if moS C P s n i < hmS C P s (C.2.2 1 (i * 3 + s)) n then hmS C P s (C.2.2 1 (i * 3 + s)) n else moS C P s n i) else moS C P s n i
theorem hmS_le (C : xM) (P : Nat → Bool) (s : Nat) (v : Int32) (i : Nat) : hmS C P s v i ≤ i := cS_le _ _
theorem moS_le (C : xM) (P : Nat → Bool) (s n i : Nat) : moS C P s n i ≤ n := by
  induction i with
  | zero => exact Nat.zero_le _
  | succ i ih =>
    rw [moS]
    split
    · split
      · exact hmS_le _ _ _ _ _
      · exact ih
    · exact ih
theorem g_isIn {P : Nat → Bool} {n t : Nat} (hn : n ≤ 31) (ht : t < n) : f_X5_isIn (bS P n) (nI t) = some (bI (P t)) := by
  have h1 := and_pw (bS P n) (n := t) (by omega)
  rw [b_bS P hn (by omega)] at h1
  rw [f_X5_isIn]
  cases hp : P t
  · rw [if_pos (h1.mpr (by simp [hp])), xbo_0]
  · rw [if_neg (fun h => by have := h1.mp h; simp [hp, ht] at this), xbo_1]
theorem g_howMany {C : xM} {T K s : Nat} (hW : WC C T K) (hs : s < 3) (P : Nat → Bool) (v : Int32) : f_X3_howManyAlike (bS P T) (nI s) v C = some (nI (hmS C P s v T)) := by
  have hT := hW.1
  have hT5 := hW.2.2.1
  refine for_ix (fun n a i => f_X3_howManyAlike_l6 n (bS P T) (nI s) v a i C) nI T (fun i a => a = nI (hmS C P s v i)) _ ?_ ?_ xN 0 (by rw [xN_v]; omega) rfl
  · rintro n a rfl
    show f_X3_howManyAlike_l6 (n + 1) (bS P T) (nI s) v _ (nI T) C = _
    rw [f_X3_howManyAlike_l6, hT, ite_le (by omega) (by omega), if_pos (Nat.le_refl T)]
  · rintro n i a hi rfl
    refine Or.inr ⟨_, rfl, ?_⟩
    show f_X3_howManyAlike_l6 (n + 1) (bS P T) (nI s) v _ (nI i) C = f_X3_howManyAlike_l6 n (bS P T) (nI s) v _ (nI (i + 1)) C
    rw [f_X3_howManyAlike_l6, hT, ite_le (by omega) (by omega), if_neg (by omega), g_isIn (by omega) hi, ob_s, ite_bI]
    have hm : hmS C P s v (i + 1) = if P i && decide (C.2.2 1 (i * 3 + s) = v) then hmS C P s v i + 1 else hmS C P s v i := rfl
    rw [hm]
    cases hp : P i with
    | false => simp [f_X3_howManyAlike_b38, nI_1]
    | true =>
      rw [if_pos rfl, g_signOf (by omega) hs, ob_s]
      by_cases h : C.2.2 1 (i * 3 + s) = v
      · simp [h, f_X3_howManyAlike_b38, nI_1]
      · simp [h, f_X3_howManyAlike_b38, nI_1]
theorem g_mostAlike {C : xM} {T K s : Nat} (hW : WC C T K) (hs : s < 3) (P : Nat → Bool) : f_X3_mostAlike (bS P T) (nI s) C = some (nI (moS C P s T T)) := by
  have hT := hW.1
  have hT5 := hW.2.2.1
  refine for_ix (fun n a i => f_X3_mostAlike_l5 n (bS P T) (nI s) a i C) nI T (fun i a => a = nI (moS C P s T i)) _ ?_ ?_ xN 0 (by rw [xN_v]; omega) rfl
  · rintro n a rfl
    show f_X3_mostAlike_l5 (n + 1) (bS P T) (nI s) _ (nI T) C = _
    rw [f_X3_mostAlike_l5, hT, ite_le (by omega) (by omega), if_pos (Nat.le_refl T)]
  · rintro n i a hi rfl
    refine Or.inr ⟨_, rfl, ?_⟩
    show f_X3_mostAlike_l5 (n + 1) (bS P T) (nI s) _ (nI i) C = f_X3_mostAlike_l5 n (bS P T) (nI s) _ (nI (i + 1)) C
    rw [f_X3_mostAlike_l5, hT, ite_le (by omega) (by omega), if_neg (by omega), g_isIn (by omega) hi, ob_s, ite_bI, moS]
    cases hp : P i with
    | false => simp [f_X3_mostAlike_b41, nI_1]
    | true =>
      have l1 := hmS_le C P s (C.2.2 1 (i * 3 + s)) T
      have l2 := moS_le C P s T i
      rw [if_pos rfl, if_pos rfl, g_signOf (by omega) hs, ob_s, g_howMany hW hs, ob_s, g_max (by omega) (by omega), f_X3_mostAlike_b41, nI_1]
theorem g_signToAsk {C : xM} {T K : Nat} (hW : WC C T K) (P : Nat → Bool) : f_X3_signToAsk (bS P T) C = some (if bS P T = 0 then -1 else nI (mn (fun s => moS C P s T T) 3)) := by
  rw [f_X3_signToAsk]
  by_cases h0 : bS P T = 0
  · rw [if_pos h0, if_pos h0]
  rw [if_neg h0, if_neg h0]
  have hT5 := hW.2.2.1
  have hle : ∀ s, moS C P s T T ≤ 5 := fun s => Nat.le_trans (moS_le _ _ _ _ _) hT5
  obtain ⟨w, hw⟩ : ∃ w : Nat → Nat, w = fun s => moS C P s T T := ⟨_, rfl⟩
  have hwl : ∀ s, w s ≤ 5 := by rw [hw]; exact hle
  rw [← hw]
  refine for_ix (fun n (a : Int32 × Int32) i => f_X3_signToAsk_l13 n (bS P T) a.1 a.2 i C) nI 3 (fun i a => (i = 0 ∧ a.1 = -1) ∨ (0 < i ∧ a.1 = nI (mn w i) ∧ a.2 = nI (w (mn w i)))) _ ?_ ?_ xN (-1, 0) (by rw [xN_v]; omega) (Or.inl ⟨rfl, rfl⟩)
  · rintro n ⟨a1, a2⟩ h
    show f_X3_signToAsk_l13 (n + 1) (bS P T) a1 a2 (nI 3) C = _
    rw [f_X3_signToAsk_l13, n3, ite_le (by omega) (by omega), if_pos (Nat.le_refl 3)]
    rcases h with ⟨h1, h2⟩ | ⟨h1, h2, h3⟩
    · omega
    · exact congrArg some h2
  · rintro n i ⟨a1, a2⟩ hi h
    have hwi := hwl i
    have hstep : f_X3_signToAsk_l13 (n + 1) (bS P T) a1 a2 (nI i) C = if a1 = -1 then f_X3_signToAsk_l13 n (bS P T) (nI i) (nI (w i)) (nI (i + 1)) C else if a2 ≤ nI (w i) then f_X3_signToAsk_l13 n (bS P T) a1 a2 (nI (i + 1)) C else f_X3_signToAsk_l13 n (bS P T) (nI i) (nI (w i)) (nI (i + 1)) C := by
      rw [f_X3_signToAsk_l13, n3, ite_le (by omega) (by omega), if_neg (by omega), g_mostAlike hW hi, ob_s, hw]
      simp only [f_X3_signToAsk_b39, f_X3_signToAsk_b45, nI_1]
    refine Or.inr ?_
    show ∃ a' : Int32 × Int32, _ ∧ f_X3_signToAsk_l13 (n + 1) (bS P T) a1 a2 (nI i) C = _
    rw [hstep]
    rcases h with ⟨h1, h2⟩ | ⟨h1, h2, h3⟩
    · have h2 : a1 = -1 := h2
      refine ⟨(nI i, nI (w i)), Or.inr ⟨by omega, ?_, ?_⟩, ?_⟩
      · subst h1; rfl
      · subst h1; rfl
      · rw [if_pos h2]
    · have h2 : a1 = nI (mn w i) := h2
      have h3 : a2 = nI (w (mn w i)) := h3
      have hm := mn_lt w h1
      have hw2 := hwl (mn w i)
      rw [if_neg (by rw [h2]; exact nI_m1 (by omega)), h3, ite_le (by omega) (by omega)]
      by_cases hc : w (mn w i) ≤ w i
      · refine ⟨(a1, a2), Or.inr ⟨by omega, ?_, ?_⟩, ?_⟩
        · rw [mn, if_neg (by omega), if_neg (by omega)]; exact h2
        · rw [mn, if_neg (by omega), if_neg (by omega)]; exact h3
        · rw [if_pos hc, h3]
      · refine ⟨(nI i, nI (w i)), Or.inr ⟨by omega, ?_, ?_⟩, ?_⟩
        · rw [mn, if_neg (by omega), if_pos (by omega)]
        · rw [mn, if_neg (by omega), if_pos (by omega)]
        · rw [if_neg hc]
/-- what a claimer has -/
def xOf (h : Nat → Int32) (c : Int32) : Int32 := if h 0 = c then 0 else if h 1 = c then 1 else if h 2 = c then 2 else if h 3 = c then 3 else if h 4 = c then 4 else -1
theorem g_thingOf {C : xM} {c : Int32} : f_X2_thingOf c C = some (xOf (C.2.2 3) c) := by
  have e0 : xe 5 (C.2.2 3) 0 = C.2.2 3 0 := xe_n (k := 0) (by omega) (by omega)
  have e1 : xe 5 (C.2.2 3) 1 = C.2.2 3 1 := xe_n (k := 1) (by omega) (by omega)
  have e2 : xe 5 (C.2.2 3) 2 = C.2.2 3 2 := xe_n (k := 2) (by omega) (by omega)
  have e3 : xe 5 (C.2.2 3) 3 = C.2.2 3 3 := xe_n (k := 3) (by omega) (by omega)
  have e4 : xe 5 (C.2.2 3) 4 = C.2.2 3 4 := xe_n (k := 4) (by omega) (by omega)
  have a0 : (0 : Int32) + 1 = 1 := rfl
  have a1 : (1 : Int32) + 1 = 2 := rfl
  have a2 : (2 : Int32) + 1 = 3 := rfl
  have a3 : (3 : Int32) + 1 = 4 := rfl
  have a4 : (4 : Int32) + 1 = 5 := rfl
  rw [f_X2_thingOf, show xN = 394 + 6 from rfl, xOf]
  rw [f_X2_thingOf_l2, if_neg (by decide), e0, a0]
  by_cases h0 : C.2.2 3 0 = c
  · rw [if_pos h0, if_pos h0]
  rw [if_neg h0, if_neg h0, f_X2_thingOf_l2, if_neg (by decide), e1, a1]
  by_cases h1 : C.2.2 3 1 = c
  · rw [if_pos h1, if_pos h1]
  rw [if_neg h1, if_neg h1, f_X2_thingOf_l2, if_neg (by decide), e2, a2]
  by_cases h2 : C.2.2 3 2 = c
  · rw [if_pos h2, if_pos h2]
  rw [if_neg h2, if_neg h2, f_X2_thingOf_l2, if_neg (by decide), e3, a3]
  by_cases h3 : C.2.2 3 3 = c
  · rw [if_pos h3, if_pos h3]
  rw [if_neg h3, if_neg h3, f_X2_thingOf_l2, if_neg (by decide), e4, a4]
  by_cases h4 : C.2.2 3 4 = c
  · rw [if_pos h4, if_pos h4]
  rw [if_neg h4, if_neg h4, f_X2_thingOf_l2, if_pos (by decide)]
theorem g_isBelow (x : Int32) {n : Nat} (hn : n < 2 ^ 31) : (∃ k, k < n ∧ x = nI k ∧ f_X5_isBelow x (nI n) = some (bI true)) ∨ ((∀ k, k < n → x ≠ nI k) ∧ f_X5_isBelow x (nI n) = some (bI false)) := by
  by_cases h0 : x < 0
  · refine Or.inr ⟨fun k hk e => ?_, by rw [f_X5_isBelow, if_pos h0, xbo_0]⟩
    rw [e] at h0
    exact nI_pos (by omega) h0
  · obtain ⟨k, hk, rfl⟩ := nI_of h0
    by_cases h1 : n ≤ k
    · refine Or.inr ⟨fun j hj e => ?_, by rw [f_X5_isBelow, if_neg h0, ite_le (by omega) (by omega), if_pos h1, xbo_0]⟩
      have := nI_inj (by omega) (by omega) e
      omega
    · exact Or.inl ⟨k, by omega, rfl, by rw [f_X5_isBelow, if_neg h0, ite_le (by omega) (by omega), if_neg h1, xbo_1]⟩
