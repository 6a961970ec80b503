/-! ===== the matching, by the class ===== -/
theorem ix_d {c n : Nat} (hc : c < 2 ^ 31) (hn : n < 2 ^ 31) : isIx (nI c) n = decide (c < n) := by
  unfold isIx
  exact decide_eq_decide.mpr ⟨fun h => (nI_ltI hc hn).mp h.2, fun h => ⟨nI_pos' (by omega), (nI_ltI hc hn).mpr h⟩⟩
/-- a loop that counts up, told by what stands at its end -/
theorem for_ex {α β : Type} (l : Nat → α → Int32 → β) (ix : Nat → Int32) (B : Nat) (inv : Nat → α → Prop) (out : α → β)
    (hx : ∀ n a, inv B a → l (n + 1) a (ix B) = out a)
    (hs : ∀ n i a, i < B → inv i a → ∃ a', inv (i + 1) a' ∧ l (n + 1) a (ix i) = l n a' (ix (i + 1))) :
    ∀ n a, B < n → inv 0 a → ∃ a', inv B a' ∧ l n a (ix 0) = out a' := by
  intro n a hn h
  have := for_ix (fun n a i => ∃ a', inv B a' ∧ l n a i = out a') ix B inv True (fun n a h => eq_true ⟨a, h, hx n a h⟩) (fun n i a hi h => by
    obtain ⟨a', h1, h2⟩ := hs n i a hi h
    refine Or.inr ⟨a', h1, ?_⟩
    show (∃ a'', inv B a'' ∧ l (n + 1) a (ix i) = out a'') = _
    rw [h2]) n a hn h
  exact of_eq_true this
section MC
variable {T K S mo : Nat} {C D : xM}
def pvM (C : xM) (T K c t : Nat) : Int32 := if okM C T K c (t + 1) then wO C t c else -1
theorem c_hasC (hB : IvB T K C D) {c : Nat} (hc : c < 3) : f_X3_hasClaimer (nI c) C = some (bI (decide (c < K))) := by
  have h3 := hB.2.2.2.2.2.1
  rw [c_isC hB, ix_d (by omega) (by omega)]
theorem c_hasT (hB : IvB T K C D) {t : Nat} (ht : t < 5) : f_X3_hasThing (nI t) C = some (bI (decide (t < T))) := by
  have h5 := hB.2.2.2.2.1
  rw [c_isT hB, ix_d (by omega) (by omega)]
theorem ok_s {c t : Nat} : okM C T K c (t + 1) = (decide (c < K) && decide (xOf (C.2.2 3) (nI c) = -1) && decide (t < T) && decide (C.2.2 3 t = -1) && fO C t c) := by
  rw [okM, decide_eq_false (show ¬ t + 1 = 0 by omega)]
  rfl
/-- the prices of one claimer -/
theorem c_row (hB : IvB T K C D) {i : Nat} (hi : i < 3) (k10 : Int32 → xM → Option xM) (P : Nat → Int32)
    (hP : ∀ c t, c < i → t < 5 → P (c * 5 + t) = pvM C T K c t) :
    ∃ Q : Nat → Int32, (∀ c t, c < i + 1 → t < 5 → Q (c * 5 + t) = pvM C T K c t) ∧ f_X0_setPrices_l44 k10 xN (nI i) (bI (decide (i < K) && decide (xOf (C.2.2 3) (nI i) = -1))) 0 (xA C 13 P) = k10 (nI (i + 1)) (xA C 13 Q) := by
  have h3 := hB.2.2.2.2.2.1
  have h5 := hB.2.2.2.2.1
  refine Exists.elim (for_ex (fun n (a : Nat → Int32) j => f_X0_setPrices_l44 k10 n (nI i) (bI (decide (i < K) && decide (xOf (C.2.2 3) (nI i) = -1))) j (xA C 13 a)) nI 5 (fun j a => (∀ c t, c < i → t < 5 → a (c * 5 + t) = pvM C T K c t) ∧ ∀ t, t < j → a (i * 5 + t) = pvM C T K i t) (fun Q => k10 (nI (i + 1)) (xA C 13 Q)) ?_ ?_ xN P (by rw [xN_v]; omega) ⟨hP, fun t ht => by omega⟩) ?_
  · rintro n a ⟨h1, h2⟩
    show f_X0_setPrices_l44 k10 (n + 1) (nI i) _ (nI 5) (xA C 13 a) = k10 (nI (i + 1)) (xA C 13 a)
    rw [f_X0_setPrices_l44, n5, ite_le (by omega) (by omega), if_pos (Nat.le_refl 5), nI_1]
  · rintro n j a hj ⟨h1, h2⟩
    refine ⟨upd a (i * 5 + j) (pvM C T K i j), ⟨fun c t hc ht => ?_, fun t ht => ?_⟩, ?_⟩
    · rw [upd_n (by omega)]; exact h1 c t hc ht
    · by_cases e : t = j
      · subst e; exact upd_s
      · rw [upd_n (by omega)]; exact h2 t (by omega)
    show f_X0_setPrices_l44 k10 (n + 1) (nI i) _ (nI j) (xA C 13 a) = f_X0_setPrices_l44 k10 n (nI i) _ (nI (j + 1)) (xA C 13 (upd a (i * 5 + j) (pvM C T K i j)))
    obtain ⟨E, hE⟩ : ∃ E, E = xA C 13 a := ⟨_, rfl⟩
    have hBE : IvB T K E D := by rw [hE]; exact hB
    have eh : E.2.2 3 = C.2.2 3 := by rw [hE]; rfl
    have ep : E.2.2 13 = a := by rw [hE]; rfl
    have eA : ∀ f, xA E 13 f = xA C 13 f := fun f => by rw [hE, xA_A]
    have fr : sC C E := by rw [hE]; exact sC_A (by omega)
    have cont : ∀ y : Int32, y = pvM C T K i j → f_X0_setPrices_b119 k10 (f_X0_setPrices_l44 k10 n) (nI i) (bI (decide (i < K) && decide (xOf (C.2.2 3) (nI i) = -1))) (nI j) y ((nI i * 5) + nI j) E = f_X0_setPrices_l44 k10 n (nI i) (bI (decide (i < K) && decide (xOf (C.2.2 3) (nI i) = -1))) (nI (j + 1)) (xA C 13 (upd a (i * 5 + j) (pvM C T K i j))) := by
      intro y hy
      rw [f_X0_setPrices_b119, nm_s, n5, pk_mul, nI_add, xp_n (by omega) (by omega), ep, eA, nI_1, hy]
    have no : pvM C T K i j = -1 → f_X0_setPrices_b90 k10 (f_X0_setPrices_l44 k10 n) (nI i) (bI (decide (i < K) && decide (xOf (C.2.2 3) (nI i) = -1))) (nI j) E = f_X0_setPrices_l44 k10 n (nI i) (bI (decide (i < K) && decide (xOf (C.2.2 3) (nI i) = -1))) (nI (j + 1)) (xA C 13 (upd a (i * 5 + j) (pvM C T K i j))) := by
      intro h
      rw [f_X0_setPrices_b90, f_X0_setPrices_b91, if_pos rfl]
      exact cont (-1) h.symm
    rw [← hE, f_X0_setPrices_l44, n5, ite_le (by omega) (by omega), if_neg (by omega), ite_bI]
    have epv : pvM C T K i j = if (decide (i < K) && decide (xOf (C.2.2 3) (nI i) = -1)) && (decide (j < T) && decide (C.2.2 3 j = -1) && fO C j i) then wO C j i else -1 := by
      rw [pvM, ok_s]
      simp only [Bool.and_assoc]
    by_cases q1 : (decide (i < K) && decide (xOf (C.2.2 3) (nI i) = -1)) = true
    · rw [if_pos q1, c_hasT hBE hj, ob_s, ite_bI]
      rw [q1, Bool.true_and] at epv
      by_cases q2 : j < T
      · rw [decide_eq_true q2, Bool.true_and] at epv
        rw [if_pos (decide_eq_true q2), g_holder hj, ob_s, eh]
        by_cases q3 : C.2.2 3 j = -1
        · rw [decide_eq_true q3, Bool.true_and] at epv
          rw [if_pos q3, g_fits (ivWC hBE) hj hi, ob_s, ite_bI, fr_fO fr]
          by_cases q4 : fO C j i = true
          · rw [if_pos q4] at epv
            rw [if_pos q4, f_X0_setPrices_b91, if_neg (by decide), g_wrongOf (ivWC hBE) hj hi, ob_s, fr_wO fr]
            exact cont _ epv.symm
          · rw [if_neg q4] at epv
            rw [if_neg q4]
            exact no epv
        · rw [decide_eq_false q3, Bool.false_and, if_neg (by simp)] at epv
          rw [if_neg q3]
          exact no epv
      · rw [decide_eq_false q2, Bool.false_and, Bool.false_and, if_neg (by simp)] at epv
        rw [if_neg (by simp [q2])]
        exact no epv
    · have q1' : (decide (i < K) && decide (xOf (C.2.2 3) (nI i) = -1)) = false := by simpa using q1
      rw [if_neg q1]
      refine no ?_
      rw [epv, q1', Bool.false_and, if_neg (by simp)]
  · rintro Q ⟨⟨q1, q2⟩, q3⟩
    refine ⟨Q, fun c t hc ht => ?_, q3⟩
    by_cases e : c < i
    · exact q1 c t e ht
    · have : c = i := by omega
      subst this
      exact q2 t ht
theorem c_prices (hB : IvB T K C D) : ∃ P : Nat → Int32, f_X0_setPrices C = some (xA (xI C 13 (nI T)) 13 P) ∧ ∀ c t, c < 3 → t < 5 → P (c * 5 + t) = pvM C T K c t := by
  have h3 := hB.2.2.2.2.2.1
  have h5 := hB.2.2.2.2.1
  obtain ⟨E, hE⟩ : ∃ E, E = xI C 13 (nI T) := ⟨_, rfl⟩
  have hBE : IvB T K E D := by rw [hE]; exact hB
  have eh : E.2.2 3 = C.2.2 3 := by rw [hE]; rfl
  have fr : sC C E := by rw [hE]; exact sC_I (by omega)
  have epv : ∀ c t, pvM E T K c t = pvM C T K c t := by
    intro c t
    unfold pvM
    rw [ok_s, ok_s, eh, fr_fO fr, fr_wO fr]
  have eE : xA E 13 (E.2.2 13) = E := by
    unfold xA
    have : va_up E.2.2 13 (E.2.2 13) = E.2.2 := by
      funext j
      unfold va_up
      by_cases e : j = 13
      · rw [if_pos e, e]
      · rw [if_neg e]
    rw [this]
  refine Exists.elim (for_ex (fun n (a : Nat → Int32) i => f_X0_setPrices_l10 n i (xA E 13 a)) nI 3 (fun i a => ∀ c t, c < i → t < 5 → a (c * 5 + t) = pvM E T K c t) (fun Q => some (xA E 13 Q)) ?_ ?_ xN (E.2.2 13) (by rw [xN_v]; omega) (fun c t hc => by omega)) ?_
  · intro n Q hQ
    show f_X0_setPrices_l10 (n + 1) (nI 3) (xA E 13 Q) = some (xA E 13 Q)
    rw [f_X0_setPrices_l10, n3, ite_le (by omega) (by omega), if_pos (Nat.le_refl 3)]
  · intro n i P hi hP
    obtain ⟨Q, hQ, main⟩ := c_row hBE hi (f_X0_setPrices_l10 n) P hP
    refine ⟨Q, hQ, ?_⟩
    show f_X0_setPrices_l10 (n + 1) (nI i) (xA E 13 P) = f_X0_setPrices_l10 n (nI (i + 1)) (xA E 13 Q)
    have hBP : IvB T K (xA E 13 P) D := hBE
    have eh2 : (xA E 13 P).2.2 3 = E.2.2 3 := rfl
    rw [f_X0_setPrices_l10, n3, ite_le (by omega) (by omega), if_neg (by omega), c_hasC hBP hi, ob_s, ite_bI]
    by_cases q : i < K
    · rw [decide_eq_true q, Bool.true_and] at main
      rw [if_pos (decide_eq_true q), g_thingOf, ob_s, eh2]
      by_cases q2 : xOf (E.2.2 3) (nI i) = -1
      · rw [decide_eq_true q2] at main
        rw [if_pos q2, f_X0_setPrices_b40]
        exact main
      · rw [decide_eq_false q2] at main
        rw [if_neg q2, f_X0_setPrices_b39, f_X0_setPrices_b40]
        exact main
    · rw [decide_eq_false q, Bool.false_and] at main
      rw [if_neg (by simp [q]), f_X0_setPrices_b39, f_X0_setPrices_b40]
      exact main
  · rintro Q ⟨q1, q2⟩
    refine ⟨Q, ?_, fun c t hc ht => by rw [q1 c t hc ht, epv]⟩
    have q2 : f_X0_setPrices_l10 xN (nI 0) (xA E 13 (E.2.2 13)) = some (xA E 13 Q) := q2
    rw [eE] at q2
    rw [f_X0_setPrices, f_X3_things, ob_s, nm_s, hB.1, ← hE]
    exact q2
/-- where the class stands in its search -/
def cR (C : xM) (T : Nat) (P : Nat → Int32) (s : Bst) (M : xM) : Prop := sC C M ∧ M.1 13 = nI T ∧ M.2.2 13 = P ∧ M.1 14 = s.1 ∧ (s.1 = -1 ∨ (M.1 15 = s.2.1 ∧ M.2.2 14 0 = s.2.2.1 ∧ M.2.2 14 1 = s.2.2.2.1 ∧ M.2.2 14 2 = s.2.2.2.2))
def pR (C : xM) (T K : Nat) (P : Nat → Int32) : Prop := ∀ c t, c < 3 → t < 5 → P (c * 5 + t) = pvM C T K c t
theorem c_one (d : Nat) (h : d ≤ 5) : f_X0_oneIfGiven (dg d) = some (oneM d) := by
  rw [f_X0_oneIfGiven, oneM]
  by_cases e : d = 0
  · subst e; rfl
  · rw [if_neg (fun q => e ((dg_m1 (by omega)).mp q)), if_neg e]
theorem c_twice (a b : Nat) (ha : a ≤ 5) (hb : b ≤ 5) : f_X0_isTwice (dg a) (dg b) = some (bI (twc a b)) := by
  rw [f_X0_isTwice, twc]
  by_cases e : a = b
  · subst e
    rw [if_pos rfl, decide_eq_true rfl, Bool.true_and]
    by_cases z : a = 0
    · subst z; rfl
    · rw [if_neg (fun q => z ((dg_m1 (by omega)).mp q)), xbo_1, decide_eq_true z]
  · rw [if_neg (fun q => e ((dg_inj (by omega) (by omega)).mp q)), decide_eq_false e, xbo_0, Bool.false_and]
theorem c_price {P : Nat → Int32} {s : Bst} {M : xM} (hP : pR C T K P) (hM : cR C T P s M) {c t : Nat} (hc : c < 3) (ht : t < 5) : f_X0_price (nI c) (nI t) M = some (pvM C T K c t) := by
  rw [f_X0_price, n5, pk_mul, nI_add, xe_n (by omega) (by omega), hM.2.2.1, hP c t hc ht]
theorem ok_in {c t : Nat} (h : okM C T K c (t + 1) = true) : c < K ∧ t < T := by
  rw [ok_s] at h
  simp at h
  exact ⟨h.1.1.1.1, h.1.1.2⟩
theorem c_may (hR : RD C D T K) {P : Nat → Int32} {s : Bst} {M : xM} (hP : pR C T K P) (hM : cR C T P s M) {c d : Nat} (hc : c < 3) (hd : d ≤ 5) : f_X0_may (nI c) (dg d) M = some (bI (okM C T K c d)) := by
  rw [f_X0_may]
  cases d with
  | zero => rfl
  | succ t =>
    rw [if_neg (show ¬ dg (t + 1) = -1 from fun q => by have := (dg_m1 (by omega)).mp q; omega), show dg (t + 1) = nI t from rfl, c_price hP hM hc (by omega), ob_s, pvM]
    cases h : okM C T K c (t + 1) with
    | false => rw [if_neg (show ¬ (false = true) by decide), if_pos rfl, xbo_0]
    | true =>
      obtain ⟨h1, h2⟩ := ok_in h
      rw [if_pos rfl, if_neg (wO_m1 hR h2 h1), xbo_1]
theorem c_prIf (hR : RD C D T K) {P : Nat → Int32} {s : Bst} {M : xM} (hP : pR C T K P) (hM : cR C T P s M) {c d : Nat} (hc : c < 3) (hd : d ≤ 5) (ho : okM C T K c d = true) : f_X0_priceIfGiven (nI c) (dg d) M = some (prM C c d) := by
  rw [f_X0_priceIfGiven]
  cases d with
  | zero => rfl
  | succ t =>
    rw [if_neg (show ¬ dg (t + 1) = -1 from fun q => by have := (dg_m1 (by omega)).mp q; omega), show dg (t + 1) = nI t from rfl, c_price hP hM hc (by omega), ob_s, pvM, if_pos ho, prM, if_neg (by omega)]
    rfl
theorem c_keepB (hR : RD C D T K) {P : Nat → Int32} {s : Bst} {M : xM} (hP : pR C T K P) (hM : cR C T P s M) {a b c : Nat} (ha : a ≤ 5) (hb : b ≤ 5) (hc : c ≤ 5) (oa : okM C T K 0 a = true) (ob : okM C T K 1 b = true) (oc : okM C T K 2 c = true) :
    ∃ M', f_X0_keepIfBetter (dg a) (dg b) (dg c) M = some M' ∧ cR C T P (kpM C s a b c) M' := by
  have k0 : f_X0_priceIfGiven 0 (dg a) M = some (prM C 0 a) := c_prIf hR hP hM (c := 0) (by omega) ha oa
  have k1 : f_X0_priceIfGiven 1 (dg b) M = some (prM C 1 b) := c_prIf hR hP hM (c := 1) (by omega) hb ob
  have k2 : f_X0_priceIfGiven 2 (dg c) M = some (prM C 2 c) := c_prIf hR hP hM (c := 2) (by omega) hc oc
  rw [f_X0_keepIfBetter, c_one a ha, ob_s, c_one b hb, ob_s, c_one c hc, ob_s, k0, ob_s, k1, ob_s, k2, ob_s]
  obtain ⟨m1, m2, m3, m4, m5⟩ := hM
  have kb : ∀ p w : Int32, ∃ M', f_X0_keepIfBetter_b66 (dg a) (dg b) (dg c) p w M = some M' ∧ cR C T P (p, w, dg a, dg b, dg c) M' := by
    intro p w
    have x0 : ∀ f x, xp 3 f 0 x = upd f 0 x := fun f x => xp_n (k := 0) (by omega) (by omega)
    have x1 : ∀ f x, xp 3 f 1 x = upd f 1 x := fun f x => xp_n (k := 1) (by omega) (by omega)
    have x2 : ∀ f x, xp 3 f 2 x = upd f 2 x := fun f x => xp_n (k := 2) (by omega) (by omega)
    rw [f_X0_keepIfBetter_b66, nm_s, nm_s, nm_s, nm_s, nm_s, x0, x1, x2]
    refine ⟨_, rfl, ?_, m2, m3, rfl, Or.inr ⟨rfl, rfl, rfl, rfl⟩⟩
    exact sC_t (sC_t (sC_t (sC_t (sC_t m1 (sC_I (by omega))) (sC_I (by omega))) (sC_A (by omega))) (sC_A (by omega))) (sC_A (by omega))
  rw [m4]
  unfold kpM
  by_cases h1 : (oneM a + oneM b) + oneM c < s.1
  · rw [if_pos h1, if_pos h1]
    exact ⟨M, rfl, m1, m2, m3, m4, m5⟩
  · rw [if_neg h1, if_neg h1]
    by_cases h2 : (oneM a + oneM b) + oneM c = s.1
    · rw [if_pos h2, if_pos h2]
      have h3 : s.1 ≠ -1 := by
        rw [← h2]
        exact one3 a b c
      obtain ⟨n1, n2⟩ := m5.resolve_left h3
      rw [n1]
      by_cases h4 : (prM C 0 a + prM C 1 b) + prM C 2 c < s.2.1
      · rw [if_pos h4, if_pos h4]
        exact kb _ _
      · rw [if_neg h4, if_neg h4]
        exact ⟨M, rfl, m1, m2, m3, m4, m5⟩
    · rw [if_neg h2, if_neg h2]
      exact kb _ _
theorem c_le {T d : Nat} (hT : T ≤ 5) (hd : d ≤ 6) : (nI T ≤ dg d) ↔ T < d := by
  cases d with
  | zero =>
    constructor
    · intro h
      have h1 : nI T ≤ (-1 : Int32) := h
      have h2 : (0 : Int32) ≤ nI T := nI_pos' (by omega)
      exact absurd (Int32.le_trans h2 h1) (by decide)
    · intro h; omega
  | succ t => exact ⟨fun h => by have := (nI_leI (by omega) (by omega)).mp h; omega, fun h => (nI_leI (by omega) (by omega)).mpr (by omega)⟩
theorem c_l65 (hR : RD C D T K) {P : Nat → Int32} {s : Bst} {M : xM} (hP : pR C T K P) (hM : cR C T P s M) {a b : Nat} (ha : a ≤ 5) (hb : b ≤ 5) (oa : okM C T K 0 a = true) (ob : okM C T K 1 b = true) (hab : twc a b = false) (k12 : Int32 → xM → Option xM) (k34 : Int32 → Int32 → xM → Option xM) :
    ∃ M', cR C T P (fld (fun s c => stM C T K s a b c) s (T + 1)) M' ∧ f_X0_solve_l65 k12 k34 xN (dg a) (dg b) (-1) M = f_X0_solve_b119 k12 k34 (dg a) (dg b) M' := by
  have h5 := hR.1.2.2.1
  refine for_ex (fun n (M : xM) x => f_X0_solve_l65 k12 k34 n (dg a) (dg b) x M) dg (T + 1) (fun i M => cR C T P (fld (fun s c => stM C T K s a b c) s i) M) (fun M' => f_X0_solve_b119 k12 k34 (dg a) (dg b) M') ?_ ?_ xN M (by rw [xN_v]; omega) hM
  · intro n M hM
    show f_X0_solve_l65 k12 k34 (n + 1) (dg a) (dg b) (dg (T + 1)) M = _
    rw [f_X0_solve_l65, hM.2.1, if_pos ((c_le h5 (by omega)).mpr (by omega))]
  · intro n i M hi hM
    have km : f_X0_may 2 (dg i) M = some (bI (okM C T K 2 i)) := c_may hR hP hM (c := 2) (by omega) (by omega)
    have st : f_X0_solve_l65 k12 k34 (n + 1) (dg a) (dg b) (dg i) M = (if okM C T K 2 i = true then (if twc a i = true then f_X0_solve_l65 k12 k34 n (dg a) (dg b) (dg (i + 1)) M else if twc b i = true then f_X0_solve_l65 k12 k34 n (dg a) (dg b) (dg (i + 1)) M else (f_X0_keepIfBetter (dg a) (dg b) (dg i) M).bind fun M18 => f_X0_solve_l65 k12 k34 n (dg a) (dg b) (dg (i + 1)) M18) else f_X0_solve_l65 k12 k34 n (dg a) (dg b) (dg (i + 1)) M) := by
      have nb : ∀ M, f_X0_solve_b113 k12 k34 (f_X0_solve_l65 k12 k34 n) (dg a) (dg b) (dg i) M = f_X0_solve_l65 k12 k34 n (dg a) (dg b) (dg (i + 1)) M := fun M => by rw [f_X0_solve_b113, dg_succ]
      rw [f_X0_solve_l65, hM.2.1, if_neg (fun q => by have := (c_le h5 (by omega)).mp q; omega), km, ob_s, ite_bI, c_twice a i ha (by omega), ob_s, ite_bI, c_twice b i hb (by omega), ob_s, ite_bI]
      simp only [nb]
    show ∃ M', cR C T P (fld (fun s c => stM C T K s a b c) s (i + 1)) M' ∧ f_X0_solve_l65 k12 k34 (n + 1) (dg a) (dg b) (dg i) M = f_X0_solve_l65 k12 k34 n (dg a) (dg b) (dg (i + 1)) M'
    rw [st, fld]
    have e : stM C T K (fld (fun s c => stM C T K s a b c) s i) a b i = if okM C T K 2 i = true then (if twc a i = true then fld (fun s c => stM C T K s a b c) s i else if twc b i = true then fld (fun s c => stM C T K s a b c) s i else kpM C (fld (fun s c => stM C T K s a b c) s i) a b i) else fld (fun s c => stM C T K s a b c) s i := by
      rw [stM, vM3, oa, ob, hab]
      cases okM C T K 2 i <;> cases twc a i <;> cases twc b i <;> rfl
    rw [e]
    by_cases q1 : okM C T K 2 i = true
    · rw [if_pos q1, if_pos q1]
      by_cases q2 : twc a i = true
      · rw [if_pos q2, if_pos q2]; exact ⟨M, hM, rfl⟩
      · rw [if_neg q2, if_neg q2]
        by_cases q3 : twc b i = true
        · rw [if_pos q3, if_pos q3]; exact ⟨M, hM, rfl⟩
        · rw [if_neg q3, if_neg q3]
          obtain ⟨M', k1, k2⟩ := c_keepB hR hP hM ha hb (show i ≤ 5 by omega) oa ob q1
          rw [k1, ob_s]
          exact ⟨M', k2, rfl⟩
    · rw [if_neg q1, if_neg q1]; exact ⟨M, hM, rfl⟩
theorem st_noa {a b c : Nat} {s : Bst} (h : okM C T K 0 a = false) : stM C T K s a b c = s := by
  rw [stM, vM3, h, if_neg (by simp)]
theorem st_nob {a b c : Nat} {s : Bst} (h : okM C T K 1 b = false) : stM C T K s a b c = s := by
  rw [stM, vM3, h, if_neg (by simp)]
theorem st_nt {a b c : Nat} {s : Bst} (h : twc a b = true) : stM C T K s a b c = s := by
  rw [stM, vM3, h, if_neg (by simp)]
theorem c_l34 (hR : RD C D T K) {P : Nat → Int32} {s : Bst} {M : xM} (hP : pR C T K P) (hM : cR C T P s M) {a : Nat} (ha : a ≤ 5) (oa : okM C T K 0 a = true) (k12 : Int32 → xM → Option xM) :
    ∃ M', cR C T P (fld (fun s b => fld (fun s c => stM C T K s a b c) s (T + 1)) s (T + 1)) M' ∧ f_X0_solve_l34 k12 xN (dg a) (-1) M = f_X0_solve_b125 k12 (dg a) M' := by
  have h5 := hR.1.2.2.1
  refine for_ex (fun n (M : xM) x => f_X0_solve_l34 k12 n (dg a) x M) dg (T + 1) (fun i M => cR C T P (fld (fun s b => fld (fun s c => stM C T K s a b c) s (T + 1)) s i) M) (fun M' => f_X0_solve_b125 k12 (dg a) M') ?_ ?_ xN M (by rw [xN_v]; omega) hM
  · intro n M hM
    show f_X0_solve_l34 k12 (n + 1) (dg a) (dg (T + 1)) M = _
    rw [f_X0_solve_l34, hM.2.1, if_pos ((c_le h5 (by omega)).mpr (by omega))]
  · intro n i M hi hM
    have km : f_X0_may 1 (dg i) M = some (bI (okM C T K 1 i)) := c_may hR hP hM (c := 1) (by omega) (by omega)
    have nb : ∀ M, f_X0_solve_b119 k12 (f_X0_solve_l34 k12 n) (dg a) (dg i) M = f_X0_solve_l34 k12 n (dg a) (dg (i + 1)) M := fun M => by rw [f_X0_solve_b119, dg_succ]
    show ∃ M', cR C T P (fld (fun s b => fld (fun s c => stM C T K s a b c) s (T + 1)) s (i + 1)) M' ∧ f_X0_solve_l34 k12 (n + 1) (dg a) (dg i) M = f_X0_solve_l34 k12 n (dg a) (dg (i + 1)) M'
    rw [fld, f_X0_solve_l34, hM.2.1, if_neg (fun q => by have := (c_le h5 (by omega)).mp q; omega), km, ob_s, ite_bI, c_twice a i ha (by omega), ob_s, ite_bI, nb]
    by_cases q1 : okM C T K 1 i = true
    · rw [if_pos q1]
      by_cases q2 : twc a i = true
      · rw [if_pos q2, fld_none (g := fun s c => stM C T K s a i c) (fun s c hc => st_nt q2)]
        exact ⟨M, hM, rfl⟩
      · rw [if_neg q2]
        obtain ⟨M', k1, k2⟩ := c_l65 hR hP hM ha (show i ≤ 5 by omega) oa q1 (by simpa using q2) k12 (f_X0_solve_l34 k12 n)
        rw [nb] at k2
        exact ⟨M', k1, k2⟩
    · rw [if_neg q1, fld_none (g := fun s c => stM C T K s a i c) (fun s c hc => st_nob (by simpa using q1))]
      exact ⟨M, hM, rfl⟩
theorem c_solve (hB : IvB T K C D) (hR : RD C D T K) : ∃ M' P, f_X0_solve C = some M' ∧ cR C T P (f3M C T K (-1, 0, 0, 0, 0) (T + 1)) M' := by
  have h5 := hR.1.2.2.1
  obtain ⟨P, p1, p2⟩ := c_prices hB
  have hP : pR C T K P := p2
  obtain ⟨M0, hM0⟩ : ∃ M0, M0 = xI (xA (xI C 13 (nI T)) 13 P) 14 (-1) := ⟨_, rfl⟩
  have r0 : cR C T P (-1, 0, 0, 0, 0) M0 := by
    rw [hM0]
    exact ⟨sC_t (sC_t (sC_I (by omega)) (sC_A (by omega))) (sC_I (by omega)), rfl, rfl, rfl, Or.inl rfl⟩
  have main : ∃ M', cR C T P (f3M C T K (-1, 0, 0, 0, 0) (T + 1)) M' ∧ f_X0_solve_l12 xN (-1) M0 = some M' := by
    refine for_ex (fun n (M : xM) x => f_X0_solve_l12 n x M) dg (T + 1) (fun i M => cR C T P (fld (fun s a => fld (fun s b => fld (fun s c => stM C T K s a b c) s (T + 1)) s (T + 1)) (-1, 0, 0, 0, 0) i) M) (fun M' => some M') ?_ ?_ xN M0 (by rw [xN_v]; omega) r0
    · intro n M hM
      show f_X0_solve_l12 (n + 1) (dg (T + 1)) M = _
      rw [f_X0_solve_l12, hM.2.1, if_pos ((c_le h5 (by omega)).mpr (by omega))]
    · intro n i M hi hM
      have km : f_X0_may 0 (dg i) M = some (bI (okM C T K 0 i)) := c_may hR hP hM (c := 0) (by omega) (by omega)
      have nb : ∀ M, f_X0_solve_b125 (f_X0_solve_l12 n) (dg i) M = f_X0_solve_l12 n (dg (i + 1)) M := fun M => by rw [f_X0_solve_b125, dg_succ]
      show ∃ M', cR C T P (fld (fun s a => fld (fun s b => fld (fun s c => stM C T K s a b c) s (T + 1)) s (T + 1)) (-1, 0, 0, 0, 0) (i + 1)) M' ∧ f_X0_solve_l12 (n + 1) (dg i) M = f_X0_solve_l12 n (dg (i + 1)) M'
      rw [fld, f_X0_solve_l12, hM.2.1, if_neg (fun q => by have := (c_le h5 (by omega)).mp q; omega), km, ob_s, ite_bI, nb]
      by_cases q1 : okM C T K 0 i = true
      · rw [if_pos q1]
        obtain ⟨M', k1, k2⟩ := c_l34 hR hP hM (show i ≤ 5 by omega) q1 (f_X0_solve_l12 n)
        rw [nb] at k2
        exact ⟨M', k1, k2⟩
      · rw [if_neg q1, fld_none (g := fun s b => fld (fun s c => stM C T K s i b c) s (T + 1)) (fun s b hb => fld_none (fun s c hc => st_noa (by simpa using q1)))]
        exact ⟨M, hM, rfl⟩
  obtain ⟨M', m1, m2⟩ := main
  refine ⟨M', P, ?_, m1⟩
  rw [f_X0_solve, p1, ob_s, nm_s, ← hM0]
  exact m2
end MC
