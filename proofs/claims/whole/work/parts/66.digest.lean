/-! ===== the digest ===== -/
theorem for_ex2 {α β γ δ : Type} (lc : Nat → α → Int32 → γ) (lm : Nat → β → Int32 → δ) (ix : Nat → Int32) (B : Nat) (inv : α → β → Prop) (oc : α → γ) (om : β → δ)
    (hx : ∀ n m a b, inv a b → lc (n + 1) a (ix B) = oc a ∧ lm (m + 1) b (ix B) = om b)
    (hs : ∀ n m i a b, i < B → inv a b → ∃ a' b', inv a' b' ∧ lc (n + 1) a (ix i) = lc n a' (ix (i + 1)) ∧ lm (m + 1) b (ix i) = lm m b' (ix (i + 1))) :
    ∀ n a b, B < n → inv a b → ∃ a' b', inv a' b' ∧ lc n a (ix 0) = oc a' ∧ lm n b (ix 0) = om b' := by
  intro n a b hn h
  have := for_ix (fun n (a : α × β) i => ∃ a' b', inv a' b' ∧ lc n a.1 i = oc a' ∧ lm n a.2 i = om b') ix B (fun _ a => inv a.1 a.2) True (fun n a h => eq_true ⟨a.1, a.2, h, hx n n a.1 a.2 h⟩) (fun n i a hi h => by
    obtain ⟨a', b', h1, h2, h3⟩ := hs n n i a.1 a.2 hi h
    refine Or.inr ⟨(a', b'), h1, ?_⟩
    show (∃ a'' b'', inv a'' b'' ∧ lc (n + 1) a.1 (ix i) = oc a'' ∧ lm (n + 1) a.2 (ix i) = om b'') = _
    rw [h2, h3]) n (a, b) hn h
  exact of_eq_true this
def mx (h : Int64) (r : Int32) : Int64 := (31 : Int64) * h + r.toInt64
theorem c_mix (h : Int64) (r : Int32) : f_X5_mixed h r = some (mx h r) := rfl
theorem m_say (M : xM) (r : Int32) : f_X6_say r.toInt64 M = some (xL M (mx M.2.1 r)) := rfl
/-- the two hashes are one, and what counts is as it was -/
def gR (D : xM) (h : Int64) (M : xM) : Prop := M.2.1 = h ∧ sD D M
theorem gR_say {D M : xM} {h : Int64} (g : gR D h M) (r : Int32) : gR D (mx h r) (xL M (mx M.2.1 r)) := ⟨by rw [← g.1]; rfl, sD_t g.2 sD_L⟩
section DG
variable {T K S mo n b : Nat} {C D : xM}
theorem dg_thing (hB : IvB T K C D) (hR : IvR T K S mo C D) {t : Nat} (ht : t < T) {h : Int64} {M : xM} (hM : gR D h M) (k6 : Int64 → Int32 → xM → Option (Int64 × xM)) (k9 : Int32 → xM → Option (Int64 × xM)) :
    ∃ h' M', gR D h' M' ∧ f_X5_digest_l20 k6 xN h (nI t) 0 C = k6 h' (nI (t + 1)) C ∧ f_X6_digest_l19 k9 xN (nI t) 0 M = k9 (nI (t + 1)) M' := by
  refine for_ex2 (fun n (h : Int64) i => f_X5_digest_l20 k6 n h (nI t) i C) (fun n (M : xM) i => f_X6_digest_l19 k9 n (nI t) i M) nI 7 (gR D) (fun h' => k6 h' (nI (t + 1)) C) (fun M' => k9 (nI (t + 1)) M') ?_ ?_ xN h M (by rw [xN_v]; omega) hM
  · intro n m h M hM
    exact ⟨by rw [f_X5_digest_l20, if_pos (by decide), nI_1], by rw [f_X6_digest_l19, if_pos (by decide), nI_1]⟩
  · intro n m i h M hi hM
    obtain ⟨r, r1, r2⟩ := tell_thing (fr_B (sC_r C) hM.2 hB) (fr_R (sC_r C) hM.2 hR) ht (nI i)
    refine ⟨mx h r, xL M (mx M.2.1 r), gR_say hM r, ?_, ?_⟩
    · show f_X5_digest_l20 k6 (n + 1) h (nI t) (nI i) C = f_X5_digest_l20 k6 n (mx h r) (nI t) (nI (i + 1)) C
      rw [f_X5_digest_l20, show (6 : Int32) = nI 6 from rfl, ite_lt (by omega) (by omega), if_neg (by omega), r1, ob_s, c_mix, ob_s, nI_1]
    · show f_X6_digest_l19 k9 (m + 1) (nI t) (nI i) M = f_X6_digest_l19 k9 m (nI t) (nI (i + 1)) (xL M (mx M.2.1 r))
      rw [f_X6_digest_l19, show (7 : Int32) = nI 7 from rfl, ite_le (by omega) (by omega), if_neg (by omega), r2, ob_s, m_say, ob_s, nI_1]
theorem dg_things (hB : IvB T K C D) (hR : IvR T K S mo C D) {h : Int64} {M : xM} (hM : gR D h M) :
    ∃ h' M', gR D h' M' ∧ f_X5_digest_l6 xN h 0 C = f_X5_digest_l53 xN h' 0 C ∧ f_X6_digest_l9 xN 0 M = f_X6_digest_l50 xN 0 M' := by
  have h5 := hB.2.2.2.2.1
  refine for_ex2 (fun n (h : Int64) i => f_X5_digest_l6 n h i C) (fun n (M : xM) i => f_X6_digest_l9 n i M) nI T (gR D) (fun h' => f_X5_digest_l53 xN h' 0 C) (fun M' => f_X6_digest_l50 xN 0 M') ?_ ?_ xN h M (by rw [xN_v]; omega) hM
  · intro n m h M hM
    have eT : M.1 2 = nI T := (hM.2.1 2 (by omega) (by omega)).trans hB.2.1
    exact ⟨by rw [f_X5_digest_l6, f_X3_things, ob_s, hB.1, ite_le (by omega) (by omega), if_pos (Nat.le_refl T)], by rw [f_X6_digest_l9, eT, ite_le (by omega) (by omega), if_pos (Nat.le_refl T)]⟩
  · intro n m i h M hi hM
    have eT : M.1 2 = nI T := (hM.2.1 2 (by omega) (by omega)).trans hB.2.1
    obtain ⟨h', M', g, e1, e2⟩ := dg_thing hB hR hi hM (f_X5_digest_l6 n) (f_X6_digest_l9 m)
    refine ⟨h', M', g, ?_, ?_⟩
    · show f_X5_digest_l6 (n + 1) h (nI i) C = f_X5_digest_l6 n h' (nI (i + 1)) C
      rw [f_X5_digest_l6, f_X3_things, ob_s, hB.1, ite_le (by omega) (by omega), if_neg (by omega), e1]
    · show f_X6_digest_l9 (m + 1) (nI i) M = f_X6_digest_l9 m (nI (i + 1)) M'
      rw [f_X6_digest_l9, eT, ite_le (by omega) (by omega), if_neg (by omega), e2]
theorem dg_claimer (hB : IvB T K C D) (hR : IvR T K S mo C D) {c : Nat} (hc : c < K) {h : Int64} {M : xM} (hM : gR D h M) (k53 : Int64 → Int32 → xM → Option (Int64 × xM)) (k50 : Int32 → xM → Option (Int64 × xM)) :
    ∃ h' M', gR D h' M' ∧ f_X5_digest_l67 k53 xN h (nI c) 0 C = k53 h' (nI (c + 1)) C ∧ f_X6_digest_l60 k50 xN (nI c) 0 M = k50 (nI (c + 1)) M' := by
  have h5 := hB.2.2.2.2.1
  have h3 := hB.2.2.2.2.2.1
  obtain ⟨h1, M1, g1, a1, a2⟩ : ∃ h' M', gR D h' M' ∧ f_X5_digest_l67 k53 xN h (nI c) 0 C = f_X5_digest_l95 k53 xN h' (nI c) 0 C ∧ f_X6_digest_l60 k50 xN (nI c) 0 M = f_X6_digest_l85 k50 xN (nI c) 0 M' := by
    refine for_ex2 (fun n (h : Int64) i => f_X5_digest_l67 k53 n h (nI c) i C) (fun n (M : xM) i => f_X6_digest_l60 k50 n (nI c) i M) nI 7 (gR D) (fun h' => f_X5_digest_l95 k53 xN h' (nI c) 0 C) (fun M' => f_X6_digest_l85 k50 xN (nI c) 0 M') ?_ ?_ xN h M (by rw [xN_v]; omega) hM
    · intro n m h M hM
      exact ⟨by rw [f_X5_digest_l67, if_pos (by decide)], by rw [f_X6_digest_l60, if_pos (by decide)]⟩
    · intro n m i h M hi hM
      obtain ⟨r, g, r1, r2⟩ := tell_claimer (fr_B (sC_r C) hM.2 hB) (fr_R (sC_r C) hM.2 hR) hc (nI i)
      have hM2 : gR D h (xA M 3 g) := ⟨hM.1, sD_t hM.2 (sD_A (by omega))⟩
      refine ⟨mx h r, xL (xA M 3 g) (mx (xA M 3 g).2.1 r), gR_say hM2 r, ?_, ?_⟩
      · show f_X5_digest_l67 k53 (n + 1) h (nI c) (nI i) C = f_X5_digest_l67 k53 n (mx h r) (nI c) (nI (i + 1)) C
        rw [f_X5_digest_l67, show (6 : Int32) = nI 6 from rfl, ite_lt (by omega) (by omega), if_neg (by omega), r1, ob_s, c_mix, ob_s, nI_1]
      · show f_X6_digest_l60 k50 (m + 1) (nI c) (nI i) M = f_X6_digest_l60 k50 m (nI c) (nI (i + 1)) _
        rw [f_X6_digest_l60, show (7 : Int32) = nI 7 from rfl, ite_le (by omega) (by omega), if_neg (by omega), r2, ob2_s, m_say, ob_s, nI_1]
  obtain ⟨h2, M2, g2, b1, b2⟩ : ∃ h' M', gR D h' M' ∧ f_X5_digest_l95 k53 xN h1 (nI c) 0 C = k53 h' (nI (c + 1)) C ∧ f_X6_digest_l85 k50 xN (nI c) 0 M1 = k50 (nI (c + 1)) M' := by
    refine for_ex2 (fun n (h : Int64) i => f_X5_digest_l95 k53 n h (nI c) i C) (fun n (M : xM) i => f_X6_digest_l85 k50 n (nI c) i M) nI T (gR D) (fun h' => k53 h' (nI (c + 1)) C) (fun M' => k50 (nI (c + 1)) M') ?_ ?_ xN h1 M1 (by rw [xN_v]; omega) g1
    · intro n m h M hM
      have eT : M.1 2 = nI T := (hM.2.1 2 (by omega) (by omega)).trans hB.2.1
      exact ⟨by rw [f_X5_digest_l95, f_X3_things, ob_s, hB.1, ite_le (by omega) (by omega), if_pos (Nat.le_refl T), nI_1], by rw [f_X6_digest_l85, eT, ite_le (by omega) (by omega), if_pos (Nat.le_refl T), nI_1]⟩
    · intro n m i h M hi hM
      have eT : M.1 2 = nI T := (hM.2.1 2 (by omega) (by omega)).trans hB.2.1
      have hD : RD C M T K := fr_RD hM.2 (ivRD hB hR)
      refine ⟨mx h (wO C i c), xL M (mx M.2.1 (wO C i c)), gR_say hM _, ?_, ?_⟩
      · show f_X5_digest_l95 k53 (n + 1) h (nI c) (nI i) C = f_X5_digest_l95 k53 n (mx h (wO C i c)) (nI c) (nI (i + 1)) C
        rw [f_X5_digest_l95, f_X3_things, ob_s, hB.1, ite_le (by omega) (by omega), if_neg (by omega), g_wrongOf (ivWC hB) (by omega) (by omega), ob_s, c_mix, ob_s, nI_1]
      · show f_X6_digest_l85 k50 (m + 1) (nI c) (nI i) M = f_X6_digest_l85 k50 m (nI c) (nI (i + 1)) _
        rw [f_X6_digest_l85, eT, ite_le (by omega) (by omega), if_neg (by omega), m_wO hD hi hc, ob_s, m_say, ob_s, nI_1]
  exact ⟨h2, M2, g2, a1.trans b1, a2.trans b2⟩
/-- the claimers, up to the question whether there is a tent -/
theorem dg_claimers (hB : IvB T K C D) (hR : IvR T K S mo C D) {h : Int64} {M : xM} (hM : gR D h M) :
    ∃ h' M', gR D h' M' ∧ f_X5_digest_l53 xN h 0 C = ((f_X3_stands C).bind fun r5 => if r5 = 0 then f_X5_digest_b189 h' C else (f_X0_solve C).bind fun M14 => f_X5_digest_l157 xN h' 0 M14) ∧ f_X6_digest_l50 xN 0 M = ((f_X6_lacks M').bind fun r4 => if r4 = 0 then ob2 (f_X6_matchOf 0 M') fun r12 M13 => (f_X6_say r12.toInt64 M13).bind fun M14 => ob2 (f_X6_matchOf 1 M14) fun r15 M16 => (f_X6_say r15.toInt64 M16).bind fun M17 => f_X6_digest_l146 xN 10 M17 else f_X6_digest_b168 M') := by
  have h3 := hB.2.2.2.2.2.1
  refine for_ex2 (fun n (h : Int64) i => f_X5_digest_l53 n h i C) (fun n (M : xM) i => f_X6_digest_l50 n i M) nI K (gR D) _ _ ?_ ?_ xN h M (by rw [xN_v]; omega) hM
  · intro n m h M hM
    have eK : M.1 3 = nI K := (hM.2.1 3 (by omega) (by omega)).trans hB.2.2.2.1
    exact ⟨by rw [f_X5_digest_l53, f_X3_claimers, ob_s, hB.2.2.1, ite_le (by omega) (by omega), if_pos (Nat.le_refl K)], by rw [f_X6_digest_l50, eK, ite_le (by omega) (by omega), if_pos (Nat.le_refl K)]⟩
  · intro n m i h M hi hM
    have eK : M.1 3 = nI K := (hM.2.1 3 (by omega) (by omega)).trans hB.2.2.2.1
    obtain ⟨h', M', g, e1, e2⟩ := dg_claimer hB hR hi hM (f_X5_digest_l53 n) (f_X6_digest_l50 m)
    refine ⟨h', M', g, ?_, ?_⟩
    · show f_X5_digest_l53 (n + 1) h (nI i) C = f_X5_digest_l53 n h' (nI (i + 1)) C
      rw [f_X5_digest_l53, f_X3_claimers, ob_s, hB.2.2.1, ite_le (by omega) (by omega), if_neg (by omega), e1]
    · show f_X6_digest_l50 (m + 1) (nI i) M = f_X6_digest_l50 m (nI (i + 1)) M'
      rw [f_X6_digest_l50, eK, ite_le (by omega) (by omega), if_neg (by omega), e2]
/-- the page and the counts -/
theorem dg_tail (hB : IvB T K C D) (hR : IvR T K S mo C D) (hP : IvP n C D) (hN : IvN b C D) {h : Int64} {M : xM} (hM : gR D h M) :
    ∃ h' M', gR D h' M' ∧ f_X5_digest_b189 h C = some (h', C) ∧ f_X6_digest_b168 M = some (h', M') := by
  obtain ⟨pn, pm, h36, hpg⟩ := hP
  obtain ⟨h1, M1, g1, a1, a2⟩ : ∃ h' M', gR D h' M' ∧ f_X5_digest_l191 xN h 0 C = f_X5_digest_l223 xN h' 0 C ∧ f_X6_digest_l170 xN 0 M = f_X6_digest_l197 xN 0 M' := by
    refine for_ex2 (fun k (h : Int64) i => f_X5_digest_l191 k h i C) (fun k (M : xM) i => f_X6_digest_l170 k i M) nI n (gR D) (fun h' => f_X5_digest_l223 xN h' 0 C) (fun M' => f_X6_digest_l197 xN 0 M') ?_ ?_ xN h M (by rw [xN_v]; omega) hM
    · intro k m h M hM
      have en : M.1 0 = nI n := (hM.2.1 0 (by omega) (by omega)).trans pm
      exact ⟨by rw [f_X5_digest_l191, f_X1_length, ob_s, pn, ite_le (by omega) (by omega), if_pos (Nat.le_refl n)], by rw [f_X6_digest_l170, en, ite_le (by omega) (by omega), if_pos (Nat.le_refl n)]⟩
    · intro k m i h M hi hM
      have en : M.1 0 = nI n := (hM.2.1 0 (by omega) (by omega)).trans pm
      have e0 : M.2.2 0 = D.2.2 0 := hM.2.2 0 (by omega) (by omega) (by omega) (by omega)
      have ec : f_X1_codeAt (nI i) C = some (C.2.2 0 i) := by
        rw [f_X1_codeAt, xe_n (by omega) (by omega)]
      refine ⟨mx h (C.2.2 0 i), xL M (mx M.2.1 (C.2.2 0 i)), gR_say hM _, ?_, ?_⟩
      · show f_X5_digest_l191 (k + 1) h (nI i) C = f_X5_digest_l191 k (mx h (C.2.2 0 i)) (nI (i + 1)) C
        rw [f_X5_digest_l191, f_X1_length, ob_s, pn, ite_le (by omega) (by omega), if_neg (by omega), ec, ob_s, c_mix, ob_s, nI_1]
      · show f_X6_digest_l170 (m + 1) (nI i) M = f_X6_digest_l170 m (nI (i + 1)) _
        rw [f_X6_digest_l170, en, ite_le (by omega) (by omega), if_neg (by omega), xld_n (by omega) (by omega), ob_s, e0, ← (hpg i hi).1, m_say, ob_s, nI_1]
  obtain ⟨h2, M2, g2, b1, b2⟩ : ∃ h' M', gR D h' M' ∧ f_X5_digest_l223 xN h1 0 C = some (h', C) ∧ f_X6_digest_l197 xN 0 M1 = some (M'.2.1, M') := by
    refine for_ex2 (fun k (h : Int64) i => f_X5_digest_l223 k h i C) (fun k (M : xM) i => f_X6_digest_l197 k i M) nI 11 (gR D) (fun h' => some (h', C)) (fun M' => some (M'.2.1, M')) ?_ ?_ xN h1 M1 (by rw [xN_v]; omega) g1
    · intro k m h M hM
      exact ⟨by rw [f_X5_digest_l223, if_pos (by decide)], by rw [f_X6_digest_l197, if_pos (by decide)]⟩
    · intro k m i h M hi hM
      obtain ⟨r, r1, r2⟩ := count_eq (fr_B (sC_r C) hM.2 hB) (fr_R (sC_r C) hM.2 hR) (fr_P (sC_r C) hM.2 ⟨pn, pm, h36, hpg⟩) (fr_N (sC_r C) hM.2 hN) (nI i)
      refine ⟨mx h r, xL M (mx M.2.1 r), gR_say hM r, ?_, ?_⟩
      · show f_X5_digest_l223 (k + 1) h (nI i) C = f_X5_digest_l223 k (mx h r) (nI (i + 1)) C
        rw [f_X5_digest_l223, n10, ite_lt (by omega) (by omega), if_neg (by omega), r1, ob_s, c_mix, ob_s, nI_1]
      · show f_X6_digest_l197 (m + 1) (nI i) M = f_X6_digest_l197 m (nI (i + 1)) _
        rw [f_X6_digest_l197, show (11 : Int32) = nI 11 from rfl, ite_le (by omega) (by omega), if_neg (by omega), r2, ob_s, m_say, ob_s, nI_1]
  refine ⟨h2, M2, g2, a1.trans b1, ?_⟩
  have := a2.trans b2
  rw [g2.1] at this
  exact this
/-- one question of the matching, said -/
theorem dg_ask (hB : IvB T K C D) (hR : IvR T K S mo C D) (h0 : 0 < T) {C' : xM} (hs : f_X0_solve C = some C') (k : Int32) (hk : k = 0 ∨ k = 1 ∨ k = 10 ∨ k = 11 ∨ k = 12) {h : Int64} {M : xM} (hM : gR D h M) :
    ∃ r M', f_X0_tell k C' = some r ∧ f_X6_matchOf k M = some (r, M') ∧ gR D (mx h r) (xL M' (mx M'.2.1 r)) ∧ sC C C' := by
  obtain ⟨r, C2, M', k1, k2, k3, k4, k5, k6⟩ := match_both (fr_B (sC_r C) hM.2 hB) (fr_R (sC_r C) hM.2 hR) h0 k hk
  rw [hs] at k1
  have e : C' = C2 := Option.some.inj k1
  subst e
  exact ⟨r, M', k2, k3, gR_say ⟨k6.trans hM.1, sD_t hM.2 k5⟩ r, k4⟩
theorem c_yes {C' : xM} {h : Int64} {r : Int32} {i : Nat} (hi : i = 0 ∨ i = 1 ∨ i = 10 ∨ i = 11 ∨ i = 12) (hr : f_X0_tell (nI i) C' = some r) (n : Nat) : f_X5_digest_l157 (n + 1) h (nI i) C' = f_X5_digest_l157 n (mx h r) (nI (i + 1)) C' := by
  have e : f_X5_isMatchQuestion (nI i) = some (bI true) := by
    rcases hi with rfl | rfl | rfl | rfl | rfl <;> decide
  rw [f_X5_digest_l157, show (12 : Int32) = nI 12 from rfl, ite_lt (by omega) (by omega), if_neg (by omega), e, ob_s, ite_bI, if_pos rfl, hr, ob_s, c_mix, ob_s, f_X5_digest_b183, nI_1]
theorem c_no {C' : xM} {h : Int64} {i : Nat} (hi : i = 2 ∨ i = 3 ∨ i = 4 ∨ i = 5 ∨ i = 6 ∨ i = 7 ∨ i = 8 ∨ i = 9) (n : Nat) : f_X5_digest_l157 (n + 1) h (nI i) C' = f_X5_digest_l157 n h (nI (i + 1)) C' := by
  have e : f_X5_isMatchQuestion (nI i) = some (bI false) := by
    rcases hi with rfl | rfl | rfl | rfl | rfl | rfl | rfl | rfl <;> decide
  rw [f_X5_digest_l157, show (12 : Int32) = nI 12 from rfl, ite_lt (by omega) (by omega), if_neg (by omega), e, ob_s, ite_bI, if_neg (by decide), f_X5_digest_b183, nI_1]
theorem m_yes {M M' : xM} {r : Int32} {i : Nat} (hi : i < 13) (hr : f_X6_matchOf (nI i) M = some (r, M')) (n : Nat) : f_X6_digest_l146 (n + 1) (nI i) M = f_X6_digest_l146 n (nI (i + 1)) (xL M' (mx M'.2.1 r)) := by
  rw [f_X6_digest_l146, show (13 : Int32) = nI 13 from rfl, ite_le (by omega) (by omega), if_neg (by omega), hr, ob2_s, m_say, ob_s, nI_1]
theorem dg_match (hB : IvB T K C D) (hR : IvR T K S mo C D) (h0 : 0 < T) {h : Int64} {M : xM} (hM : gR D h M) :
    ∃ C' h' M', sC C C' ∧ gR D h' M' ∧ (f_X0_solve C).bind (fun M14 => f_X5_digest_l157 xN h 0 M14) = f_X5_digest_b189 h' C' ∧ (ob2 (f_X6_matchOf 0 M) fun r12 M13 => (f_X6_say r12.toInt64 M13).bind fun M14 => ob2 (f_X6_matchOf 1 M14) fun r15 M16 => (f_X6_say r15.toInt64 M16).bind fun M17 => f_X6_digest_l146 xN 10 M17) = f_X6_digest_b168 M' := by
  obtain ⟨-, C', -, hs, -⟩ := match_both hB hR h0 0 (Or.inl rfl)
  obtain ⟨r0, M0, a1, a2, a3, a4⟩ := dg_ask hB hR h0 hs 0 (by simp) hM
  obtain ⟨r1, M1, b1, b2, b3, -⟩ := dg_ask hB hR h0 hs 1 (by simp) a3
  obtain ⟨r2, M2, c1, c2, c3, -⟩ := dg_ask hB hR h0 hs 10 (by simp) b3
  obtain ⟨r3, M3, d1, d2, d3, -⟩ := dg_ask hB hR h0 hs 11 (by simp) c3
  obtain ⟨r4, M4, e1, e2, e3, -⟩ := dg_ask hB hR h0 hs 12 (by simp) d3
  refine ⟨C', _, _, a4, e3, ?_, ?_⟩
  · rw [hs, ob_s]
    show f_X5_digest_l157 (399 + 1) h (nI 0) C' = _
    rw [c_yes (i := 0) (by simp) a1 399, c_yes (i := 1) (by simp) b1 398, c_no (i := 2) (by simp) 397, c_no (i := 3) (by simp) 396, c_no (i := 4) (by simp) 395, c_no (i := 5) (by simp) 394, c_no (i := 6) (by simp) 393, c_no (i := 7) (by simp) 392, c_no (i := 8) (by simp) 391, c_no (i := 9) (by simp) 390, c_yes (i := 10) (by simp) c1 389, c_yes (i := 11) (by simp) d1 388, c_yes (i := 12) (by simp) e1 387]
    show f_X5_digest_l157 (386 + 1) _ (nI 13) C' = _
    rw [f_X5_digest_l157, if_pos (by decide)]
  · rw [a2, ob2_s, m_say, ob_s, b2, ob2_s, m_say, ob_s]
    show f_X6_digest_l146 (399 + 1) (nI 10) _ = _
    rw [m_yes (i := 10) (by omega) c2 399, m_yes (i := 11) (by omega) d2 398, m_yes (i := 12) (by omega) e2 397]
    show f_X6_digest_l146 (396 + 1) (nI 13) _ = _
    rw [f_X6_digest_l146, if_pos (by decide)]
end DG
theorem o_digest : op_digest Inv := by
  intro C D j hj hI
  have hI' := inv_mon C D j hI
  obtain ⟨T, K, S, mo, n, b, hb, hB, hR, hP, hN, hK⟩ := hI
  rw [f_X5_digest, f_X6_digest, nm_s]
  have g0 : gR D 1087 (xL D 1087) := ⟨rfl, sD_L⟩
  obtain ⟨h1, M1, g1, a1, a2⟩ := dg_things hB hR g0
  obtain ⟨h2, M2, g2, b1, b2⟩ := dg_claimers hB hR g1
  have hB2 := fr_B (sC_r C) g2.2 hB
  rw [a1, a2, b1, b2, c_stands hB, ob_s, ite_bI, m_lacks hB2, ob_s, ite_bI]
  by_cases h0 : 0 < T
  · obtain ⟨C', h3, M3, k1, g3, k2, k3⟩ := dg_match hB hR h0 g2
    rw [if_pos (decide_eq_true h0), if_neg (by simp; omega), k2, k3]
    obtain ⟨h4, M4, g4, e1, e2⟩ := dg_tail (fr_B k1 (sD_r D) hB) (fr_R k1 (sD_r D) hR) (fr_P k1 (sD_r D) hP) (fr_N k1 (sD_r D) hN) g3
    exact ⟨h4, C', M4, e1, e2, fr_Inv k1 g4.2 hI'⟩
  · rw [if_neg (by simp; omega), if_pos (by simp; omega)]
    obtain ⟨h4, M4, g4, e1, e2⟩ := dg_tail hB hR hP hN g2
    exact ⟨h4, C, M4, e1, e2, fr_Inv (sC_r C) g4.2 hI'⟩
