/-! ===== the mondays ===== -/
theorem l64 {s : Nat} (h : s < 2 ^ 31) : (nI s).toInt64 = Int64.ofNat s := Int32.toInt64_ofNat' (by show (s : Int) ≤ 2147483647; omega)
theorem l32 (s : Nat) : (Int64.ofNat s).toInt32 = nI s := Int64.toInt32_ofNat'
/-- the next seed -/
def sd (s : Nat) : Nat := (1103515245 * s + 12345) % 2147483648
theorem sd_lt (s : Nat) : sd s < 2 ^ 31 := Nat.mod_lt _ (by decide)
/-- the drawn number below k, at the seed -/
def dr (s k : Nat) : Nat := s / 65536 % k
theorem l_rem {a k : Nat} (ha : a < 2 ^ 63) (hk : k < 2 ^ 63) : Int64.ofNat a - Int64.ofNat a / Int64.ofNat k * Int64.ofNat k = Int64.ofNat (a % k) := by
  rw [← Int64.ofNat_div ha hk, ← Int64.ofNat_mul, ← Int64.ofNat_sub _ _ (Nat.div_mul_le_self a k)]
  congr 1
  have := Nat.div_add_mod a k
  rw [Nat.mul_comm] at this
  omega
theorem c_seed {s : Nat} (h : s < 2 ^ 31) : (((1103515245 : Int64) * Int64.ofNat s) + (12345 : Int64)) - (((1103515245 : Int64) * Int64.ofNat s) + (12345 : Int64)) / (2147483648 : Int64) * (2147483648 : Int64) = Int64.ofNat (sd s) := by
  have e : ((1103515245 : Int64) * Int64.ofNat s) + (12345 : Int64) = Int64.ofNat (1103515245 * s + 12345) := by
    rw [Int64.ofNat_add, Int64.ofNat_mul]
    rfl
  rw [e]
  exact l_rem (by omega) (k := 2147483648) (by omega)
theorem m_seed {s : Nat} (h : s < 2 ^ 31) : (((((1103515245 : Int64) * (nI s).toInt64) + (12345 : Int64)) &&& (2147483647 : Int64)).toInt32) = nI (sd s) := by
  have e : ((1103515245 : Int64) * Int64.ofNat s) + (12345 : Int64) = Int64.ofNat (1103515245 * s + 12345) := by
    rw [Int64.ofNat_add, Int64.ofNat_mul]
    rfl
  have e2 : Int64.ofNat (1103515245 * s + 12345) &&& (2147483647 : Int64) = Int64.ofNat (sd s) := by
    apply Int64.toBitVec_inj.mp
    rw [Int64.toBitVec_and]
    apply BitVec.eq_of_toNat_eq
    rw [BitVec.toNat_and]
    show ((1103515245 * s + 12345) % 2 ^ 64) &&& (2 ^ 31 - 1) = sd s % 2 ^ 64
    rw [Nat.and_two_pow_sub_one_eq_mod, Nat.mod_eq_of_lt (show 1103515245 * s + 12345 < 2 ^ 64 by omega), Nat.mod_eq_of_lt (show sd s < 2 ^ 64 by have := sd_lt s; omega)]
    rfl
  rw [l64 h, e, e2, l32]
theorem c_draw {M : xM} {s k : Nat} (hs : s < 2 ^ 31) (h : M.2.1 = Int64.ofNat s) (h0 : 0 < k) (hk : k ≤ 10) : f_X4_draw (nI k) M = some (nI (dr (sd s) k), xL M (Int64.ofNat (sd s))) := by
  have hl := sd_lt s
  have e0 : (65536 : Int64) = Int64.ofNat 65536 := rfl
  have hne : ¬ Int64.ofNat k = 0 := by
    intro e
    have := congrArg Int64.toInt e
    rw [Int64.toInt_ofNat_of_lt (by omega)] at this
    have h2 : (k : Int) = 0 := this
    omega
  rw [f_X4_draw, nm_s, h, c_seed hs, n0, ite_le (by omega) (by omega), if_neg (by omega), xL_L, l64 (by omega), e0, ← Int64.ofNat_div (by omega) (by omega), xlr, if_neg hne, ob_s, l_rem (Nat.lt_of_le_of_lt (Nat.div_le_self _ _) (by omega)) (by omega), l32]
  rfl
theorem m_draw {M : xM} {s k : Nat} (hs : s < 2 ^ 31) (h : M.1 9 = nI s) (h0 : 0 < k) (hk : k ≤ 10) : f_X6_draw (nI k) M = some (nI (dr (sd s) k), xI M 9 (nI (sd s))) := by
  have hl := sd_lt s
  have e0 : (65536 : Int32) = nI 65536 := rfl
  have hne : ¬ nI k = 0 := fun e => by have := nI_inj (b := 0) (by omega) (by omega) e; omega
  rw [f_X6_draw, nm_s, h, m_seed hs, xI_1, if_pos rfl, e0, pk_div (by omega) (by omega) (by omega), xrm, if_neg hne, pk_rem (Nat.lt_of_le_of_lt (Nat.div_le_self _ _) (by omega)) (by omega) (by omega), ob_s]
  rfl
/-- what a claimer of kind k with the memory y p l makes of thing t -/
def Wd (C : xM) (c : Nat) (y p l : Int32) (t : Nat) : Int32 := Wr (C.2.2 2 c) (C.2.2 1 (t * 3)) y (C.2.2 1 (t * 3 + 1)) p (C.2.2 1 (t * 3 + 2)) l
def dyT (C : xM) (c : Nat) (y p l : Int32) (a : Int32 × Int32) (t : Nat) : Int32 × Int32 := if Ft (C.2.2 2 c) (Wd C c y p l t) then (a.1 + 1, a.2 + Wd C c y p l t) else a
def day (C : xM) (T K : Nat) (a : Nat × Int32 × Int32) : Nat × Int32 × Int32 :=
  (sd (sd (sd (sd a.1))), fld (dyT C (dr (sd a.1) K) (nI (dr (sd (sd a.1)) 10)) (nI (dr (sd (sd (sd a.1))) 6)) (nI (dr (sd (sd (sd (sd a.1)))) 5))) a.2 T)
section MO
variable {T K S mo : Nat} {C D : xM}
def cP (C : xM) (a : Nat × Int32 × Int32) (M : xM) : Prop := sC C M ∧ a.1 < 2 ^ 31 ∧ M.2.1 = Int64.ofNat a.1 ∧ M.1 16 = a.2.1 ∧ M.1 17 = a.2.2
theorem c_add (hW : WC C T K) {c : Nat} (hc : c < 3) {s : Nat} {a : Int32 × Int32} {M : xM} (hM : cP C (s, a) M) (w : Int32) : ∃ M', f_X4_addIfFit (C.2.2 2 c) w M = some M' ∧ cP C (s, if Ft (C.2.2 2 c) w then (a.1 + 1, a.2 + w) else a) M' := by
  obtain ⟨m1, m2, m3, m4, m5⟩ := hM
  rw [f_X4_addIfFit, g_isFitC hW hc, ob_s, ite_bI]
  by_cases h : Ft (C.2.2 2 c) w = true
  · rw [if_pos h, if_pos h, nm_s, nm_s]
    refine ⟨_, rfl, sC_t (sC_t m1 (sC_I (by omega))) (sC_I (by omega)), m2, m3, ?_, ?_⟩
    · show M.1 16 + 1 = a.1 + 1
      rw [m4]
    · show M.1 17 + w = a.2 + w
      rw [m5]
  · rw [if_neg h, if_neg h]
    exact ⟨M, rfl, m1, m2, m3, m4, m5⟩
theorem fr_WC {M : xM} (hM : sC C M) (h : WC C T K) : WC M T K := by
  unfold WC
  rw [hM.1 2 (by omega), hM.1 3 (by omega), hM.2 2 (by omega)]
  exact h
theorem c_l76 (hW : WC C T K) {c : Nat} (hc : c < 3) {s : Nat} {a : Int32 × Int32} {M : xM} (hM : cP C (s, a) M) (y p l x2 x4 : Int32) (k19 : Int32 → Int32 → xM → Option xM) :
    ∃ M', cP C (s, fld (dyT C c y p l) a T) M' ∧ f_X4_play_l76 k19 xN x2 x4 (C.2.2 2 c) y p l 0 M = k19 x2 (x4 + 1) M' := by
  have h5 := hW.2.2.1
  obtain ⟨k, hk, ek⟩ := hW.2.2.2.2 c hc
  refine for_ex (fun n (M : xM) t => f_X4_play_l76 k19 n x2 x4 (C.2.2 2 c) y p l t M) nI T (fun t M => cP C (s, fld (dyT C c y p l) a t) M) (fun M' => k19 x2 (x4 + 1) M') ?_ ?_ xN M (by rw [xN_v]; omega) hM
  · intro n M hM
    show f_X4_play_l76 k19 (n + 1) x2 x4 _ y p l (nI T) M = _
    have e2 : M.1 2 = nI T := (hM.1.1 2 (by omega)).trans hW.1
    rw [f_X4_play_l76, f_X3_things, ob_s, e2, ite_le (by omega) (by omega), if_pos (Nat.le_refl T)]
  · intro n t M ht hM
    show ∃ M', cP C (s, fld (dyT C c y p l) a (t + 1)) M' ∧ f_X4_play_l76 k19 (n + 1) x2 x4 (C.2.2 2 c) y p l (nI t) M = f_X4_play_l76 k19 n x2 x4 (C.2.2 2 c) y p l (nI (t + 1)) M'
    have e2 : M.1 2 = nI T := (hM.1.1 2 (by omega)).trans hW.1
    have e1 : M.2.2 1 = C.2.2 1 := hM.1.2 1 (by omega)
    obtain ⟨M', w1, w2⟩ := c_add hW hc hM (Wd C c y p l t)
    refine ⟨M', w2, ?_⟩
    have hw := g_wrongBy' hk (C.2.2 1 (t * 3)) y (C.2.2 1 (t * 3 + 1)) p (C.2.2 1 (t * 3 + 2)) l
    rw [← ek] at hw
    have hw : f_X5_wrongBy (C.2.2 2 c) (far (C.2.2 1 (t * 3)) y) (if C.2.2 1 (t * 3 + 1) = p then 0 else 1) (if C.2.2 1 (t * 3 + 2) = l then 0 else 1) = some (Wd C c y p l t) := hw
    have hf : (if 0 ≤ (C.2.2 1 (t * 3) - y) then (C.2.2 1 (t * 3) - y) else 0 - (C.2.2 1 (t * 3) - y)) = far (C.2.2 1 (t * 3)) y := rfl
    rw [f_X4_play_l76, f_X3_things, ob_s, e2, ite_le (by omega) (by omega), if_neg (by omega), g_sign0 (by omega), ob_s, g_sign1 (by omega), ob_s, e1, hf]
    simp only [f_X4_play_b120, g_sign2 (C := M) (show t < 5 by omega), ob_s, e1, f_X4_play_b137]
    by_cases q1 : C.2.2 1 (t * 3 + 1) = p
    · rw [if_pos q1] at hw ⊢
      by_cases q2 : C.2.2 1 (t * 3 + 2) = l
      · rw [if_pos q2] at hw ⊢
        rw [hw, ob_s, w1, ob_s, nI_1]
      · rw [if_neg q2] at hw ⊢
        rw [hw, ob_s, w1, ob_s, nI_1]
    · rw [if_neg q1] at hw ⊢
      by_cases q2 : C.2.2 1 (t * 3 + 2) = l
      · rw [if_pos q2] at hw ⊢
        rw [hw, ob_s, w1, ob_s, nI_1]
      · rw [if_neg q2] at hw ⊢
        rw [hw, ob_s, w1, ob_s, nI_1]
theorem c_play (hW : WC C T K) (h0 : 0 < K) {m s : Nat} (hm : m ≤ 60) (hs : s < 2 ^ 31) : ∃ M', cP C (fld (fun a _ => day C T K a) (s, 0, 0) m) M' ∧ f_X4_play (nI m) (nI s) C = some M' := by
  have h3 := hW.2.2.2.1
  obtain ⟨M0, hM0⟩ : ∃ M0, M0 = xI (xI (xL C (nI s).toInt64) 16 0) 17 0 := ⟨_, rfl⟩
  have r0 : cP C (s, 0, 0) M0 := by
    rw [hM0]
    refine ⟨sC_t (sC_t sC_L (sC_I (by omega))) (sC_I (by omega)), hs, ?_, rfl, rfl⟩
    exact l64 hs
  rw [f_X4_play, nm_s, nm_s, nm_s, ← hM0]
  refine for_ex (fun n (M : xM) i => f_X4_play_l19 n (nI m) i M) nI m (fun i M => cP C (fld (fun a _ => day C T K a) (s, 0, 0) i) M) (fun M' => some M') ?_ ?_ xN M0 (by rw [xN_v]; omega) r0
  · intro n M hM
    show f_X4_play_l19 (n + 1) (nI m) (nI m) M = _
    rw [f_X4_play_l19, ite_le (by omega) (by omega), if_pos (Nat.le_refl m)]
  · intro n i M hi hM
    show ∃ M', cP C (fld (fun a _ => day C T K a) (s, 0, 0) (i + 1)) M' ∧ f_X4_play_l19 (n + 1) (nI m) (nI i) M = f_X4_play_l19 n (nI m) (nI (i + 1)) M'
    rw [fld]
    revert hM
    generalize fld (fun a _ => day C T K a) (s, 0, 0) i = a
    obtain ⟨u, f, w⟩ := a
    rintro ⟨m1, m2, m3, m4, m5⟩
    have m2 : u < 2 ^ 31 := m2
    have m3 : M.2.1 = Int64.ofNat u := m3
    have eK : M.1 3 = nI K := (m1.1 3 (by omega)).trans hW.2.1
    have l1 := sd_lt u
    have l2 := sd_lt (sd u)
    have l3 := sd_lt (sd (sd u))
    have l4 := sd_lt (sd (sd (sd u)))
    have hc : dr (sd u) K < 3 := by have := Nat.mod_lt (sd u / 65536) h0; unfold dr; omega
    obtain ⟨M1, hM1⟩ : ∃ M1, M1 = xL M (Int64.ofNat (sd u)) := ⟨_, rfl⟩
    obtain ⟨M2, hM2⟩ : ∃ M2, M2 = xL M1 (Int64.ofNat (sd (sd u))) := ⟨_, rfl⟩
    obtain ⟨M3, hM3⟩ : ∃ M3, M3 = xL M2 (Int64.ofNat (sd (sd (sd u)))) := ⟨_, rfl⟩
    obtain ⟨M4, hM4⟩ : ∃ M4, M4 = xL M3 (Int64.ofNat (sd (sd (sd (sd u))))) := ⟨_, rfl⟩
    have k1 : f_X4_draw (nI K) M = some (nI (dr (sd u) K), M1) := by rw [hM1]; exact c_draw m2 m3 h0 (by omega)
    have k2 : f_X4_draw 10 M1 = some (nI (dr (sd (sd u)) 10), M2) := by rw [hM2]; exact c_draw (k := 10) l1 (by rw [hM1]; rfl) (by omega) (by omega)
    have k3 : f_X4_draw (xe 3 (xT [10, 6, 5]) 1) M2 = some (nI (dr (sd (sd (sd u))) 6), M3) := by rw [hM3]; exact c_draw (k := 6) l2 (by rw [hM2]; rfl) (by omega) (by omega)
    have k4 : f_X4_draw (xe 3 (xT [10, 6, 5]) 2) M3 = some (nI (dr (sd (sd (sd (sd u)))) 5), M4) := by rw [hM4]; exact c_draw (k := 5) l3 (by rw [hM3]; rfl) (by omega) (by omega)
    have f1 : sC C M1 := by rw [hM1]; exact sC_t m1 sC_L
    have r4 : cP C (sd (sd (sd (sd u))), f, w) M4 := by
      rw [hM4, hM3, hM2, hM1]
      exact ⟨sC_t (sC_t (sC_t (sC_t m1 sC_L) sC_L) sC_L) sC_L, l4, rfl, m4, m5⟩
    rw [f_X4_play_l19, ite_le (by omega) (by omega), if_neg (by omega), f_X3_claimers, ob_s, eK, k1, ob2_s, g_kind hc, ob_s, k2, ob2_s, k3, ob2_s, k4, ob2_s, f1.2 2 (by omega)]
    obtain ⟨M', w1, w2⟩ := c_l76 hW hc r4 (nI (dr (sd (sd u)) 10)) (nI (dr (sd (sd (sd u))) 6)) (nI (dr (sd (sd (sd (sd u)))) 5)) (nI m) (nI i) (f_X4_play_l19 n)
    rw [nI_1] at w2
    exact ⟨M', w1, w2⟩
end MO
