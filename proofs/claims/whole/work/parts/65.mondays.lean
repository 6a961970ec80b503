/-! ===== the mondays ===== -/
theorem l64 {s : Nat} (h : s < 2 ^ 31) : (nI s).toInt64 = Int64.ofNat s := Int32.toInt64_ofNat' (by show (s : Int) ≤ 2147483647; omega)
theorem l32 (s : Nat) : (Int64.ofNat s).toInt32 = nI s := Int64.toInt32_ofNat'
/-- the next seed -/
def sd (s : Nat) : Nat := (1103515245 * s + 12345) % 2147483648
theorem sd_lt (s : Nat) : sd s < 2 ^ 31 := Nat.mod_lt _ (by decide)
/-- the drawn number below k, at the seed -/
def dr (s k : Nat) : Nat := s / 65536 % k
theorem l_rem {a k : Nat} (ha : a < 2 ^ 63) (hk : k < 2 ^ 63) : Int64.ofNat a - Int64.ofNat a / Int64.ofNat k * Int64.ofNat k = Int64.ofNat (a % k) := by
  rw [← Int64.ofNat_div ha hk, ← Int64.ofNat_mul, ← Int64.ofNat_sub _ _ (Nat.div_mul_le_self a k)]
  congr 1
  have := Nat.div_add_mod a k
  rw [Nat.mul_comm] at this
  omega
theorem c_seed {s : Nat} (h : s < 2 ^ 31) : (((1103515245 : Int64) * Int64.ofNat s) + (12345 : Int64)) - (((1103515245 : Int64) * Int64.ofNat s) + (12345 : Int64)) / (2147483648 : Int64) * (2147483648 : Int64) = Int64.ofNat (sd s) := by
  have e : ((1103515245 : Int64) * Int64.ofNat s) + (12345 : Int64) = Int64.ofNat (1103515245 * s + 12345) := by
    rw [Int64.ofNat_add, Int64.ofNat_mul]
    rfl
  rw [e]
  exact l_rem (by omega) (k := 2147483648) (by omega)
theorem m_seed {s : Nat} (h : s < 2 ^ 31) : (((((1103515245 : Int64) * (nI s).toInt64) + (12345 : Int64)) &&& (2147483647 : Int64)).toInt32) = nI (sd s) := by
  have e : ((1103515245 : Int64) * Int64.ofNat s) + (12345 : Int64) = Int64.ofNat (1103515245 * s + 12345) := by
    rw [Int64.ofNat_add, Int64.ofNat_mul]
    rfl
  have e2 : Int64.ofNat (1103515245 * s + 12345) &&& (2147483647 : Int64) = Int64.ofNat (sd s) := by
    apply Int64.toBitVec_inj.mp
    rw [Int64.toBitVec_and]
    apply BitVec.eq_of_toNat_eq
    rw [BitVec.toNat_and]
    show ((1103515245 * s + 12345) % 2 ^ 64) &&& (2 ^ 31 - 1) = sd s % 2 ^ 64
    rw [Nat.and_two_pow_sub_one_eq_mod, Nat.mod_eq_of_lt (show 1103515245 * s + 12345 < 2 ^ 64 by omega), Nat.mod_eq_of_lt (show sd s < 2 ^ 64 by have := sd_lt s; omega)]
    rfl
  rw [l64 h, e, e2, l32]
theorem c_draw {M : xM} {s k : Nat} (hs : s < 2 ^ 31) (h : M.2.1 = Int64.ofNat s) (h0 : 0 < k) (hk : k ≤ 10) : f_X4_draw (nI k) M = some (nI (dr (sd s) k), xL M (Int64.ofNat (sd s))) := by
  have hl := sd_lt s
  have e0 : (65536 : Int64) = Int64.ofNat 65536 := rfl
  have hne : ¬ Int64.ofNat k = 0 := by
    intro e
    have := congrArg Int64.toInt e
    rw [Int64.toInt_ofNat_of_lt (by omega)] at this
    have h2 : (k : Int) = 0 := this
    omega
  rw [f_X4_draw, nm_s, h, c_seed hs, n0, ite_le (by omega) (by omega), if_neg (by omega), xL_L, l64 (by omega), e0, ← Int64.ofNat_div (by omega) (by omega), xlr, if_neg hne, ob_s, l_rem (Nat.lt_of_le_of_lt (Nat.div_le_self _ _) (by omega)) (by omega), l32]
  rfl
theorem m_draw {M : xM} {s k : Nat} (hs : s < 2 ^ 31) (h : M.1 9 = nI s) (h0 : 0 < k) (hk : k ≤ 10) : f_X6_draw (nI k) M = some (nI (dr (sd s) k), xI M 9 (nI (sd s))) := by
  have hl := sd_lt s
  have e0 : (65536 : Int32) = nI 65536 := rfl
  have hne : ¬ nI k = 0 := fun e => by have := nI_inj (b := 0) (by omega) (by omega) e; omega
  rw [f_X6_draw, nm_s, h, m_seed hs, xI_1, if_pos rfl, e0, pk_div (by omega) (by omega) (by omega), xrm, if_neg hne, pk_rem (Nat.lt_of_le_of_lt (Nat.div_le_self _ _) (by omega)) (by omega) (by omega), ob_s]
  rfl
/-- what a claimer of kind k with the memory y p l makes of thing t -/
def Wd (C : xM) (c : Nat) (y p l : Int32) (t : Nat) : Int32 := Wr (C.2.2 2 c) (C.2.2 1 (t * 3)) y (C.2.2 1 (t * 3 + 1)) p (C.2.2 1 (t * 3 + 2)) l
def dyT (C : xM) (c : Nat) (y p l : Int32) (a : Int32 × Int32) (t : Nat) : Int32 × Int32 := if Ft (C.2.2 2 c) (Wd C c y p l t) then (a.1 + 1, a.2 + Wd C c y p l t) else a
def day (C : xM) (T K : Nat) (a : Nat × Int32 × Int32) : Nat × Int32 × Int32 :=
  (sd (sd (sd (sd a.1))), fld (dyT C (dr (sd a.1) K) (nI (dr (sd (sd a.1)) 10)) (nI (dr (sd (sd (sd a.1))) 6)) (nI (dr (sd (sd (sd (sd a.1)))) 5))) a.2 T)
section MO
variable {T K S mo : Nat} {C D : xM}
def cP (C : xM) (a : Nat × Int32 × Int32) (M : xM) : Prop := sC C M ∧ a.1 < 2 ^ 31 ∧ M.2.1 = Int64.ofNat a.1 ∧ M.1 16 = a.2.1 ∧ M.1 17 = a.2.2
theorem c_add (hW : WC C T K) {c : Nat} (hc : c < 3) {s : Nat} {a : Int32 × Int32} {M : xM} (hM : cP C (s, a) M) (w : Int32) : ∃ M', f_X4_addIfFit (C.2.2 2 c) w M = some M' ∧ cP C (s, if Ft (C.2.2 2 c) w then (a.1 + 1, a.2 + w) else a) M' := by
  obtain ⟨m1, m2, m3, m4, m5⟩ := hM
  rw [f_X4_addIfFit, g_isFitC hW hc, ob_s, ite_bI]
  by_cases h : Ft (C.2.2 2 c) w = true
  · rw [if_pos h, if_pos h, nm_s, nm_s]
    refine ⟨_, rfl, sC_t (sC_t m1 (sC_I (by omega))) (sC_I (by omega)), m2, m3, ?_, ?_⟩
    · show M.1 16 + 1 = a.1 + 1
      rw [m4]
    · show M.1 17 + w = a.2 + w
      rw [m5]
  · rw [if_neg h, if_neg h]
    exact ⟨M, rfl, m1, m2, m3, m4, m5⟩
theorem fr_WC {M : xM} (hM : sC C M) (h : WC C T K) : WC M T K := by
  unfold WC
  rw [hM.1 2 (by omega), hM.1 3 (by omega), hM.2 2 (by omega)]
  exact h
theorem c_l76 (hW : WC C T K) {c : Nat} (hc : c < 3) {s : Nat} {a : Int32 × Int32} {M : xM} (hM : cP C (s, a) M) (y p l x2 x4 : Int32) (k19 : Int32 → Int32 → xM → Option xM) :
    ∃ M', cP C (s, fld (dyT C c y p l) a T) M' ∧ f_X4_play_l76 k19 xN x2 x4 (C.2.2 2 c) y p l 0 M = k19 x2 (x4 + 1) M' := by
  have h5 := hW.2.2.1
  obtain ⟨k, hk, ek⟩ := hW.2.2.2.2 c hc
  refine for_ex (fun n (M : xM) t => f_X4_play_l76 k19 n x2 x4 (C.2.2 2 c) y p l t M) nI T (fun t M => cP C (s, fld (dyT C c y p l) a t) M) (fun M' => k19 x2 (x4 + 1) M') ?_ ?_ xN M (by rw [xN_v]; omega) hM
  · intro n M hM
    show f_X4_play_l76 k19 (n + 1) x2 x4 _ y p l (nI T) M = _
    have e2 : M.1 2 = nI T := (hM.1.1 2 (by omega)).trans hW.1
    rw [f_X4_play_l76, f_X3_things, ob_s, e2, ite_le (by omega) (by omega), if_pos (Nat.le_refl T)]
  · intro n t M ht hM
    show ∃ M', cP C (s, fld (dyT C c y p l) a (t + 1)) M' ∧ f_X4_play_l76 k19 (n + 1) x2 x4 (C.2.2 2 c) y p l (nI t) M = f_X4_play_l76 k19 n x2 x4 (C.2.2 2 c) y p l (nI (t + 1)) M'
    have e2 : M.1 2 = nI T := (hM.1.1 2 (by omega)).trans hW.1
    have e1 : M.2.2 1 = C.2.2 1 := hM.1.2 1 (by omega)
    obtain ⟨M', w1, w2⟩ := c_add hW hc hM (Wd C c y p l t)
    refine ⟨M', w2, ?_⟩
    have hw := g_wrongBy' hk (C.2.2 1 (t * 3)) y (C.2.2 1 (t * 3 + 1)) p (C.2.2 1 (t * 3 + 2)) l
    rw [← ek] at hw
    have hw : f_X5_wrongBy (C.2.2 2 c) (far (C.2.2 1 (t * 3)) y) (if C.2.2 1 (t * 3 + 1) = p then 0 else 1) (if C.2.2 1 (t * 3 + 2) = l then 0 else 1) = some (Wd C c y p l t) := hw
    have hf : (if 0 ≤ (C.2.2 1 (t * 3) - y) then (C.2.2 1 (t * 3) - y) else 0 - (C.2.2 1 (t * 3) - y)) = far (C.2.2 1 (t * 3)) y := rfl
    rw [f_X4_play_l76, f_X3_things, ob_s, e2, ite_le (by omega) (by omega), if_neg (by omega), g_sign0 (by omega), ob_s, g_sign1 (by omega), ob_s, e1, hf]
    simp only [f_X4_play_b120, g_sign2 (C := M) (show t < 5 by omega), ob_s, e1, f_X4_play_b137]
    by_cases q1 : C.2.2 1 (t * 3 + 1) = p
    · rw [if_pos q1] at hw ⊢
      by_cases q2 : C.2.2 1 (t * 3 + 2) = l
      · rw [if_pos q2] at hw ⊢
        rw [hw, ob_s, w1, ob_s, nI_1]
      · rw [if_neg q2] at hw ⊢
        rw [hw, ob_s, w1, ob_s, nI_1]
    · rw [if_neg q1] at hw ⊢
      by_cases q2 : C.2.2 1 (t * 3 + 2) = l
      · rw [if_pos q2] at hw ⊢
        rw [hw, ob_s, w1, ob_s, nI_1]
      · rw [if_neg q2] at hw ⊢
        rw [hw, ob_s, w1, ob_s, nI_1]
theorem c_play (hW : WC C T K) (h0 : 0 < K) {m s : Nat} (hm : m ≤ 60) (hs : s < 2 ^ 31) : ∃ M', cP C (fld (fun a _ => day C T K a) (s, 0, 0) m) M' ∧ f_X4_play (nI m) (nI s) C = some M' := by
  have h3 := hW.2.2.2.1
  obtain ⟨M0, hM0⟩ : ∃ M0, M0 = xI (xI (xL C (nI s).toInt64) 16 0) 17 0 := ⟨_, rfl⟩
  have r0 : cP C (s, 0, 0) M0 := by
    rw [hM0]
    refine ⟨sC_t (sC_t sC_L (sC_I (by omega))) (sC_I (by omega)), hs, ?_, rfl, rfl⟩
    exact l64 hs
  rw [f_X4_play, nm_s, nm_s, nm_s, ← hM0]
  refine for_ex (fun n (M : xM) i => f_X4_play_l19 n (nI m) i M) nI m (fun i M => cP C (fld (fun a _ => day C T K a) (s, 0, 0) i) M) (fun M' => some M') ?_ ?_ xN M0 (by rw [xN_v]; omega) r0
  · intro n M hM
    show f_X4_play_l19 (n + 1) (nI m) (nI m) M = _
    rw [f_X4_play_l19, ite_le (by omega) (by omega), if_pos (Nat.le_refl m)]
  · intro n i M hi hM
    show ∃ M', cP C (fld (fun a _ => day C T K a) (s, 0, 0) (i + 1)) M' ∧ f_X4_play_l19 (n + 1) (nI m) (nI i) M = f_X4_play_l19 n (nI m) (nI (i + 1)) M'
    rw [fld]
    revert hM
    generalize fld (fun a _ => day C T K a) (s, 0, 0) i = a
    obtain ⟨u, f, w⟩ := a
    rintro ⟨m1, m2, m3, m4, m5⟩
    have m2 : u < 2 ^ 31 := m2
    have m3 : M.2.1 = Int64.ofNat u := m3
    have eK : M.1 3 = nI K := (m1.1 3 (by omega)).trans hW.2.1
    have l1 := sd_lt u
    have l2 := sd_lt (sd u)
    have l3 := sd_lt (sd (sd u))
    have l4 := sd_lt (sd (sd (sd u)))
    have hc : dr (sd u) K < 3 := by have := Nat.mod_lt (sd u / 65536) h0; unfold dr; omega
    obtain ⟨M1, hM1⟩ : ∃ M1, M1 = xL M (Int64.ofNat (sd u)) := ⟨_, rfl⟩
    obtain ⟨M2, hM2⟩ : ∃ M2, M2 = xL M1 (Int64.ofNat (sd (sd u))) := ⟨_, rfl⟩
    obtain ⟨M3, hM3⟩ : ∃ M3, M3 = xL M2 (Int64.ofNat (sd (sd (sd u)))) := ⟨_, rfl⟩
    obtain ⟨M4, hM4⟩ : ∃ M4, M4 = xL M3 (Int64.ofNat (sd (sd (sd (sd u))))) := ⟨_, rfl⟩
    have k1 : f_X4_draw (nI K) M = some (nI (dr (sd u) K), M1) := by rw [hM1]; exact c_draw m2 m3 h0 (by omega)
    have k2 : f_X4_draw 10 M1 = some (nI (dr (sd (sd u)) 10), M2) := by rw [hM2]; exact c_draw (k := 10) l1 (by rw [hM1]; rfl) (by omega) (by omega)
    have k3 : f_X4_draw (xe 3 (xT [10, 6, 5]) 1) M2 = some (nI (dr (sd (sd (sd u))) 6), M3) := by rw [hM3]; exact c_draw (k := 6) l2 (by rw [hM2]; rfl) (by omega) (by omega)
    have k4 : f_X4_draw (xe 3 (xT [10, 6, 5]) 2) M3 = some (nI (dr (sd (sd (sd (sd u)))) 5), M4) := by rw [hM4]; exact c_draw (k := 5) l3 (by rw [hM3]; rfl) (by omega) (by omega)
    have f1 : sC C M1 := by rw [hM1]; exact sC_t m1 sC_L
    have r4 : cP C (sd (sd (sd (sd u))), f, w) M4 := by
      rw [hM4, hM3, hM2, hM1]
      exact ⟨sC_t (sC_t (sC_t (sC_t m1 sC_L) sC_L) sC_L) sC_L, l4, rfl, m4, m5⟩
    rw [f_X4_play_l19, ite_le (by omega) (by omega), if_neg (by omega), f_X3_claimers, ob_s, eK, k1, ob2_s, g_kind hc, ob_s, k2, ob2_s, k3, ob2_s, k4, ob2_s, f1.2 2 (by omega)]
    obtain ⟨M', w1, w2⟩ := c_l76 hW hc r4 (nI (dr (sd (sd u)) 10)) (nI (dr (sd (sd (sd u))) 6)) (nI (dr (sd (sd (sd (sd u)))) 5)) (nI m) (nI i) (f_X4_play_l19 n)
    rw [nI_1] at w2
    exact ⟨M', w1, w2⟩
theorem rd_set {mm : Nat → Int32} {M : xM} (h : RD (xA C 4 mm) M T K) {c q v : Nat} (hc : c < K) (hq : q < 3) (hv : v ≤ 9) (z : Int32) : RD (xA C 4 (upd mm (c * 3 + q) (nI v))) (xA (xI M 9 z) 2 (upd (M.2.2 2) (5 * c + q) (nI v))) T K := by
  obtain ⟨hW, e2, e3, r1, r2, r3, r4, r5, r6, r7⟩ := h
  refine ⟨hW, e2, e3, ?_⟩
  show RG T K (C.2.2 1) (C.2.2 2) (C.2.2 3) (upd mm (c * 3 + q) (nI v)) (M.2.2 1) (upd (M.2.2 2) (5 * c + q) (nI v))
  refine ⟨r1, r2, fun d u hd hu => ?_, fun d hd => ?_, fun d hd => ?_, r6, r7⟩
  · by_cases e : d = c ∧ u = q
    · obtain ⟨rfl, rfl⟩ := e
      rw [upd_s, upd_s]
      exact ⟨rfl, v, hv, rfl⟩
    · rw [upd_n (by omega), upd_n (by omega)]; exact r3 d u hd hu
  · rw [upd_n (by omega)]; exact r4 d hd
  · rw [upd_n (by omega)]; exact r5 d hd
theorem m_d1 {mm : Nat → Int32} {M : xM} (h : RD (xA C 4 mm) M T K) {s q k c : Nat} (hs : s < 2 ^ 31) (h9 : M.1 9 = nI s) (hq : q < 3) (h0 : 0 < k) (hk : k ≤ 10) (hc : c < K) (hm : f_X6_mostOf (nI q) = some (nI k - 1)) (k66 : Int32 → Int32 → Int32 → Int32 → Int32 → xM → Option (Int32 × xM)) (n : Nat) (x1 x3 x4 x5 x6 : Int32) :
    f_X6_mondays_l85 k66 (n + 1) x1 x3 x4 x5 x6 (nI c) (nI q) M = f_X6_mondays_l85 k66 n x1 x3 x4 x5 x6 (nI c) (nI (q + 1)) (xA (xI M 9 (nI (sd s))) 2 (upd (M.2.2 2) (5 * c + q) (nI (dr (sd s) k)))) := by
  have h3 := h.1.2.2.2.1
  have e1 : nI k - 1 + 1 = nI k := Int32.sub_add_cancel _ _
  rw [f_X6_mondays_l85, n3, ite_le (by omega) (by omega), if_neg (by omega), hm, ob_s, e1, m_draw hs h9 h0 hk, ob2_s, ix5, xst_n (by omega) (by omega), ob_s, nm_s, nI_1]
  rfl
theorem m_l123 {mm : Nat → Int32} {M : xM} (h : RD (xA C 4 mm) M T K) {c : Nat} (hc : c < K) (k66 : Int32 → Int32 → Int32 → Int32 → Int32 → xM → Option (Int32 × xM)) (x1 x3 x6 : Int32) (a : Int32 × Int32) :
    f_X6_mondays_l123 k66 xN x1 x3 a.1 a.2 x6 (nI c) 0 M = k66 x1 x3 (fld (dyT C c (mm (c * 3)) (mm (c * 3 + 1)) (mm (c * 3 + 2))) a T).1 (fld (dyT C c (mm (c * 3)) (mm (c * 3 + 1)) (mm (c * 3 + 2))) a T).2 (x6 + 1) M := by
  have h5 := h.1.2.2.1
  have hT := h.2.1
  refine for_ix (fun n (b : Int32 × Int32) t => f_X6_mondays_l123 k66 n x1 x3 b.1 b.2 x6 (nI c) t M) nI T (fun t b => b = fld (dyT C c (mm (c * 3)) (mm (c * 3 + 1)) (mm (c * 3 + 2))) a t) _ ?_ ?_ xN a (by rw [xN_v]; omega) rfl
  · rintro n b rfl
    show f_X6_mondays_l123 k66 (n + 1) x1 x3 _ _ x6 (nI c) (nI T) M = _
    rw [f_X6_mondays_l123, hT, ite_le (by omega) (by omega), if_pos (Nat.le_refl T)]
  · rintro n t b ht rfl
    refine Or.inr ⟨_, rfl, ?_⟩
    rw [fld]
    generalize fld (dyT C c (mm (c * 3)) (mm (c * 3 + 1)) (mm (c * 3 + 2))) a t = b
    obtain ⟨f, w⟩ := b
    show f_X6_mondays_l123 k66 (n + 1) x1 x3 f w x6 (nI c) (nI t) M = f_X6_mondays_l123 k66 n x1 x3 (dyT C c (mm (c * 3)) (mm (c * 3 + 1)) (mm (c * 3 + 2)) (f, w) t).1 (dyT C c (mm (c * 3)) (mm (c * 3 + 1)) (mm (c * 3 + 2)) (f, w) t).2 x6 (nI c) (nI (t + 1)) M
    have eW : wO (xA C 4 mm) t c = Wd C c (mm (c * 3)) (mm (c * 3 + 1)) (mm (c * 3 + 2)) t := rfl
    have eF : fO (xA C 4 mm) t c = Ft (C.2.2 2 c) (Wd C c (mm (c * 3)) (mm (c * 3 + 1)) (mm (c * 3 + 2)) t) := rfl
    rw [f_X6_mondays_l123, hT, ite_le (by omega) (by omega), if_neg (by omega), m_fits h ht hc, ob_s, ite_bI, f_X6_mondays_b150, f_X6_mondays_b150, m_fits h ht hc, ob_s, ob_s, ite_bI, ite_bI, m_wO h ht hc, ob_s, eF, eW, dyT]
    simp only [f_X6_mondays_b178, nI_1]
    by_cases q : Ft (C.2.2 2 c) (Wd C c (mm (c * 3)) (mm (c * 3 + 1)) (mm (c * 3 + 2)) t) = true
    · rw [if_pos q, if_pos q, if_pos q]
    · rw [if_neg q, if_neg q, if_neg q, Int32.add_zero, Int32.add_zero]
/-- where the reference stands in its mondays -/
def mP (C D : xM) (T K : Nat) (a : Nat × Int32 × Int32) (b : Int32 × Int32 × xM) : Prop := a.1 < 2 ^ 31 ∧ b.2.2.1 9 = nI a.1 ∧ b.1 = a.2.1 ∧ b.2.1 = a.2.2 ∧ sD (xA D 2 (b.2.2.2.2 2)) b.2.2 ∧ (∀ j, j < 15 → b.2.2.2.2 7 j = D.2.2 2 j) ∧ ∃ mm, RD (xA C 4 mm) b.2.2 T K
theorem sD_9 {D M : xM} {z : Int32} {g : Nat → Int32} (h : sD (xA D 2 (M.2.2 2)) M) : sD (xA D 2 g) (xA (xI M 9 z) 2 g) := by
  refine ⟨fun k h1 h2 => ?_, fun k h1 h2 h3 h4 => ?_⟩
  · show (if k = 9 then z else M.1 k) = D.1 k
    rw [if_neg h2]
    exact h.1 k h1 h2
  · rw [xA_2, xA_2]
    by_cases e : k = 2
    · rw [if_pos e, if_pos e]
    · rw [if_neg e, if_neg e]
      have := h.2 k h1 h2 h3 h4
      rw [xA_2, if_neg e] at this
      exact this
/-- what the reference answers after its mondays -/
def mE (x3 : Int32) (b : Int32 × Int32 × xM) : Option (Int32 × xM) :=
  nmM (xA b.2.2 2 (xc 15 15 (b.2.2.2.2 7) (b.2.2.2.2 2))) fun M11 => if x3 = 0 then some (b.1, M11) else if x3 = 1 then some (b.2.1, M11) else some ((M11.1 9), M11)
theorem m_play (h : RD C D T K) (h0 : 0 < K) {m s : Nat} (hm : m ≤ 60) (hs : s < 2 ^ 31) (x3 : Int32) : ∃ b, mP C D T K (fld (fun a _ => day C T K a) (s, 0, 0) m) b ∧ f_X6_mondays_l66 xN (nI m) x3 0 0 0 (xI (xA D 7 (xc 15 15 (D.2.2 2) (D.2.2 7))) 9 (nI s)) = mE x3 b := by
  have h3 := h.1.2.2.2.1
  obtain ⟨M0, hM0⟩ : ∃ M0, M0 = xI (xA D 7 (xc 15 15 (D.2.2 2) (D.2.2 7))) 9 (nI s) := ⟨_, rfl⟩
  have eC : xA C 4 (C.2.2 4) = C := by
    unfold xA
    have : va_up C.2.2 4 (C.2.2 4) = C.2.2 := by
      funext j
      unfold va_up
      by_cases e : j = 4
      · rw [if_pos e, e]
      · rw [if_neg e]
    rw [this]
  have r0 : mP C D T K (s, 0, 0) (0, 0, M0) := by
    refine ⟨hs, by rw [hM0]; rfl, rfl, rfl, ⟨fun k h1 h2 => ?_, fun k h1 h2 h3 h4 => ?_⟩, fun j hj => ?_, C.2.2 4, ?_⟩
    · show M0.1 k = D.1 k
      rw [hM0, xI_1, if_neg h2]
      rfl
    · rw [xA_2]
      by_cases e : k = 2
      · subst e; rw [if_pos rfl]
      · rw [if_neg e, hM0]
        show (if k = 7 then _ else D.2.2 k) = D.2.2 k
        rw [if_neg h4]
    · rw [hM0]
      exact xc_lt hj
    · rw [eC, hM0]
      exact h
  rw [← hM0]
  refine for_ex (fun n (b : Int32 × Int32 × xM) i => f_X6_mondays_l66 n (nI m) x3 b.1 b.2.1 i b.2.2) nI m (fun i b => mP C D T K (fld (fun a _ => day C T K a) (s, 0, 0) i) b) (mE x3) ?_ ?_ xN (0, 0, M0) (by rw [xN_v]; omega) r0
  · rintro n ⟨f, w, M⟩ hM
    show f_X6_mondays_l66 (n + 1) (nI m) x3 f w (nI m) M = _
    rw [f_X6_mondays_l66, ite_le (by omega) (by omega), if_pos (Nat.le_refl m), mE]
  · rintro n i ⟨f, w, M⟩ hi hM
    show ∃ b', mP C D T K (fld (fun a _ => day C T K a) (s, 0, 0) (i + 1)) b' ∧ f_X6_mondays_l66 (n + 1) (nI m) x3 f w (nI i) M = f_X6_mondays_l66 n (nI m) x3 b'.1 b'.2.1 (nI (i + 1)) b'.2.2
    rw [fld]
    revert hM
    generalize fld (fun a _ => day C T K a) (s, 0, 0) i = a
    obtain ⟨u, f', w'⟩ := a
    rintro ⟨m1, m2, m3, m4, m5, m6, mm, m7⟩
    have m1 : u < 2 ^ 31 := m1
    have m2 : M.1 9 = nI u := m2
    have m3 : f = f' := m3
    have m4 : w = w' := m4
    have m5 : sD (xA D 2 (M.2.2 2)) M := m5
    have m6 : ∀ j, j < 15 → M.2.2 7 j = D.2.2 2 j := m6
    have m7 : RD (xA C 4 mm) M T K := m7
    subst m3 m4
    have l1 := sd_lt u
    have l2 := sd_lt (sd u)
    have l3 := sd_lt (sd (sd u))
    have l4 := sd_lt (sd (sd (sd u)))
    have hc : dr (sd u) K < K := Nat.mod_lt _ h0
    obtain ⟨c, hcc⟩ : ∃ c, c = dr (sd u) K := ⟨_, rfl⟩
    obtain ⟨y, hy⟩ : ∃ y, y = dr (sd (sd u)) 10 := ⟨_, rfl⟩
    obtain ⟨p, hp⟩ : ∃ p, p = dr (sd (sd (sd u))) 6 := ⟨_, rfl⟩
    obtain ⟨l, hl⟩ : ∃ l, l = dr (sd (sd (sd (sd u)))) 5 := ⟨_, rfl⟩
    have y9 : y ≤ 9 := by have := Nat.mod_lt (sd (sd u) / 65536) (show 0 < 10 by omega); rw [hy]; unfold dr; omega
    have p9 : p ≤ 9 := by have := Nat.mod_lt (sd (sd (sd u)) / 65536) (show 0 < 6 by omega); rw [hp]; unfold dr; omega
    have l9 : l ≤ 9 := by have := Nat.mod_lt (sd (sd (sd (sd u))) / 65536) (show 0 < 5 by omega); rw [hl]; unfold dr; omega
    rw [← hcc] at hc
    -- the claimer's number
    obtain ⟨M1, hM1⟩ : ∃ M1, M1 = xI M 9 (nI (sd u)) := ⟨_, rfl⟩
    have a1 : RD (xA C 4 mm) M1 T K := by rw [hM1]; exact m7
    have k1 : f_X6_draw (M.1 3) M = some (nI c, M1) := by rw [hM1, hcc, m7.2.2.1]; exact m_draw m1 m2 h0 (by omega)
    -- year, place, letter
    obtain ⟨M2, hM2⟩ : ∃ M2, M2 = xA (xI M1 9 (nI (sd (sd u)))) 2 (upd (M1.2.2 2) (5 * c + 0) (nI y)) := ⟨_, rfl⟩
    obtain ⟨M3, hM3⟩ : ∃ M3, M3 = xA (xI M2 9 (nI (sd (sd (sd u))))) 2 (upd (M2.2.2 2) (5 * c + 1) (nI p)) := ⟨_, rfl⟩
    obtain ⟨M4, hM4⟩ : ∃ M4, M4 = xA (xI M3 9 (nI (sd (sd (sd (sd u)))))) 2 (upd (M3.2.2 2) (5 * c + 2) (nI l)) := ⟨_, rfl⟩
    have a2 : RD (xA C 4 (upd mm (c * 3 + 0) (nI y))) M2 T K := by rw [hM2]; exact rd_set a1 hc (by omega) y9 _
    have a3 : RD (xA C 4 (upd (upd mm (c * 3 + 0) (nI y)) (c * 3 + 1) (nI p))) M3 T K := by rw [hM3]; exact rd_set a2 hc (by omega) p9 _
    have a4 : RD (xA C 4 (upd (upd (upd mm (c * 3 + 0) (nI y)) (c * 3 + 1) (nI p)) (c * 3 + 2) (nI l))) M4 T K := by rw [hM4]; exact rd_set a3 hc (by omega) l9 _
    have k2 : f_X6_mondays_l85 (f_X6_mondays_l66 n) (399 + 1) (nI m) x3 f w (nI i) (nI c) (nI 0) M1 = f_X6_mondays_l85 (f_X6_mondays_l66 n) (398 + 1) (nI m) x3 f w (nI i) (nI c) (nI 1) M2 := by
      rw [hM2, hy]
      exact m_d1 a1 l1 (by rw [hM1]; rfl) (by omega) (by omega) (by omega) hc rfl _ _ _ _ _ _ _
    have k3 : f_X6_mondays_l85 (f_X6_mondays_l66 n) (398 + 1) (nI m) x3 f w (nI i) (nI c) (nI 1) M2 = f_X6_mondays_l85 (f_X6_mondays_l66 n) (397 + 1) (nI m) x3 f w (nI i) (nI c) (nI 2) M3 := by
      rw [hM3, hp]
      exact m_d1 a2 l2 (by rw [hM2]; rfl) (by omega) (by omega) (by omega) hc rfl _ _ _ _ _ _ _
    have k4 : f_X6_mondays_l85 (f_X6_mondays_l66 n) (397 + 1) (nI m) x3 f w (nI i) (nI c) (nI 2) M3 = f_X6_mondays_l85 (f_X6_mondays_l66 n) (396 + 1) (nI m) x3 f w (nI i) (nI c) (nI 3) M4 := by
      rw [hM4, hl]
      exact m_d1 a3 l3 (by rw [hM3]; rfl) (by omega) (by omega) (by omega) hc rfl _ _ _ _ _ _ _
    have k5 : f_X6_mondays_l85 (f_X6_mondays_l66 n) (396 + 1) (nI m) x3 f w (nI i) (nI c) (nI 3) M4 = f_X6_mondays_l123 (f_X6_mondays_l66 n) xN (nI m) x3 f w (nI i) (nI c) 0 M4 := by
      rw [f_X6_mondays_l85, n3, ite_le (by omega) (by omega), if_pos (Nat.le_refl 3)]
    have k6 := m_l123 a4 hc (f_X6_mondays_l66 n) (nI m) x3 (nI i) (f, w)
    have v0 : upd (upd (upd mm (c * 3 + 0) (nI y)) (c * 3 + 1) (nI p)) (c * 3 + 2) (nI l) (c * 3) = nI y := by
      rw [upd_n (by omega), upd_n (by omega)]; exact upd_s
    have v1 : upd (upd (upd mm (c * 3 + 0) (nI y)) (c * 3 + 1) (nI p)) (c * 3 + 2) (nI l) (c * 3 + 1) = nI p := by
      rw [upd_n (by omega)]; exact upd_s
    have v2 : upd (upd (upd mm (c * 3 + 0) (nI y)) (c * 3 + 1) (nI p)) (c * 3 + 2) (nI l) (c * 3 + 2) = nI l := upd_s
    rw [v0, v1, v2, nI_1] at k6
    refine ⟨((fld (dyT C c (nI y) (nI p) (nI l)) (f, w) T).1, (fld (dyT C c (nI y) (nI p) (nI l)) (f, w) T).2, M4), ?_, ?_⟩
    · show mP C D T K (sd (sd (sd (sd u))), fld (dyT C (dr (sd u) K) (nI (dr (sd (sd u)) 10)) (nI (dr (sd (sd (sd u))) 6)) (nI (dr (sd (sd (sd (sd u)))) 5))) (f, w) T) _
      rw [← hcc, ← hy, ← hp, ← hl]
      have s1 : sD (xA D 2 (M1.2.2 2)) M1 := by
        rw [hM1]
        exact sD_t m5 (sD_I (by omega))
      have s2 : sD (xA D 2 (M2.2.2 2)) M2 := by rw [hM2]; exact sD_9 s1
      have s3 : sD (xA D 2 (M3.2.2 2)) M3 := by rw [hM3]; exact sD_9 s2
      have s4 : sD (xA D 2 (M4.2.2 2)) M4 := by rw [hM4]; exact sD_9 s3
      refine ⟨l4, by rw [hM4]; rfl, rfl, rfl, s4, fun j hj => ?_, _, a4⟩
      rw [hM4, hM3, hM2, hM1]
      exact m6 j hj
    · rw [f_X6_mondays_l66, ite_le (by omega) (by omega), if_neg (by omega), k1, ob2_s]
      exact k2.trans (k3.trans (k4.trans (k5.trans k6)))
theorem inv_A2 {C D : xM} {j : Nat} (h : Inv C D j) {g : Nat → Int32} (e : ∀ k, k < 15 → g k = D.2.2 2 k) : Inv C (xA D 2 g) j := by
  obtain ⟨T, K, S, mo, n, b, hb, hB, hR, hP, hN, hK⟩ := h
  exact ⟨T, K, S, mo, n, b, hb, hB, ⟨RG_congr hB.2.2.2.2.1 hB.2.2.2.2.2.1 (fun _ _ => rfl) (fun _ _ => rfl) (fun _ _ => rfl) e hR.1, hR.2⟩, hP, hN, hK⟩
end MO
theorem o_mondays : op_mondays Inv := by
  intro C D j hj hI x y z
  have hI' := inv_mon C D j hI
  obtain ⟨T, K, S, mo, n, b, hb, hB, hR, hP, hN, hK⟩ := hI
  have mi1 : f_X6_in x.toInt64 (1 : Int64) (60 : Int64) = some (bI (decide (1 ≤ x ∧ x ≤ 60))) := m_in x 1 60
  have mi2 : f_X6_in z.toInt64 (0 : Int64) (2 : Int64) = some (bI (decide (0 ≤ z ∧ z ≤ 2))) := m_in z 0 2
  rw [f_X5_mondays, f_X6_mondays, mi1, ob_s, ite_bI, mi2, ob_s, ite_bI]
  by_cases x1 : x < 1
  · rw [if_pos x1, if_neg (by simp; intro h; exact absurd x1 (Int32.not_lt.mpr h))]
    exact ⟨-102, C, D, rfl, rfl, hI'⟩
  by_cases x2 : 60 < x
  · rw [if_neg x1, if_pos x2, if_neg (by simp; intro h; exact x2)]
    exact ⟨-102, C, D, rfl, rfl, hI'⟩
  rw [if_neg x1, if_neg x2, if_pos (decide_eq_true ⟨Int32.not_lt.mp x1, Int32.not_lt.mp x2⟩)]
  by_cases y0 : y < 0
  · rw [if_pos y0, if_pos y0]
    exact ⟨-102, C, D, rfl, rfl, hI'⟩
  rw [if_neg y0, if_neg y0]
  by_cases z0 : z < 0
  · rw [if_pos z0, if_neg (by simp; intro h; exact absurd z0 (Int32.not_lt.mpr h))]
    exact ⟨-102, C, D, rfl, rfl, hI'⟩
  rw [if_neg z0]
  by_cases z2 : z ≤ 2
  · rw [if_pos z2, if_pos (decide_eq_true ⟨Int32.not_lt.mp z0, z2⟩), c_stands hB, ob_s, ite_bI, m_lacks hB, ob_s, ite_bI]
    by_cases h0 : 0 < T
    · rw [if_pos (decide_eq_true h0), if_neg (by simp; omega), nm_s, nm_s]
      have hK0 : 0 < K := hB.2.2.2.2.2.2.1 h0
      obtain ⟨s, hs, rfl⟩ := nI_of y0
      obtain ⟨m, hm, rfl⟩ := nI_of (x := x) (fun h => x1 (Int32.lt_trans h (by decide)))
      have hm60 : m ≤ 60 := (nI_leI hm (by omega)).mp (Int32.not_lt.mp x2)
      have hD := ivRD hB hR
      obtain ⟨M', p1, p2⟩ := c_play (ivWC hB) hK0 hm60 hs
      obtain ⟨⟨f, w, N⟩, q1, q2⟩ := m_play hD hK0 hm60 hs z
      rw [p2, ob_s, q2]
      revert p1 q1
      generalize fld (fun a _ => day C T K a) (s, 0, 0) m = a
      obtain ⟨u, f', w'⟩ := a
      rintro ⟨p1, p3, p4, p5, p6⟩ ⟨q1, q3, q4, q5, q6, q7, mm, q8⟩
      have p4 : M'.2.1 = Int64.ofNat u := p4
      have p5 : M'.1 16 = f' := p5
      have p6 : M'.1 17 = w' := p6
      have q3 : N.1 9 = nI u := q3
      have q4 : f = f' := q4
      have q5 : w = w' := q5
      have q6 : sD (xA D 2 (N.2.2 2)) N := q6
      have q7 : ∀ j, j < 15 → N.2.2 7 j = D.2.2 2 j := q7
      subst q4 q5
      obtain ⟨g, hg⟩ : ∃ g, g = xc 15 15 (N.2.2 7) (N.2.2 2) := ⟨_, rfl⟩
      have hgj : ∀ k, k < 15 → g k = D.2.2 2 k := fun k hk => by rw [hg, xc_lt hk]; exact q7 k hk
      have hfr : sD (xA D 2 g) (xA N 2 g) := by
        refine ⟨fun k h1 h2 => q6.1 k h1 h2, fun k h1 h2 h3 h4 => ?_⟩
        rw [xA_2, xA_2]
        by_cases e : k = 2
        · rw [if_pos e, if_pos e]
        · rw [if_neg e, if_neg e]
          have := q6.2 k h1 h2 h3 h4
          rw [xA_2, if_neg e] at this
          exact this
      have hfin : Inv M' (xA N 2 g) (j + 1) := fr_Inv p1 hfr (inv_A2 hI' hgj)
      have em : mE z (f, w, N) = if z = 0 then some (f, xA N 2 g) else if z = 1 then some (w, xA N 2 g) else some (nI u, xA N 2 g) := by
        rw [hg, ← q3]
        rfl
      rw [em, f_X4_tell]
      by_cases e0 : z = 0
      · rw [if_pos e0, if_pos e0, ob_s, p5]
        exact ⟨f, M', xA N 2 g, rfl, rfl, hfin⟩
      · rw [if_neg e0, if_neg e0]
        by_cases e1 : z = 1
        · rw [if_pos e1, if_pos e1, ob_s, p6]
          exact ⟨w, M', xA N 2 g, rfl, rfl, hfin⟩
        · rw [if_neg e1, if_neg e1, ob_s, p4, l32]
          exact ⟨nI u, M', xA N 2 g, rfl, rfl, hfin⟩
    · rw [if_neg (by simp; omega), if_pos (by simp; omega)]
      exact ⟨-103, C, D, rfl, rfl, hI'⟩
  · rw [if_neg z2, if_neg (by simp; intro h; exact Int32.not_le.mp z2)]
    exact ⟨-102, C, D, rfl, rfl, hI'⟩
