/-! ===== the matching, by the reference ===== -/
theorem bS_or1 {P : Nat → Bool} {t : Nat} (ht : t < 5) : bS P 5 ||| ((1 : Int32) <<< (nI t &&& 31)) = bS (fun u => P u || decide (t + 1 = u + 1)) 5 := by
  apply b_ext
  intro i hi
  rw [b_or, b_bS _ (by omega) hi, b_bS _ (by omega) hi, b_pw (by omega) hi]
  by_cases h : i = t
  · subst h
    simp [ht]
  · have h2 : ¬ t = i := fun e => h e.symm
    simp [h, h2]
theorem fr_RD {T K : Nat} {C D M : xM} (hM : sD D M) (h : RD C D T K) : RD C M T K := by
  unfold RD
  rw [hM.1 2 (by omega) (by omega), hM.1 3 (by omega) (by omega), hM.2 1 (by omega) (by omega) (by omega) (by omega), hM.2 2 (by omega) (by omega) (by omega) (by omega)]
  exact h
section MM
variable {T K : Nat} {C D : xM}
theorem m_lay (hR : RD C D T K) {M : xM} (hM : sD D M) {n q c : Nat} {Pt : Nat → Bool} {g : Bool} (hq : q < 2 ^ 30) (hc : c < K) :
    f_X6_layRow_l15 (n + 1) (nI q) (bS Pt 5) (bI g) (nI c) M = f_X6_layRow_l15 n (nI (q / (T + 1))) (bS (fun u => Pt u || decide (q % (T + 1) = u + 1)) 5) (bI (g && okM C T K c (q % (T + 1)) && !(decide (q % (T + 1) ≠ 0) && Pt (q % (T + 1) - 1)))) (nI c + -1) (xA M 4 (upd (M.2.2 4) c (dg (q % (T + 1))))) := by
  have h5 := hR.1.2.2.1
  have h3 := hR.1.2.2.2.1
  have hdT : q % (T + 1) ≤ T := by have := Nat.mod_lt q (show 0 < T + 1 by omega); omega
  obtain ⟨d, hd⟩ : ∃ d, d = q % (T + 1) := ⟨_, rfl⟩
  obtain ⟨M4, hM4⟩ : ∃ M4, M4 = xA M 4 (upd (M.2.2 4) c (dg d)) := ⟨_, rfl⟩
  have e2 : M.1 2 = nI T := (hM.1 2 (by omega) (by omega)).trans hR.2.1
  have e24 : M4.1 2 = nI T := by rw [hM4]; exact e2
  have hR4 : RD C M4 T K := by rw [hM4]; exact fr_RD (sD_t hM (sD_A (by omega))) hR
  have hne : ¬ nI (T + 1) = 0 := fun e => by have := nI_inj (b := 0) (by omega) (by omega) e; omega
  have row : xld 3 (M4.2.2 4) (nI c) = some (dg d) := by
    rw [xld_n (by omega) (by omega), hM4]
    exact congrArg some upd_s
  rw [← hd] at hdT ⊢
  rw [← hM4, f_X6_layRow_l15, if_neg (nI_pos (by omega)), e2, nI_1, xrm, if_neg hne, pk_rem (by omega) (by omega) (by omega), ob_s, dg_pred, ← hd, xst_n (by omega) (by omega), ob_s, nm_s, ← hM4, e24, nI_1, xdv, if_neg hne, pk_div (by omega) (by omega) (by omega), ob_s, row, ob_s]
  cases d with
  | zero =>
    have a1 : bS (fun u => Pt u || decide (0 = u + 1)) 5 = bS Pt 5 := bS_congr (fun i hi => by simp)
    have a2 : (g && okM C T K c 0 && !(decide (0 ≠ 0) && Pt (0 - 1))) = g := by simp [okM]
    rw [a1, a2, if_pos (show dg 0 = -1 from rfl), f_X6_layRow_b158]
  | succ t =>
    have b144 : ∀ (k : Int32 → Int32 → Int32 → Int32 → xM → Option (Int32 × xM)) (x2 y : Int32), f_X6_layRow_b144 k x2 (bS Pt 5) (nI c) y M4 = k x2 (bS (fun u => Pt u || decide (t + 1 = u + 1)) 5) y (nI c + -1) M4 := by
      intro k x2 y
      rw [f_X6_layRow_b144, row, ob_s, show dg (t + 1) = nI t from rfl, bS_or1 (by omega), f_X6_layRow_b158]
    have b97 : ∀ (k : Int32 → Int32 → Int32 → Int32 → xM → Option (Int32 × xM)) (x2 : Int32) (y : Bool), f_X6_layRow_b97 k x2 (bS Pt 5) (bI g) (nI c) (bI y) M4 = k x2 (bS (fun u => Pt u || decide (t + 1 = u + 1)) 5) (bI (g && (y && fO C t c) && !Pt t)) (nI c + -1) M4 := by
      intro k x2 y
      rw [f_X6_layRow_b97, f_X6_layRow_b143, ite_bI, ite_bI, row, ob_s, show dg (t + 1) = nI t from rfl, m_fits hR4 (by omega) hc, ob_s, ite_bI, ob_s, shr_bit Pt (by omega) (by omega), ite_bI, b144, b144]
      cases g <;> cases y <;> cases fO C t c <;> cases Pt t <;> rfl
    have ee : (g && okM C T K c (t + 1) && !(decide (t + 1 ≠ 0) && Pt (t + 1 - 1))) = (g && ((decide (C.2.2 3 t = -1) && decide (xOf (C.2.2 3) (nI c) = -1)) && fO C t c) && !Pt t) := by
      rw [ok_s, decide_eq_true hc, decide_eq_true (show t < T by omega), decide_eq_true (show t + 1 ≠ 0 by omega), show t + 1 - 1 = t by omega]
      cases g <;> cases decide (C.2.2 3 t = -1) <;> cases decide (xOf (C.2.2 3) (nI c) = -1) <;> cases fO C t c <;> cases Pt t <;> rfl
    rw [ee, if_neg (show ¬ dg (t + 1) = -1 from nI_m1 (by omega)), ob_s, show dg (t + 1) = nI t from rfl, l_h hR4 (by omega), ob_s]
    by_cases q1 : C.2.2 3 t = -1
    · rw [if_pos q1, decide_eq_true q1, Bool.true_and, r_h hR4 hc, ob_s]
      by_cases q2 : xOf (C.2.2 3) (nI c) = -1
      · rw [if_pos q2, decide_eq_true q2]
        exact b97 _ _ true
      · rw [if_neg q2, decide_eq_false q2, f_X6_layRow_b96]
        exact b97 _ _ false
    · rw [if_neg q1, decide_eq_false q1, Bool.false_and, f_X6_layRow_b96]
      exact b97 _ _ false
theorem tw_e (d e : Nat) : (decide (d ≠ 0) && decide (e = d - 1 + 1)) = twc d e := by
  unfold twc
  cases d with
  | zero => simp
  | succ d =>
    rw [decide_eq_true (show d + 1 ≠ 0 by omega), Bool.true_and, Bool.and_true]
    exact decide_eq_decide.mpr ⟨fun h => by omega, fun h => by omega⟩
theorem ok_0 (c : Nat) : okM C T K c 0 = true := by simp [okM]
theorem tw_0 (d : Nat) : twc d 0 = false := by cases d <;> rfl
theorem m_layRow (hR : RD C D T K) (h1 : 1 ≤ K) {M : xM} (hM : sD D M) {x : Nat} (hx : x < (T + 1) ^ K) :
    ∃ row, f_X6_layRow (nI x) M = some (bI (vM3 C T K (dM (T + 1) K x 0) (dM (T + 1) K x 1) (dM (T + 1) K x 2)), xA M 4 row) ∧ ∀ c, c < K → row c = dg (dM (T + 1) K x c) := by
  have h5 := hR.1.2.2.1
  have h3 := hR.1.2.2.2.1
  have eK : M.1 3 = nI K := (hM.1 3 (by omega) (by omega)).trans hR.2.2.1
  have hB : 0 < T + 1 := by omega
  have e0 : (0 : Int32) = bS (fun _ => false) 5 := by decide
  have fin : ∀ n x2 x3 (g : Bool) (M : xM), f_X6_layRow_l15 (n + 1) x2 x3 (bI g) (nI 0 + -1) M = some (bI g, M) := by
    intro n x2 x3 g M
    rw [f_X6_layRow_l15, if_pos (by decide), xbo_bI, ob_s]
  have up : nI 1 + -1 = nI 0 := rfl
  have up2 : nI 2 + -1 = nI 1 := rfl
  rw [f_X6_layRow, eK]
  have h216 : (T + 1) ^ K ≤ 6 ^ 3 := Nat.le_trans (Nat.pow_le_pow_left (by omega) K) (Nat.pow_le_pow_right (by omega) h3)
  have hx216 : x < 2 ^ 30 := by omega
  rcases (show K = 1 ∨ K = 2 ∨ K = 3 by omega) with rfl | rfl | rfl
  · rw [Nat.pow_one] at hx
    rw [show nI 1 - 1 = nI 0 from rfl]
    have s0 := m_lay hR hM (n := 399) (q := x) (c := 0) (Pt := fun _ => false) (g := true) (by omega) (by omega)
    rw [← e0, Nat.mod_eq_of_lt hx] at s0
    refine ⟨upd (M.2.2 4) 0 (dg x), (show f_X6_layRow_l15 (399 + 1) (nI x) 0 1 (nI 0) M = _ from s0.trans ?_), fun c hc => ?_⟩
    · rw [fin]
      have a0 : dM (T + 1) 1 x 0 = x := rfl
      have a1 : dM (T + 1) 1 x 1 = 0 := rfl
      have a2 : dM (T + 1) 1 x 2 = 0 := rfl
      rw [a0, a1, a2, vM3, ok_0, ok_0, tw_0, tw_0]
      simp
    · have : c = 0 := by omega
      subst this
      exact upd_s
  · rw [Nat.pow_two] at hx
    rw [show nI 2 - 1 = nI 1 from rfl]
    have hd0 : x / (T + 1) < T + 1 := Nat.div_lt_of_lt_mul hx
    have hx0 : x / (T + 1) < 2 ^ 30 := Nat.lt_of_le_of_lt (Nat.div_le_self _ _) hx216
    have s1 := m_lay hR hM (n := 399) (q := x) (c := 1) (Pt := fun _ => false) (g := true) (by omega) (by omega)
    have s0 := m_lay hR (sD_t hM (sD_A (k := 4) (f := upd (M.2.2 4) 1 (dg (x % (T + 1)))) (by omega))) (n := 398) (q := x / (T + 1)) (c := 0) (Pt := fun u => false || decide (x % (T + 1) = u + 1)) (g := (true && okM C T 2 1 (x % (T + 1)) && !(decide (x % (T + 1) ≠ 0) && false))) (by omega) (by omega)
    rw [← e0, up, s0, fin, Nat.mod_eq_of_lt hd0, xA_A] at s1
    refine ⟨upd (upd (M.2.2 4) 1 (dg (x % (T + 1)))) 0 (dg (x / (T + 1))), ?_, fun c hc => ?_⟩
    · show f_X6_layRow_l15 (399 + 1) (nI x) 0 (bI true) (nI 1) M = _
      rw [s1]
      have a0 : dM (T + 1) 2 x 0 = x / (T + 1) := rfl
      have a1 : dM (T + 1) 2 x 1 = x % (T + 1) := rfl
      have a2 : dM (T + 1) 2 x 2 = 0 := rfl
      rw [a0, a1, a2, vM3, ok_0, tw_0, tw_0, Bool.false_or, tw_e]
      refine congrArg some (Prod.ext (congrArg bI ?_) rfl)
      cases okM C T 2 1 (x % (T + 1)) <;> cases okM C T 2 0 (x / (T + 1)) <;> cases twc (x / (T + 1)) (x % (T + 1)) <;> simp
    · rcases (show c = 0 ∨ c = 1 by omega) with rfl | rfl
      · exact upd_s
      · rw [upd_n (by omega), upd_s]; rfl
  · rw [show (T + 1) ^ 3 = (T + 1) * ((T + 1) * (T + 1)) by rw [Nat.pow_succ, Nat.pow_two, Nat.mul_comm]] at hx
    rw [show nI 3 - 1 = nI 2 from rfl]
    have hd1 : x / (T + 1) < (T + 1) * (T + 1) := Nat.div_lt_of_lt_mul hx
    have hd0 : x / (T + 1) / (T + 1) < T + 1 := Nat.div_lt_of_lt_mul hd1
    have hx1 : x / (T + 1) < 2 ^ 30 := Nat.lt_of_le_of_lt (Nat.div_le_self _ _) hx216
    have hx0 : x / (T + 1) / (T + 1) < 2 ^ 30 := Nat.lt_of_le_of_lt (Nat.div_le_self _ _) hx1
    obtain ⟨d2, hd2⟩ : ∃ d, d = x % (T + 1) := ⟨_, rfl⟩
    obtain ⟨d1, hd1'⟩ : ∃ d, d = x / (T + 1) % (T + 1) := ⟨_, rfl⟩
    obtain ⟨d0, hd0'⟩ : ∃ d, d = x / (T + 1) / (T + 1) := ⟨_, rfl⟩
    have s2 := m_lay hR hM (n := 399) (q := x) (c := 2) (Pt := fun _ => false) (g := true) hx216 (by omega)
    rw [← hd2] at s2
    have f2 : sD D (xA M 4 (upd (M.2.2 4) 2 (dg d2))) := sD_t hM (sD_A (by omega))
    have s1 := m_lay hR f2 (n := 398) (q := x / (T + 1)) (c := 1) (Pt := fun u => false || decide (d2 = u + 1)) (g := (true && okM C T 3 2 d2 && !(decide (d2 ≠ 0) && false))) hx1 (by omega)
    rw [← hd1', ← hd0', xA_A] at s1
    have f1 : sD D (xA M 4 (upd ((xA M 4 (upd (M.2.2 4) 2 (dg d2))).2.2 4) 1 (dg d1))) := sD_t hM (sD_A (by omega))
    have s0 := m_lay hR f1 (n := 397) (q := x / (T + 1) / (T + 1)) (c := 0) (Pt := fun u => (false || decide (d2 = u + 1)) || decide (d1 = u + 1)) (g := ((true && okM C T 3 2 d2 && !(decide (d2 ≠ 0) && false)) && okM C T 3 1 d1 && !(decide (d1 ≠ 0) && (false || decide (d2 = d1 - 1 + 1))))) hx0 (by omega)
    rw [Nat.mod_eq_of_lt hd0, ← hd0', xA_A, fin] at s0
    rw [← e0, up2, s1, up, s0] at s2
    refine ⟨upd (upd (upd (M.2.2 4) 2 (dg d2)) 1 (dg d1)) 0 (dg d0), ?_, fun c hc => ?_⟩
    · show f_X6_layRow_l15 (399 + 1) (nI x) 0 (bI true) (nI 2) M = _
      rw [s2]
      have a0 : dM (T + 1) 3 x 0 = d0 := hd0'.symm
      have a1 : dM (T + 1) 3 x 1 = d1 := hd1'.symm
      have a2 : dM (T + 1) 3 x 2 = d2 := hd2.symm
      rw [a0, a1, a2, vM3, Bool.false_or, Bool.false_or, Bool.and_or_distrib_left, tw_e, tw_e, tw_e]
      refine congrArg some (Prod.ext (congrArg bI ?_) rfl)
      cases okM C T 3 2 d2 <;> cases okM C T 3 1 d1 <;> cases okM C T 3 0 d0 <;> cases twc d0 d1 <;> cases twc d0 d2 <;> cases twc d1 d2 <;> simp
    · rcases (show c = 0 ∨ c = 1 ∨ c = 2 by omega) with rfl | rfl | rfl
      · rw [upd_s]; exact congrArg dg hd0'
      · rw [upd_n (by omega), upd_s]; exact congrArg dg hd1'
      · rw [upd_n (by omega), upd_n (by omega), upd_s]; exact congrArg dg hd2
/-- sums over the claimers that are there -/
def sM (f : Nat → Int32) : Nat → Int32
  | 0 => 0
  | n + 1 => sM f n + f n
theorem sM_3 {f : Nat → Int32} (h1 : 1 ≤ K) (h3 : K ≤ 3) (hz : ∀ c, K ≤ c → f c = 0) : sM f K = (f 0 + f 1) + f 2 := by
  rcases (show K = 1 ∨ K = 2 ∨ K = 3 by omega) with rfl | rfl | rfl
  · rw [hz 1 (by omega), hz 2 (by omega), sM, sM]
    simp
  · rw [hz 2 (by omega), sM, sM, sM]
    simp
  · rw [sM, sM, sM, sM]
    simp
theorem dM_0 {B x c : Nat} (h1 : 1 ≤ K) (h3 : K ≤ 3) (hc : K ≤ c) (h2 : c < 3) : dM B K x c = 0 := by
  unfold dM
  rcases (show K = 1 ∨ K = 2 ∨ K = 3 by omega) with rfl | rfl | rfl
  · rw [if_neg (by omega), if_neg (by omega), if_neg (by omega)]
  · rw [if_neg (by omega), if_pos rfl, if_neg (by omega), if_neg (by omega)]
  · omega
/-- where the reference stands in its search -/
def mR (D : xM) (K : Nat) (s : Bst) (a : Int32 × Int32 × xM) : Prop := (sD D a.2.2 ∧ a.2.2.2.1 = D.2.1) ∧ a.1 = s.1 ∧ (s.1 = -1 ∨ (a.2.1 = s.2.1 ∧ (0 < K → a.2.2.2.2 5 0 = s.2.2.1) ∧ (1 < K → a.2.2.2.2 5 1 = s.2.2.2.1) ∧ (2 < K → a.2.2.2.2 5 2 = s.2.2.2.2)))
theorem m_l59 (hR : RD C D T K) (h1 : 1 ≤ K) {s : Bst} {x3 x4 : Int32} {M : xM} (hM : mR D K s (x3, x4, M)) {row : Nat → Int32} {x : Nat} (hrow : ∀ c, c < K → row c = dg (dM (T + 1) K x c)) (hv : vM3 C T K (dM (T + 1) K x 0) (dM (T + 1) K x 1) (dM (T + 1) K x 2) = true) (hd : ∀ c, dM (T + 1) K x c ≤ T) (k35 : Int32 → Int32 → Int32 → Int32 → Int32 → xM → Option (Int32 × xM)) (x1 x2 : Int32) :
    ∃ a, mR D K (kpM C s (dM (T + 1) K x 0) (dM (T + 1) K x 1) (dM (T + 1) K x 2)) a ∧ f_X6_matchOf_l59 k35 xN x1 x2 x3 x4 (nI x) 0 0 0 (xA M 4 row) = k35 x1 x2 a.1 a.2.1 (nI (x + 1)) a.2.2 := by
  have h5 := hR.1.2.2.1
  have h3 := hR.1.2.2.2.1
  obtain ⟨⟨m1, mL⟩, m2, m3⟩ := hM
  have m1 : sD D M := m1
  have mL : M.2.1 = D.2.1 := mL
  have m2 : x3 = s.1 := m2
  obtain ⟨d, hdd⟩ : ∃ d, d = dM (T + 1) K x := ⟨_, rfl⟩
  obtain ⟨E, hE⟩ : ∃ E, E = xA M 4 row := ⟨_, rfl⟩
  have fE : sD D E := by rw [hE]; exact sD_t m1 (sD_A (by omega))
  have eK : E.1 3 = nI K := (fE.1 3 (by omega) (by omega)).trans hR.2.2.1
  have rE : ∀ c, c < K → xld 3 (E.2.2 4) (nI c) = some (dg (d c)) := by
    intro c hc
    rw [xld_n (by omega) (by omega), hE, hdd]
    exact congrArg some (hrow c hc)
  have hRE := fr_RD fE hR
  rw [← hdd] at hv hd ⊢
  rw [← hE]
  have b165 : ∀ y3 y4 M, f_X6_matchOf_b165 k35 x1 x2 y3 y4 (nI x) M = k35 x1 x2 y3 y4 (nI (x + 1)) M := fun y3 y4 M => by rw [f_X6_matchOf_b165, nI_1]
  obtain ⟨N, hN⟩ : ∃ N, N = xA E 5 (xc 3 3 (E.2.2 4) (E.2.2 5)) := ⟨_, rfl⟩
  have b147 : ∀ y3 y4, f_X6_matchOf_b147 k35 x1 x2 (nI x) y3 y4 E = k35 x1 x2 y3 y4 (nI (x + 1)) N := fun y3 y4 => by rw [f_X6_matchOf_b147, nm_s, b165, hN]
  have fN : sD D N := by rw [hN]; exact sD_t fE (sD_A (by omega))
  have rN : ∀ c, c < K → N.2.2 5 c = dg (d c) := by
    intro c hc
    rw [hN, xA_2, if_pos rfl, xc_lt (by omega), hE, hdd]
    exact hrow c hc
  have okc : ∀ c, c < 3 → okM C T K c (d c) = true := by
    intro c hc
    rw [vM3] at hv
    simp only [Bool.and_eq_true] at hv
    rcases (show c = 0 ∨ c = 1 ∨ c = 2 by omega) with rfl | rfl | rfl
    · exact hv.1.1.1.1.1
    · exact hv.1.1.1.1.2
    · exact hv.1.1.1.2
  have pz : ∀ c, K ≤ c → c < 3 → d c = 0 := fun c hc h => by rw [hdd]; exact dM_0 h1 h3 hc h
  have sum1 : sM (fun c => if c < 3 then oneM (d c) else 0) K = (oneM (d 0) + oneM (d 1)) + oneM (d 2) := by
    refine sM_3 h1 h3 (fun c hc => ?_)
    by_cases q : c < 3
    · simp only [if_pos q, pz c hc q]; rfl
    · simp only [if_neg q]
  have sum2 : sM (fun c => if c < 3 then prM C c (d c) else 0) K = (prM C 0 (d 0) + prM C 1 (d 1)) + prM C 2 (d 2) := by
    refine sM_3 h1 h3 (fun c hc => ?_)
    by_cases q : c < 3
    · simp only [if_pos q, pz c hc q]; rfl
    · simp only [if_neg q]
  obtain ⟨p, hp⟩ : ∃ p, p = (oneM (d 0) + oneM (d 1)) + oneM (d 2) := ⟨_, rfl⟩
  obtain ⟨w, hw⟩ : ∃ w, w = (prM C 0 (d 0) + prM C 1 (d 1)) + prM C 2 (d 2) := ⟨_, rfl⟩
  have new : mR D K (p, w, dg (d 0), dg (d 1), dg (d 2)) (p, w, N) := ⟨⟨fN, by rw [hN, hE]; exact mL⟩, rfl, Or.inr ⟨rfl, fun h => rN 0 h, fun h => rN 1 h, fun h => rN 2 h⟩⟩
  have old : mR D K s (x3, x4, E) := by
    refine ⟨⟨fE, by rw [hE]; exact mL⟩, m2, m3.imp id (fun h => ?_)⟩
    rw [hE]
    exact h
  obtain ⟨a, a1, a2⟩ : ∃ a, mR D K (kpM C s (d 0) (d 1) (d 2)) a ∧ (if x3 < p then f_X6_matchOf_b147 k35 x1 x2 (nI x) p w E else if p = x3 then (if x4 ≤ w then f_X6_matchOf_b165 k35 x1 x2 x3 x4 (nI x) E else f_X6_matchOf_b147 k35 x1 x2 (nI x) p w E) else f_X6_matchOf_b165 k35 x1 x2 x3 x4 (nI x) E) = k35 x1 x2 a.1 a.2.1 (nI (x + 1)) a.2.2 := by
    rw [kpM, ← hp, ← hw, b147, b165, m2]
    by_cases q1 : p < s.1
    · rw [if_pos q1, if_neg (show ¬ s.1 < p from fun q => Int32.lt_irrefl (Int32.lt_trans q q1)), if_neg (show ¬ p = s.1 from fun q => by rw [q] at q1; exact Int32.lt_irrefl q1), ← m2]
      exact ⟨_, old, rfl⟩
    · rw [if_neg q1]
      by_cases q2 : p = s.1
      · have hs : s.1 ≠ -1 := by
          rw [← q2, hp]
          exact one3 _ _ _
        have e4 : x4 = s.2.1 := (m3.resolve_left hs).1
        rw [if_pos q2, if_neg (show ¬ s.1 < p from fun q => by rw [q2] at q; exact Int32.lt_irrefl q), if_pos q2, e4]
        by_cases q3 : w < s.2.1
        · rw [if_pos q3, if_neg (fun q => Int32.lt_irrefl (Int32.lt_of_lt_of_le q3 q))]
          exact ⟨_, new, rfl⟩
        · rw [if_neg q3, if_pos (Int32.not_lt.mp q3), ← e4, ← m2]
          exact ⟨_, old, rfl⟩
      · rw [if_neg q2, if_pos (Int32.lt_of_le_of_ne (Int32.not_lt.mp q1) (fun q => q2 q.symm))]
        exact ⟨_, new, rfl⟩
  refine ⟨a, a1, Eq.trans ?_ a2⟩
  refine for_ix (fun n (b : Int32 × Int32) c => f_X6_matchOf_l59 k35 n x1 x2 x3 x4 (nI x) b.1 b.2 c E) nI K (fun c b => b = (sM (fun c => if c < 3 then oneM (d c) else 0) c, sM (fun c => if c < 3 then prM C c (d c) else 0) c)) _ ?_ ?_ xN (0, 0) (by rw [xN_v]; omega) rfl
  · rintro n b rfl
    show f_X6_matchOf_l59 k35 (n + 1) x1 x2 x3 x4 (nI x) _ _ (nI K) E = _
    rw [f_X6_matchOf_l59, eK, ite_le (by omega) (by omega), if_pos (Nat.le_refl K), sum1, sum2, ← hp, ← hw]
  · rintro n c b hc rfl
    refine Or.inr ⟨_, rfl, ?_⟩
    show f_X6_matchOf_l59 k35 (n + 1) x1 x2 x3 x4 (nI x) (sM _ c) (sM _ c) (nI c) E = f_X6_matchOf_l59 k35 n x1 x2 x3 x4 (nI x) (sM _ (c + 1)) (sM _ (c + 1)) (nI (c + 1)) E
    have c3 : c < 3 := by omega
    rw [f_X6_matchOf_l59, eK, ite_le (by omega) (by omega), if_neg (by omega), rE c hc, ob_s, sM, sM, if_pos c3, if_pos c3]
    cases hdc : d c with
    | zero =>
      rw [if_pos (show dg 0 = -1 from rfl), f_X6_matchOf_b86, rE c hc, hdc, ob_s, if_pos (show dg 0 = -1 from rfl), f_X6_matchOf_b119, nI_1]
      rfl
    | succ t =>
      have hne : ¬ dg (t + 1) = -1 := nI_m1 (by have := hd c; omega)
      have hok := okc c c3
      rw [hdc] at hok
      obtain ⟨o1, o2⟩ := ok_in hok
      rw [if_neg hne, f_X6_matchOf_b86, rE c hc, hdc, ob_s, if_neg hne, ob_s, show dg (t + 1) = nI t from rfl, m_wO hRE o2 o1, ob_s, f_X6_matchOf_b119, nI_1]
      rfl
theorem m_dle (h1 : 1 ≤ K) (h3 : K ≤ 3) {x : Nat} (hx : x < (T + 1) ^ K) (c : Nat) : dM (T + 1) K x c ≤ T := by
  have hB : 0 < T + 1 := by omega
  have md : ∀ y, y % (T + 1) ≤ T := fun y => by have := Nat.mod_lt y hB; omega
  rcases (show K = 1 ∨ K = 2 ∨ K = 3 by omega) with rfl | rfl | rfl
  · rw [Nat.pow_one] at hx
    unfold dM
    rw [if_neg (by omega), if_neg (by omega)]
    split <;> omega
  · rw [Nat.pow_two] at hx
    have hd0 : x / (T + 1) < T + 1 := Nat.div_lt_of_lt_mul hx
    unfold dM
    rw [if_neg (by omega), if_pos rfl]
    split
    · omega
    · split
      · exact md _
      · omega
  · rw [show (T + 1) ^ 3 = (T + 1) * ((T + 1) * (T + 1)) by rw [Nat.pow_succ, Nat.pow_two, Nat.mul_comm]] at hx
    have hd1 : x / (T + 1) < (T + 1) * (T + 1) := Nat.div_lt_of_lt_mul hx
    have hd0 : x / (T + 1) / (T + 1) < T + 1 := Nat.div_lt_of_lt_mul hd1
    unfold dM
    rw [if_pos rfl]
    split
    · omega
    · split
      · exact md _
      · exact md _
/-- what the reference answers, when its search is at its end -/
def mA (x1 : Int32) (a : Int32 × Int32 × xM) : Option (Int32 × xM) :=
  if x1 = 0 then some (a.1, a.2.2) else if x1 = 1 then some (a.2.1, a.2.2) else if a.2.2.1 3 ≤ x1 - 10 then some (-1, a.2.2) else (xld 3 (a.2.2.2.2 5) (x1 - 10)).bind fun r6 => some (r6, a.2.2)
theorem m_solve (hR : RD C D T K) (h1 : 1 ≤ K) (x1 : Int32) : ∃ a, mR D K (gM C T K (-1, 0, 0, 0, 0) ((T + 1) ^ K)) a ∧ f_X6_matchOf x1 D = mA x1 a := by
  have h5 := hR.1.2.2.1
  have h3 := hR.1.2.2.2.1
  have hT := hR.2.1
  have hK := hR.2.2.1
  have h216 : (T + 1) ^ K ≤ 6 ^ 3 := Nat.le_trans (Nat.pow_le_pow_left (by omega) K) (Nat.pow_le_pow_right (by omega) h3)
  have e4 : f_X6_matchOf x1 D = f_X6_matchOf_l35 xN x1 (nI ((T + 1) ^ K)) (-1) 0 0 D := by
    refine for_ix (fun n (a : Int32) i => f_X6_matchOf_l4 n x1 a i D) nI K (fun i a => a = nI ((T + 1) ^ i)) _ ?_ ?_ xN 1 (by rw [xN_v]; omega) rfl
    · rintro n a rfl
      show f_X6_matchOf_l4 (n + 1) x1 (nI ((T + 1) ^ K)) (nI K) D = _
      rw [f_X6_matchOf_l4, hK, ite_le (by omega) (by omega), if_pos (Nat.le_refl K)]
    · rintro n i a hi rfl
      refine Or.inr ⟨_, rfl, ?_⟩
      show f_X6_matchOf_l4 (n + 1) x1 (nI ((T + 1) ^ i)) (nI i) D = f_X6_matchOf_l4 n x1 (nI ((T + 1) ^ (i + 1))) (nI (i + 1)) D
      rw [f_X6_matchOf_l4, hK, hT, ite_le (by omega) (by omega), if_neg (by omega), nI_1, nI_1, pk_mul, Nat.pow_succ]
  rw [e4]
  refine for_ex (fun n (a : Int32 × Int32 × xM) x => f_X6_matchOf_l35 n x1 (nI ((T + 1) ^ K)) a.1 a.2.1 x a.2.2) nI ((T + 1) ^ K) (fun x a => mR D K (gM C T K (-1, 0, 0, 0, 0) x) a) (mA x1) ?_ ?_ xN (-1, 0, D) (by rw [xN_v]; omega) ⟨⟨sD_r D, rfl⟩, rfl, Or.inl rfl⟩
  · rintro n ⟨x3, x4, M⟩ hM
    show f_X6_matchOf_l35 (n + 1) x1 (nI ((T + 1) ^ K)) x3 x4 (nI ((T + 1) ^ K)) M = _
    rw [f_X6_matchOf_l35, ite_le (by omega) (by omega), if_pos (Nat.le_refl _), mA]
  · rintro n x ⟨x3, x4, M⟩ hx hM
    show ∃ a', mR D K (gM C T K (-1, 0, 0, 0, 0) (x + 1)) a' ∧ f_X6_matchOf_l35 (n + 1) x1 (nI ((T + 1) ^ K)) x3 x4 (nI x) M = f_X6_matchOf_l35 n x1 (nI ((T + 1) ^ K)) a'.1 a'.2.1 (nI (x + 1)) a'.2.2
    obtain ⟨row, w1, w2⟩ := m_layRow hR h1 (M := M) hM.1.1 hx
    rw [f_X6_matchOf_l35, ite_le (by omega) (by omega), if_neg (by omega), w1, ob2_s, ite_bI]
    have eg : gM C T K (-1, 0, 0, 0, 0) (x + 1) = stM C T K (gM C T K (-1, 0, 0, 0, 0) x) (dM (T + 1) K x 0) (dM (T + 1) K x 1) (dM (T + 1) K x 2) := rfl
    rw [eg, stM]
    by_cases hv : vM3 C T K (dM (T + 1) K x 0) (dM (T + 1) K x 1) (dM (T + 1) K x 2) = true
    · rw [if_pos hv, if_pos hv]
      exact m_l59 hR h1 hM w2 hv (m_dle h1 h3 hx) _ x1 _
    · rw [if_neg hv, if_neg hv]
      refine ⟨(x3, x4, xA M 4 row), ?_, by rw [f_X6_matchOf_b165, nI_1]⟩
      obtain ⟨⟨m1, mL⟩, m2, m3⟩ := hM
      exact ⟨⟨sD_t m1 (sD_A (by omega)), mL⟩, m2, m3⟩
end MM
/-- one question of the matching, asked of both -/
theorem match_both {T K S mo : Nat} {C D : xM} (hB : IvB T K C D) (hR : IvR T K S mo C D) (h0 : 0 < T) (k : Int32) (hk : k = 0 ∨ k = 1 ∨ k = 10 ∨ k = 11 ∨ k = 12) : ∃ r C' D', f_X0_solve C = some C' ∧ f_X0_tell k C' = some r ∧ f_X6_matchOf k D = some (r, D') ∧ sC C C' ∧ sD D D' ∧ D'.2.1 = D.2.1 := by
  have hD := ivRD hB hR
  have h1 : 1 ≤ K := hB.2.2.2.2.2.2.1 h0
  have h3 := hB.2.2.2.2.2.1
  obtain ⟨C', P, c1, c2, c3, c4, c5, c6⟩ := c_solve hB hD
  obtain ⟨⟨x3, x4, D'⟩, ⟨⟨m1, mL⟩, m2, m3⟩, m4⟩ := m_solve hD h1 k
  have hN : 0 < (T + 1) ^ K := Nat.pow_pos (by omega)
  rw [← gM_f3 C (-1, 0, 0, 0, 0) h1 h3] at c5 c6
  have hne := gM_pos C (T := T) (K := K) 0 0 0 0 hN
  have hBk := gM_Bok C (T := T) (K := K) 0 0 0 0 (n := (T + 1) ^ K)
  revert hne hBk c5 c6 m2 m3
  generalize gM C T K (-1, 0, 0, 0, 0) ((T + 1) ^ K) = s
  intro c5 c6 m2 m3 hne hBk
  obtain ⟨w1, w2, w3, w4⟩ := c6.resolve_left hne
  obtain ⟨v1, v2, v3, v4⟩ := m3.resolve_left hne
  obtain ⟨b1, b2⟩ := hBk.resolve_left hne
  have m1 : sD D D' := m1
  have m2 : x3 = s.1 := m2
  have v1 : x4 = s.2.1 := v1
  have v2 : 0 < K → D'.2.2 5 0 = s.2.2.1 := v2
  have v3 : 1 < K → D'.2.2 5 1 = s.2.2.2.1 := v3
  have v4 : 2 < K → D'.2.2 5 2 = s.2.2.2.2 := v4
  have eK : D'.1 3 = nI K := (m1.1 3 (by omega) (by omega)).trans hD.2.2.1
  have mA' : ∀ c : Nat, c < 3 → mA (nI (10 + c)) (x3, x4, D') = if K ≤ c then some (-1, D') else some (D'.2.2 5 c, D') := by
    intro c hc
    rw [mA, if_neg (show ¬ nI (10 + c) = 0 from fun e => by have := nI_inj (b := 0) (by omega) (by omega) e; omega), if_neg (show ¬ nI (10 + c) = 1 from fun e => by have := nI_inj (b := 1) (by omega) (by omega) e; omega), n10, pk_sub (by omega), show 10 + c - 10 = c by omega]
    show (if D'.1 3 ≤ nI c then some (-1, D') else (xld 3 (D'.2.2 5) (nI c)).bind fun r6 => some (r6, D')) = _
    rw [eK, ite_le (by omega) (by omega), xld_n (by omega) (by omega), ob_s]
  have cA : ∀ c : Nat, c < 3 → f_X0_tell (nI (10 + c)) C' = some (C'.2.2 14 c) := by
    intro c hc
    rw [f_X0_tell, if_neg (show ¬ nI (10 + c) = 0 from fun e => by have := nI_inj (b := 0) (by omega) (by omega) e; omega), if_neg (show ¬ nI (10 + c) = 1 from fun e => by have := nI_inj (b := 1) (by omega) (by omega) e; omega), n10, pk_sub (by omega), show 10 + c - 10 = c by omega, xe_n (by omega) (by omega)]
  rcases hk with rfl | rfl | rfl | rfl | rfl
  · refine ⟨s.1, C', D', c1, ?_, ?_, c2, m1, mL⟩
    · rw [f_X0_tell, if_pos rfl, c5]
    · rw [m4, mA, if_pos rfl, m2]
  · refine ⟨s.2.1, C', D', c1, ?_, ?_, c2, m1, mL⟩
    · rw [f_X0_tell, if_neg (by decide), if_pos rfl, w1]
    · rw [m4, mA, if_neg (by decide), if_pos rfl, v1]
  · refine ⟨s.2.2.1, C', D', c1, (cA 0 (by omega)).trans (by rw [w2]), m4.trans ((mA' 0 (by omega)).trans ?_), c2, m1, mL⟩
    rw [if_neg (by omega), v2 (by omega)]
  · refine ⟨s.2.2.2.1, C', D', c1, (cA 1 (by omega)).trans (by rw [w3]), m4.trans ((mA' 1 (by omega)).trans ?_), c2, m1, mL⟩
    by_cases q : K ≤ 1
    · rw [if_pos q, b1 q]
    · rw [if_neg q, v3 (by omega)]
  · refine ⟨s.2.2.2.2, C', D', c1, (cA 2 (by omega)).trans (by rw [w4]), m4.trans ((mA' 2 (by omega)).trans ?_), c2, m1, mL⟩
    by_cases q : K ≤ 2
    · rw [if_pos q, b2 q]
    · rw [if_neg q, v4 (by omega)]
theorem in01 (x : Int32) : (0 ≤ x ∧ x ≤ 1) ↔ (x = 0 ∨ x = 1) := by
  rw [Int32.le_iff_toInt_le, Int32.le_iff_toInt_le, ← Int32.toInt_inj, ← Int32.toInt_inj, show ((0 : Int32)).toInt = 0 from rfl, show ((1 : Int32)).toInt = 1 from rfl]
  omega
theorem in1012 (x : Int32) : (10 ≤ x ∧ x ≤ 12) ↔ (x = 10 ∨ x = 11 ∨ x = 12) := by
  rw [Int32.le_iff_toInt_le, Int32.le_iff_toInt_le, ← Int32.toInt_inj, ← Int32.toInt_inj, ← Int32.toInt_inj, show ((10 : Int32)).toInt = 10 from rfl, show ((11 : Int32)).toInt = 11 from rfl, show ((12 : Int32)).toInt = 12 from rfl]
  omega
theorem o_match : op_match Inv := by
  intro C D j hj hI x
  have hI' := inv_mon C D j hI
  obtain ⟨T, K, S, mo, n, b, hb, hB, hR, hP, hN, hK⟩ := hI
  have mi1 : f_X6_in x.toInt64 (0 : Int64) (1 : Int64) = some (bI (decide (0 ≤ x ∧ x ≤ 1))) := m_in x 0 1
  have mi2 : f_X6_in x.toInt64 (10 : Int64) (12 : Int64) = some (bI (decide (10 ≤ x ∧ x ≤ 12))) := m_in x 10 12
  rw [f_X5_match, f_X6_match, mi1, ob_s, ite_bI, mi2, ob_s, ite_bI]
  have yes : (x = 0 ∨ x = 1 ∨ x = 10 ∨ x = 11 ∨ x = 12) → ∃ r C' D', ((f_X3_stands C).bind fun r3 => if r3 = 0 then some (-103, C) else (f_X0_solve C).bind fun M5 => (f_X0_tell x M5).bind fun r6 => some (r6, M5)) = some (r, C') ∧ f_X6_match_b27 x D = some (r, D') ∧ Inv C' D' (j + 1) := by
    intro hx
    rw [c_stands hB, ob_s, ite_bI, f_X6_match_b27, m_lacks hB, ob_s, ite_bI]
    by_cases h0 : 0 < T
    · obtain ⟨r, C', D', k1, k2, k3, k4, k5, k6⟩ := match_both hB hR h0 x hx
      rw [if_pos (decide_eq_true h0), if_neg (by simp; omega), k1, ob_s, k2, ob_s, k3, ob2_s]
      exact ⟨r, C', D', rfl, rfl, fr_Inv k4 k5 hI'⟩
    · rw [if_neg (by simp; omega), if_pos (by simp; omega)]
      exact ⟨-103, C, D, rfl, rfl, hI'⟩
  have no : f_X5_isMatchQuestion x = some (bI false) → ¬ (0 ≤ x ∧ x ≤ 1) → ¬ (10 ≤ x ∧ x ≤ 12) → ∃ r C' D', ((f_X5_isMatchQuestion x).bind fun r1 => if r1 = 0 then some (-102, C) else (f_X3_stands C).bind fun r3 => if r3 = 0 then some (-103, C) else (f_X0_solve C).bind fun M5 => (f_X0_tell x M5).bind fun r6 => some (r6, M5)) = some (r, C') ∧ (if decide (0 ≤ x ∧ x ≤ 1) = true then f_X6_match_b27 x D else if decide (10 ≤ x ∧ x ≤ 12) = true then f_X6_match_b27 x D else some (-102, D)) = some (r, D') ∧ Inv C' D' (j + 1) := by
    intro e h1 h2
    rw [e, ob_s, ite_bI, if_neg (show ¬ (false = true) by decide), if_neg (by simpa using h1), if_neg (by simpa using h2)]
    exact ⟨-102, C, D, rfl, rfl, hI'⟩
  have ok : f_X5_isMatchQuestion x = some (bI true) → ((0 ≤ x ∧ x ≤ 1) ∨ (10 ≤ x ∧ x ≤ 12)) → ∃ r C' D', ((f_X5_isMatchQuestion x).bind fun r1 => if r1 = 0 then some (-102, C) else (f_X3_stands C).bind fun r3 => if r3 = 0 then some (-103, C) else (f_X0_solve C).bind fun M5 => (f_X0_tell x M5).bind fun r6 => some (r6, M5)) = some (r, C') ∧ (if decide (0 ≤ x ∧ x ≤ 1) = true then f_X6_match_b27 x D else if decide (10 ≤ x ∧ x ≤ 12) = true then f_X6_match_b27 x D else some (-102, D)) = some (r, D') ∧ Inv C' D' (j + 1) := by
    intro e h
    have hx : x = 0 ∨ x = 1 ∨ x = 10 ∨ x = 11 ∨ x = 12 := by
      rcases h with h | h
      · rcases (in01 x).mp h with h | h
        · exact Or.inl h
        · exact Or.inr (Or.inl h)
      · exact Or.inr (Or.inr ((in1012 x).mp h))
    obtain ⟨r, C', D', y1, y2, y3⟩ := yes hx
    refine ⟨r, C', D', ?_, ?_, y3⟩
    · rw [e, ob_s, ite_bI, if_pos rfl]
      exact y1
    · by_cases h1 : 0 ≤ x ∧ x ≤ 1
      · rw [if_pos (decide_eq_true h1)]; exact y2
      · rw [if_neg (by simpa using h1), if_pos (decide_eq_true (h.resolve_left h1))]; exact y2
  by_cases a0 : x = 0
  · exact ok (by rw [f_X5_isMatchQuestion, if_pos a0, xbo_1]) (Or.inl ((in01 x).mpr (Or.inl a0)))
  by_cases a1 : x = 1
  · exact ok (by rw [f_X5_isMatchQuestion, if_neg a0, if_pos a1, xbo_1]) (Or.inl ((in01 x).mpr (Or.inr a1)))
  have n01 : ¬ (0 ≤ x ∧ x ≤ 1) := fun h => by
    rcases (in01 x).mp h with h | h
    · exact a0 h
    · exact a1 h
  by_cases a2 : x < 10
  · exact no (by rw [f_X5_isMatchQuestion, if_neg a0, if_neg a1, if_pos a2, xbo_0]) n01 (fun h => Int32.not_le.mpr a2 h.1)
  by_cases a3 : 12 < x
  · exact no (by rw [f_X5_isMatchQuestion, if_neg a0, if_neg a1, if_neg a2, if_pos a3, xbo_0]) n01 (fun h => Int32.not_le.mpr a3 h.2)
  exact ok (by rw [f_X5_isMatchQuestion, if_neg a0, if_neg a1, if_neg a2, if_neg a3, xbo_1]) (Or.inr ⟨Int32.not_lt.mp a2, Int32.not_lt.mp a3⟩)
