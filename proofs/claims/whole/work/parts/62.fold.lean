/-! ===== the matching: what both do, as a fold over three numbers ===== -/
def fld {σ : Type} (g : σ → Nat → σ) (s : σ) : Nat → σ
  | 0 => s
  | n + 1 => g (fld g s n) n
theorem fld_add {σ : Type} (g : σ → Nat → σ) (s : σ) (m n : Nat) : fld g s (m + n) = fld (fun s b => g s (m + b)) (fld g s m) n := by
  induction n with
  | zero => rfl
  | succ n ih => rw [← Nat.add_assoc, fld, fld, ih]
theorem fld_mul {σ : Type} (g : σ → Nat → σ) (s : σ) (n B : Nat) : fld g s (n * B) = fld (fun s a => fld (fun s b => g s (a * B + b)) s B) s n := by
  induction n with
  | zero => rw [Nat.zero_mul, fld, fld]
  | succ n ih => rw [Nat.succ_mul, fld_add, ih, fld]
theorem fld_congr {σ : Type} {g h : σ → Nat → σ} {s : σ} {n : Nat} (e : ∀ s i, i < n → g s i = h s i) : fld g s n = fld h s n := by
  induction n with
  | zero => rfl
  | succ n ih => rw [fld, fld, ih (fun s i hi => e s i (by omega)), e _ _ (by omega)]
theorem fld_none {σ : Type} {g : σ → Nat → σ} {s : σ} {n : Nat} (e : ∀ s i, i < n → g s i = s) : fld g s n = s := by
  induction n with
  | zero => rfl
  | succ n ih => rw [fld, ih (fun s i hi => e s i (by omega)), e _ _ (by omega)]
theorem fld_one {σ : Type} {g : σ → Nat → σ} {s : σ} {n : Nat} (hn : 0 < n) (e : ∀ s i, 0 < i → i < n → g s i = s) : fld g s n = g s 0 := by
  obtain ⟨m, rfl⟩ : ∃ m, n = 1 + m := ⟨n - 1, by omega⟩
  rw [fld_add, fld_none (fun s i hi => e s (1 + i) (by omega) (by omega))]
  rfl
theorem fld_inv {σ : Type} {g : σ → Nat → σ} {s : σ} {n : Nat} (Q : σ → Prop) (h : Q s) (e : ∀ s i, i < n → Q s → Q (g s i)) : Q (fld g s n) := by
  induction n with
  | zero => exact h
  | succ n ih => exact e _ _ (by omega) (ih (fun s i hi => e s i (by omega)))
/-- the best row: pairs, wrongness, and what each of the three has -/
abbrev Bst := Int32 × Int32 × Int32 × Int32 × Int32
def dg : Nat → Int32
  | 0 => -1
  | d + 1 => nI d
theorem dg_pred (d : Nat) : nI d - 1 = dg d := by
  cases d with
  | zero => rfl
  | succ d => rw [dg, ← nI_1]; exact Int32.add_sub_cancel _ _
theorem dg_succ (d : Nat) : dg d + 1 = dg (d + 1) := by
  cases d with
  | zero => rfl
  | succ d => rw [dg, dg, nI_1]
theorem dg_m1 {d : Nat} (h : d < 2 ^ 31) : dg d = -1 ↔ d = 0 := by
  cases d with
  | zero => exact ⟨fun _ => rfl, fun _ => rfl⟩
  | succ d => exact ⟨fun e => absurd e (nI_m1 (by omega)), fun e => by omega⟩
theorem dg_inj {a b : Nat} (ha : a < 2 ^ 31) (hb : b < 2 ^ 31) : dg a = dg b ↔ a = b := by
  cases a with
  | zero =>
    cases b with
    | zero => exact ⟨fun _ => rfl, fun _ => rfl⟩
    | succ b => exact ⟨fun e => absurd e.symm (nI_m1 (by omega)), fun e => by omega⟩
  | succ a =>
    cases b with
    | zero => exact ⟨fun e => absurd e (nI_m1 (by omega)), fun e => by omega⟩
    | succ b =>
      constructor
      · intro e
        have := nI_inj (by omega) (by omega) e
        omega
      · intro e
        rw [e]
def okM (C : xM) (T K c d : Nat) : Bool := decide (d = 0) || (decide (c < K) && decide (xOf (C.2.2 3) (nI c) = -1) && decide (d ≤ T) && decide (C.2.2 3 (d - 1) = -1) && fO C (d - 1) c)
def twc (a b : Nat) : Bool := decide (a = b) && decide (a ≠ 0)
def oneM (d : Nat) : Int32 := if d = 0 then 0 else 1
def prM (C : xM) (c d : Nat) : Int32 := if d = 0 then 0 else wO C (d - 1) c
def vM3 (C : xM) (T K a b c : Nat) : Bool := okM C T K 0 a && okM C T K 1 b && okM C T K 2 c && !twc a b && !twc a c && !twc b c
def kpM (C : xM) (s : Bst) (a b c : Nat) : Bst :=
  if (oneM a + oneM b) + oneM c < s.1 then s
  else if (oneM a + oneM b) + oneM c = s.1 then
    (if (prM C 0 a + prM C 1 b) + prM C 2 c < s.2.1 then ((oneM a + oneM b) + oneM c, (prM C 0 a + prM C 1 b) + prM C 2 c, dg a, dg b, dg c) else s)
  else ((oneM a + oneM b) + oneM c, (prM C 0 a + prM C 1 b) + prM C 2 c, dg a, dg b, dg c)
def stM (C : xM) (T K : Nat) (s : Bst) (a b c : Nat) : Bst := if vM3 C T K a b c then kpM C s a b c else s
def f3M (C : xM) (T K : Nat) (s : Bst) (B : Nat) : Bst := fld (fun s a => fld (fun s b => fld (fun s c => stM C T K s a b c) s B) s B) s B
/-- the digits of a code, for K claimers -/
def dM (B K x c : Nat) : Nat :=
  if K = 3 then (if c = 0 then x / B / B else if c = 1 then x / B % B else x % B)
  else if K = 2 then (if c = 0 then x / B else if c = 1 then x % B else 0)
  else (if c = 0 then x else 0)
def gM (C : xM) (T K : Nat) (s : Bst) (n : Nat) : Bst := fld (fun s x => stM C T K s (dM (T + 1) K x 0) (dM (T + 1) K x 1) (dM (T + 1) K x 2)) s n
theorem ok_no {C : xM} {T K c d : Nat} (hc : K ≤ c) (hd : 0 < d) : okM C T K c d = false := by
  rw [okM, decide_eq_false (show ¬ d = 0 by omega), decide_eq_false (show ¬ c < K by omega)]
  rfl
theorem st_no2 {C : xM} {T K a b c : Nat} {s : Bst} (hK : K ≤ 2) (hc : 0 < c) : stM C T K s a b c = s := by
  rw [stM, vM3, ok_no hK hc, if_neg (by simp)]
theorem st_no1 {C : xM} {T K a b c : Nat} {s : Bst} (hK : K ≤ 1) (hb : 0 < b) : stM C T K s a b c = s := by
  rw [stM, vM3, ok_no hK hb, if_neg (by simp)]
theorem gM_f3 (C : xM) {T K : Nat} (s : Bst) (h1 : 1 ≤ K) (h3 : K ≤ 3) : gM C T K s ((T + 1) ^ K) = f3M C T K s (T + 1) := by
  obtain ⟨B, hB⟩ : ∃ B, B = T + 1 := ⟨_, rfl⟩
  rw [gM, f3M, ← hB]
  have hB0 : 0 < B := by omega
  have dv : ∀ y c, c < B → (y * B + c) / B = y := fun y c hc => by
    rw [Nat.mul_comm, Nat.mul_add_div hB0, Nat.div_eq_of_lt hc, Nat.add_zero]
  have md : ∀ y c, c < B → (y * B + c) % B = c := fun y c hc => by
    rw [Nat.mul_comm, Nat.mul_add_mod, Nat.mod_eq_of_lt hc]
  rcases (show K = 1 ∨ K = 2 ∨ K = 3 by omega) with rfl | rfl | rfl
  · rw [Nat.pow_one]
    refine fld_congr (fun s a ha => ?_)
    rw [fld_one hB0 (fun s b hb hb2 => fld_none (fun s c hc => st_no1 (by omega) hb)), fld_one hB0 (fun s c hc hc2 => st_no2 (by omega) hc)]
    rfl
  · rw [Nat.pow_two, fld_mul]
    refine fld_congr (fun s a ha => fld_congr (fun s b hb => ?_))
    rw [fld_one hB0 (fun s c hc hc2 => st_no2 (by omega) hc)]
    have e0 : dM B 2 (a * B + b) 0 = a := dv a b hb
    have e1 : dM B 2 (a * B + b) 1 = b := md a b hb
    rw [e0, e1]
    rfl
  · rw [show B ^ 3 = B * B * B by rw [Nat.pow_succ, Nat.pow_two], fld_mul, fld_mul]
    refine fld_congr (fun s a ha => fld_congr (fun s b hb => fld_congr (fun s c hc => ?_)))
    have e0 : dM B 3 ((a * B + b) * B + c) 0 = a := by
      show ((a * B + b) * B + c) / B / B = a
      rw [dv _ c hc, dv a b hb]
    have e1 : dM B 3 ((a * B + b) * B + c) 1 = b := by
      show ((a * B + b) * B + c) / B % B = b
      rw [dv _ c hc, md a b hb]
    have e2 : dM B 3 ((a * B + b) * B + c) 2 = c := md _ c hc
    rw [e0, e1, e2]
theorem one_v (d : Nat) : oneM d = 0 ∨ oneM d = 1 := by
  unfold oneM
  split
  · exact Or.inl rfl
  · exact Or.inr rfl
theorem one3 (a b c : Nat) : (oneM a + oneM b) + oneM c ≠ -1 := by
  rcases one_v a with h | h <;> rcases one_v b with g | g <;> rcases one_v c with f | f <;> rw [h, g, f] <;> decide
theorem st_pos {C : xM} {T K a b c : Nat} {s : Bst} (h : s.1 ≠ -1) : (stM C T K s a b c).1 ≠ -1 := by
  unfold stM kpM
  split
  · split
    · exact h
    · split
      · split
        · exact one3 a b c
        · exact h
      · exact one3 a b c
  · exact h
theorem gM_pos (C : xM) {T K : Nat} (w r0 r1 r2 : Int32) {n : Nat} (hn : 0 < n) : (gM C T K (-1, w, r0, r1, r2) n).1 ≠ -1 := by
  obtain ⟨m, rfl⟩ : ∃ m, n = 1 + m := ⟨n - 1, by omega⟩
  rw [gM, fld_add]
  refine fld_inv (fun s : Bst => s.1 ≠ -1) ?_ (fun s i hi h => st_pos h)
  show (stM C T K (-1, w, r0, r1, r2) (dM (T + 1) K 0 0) (dM (T + 1) K 0 1) (dM (T + 1) K 0 2)).1 ≠ -1
  have e : ∀ c, dM (T + 1) K 0 c = 0 := by
    intro c
    unfold dM
    simp
  rw [e, e, e]
  have hv : vM3 C T K 0 0 0 = true := by simp [vM3, okM, twc]
  rw [stM, if_pos hv, kpM, if_neg (show ¬ (oneM 0 + oneM 0) + oneM 0 < (-1 : Int32) by decide), if_neg (show ¬ (oneM 0 + oneM 0) + oneM 0 = (-1 : Int32) by decide)]
  exact one3 0 0 0
/-- who is not there has nothing -/
def Bok (K : Nat) (s : Bst) : Prop := s.1 = -1 ∨ ((K ≤ 1 → s.2.2.2.1 = -1) ∧ (K ≤ 2 → s.2.2.2.2 = -1))
theorem st_Bok {C : xM} {T K a b c : Nat} {s : Bst} (h : Bok K s) : Bok K (stM C T K s a b c) := by
  have key : vM3 C T K a b c = true → Bok K ((oneM a + oneM b) + oneM c, (prM C 0 a + prM C 1 b) + prM C 2 c, dg a, dg b, dg c) := by
    intro hv
    refine Or.inr ⟨fun hK => ?_, fun hK => ?_⟩
    · by_cases hb : b = 0
      · subst hb; rfl
      · rw [vM3, ok_no hK (show 0 < b by omega)] at hv
        simp at hv
    · by_cases hb : c = 0
      · subst hb; rfl
      · rw [vM3, ok_no hK (show 0 < c by omega)] at hv
        simp at hv
  unfold stM kpM
  split
  case isTrue hv =>
    split
    · exact h
    · split
      · split
        · exact key hv
        · exact h
      · exact key hv
  case isFalse => exact h
theorem gM_Bok (C : xM) {T K : Nat} (w r0 r1 r2 : Int32) {n : Nat} : Bok K (gM C T K (-1, w, r0, r1, r2) n) := fld_inv (fun s : Bst => Bok K s) (Or.inl rfl) (fun s i hi h => st_Bok h)
/-! the wrongness is never minus one -/
theorem far_v : ∀ v, v < 10 → ∀ u, u < 10 → far (nI v) (nI u) = nI (if u ≤ v then v - u else u - v) := by decide +kernel
theorem Wr_v : ∀ f, f < 10 → ∀ k, k < 5 → ∀ b1 b2 : Bool, (if nI k = 3 then (if b2 then (0 : Int32) else 3) else ((if nI k = 2 then 3 * nI f else nI f) + (if b1 then 0 else if nI k = 1 then 0 else if nI k = 4 then 0 else 2)) + (if b2 then 0 else 2)) ≠ -1 := by decide +kernel
theorem wO_m1 {C D : xM} {T K t c : Nat} (h : RD C D T K) (ht : t < T) (hc : c < K) : wO C t c ≠ -1 := by
  have h3 := h.1.2.2.2.1
  obtain ⟨k, hk, ek⟩ := h.1.2.2.2.2 c (by omega)
  obtain ⟨-, v, hv, ev⟩ := h.2.2.2.1 t 0 ht (by omega)
  obtain ⟨-, u, hu, eu⟩ := h.2.2.2.2.2.1 c 0 hc (by omega)
  have ev : C.2.2 1 (t * 3) = nI v := ev
  have eu : C.2.2 4 (c * 3) = nI u := eu
  rw [wO, wI, ek, ev, eu, Wr, far_v v (by omega) u (by omega)]
  have key := Wr_v (if u ≤ v then v - u else u - v) (by split <;> omega) k (by omega) (decide (C.2.2 1 (t * 3 + 1) = C.2.2 4 (c * 3 + 1))) (decide (C.2.2 1 (t * 3 + 2) = C.2.2 4 (c * 3 + 2)))
  simp only [decide_eq_true_eq] at key
  exact key
/-! what the scratch places hold does not matter -/
def sC (C C' : xM) : Prop := (∀ k, k < 13 → C'.1 k = C.1 k) ∧ (∀ k, k < 13 → C'.2.2 k = C.2.2 k)
def sD (D D' : xM) : Prop := (∀ k, k ≠ 1 → k ≠ 9 → D'.1 k = D.1 k) ∧ (∀ k, k ≠ 3 → k ≠ 4 → k ≠ 5 → k ≠ 7 → D'.2.2 k = D.2.2 k)
theorem sC_r (C : xM) : sC C C := ⟨fun _ _ => rfl, fun _ _ => rfl⟩
theorem sD_r (C : xM) : sD C C := ⟨fun _ _ _ => rfl, fun _ _ _ _ _ => rfl⟩
theorem sC_t {A B C : xM} (h : sC A B) (g : sC B C) : sC A C := ⟨fun k hk => (g.1 k hk).trans (h.1 k hk), fun k hk => (g.2 k hk).trans (h.2 k hk)⟩
theorem sD_t {A B C : xM} (h : sD A B) (g : sD B C) : sD A C := ⟨fun k h1 h2 => (g.1 k h1 h2).trans (h.1 k h1 h2), fun k h1 h2 h3 h4 => (g.2 k h1 h2 h3 h4).trans (h.2 k h1 h2 h3 h4)⟩
theorem sC_I {C : xM} {k : Nat} {v : Int32} (hk : 13 ≤ k) : sC C (xI C k v) := ⟨fun j hj => by rw [xI_1, if_neg (by omega)], fun _ _ => rfl⟩
theorem sC_A {C : xM} {k : Nat} {f : Nat → Int32} (hk : 13 ≤ k) : sC C (xA C k f) := ⟨fun _ _ => rfl, fun j hj => by rw [xA_2, if_neg (by omega)]⟩
theorem sC_L {C : xM} {v : Int64} : sC C (xL C v) := ⟨fun _ _ => rfl, fun _ _ => rfl⟩
theorem sD_L {C : xM} {v : Int64} : sD C (xL C v) := ⟨fun _ _ _ => rfl, fun _ _ _ _ _ => rfl⟩
theorem sD_I {C : xM} {k : Nat} {v : Int32} (hk : k = 1 ∨ k = 9) : sD C (xI C k v) := ⟨fun j h1 h2 => by rw [xI_1, if_neg (by omega)], fun _ _ _ _ _ => rfl⟩
theorem sD_A {C : xM} {k : Nat} {f : Nat → Int32} (hk : k = 3 ∨ k = 4 ∨ k = 5 ∨ k = 7) : sD C (xA C k f) := ⟨fun _ _ _ => rfl, fun j h1 h2 h3 h4 => by rw [xA_2, if_neg (by omega)]⟩
section FR
variable {C C' D D' : xM} {T K S mo n b j : Nat}
theorem fr_B (hC : sC C C') (hD : sD D D') (h : IvB T K C D) : IvB T K C' D' := by
  unfold IvB
  rw [hC.1 2 (by omega), hC.1 3 (by omega), hD.1 2 (by omega) (by omega), hD.1 3 (by omega) (by omega), hC.2 2 (by omega)]
  exact h
theorem fr_R (hC : sC C C') (hD : sD D D') (h : IvR T K S mo C D) : IvR T K S mo C' D' := by
  unfold IvR
  rw [hC.1 5 (by omega), hC.1 6 (by omega), hC.1 7 (by omega), hC.1 8 (by omega), hD.1 8 (by omega) (by omega), hD.1 4 (by omega) (by omega), hD.1 5 (by omega) (by omega), hD.1 6 (by omega) (by omega), hC.2 1 (by omega), hC.2 2 (by omega), hC.2 3 (by omega), hC.2 4 (by omega), hC.2 5 (by omega), hC.2 6 (by omega), hC.2 7 (by omega), hD.2 1 (by omega) (by omega) (by omega) (by omega), hD.2 2 (by omega) (by omega) (by omega) (by omega), hD.2 6 (by omega) (by omega) (by omega) (by omega)]
  exact h
theorem fr_P (hC : sC C C') (hD : sD D D') (h : IvP n C D) : IvP n C' D' := by
  unfold IvP
  rw [hC.1 1 (by omega), hD.1 0 (by omega) (by omega), hC.2 0 (by omega), hD.2 0 (by omega) (by omega) (by omega) (by omega)]
  exact h
theorem fr_N (hC : sC C C') (hD : sD D D') (h : IvN b C D) : IvN b C' D' := by
  unfold IvN
  rw [hC.1 0 (by omega), hD.1 7 (by omega) (by omega)]
  exact h
theorem fr_K (hC : sC C C') (hD : sD D D') (h : IvK T K b C D) : IvK T K b C' D' := by
  unfold IvK IvI
  rw [hC.1 4 (by omega), hD.1 10 (by omega) (by omega), hC.1 9 (by omega), hC.1 10 (by omega), hC.1 11 (by omega), hC.1 12 (by omega), hD.1 14 (by omega) (by omega), hD.1 11 (by omega) (by omega), hD.1 12 (by omega) (by omega), hD.1 13 (by omega) (by omega), hC.2 1 (by omega), hC.2 2 (by omega), hC.2 8 (by omega), hC.2 9 (by omega), hC.2 10 (by omega), hC.2 11 (by omega), hC.2 12 (by omega), hD.2 8 (by omega) (by omega) (by omega) (by omega), hD.2 9 (by omega) (by omega) (by omega) (by omega), hD.2 10 (by omega) (by omega) (by omega) (by omega)]
  exact h
theorem fr_Inv (hC : sC C C') (hD : sD D D') (h : Inv C D j) : Inv C' D' j := by
  obtain ⟨T, K, S, mo, n, b, hb, hB, hR, hP, hN, hK⟩ := h
  exact ⟨T, K, S, mo, n, b, hb, fr_B hC hD hB, fr_R hC hD hR, fr_P hC hD hP, fr_N hC hD hN, fr_K hC hD hK⟩
theorem fr_wO (hC : sC C C') (t c : Nat) : wO C' t c = wO C t c := by
  unfold wO wI
  rw [hC.2 1 (by omega), hC.2 2 (by omega), hC.2 4 (by omega)]
theorem fr_fO (hC : sC C C') (t c : Nat) : fO C' t c = fO C t c := by
  unfold fO
  rw [fr_wO hC, hC.2 2 (by omega)]
end FR
