/-! ===== BASE of the plain side ===== -/
theorem ob_s {α β : Type} {a : α} {f : α → Option β} : (some a).bind f = f a := rfl
theorem ob2_s {α β γ : Type} {a : α} {b : β} {f : α → β → Option γ} : ob2 (some (a, b)) f = f a b := rfl
theorem nm_s {β : Type} {a : xM} {f : xM → Option β} : nmM a f = f a := rfl
def bI (b : Bool) : Int32 := if b then 1 else 0
theorem ite_bI {α : Type} (b : Bool) (x y : α) : (if bI b = 0 then x else y) = if b = true then y else x := by cases b <;> rfl
theorem xbo_bI (b : Bool) : xbo (bI b) = some (bI b) := by cases b <;> rfl
theorem xbo_0 : xbo 0 = some (bI false) := rfl
theorem xbo_1 : xbo 1 = some (bI true) := rfl
theorem bI_t : bI true = 1 := rfl
theorem bI_f : bI false = 0 := rfl
theorem n0 : (0 : Int32) = nI 0 := rfl
theorem n1 : (1 : Int32) = nI 1 := rfl
theorem n2 : (2 : Int32) = nI 2 := rfl
theorem n3 : (3 : Int32) = nI 3 := rfl
theorem n4 : (4 : Int32) = nI 4 := rfl
theorem n5 : (5 : Int32) = nI 5 := rfl
theorem n10 : (10 : Int32) = nI 10 := rfl
theorem xe_n {n k : Nat} {f : Nat → Int32} (h : k < n) (hn : n < 2 ^ 31) : xe n f (nI k) = f k := by
  rw [xe, if_neg (nI_pos (by omega)), if_neg (nI_ge h hn), nI_clamp (by omega)]
theorem xp_n {n k : Nat} {f : Nat → Int32} {x : Int32} (h : k < n) (hn : n < 2 ^ 31) : xp n f (nI k) x = upd f k x := by
  rw [xp, if_neg (nI_pos (by omega)), if_neg (nI_ge h hn), nI_clamp (by omega)]
theorem xld_n {n k : Nat} {f : Nat → Int32} (h : k < n) (hn : n < 2 ^ 31) : xld n f (nI k) = some (f k) := by
  have := vp_in_nI h hn
  unfold vp_in at this
  rw [xld, if_neg this, nI_clamp (by omega)]
theorem xst_n {n k : Nat} {f : Nat → Int32} {x : Int32} (h : k < n) (hn : n < 2 ^ 31) : xst n f (nI k) x = some (upd f k x) := by
  have := vp_in_nI h hn
  unfold vp_in at this
  rw [xst, if_neg this, nI_clamp (by omega)]
theorem upd_s {f : Nat → Int32} {k : Nat} {x : Int32} : upd f k x k = x := if_pos rfl
theorem upd_n {f : Nat → Int32} {k j : Nat} {x : Int32} (h : j ≠ k) : upd f k x j = f j := if_neg h
theorem xI_1 {M : xM} {k : Nat} {v : Int32} {j : Nat} : (xI M k v).1 j = if j = k then v else M.1 j := rfl
theorem xI_2 {M : xM} {k : Nat} {v : Int32} : (xI M k v).2 = M.2 := rfl
theorem xA_1 {M : xM} {k : Nat} {f : Nat → Int32} : (xA M k f).1 = M.1 := rfl
theorem xA_2 {M : xM} {k : Nat} {f : Nat → Int32} {j : Nat} : (xA M k f).2.2 j = if j = k then f else M.2.2 j := rfl
theorem xA_L {M : xM} {k : Nat} {f : Nat → Int32} : (xA M k f).2.1 = M.2.1 := rfl
theorem xL_1 {M : xM} {v : Int64} : (xL M v).1 = M.1 := rfl
theorem xL_2 {M : xM} {v : Int64} : (xL M v).2.2 = M.2.2 := rfl
theorem xL_L {M : xM} {v : Int64} : (xL M v).2.1 = v := rfl
theorem nI_inj {a b : Nat} (ha : a < 2 ^ 31) (hb : b < 2 ^ 31) (h : nI a = nI b) : a = b := (nI_eq ha hb).mp h
theorem nI_m1 {a : Nat} (ha : a < 2 ^ 31) : ¬ nI a = -1 := by
  intro h
  have h1 := nI_toInt ha
  rw [h] at h1
  have h2 : ((-1 : Int32)).toInt = -1 := by decide
  rw [h2] at h1
  omega
theorem ite_le {α : Type} {a b : Nat} (ha : a < 2 ^ 31) (hb : b < 2 ^ 31) (x y : α) : (if nI a ≤ nI b then x else y) = if a ≤ b then x else y := by
  by_cases h : a ≤ b
  · rw [if_pos h, if_pos ((nI_leI ha hb).mpr h)]
  · rw [if_neg h, if_neg (fun g => h ((nI_leI ha hb).mp g))]
theorem ite_lt {α : Type} {a b : Nat} (ha : a < 2 ^ 31) (hb : b < 2 ^ 31) (x y : α) : (if nI a < nI b then x else y) = if a < b then x else y := by
  by_cases h : a < b
  · rw [if_pos h, if_pos ((nI_ltI ha hb).mpr h)]
  · rw [if_neg h, if_neg (fun g => h ((nI_ltI ha hb).mp g))]
theorem ite_eq {α : Type} {a b : Nat} (ha : a < 2 ^ 31) (hb : b < 2 ^ 31) (x y : α) : (if nI a = nI b then x else y) = if a = b then x else y := by
  by_cases h : a = b
  · rw [if_pos h, if_pos ((nI_eq ha hb).mpr h)]
  · rw [if_neg h, if_neg (fun g => h ((nI_eq ha hb).mp g))]
/-- a loop that counts up by one -/
theorem for_ix {α β : Type} (l : Nat → α → Int32 → β) (ix : Nat → Int32) (B : Nat) (inv : Nat → α → Prop) (tgt : β)
    (hx : ∀ n a, inv B a → l (n + 1) a (ix B) = tgt)
    (hs : ∀ n i a, i < B → inv i a → l (n + 1) a (ix i) = tgt ∨ ∃ a', inv (i + 1) a' ∧ l (n + 1) a (ix i) = l n a' (ix (i + 1))) :
    ∀ n a, B < n → inv 0 a → l n a (ix 0) = tgt := by
  have key : ∀ (d i n : Nat) (a : α), i + d = B → d < n → inv i a → l n a (ix i) = tgt := by
    intro d
    induction d with
    | zero =>
      intro i n a hi hn h
      obtain ⟨n, rfl⟩ : ∃ k, n = k + 1 := ⟨n - 1, by omega⟩
      have hiB : i = B := by omega
      subst hiB
      exact hx n a h
    | succ d ih =>
      intro i n a hi hn h
      obtain ⟨n, rfl⟩ : ∃ k, n = k + 1 := ⟨n - 1, by omega⟩
      rcases hs n i a (by omega) h with h1 | ⟨a', h1, h2⟩
      · exact h1
      · rw [h2]
        exact ih (i + 1) n a' (by omega) (by omega) h1
  exact fun n a hn h => key B 0 n a (by omega) hn h
theorem xN_v : xN = 400 := rfl
/-- bits of a row of truths -/
def bS (P : Nat → Bool) : Nat → Int32
  | 0 => 0
  | n + 1 => if P n then bS P n ||| ((1 : Int32) <<< (nI n &&& 31)) else bS P n
def cS (P : Nat → Bool) : Nat → Nat
  | 0 => 0
  | n + 1 => if P n then cS P n + 1 else cS P n
theorem cS_le (P : Nat → Bool) (n : Nat) : cS P n ≤ n := by
  induction n with
  | zero => exact Nat.le_refl 0
  | succ n ih => unfold cS; split <;> omega
/-! the wrongness -/
def far (y my : Int32) : Int32 := if 0 ≤ y - my then y - my else 0 - (y - my)
def Wr (k y my p mp l ml : Int32) : Int32 :=
  if k = 3 then (if l = ml then 0 else 3) else ((if k = 2 then 3 * far y my else far y my) + (if p = mp then 0 else if k = 1 then 0 else if k = 4 then 0 else 2)) + (if l = ml then 0 else 2)
def Ft (k w : Int32) : Bool := decide (w ≤ (if k = 4 then 4 else 2))
def WC (C : xM) (T K : Nat) : Prop := C.1 2 = nI T ∧ C.1 3 = nI K ∧ T ≤ 5 ∧ K ≤ 3 ∧ ∀ c, c < 3 → ∃ k, k ≤ 4 ∧ C.2.2 2 c = nI k
def wI (C : xM) (t c : Nat) (y : Int32) : Int32 := Wr (C.2.2 2 c) y (C.2.2 4 (c * 3)) (C.2.2 1 (t * 3 + 1)) (C.2.2 4 (c * 3 + 1)) (C.2.2 1 (t * 3 + 2)) (C.2.2 4 (c * 3 + 2))
def wO (C : xM) (t c : Nat) : Int32 := wI C t c (C.2.2 1 (t * 3))
def fO (C : xM) (t c : Nat) : Bool := Ft (C.2.2 2 c) (wO C t c)
def fY (C : xM) (t c y : Nat) : Bool := Ft (C.2.2 2 c) (wI C t c (nI y))
theorem g_signOf {C : xM} {t s : Nat} (ht : t < 5) (hs : s < 3) : f_X3_signOf (nI t) (nI s) C = some (C.2.2 1 (t * 3 + s)) := by
  rw [f_X3_signOf, n3, pk_mul, nI_add, xe_n (by omega) (by omega)]
theorem g_sign0 {C : xM} {t : Nat} (ht : t < 5) : f_X3_signOf (nI t) 0 C = some (C.2.2 1 (t * 3)) := g_signOf (s := 0) ht (by decide)
theorem g_sign1 {C : xM} {t : Nat} (ht : t < 5) : f_X3_signOf (nI t) 1 C = some (C.2.2 1 (t * 3 + 1)) := g_signOf (s := 1) ht (by decide)
theorem g_sign2 {C : xM} {t : Nat} (ht : t < 5) : f_X3_signOf (nI t) 2 C = some (C.2.2 1 (t * 3 + 2)) := g_signOf (s := 2) ht (by decide)
theorem g_mem {C : xM} {c s : Nat} (ht : c < 3) (hs : s < 3) : f_X2_memoryOf (nI c) (nI s) C = some (C.2.2 4 (c * 3 + s)) := by
  rw [f_X2_memoryOf, n3, pk_mul, nI_add, xe_n (by omega) (by omega)]
theorem g_mem0 {C : xM} {c : Nat} (hc : c < 3) : f_X2_memoryOf (nI c) 0 C = some (C.2.2 4 (c * 3)) := g_mem (s := 0) hc (by decide)
theorem g_mem1 {C : xM} {c : Nat} (hc : c < 3) : f_X2_memoryOf (nI c) 1 C = some (C.2.2 4 (c * 3 + 1)) := g_mem (s := 1) hc (by decide)
theorem g_mem2 {C : xM} {c : Nat} (hc : c < 3) : f_X2_memoryOf (nI c) 2 C = some (C.2.2 4 (c * 3 + 2)) := g_mem (s := 2) hc (by decide)
theorem g_kind {C : xM} {c : Nat} (hc : c < 3) : f_X3_kindOf (nI c) C = some (C.2.2 2 c) := by
  rw [f_X3_kindOf, xe_n hc (by omega)]
theorem g_holder {C : xM} {t : Nat} (ht : t < 5) : f_X2_holderOf (nI t) C = some (C.2.2 3 t) := by
  rw [f_X2_holderOf, xe_n ht (by omega)]
theorem g_isFit {k : Nat} (hk : k ≤ 4) (w : Int32) : f_X5_isFit (nI k) w = some (bI (Ft (nI k) w)) := by
  have key : ∀ z : Int32, xe 5 (xT [2, 2, 2, 2, 4]) (nI k) = z → (if (nI k : Int32) = 4 then (4 : Int32) else 2) = z → f_X5_isFit (nI k) w = some (bI (Ft (nI k) w)) := by
    intro z h1 h2
    rw [f_X5_isFit, h1, Ft, h2]
    by_cases h : z < w
    · rw [if_pos h, xbo_0, decide_eq_false (Int32.not_le.mpr h)]
    · rw [if_neg h, xbo_1, decide_eq_true (Int32.not_lt.mp h)]
  rcases (show k = 0 ∨ k = 1 ∨ k = 2 ∨ k = 3 ∨ k = 4 by omega) with rfl | rfl | rfl | rfl | rfl
  · exact key 2 rfl rfl
  · exact key 2 rfl rfl
  · exact key 2 rfl rfl
  · exact key 2 rfl rfl
  · exact key 4 rfl rfl
theorem g_wrongBy {k : Nat} (hk : k ≤ 4) (y my p mp l ml : Int32) : f_X5_wrongBy (nI k) (far y my) (bI (decide (¬ p = mp))) (bI (decide (¬ l = ml))) = some (Wr (nI k) y my p mp l ml) := by
  have key : ∀ a b d : Int32, xe 5 (xT [1, 1, 3, 0, 1]) (nI k) = a → xe 5 (xT [2, 0, 2, 0, 0]) (nI k) = b → xe 5 (xT [2, 2, 2, 3, 2]) (nI k) = d →
      Wr (nI k) y my p mp l ml = ((a * far y my) + (if p = mp then 0 else b)) + (if l = ml then 0 else d) →
      f_X5_wrongBy (nI k) (far y my) (bI (decide (¬ p = mp))) (bI (decide (¬ l = ml))) = some (Wr (nI k) y my p mp l ml) := by
    intro a b d h1 h2 h3 h4
    rw [h4, f_X5_wrongBy, h1, h2]
    by_cases hp : p = mp
    · by_cases hl : l = ml
      · simp [hp, hl, bI, f_X5_wrongBy_b27]
      · simp [hp, hl, bI, f_X5_wrongBy_b27, h3]
    · by_cases hl : l = ml
      · simp [hp, hl, bI, f_X5_wrongBy_b27]
      · simp [hp, hl, bI, f_X5_wrongBy_b27, h3]
  rcases (show k = 0 ∨ k = 1 ∨ k = 2 ∨ k = 3 ∨ k = 4 by omega) with rfl | rfl | rfl | rfl | rfl
  · exact key 1 2 2 rfl rfl rfl (by simp [Wr, nI])
  · exact key 1 0 2 rfl rfl rfl (by simp [Wr, nI])
  · exact key 3 2 2 rfl rfl rfl (by simp [Wr, nI])
  · exact key 0 0 3 rfl rfl rfl (by simp [Wr, nI])
  · exact key 1 0 2 rfl rfl rfl (by simp [Wr, nI])
