/-! ===== Int32 by its bits: bt x i ===== -/
def bt (x : Int32) (i : Nat) : Bool := x.toBitVec.getLsbD i
theorem b_ext {x y : Int32} (h : ∀ i, i < 32 → bt x i = bt y i) : x = y := Int32.toBitVec_inj.mp (BitVec.eq_of_getLsbD_eq (fun i hi => h i hi))
theorem b_or (x y : Int32) (i : Nat) : bt (x ||| y) i = (bt x i || bt y i) := by unfold bt; rw [Int32.toBitVec_or, BitVec.getLsbD_or]
theorem b_and (x y : Int32) (i : Nat) : bt (x &&& y) i = (bt x i && bt y i) := by unfold bt; rw [Int32.toBitVec_and, BitVec.getLsbD_and]
theorem b_xor (x y : Int32) (i : Nat) : bt (x ^^^ y) i = (bt x i ^^ bt y i) := by unfold bt; rw [Int32.toBitVec_xor, BitVec.getLsbD_xor]
theorem b_big {x : Int32} {i : Nat} (h : 32 ≤ i) : bt x i = false := BitVec.getLsbD_of_ge _ _ h
theorem b_255 (i : Nat) : bt 255 i = decide (i < 8) := by
  rcases Nat.lt_or_ge i 32 with h | h
  · exact (by decide +kernel : ∀ i, i < 32 → bt 255 i = decide (i < 8)) i h
  · rw [b_big h, decide_eq_false (by omega)]
theorem b_65535 (i : Nat) : bt 65535 i = decide (i < 16) := by
  rcases Nat.lt_or_ge i 32 with h | h
  · exact (by decide +kernel : ∀ i, i < 32 → bt 65535 i = decide (i < 16)) i h
  · rw [b_big h, decide_eq_false (by omega)]
theorem b_m1 : ∀ i, i < 32 → bt (-1) i = true := by decide +kernel
theorem b_0 (i : Nat) : bt 0 i = false := BitVec.getLsbD_zero
theorem s_l : ∀ n, n < 32 → ((nI n &&& 31).toBitVec.smod 32).toNat = n := by decide +kernel
theorem s_u : ∀ n, n < 32 → (((nI n).toUInt32 &&& Int32.toUInt32 31).toBitVec % 32).toNat = n := by decide +kernel
theorem b_shl (n : Nat) (hn : n < 32) (x : Int32) {i : Nat} (hi : i < 32) : bt (x <<< (nI n &&& 31)) i = (decide (n ≤ i) && bt x (i - n)) := by
  unfold bt
  rw [Int32.toBitVec_shiftLeft]
  show (x.toBitVec <<< ((nI n &&& 31).toBitVec.smod 32).toNat).getLsbD i = _
  rw [s_l n hn, BitVec.getLsbD_shiftLeft]
  rcases Nat.lt_or_ge i n with h | h
  · simp [h, Nat.not_le.mpr h]
  · simp [hi, h, Nat.not_lt.mpr h]
theorem b_ushr (n : Nat) (hn : n < 32) (x : Int32) (i : Nat) : bt ((x.toUInt32 >>> ((nI n).toUInt32 &&& Int32.toUInt32 31)).toInt32) i = bt x (n + i) := by
  show (x.toUInt32 >>> ((nI n).toUInt32 &&& Int32.toUInt32 31)).toBitVec.getLsbD i = x.toUInt32.toBitVec.getLsbD (n + i)
  rw [UInt32.toBitVec_shiftRight]
  show (x.toUInt32.toBitVec >>> (((nI n).toUInt32 &&& Int32.toUInt32 31).toBitVec % 32).toNat).getLsbD i = _
  rw [s_u n hn, BitVec.getLsbD_ushiftRight]
theorem b_sshr (n : Nat) (hn : n < 32) (x : Int32) {i : Nat} (hi : i < 32) : bt (x >>> (nI n &&& 31)) i = if n + i < 32 then bt x (n + i) else bt x 31 := by
  unfold bt
  rw [Int32.toBitVec_shiftRight]
  show (x.toBitVec.sshiftRight ((nI n &&& 31).toBitVec.smod 32).toNat).getLsbD i = _
  rw [s_l n hn, BitVec.getLsbD_sshiftRight, BitVec.msb_eq_getLsbD_last]
  simp [hi]
theorem b_one (i : Nat) : bt 1 i = decide (i = 0) := by
  rcases Nat.lt_or_ge i 32 with h | h
  · exact (by decide +kernel : ∀ i, i < 32 → bt 1 i = decide (i = 0)) i h
  · rw [b_big h, decide_eq_false (by omega)]
theorem b_pw {n : Nat} (hn : n < 32) {i : Nat} (hi : i < 32) : bt ((1 : Int32) <<< (nI n &&& 31)) i = decide (i = n) := by
  rw [b_shl n hn 1 hi, b_one]
  by_cases h : i = n
  · subst h; simp
  · by_cases h2 : n ≤ i
    · rw [decide_eq_true h2, decide_eq_false (by omega), decide_eq_false h]; rfl
    · rw [decide_eq_false h2, decide_eq_false h]; rfl
theorem b_bS (P : Nat → Bool) {n : Nat} (hn : n ≤ 31) {i : Nat} (hi : i < 32) : bt (bS P n) i = (decide (i < n) && P i) := by
  induction n with
  | zero => rw [bS, b_0]; simp
  | succ n ih =>
    have ih := ih (by omega)
    rw [bS]
    cases hp : P n with
    | true =>
      rw [if_pos rfl, b_or, ih, b_pw (by omega) hi]
      by_cases h : i = n
      · subst h; simp [hp]
      · by_cases h2 : i < n
        · simp [h, h2, Nat.lt_succ_of_lt h2]
        · have : ¬ i < n + 1 := by omega
          simp [h, h2, this]
    | false =>
      rw [if_neg (by simp), ih]
      by_cases h : i = n
      · subst h; simp [hp]
      · by_cases h2 : i < n
        · simp [h2, Nat.lt_succ_of_lt h2]
        · have : ¬ i < n + 1 := by omega
          simp [h2, this]
theorem bS_congr {P Q : Nat → Bool} {n : Nat} (h : ∀ i, i < n → P i = Q i) : bS P n = bS Q n := by
  induction n with
  | zero => rfl
  | succ n ih =>
    rw [bS, bS, ih (fun i hi => h i (by omega)), h n (by omega)]
theorem cS_congr {P Q : Nat → Bool} {n : Nat} (h : ∀ i, i < n → P i = Q i) : cS P n = cS Q n := by
  induction n with
  | zero => rfl
  | succ n ih =>
    rw [cS, cS, ih (fun i hi => h i (by omega)), h n (by omega)]
theorem bS_pad (P : Nat → Bool) {n m : Nat} (h : n ≤ m) : bS (fun i => decide (i < n) && P i) m = bS P n := by
  induction m with
  | zero =>
    have : n = 0 := by omega
    subst this; rfl
  | succ m ih =>
    by_cases hn : n = m + 1
    · subst hn
      exact bS_congr (fun i hi => by simp [hi])
    · rw [bS, ih (by omega)]
      have : ¬ m < n := by omega
      simp [this]
theorem cS_pad (P : Nat → Bool) {n m : Nat} (h : n ≤ m) : cS (fun i => decide (i < n) && P i) m = cS P n := by
  induction m with
  | zero =>
    have : n = 0 := by omega
    subst this; rfl
  | succ m ih =>
    by_cases hn : n = m + 1
    · subst hn
      exact cS_congr (fun i hi => by simp [hi])
    · rw [cS, ih (by omega)]
      have : ¬ m < n := by omega
      simp [this]
theorem bS_and (P Q : Nat → Bool) {n : Nat} (hn : n ≤ 31) : bS P n &&& bS Q n = bS (fun i => P i && Q i) n := by
  apply b_ext
  intro i hi
  rw [b_and, b_bS _ hn hi, b_bS _ hn hi, b_bS _ hn hi]
  cases decide (i < n) <;> simp
theorem bS_andn (P Q : Nat → Bool) {n : Nat} (hn : n ≤ 31) : bS P n &&& (bS Q n ^^^ (-1)) = bS (fun i => P i && !Q i) n := by
  apply b_ext
  intro i hi
  rw [b_and, b_xor, b_bS _ hn hi, b_bS _ hn hi, b_bS _ hn hi, b_m1 i hi]
  cases decide (i < n) <;> simp
theorem bS_zero {P : Nat → Bool} {n : Nat} (hn : n ≤ 31) : bS P n = 0 ↔ ∀ i, i < n → P i = false := by
  constructor
  · intro h i hi
    have h1 := b_bS P hn (i := i) (by omega)
    rw [h, b_0] at h1
    simp [hi] at h1
    exact h1
  · intro h
    apply b_ext
    intro i hi
    rw [b_bS _ hn hi, b_0]
    by_cases h2 : i < n
    · simp [h2, h i h2]
    · simp [h2]
theorem and_pw (x : Int32) {n : Nat} (hn : n < 32) : (x &&& ((1 : Int32) <<< (nI n &&& 31))) = 0 ↔ bt x n = false := by
  constructor
  · intro h
    have h1 : bt (x &&& ((1 : Int32) <<< (nI n &&& 31))) n = false := by rw [h, b_0]
    rw [b_and, b_pw hn hn] at h1
    simpa using h1
  · intro h
    apply b_ext
    intro i hi
    rw [b_and, b_pw hn hi, b_0]
    by_cases h2 : i = n
    · subst h2; simp [h]
    · simp [h2]
/-- the bit n of a row of truths, shifted down -/
theorem shr_bit (P : Nat → Bool) {m n : Nat} (hm : m ≤ 31) (hn : n < m) : (bS P m >>> (nI n &&& 31)) &&& 1 = bI (P n) := by
  apply b_ext
  intro i hi
  rw [b_and, b_sshr n (by omega) _ hi, b_one]
  by_cases h : i = 0
  · subst h
    rw [if_pos (by omega), Nat.add_zero, b_bS _ hm (by omega)]
    cases hp : P n
    · simp [bI, b_0]
    · simp [bI, hn, b_one]
  · cases hp : P n
    · simp [h, bI, b_0]
    · simp [h, bI, b_one]
theorem bc10 : ∀ b0 b1 b2 b3 b4 b5 b6 b7 b8 b9 : Bool, f_J6_bitCount_0f7a4 (bS (fun i => [b0, b1, b2, b3, b4, b5, b6, b7, b8, b9].getD i false) 10) = some (nI (cS (fun i => [b0, b1, b2, b3, b4, b5, b6, b7, b8, b9].getD i false) 10)) := by decide +kernel
theorem g_bc (P : Nat → Bool) : f_J6_bitCount_0f7a4 (bS P 10) = some (nI (cS P 10)) := by
  have h : ∀ i, i < 10 → P i = [P 0, P 1, P 2, P 3, P 4, P 5, P 6, P 7, P 8, P 9].getD i false := by
    intro i hi
    rcases (show i = 0 ∨ i = 1 ∨ i = 2 ∨ i = 3 ∨ i = 4 ∨ i = 5 ∨ i = 6 ∨ i = 7 ∨ i = 8 ∨ i = 9 by omega) with rfl | rfl | rfl | rfl | rfl | rfl | rfl | rfl | rfl | rfl <;> rfl
  rw [bS_congr h, cS_congr h]
  exact bc10 _ _ _ _ _ _ _ _ _ _
theorem g_bcn (P : Nat → Bool) {n : Nat} (hn : n ≤ 10) : f_J6_bitCount_0f7a4 (bS P n) = some (nI (cS P n)) := by
  rw [← bS_pad P hn, g_bc, cS_pad P hn]
