/-! ===== FRAME: memory, worlds, contracts, calls ===== -/
abbrev xM : Type := (Nat → Int32) × (Int64 × (Nat → Nat → Int32))
def xI (M : xM) (k : Nat) (v : Int32) : xM := (va_up M.1 k v, M.2)
def xL (M : xM) (v : Int64) : xM := (M.1, v, M.2.2)
def xA (M : xM) (k : Nat) (f : Nat → Int32) : xM := (M.1, M.2.1, va_up M.2.2 k f)
/-- the class's own cells: an object LostTent and all that it keeps -/
def cw (q : Nat → Nat) (aI : ClassId) (M : xM) : va_W := [
  (q 0, .inr (5, [.ref (q 1), .ref (q 3), .ref (q 18), .ref (q 21), .int (M.1 0)])),
  (q 1, .inr (1, [.ref (q 2), .int (M.1 1)])),
  (q 2, .inl (aI, 36, .inl (M.2.2 0))),
  (q 3, .inr (3, [.ref (q 4), .ref (q 5), .ref (q 6), .ref (q 12), .int (M.1 2), .int (M.1 3), .int (M.1 4)])),
  (q 4, .inl (aI, 15, .inl (M.2.2 1))),
  (q 5, .inl (aI, 3, .inl (M.2.2 2))),
  (q 6, .inr (2, [.ref (q 7), .ref (q 8), .ref (q 9), .ref (q 10), .ref (q 11), .int (M.1 5), .int (M.1 6), .int (M.1 7), .int (M.1 8)])),
  (q 7, .inl (aI, 5, .inl (M.2.2 3))),
  (q 8, .inl (aI, 9, .inl (M.2.2 4))),
  (q 9, .inl (aI, 8, .inl (M.2.2 5))),
  (q 10, .inl (aI, 8, .inl (M.2.2 6))),
  (q 11, .inl (aI, 8, .inl (M.2.2 7))),
  (q 12, .inr (2, [.ref (q 13), .ref (q 14), .ref (q 15), .ref (q 16), .ref (q 17), .int (M.1 9), .int (M.1 10), .int (M.1 11), .int (M.1 12)])),
  (q 13, .inl (aI, 5, .inl (M.2.2 8))),
  (q 14, .inl (aI, 9, .inl (M.2.2 9))),
  (q 15, .inl (aI, 8, .inl (M.2.2 10))),
  (q 16, .inl (aI, 8, .inl (M.2.2 11))),
  (q 17, .inl (aI, 8, .inl (M.2.2 12))),
  (q 18, .inr (0, [.ref (q 19), .ref (q 20), .int (M.1 13), .int (M.1 14), .int (M.1 15)])),
  (q 19, .inl (aI, 15, .inl (M.2.2 13))),
  (q 20, .inl (aI, 3, .inl (M.2.2 14))),
  (q 21, .inr (4, [.long M.2.1, .int (M.1 16), .int (M.1 17)]))]
/-- the reference's cells -/
def dw (q : Nat → Nat) (aI : ClassId) (M : xM) : va_W := [
  (q 0, .inr (6, [.ref (q 1), .int (M.1 0), .int (M.1 1), .int (M.1 2), .int (M.1 3), .int (M.1 4), .int (M.1 5), .int (M.1 6), .int (M.1 7), .ref (q 2), .ref (q 3), .ref (q 4), .ref (q 5), .ref (q 6), .int (M.1 8), .ref (q 7), .int (M.1 9), .ref (q 8), .int (M.1 10), .int (M.1 11), .int (M.1 12), .int (M.1 13), .int (M.1 14), .ref (q 9), .ref (q 10), .ref (q 11), .long M.2.1])),
  (q 1, .inl (aI, 36, .inl (M.2.2 0))),
  (q 2, .inl (aI, 20, .inl (M.2.2 1))),
  (q 3, .inl (aI, 15, .inl (M.2.2 2))),
  (q 4, .inl (aI, 10, .inl (M.2.2 3))),
  (q 5, .inl (aI, 3, .inl (M.2.2 4))),
  (q 6, .inl (aI, 3, .inl (M.2.2 5))),
  (q 7, .inl (aI, 24, .inl (M.2.2 6))),
  (q 8, .inl (aI, 15, .inl (M.2.2 7))),
  (q 9, .inl (aI, 20, .inl (M.2.2 8))),
  (q 10, .inl (aI, 15, .inl (M.2.2 9))),
  (q 11, .inl (aI, 24, .inl (M.2.2 10)))]
/-- the words of nest mates -/
def cNest : List Cond := [
  .methodLinkNest RX2 54 yX5_put "LostTent", .methodLinkNest RX1 23 yX5_put "LostTent", .methodLinkNest RX1 19 yX5_entry "LostTent",
  .fieldLinkNest RX1 48 "LostTent" "SIGN_VALUES" "[I" "LostTent", .methodLinkNest RX1 51 yX5_isBelow "LostTent",
  .methodLinkNest RX3 53 yX5_put "LostTent", .methodLinkNest RX3 68 yX5_isBelow "LostTent", .methodLinkNest RX3 83 yX5_entry "LostTent",
  .methodLinkNest RX2 50 yX5_entry "LostTent", .methodLinkNest RX3 152 yX5_wrongBy "LostTent", .methodLinkNest RX3 97 yX5_isFit "LostTent",
  .methodLinkNest RX3 120 yX5_isIn "LostTent", .methodLinkNest RX0 79 yX5_put "LostTent", .methodLinkNest RX0 28 yX5_entry "LostTent",
  .fieldLinkNest RX4 35 "LostTent" "SIGN_VALUES" "[I" "LostTent", .methodLinkNest RX4 39 yX5_entry "LostTent",
  .methodLinkNest RX4 55 yX5_wrongBy "LostTent", .methodLinkNest RX4 63 yX5_isFit "LostTent", .methodLinkNest RX2 46 yX5_copy "LostTent"]
def k_nest : Cond → Bool
  | .methodLinkNest _ _ _ _ => true
  | .fieldLinkNest _ _ _ _ _ _ => true
  | _ => false
theorem cNest_ok : ∀ w ∈ cNest, k_nest w = true := by decide +kernel
theorem k_nest_warm {w : Cond} (h : k_nest w = true) {s U : State} (hW : s.WarmedH U.vm) (hZ : va_Nw w s) : va_Nw w U := by
  cases w <;> first | exact va_Nw.warmM hW hZ | exact va_Nw.warmF hW hZ | (simp [k_nest] at h)
theorem k_nest_same {w : Cond} (h : k_nest w = true) {u U : State} (hv : u.vm = U.vm) (hZ : va_Nw w u) : va_Nw w U := by
  cases w <;> first | exact va_Nw.same rfl hv hZ | (simp [k_nest] at h)
def cV (l : List Int32) : Nat → Value := fun j => .int (l.getD j 0)
def cE1 (t : Nat → Nat) (A : Nat → Prop) (U : State) (H : Heap) : Prop :=
  (va_Z "LostTent" "SIGN_VALUES" "[I" (.ref (t 0)) A U H ∧ va_T .int (t 0) 3 (cV [10, 6, 5]) A U H) ∧
  (va_Z "LostTent" "WRONG_A_YEAR" "[I" (.ref (t 1)) A U H ∧ va_T .int (t 1) 5 (cV [1, 1, 3, 0, 1]) A U H) ∧
  (va_Z "LostTent" "WRONG_BY_PLACE" "[I" (.ref (t 2)) A U H ∧ va_T .int (t 2) 5 (cV [2, 0, 2, 0, 0]) A U H) ∧
  (va_Z "LostTent" "WRONG_BY_LIKE" "[I" (.ref (t 3)) A U H ∧ va_T .int (t 3) 5 (cV [2, 2, 2, 3, 2]) A U H) ∧
  (va_Z "LostTent" "FITS_UP_TO" "[I" (.ref (t 4)) A U H ∧ va_T .int (t 4) 5 (cV [2, 2, 2, 2, 4]) A U H) ∧
  va_Z "java/lang/String" "COMPACT_STRINGS" "Z" (.int 1) A U H ∧ vk_S 1 [5] [[99, 119, 108, 104, 110]] (fun _ => t 5) (fun _ => t 6) A U H
def cE (t : Nat → Nat) (A : Nat → Prop) (U : State) : Prop := (∀ w ∈ cNest, va_Nw w U) ∧ vk_R "LostTent$Page" 54 "cwlhn" (t 5) U ∧ cE1 t A U U.heap
theorem cE1.moved {t : Nat → Nat} {A : Nat → Prop} {u U : State} {H : Heap} (hv : u.vm.Alike U.vm) (h : cE1 t A u H) : cE1 t A U H :=
  ⟨⟨h.1.1.moved hv, h.1.2.moved hv⟩, ⟨h.2.1.1.moved hv, h.2.1.2.moved hv⟩, ⟨h.2.2.1.1.moved hv, h.2.2.1.2.moved hv⟩, ⟨h.2.2.2.1.1.moved hv, h.2.2.2.1.2.moved hv⟩, ⟨h.2.2.2.2.1.1.moved hv, h.2.2.2.2.1.2.moved hv⟩, h.2.2.2.2.2.1.moved hv, h.2.2.2.2.2.2.moved hv⟩
theorem cE1.kept {t : Nat → Nat} {A : Nat → Prop} {U : State} {H H1 : Heap} (h : cE1 t A U H) (hq : ∀ a : Nat, a < H.size → ¬ A a → H1[a]? = H[a]?) : cE1 t A U H1 :=
  ⟨⟨h.1.1.kept hq, h.1.2.kept hq⟩, ⟨h.2.1.1.kept hq, h.2.1.2.kept hq⟩, ⟨h.2.2.1.1.kept hq, h.2.2.1.2.kept hq⟩, ⟨h.2.2.2.1.1.kept hq, h.2.2.2.1.2.kept hq⟩, ⟨h.2.2.2.2.1.1.kept hq, h.2.2.2.2.1.2.kept hq⟩, h.2.2.2.2.2.1.kept hq, h.2.2.2.2.2.2.kept hq⟩
theorem cE1.narrow {t : Nat → Nat} {A B : Nat → Prop} {U : State} {H : Heap} (h : cE1 t A U H) (hAB : ∀ q, B q → A q) : cE1 t B U H :=
  ⟨⟨h.1.1.narrow hAB, h.1.2.narrow hAB⟩, ⟨h.2.1.1.narrow hAB, h.2.1.2.narrow hAB⟩, ⟨h.2.2.1.1.narrow hAB, h.2.2.1.2.narrow hAB⟩, ⟨h.2.2.2.1.1.narrow hAB, h.2.2.2.1.2.narrow hAB⟩, ⟨h.2.2.2.2.1.1.narrow hAB, h.2.2.2.2.1.2.narrow hAB⟩, h.2.2.2.2.2.1.narrow hAB, h.2.2.2.2.2.2.narrow hAB⟩
theorem cE_blind {t : Nat → Nat} {A : Nat → Prop} {U : State} {g : JFrame} {mk : MethodId} {a : Array Value} (h : cE t A U) : cE t A (U.calling g mk a) :=
  ⟨fun w hw => k_nest_same (u := U) (U := U.calling g mk a) (cNest_ok w hw) rfl (h.1 w hw), vk_R.same (u := U) rfl h.2.1, cE1.moved (u := U) (U := U.calling g mk a) (Vm.Alike.refl U.vm) h.2.2⟩
theorem cE_call {t : Nat → Nat} {A B : Nat → Prop} {s U : State} {H : Heap} {locs : List Loc} (h : cE t A s) (hW : s.WarmedH U.vm) (hU : U.heap = H) (hS : va_S A s.heap H locs) (hBA : ∀ q, B q → A q) : cE t B U := by
  subst hU
  exact ⟨fun w hw => k_nest_warm (cNest_ok w hw) hW (h.1 w hw), vk_R.warm hW h.2.1, ((h.2.2.kept hS.2.1).moved hW.alike).narrow hBA⟩
/-! contracts -/
def kB (w : xM → va_W) (D : va_G) (aI : ClassId) (t : Nat → Nat) (M : xM) (sz : Nat) : State → Prop := fun U => U.heap.size = sz ∧ va_P D vwCl (w M) U.heap ∧ va_K D vwCl [(aI, .int)] U ∧ va_D (fun _ => True) (w M) ∧ cE t (va_A (w M) sz) U
def kQ (w : xM → va_W) (D : va_G) (A : Nat → Prop) (rv : Option Value) (M : xM) : Array Value → State → Outcome → State → Prop := fun _ st oc u => (oc = .returned rv ∧ va_P D vwCl (w M) u.heap ∧ va_D A (w M)) ∧ va_F A st u
def kM (l : Launch) (y : MethodName) (ws : List Cond) (rm : Room) (w : xM → va_W) (D : va_G) (aI : ClassId) (t : Nat → Nat) (av : List Value) (M : xM) (rv : Option Value) (M' : xM) : Prop :=
  ∀ sz : Nat, Met l y ws rm (va_Pc av (kB w D aI t M sz)) (kQ w D (va_A (w M) sz) rv M') 0 0 (va_A (w M) sz)
def kX (D : va_G) (aI : ClassId) (t : Nat → Nat) (p : Program) (s : State) (m : MethodId) (args : Array Value) (c : Code) (cc : ByteArray) (own : String) (nL : Nat) (A : Nat → Prop) : Prop :=
  p.tables.exec = Jvm.exec ∧ c.code = cc ∧ c.maxLocals = nL ∧ s.vm.findClass own = some m.cls ∧ (∀ w ∈ xU, w.before args s = true) ∧ va_K D vwCl [(aI, .int)] s ∧ cE t A s ∧ ∀ q, s.heap.size ≤ q → A q
def kI (w : xM → va_W) (D : va_G) (A : Nat → Prop) (s : State) (M : xM) (H : Heap) (locs : List Loc) : Prop := va_P D vwCl (w M) H ∧ va_D A (w M) ∧ va_S A s.heap H locs
theorem k_bind {α β : Type} {o : Option α} {f : α → Option β} {b : β} (h : o.bind f = some b) : ∃ a, o = some a ∧ f a = some b := Option.bind_eq_some_iff.mp h
def ob2 {α β γ : Type} (o : Option (α × β)) (f : α → β → Option γ) : Option γ := o.bind fun z => f z.1 z.2
theorem k_bind2 {α β γ : Type} {o : Option (α × β)} {f : α → β → Option γ} {b : γ} (h : ob2 o f = some b) : ∃ a c, o = some (a, c) ∧ f a c = some b := by
  obtain ⟨z, h1, h2⟩ := Option.bind_eq_some_iff.mp h
  exact ⟨z.1, z.2, h1, h2⟩
theorem k_free {w : xM → va_W} {D : va_G} {A : Nat → Prop} {s : State} {M : xM} {H : Heap} {locs : List Loc} (I : kI w D A s M H locs) (hA : ∀ q, s.heap.size ≤ q → A q) : ∀ q, va_A (w M) H.size q → A q := by
  intro q h
  rcases h with ⟨k, e, h⟩ | h
  · exact I.2.1.2 k (q, e) h
  · exact hA q (Nat.le_trans I.2.2.1 h)
abbrev wk (y : MethodName) (cc : ByteArray) (maxL : Nat) (ret : Option FieldType) : List Cond := Cond.code y cc maxL ret :: xU
theorem kM_of {l : Launch} {y : MethodName} {rm : Room} {w : xM → va_W} {D : va_G} {aI : ClassId} {t : Nat → Nat} {av : List Value} {M : xM} {rv : Option Value} {M' : xM} {cc : ByteArray} {maxL : Nat} {ret : Option FieldType}
    (hy : plainName y.cls = true) (hlen : (lg_sl av).length ≤ maxL)
    (body : ∀ (p : Program) (e : Env) (s : State) (m : MethodId) (args : Array Value) (below : List Frame) (meth : Method) (c : Code) (A : Nat → Prop) (ls : Array Slot), kX D aI t p s m args c cc y.cls maxL A → meth.sig.returnType = ret → meth.locks = false → lv_has ls maxL (lv_args 0 av) → kI w D A s M s.heap [] →
      W p l e rm s m args below meth c s.heap [] 0 0 (MQ below (kQ w D A rv M') args s 0 0 A) (F0 m 0 ls [])) : kM l y (wk y cc maxL ret) rm w D aI t av M rv M' := by
  intro sz
  refine Met.ofW (cc := cc) (maxL := maxL) (ret := ret) hy rfl ?_
  intro p e s m args below meth c s₁ B hml hv
  obtain ⟨rfl, hsz, hP, hK, hD0, hE⟩ := hv
  subst hsz
  have hD := hD0.self (sz := s.heap.size)
  rw [lg_entry_eq]
  exact body p e s m _ below meth c (va_A (w M) s.heap.size) _ ⟨B.exec, B.bytes, hml, findClass_of_methodNamed B.named, fun w hw => atoms_spec (ws := wk y cc maxL ret) B.pre w (List.mem_cons_of_mem _ hw), hK, hE, fun q h => Or.inr h⟩ B.returns B.notSynchronized (lv_entry av hlen) ⟨hP, hD, va_S.rf⟩
theorem gW {y : MethodName} {cc : ByteArray} {n : Nat} {r : Option FieldType} (h5 : Cond.code y cc n r ∈ xU) : GoodIn xU (wk y cc n r) := by
  intro w hw
  have h : w ∈ xU := by
    rcases List.mem_cons.mp hw with rfl | hw
    · exact h5
    · exact hw
  exact ⟨h, xU_good w h⟩
theorem gV {own C : String} {i : Nat} {y : MethodName} {cc : ByteArray} {n : Nat} {r : Option FieldType} (h1 : Cond.methodLink own i y ∈ xU) (h2 : Cond.instanceMethod y ∈ xU) (h3 : Cond.selects C y y ∈ xU) (h4 : Cond.initialized C ∈ xU) (h5 : Cond.code y cc n r ∈ xU) : GoodIn xU (wsV own i C y (wk y cc n r)) := by
  intro w hw
  rcases List.mem_append.mp hw with hw | hw
  · have h : w ∈ xU := by
      simp only [List.mem_cons, List.not_mem_nil, or_false] at hw
      rcases hw with rfl | rfl | rfl | rfl <;> assumption
    exact ⟨h, xU_good w h⟩
  · exact gW h5 w hw
theorem gS {own : String} {i : Nat} {y : MethodName} {cc : ByteArray} {n : Nat} {r : Option FieldType} (h1 : Cond.methodLink own i y ∈ xU) (h2 : Cond.static y ∈ xU) (h4 : Cond.initialized y.cls ∈ xU) (h5 : Cond.code y cc n r ∈ xU) : GoodIn xU (va_wsS own i y (wk y cc n r)) := by
  intro w hw
  rcases List.mem_append.mp hw with hw | hw
  · have h : w ∈ xU := by
      simp only [List.mem_cons, List.not_mem_nil, or_false] at hw
      rcases hw with rfl | rfl | rfl <;> assumption
    exact ⟨h, xU_good w h⟩
  · exact gW h5 w hw
section KW
variable {p : Program} {l : Launch} {e : Env} {R : Room} {s : State} {m : MethodId} {args : Array Value} {below : List Frame} {meth : Method} {c : Code} {H : Heap} {locs : List Loc} {cells slots : Nat} {Q : State → Prop}
variable {cc : ByteArray} {pc : Nat} {ls : Array Slot} {rest st0 : List Value} {D : va_G} {aI : ClassId} {t : Nat → Nat} {own : String} {nL : Nat} {A : Nat → Prop} {w : xM → va_W} {M M' M1 : xM}
theorem k_preV {As : List Value} {b ci : Nat} {q : vw_C} {fs : List Value} (X : kX D aI t p s m args c cc own nL A) (I : kI w D A s M H locs) (i : Nat) (he : (w M)[i]? = some (b, .inr (ci, fs))) (hc : vwCl[ci]? = some q) : PreV s H q.1 b (va_Pc (.ref b :: As) (kB w D aI t M H.size)) As := by
  obtain ⟨-, -, -, -, -, hK, hE, hA⟩ := X
  refine ⟨fun a U g mk z => ?_, va_recv hK I.1 hc he, fun U hU hW => ⟨rfl, by rw [hU], by rw [hU]; exact I.1, va_K.moved hW.alike hK, I.2.1.weaken (fun _ _ _ _ => trivial), cE_call hE hW hU I.2.2 (k_free I hA)⟩⟩
  obtain ⟨z0, z1, z2, z3, z4, z5⟩ := z
  exact ⟨z0, z1, z2, va_K.moved (u := U) (U := U.calling g mk a) (Vm.Alike.refl U.vm) z3, z4, cE_blind z5⟩
theorem k_preS {As : List Value} (X : kX D aI t p s m args c cc own nL A) (I : kI w D A s M H locs) : PreS s H (va_Pc As (kB w D aI t M H.size)) As := by
  obtain ⟨-, -, -, -, -, hK, hE, hA⟩ := X
  refine ⟨fun a U g mk z => ?_, fun U hU hW => ⟨rfl, by rw [hU], by rw [hU]; exact I.1, va_K.moved hW.alike hK, I.2.1.weaken (fun _ _ _ _ => trivial), cE_call hE hW hU I.2.2 (k_free I hA)⟩⟩
  obtain ⟨z0, z1, z2, z3, z4, z5⟩ := z
  exact ⟨z0, z1, z2, va_K.moved (u := U) (U := U.calling g mk a) (Vm.Alike.refl U.vm) z3, z4, cE_blind z5⟩
theorem k_call {a : Array Value} {rv : Option Value} (hr : va_Run p l e R s m args below meth c H locs cells slots 0 0 (F0 m pc ls st0) rest (kQ w D (va_A (w M) H.size) rv M' a) (va_A (w M) H.size)) (I : kI w D A s M H locs) (hA : ∀ q, s.heap.size ≤ q → A q)
    (kk : ∀ (H1 : Heap) (locs1 : List Loc), kI w D A s M' H1 locs1 → W p l e R s m args below meth c H1 locs1 cells slots Q (F0 m (pc + 3) ls (rv.toList ++ rest))) : W p l e R s m args below meth c H locs cells slots Q (F0 m pc ls st0) := by
  intro T hT X
  obtain ⟨v, st₀, u, T', L, h0, X', hL, e1, e2, ⟨⟨hv, hp, hd⟩, hz, hk⟩, st⟩ := hr T hT X
  cases hv
  rw [h0] at hz hk
  have hF := k_free I hA
  have hS := I.2.2
  obtain ⟨t2, a1, b1⟩ := kk T'.heap (locs ++ L) ⟨by rw [e1]; exact hp, hd.weaken (fun _ _ _ h => hF _ h), Nat.le_trans hS.1 (by rw [e1]; exact hz), fun q h1 h2 => by rw [e1, hk q (Nat.lt_of_lt_of_le h1 hS.1) (fun z => h2 (hF q z))]; exact hS.2.1 q h1 h2, fun q hq => by
      rcases List.mem_append.mp hq with h | h
      · exact hS.2.2 q h
      · exact hF _ (hL q h)⟩ T' rfl X'
  exact ⟨t2, st t2 a1, b1⟩
theorem k_callV {y : MethodName} {rm : Room} {bytes : ByteArray} {maxL b ci index n : Nat} {ret : Option FieldType} {As fs : List Value} {rv : Option Value} {C : String} {T : u_T} {N : Nat}
    (X : kX D aI t p s m args c cc own nL A) (I : kI w D A s M H locs) (hM : kM l y (wk y bytes maxL ret) rm w D aI t (.ref b :: As) M rv M') (h1 : Cond.methodLink own index y ∈ xU) (h2 : Cond.instanceMethod y ∈ xU) (h3 : Cond.selects C y y ∈ xU) (h4 : Cond.initialized C ∈ xU) (h5 : Cond.code y bytes maxL ret ∈ xU) (hrc : rm.cells = 0 ∧ rm.slots = 0)
    (hd : y.cls = C ∧ y.cls ≠ "java/lang/invoke/MethodHandle" ∧ y.cls ≠ "java/lang/invoke/VarHandle" ∧ (parseMethodDescriptor y.desc).map (fun d => d.parameters.length) = some n) (hn : As.length = n) (hR : rm.frames + 1 ≤ R.frames ∧ 8 + (maxL + 11) + rm.locals ≤ R.locals) (hc0 : cells ≤ R.cells ∧ slots ≤ R.slots)
    (i : Nat) (he : (w M)[i]? = some (b, .inr (ci, fs))) (hc : vwCl[ci]? = some (C, T, N)) (hls : ls.size = nL) (hst : st0 = As.reverse ++ .ref b :: rest) (hroom : (rest.map fun v => v.category).sum ≤ 8) (hdg : decode cc pc = .ok (.invokevirtual index, 3)) {st1 : List Value} (hst1 : rv.toList ++ rest = st1)
    (kk : ∀ (H1 : Heap) (locs1 : List Loc), kI w D A s M' H1 locs1 → W p l e R s m args below meth c H1 locs1 cells slots Q (F0 m (pc + 3) ls st1)) : W p l e R s m args below meth c H locs cells slots Q (F0 m pc ls st0) := by
  have hX := X
  obtain ⟨hx, hb, hml, hown, hts, hK, hE, hA⟩ := X
  subst hst1
  exact k_call (va_runV (As := As) (rest := rest) ⟨hx, hb, hml, hown, hts⟩ (hM H.size) (cwV n hts (gV h1 h2 h3 h4 h5) rfl hrc.1 hrc.2 hd hR) (k_preV hX I i he hc) rfl hn hls hst (lv_room hroom) hdg hc0) I hA kk
theorem k_callVN {y : MethodName} {rm : Room} {bytes : ByteArray} {maxL b ci index n : Nat} {ret : Option FieldType} {As fs : List Value} {rv : Option Value} {C host : String} {T : u_T} {N : Nat}
    (X : kX D aI t p s m args c cc own nL A) (I : kI w D A s M H locs) (hM : kM l y (wk y bytes maxL ret) rm w D aI t (.ref b :: As) M rv M') (hl : Cond.methodLinkNest own index y host ∈ cNest) (hini : Cond.initialized y.cls ∈ xU) (hin : Cond.instanceMethod y ∈ xU) (hse : Cond.selects C y y ∈ xU) (h5 : Cond.code y bytes maxL ret ∈ xU) (hrc : rm.cells = 0 ∧ rm.slots = 0)
    (hd : y.cls ≠ "java/lang/invoke/MethodHandle" ∧ y.cls ≠ "java/lang/invoke/VarHandle" ∧ (parseMethodDescriptor y.desc).map (fun d => d.parameters.length) = some n) (hn : As.length = n) (hR : rm.frames + 1 ≤ R.frames ∧ 8 + (maxL + 11) + rm.locals ≤ R.locals) (hc0 : cells ≤ R.cells ∧ slots ≤ R.slots)
    (i : Nat) (he : (w M)[i]? = some (b, .inr (ci, fs))) (hc : vwCl[ci]? = some (C, T, N)) (hls : ls.size = nL) (hst : st0 = As.reverse ++ .ref b :: rest) (hroom : (rest.map fun v => v.category).sum ≤ 8) (hdg : decode cc pc = .ok (.invokevirtual index, 3)) {st1 : List Value} (hst1 : rv.toList ++ rest = st1)
    (kk : ∀ (H1 : Heap) (locs1 : List Loc), kI w D A s M' H1 locs1 → W p l e R s m args below meth c H1 locs1 cells slots Q (F0 m (pc + 3) ls st1)) : W p l e R s m args below meth c H locs cells slots Q (F0 m pc ls st0) := by
  have hX := X
  obtain ⟨hx, hb, hml, hown, hts, hK, hE, hA⟩ := X
  subst hst1
  exact k_call (va_runVN (As := As) (rest := rest) ⟨hx, hb, hml, hown, hts⟩ (hM H.size) ⟨va_cnB n hts (gW h5) rfl hrc.1 hrc.2 (hE.1 _ hl) (hts _ hini) hd hR, hts _ hin, hts _ hse⟩ (k_preV hX I i he hc) rfl hn hls hst (lv_room hroom) hdg hc0) I hA kk
theorem k_callS {y : MethodName} {rm : Room} {bytes : ByteArray} {maxL index n : Nat} {ret : Option FieldType} {As : List Value} {rv : Option Value}
    (X : kX D aI t p s m args c cc own nL A) (I : kI w D A s M H locs) (hM : kM l y (wk y bytes maxL ret) rm w D aI t As M rv M') (h1 : Cond.methodLink own index y ∈ xU) (h2 : Cond.static y ∈ xU) (h4 : Cond.initialized y.cls ∈ xU) (h5 : Cond.code y bytes maxL ret ∈ xU) (hrc : rm.cells = 0 ∧ rm.slots = 0)
    (hd : y.cls ≠ "java/lang/invoke/MethodHandle" ∧ y.cls ≠ "java/lang/invoke/VarHandle" ∧ (parseMethodDescriptor y.desc).map (fun d => d.parameters.length) = some n) (hn : As.length = n) (hR : rm.frames + 1 ≤ R.frames ∧ 8 + (maxL + 11) + rm.locals ≤ R.locals) (hc0 : cells ≤ R.cells ∧ slots ≤ R.slots)
    (hls : ls.size = nL) (hst : st0 = As.reverse ++ rest) (hroom : (rest.map fun v => v.category).sum ≤ 8) (hdg : decode cc pc = .ok (.invokestatic index, 3)) {st1 : List Value} (hst1 : rv.toList ++ rest = st1)
    (kk : ∀ (H1 : Heap) (locs1 : List Loc), kI w D A s M' H1 locs1 → W p l e R s m args below meth c H1 locs1 cells slots Q (F0 m (pc + 3) ls st1)) : W p l e R s m args below meth c H locs cells slots Q (F0 m pc ls st0) := by
  have hX := X
  obtain ⟨hx, hb, hml, hown, hts, hK, hE, hA⟩ := X
  subst hst1
  exact k_call (va_runS (As := As) (rest := rest) ⟨hx, hb, hml, hown, hts⟩ (hM H.size) (va_cwS n hts (gS h1 h2 h4 h5) rfl hrc.1 hrc.2 hd hR) (k_preS hX I) rfl hn hls hst (lv_room hroom) hdg hc0) I hA kk
theorem k_callSN {y : MethodName} {rm : Room} {bytes : ByteArray} {maxL index n : Nat} {ret : Option FieldType} {As : List Value} {rv : Option Value} {host : String}
    (X : kX D aI t p s m args c cc own nL A) (I : kI w D A s M H locs) (hM : kM l y (wk y bytes maxL ret) rm w D aI t As M rv M') (hl : Cond.methodLinkNest own index y host ∈ cNest) (hini : Cond.initialized y.cls ∈ xU) (hstt : Cond.static y ∈ xU) (h5 : Cond.code y bytes maxL ret ∈ xU) (hrc : rm.cells = 0 ∧ rm.slots = 0)
    (hd : y.cls ≠ "java/lang/invoke/MethodHandle" ∧ y.cls ≠ "java/lang/invoke/VarHandle" ∧ (parseMethodDescriptor y.desc).map (fun d => d.parameters.length) = some n) (hn : As.length = n) (hR : rm.frames + 1 ≤ R.frames ∧ 8 + (maxL + 11) + rm.locals ≤ R.locals) (hc0 : cells ≤ R.cells ∧ slots ≤ R.slots)
    (hls : ls.size = nL) (hst : st0 = As.reverse ++ rest) (hroom : (rest.map fun v => v.category).sum ≤ 8) (hdg : decode cc pc = .ok (.invokestatic index, 3)) {st1 : List Value} (hst1 : rv.toList ++ rest = st1)
    (kk : ∀ (H1 : Heap) (locs1 : List Loc), kI w D A s M' H1 locs1 → W p l e R s m args below meth c H1 locs1 cells slots Q (F0 m (pc + 3) ls st1)) : W p l e R s m args below meth c H locs cells slots Q (F0 m pc ls st0) := by
  have hX := X
  obtain ⟨hx, hb, hml, hown, hts, hK, hE, hA⟩ := X
  subst hst1
  exact k_call (va_runSN (As := As) (rest := rest) ⟨hx, hb, hml, hown, hts⟩ (hM H.size) ⟨va_cnB n hts (gW h5) rfl hrc.1 hrc.2 (hE.1 _ hl) (hts _ hini) hd hR, hts _ hstt, trivial⟩ (k_preS hX I) rfl hn hls hst (lv_room hroom) hdg hc0) I hA kk
/-! returns -/
theorem k_iret {v r : Int32} (X : kX D aI t p s m args c cc own nL A) (I : kI w D A s M H locs) (hr : meth.sig.returnType = some .int) (hlocks : meth.locks = false) (hdg : decode cc pc = .ok (.ireturn, 1)) (hf : some (v, M) = some (r, M')) : W p l e R s m args below meth c H locs 0 0 (MQ below (kQ w D A (some (.int r)) M') args s 0 0 A) (F0 m pc ls [.int v]) := by
  cases hf
  exact W.iret X.1 X.2.1 hr (fun u hu hW => ⟨⟨rfl, by rw [hu]; exact I.1, I.2.1⟩, I.2.2.F hu⟩) I.2.2.2.2 hdg hlocks
theorem k_iretP {v r : Int32} (X : kX D aI t p s m args c cc own nL A) (I : kI w D A s M H locs) (hr : meth.sig.returnType = some .int) (hlocks : meth.locks = false) (hdg : decode cc pc = .ok (.ireturn, 1)) (hf : some v = some r) : W p l e R s m args below meth c H locs 0 0 (MQ below (kQ w D A (some (.int r)) M) args s 0 0 A) (F0 m pc ls [.int v]) :=
  k_iret X I hr hlocks hdg (by cases hf; rfl)
def xbo (v : Int32) : Option Int32 := if v = 0 ∨ v = 1 then some v else none
theorem xbo_nar {v : Int32} (h : v = 0 ∨ v = 1) : narrow .boolean (.int v) = .int v := by
  rcases h with rfl | rfl <;> decide
theorem k_zret {v r : Int32} (X : kX D aI t p s m args c cc own nL A) (I : kI w D A s M H locs) (hr : meth.sig.returnType = some .boolean) (hlocks : meth.locks = false) (hdg : decode cc pc = .ok (.ireturn, 1)) (hf : ((xbo v).bind fun z => some (z, M)) = some (r, M')) : W p l e R s m args below meth c H locs 0 0 (MQ below (kQ w D A (some (.int r)) M') args s 0 0 A) (F0 m pc ls [.int v]) := by
  obtain ⟨z, h1, h2⟩ := k_bind hf
  unfold xbo at h1
  split at h1
  · rename_i h
    cases h1
    cases h2
    exact W.zret X.1 X.2.1 hr (xbo_nar h) (fun u hu hW => ⟨⟨rfl, by rw [hu]; exact I.1, I.2.1⟩, I.2.2.F hu⟩) I.2.2.2.2 hdg hlocks
  · cases h1
theorem k_zretP {v r : Int32} (X : kX D aI t p s m args c cc own nL A) (I : kI w D A s M H locs) (hr : meth.sig.returnType = some .boolean) (hlocks : meth.locks = false) (hdg : decode cc pc = .ok (.ireturn, 1)) (hf : xbo v = some r) : W p l e R s m args below meth c H locs 0 0 (MQ below (kQ w D A (some (.int r)) M) args s 0 0 A) (F0 m pc ls [.int v]) :=
  k_zret X I hr hlocks hdg (by rw [hf]; rfl)
theorem k_lret {v r : Int64} (X : kX D aI t p s m args c cc own nL A) (I : kI w D A s M H locs) (hr : meth.sig.returnType = some .long) (hlocks : meth.locks = false) (hdg : decode cc pc = .ok (.lreturn, 1)) (hf : some (v, M) = some (r, M')) : W p l e R s m args below meth c H locs 0 0 (MQ below (kQ w D A (some (.long r)) M') args s 0 0 A) (F0 m pc ls [.long v]) := by
  cases hf
  exact W.lret X.1 X.2.1 hr (fun u hu hW => ⟨⟨rfl, by rw [hu]; exact I.1, I.2.1⟩, I.2.2.F hu⟩) I.2.2.2.2 hdg hlocks
theorem k_lretP {v r : Int64} (X : kX D aI t p s m args c cc own nL A) (I : kI w D A s M H locs) (hr : meth.sig.returnType = some .long) (hlocks : meth.locks = false) (hdg : decode cc pc = .ok (.lreturn, 1)) (hf : some v = some r) : W p l e R s m args below meth c H locs 0 0 (MQ below (kQ w D A (some (.long r)) M) args s 0 0 A) (F0 m pc ls [.long v]) :=
  k_lret X I hr hlocks hdg (by cases hf; rfl)
theorem k_vret (X : kX D aI t p s m args c cc own nL A) (I : kI w D A s M H locs) (hr : meth.sig.returnType = none) (hlocks : meth.locks = false) (hdg : decode cc pc = .ok (.return_, 1)) (hf : some M = some M') : W p l e R s m args below meth c H locs 0 0 (MQ below (kQ w D A none M') args s 0 0 A) (F0 m pc ls []) := by
  cases hf
  exact W.vret X.1 X.2.1 hr (fun u hu hW => ⟨⟨rfl, by rw [hu]; exact I.1, I.2.1⟩, I.2.2.F hu⟩) I.2.2.2.2 hdg hlocks
theorem k_aret {a : Nat} {C : String} (X : kX D aI t p s m args c cc own nL A) (I : kI w D A s M H locs) (hr : meth.sig.returnType = some (.object C)) (hlocks : meth.locks = false) (hdg : decode cc pc = .ok (.areturn, 1)) : W p l e R s m args below meth c H locs 0 0 (MQ below (kQ w D A (some (.ref a)) M) args s 0 0 A) (F0 m pc ls [.ref a]) :=
  W.aret X.1 X.2.1 hr (Or.inl ⟨_, rfl⟩) (Or.inr ⟨_, rfl⟩) (fun u hu hW => ⟨⟨rfl, by rw [hu]; exact I.1, I.2.1⟩, I.2.2.F hu⟩) I.2.2.2.2 hdg hlocks
/-! fields and arrays -/
theorem k_get {ref C : String} {T : u_T} {N ci index a : Nat} {fs : List Value} {v : Value} (X : kX D aI t p s m args c cc own nL A) (I : kI w D A s M H locs) (hin : ∀ z ∈ u_ws C T N, z ∈ xU) (i : Nat) (he : (w M)[i]? = some (a, .inr (ci, fs))) (hc : vwCl[ci]? = some (C, T, N)) (k : Nat) (hk : k < N) (hlink : Cond.fieldLink own index ref (T k).2.1 (T k).2.2.1 ∈ xU) (hsame : ref = (T k).1) (hv : fs[k]? = some v) (hdg : decode cc pc = .ok (.getfield index, 3))
    (kk : W p l e R s m args below meth c H locs cells slots Q (F0 m (pc + 3) ls (v :: rest))) : W p l e R s m args below meth c H locs cells slots Q (F0 m pc ls (.ref a :: rest)) := by
  obtain ⟨hx, hb, hml, hown, hts, hK, hE, hA⟩ := X
  exact va_get (D := D) (C := C) (T := T) (N := N) hx hb hts hin hown hK I.1 i he hc k hk (hts _ hlink) (fun _ h => by rw [hsame]; exact h) hv hdg kk
theorem k_put {ref C : String} {T : u_T} {N ci index a : Nat} {fs : List Value} {v : Value} {ty : FieldType} (X : kX D aI t p s m args c cc own nL A) (I : kI w D A s M H locs) (hin : ∀ z ∈ u_ws C T N, z ∈ xU) (ty0 : Nat → FieldType) (hty : ∀ k, k < N → parseFieldDescriptor (T k).2.2.1 = some (ty0 k)) (hnm : ∀ a, a < N → ∀ b, b < N → a ≠ b → (T a).2.1 ≠ (T b).2.1) (i : Nat) (he : (w M)[i]? = some (a, .inr (ci, fs))) (hc : vwCl[ci]? = some (C, T, N)) (k : Nat) (hk : k < N) (hlink : Cond.fieldLink own index ref (T k).2.1 (T k).2.2.1 ∈ xU) (hsame : ref = (T k).1) (hfin : (T k).2.2.2 = false) (hd : parseFieldDescriptor (T k).2.2.1 = some ty) (hn : narrow ty v = v) (hfit : fits ty v = true) (hl : k < fs.length) (hdg : decode cc pc = .ok (.putfield index, 3)) (hset : (w M).set i (a, .inr (ci, fs.set k v)) = w M1)
    (kk : ∀ (H1 : Heap) (locs1 : List Loc), kI w D A s M1 H1 locs1 → W p l e R s m args below meth c H1 locs1 cells slots Q (F0 m (pc + 3) ls rest)) : W p l e R s m args below meth c H locs cells slots Q (F0 m pc ls (v :: .ref a :: rest)) := by
  obtain ⟨hx, hb, hml, hown, hts, hK, hE, hA⟩ := X
  refine va_put (D := D) (C := C) (T := T) (N := N) hx hb hts hin ty0 hty hnm hown hK I.1 I.2.1 I.2.2 i he hc k hk (hts _ hlink) (fun _ h => by rw [hsame]; exact h) hfin hd hn hfit hl hdg (fun H1 locs1 hP hD hS => ?_)
  rw [hset] at hP hD
  exact kk H1 locs1 ⟨hP, hD, hS⟩
def xld (n : Nat) (f : Nat → Int32) (i : Int32) : Option Int32 := if i < 0 ∨ n ≤ i.toNatClampNeg then none else some (f i.toNatClampNeg)
def xst (n : Nat) (f : Nat → Int32) (i x : Int32) : Option (Nat → Int32) := if i < 0 ∨ n ≤ i.toNatClampNeg then none else some (upd f i.toNatClampNeg x)
theorem k_ald {a n : Nat} {f : Nat → Int32} {i r : Int32} (X : kX D aI t p s m args c cc own nL A) (I : kI w D A s M H locs) (hf : xld n f i = some r) (k : Nat) (he : (w M)[k]? = some (a, .inl (aI, n, .inl f))) (hdg : decode cc pc = .ok (.iaload, 1))
    (kk : W p l e R s m args below meth c H locs cells slots Q (F0 m (pc + 1) ls (.int r :: rest))) : W p l e R s m args below meth c H locs cells slots Q (F0 m pc ls (.int i :: .ref a :: rest)) := by
  unfold xld at hf
  split at hf
  · cases hf
  · rename_i h
    cases hf
    exact va_iald X.1 X.2.1 X.2.2.2.2.2.1 I.1 k 0 he rfl h hdg kk
theorem k_ast {a n : Nat} {f f1 : Nat → Int32} {i x : Int32} (X : kX D aI t p s m args c cc own nL A) (I : kI w D A s M H locs) (hf : xst n f i x = some f1) (k : Nat) (he : (w M)[k]? = some (a, .inl (aI, n, .inl f))) (hdg : decode cc pc = .ok (.iastore, 1)) (hset : (w M).set k (a, .inl (aI, n, .inl f1)) = w M1)
    (kk : ∀ (H1 : Heap) (locs1 : List Loc), kI w D A s M1 H1 locs1 → W p l e R s m args below meth c H1 locs1 cells slots Q (F0 m (pc + 1) ls rest)) : W p l e R s m args below meth c H locs cells slots Q (F0 m pc ls (.int x :: .int i :: .ref a :: rest)) := by
  unfold xst at hf
  split at hf
  · cases hf
  · rename_i h
    cases hf
    refine va_iast X.1 X.2.1 X.2.2.2.2.2.1 I.1 I.2.1 I.2.2 k 0 he rfl h hdg (fun H1 locs1 hP hD hS => ?_)
    rw [hset] at hP hD
    exact kk H1 locs1 ⟨hP, hD, hS⟩
theorem k_alen {a n : Nat} {f : Nat → Int32} (X : kX D aI t p s m args c cc own nL A) (I : kI w D A s M H locs) (k : Nat) (he : (w M)[k]? = some (a, .inl (aI, n, .inl f))) (hdg : decode cc pc = .ok (.arraylength, 1))
    (kk : W p l e R s m args below meth c H locs cells slots Q (F0 m (pc + 1) ls (.int (nI n) :: rest))) : W p l e R s m args below meth c H locs cells slots Q (F0 m pc ls (.ref a :: rest)) :=
  va_alen X.1 X.2.1 X.2.2.2.2.2.1 I.1 k 0 he rfl rfl hdg kk
theorem k_gets {C n d ref : String} {v : Value} {index : Nat} (X : kX D aI t p s m args c cc own nL A) (I : kI w D A s M H locs) (hZ : va_Z C n d v A s s.heap) (hlink : Cond.fieldLink own index ref n d ∈ xU) (hsame : ref = C) (hdg : decode cc pc = .ok (.getstatic index, 3))
    (kk : W p l e R s m args below meth c H locs cells slots Q (F0 m (pc + 3) ls (v :: rest))) : W p l e R s m args below meth c H locs cells slots Q (F0 m pc ls rest) :=
  va_gets X.1 X.2.1 hZ I.2.2 X.2.2.2.1 (X.2.2.2.2.1 _ hlink) (fun _ h => by rw [hsame]; exact h) hdg kk
theorem k_getsN {C n d ref host : String} {v : Value} {index : Nat} (X : kX D aI t p s m args c cc own nL A) (I : kI w D A s M H locs) (hZ : va_Z C n d v A s s.heap) (hlink : Cond.fieldLinkNest own index ref n d host ∈ cNest) (hsame : ref = C) (hdg : decode cc pc = .ok (.getstatic index, 3))
    (kk : W p l e R s m args below meth c H locs cells slots Q (F0 m (pc + 3) ls (v :: rest))) : W p l e R s m args below meth c H locs cells slots Q (F0 m pc ls rest) :=
  va_getsN X.1 X.2.1 hZ I.2.2 X.2.2.2.1 (va_Nw.use rfl (X.2.2.2.2.2.2.1.1 _ hlink)) (fun _ h => by rw [hsame]; exact h) hdg kk
end KW
/-! numbers -/
def xdv (x y : Int32) : Option Int32 := if y = 0 then none else some (x / y)
def xrm (x y : Int32) : Option Int32 := if y = 0 then none else some (x - x / y * y)
def xlr (x y : Int64) : Option Int64 := if y = 0 then none else some (x - x / y * y)
theorem xdv_ne {x y r : Int32} (h : xdv x y = some r) : ¬ y = 0 ∧ x / y = r := by
  unfold xdv at h
  split at h
  · cases h
  · exact ⟨by assumption, Option.some.inj h⟩
theorem xrm_ne {x y r : Int32} (h : xrm x y = some r) : ¬ y = 0 ∧ x - x / y * y = r := by
  unfold xrm at h
  split at h
  · cases h
  · exact ⟨by assumption, Option.some.inj h⟩
theorem xlr_ne {x y r : Int64} (h : xlr x y = some r) : ¬ y = 0 ∧ x - x / y * y = r := by
  unfold xlr at h
  split at h
  · cases h
  · exact ⟨by assumption, Option.some.inj h⟩
/-- a switch that goes to its default -/
theorem sw_out {x : Int32} {lo hi : Int} (h : ∀ k : Int, lo ≤ k → k ≤ hi → ¬ x.toInt = k) : x.toInt < lo ∨ hi < x.toInt := by
  by_cases h1 : x.toInt < lo
  · exact Or.inl h1
  · by_cases h2 : hi < x.toInt
    · exact Or.inr h2
    · exact absurd rfl (h x.toInt (by omega) (by omega))
