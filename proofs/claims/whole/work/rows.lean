section
-- ===== PART A: goes FIRST, ahead of the names: the tables' words, and 'selects' of the private methods out of them =====
/-- a private method of a class that the tables say can be made, by its rows of tables_1 -/
def lw_okq (q : MethodName × Nat) : Prop := (q.1.cls ≠ "java/lang/invoke/MethodHandle" ∧ q.1.cls ≠ "java/lang/invoke/VarHandle") ∧ Cond.instantiable q.1.cls q.2 ∈ tables_1 ∧ Cond.privateMethod q.1 ∈ tables_1 ∧ Cond.instanceMethod q.1 ∈ tables_1
theorem lw_p0 : lw_okq (⟨"LostTent$Register", "takeAllBack", "()V"⟩, 9) := ⟨⟨by decide +kernel, by decide +kernel⟩, List.mem_of_getElem? (i := 44) (by decide +kernel), List.mem_of_getElem? (i := 54) (by decide +kernel), List.mem_of_getElem? (i := 55) (by decide +kernel)⟩
theorem lw_p1 : lw_okq (⟨"LostTent$Page", "firstClaimer", "()I"⟩, 2) := ⟨⟨by decide +kernel, by decide +kernel⟩, List.mem_of_getElem? (i := 24) (by decide +kernel), List.mem_of_getElem? (i := 194) (by decide +kernel), List.mem_of_getElem? (i := 195) (by decide +kernel)⟩
theorem lw_p2 : lw_okq (⟨"LostTent$Tent", "wrongIfLostIn", "(III)I"⟩, 7) := ⟨⟨by decide +kernel, by decide +kernel⟩, List.mem_of_getElem? (i := 38) (by decide +kernel), List.mem_of_getElem? (i := 385) (by decide +kernel), List.mem_of_getElem? (i := 386) (by decide +kernel)⟩
theorem lw_p3 : lw_okq (⟨"LostTent$Tent", "yearsFitting", "(II)I"⟩, 7) := ⟨⟨by decide +kernel, by decide +kernel⟩, List.mem_of_getElem? (i := 38) (by decide +kernel), List.mem_of_getElem? (i := 427) (by decide +kernel), List.mem_of_getElem? (i := 428) (by decide +kernel)⟩
theorem lw_p4 : lw_okq (⟨"LostTent$Tent", "mostAlike", "(II)I"⟩, 7) := ⟨⟨by decide +kernel, by decide +kernel⟩, List.mem_of_getElem? (i := 38) (by decide +kernel), List.mem_of_getElem? (i := 473) (by decide +kernel), List.mem_of_getElem? (i := 474) (by decide +kernel)⟩
theorem lw_p5 : lw_okq (⟨"LostTent$Tent", "howManyAlike", "(III)I"⟩, 7) := ⟨⟨by decide +kernel, by decide +kernel⟩, List.mem_of_getElem? (i := 38) (by decide +kernel), List.mem_of_getElem? (i := 480) (by decide +kernel), List.mem_of_getElem? (i := 481) (by decide +kernel)⟩
theorem lw_p6 : lw_okq (⟨"LostTent$Matching", "setPrices", "(LLostTent$Tent;)V"⟩, 5) := ⟨⟨by decide +kernel, by decide +kernel⟩, List.mem_of_getElem? (i := 111) (by decide +kernel), List.mem_of_getElem? (i := 560) (by decide +kernel), List.mem_of_getElem? (i := 561) (by decide +kernel)⟩
theorem lw_p7 : lw_okq (⟨"LostTent$Matching", "may", "(II)Z"⟩, 5) := ⟨⟨by decide +kernel, by decide +kernel⟩, List.mem_of_getElem? (i := 111) (by decide +kernel), List.mem_of_getElem? (i := 573) (by decide +kernel), List.mem_of_getElem? (i := 574) (by decide +kernel)⟩
theorem lw_p8 : lw_okq (⟨"LostTent$Matching", "price", "(II)I"⟩, 5) := ⟨⟨by decide +kernel, by decide +kernel⟩, List.mem_of_getElem? (i := 111) (by decide +kernel), List.mem_of_getElem? (i := 577) (by decide +kernel), List.mem_of_getElem? (i := 578) (by decide +kernel)⟩
theorem lw_p9 : lw_okq (⟨"LostTent$Matching", "keepIfBetter", "(III)V"⟩, 5) := ⟨⟨by decide +kernel, by decide +kernel⟩, List.mem_of_getElem? (i := 111) (by decide +kernel), List.mem_of_getElem? (i := 585) (by decide +kernel), List.mem_of_getElem? (i := 586) (by decide +kernel)⟩
theorem lw_p10 : lw_okq (⟨"LostTent$Matching", "priceIfGiven", "(II)I"⟩, 5) := ⟨⟨by decide +kernel, by decide +kernel⟩, List.mem_of_getElem? (i := 111) (by decide +kernel), List.mem_of_getElem? (i := 592) (by decide +kernel), List.mem_of_getElem? (i := 593) (by decide +kernel)⟩
theorem lw_p11 : lw_okq (⟨"LostTent$Visits", "draw", "(I)I"⟩, 3) := ⟨⟨by decide +kernel, by decide +kernel⟩, List.mem_of_getElem? (i := 133) (by decide +kernel), List.mem_of_getElem? (i := 626) (by decide +kernel), List.mem_of_getElem? (i := 627) (by decide +kernel)⟩
theorem lw_p12 : lw_okq (⟨"LostTent$Visits", "addIfFit", "(II)V"⟩, 3) := ⟨⟨by decide +kernel, by decide +kernel⟩, List.mem_of_getElem? (i := 133) (by decide +kernel), List.mem_of_getElem? (i := 641) (by decide +kernel), List.mem_of_getElem? (i := 642) (by decide +kernel)⟩
theorem lw_p13 : lw_okq (⟨"LostTentModel", "faultOf", "()I"⟩, 27) := ⟨⟨by decide +kernel, by decide +kernel⟩, List.mem_of_getElem? (i := 714) (by decide +kernel), List.mem_of_getElem? (i := 818) (by decide +kernel), List.mem_of_getElem? (i := 819) (by decide +kernel)⟩
theorem lw_p14 : lw_okq (⟨"LostTentModel", "isGood", "(I)Z"⟩, 27) := ⟨⟨by decide +kernel, by decide +kernel⟩, List.mem_of_getElem? (i := 714) (by decide +kernel), List.mem_of_getElem? (i := 822) (by decide +kernel), List.mem_of_getElem? (i := 823) (by decide +kernel)⟩
theorem lw_p15 : lw_okq (⟨"LostTentModel", "isThing", "(I)Z"⟩, 27) := ⟨⟨by decide +kernel, by decide +kernel⟩, List.mem_of_getElem? (i := 714) (by decide +kernel), List.mem_of_getElem? (i := 840) (by decide +kernel), List.mem_of_getElem? (i := 841) (by decide +kernel)⟩
def lw_privs_1 : List (MethodName × Nat) := [(⟨"LostTent$Register", "takeAllBack", "()V"⟩, 9), (⟨"LostTent$Page", "firstClaimer", "()I"⟩, 2), (⟨"LostTent$Tent", "wrongIfLostIn", "(III)I"⟩, 7), (⟨"LostTent$Tent", "yearsFitting", "(II)I"⟩, 7), (⟨"LostTent$Tent", "mostAlike", "(II)I"⟩, 7), (⟨"LostTent$Tent", "howManyAlike", "(III)I"⟩, 7), (⟨"LostTent$Matching", "setPrices", "(LLostTent$Tent;)V"⟩, 5), (⟨"LostTent$Matching", "may", "(II)Z"⟩, 5), (⟨"LostTent$Matching", "price", "(II)I"⟩, 5), (⟨"LostTent$Matching", "keepIfBetter", "(III)V"⟩, 5), (⟨"LostTent$Matching", "priceIfGiven", "(II)I"⟩, 5), (⟨"LostTent$Visits", "draw", "(I)I"⟩, 3), (⟨"LostTent$Visits", "addIfFit", "(II)V"⟩, 3), (⟨"LostTentModel", "faultOf", "()I"⟩, 27), (⟨"LostTentModel", "isGood", "(I)Z"⟩, 27), (⟨"LostTentModel", "isThing", "(I)Z"⟩, 27)]
theorem lw_r1 : ∀ q ∈ lw_privs_1, lw_okq q := List.forall_mem_cons.mpr ⟨lw_p0, List.forall_mem_cons.mpr ⟨lw_p1, List.forall_mem_cons.mpr ⟨lw_p2, List.forall_mem_cons.mpr ⟨lw_p3, List.forall_mem_cons.mpr ⟨lw_p4, List.forall_mem_cons.mpr ⟨lw_p5, List.forall_mem_cons.mpr ⟨lw_p6, List.forall_mem_cons.mpr ⟨lw_p7, List.forall_mem_cons.mpr ⟨lw_p8, List.forall_mem_cons.mpr ⟨lw_p9, List.forall_mem_cons.mpr ⟨lw_p10, List.forall_mem_cons.mpr ⟨lw_p11, List.forall_mem_cons.mpr ⟨lw_p12, List.forall_mem_cons.mpr ⟨lw_p13, List.forall_mem_cons.mpr ⟨lw_p14, List.forall_mem_cons.mpr ⟨lw_p15, fun _ h => absurd h List.not_mem_nil⟩⟩⟩⟩⟩⟩⟩⟩⟩⟩⟩⟩⟩⟩⟩⟩
theorem lw_p16 : lw_okq (⟨"LostTentModel", "tellThing", "(II)I"⟩, 27) := ⟨⟨by decide +kernel, by decide +kernel⟩, List.mem_of_getElem? (i := 714) (by decide +kernel), List.mem_of_getElem? (i := 844) (by decide +kernel), List.mem_of_getElem? (i := 845) (by decide +kernel)⟩
theorem lw_p17 : lw_okq (⟨"LostTentModel", "claimersOf", "(I)I"⟩, 27) := ⟨⟨by decide +kernel, by decide +kernel⟩, List.mem_of_getElem? (i := 714) (by decide +kernel), List.mem_of_getElem? (i := 848) (by decide +kernel), List.mem_of_getElem? (i := 849) (by decide +kernel)⟩
theorem lw_p18 : lw_okq (⟨"LostTentModel", "fits", "(II)Z"⟩, 27) := ⟨⟨by decide +kernel, by decide +kernel⟩, List.mem_of_getElem? (i := 714) (by decide +kernel), List.mem_of_getElem? (i := 852) (by decide +kernel), List.mem_of_getElem? (i := 853) (by decide +kernel)⟩
theorem lw_p19 : lw_okq (⟨"LostTentModel", "wrongOf", "(II)I"⟩, 27) := ⟨⟨by decide +kernel, by decide +kernel⟩, List.mem_of_getElem? (i := 714) (by decide +kernel), List.mem_of_getElem? (i := 856) (by decide +kernel), List.mem_of_getElem? (i := 857) (by decide +kernel)⟩
theorem lw_p20 : lw_okq (⟨"LostTentModel", "wrongIn", "(III)I"⟩, 27) := ⟨⟨by decide +kernel, by decide +kernel⟩, List.mem_of_getElem? (i := 714) (by decide +kernel), List.mem_of_getElem? (i := 860) (by decide +kernel), List.mem_of_getElem? (i := 861) (by decide +kernel)⟩
theorem lw_p21 : lw_okq (⟨"LostTentModel", "fitsBy", "(II)Z"⟩, 27) := ⟨⟨by decide +kernel, by decide +kernel⟩, List.mem_of_getElem? (i := 714) (by decide +kernel), List.mem_of_getElem? (i := 864) (by decide +kernel), List.mem_of_getElem? (i := 865) (by decide +kernel)⟩
theorem lw_p22 : lw_okq (⟨"LostTentModel", "yearsOf", "(I)I"⟩, 27) := ⟨⟨by decide +kernel, by decide +kernel⟩, List.mem_of_getElem? (i := 714) (by decide +kernel), List.mem_of_getElem? (i := 868) (by decide +kernel), List.mem_of_getElem? (i := 869) (by decide +kernel)⟩
theorem lw_p23 : lw_okq (⟨"LostTentModel", "showOf", "(I)I"⟩, 27) := ⟨⟨by decide +kernel, by decide +kernel⟩, List.mem_of_getElem? (i := 714) (by decide +kernel), List.mem_of_getElem? (i := 872) (by decide +kernel), List.mem_of_getElem? (i := 873) (by decide +kernel)⟩
theorem lw_p24 : lw_okq (⟨"LostTentModel", "isClaimer", "(I)Z"⟩, 27) := ⟨⟨by decide +kernel, by decide +kernel⟩, List.mem_of_getElem? (i := 714) (by decide +kernel), List.mem_of_getElem? (i := 880) (by decide +kernel), List.mem_of_getElem? (i := 881) (by decide +kernel)⟩
theorem lw_p25 : lw_okq (⟨"LostTentModel", "tellClaimer", "(II)I"⟩, 27) := ⟨⟨by decide +kernel, by decide +kernel⟩, List.mem_of_getElem? (i := 714) (by decide +kernel), List.mem_of_getElem? (i := 884) (by decide +kernel), List.mem_of_getElem? (i := 885) (by decide +kernel)⟩
theorem lw_p26 : lw_okq (⟨"LostTentModel", "thingsOf", "(I)I"⟩, 27) := ⟨⟨by decide +kernel, by decide +kernel⟩, List.mem_of_getElem? (i := 714) (by decide +kernel), List.mem_of_getElem? (i := 888) (by decide +kernel), List.mem_of_getElem? (i := 889) (by decide +kernel)⟩
theorem lw_p27 : lw_okq (⟨"LostTentModel", "signOf", "(I)I"⟩, 27) := ⟨⟨by decide +kernel, by decide +kernel⟩, List.mem_of_getElem? (i := 714) (by decide +kernel), List.mem_of_getElem? (i := 892) (by decide +kernel), List.mem_of_getElem? (i := 893) (by decide +kernel)⟩
theorem lw_p28 : lw_okq (⟨"LostTentModel", "lacks", "()Z"⟩, 27) := ⟨⟨by decide +kernel, by decide +kernel⟩, List.mem_of_getElem? (i := 714) (by decide +kernel), List.mem_of_getElem? (i := 922) (by decide +kernel), List.mem_of_getElem? (i := 923) (by decide +kernel)⟩
theorem lw_p29 : lw_okq (⟨"LostTentModel", "givenMany", "()I"⟩, 27) := ⟨⟨by decide +kernel, by decide +kernel⟩, List.mem_of_getElem? (i := 714) (by decide +kernel), List.mem_of_getElem? (i := 926) (by decide +kernel), List.mem_of_getElem? (i := 927) (by decide +kernel)⟩
theorem lw_p30 : lw_okq (⟨"LostTentModel", "matchOf", "(I)I"⟩, 27) := ⟨⟨by decide +kernel, by decide +kernel⟩, List.mem_of_getElem? (i := 714) (by decide +kernel), List.mem_of_getElem? (i := 936) (by decide +kernel), List.mem_of_getElem? (i := 937) (by decide +kernel)⟩
theorem lw_p31 : lw_okq (⟨"LostTentModel", "layRow", "(I)Z"⟩, 27) := ⟨⟨by decide +kernel, by decide +kernel⟩, List.mem_of_getElem? (i := 714) (by decide +kernel), List.mem_of_getElem? (i := 940) (by decide +kernel), List.mem_of_getElem? (i := 941) (by decide +kernel)⟩
def lw_privs_2 : List (MethodName × Nat) := [(⟨"LostTentModel", "tellThing", "(II)I"⟩, 27), (⟨"LostTentModel", "claimersOf", "(I)I"⟩, 27), (⟨"LostTentModel", "fits", "(II)Z"⟩, 27), (⟨"LostTentModel", "wrongOf", "(II)I"⟩, 27), (⟨"LostTentModel", "wrongIn", "(III)I"⟩, 27), (⟨"LostTentModel", "fitsBy", "(II)Z"⟩, 27), (⟨"LostTentModel", "yearsOf", "(I)I"⟩, 27), (⟨"LostTentModel", "showOf", "(I)I"⟩, 27), (⟨"LostTentModel", "isClaimer", "(I)Z"⟩, 27), (⟨"LostTentModel", "tellClaimer", "(II)I"⟩, 27), (⟨"LostTentModel", "thingsOf", "(I)I"⟩, 27), (⟨"LostTentModel", "signOf", "(I)I"⟩, 27), (⟨"LostTentModel", "lacks", "()Z"⟩, 27), (⟨"LostTentModel", "givenMany", "()I"⟩, 27), (⟨"LostTentModel", "matchOf", "(I)I"⟩, 27), (⟨"LostTentModel", "layRow", "(I)Z"⟩, 27)]
theorem lw_r2 : ∀ q ∈ lw_privs_2, lw_okq q := List.forall_mem_cons.mpr ⟨lw_p16, List.forall_mem_cons.mpr ⟨lw_p17, List.forall_mem_cons.mpr ⟨lw_p18, List.forall_mem_cons.mpr ⟨lw_p19, List.forall_mem_cons.mpr ⟨lw_p20, List.forall_mem_cons.mpr ⟨lw_p21, List.forall_mem_cons.mpr ⟨lw_p22, List.forall_mem_cons.mpr ⟨lw_p23, List.forall_mem_cons.mpr ⟨lw_p24, List.forall_mem_cons.mpr ⟨lw_p25, List.forall_mem_cons.mpr ⟨lw_p26, List.forall_mem_cons.mpr ⟨lw_p27, List.forall_mem_cons.mpr ⟨lw_p28, List.forall_mem_cons.mpr ⟨lw_p29, List.forall_mem_cons.mpr ⟨lw_p30, List.forall_mem_cons.mpr ⟨lw_p31, fun _ h => absurd h List.not_mem_nil⟩⟩⟩⟩⟩⟩⟩⟩⟩⟩⟩⟩⟩⟩⟩⟩
theorem lw_p32 : lw_okq (⟨"LostTentModel", "draw", "(I)I"⟩, 27) := ⟨⟨by decide +kernel, by decide +kernel⟩, List.mem_of_getElem? (i := 714) (by decide +kernel), List.mem_of_getElem? (i := 960) (by decide +kernel), List.mem_of_getElem? (i := 961) (by decide +kernel)⟩
theorem lw_p33 : lw_okq (⟨"LostTentModel", "countOf", "(I)I"⟩, 27) := ⟨⟨by decide +kernel, by decide +kernel⟩, List.mem_of_getElem? (i := 714) (by decide +kernel), List.mem_of_getElem? (i := 980) (by decide +kernel), List.mem_of_getElem? (i := 981) (by decide +kernel)⟩
theorem lw_p34 : lw_okq (⟨"LostTentModel", "givenFit", "()I"⟩, 27) := ⟨⟨by decide +kernel, by decide +kernel⟩, List.mem_of_getElem? (i := 714) (by decide +kernel), List.mem_of_getElem? (i := 984) (by decide +kernel), List.mem_of_getElem? (i := 985) (by decide +kernel)⟩
theorem lw_p35 : lw_okq (⟨"LostTentModel", "givenWrong", "()I"⟩, 27) := ⟨⟨by decide +kernel, by decide +kernel⟩, List.mem_of_getElem? (i := 714) (by decide +kernel), List.mem_of_getElem? (i := 988) (by decide +kernel), List.mem_of_getElem? (i := 989) (by decide +kernel)⟩
theorem lw_p36 : lw_okq (⟨"LostTentModel", "say", "(J)V"⟩, 27) := ⟨⟨by decide +kernel, by decide +kernel⟩, List.mem_of_getElem? (i := 714) (by decide +kernel), List.mem_of_getElem? (i := 997) (by decide +kernel), List.mem_of_getElem? (i := 998) (by decide +kernel)⟩
def lw_privs_3 : List (MethodName × Nat) := [(⟨"LostTentModel", "draw", "(I)I"⟩, 27), (⟨"LostTentModel", "countOf", "(I)I"⟩, 27), (⟨"LostTentModel", "givenFit", "()I"⟩, 27), (⟨"LostTentModel", "givenWrong", "()I"⟩, 27), (⟨"LostTentModel", "say", "(J)V"⟩, 27)]
theorem lw_r3 : ∀ q ∈ lw_privs_3, lw_okq q := List.forall_mem_cons.mpr ⟨lw_p32, List.forall_mem_cons.mpr ⟨lw_p33, List.forall_mem_cons.mpr ⟨lw_p34, List.forall_mem_cons.mpr ⟨lw_p35, List.forall_mem_cons.mpr ⟨lw_p36, fun _ h => absurd h List.not_mem_nil⟩⟩⟩⟩⟩
def lw_privs : List (MethodName × Nat) := lw_privs_1 ++ (lw_privs_2 ++ (lw_privs_3))
def lw_tbl : List Cond := k2_sels lw_privs ++ tables_1
theorem lw_privs_ok : ∀ q ∈ lw_privs, lw_okq q := by
  show ∀ q ∈ lw_privs_1 ++ (lw_privs_2 ++ (lw_privs_3)), lw_okq q
  exact List.forall_mem_append.mpr ⟨lw_r1, List.forall_mem_append.mpr ⟨lw_r2, lw_r3⟩⟩
end
section
def RX0 : String := "LostTent$Matching"
def TX0 : u_T := fun k => match k with
  | 0 => ("LostTent$Matching", "prices", "[I", true)
  | 1 => ("LostTent$Matching", "gets", "[I", true)
  | 2 => ("LostTent$Matching", "things", "I", false)
  | 3 => ("LostTent$Matching", "pairs", "I", false)
  | _ => ("LostTent$Matching", "wrongTogether", "I", false)
def tyX0 : Nat → FieldType := fun k => match k with
  | 0 => .array .int
  | 1 => .array .int
  | 2 => .int
  | 3 => .int
  | _ => .int
abbrev wsX00 : List Cond := u_ws RX0 TX0 5
theorem nmX0 : ∀ a, a < 5 → ∀ b, b < 5 → a ≠ b → (TX0 a).2.1 ≠ (TX0 b).2.1 := by decide +kernel
theorem tyX0_ok : ∀ k, k < 5 → parseFieldDescriptor (TX0 k).2.2.1 = some (tyX0 k) := by decide +kernel
abbrev cX0_init : ByteArray := prog_2_method_1_code
def yX0_init : MethodName := ⟨RX0, "<init>", "()V"⟩
abbrev cX0_tell : ByteArray := prog_2_method_2_code
def yX0_tell : MethodName := ⟨RX0, "tell", "(I)I"⟩
abbrev cX0_solve : ByteArray := prog_2_method_3_code
def yX0_solve : MethodName := ⟨RX0, "solve", "(LLostTent$Tent;)V"⟩
abbrev cX0_setPrices : ByteArray := prog_2_method_4_code
def yX0_setPrices : MethodName := ⟨RX0, "setPrices", "(LLostTent$Tent;)V"⟩
abbrev cX0_may : ByteArray := prog_2_method_5_code
def yX0_may : MethodName := ⟨RX0, "may", "(II)Z"⟩
abbrev cX0_price : ByteArray := prog_2_method_6_code
def yX0_price : MethodName := ⟨RX0, "price", "(II)I"⟩
abbrev cX0_isTwice : ByteArray := prog_2_method_7_code
def yX0_isTwice : MethodName := ⟨RX0, "isTwice", "(II)Z"⟩
abbrev cX0_keepIfBetter : ByteArray := prog_2_method_8_code
def yX0_keepIfBetter : MethodName := ⟨RX0, "keepIfBetter", "(III)V"⟩
abbrev cX0_oneIfGiven : ByteArray := prog_2_method_9_code
def yX0_oneIfGiven : MethodName := ⟨RX0, "oneIfGiven", "(I)I"⟩
abbrev cX0_priceIfGiven : ByteArray := prog_2_method_10_code
def yX0_priceIfGiven : MethodName := ⟨RX0, "priceIfGiven", "(II)I"⟩
def RX1 : String := "LostTent$Page"
def TX1 : u_T := fun k => match k with
  | 0 => ("LostTent$Page", "codes", "[I", true)
  | _ => ("LostTent$Page", "length", "I", false)
def tyX1 : Nat → FieldType := fun k => match k with
  | 0 => .array .int
  | _ => .int
abbrev wsX10 : List Cond := u_ws RX1 TX1 2
theorem nmX1 : ∀ a, a < 2 → ∀ b, b < 2 → a ≠ b → (TX1 a).2.1 ≠ (TX1 b).2.1 := by decide +kernel
theorem tyX1_ok : ∀ k, k < 2 → parseFieldDescriptor (TX1 k).2.2.1 = some (tyX1 k) := by decide +kernel
abbrev cX1_init : ByteArray := prog_3_method_1_code
def yX1_init : MethodName := ⟨RX1, "<init>", "()V"⟩
abbrev cX1_length : ByteArray := prog_3_method_2_code
def yX1_length : MethodName := ⟨RX1, "length", "()I"⟩
abbrev cX1_codeAt : ByteArray := prog_3_method_3_code
def yX1_codeAt : MethodName := ⟨RX1, "codeAt", "(I)I"⟩
abbrev cX1_append : ByteArray := prog_3_method_4_code
def yX1_append : MethodName := ⟨RX1, "append", "(I)Z"⟩
abbrev cX1_clear : ByteArray := prog_3_method_5_code
def yX1_clear : MethodName := ⟨RX1, "clear", "()V"⟩
abbrev cX1_firstFault : ByteArray := prog_3_method_6_code
def yX1_firstFault : MethodName := ⟨RX1, "firstFault", "()I"⟩
abbrev cX1_isTent : ByteArray := prog_3_method_7_code
def yX1_isTent : MethodName := ⟨RX1, "isTent", "()Z"⟩
abbrev cX1_things : ByteArray := prog_3_method_8_code
def yX1_things : MethodName := ⟨RX1, "things", "()I"⟩
abbrev cX1_claimers : ByteArray := prog_3_method_9_code
def yX1_claimers : MethodName := ⟨RX1, "claimers", "()I"⟩
abbrev cX1_thingSign : ByteArray := prog_3_method_10_code
def yX1_thingSign : MethodName := ⟨RX1, "thingSign", "(II)I"⟩
abbrev cX1_claimerKind : ByteArray := prog_3_method_11_code
def yX1_claimerKind : MethodName := ⟨RX1, "claimerKind", "(I)I"⟩
abbrev cX1_claimerSign : ByteArray := prog_3_method_12_code
def yX1_claimerSign : MethodName := ⟨RX1, "claimerSign", "(II)I"⟩
abbrev cX1_firstClaimer : ByteArray := prog_3_method_13_code
def yX1_firstClaimer : MethodName := ⟨RX1, "firstClaimer", "()I"⟩
abbrev cX1_isGoodAmongThings : ByteArray := prog_3_method_14_code
def yX1_isGoodAmongThings : MethodName := ⟨RX1, "isGoodAmongThings", "(II)Z"⟩
abbrev cX1_isGoodAmongClaimers : ByteArray := prog_3_method_15_code
def yX1_isGoodAmongClaimers : MethodName := ⟨RX1, "isGoodAmongClaimers", "(II)Z"⟩
abbrev cX1_isSign : ByteArray := prog_3_method_16_code
def yX1_isSign : MethodName := ⟨RX1, "isSign", "(II)Z"⟩
abbrev cX1_kindOfLetter : ByteArray := prog_3_method_17_code
def yX1_kindOfLetter : MethodName := ⟨RX1, "kindOfLetter", "(I)I"⟩
def RX2 : String := "LostTent$Register"
def TX2 : u_T := fun k => match k with
  | 0 => ("LostTent$Register", "holders", "[I", true)
  | 1 => ("LostTent$Register", "memories", "[I", true)
  | 2 => ("LostTent$Register", "seenThings", "[I", true)
  | 3 => ("LostTent$Register", "seenClaimers", "[I", true)
  | 4 => ("LostTent$Register", "seenFitted", "[I", true)
  | 5 => ("LostTent$Register", "seenInAll", "I", false)
  | 6 => ("LostTent$Register", "mondaysOver", "I", false)
  | 7 => ("LostTent$Register", "thingsLeft", "I", false)
  | _ => ("LostTent$Register", "claimersLeft", "I", false)
def tyX2 : Nat → FieldType := fun k => match k with
  | 0 => .array .int
  | 1 => .array .int
  | 2 => .array .int
  | 3 => .array .int
  | 4 => .array .int
  | 5 => .int
  | 6 => .int
  | 7 => .int
  | _ => .int
abbrev wsX20 : List Cond := u_ws RX2 TX2 9
theorem nmX2 : ∀ a, a < 9 → ∀ b, b < 9 → a ≠ b → (TX2 a).2.1 ≠ (TX2 b).2.1 := by decide +kernel
theorem tyX2_ok : ∀ k, k < 9 → parseFieldDescriptor (TX2 k).2.2.1 = some (tyX2 k) := by decide +kernel
abbrev cX2_init : ByteArray := prog_4_method_1_code
def yX2_init : MethodName := ⟨RX2, "<init>", "()V"⟩
abbrev cX2_begin : ByteArray := prog_4_method_2_code
def yX2_begin : MethodName := ⟨RX2, "begin", "()V"⟩
abbrev cX2_copyFrom : ByteArray := prog_4_method_3_code
def yX2_copyFrom : MethodName := ⟨RX2, "copyFrom", "(LLostTent$Register;)V"⟩
abbrev cX2_holderOf : ByteArray := prog_4_method_4_code
def yX2_holderOf : MethodName := ⟨RX2, "holderOf", "(I)I"⟩
abbrev cX2_thingOf : ByteArray := prog_4_method_5_code
def yX2_thingOf : MethodName := ⟨RX2, "thingOf", "(I)I"⟩
abbrev cX2_hand : ByteArray := prog_4_method_6_code
def yX2_hand : MethodName := ⟨RX2, "hand", "(II)V"⟩
abbrev cX2_memoryOf : ByteArray := prog_4_method_7_code
def yX2_memoryOf : MethodName := ⟨RX2, "memoryOf", "(II)I"⟩
abbrev cX2_setMemory : ByteArray := prog_4_method_8_code
def yX2_setMemory : MethodName := ⟨RX2, "setMemory", "(III)V"⟩
abbrev cX2_endMonday : ByteArray := prog_4_method_9_code
def yX2_endMonday : MethodName := ⟨RX2, "endMonday", "(II)V"⟩
abbrev cX2_mondaysOver : ByteArray := prog_4_method_10_code
def yX2_mondaysOver : MethodName := ⟨RX2, "mondaysOver", "()I"⟩
abbrev cX2_thingsLeft : ByteArray := prog_4_method_11_code
def yX2_thingsLeft : MethodName := ⟨RX2, "thingsLeft", "()I"⟩
abbrev cX2_claimersLeft : ByteArray := prog_4_method_12_code
def yX2_claimersLeft : MethodName := ⟨RX2, "claimersLeft", "()I"⟩
abbrev cX2_noteSeen : ByteArray := prog_4_method_13_code
def yX2_noteSeen : MethodName := ⟨RX2, "noteSeen", "(IIZ)Z"⟩
abbrev cX2_clearSeen : ByteArray := prog_4_method_14_code
def yX2_clearSeen : MethodName := ⟨RX2, "clearSeen", "()V"⟩
abbrev cX2_seenInAll : ByteArray := prog_4_method_15_code
def yX2_seenInAll : MethodName := ⟨RX2, "seenInAll", "()I"⟩
abbrev cX2_seenThing : ByteArray := prog_4_method_16_code
def yX2_seenThing : MethodName := ⟨RX2, "seenThing", "(I)I"⟩
abbrev cX2_seenClaimer : ByteArray := prog_4_method_17_code
def yX2_seenClaimer : MethodName := ⟨RX2, "seenClaimer", "(I)I"⟩
abbrev cX2_seenFitted : ByteArray := prog_4_method_18_code
def yX2_seenFitted : MethodName := ⟨RX2, "seenFitted", "(I)Z"⟩
abbrev cX2_takeAllBack : ByteArray := prog_4_method_19_code
def yX2_takeAllBack : MethodName := ⟨RX2, "takeAllBack", "()V"⟩
def RX3 : String := "LostTent$Tent"
def TX3 : u_T := fun k => match k with
  | 0 => ("LostTent$Tent", "thingSigns", "[I", true)
  | 1 => ("LostTent$Tent", "kinds", "[I", true)
  | 2 => ("LostTent$Tent", "register", "LLostTent$Register;", true)
  | 3 => ("LostTent$Tent", "image", "LLostTent$Register;", true)
  | 4 => ("LostTent$Tent", "things", "I", false)
  | 5 => ("LostTent$Tent", "claimers", "I", false)
  | _ => ("LostTent$Tent", "imageKept", "Z", false)
def tyX3 : Nat → FieldType := fun k => match k with
  | 0 => .array .int
  | 1 => .array .int
  | 2 => .object "LostTent$Register"
  | 3 => .object "LostTent$Register"
  | 4 => .int
  | 5 => .int
  | _ => .boolean
abbrev wsX30 : List Cond := u_ws RX3 TX3 7
theorem nmX3 : ∀ a, a < 7 → ∀ b, b < 7 → a ≠ b → (TX3 a).2.1 ≠ (TX3 b).2.1 := by decide +kernel
theorem tyX3_ok : ∀ k, k < 7 → parseFieldDescriptor (TX3 k).2.2.1 = some (tyX3 k) := by decide +kernel
abbrev cX3_init : ByteArray := prog_5_method_1_code
def yX3_init : MethodName := ⟨RX3, "<init>", "()V"⟩
abbrev cX3_readFrom : ByteArray := prog_5_method_2_code
def yX3_readFrom : MethodName := ⟨RX3, "readFrom", "(LLostTent$Page;)V"⟩
abbrev cX3_stands : ByteArray := prog_5_method_3_code
def yX3_stands : MethodName := ⟨RX3, "stands", "()Z"⟩
abbrev cX3_things : ByteArray := prog_5_method_4_code
def yX3_things : MethodName := ⟨RX3, "things", "()I"⟩
abbrev cX3_claimers : ByteArray := prog_5_method_5_code
def yX3_claimers : MethodName := ⟨RX3, "claimers", "()I"⟩
abbrev cX3_hasThing : ByteArray := prog_5_method_6_code
def yX3_hasThing : MethodName := ⟨RX3, "hasThing", "(I)Z"⟩
abbrev cX3_hasClaimer : ByteArray := prog_5_method_7_code
def yX3_hasClaimer : MethodName := ⟨RX3, "hasClaimer", "(I)Z"⟩
abbrev cX3_hasBoth : ByteArray := prog_5_method_8_code
def yX3_hasBoth : MethodName := ⟨RX3, "hasBoth", "(II)Z"⟩
abbrev cX3_register : ByteArray := prog_5_method_9_code
def yX3_register : MethodName := ⟨RX3, "register", "()LLostTent$Register;"⟩
abbrev cX3_keepImage : ByteArray := prog_5_method_10_code
def yX3_keepImage : MethodName := ⟨RX3, "keepImage", "()V"⟩
abbrev cX3_hasImage : ByteArray := prog_5_method_11_code
def yX3_hasImage : MethodName := ⟨RX3, "hasImage", "()Z"⟩
abbrev cX3_goOnFromImage : ByteArray := prog_5_method_12_code
def yX3_goOnFromImage : MethodName := ⟨RX3, "goOnFromImage", "()V"⟩
abbrev cX3_signOf : ByteArray := prog_5_method_13_code
def yX3_signOf : MethodName := ⟨RX3, "signOf", "(II)I"⟩
abbrev cX3_kindOf : ByteArray := prog_5_method_14_code
def yX3_kindOf : MethodName := ⟨RX3, "kindOf", "(I)I"⟩
abbrev cX3_wrongOf : ByteArray := prog_5_method_15_code
def yX3_wrongOf : MethodName := ⟨RX3, "wrongOf", "(II)I"⟩
abbrev cX3_fits : ByteArray := prog_5_method_16_code
def yX3_fits : MethodName := ⟨RX3, "fits", "(II)Z"⟩
abbrev cX3_claimersFitted : ByteArray := prog_5_method_17_code
def yX3_claimersFitted : MethodName := ⟨RX3, "claimersFitted", "(I)I"⟩
abbrev cX3_thingsFitting : ByteArray := prog_5_method_18_code
def yX3_thingsFitting : MethodName := ⟨RX3, "thingsFitting", "(I)I"⟩
abbrev cX3_thingsNotGiven : ByteArray := prog_5_method_19_code
def yX3_thingsNotGiven : MethodName := ⟨RX3, "thingsNotGiven", "()I"⟩
abbrev cX3_given : ByteArray := prog_5_method_20_code
def yX3_given : MethodName := ⟨RX3, "given", "()I"⟩
abbrev cX3_givenThatFit : ByteArray := prog_5_method_21_code
def yX3_givenThatFit : MethodName := ⟨RX3, "givenThatFit", "()I"⟩
abbrev cX3_givenWrong : ByteArray := prog_5_method_22_code
def yX3_givenWrong : MethodName := ⟨RX3, "givenWrong", "()I"⟩
abbrev cX3_signToAsk : ByteArray := prog_5_method_23_code
def yX3_signToAsk : MethodName := ⟨RX3, "signToAsk", "(I)I"⟩
abbrev cX3_mostAlike : ByteArray := prog_5_method_24_code
def yX3_mostAlike : MethodName := ⟨RX3, "mostAlike", "(II)I"⟩
abbrev cX3_howManyAlike : ByteArray := prog_5_method_25_code
def yX3_howManyAlike : MethodName := ⟨RX3, "howManyAlike", "(III)I"⟩
abbrev cX3_yearsOf : ByteArray := prog_5_method_26_code
def yX3_yearsOf : MethodName := ⟨RX3, "yearsOf", "(I)I"⟩
abbrev cX3_claimerToShow : ByteArray := prog_5_method_27_code
def yX3_claimerToShow : MethodName := ⟨RX3, "claimerToShow", "(II)I"⟩
abbrev cX3_yearsFitting : ByteArray := prog_5_method_28_code
def yX3_yearsFitting : MethodName := ⟨RX3, "yearsFitting", "(II)I"⟩
abbrev cX3_wrongIfLostIn : ByteArray := prog_5_method_29_code
def yX3_wrongIfLostIn : MethodName := ⟨RX3, "wrongIfLostIn", "(III)I"⟩
def RX4 : String := "LostTent$Visits"
def TX4 : u_T := fun k => match k with
  | 0 => ("LostTent$Visits", "seed", "J", false)
  | 1 => ("LostTent$Visits", "fitting", "I", false)
  | _ => ("LostTent$Visits", "wrongTogether", "I", false)
def tyX4 : Nat → FieldType := fun k => match k with
  | 0 => .long
  | 1 => .int
  | _ => .int
abbrev wsX40 : List Cond := u_ws RX4 TX4 3
theorem nmX4 : ∀ a, a < 3 → ∀ b, b < 3 → a ≠ b → (TX4 a).2.1 ≠ (TX4 b).2.1 := by decide +kernel
theorem tyX4_ok : ∀ k, k < 3 → parseFieldDescriptor (TX4 k).2.2.1 = some (tyX4 k) := by decide +kernel
abbrev cX4_init : ByteArray := prog_6_method_1_code
def yX4_init : MethodName := ⟨RX4, "<init>", "()V"⟩
abbrev cX4_tell : ByteArray := prog_6_method_2_code
def yX4_tell : MethodName := ⟨RX4, "tell", "(I)I"⟩
abbrev cX4_play : ByteArray := prog_6_method_3_code
def yX4_play : MethodName := ⟨RX4, "play", "(LLostTent$Tent;II)V"⟩
abbrev cX4_addIfFit : ByteArray := prog_6_method_4_code
def yX4_addIfFit : MethodName := ⟨RX4, "addIfFit", "(II)V"⟩
abbrev cX4_draw : ByteArray := prog_6_method_5_code
def yX4_draw : MethodName := ⟨RX4, "draw", "(I)I"⟩
def RX5 : String := "LostTent"
def TX5 : u_T := fun k => match k with
  | 0 => ("LostTent", "page", "LLostTent$Page;", true)
  | 1 => ("LostTent", "pitched", "LLostTent$Tent;", true)
  | 2 => ("LostTent", "matching", "LLostTent$Matching;", true)
  | 3 => ("LostTent", "visits", "LLostTent$Visits;", true)
  | _ => ("LostTent", "tentsRead", "I", false)
def tyX5 : Nat → FieldType := fun k => match k with
  | 0 => .object "LostTent$Page"
  | 1 => .object "LostTent$Tent"
  | 2 => .object "LostTent$Matching"
  | 3 => .object "LostTent$Visits"
  | _ => .int
abbrev wsX50 : List Cond := u_ws RX5 TX5 5
theorem nmX5 : ∀ a, a < 5 → ∀ b, b < 5 → a ≠ b → (TX5 a).2.1 ≠ (TX5 b).2.1 := by decide +kernel
theorem tyX5_ok : ∀ k, k < 5 → parseFieldDescriptor (TX5 k).2.2.1 = some (tyX5 k) := by decide +kernel
abbrev cX5_init : ByteArray := prog_1_method_1_code
def yX5_init : MethodName := ⟨RX5, "<init>", "()V"⟩
abbrev cX5_letter : ByteArray := prog_1_method_2_code
def yX5_letter : MethodName := ⟨RX5, "letter", "(I)I"⟩
abbrev cX5_blank : ByteArray := prog_1_method_3_code
def yX5_blank : MethodName := ⟨RX5, "blank", "()I"⟩
abbrev cX5_fault : ByteArray := prog_1_method_4_code
def yX5_fault : MethodName := ⟨RX5, "fault", "()I"⟩
abbrev cX5_tent : ByteArray := prog_1_method_5_code
def yX5_tent : MethodName := ⟨RX5, "tent", "()I"⟩
abbrev cX5_thing : ByteArray := prog_1_method_6_code
def yX5_thing : MethodName := ⟨RX5, "thing", "(II)I"⟩
abbrev cX5_claimer : ByteArray := prog_1_method_7_code
def yX5_claimer : MethodName := ⟨RX5, "claimer", "(II)I"⟩
abbrev cX5_as : ByteArray := prog_1_method_8_code
def yX5_as : MethodName := ⟨RX5, "as", "(II)I"⟩
abbrev cX5_wrong : ByteArray := prog_1_method_9_code
def yX5_wrong : MethodName := ⟨RX5, "wrong", "(II)I"⟩
abbrev cX5_give : ByteArray := prog_1_method_10_code
def yX5_give : MethodName := ⟨RX5, "give", "(II)I"⟩
abbrev cX5_back : ByteArray := prog_1_method_11_code
def yX5_back : MethodName := ⟨RX5, "back", "(I)I"⟩
abbrev cX5_remember : ByteArray := prog_1_method_12_code
def yX5_remember : MethodName := ⟨RX5, "remember", "(III)I"⟩
abbrev cX5_six : ByteArray := prog_1_method_13_code
def yX5_six : MethodName := ⟨RX5, "six", "()I"⟩
abbrev cX5_match : ByteArray := prog_1_method_14_code
def yX5_match : MethodName := ⟨RX5, "match", "(I)I"⟩
abbrev cX5_see : ByteArray := prog_1_method_15_code
def yX5_see : MethodName := ⟨RX5, "see", "(IIZ)I"⟩
abbrev cX5_forget : ByteArray := prog_1_method_16_code
def yX5_forget : MethodName := ⟨RX5, "forget", "()I"⟩
abbrev cX5_mondays : ByteArray := prog_1_method_17_code
def yX5_mondays : MethodName := ⟨RX5, "mondays", "(III)I"⟩
abbrev cX5_image : ByteArray := prog_1_method_18_code
def yX5_image : MethodName := ⟨RX5, "image", "()I"⟩
abbrev cX5_restore : ByteArray := prog_1_method_19_code
def yX5_restore : MethodName := ⟨RX5, "restore", "()I"⟩
abbrev cX5_count : ByteArray := prog_1_method_20_code
def yX5_count : MethodName := ⟨RX5, "count", "(I)I"⟩
abbrev cX5_digest : ByteArray := prog_1_method_21_code
def yX5_digest : MethodName := ⟨RX5, "digest", "()J"⟩
abbrev cX5_mixed : ByteArray := prog_1_method_22_code
def yX5_mixed : MethodName := ⟨RX5, "mixed", "(JI)J"⟩
abbrev cX5_isMatchQuestion : ByteArray := prog_1_method_23_code
def yX5_isMatchQuestion : MethodName := ⟨RX5, "isMatchQuestion", "(I)Z"⟩
abbrev cX5_isKind : ByteArray := prog_1_method_24_code
def yX5_isKind : MethodName := ⟨RX5, "isKind", "(II)Z"⟩
abbrev cX5_wrongBy : ByteArray := prog_1_method_25_code
def yX5_wrongBy : MethodName := ⟨RX5, "wrongBy", "(IIZZ)I"⟩
abbrev cX5_isFit : ByteArray := prog_1_method_26_code
def yX5_isFit : MethodName := ⟨RX5, "isFit", "(II)Z"⟩
abbrev cX5_isBelow : ByteArray := prog_1_method_27_code
def yX5_isBelow : MethodName := ⟨RX5, "isBelow", "(II)Z"⟩
abbrev cX5_isIn : ByteArray := prog_1_method_28_code
def yX5_isIn : MethodName := ⟨RX5, "isIn", "(II)Z"⟩
abbrev cX5_entry : ByteArray := prog_1_method_29_code
def yX5_entry : MethodName := ⟨RX5, "entry", "([II)I"⟩
abbrev cX5_put : ByteArray := prog_1_method_30_code
def yX5_put : MethodName := ⟨RX5, "put", "([III)V"⟩
abbrev cX5_copy : ByteArray := prog_1_method_31_code
def yX5_copy : MethodName := ⟨RX5, "copy", "([I[I)V"⟩
def RX6 : String := "LostTentModel"
def TX6 : u_T := fun k => match k with
  | 0 => ("LostTentModel", "page", "[I", true)
  | 1 => ("LostTentModel", "pageMany", "I", false)
  | 2 => ("LostTentModel", "endAt", "I", false)
  | 3 => ("LostTentModel", "things", "I", false)
  | 4 => ("LostTentModel", "claimers", "I", false)
  | 5 => ("LostTentModel", "mondaysNow", "I", false)
  | 6 => ("LostTentModel", "leftThings", "I", false)
  | 7 => ("LostTentModel", "leftClaimers", "I", false)
  | 8 => ("LostTentModel", "tentsRead", "I", false)
  | 9 => ("LostTentModel", "lots", "[I", true)
  | 10 => ("LostTentModel", "rows", "[I", true)
  | 11 => ("LostTentModel", "parts", "[I", true)
  | 12 => ("LostTentModel", "row", "[I", true)
  | 13 => ("LostTentModel", "bestRow", "[I", true)
  | 14 => ("LostTentModel", "seenMany", "I", false)
  | 15 => ("LostTentModel", "sights", "[I", true)
  | 16 => ("LostTentModel", "seedNow", "I", false)
  | 17 => ("LostTentModel", "savedRows", "[I", true)
  | 18 => ("LostTentModel", "keptTent", "I", false)
  | 19 => ("LostTentModel", "keptMondays", "I", false)
  | 20 => ("LostTentModel", "keptThings", "I", false)
  | 21 => ("LostTentModel", "keptClaimers", "I", false)
  | 22 => ("LostTentModel", "keptSeen", "I", false)
  | 23 => ("LostTentModel", "keptLots", "[I", true)
  | 24 => ("LostTentModel", "keptRows", "[I", true)
  | 25 => ("LostTentModel", "keptSights", "[I", true)
  | _ => ("LostTentModel", "hash", "J", false)
def tyX6 : Nat → FieldType := fun k => match k with
  | 0 => .array .int
  | 1 => .int
  | 2 => .int
  | 3 => .int
  | 4 => .int
  | 5 => .int
  | 6 => .int
  | 7 => .int
  | 8 => .int
  | 9 => .array .int
  | 10 => .array .int
  | 11 => .array .int
  | 12 => .array .int
  | 13 => .array .int
  | 14 => .int
  | 15 => .array .int
  | 16 => .int
  | 17 => .array .int
  | 18 => .int
  | 19 => .int
  | 20 => .int
  | 21 => .int
  | 22 => .int
  | 23 => .array .int
  | 24 => .array .int
  | 25 => .array .int
  | _ => .long
abbrev wsX60 : List Cond := u_ws RX6 TX6 27
theorem nmX6 : ∀ a, a < 27 → ∀ b, b < 27 → a ≠ b → (TX6 a).2.1 ≠ (TX6 b).2.1 := by decide +kernel
theorem tyX6_ok : ∀ k, k < 27 → parseFieldDescriptor (TX6 k).2.2.1 = some (tyX6 k) := by decide +kernel
abbrev cX6_init : ByteArray := prog_8_method_1_code
def yX6_init : MethodName := ⟨RX6, "<init>", "()V"⟩
abbrev cX6_in : ByteArray := prog_8_method_2_code
def yX6_in : MethodName := ⟨RX6, "in", "(JJJ)Z"⟩
abbrev cX6_copy : ByteArray := prog_8_method_3_code
def yX6_copy : MethodName := ⟨RX6, "copy", "([I[I)V"⟩
abbrev cX6_letter : ByteArray := prog_8_method_4_code
def yX6_letter : MethodName := ⟨RX6, "letter", "(I)I"⟩
abbrev cX6_blank : ByteArray := prog_8_method_5_code
def yX6_blank : MethodName := ⟨RX6, "blank", "()I"⟩
abbrev cX6_kindBy : ByteArray := prog_8_method_6_code
def yX6_kindBy : MethodName := ⟨RX6, "kindBy", "(I)I"⟩
abbrev cX6_mostOf : ByteArray := prog_8_method_7_code
def yX6_mostOf : MethodName := ⟨RX6, "mostOf", "(I)I"⟩
abbrev cX6_isGood : ByteArray := prog_8_method_8_code
def yX6_isGood : MethodName := ⟨RX6, "isGood", "(I)Z"⟩
abbrev cX6_faultOf : ByteArray := prog_8_method_9_code
def yX6_faultOf : MethodName := ⟨RX6, "faultOf", "()I"⟩
abbrev cX6_fault : ByteArray := prog_8_method_10_code
def yX6_fault : MethodName := ⟨RX6, "fault", "()I"⟩
abbrev cX6_tent : ByteArray := prog_8_method_11_code
def yX6_tent : MethodName := ⟨RX6, "tent", "()I"⟩
abbrev cX6_lacks : ByteArray := prog_8_method_12_code
def yX6_lacks : MethodName := ⟨RX6, "lacks", "()Z"⟩
abbrev cX6_isThing : ByteArray := prog_8_method_13_code
def yX6_isThing : MethodName := ⟨RX6, "isThing", "(I)Z"⟩
abbrev cX6_isClaimer : ByteArray := prog_8_method_14_code
def yX6_isClaimer : MethodName := ⟨RX6, "isClaimer", "(I)Z"⟩
abbrev cX6_wrongIn : ByteArray := prog_8_method_15_code
def yX6_wrongIn : MethodName := ⟨RX6, "wrongIn", "(III)I"⟩
abbrev cX6_wrongOf : ByteArray := prog_8_method_16_code
def yX6_wrongOf : MethodName := ⟨RX6, "wrongOf", "(II)I"⟩
abbrev cX6_fitsBy : ByteArray := prog_8_method_17_code
def yX6_fitsBy : MethodName := ⟨RX6, "fitsBy", "(II)Z"⟩
abbrev cX6_fits : ByteArray := prog_8_method_18_code
def yX6_fits : MethodName := ⟨RX6, "fits", "(II)Z"⟩
abbrev cX6_claimersOf : ByteArray := prog_8_method_19_code
def yX6_claimersOf : MethodName := ⟨RX6, "claimersOf", "(I)I"⟩
abbrev cX6_thingsOf : ByteArray := prog_8_method_20_code
def yX6_thingsOf : MethodName := ⟨RX6, "thingsOf", "(I)I"⟩
abbrev cX6_signOf : ByteArray := prog_8_method_21_code
def yX6_signOf : MethodName := ⟨RX6, "signOf", "(I)I"⟩
abbrev cX6_tellThing : ByteArray := prog_8_method_22_code
def yX6_tellThing : MethodName := ⟨RX6, "tellThing", "(II)I"⟩
abbrev cX6_thing : ByteArray := prog_8_method_23_code
def yX6_thing : MethodName := ⟨RX6, "thing", "(II)I"⟩
abbrev cX6_tellClaimer : ByteArray := prog_8_method_24_code
def yX6_tellClaimer : MethodName := ⟨RX6, "tellClaimer", "(II)I"⟩
abbrev cX6_claimer : ByteArray := prog_8_method_25_code
def yX6_claimer : MethodName := ⟨RX6, "claimer", "(II)I"⟩
abbrev cX6_as : ByteArray := prog_8_method_26_code
def yX6_as : MethodName := ⟨RX6, "as", "(II)I"⟩
abbrev cX6_wrong : ByteArray := prog_8_method_27_code
def yX6_wrong : MethodName := ⟨RX6, "wrong", "(II)I"⟩
abbrev cX6_give : ByteArray := prog_8_method_28_code
def yX6_give : MethodName := ⟨RX6, "give", "(II)I"⟩
abbrev cX6_back : ByteArray := prog_8_method_29_code
def yX6_back : MethodName := ⟨RX6, "back", "(I)I"⟩
abbrev cX6_remember : ByteArray := prog_8_method_30_code
def yX6_remember : MethodName := ⟨RX6, "remember", "(III)I"⟩
abbrev cX6_givenMany : ByteArray := prog_8_method_31_code
def yX6_givenMany : MethodName := ⟨RX6, "givenMany", "()I"⟩
abbrev cX6_six : ByteArray := prog_8_method_32_code
def yX6_six : MethodName := ⟨RX6, "six", "()I"⟩
abbrev cX6_layRow : ByteArray := prog_8_method_33_code
def yX6_layRow : MethodName := ⟨RX6, "layRow", "(I)Z"⟩
abbrev cX6_matchOf : ByteArray := prog_8_method_34_code
def yX6_matchOf : MethodName := ⟨RX6, "matchOf", "(I)I"⟩
abbrev cX6_match : ByteArray := prog_8_method_35_code
def yX6_match : MethodName := ⟨RX6, "match", "(I)I"⟩
abbrev cX6_see : ByteArray := prog_8_method_36_code
def yX6_see : MethodName := ⟨RX6, "see", "(IIZ)I"⟩
abbrev cX6_forget : ByteArray := prog_8_method_37_code
def yX6_forget : MethodName := ⟨RX6, "forget", "()I"⟩
abbrev cX6_yearsOf : ByteArray := prog_8_method_38_code
def yX6_yearsOf : MethodName := ⟨RX6, "yearsOf", "(I)I"⟩
abbrev cX6_showOf : ByteArray := prog_8_method_39_code
def yX6_showOf : MethodName := ⟨RX6, "showOf", "(I)I"⟩
abbrev cX6_draw : ByteArray := prog_8_method_40_code
def yX6_draw : MethodName := ⟨RX6, "draw", "(I)I"⟩
abbrev cX6_mondays : ByteArray := prog_8_method_41_code
def yX6_mondays : MethodName := ⟨RX6, "mondays", "(III)I"⟩
abbrev cX6_image : ByteArray := prog_8_method_42_code
def yX6_image : MethodName := ⟨RX6, "image", "()I"⟩
abbrev cX6_restore : ByteArray := prog_8_method_43_code
def yX6_restore : MethodName := ⟨RX6, "restore", "()I"⟩
abbrev cX6_givenFit : ByteArray := prog_8_method_44_code
def yX6_givenFit : MethodName := ⟨RX6, "givenFit", "()I"⟩
abbrev cX6_givenWrong : ByteArray := prog_8_method_45_code
def yX6_givenWrong : MethodName := ⟨RX6, "givenWrong", "()I"⟩
abbrev cX6_countOf : ByteArray := prog_8_method_46_code
def yX6_countOf : MethodName := ⟨RX6, "countOf", "(I)I"⟩
abbrev cX6_count : ByteArray := prog_8_method_47_code
def yX6_count : MethodName := ⟨RX6, "count", "(I)I"⟩
abbrev cX6_say : ByteArray := prog_8_method_48_code
def yX6_say : MethodName := ⟨RX6, "say", "(J)V"⟩
abbrev cX6_digest : ByteArray := prog_8_method_49_code
def yX6_digest : MethodName := ⟨RX6, "digest", "()J"⟩
def RJ11 : String := "java/lang/Character"
def TJ11 : u_T := fun k => match k with
  | _ => ("", "", "", false)
def tyJ11 : Nat → FieldType := fun k => match k with
  | _ => .int
abbrev wsJ110 : List Cond := u_ws RJ11 TJ11 0
theorem nmJ11 : ∀ a, a < 0 → ∀ b, b < 0 → a ≠ b → (TJ11 a).2.1 ≠ (TJ11 b).2.1 := by decide +kernel
theorem tyJ11_ok : ∀ k, k < 0 → parseFieldDescriptor (TJ11 k).2.2.1 = some (tyJ11 k) := by decide +kernel
abbrev cJ11_isValidCodePoint_9a6ad : ByteArray := prog_9_method_11_code
def yJ11_isValidCodePoint_9a6ad : MethodName := ⟨RJ11, "isValidCodePoint", "(I)Z"⟩
abbrev cJ11_highSurrogate_5068e : ByteArray := prog_9_method_28_code
def yJ11_highSurrogate_5068e : MethodName := ⟨RJ11, "highSurrogate", "(I)C"⟩
abbrev cJ11_lowSurrogate_5068e : ByteArray := prog_9_method_29_code
def yJ11_lowSurrogate_5068e : MethodName := ⟨RJ11, "lowSurrogate", "(I)C"⟩
def RJ6 : String := "java/lang/Integer"
def TJ6 : u_T := fun k => match k with
  | _ => ("", "", "", false)
def tyJ6 : Nat → FieldType := fun k => match k with
  | _ => .int
abbrev wsJ60 : List Cond := u_ws RJ6 TJ6 0
theorem nmJ6 : ∀ a, a < 0 → ∀ b, b < 0 → a ≠ b → (TJ6 a).2.1 ≠ (TJ6 b).2.1 := by decide +kernel
theorem tyJ6_ok : ∀ k, k < 0 → parseFieldDescriptor (TJ6 k).2.2.1 = some (tyJ6 k) := by decide +kernel
abbrev cJ6_bitCount_0f7a4 : ByteArray := prog_10_method_49_code
def yJ6_bitCount_0f7a4 : MethodName := ⟨RJ6, "bitCount", "(I)I"⟩
def RJ9 : String := "java/lang/Math"
def TJ9 : u_T := fun k => match k with
  | _ => ("", "", "", false)
def tyJ9 : Nat → FieldType := fun k => match k with
  | _ => .int
abbrev wsJ90 : List Cond := u_ws RJ9 TJ9 0
theorem nmJ9 : ∀ a, a < 0 → ∀ b, b < 0 → a ≠ b → (TJ9 a).2.1 ≠ (TJ9 b).2.1 := by decide +kernel
theorem tyJ9_ok : ∀ k, k < 0 → parseFieldDescriptor (TJ9 k).2.2.1 = some (tyJ9 k) := by decide +kernel
abbrev cJ9_abs_0f7a4 : ByteArray := prog_11_method_59_code
def yJ9_abs_0f7a4 : MethodName := ⟨RJ9, "abs", "(I)I"⟩
abbrev cJ9_max_7cf53 : ByteArray := prog_11_method_65_code
def yJ9_max_7cf53 : MethodName := ⟨RJ9, "max", "(II)I"⟩
abbrev cJ9_min_7cf53 : ByteArray := prog_11_method_69_code
def yJ9_min_7cf53 : MethodName := ⟨RJ9, "min", "(II)I"⟩
def RJ0 : String := "java/lang/String"
def TJ0 : u_T := fun k => match k with
  | _ => ("", "", "", false)
def tyJ0 : Nat → FieldType := fun k => match k with
  | _ => .int
abbrev wsJ00 : List Cond := u_ws RJ0 TJ0 0
theorem nmJ0 : ∀ a, a < 0 → ∀ b, b < 0 → a ≠ b → (TJ0 a).2.1 ≠ (TJ0 b).2.1 := by decide +kernel
theorem tyJ0_ok : ∀ k, k < 0 → parseFieldDescriptor (TJ0 k).2.2.1 = some (tyJ0 k) := by decide +kernel
abbrev cJ0_length_8abf5 : ByteArray := prog_12_method_54_code
def yJ0_length_8abf5 : MethodName := ⟨RJ0, "length", "()I"⟩
abbrev cJ0_indexOf_0f7a4 : ByteArray := prog_12_method_79_code
def yJ0_indexOf_0f7a4 : MethodName := ⟨RJ0, "indexOf", "(I)I"⟩
abbrev cJ0_indexOf_7cf53 : ByteArray := prog_12_method_80_code
def yJ0_indexOf_7cf53 : MethodName := ⟨RJ0, "indexOf", "(II)I"⟩
abbrev cJ0_coder_7d493 : ByteArray := prog_12_method_152_code
def yJ0_coder_7d493 : MethodName := ⟨RJ0, "coder", "()B"⟩
abbrev cJ0_isLatin1_aae02 : ByteArray := prog_12_method_154_code
def yJ0_isLatin1_aae02 : MethodName := ⟨RJ0, "isLatin1", "()Z"⟩
abbrev cJ0_checkBoundsBeginEnd_23922 : ByteArray := prog_12_method_158_code
def yJ0_checkBoundsBeginEnd_23922 : MethodName := ⟨RJ0, "checkBoundsBeginEnd", "(III)V"⟩
def RJ1 : String := "java/lang/StringLatin1"
def TJ1 : u_T := fun k => match k with
  | _ => ("", "", "", false)
def tyJ1 : Nat → FieldType := fun k => match k with
  | _ => .int
abbrev wsJ10 : List Cond := u_ws RJ1 TJ1 0
theorem nmJ1 : ∀ a, a < 0 → ∀ b, b < 0 → a ≠ b → (TJ1 a).2.1 ≠ (TJ1 b).2.1 := by decide +kernel
theorem tyJ1_ok : ∀ k, k < 0 → parseFieldDescriptor (TJ1 k).2.2.1 = some (tyJ1 k) := by decide +kernel
abbrev cJ1_canEncode_9a6ad : ByteArray := prog_13_method_4_code
def yJ1_canEncode_9a6ad : MethodName := ⟨RJ1, "canEncode", "(I)Z"⟩
abbrev cJ1_indexOf_4cfef : ByteArray := prog_13_method_22_code
def yJ1_indexOf_4cfef : MethodName := ⟨RJ1, "indexOf", "([BIII)I"⟩
abbrev cJ1_indexOfChar_4cfef : ByteArray := prog_13_method_23_code
def yJ1_indexOfChar_4cfef : MethodName := ⟨RJ1, "indexOfChar", "([BIII)I"⟩
def RJ2 : String := "java/lang/StringUTF16"
def TJ2 : u_T := fun k => match k with
  | _ => ("", "", "", false)
def tyJ2 : Nat → FieldType := fun k => match k with
  | _ => .int
abbrev wsJ20 : List Cond := u_ws RJ2 TJ2 0
theorem nmJ2 : ∀ a, a < 0 → ∀ b, b < 0 → a ≠ b → (TJ2 a).2.1 ≠ (TJ2 b).2.1 := by decide +kernel
theorem tyJ2_ok : ∀ k, k < 0 → parseFieldDescriptor (TJ2 k).2.2.1 = some (tyJ2 k) := by decide +kernel
abbrev cJ2_getChar_3b067 : ByteArray := prog_14_method_5_code
def yJ2_getChar_3b067 : MethodName := ⟨RJ2, "getChar", "([BI)C"⟩
abbrev cJ2_length_9d52b : ByteArray := prog_14_method_6_code
def yJ2_length_9d52b : MethodName := ⟨RJ2, "length", "([B)I"⟩
abbrev cJ2_indexOf_4cfef : ByteArray := prog_14_method_40_code
def yJ2_indexOf_4cfef : MethodName := ⟨RJ2, "indexOf", "([BIII)I"⟩
abbrev cJ2_indexOfChar_4cfef : ByteArray := prog_14_method_47_code
def yJ2_indexOfChar_4cfef : MethodName := ⟨RJ2, "indexOfChar", "([BIII)I"⟩
abbrev cJ2_indexOfCharUnsafe_4cfef : ByteArray := prog_14_method_48_code
def yJ2_indexOfCharUnsafe_4cfef : MethodName := ⟨RJ2, "indexOfCharUnsafe", "([BIII)I"⟩
abbrev cJ2_indexOfSupplementary_4cfef : ByteArray := prog_14_method_49_code
def yJ2_indexOfSupplementary_4cfef : MethodName := ⟨RJ2, "indexOfSupplementary", "([BIII)I"⟩
abbrev cJ2_checkBoundsBeginEnd_d044e : ByteArray := prog_14_method_93_code
def yJ2_checkBoundsBeginEnd_d044e : MethodName := ⟨RJ2, "checkBoundsBeginEnd", "(II[B)V"⟩
def RJ3 : String := "jdk/internal/util/Preconditions"
def TJ3 : u_T := fun k => match k with
  | _ => ("", "", "", false)
def tyJ3 : Nat → FieldType := fun k => match k with
  | _ => .int
abbrev wsJ30 : List Cond := u_ws RJ3 TJ3 0
theorem nmJ3 : ∀ a, a < 0 → ∀ b, b < 0 → a ≠ b → (TJ3 a).2.1 ≠ (TJ3 b).2.1 := by decide +kernel
theorem tyJ3_ok : ∀ k, k < 0 → parseFieldDescriptor (TJ3 k).2.2.1 = some (tyJ3 k) := by decide +kernel
abbrev cJ3_checkFromToIndex_8c36e : ByteArray := prog_15_method_12_code
def yJ3_checkFromToIndex_8c36e : MethodName := ⟨RJ3, "checkFromToIndex", "(IIILjava/util/function/BiFunction;)I"⟩
def RL : String := "LostTentLaw"
abbrev cL_law : ByteArray := code
def yL_law : MethodName := ⟨RL, "law", "([I)Z"⟩
abbrev vwCl : List vw_C := [(RX0, TX0, 5), (RX1, TX1, 2), (RX2, TX2, 9), (RX3, TX3, 7), (RX4, TX4, 3), (RX5, TX5, 5), (RX6, TX6, 27)]
end
section
theorem dX0_init_0 : decode cX0_init 0 = .ok (.aload_n 0, 1) := by decide +kernel
theorem dX0_init_1 : decode cX0_init 1 = .ok (.invokespecial 3, 3) := by decide +kernel
theorem dX0_init_4 : decode cX0_init 4 = .ok (.aload_n 0, 1) := by decide +kernel
theorem dX0_init_5 : decode cX0_init 5 = .ok (.bipush 15, 2) := by decide +kernel
theorem dX0_init_7 : decode cX0_init 7 = .ok (.newarray .int, 2) := by decide +kernel
theorem dX0_init_9 : decode cX0_init 9 = .ok (.putfield 9, 3) := by decide +kernel
theorem dX0_init_12 : decode cX0_init 12 = .ok (.aload_n 0, 1) := by decide +kernel
theorem dX0_init_13 : decode cX0_init 13 = .ok (.iconst 3, 1) := by decide +kernel
theorem dX0_init_14 : decode cX0_init 14 = .ok (.newarray .int, 2) := by decide +kernel
theorem dX0_init_16 : decode cX0_init 16 = .ok (.putfield 15, 3) := by decide +kernel
theorem dX0_init_19 : decode cX0_init 19 = .ok (.aload_n 0, 1) := by decide +kernel
theorem dX0_init_20 : decode cX0_init 20 = .ok (.iconst 0, 1) := by decide +kernel
theorem dX0_init_21 : decode cX0_init 21 = .ok (.putfield 18, 3) := by decide +kernel
theorem dX0_init_24 : decode cX0_init 24 = .ok (.aload_n 0, 1) := by decide +kernel
theorem dX0_init_25 : decode cX0_init 25 = .ok (.iconst 0, 1) := by decide +kernel
theorem dX0_init_26 : decode cX0_init 26 = .ok (.putfield 22, 3) := by decide +kernel
theorem dX0_init_29 : decode cX0_init 29 = .ok (.aload_n 0, 1) := by decide +kernel
theorem dX0_init_30 : decode cX0_init 30 = .ok (.iconst 0, 1) := by decide +kernel
theorem dX0_init_31 : decode cX0_init 31 = .ok (.putfield 25, 3) := by decide +kernel
theorem dX0_init_34 : decode cX0_init 34 = .ok (.return_, 1) := by decide +kernel
theorem dX0_tell_0 : decode cX0_tell 0 = .ok (.iload_n 1, 1) := by decide +kernel
theorem dX0_tell_1 : decode cX0_tell 1 = .ok (.ifCond .ne 8, 3) := by decide +kernel
theorem dX0_tell_4 : decode cX0_tell 4 = .ok (.aload_n 0, 1) := by decide +kernel
theorem dX0_tell_5 : decode cX0_tell 5 = .ok (.getfield 22, 3) := by decide +kernel
theorem dX0_tell_8 : decode cX0_tell 8 = .ok (.ireturn, 1) := by decide +kernel
theorem dX0_tell_9 : decode cX0_tell 9 = .ok (.iload_n 1, 1) := by decide +kernel
theorem dX0_tell_10 : decode cX0_tell 10 = .ok (.iconst 1, 1) := by decide +kernel
theorem dX0_tell_11 : decode cX0_tell 11 = .ok (.if_icmp .ne 8, 3) := by decide +kernel
theorem dX0_tell_14 : decode cX0_tell 14 = .ok (.aload_n 0, 1) := by decide +kernel
theorem dX0_tell_15 : decode cX0_tell 15 = .ok (.getfield 25, 3) := by decide +kernel
theorem dX0_tell_18 : decode cX0_tell 18 = .ok (.ireturn, 1) := by decide +kernel
theorem dX0_tell_19 : decode cX0_tell 19 = .ok (.aload_n 0, 1) := by decide +kernel
theorem dX0_tell_20 : decode cX0_tell 20 = .ok (.getfield 15, 3) := by decide +kernel
theorem dX0_tell_23 : decode cX0_tell 23 = .ok (.iload_n 1, 1) := by decide +kernel
theorem dX0_tell_24 : decode cX0_tell 24 = .ok (.bipush 10, 2) := by decide +kernel
theorem dX0_tell_26 : decode cX0_tell 26 = .ok (.isub, 1) := by decide +kernel
theorem dX0_tell_27 : decode cX0_tell 27 = .ok (.invokestatic 28, 3) := by decide +kernel
theorem dX0_tell_30 : decode cX0_tell 30 = .ok (.ireturn, 1) := by decide +kernel
theorem dX0_solve_0 : decode cX0_solve 0 = .ok (.aload_n 0, 1) := by decide +kernel
theorem dX0_solve_1 : decode cX0_solve 1 = .ok (.aload_n 1, 1) := by decide +kernel
theorem dX0_solve_2 : decode cX0_solve 2 = .ok (.invokevirtual 32, 3) := by decide +kernel
theorem dX0_solve_5 : decode cX0_solve 5 = .ok (.aload_n 0, 1) := by decide +kernel
theorem dX0_solve_6 : decode cX0_solve 6 = .ok (.iconst (-1), 1) := by decide +kernel
theorem dX0_solve_7 : decode cX0_solve 7 = .ok (.putfield 22, 3) := by decide +kernel
theorem dX0_solve_10 : decode cX0_solve 10 = .ok (.iconst (-1), 1) := by decide +kernel
theorem dX0_solve_11 : decode cX0_solve 11 = .ok (.istore_n 2, 1) := by decide +kernel
theorem dX0_solve_12 : decode cX0_solve 12 = .ok (.iload_n 2, 1) := by decide +kernel
theorem dX0_solve_13 : decode cX0_solve 13 = .ok (.aload_n 0, 1) := by decide +kernel
theorem dX0_solve_14 : decode cX0_solve 14 = .ok (.getfield 18, 3) := by decide +kernel
theorem dX0_solve_17 : decode cX0_solve 17 = .ok (.if_icmp .ge 114, 3) := by decide +kernel
theorem dX0_solve_20 : decode cX0_solve 20 = .ok (.aload_n 0, 1) := by decide +kernel
theorem dX0_solve_21 : decode cX0_solve 21 = .ok (.iconst 0, 1) := by decide +kernel
theorem dX0_solve_22 : decode cX0_solve 22 = .ok (.iload_n 2, 1) := by decide +kernel
theorem dX0_solve_23 : decode cX0_solve 23 = .ok (.invokevirtual 36, 3) := by decide +kernel
theorem dX0_solve_26 : decode cX0_solve 26 = .ok (.ifCond .ne 6, 3) := by decide +kernel
theorem dX0_solve_29 : decode cX0_solve 29 = .ok (.goto 96, 3) := by decide +kernel
theorem dX0_solve_32 : decode cX0_solve 32 = .ok (.iconst (-1), 1) := by decide +kernel
theorem dX0_solve_33 : decode cX0_solve 33 = .ok (.istore_n 3, 1) := by decide +kernel
theorem dX0_solve_34 : decode cX0_solve 34 = .ok (.iload_n 3, 1) := by decide +kernel
theorem dX0_solve_35 : decode cX0_solve 35 = .ok (.aload_n 0, 1) := by decide +kernel
theorem dX0_solve_36 : decode cX0_solve 36 = .ok (.getfield 18, 3) := by decide +kernel
theorem dX0_solve_39 : decode cX0_solve 39 = .ok (.if_icmp .ge 86, 3) := by decide +kernel
theorem dX0_solve_42 : decode cX0_solve 42 = .ok (.aload_n 0, 1) := by decide +kernel
theorem dX0_solve_43 : decode cX0_solve 43 = .ok (.iconst 1, 1) := by decide +kernel
theorem dX0_solve_44 : decode cX0_solve 44 = .ok (.iload_n 3, 1) := by decide +kernel
theorem dX0_solve_45 : decode cX0_solve 45 = .ok (.invokevirtual 36, 3) := by decide +kernel
theorem dX0_solve_48 : decode cX0_solve 48 = .ok (.ifCond .eq 71, 3) := by decide +kernel
theorem dX0_solve_51 : decode cX0_solve 51 = .ok (.iload_n 2, 1) := by decide +kernel
theorem dX0_solve_52 : decode cX0_solve 52 = .ok (.iload_n 3, 1) := by decide +kernel
theorem dX0_solve_53 : decode cX0_solve 53 = .ok (.invokestatic 40, 3) := by decide +kernel
theorem dX0_solve_56 : decode cX0_solve 56 = .ok (.ifCond .eq 6, 3) := by decide +kernel
theorem dX0_solve_59 : decode cX0_solve 59 = .ok (.goto 60, 3) := by decide +kernel
theorem dX0_solve_62 : decode cX0_solve 62 = .ok (.iconst (-1), 1) := by decide +kernel
theorem dX0_solve_63 : decode cX0_solve 63 = .ok (.istore 4, 2) := by decide +kernel
theorem dX0_solve_65 : decode cX0_solve 65 = .ok (.iload 4, 2) := by decide +kernel
theorem dX0_solve_67 : decode cX0_solve 67 = .ok (.aload_n 0, 1) := by decide +kernel
theorem dX0_solve_68 : decode cX0_solve 68 = .ok (.getfield 18, 3) := by decide +kernel
theorem dX0_solve_71 : decode cX0_solve 71 = .ok (.if_icmp .ge 48, 3) := by decide +kernel
theorem dX0_solve_74 : decode cX0_solve 74 = .ok (.aload_n 0, 1) := by decide +kernel
theorem dX0_solve_75 : decode cX0_solve 75 = .ok (.iconst 2, 1) := by decide +kernel
theorem dX0_solve_76 : decode cX0_solve 76 = .ok (.iload 4, 2) := by decide +kernel
theorem dX0_solve_78 : decode cX0_solve 78 = .ok (.invokevirtual 36, 3) := by decide +kernel
theorem dX0_solve_81 : decode cX0_solve 81 = .ok (.ifCond .eq 32, 3) := by decide +kernel
theorem dX0_solve_84 : decode cX0_solve 84 = .ok (.iload_n 2, 1) := by decide +kernel
theorem dX0_solve_85 : decode cX0_solve 85 = .ok (.iload 4, 2) := by decide +kernel
theorem dX0_solve_87 : decode cX0_solve 87 = .ok (.invokestatic 40, 3) := by decide +kernel
theorem dX0_solve_90 : decode cX0_solve 90 = .ok (.ifCond .ne 23, 3) := by decide +kernel
theorem dX0_solve_93 : decode cX0_solve 93 = .ok (.iload_n 3, 1) := by decide +kernel
theorem dX0_solve_94 : decode cX0_solve 94 = .ok (.iload 4, 2) := by decide +kernel
theorem dX0_solve_96 : decode cX0_solve 96 = .ok (.invokestatic 40, 3) := by decide +kernel
theorem dX0_solve_99 : decode cX0_solve 99 = .ok (.ifCond .eq 6, 3) := by decide +kernel
theorem dX0_solve_102 : decode cX0_solve 102 = .ok (.goto 11, 3) := by decide +kernel
theorem dX0_solve_105 : decode cX0_solve 105 = .ok (.aload_n 0, 1) := by decide +kernel
theorem dX0_solve_106 : decode cX0_solve 106 = .ok (.iload_n 2, 1) := by decide +kernel
theorem dX0_solve_107 : decode cX0_solve 107 = .ok (.iload_n 3, 1) := by decide +kernel
theorem dX0_solve_108 : decode cX0_solve 108 = .ok (.iload 4, 2) := by decide +kernel
theorem dX0_solve_110 : decode cX0_solve 110 = .ok (.invokevirtual 43, 3) := by decide +kernel
theorem dX0_solve_113 : decode cX0_solve 113 = .ok (.iinc 4 1, 3) := by decide +kernel
theorem dX0_solve_116 : decode cX0_solve 116 = .ok (.goto (-51), 3) := by decide +kernel
theorem dX0_solve_119 : decode cX0_solve 119 = .ok (.iinc 3 1, 3) := by decide +kernel
theorem dX0_solve_122 : decode cX0_solve 122 = .ok (.goto (-88), 3) := by decide +kernel
theorem dX0_solve_125 : decode cX0_solve 125 = .ok (.iinc 2 1, 3) := by decide +kernel
theorem dX0_solve_128 : decode cX0_solve 128 = .ok (.goto (-116), 3) := by decide +kernel
theorem dX0_solve_131 : decode cX0_solve 131 = .ok (.return_, 1) := by decide +kernel
theorem dX0_setPrices_0 : decode cX0_setPrices 0 = .ok (.aload_n 0, 1) := by decide +kernel
theorem dX0_setPrices_1 : decode cX0_setPrices 1 = .ok (.aload_n 1, 1) := by decide +kernel
theorem dX0_setPrices_2 : decode cX0_setPrices 2 = .ok (.invokevirtual 47, 3) := by decide +kernel
theorem dX0_setPrices_5 : decode cX0_setPrices 5 = .ok (.putfield 18, 3) := by decide +kernel
theorem dX0_setPrices_8 : decode cX0_setPrices 8 = .ok (.iconst 0, 1) := by decide +kernel
theorem dX0_setPrices_9 : decode cX0_setPrices 9 = .ok (.istore_n 2, 1) := by decide +kernel
theorem dX0_setPrices_10 : decode cX0_setPrices 10 = .ok (.iload_n 2, 1) := by decide +kernel
theorem dX0_setPrices_11 : decode cX0_setPrices 11 = .ok (.iconst 3, 1) := by decide +kernel
theorem dX0_setPrices_12 : decode cX0_setPrices 12 = .ok (.if_icmp .ge 122, 3) := by decide +kernel
theorem dX0_setPrices_15 : decode cX0_setPrices 15 = .ok (.aload_n 1, 1) := by decide +kernel
theorem dX0_setPrices_16 : decode cX0_setPrices 16 = .ok (.iload_n 2, 1) := by decide +kernel
theorem dX0_setPrices_17 : decode cX0_setPrices 17 = .ok (.invokevirtual 52, 3) := by decide +kernel
theorem dX0_setPrices_20 : decode cX0_setPrices 20 = .ok (.ifCond .eq 19, 3) := by decide +kernel
theorem dX0_setPrices_23 : decode cX0_setPrices 23 = .ok (.aload_n 1, 1) := by decide +kernel
theorem dX0_setPrices_24 : decode cX0_setPrices 24 = .ok (.invokevirtual 56, 3) := by decide +kernel
theorem dX0_setPrices_27 : decode cX0_setPrices 27 = .ok (.iload_n 2, 1) := by decide +kernel
theorem dX0_setPrices_28 : decode cX0_setPrices 28 = .ok (.invokevirtual 60, 3) := by decide +kernel
theorem dX0_setPrices_31 : decode cX0_setPrices 31 = .ok (.iconst (-1), 1) := by decide +kernel
theorem dX0_setPrices_32 : decode cX0_setPrices 32 = .ok (.if_icmp .ne 7, 3) := by decide +kernel
theorem dX0_setPrices_35 : decode cX0_setPrices 35 = .ok (.iconst 1, 1) := by decide +kernel
theorem dX0_setPrices_36 : decode cX0_setPrices 36 = .ok (.goto 4, 3) := by decide +kernel
theorem dX0_setPrices_39 : decode cX0_setPrices 39 = .ok (.iconst 0, 1) := by decide +kernel
theorem dX0_setPrices_40 : decode cX0_setPrices 40 = .ok (.istore_n 3, 1) := by decide +kernel
theorem dX0_setPrices_41 : decode cX0_setPrices 41 = .ok (.iconst 0, 1) := by decide +kernel
theorem dX0_setPrices_42 : decode cX0_setPrices 42 = .ok (.istore 4, 2) := by decide +kernel
theorem dX0_setPrices_44 : decode cX0_setPrices 44 = .ok (.iload 4, 2) := by decide +kernel
theorem dX0_setPrices_46 : decode cX0_setPrices 46 = .ok (.iconst 5, 1) := by decide +kernel
theorem dX0_setPrices_47 : decode cX0_setPrices 47 = .ok (.if_icmp .ge 81, 3) := by decide +kernel
theorem dX0_setPrices_50 : decode cX0_setPrices 50 = .ok (.iload_n 3, 1) := by decide +kernel
theorem dX0_setPrices_51 : decode cX0_setPrices 51 = .ok (.ifCond .eq 39, 3) := by decide +kernel
theorem dX0_setPrices_54 : decode cX0_setPrices 54 = .ok (.aload_n 1, 1) := by decide +kernel
theorem dX0_setPrices_55 : decode cX0_setPrices 55 = .ok (.iload 4, 2) := by decide +kernel
theorem dX0_setPrices_57 : decode cX0_setPrices 57 = .ok (.invokevirtual 66, 3) := by decide +kernel
theorem dX0_setPrices_60 : decode cX0_setPrices 60 = .ok (.ifCond .eq 30, 3) := by decide +kernel
theorem dX0_setPrices_63 : decode cX0_setPrices 63 = .ok (.aload_n 1, 1) := by decide +kernel
theorem dX0_setPrices_64 : decode cX0_setPrices 64 = .ok (.invokevirtual 56, 3) := by decide +kernel
theorem dX0_setPrices_67 : decode cX0_setPrices 67 = .ok (.iload 4, 2) := by decide +kernel
theorem dX0_setPrices_69 : decode cX0_setPrices 69 = .ok (.invokevirtual 69, 3) := by decide +kernel
theorem dX0_setPrices_72 : decode cX0_setPrices 72 = .ok (.iconst (-1), 1) := by decide +kernel
theorem dX0_setPrices_73 : decode cX0_setPrices 73 = .ok (.if_icmp .ne 17, 3) := by decide +kernel
theorem dX0_setPrices_76 : decode cX0_setPrices 76 = .ok (.aload_n 1, 1) := by decide +kernel
theorem dX0_setPrices_77 : decode cX0_setPrices 77 = .ok (.iload 4, 2) := by decide +kernel
theorem dX0_setPrices_79 : decode cX0_setPrices 79 = .ok (.iload_n 2, 1) := by decide +kernel
theorem dX0_setPrices_80 : decode cX0_setPrices 80 = .ok (.invokevirtual 72, 3) := by decide +kernel
theorem dX0_setPrices_83 : decode cX0_setPrices 83 = .ok (.ifCond .eq 7, 3) := by decide +kernel
theorem dX0_setPrices_86 : decode cX0_setPrices 86 = .ok (.iconst 1, 1) := by decide +kernel
theorem dX0_setPrices_87 : decode cX0_setPrices 87 = .ok (.goto 4, 3) := by decide +kernel
theorem dX0_setPrices_90 : decode cX0_setPrices 90 = .ok (.iconst 0, 1) := by decide +kernel
theorem dX0_setPrices_91 : decode cX0_setPrices 91 = .ok (.istore 5, 2) := by decide +kernel
theorem dX0_setPrices_93 : decode cX0_setPrices 93 = .ok (.aload_n 0, 1) := by decide +kernel
theorem dX0_setPrices_94 : decode cX0_setPrices 94 = .ok (.getfield 9, 3) := by decide +kernel
theorem dX0_setPrices_97 : decode cX0_setPrices 97 = .ok (.iload_n 2, 1) := by decide +kernel
theorem dX0_setPrices_98 : decode cX0_setPrices 98 = .ok (.iconst 5, 1) := by decide +kernel
theorem dX0_setPrices_99 : decode cX0_setPrices 99 = .ok (.imul, 1) := by decide +kernel
theorem dX0_setPrices_100 : decode cX0_setPrices 100 = .ok (.iload 4, 2) := by decide +kernel
theorem dX0_setPrices_102 : decode cX0_setPrices 102 = .ok (.iadd, 1) := by decide +kernel
theorem dX0_setPrices_103 : decode cX0_setPrices 103 = .ok (.iload 5, 2) := by decide +kernel
theorem dX0_setPrices_105 : decode cX0_setPrices 105 = .ok (.ifCond .eq 13, 3) := by decide +kernel
theorem dX0_setPrices_108 : decode cX0_setPrices 108 = .ok (.aload_n 1, 1) := by decide +kernel
theorem dX0_setPrices_109 : decode cX0_setPrices 109 = .ok (.iload 4, 2) := by decide +kernel
theorem dX0_setPrices_111 : decode cX0_setPrices 111 = .ok (.iload_n 2, 1) := by decide +kernel
theorem dX0_setPrices_112 : decode cX0_setPrices 112 = .ok (.invokevirtual 75, 3) := by decide +kernel
theorem dX0_setPrices_115 : decode cX0_setPrices 115 = .ok (.goto 4, 3) := by decide +kernel
theorem dX0_setPrices_118 : decode cX0_setPrices 118 = .ok (.iconst (-1), 1) := by decide +kernel
theorem dX0_setPrices_119 : decode cX0_setPrices 119 = .ok (.invokestatic 79, 3) := by decide +kernel
theorem dX0_setPrices_122 : decode cX0_setPrices 122 = .ok (.iinc 4 1, 3) := by decide +kernel
theorem dX0_setPrices_125 : decode cX0_setPrices 125 = .ok (.goto (-81), 3) := by decide +kernel
theorem dX0_setPrices_128 : decode cX0_setPrices 128 = .ok (.iinc 2 1, 3) := by decide +kernel
theorem dX0_setPrices_131 : decode cX0_setPrices 131 = .ok (.goto (-121), 3) := by decide +kernel
theorem dX0_setPrices_134 : decode cX0_setPrices 134 = .ok (.return_, 1) := by decide +kernel
theorem dX0_may_0 : decode cX0_may 0 = .ok (.iload_n 2, 1) := by decide +kernel
theorem dX0_may_1 : decode cX0_may 1 = .ok (.iconst (-1), 1) := by decide +kernel
theorem dX0_may_2 : decode cX0_may 2 = .ok (.if_icmp .eq 13, 3) := by decide +kernel
theorem dX0_may_5 : decode cX0_may 5 = .ok (.aload_n 0, 1) := by decide +kernel
theorem dX0_may_6 : decode cX0_may 6 = .ok (.iload_n 1, 1) := by decide +kernel
theorem dX0_may_7 : decode cX0_may 7 = .ok (.iload_n 2, 1) := by decide +kernel
theorem dX0_may_8 : decode cX0_may 8 = .ok (.invokevirtual 83, 3) := by decide +kernel
theorem dX0_may_11 : decode cX0_may 11 = .ok (.iconst (-1), 1) := by decide +kernel
theorem dX0_may_12 : decode cX0_may 12 = .ok (.if_icmp .eq 7, 3) := by decide +kernel
theorem dX0_may_15 : decode cX0_may 15 = .ok (.iconst 1, 1) := by decide +kernel
theorem dX0_may_16 : decode cX0_may 16 = .ok (.goto 4, 3) := by decide +kernel
theorem dX0_may_19 : decode cX0_may 19 = .ok (.iconst 0, 1) := by decide +kernel
theorem dX0_may_20 : decode cX0_may 20 = .ok (.ireturn, 1) := by decide +kernel
theorem dX0_price_0 : decode cX0_price 0 = .ok (.aload_n 0, 1) := by decide +kernel
theorem dX0_price_1 : decode cX0_price 1 = .ok (.getfield 9, 3) := by decide +kernel
theorem dX0_price_4 : decode cX0_price 4 = .ok (.iload_n 1, 1) := by decide +kernel
theorem dX0_price_5 : decode cX0_price 5 = .ok (.iconst 5, 1) := by decide +kernel
theorem dX0_price_6 : decode cX0_price 6 = .ok (.imul, 1) := by decide +kernel
theorem dX0_price_7 : decode cX0_price 7 = .ok (.iload_n 2, 1) := by decide +kernel
theorem dX0_price_8 : decode cX0_price 8 = .ok (.iadd, 1) := by decide +kernel
theorem dX0_price_9 : decode cX0_price 9 = .ok (.invokestatic 28, 3) := by decide +kernel
theorem dX0_price_12 : decode cX0_price 12 = .ok (.ireturn, 1) := by decide +kernel
theorem dX0_isTwice_0 : decode cX0_isTwice 0 = .ok (.iload_n 0, 1) := by decide +kernel
theorem dX0_isTwice_1 : decode cX0_isTwice 1 = .ok (.iload_n 1, 1) := by decide +kernel
theorem dX0_isTwice_2 : decode cX0_isTwice 2 = .ok (.if_icmp .ne 12, 3) := by decide +kernel
theorem dX0_isTwice_5 : decode cX0_isTwice 5 = .ok (.iload_n 0, 1) := by decide +kernel
theorem dX0_isTwice_6 : decode cX0_isTwice 6 = .ok (.iconst (-1), 1) := by decide +kernel
theorem dX0_isTwice_7 : decode cX0_isTwice 7 = .ok (.if_icmp .eq 7, 3) := by decide +kernel
theorem dX0_isTwice_10 : decode cX0_isTwice 10 = .ok (.iconst 1, 1) := by decide +kernel
theorem dX0_isTwice_11 : decode cX0_isTwice 11 = .ok (.goto 4, 3) := by decide +kernel
theorem dX0_isTwice_14 : decode cX0_isTwice 14 = .ok (.iconst 0, 1) := by decide +kernel
theorem dX0_isTwice_15 : decode cX0_isTwice 15 = .ok (.ireturn, 1) := by decide +kernel
theorem dX0_keepIfBetter_0 : decode cX0_keepIfBetter 0 = .ok (.iload_n 1, 1) := by decide +kernel
theorem dX0_keepIfBetter_1 : decode cX0_keepIfBetter 1 = .ok (.invokestatic 86, 3) := by decide +kernel
theorem dX0_keepIfBetter_4 : decode cX0_keepIfBetter 4 = .ok (.iload_n 2, 1) := by decide +kernel
theorem dX0_keepIfBetter_5 : decode cX0_keepIfBetter 5 = .ok (.invokestatic 86, 3) := by decide +kernel
theorem dX0_keepIfBetter_8 : decode cX0_keepIfBetter 8 = .ok (.iadd, 1) := by decide +kernel
theorem dX0_keepIfBetter_9 : decode cX0_keepIfBetter 9 = .ok (.iload_n 3, 1) := by decide +kernel
theorem dX0_keepIfBetter_10 : decode cX0_keepIfBetter 10 = .ok (.invokestatic 86, 3) := by decide +kernel
theorem dX0_keepIfBetter_13 : decode cX0_keepIfBetter 13 = .ok (.iadd, 1) := by decide +kernel
theorem dX0_keepIfBetter_14 : decode cX0_keepIfBetter 14 = .ok (.istore 4, 2) := by decide +kernel
theorem dX0_keepIfBetter_16 : decode cX0_keepIfBetter 16 = .ok (.aload_n 0, 1) := by decide +kernel
theorem dX0_keepIfBetter_17 : decode cX0_keepIfBetter 17 = .ok (.iconst 0, 1) := by decide +kernel
theorem dX0_keepIfBetter_18 : decode cX0_keepIfBetter 18 = .ok (.iload_n 1, 1) := by decide +kernel
theorem dX0_keepIfBetter_19 : decode cX0_keepIfBetter 19 = .ok (.invokevirtual 89, 3) := by decide +kernel
theorem dX0_keepIfBetter_22 : decode cX0_keepIfBetter 22 = .ok (.aload_n 0, 1) := by decide +kernel
theorem dX0_keepIfBetter_23 : decode cX0_keepIfBetter 23 = .ok (.iconst 1, 1) := by decide +kernel
theorem dX0_keepIfBetter_24 : decode cX0_keepIfBetter 24 = .ok (.iload_n 2, 1) := by decide +kernel
theorem dX0_keepIfBetter_25 : decode cX0_keepIfBetter 25 = .ok (.invokevirtual 89, 3) := by decide +kernel
theorem dX0_keepIfBetter_28 : decode cX0_keepIfBetter 28 = .ok (.iadd, 1) := by decide +kernel
theorem dX0_keepIfBetter_29 : decode cX0_keepIfBetter 29 = .ok (.aload_n 0, 1) := by decide +kernel
theorem dX0_keepIfBetter_30 : decode cX0_keepIfBetter 30 = .ok (.iconst 2, 1) := by decide +kernel
theorem dX0_keepIfBetter_31 : decode cX0_keepIfBetter 31 = .ok (.iload_n 3, 1) := by decide +kernel
theorem dX0_keepIfBetter_32 : decode cX0_keepIfBetter 32 = .ok (.invokevirtual 89, 3) := by decide +kernel
theorem dX0_keepIfBetter_35 : decode cX0_keepIfBetter 35 = .ok (.iadd, 1) := by decide +kernel
theorem dX0_keepIfBetter_36 : decode cX0_keepIfBetter 36 = .ok (.istore 5, 2) := by decide +kernel
theorem dX0_keepIfBetter_38 : decode cX0_keepIfBetter 38 = .ok (.iload 4, 2) := by decide +kernel
theorem dX0_keepIfBetter_40 : decode cX0_keepIfBetter 40 = .ok (.aload_n 0, 1) := by decide +kernel
theorem dX0_keepIfBetter_41 : decode cX0_keepIfBetter 41 = .ok (.getfield 22, 3) := by decide +kernel
theorem dX0_keepIfBetter_44 : decode cX0_keepIfBetter 44 = .ok (.if_icmp .lt 21, 3) := by decide +kernel
theorem dX0_keepIfBetter_47 : decode cX0_keepIfBetter 47 = .ok (.iload 4, 2) := by decide +kernel
theorem dX0_keepIfBetter_49 : decode cX0_keepIfBetter 49 = .ok (.aload_n 0, 1) := by decide +kernel
theorem dX0_keepIfBetter_50 : decode cX0_keepIfBetter 50 = .ok (.getfield 22, 3) := by decide +kernel
theorem dX0_keepIfBetter_53 : decode cX0_keepIfBetter 53 = .ok (.if_icmp .ne 13, 3) := by decide +kernel
theorem dX0_keepIfBetter_56 : decode cX0_keepIfBetter 56 = .ok (.iload 5, 2) := by decide +kernel
theorem dX0_keepIfBetter_58 : decode cX0_keepIfBetter 58 = .ok (.aload_n 0, 1) := by decide +kernel
theorem dX0_keepIfBetter_59 : decode cX0_keepIfBetter 59 = .ok (.getfield 25, 3) := by decide +kernel
theorem dX0_keepIfBetter_62 : decode cX0_keepIfBetter 62 = .ok (.if_icmp .lt 4, 3) := by decide +kernel
theorem dX0_keepIfBetter_65 : decode cX0_keepIfBetter 65 = .ok (.return_, 1) := by decide +kernel
theorem dX0_keepIfBetter_66 : decode cX0_keepIfBetter 66 = .ok (.aload_n 0, 1) := by decide +kernel
theorem dX0_keepIfBetter_67 : decode cX0_keepIfBetter 67 = .ok (.iload 4, 2) := by decide +kernel
theorem dX0_keepIfBetter_69 : decode cX0_keepIfBetter 69 = .ok (.putfield 22, 3) := by decide +kernel
theorem dX0_keepIfBetter_72 : decode cX0_keepIfBetter 72 = .ok (.aload_n 0, 1) := by decide +kernel
theorem dX0_keepIfBetter_73 : decode cX0_keepIfBetter 73 = .ok (.iload 5, 2) := by decide +kernel
theorem dX0_keepIfBetter_75 : decode cX0_keepIfBetter 75 = .ok (.putfield 25, 3) := by decide +kernel
theorem dX0_keepIfBetter_78 : decode cX0_keepIfBetter 78 = .ok (.aload_n 0, 1) := by decide +kernel
theorem dX0_keepIfBetter_79 : decode cX0_keepIfBetter 79 = .ok (.getfield 15, 3) := by decide +kernel
theorem dX0_keepIfBetter_82 : decode cX0_keepIfBetter 82 = .ok (.iconst 0, 1) := by decide +kernel
theorem dX0_keepIfBetter_83 : decode cX0_keepIfBetter 83 = .ok (.iload_n 1, 1) := by decide +kernel
theorem dX0_keepIfBetter_84 : decode cX0_keepIfBetter 84 = .ok (.invokestatic 79, 3) := by decide +kernel
theorem dX0_keepIfBetter_87 : decode cX0_keepIfBetter 87 = .ok (.aload_n 0, 1) := by decide +kernel
theorem dX0_keepIfBetter_88 : decode cX0_keepIfBetter 88 = .ok (.getfield 15, 3) := by decide +kernel
theorem dX0_keepIfBetter_91 : decode cX0_keepIfBetter 91 = .ok (.iconst 1, 1) := by decide +kernel
theorem dX0_keepIfBetter_92 : decode cX0_keepIfBetter 92 = .ok (.iload_n 2, 1) := by decide +kernel
theorem dX0_keepIfBetter_93 : decode cX0_keepIfBetter 93 = .ok (.invokestatic 79, 3) := by decide +kernel
theorem dX0_keepIfBetter_96 : decode cX0_keepIfBetter 96 = .ok (.aload_n 0, 1) := by decide +kernel
theorem dX0_keepIfBetter_97 : decode cX0_keepIfBetter 97 = .ok (.getfield 15, 3) := by decide +kernel
theorem dX0_keepIfBetter_100 : decode cX0_keepIfBetter 100 = .ok (.iconst 2, 1) := by decide +kernel
theorem dX0_keepIfBetter_101 : decode cX0_keepIfBetter 101 = .ok (.iload_n 3, 1) := by decide +kernel
theorem dX0_keepIfBetter_102 : decode cX0_keepIfBetter 102 = .ok (.invokestatic 79, 3) := by decide +kernel
theorem dX0_keepIfBetter_105 : decode cX0_keepIfBetter 105 = .ok (.return_, 1) := by decide +kernel
theorem dX0_oneIfGiven_0 : decode cX0_oneIfGiven 0 = .ok (.iload_n 0, 1) := by decide +kernel
theorem dX0_oneIfGiven_1 : decode cX0_oneIfGiven 1 = .ok (.iconst (-1), 1) := by decide +kernel
theorem dX0_oneIfGiven_2 : decode cX0_oneIfGiven 2 = .ok (.if_icmp .ne 7, 3) := by decide +kernel
theorem dX0_oneIfGiven_5 : decode cX0_oneIfGiven 5 = .ok (.iconst 0, 1) := by decide +kernel
theorem dX0_oneIfGiven_6 : decode cX0_oneIfGiven 6 = .ok (.goto 4, 3) := by decide +kernel
theorem dX0_oneIfGiven_9 : decode cX0_oneIfGiven 9 = .ok (.iconst 1, 1) := by decide +kernel
theorem dX0_oneIfGiven_10 : decode cX0_oneIfGiven 10 = .ok (.ireturn, 1) := by decide +kernel
theorem dX0_priceIfGiven_0 : decode cX0_priceIfGiven 0 = .ok (.iload_n 2, 1) := by decide +kernel
theorem dX0_priceIfGiven_1 : decode cX0_priceIfGiven 1 = .ok (.iconst (-1), 1) := by decide +kernel
theorem dX0_priceIfGiven_2 : decode cX0_priceIfGiven 2 = .ok (.if_icmp .ne 7, 3) := by decide +kernel
theorem dX0_priceIfGiven_5 : decode cX0_priceIfGiven 5 = .ok (.iconst 0, 1) := by decide +kernel
theorem dX0_priceIfGiven_6 : decode cX0_priceIfGiven 6 = .ok (.goto 9, 3) := by decide +kernel
theorem dX0_priceIfGiven_9 : decode cX0_priceIfGiven 9 = .ok (.aload_n 0, 1) := by decide +kernel
theorem dX0_priceIfGiven_10 : decode cX0_priceIfGiven 10 = .ok (.iload_n 1, 1) := by decide +kernel
theorem dX0_priceIfGiven_11 : decode cX0_priceIfGiven 11 = .ok (.iload_n 2, 1) := by decide +kernel
theorem dX0_priceIfGiven_12 : decode cX0_priceIfGiven 12 = .ok (.invokevirtual 83, 3) := by decide +kernel
theorem dX0_priceIfGiven_15 : decode cX0_priceIfGiven 15 = .ok (.ireturn, 1) := by decide +kernel
theorem dX1_init_0 : decode cX1_init 0 = .ok (.aload_n 0, 1) := by decide +kernel
theorem dX1_init_1 : decode cX1_init 1 = .ok (.invokespecial 3, 3) := by decide +kernel
theorem dX1_init_4 : decode cX1_init 4 = .ok (.aload_n 0, 1) := by decide +kernel
theorem dX1_init_5 : decode cX1_init 5 = .ok (.bipush 36, 2) := by decide +kernel
theorem dX1_init_7 : decode cX1_init 7 = .ok (.newarray .int, 2) := by decide +kernel
theorem dX1_init_9 : decode cX1_init 9 = .ok (.putfield 9, 3) := by decide +kernel
theorem dX1_init_12 : decode cX1_init 12 = .ok (.aload_n 0, 1) := by decide +kernel
theorem dX1_init_13 : decode cX1_init 13 = .ok (.iconst 0, 1) := by decide +kernel
theorem dX1_init_14 : decode cX1_init 14 = .ok (.putfield 15, 3) := by decide +kernel
theorem dX1_init_17 : decode cX1_init 17 = .ok (.return_, 1) := by decide +kernel
theorem dX1_length_0 : decode cX1_length 0 = .ok (.aload_n 0, 1) := by decide +kernel
theorem dX1_length_1 : decode cX1_length 1 = .ok (.getfield 15, 3) := by decide +kernel
theorem dX1_length_4 : decode cX1_length 4 = .ok (.ireturn, 1) := by decide +kernel
theorem dX1_codeAt_0 : decode cX1_codeAt 0 = .ok (.aload_n 0, 1) := by decide +kernel
theorem dX1_codeAt_1 : decode cX1_codeAt 1 = .ok (.getfield 9, 3) := by decide +kernel
theorem dX1_codeAt_4 : decode cX1_codeAt 4 = .ok (.iload_n 1, 1) := by decide +kernel
theorem dX1_codeAt_5 : decode cX1_codeAt 5 = .ok (.invokestatic 19, 3) := by decide +kernel
theorem dX1_codeAt_8 : decode cX1_codeAt 8 = .ok (.ireturn, 1) := by decide +kernel
theorem dX1_append_0 : decode cX1_append 0 = .ok (.aload_n 0, 1) := by decide +kernel
theorem dX1_append_1 : decode cX1_append 1 = .ok (.getfield 15, 3) := by decide +kernel
theorem dX1_append_4 : decode cX1_append 4 = .ok (.bipush 36, 2) := by decide +kernel
theorem dX1_append_6 : decode cX1_append 6 = .ok (.if_icmp .lt 5, 3) := by decide +kernel
theorem dX1_append_9 : decode cX1_append 9 = .ok (.iconst 0, 1) := by decide +kernel
theorem dX1_append_10 : decode cX1_append 10 = .ok (.ireturn, 1) := by decide +kernel
theorem dX1_append_11 : decode cX1_append 11 = .ok (.aload_n 0, 1) := by decide +kernel
theorem dX1_append_12 : decode cX1_append 12 = .ok (.getfield 9, 3) := by decide +kernel
theorem dX1_append_15 : decode cX1_append 15 = .ok (.aload_n 0, 1) := by decide +kernel
theorem dX1_append_16 : decode cX1_append 16 = .ok (.getfield 15, 3) := by decide +kernel
theorem dX1_append_19 : decode cX1_append 19 = .ok (.iload_n 1, 1) := by decide +kernel
theorem dX1_append_20 : decode cX1_append 20 = .ok (.invokestatic 23, 3) := by decide +kernel
theorem dX1_append_23 : decode cX1_append 23 = .ok (.aload_n 0, 1) := by decide +kernel
theorem dX1_append_24 : decode cX1_append 24 = .ok (.dup, 1) := by decide +kernel
theorem dX1_append_25 : decode cX1_append 25 = .ok (.getfield 15, 3) := by decide +kernel
theorem dX1_append_28 : decode cX1_append 28 = .ok (.iconst 1, 1) := by decide +kernel
theorem dX1_append_29 : decode cX1_append 29 = .ok (.iadd, 1) := by decide +kernel
theorem dX1_append_30 : decode cX1_append 30 = .ok (.putfield 15, 3) := by decide +kernel
theorem dX1_append_33 : decode cX1_append 33 = .ok (.iconst 1, 1) := by decide +kernel
theorem dX1_append_34 : decode cX1_append 34 = .ok (.ireturn, 1) := by decide +kernel
theorem dX1_clear_0 : decode cX1_clear 0 = .ok (.aload_n 0, 1) := by decide +kernel
theorem dX1_clear_1 : decode cX1_clear 1 = .ok (.iconst 0, 1) := by decide +kernel
theorem dX1_clear_2 : decode cX1_clear 2 = .ok (.putfield 15, 3) := by decide +kernel
theorem dX1_clear_5 : decode cX1_clear 5 = .ok (.return_, 1) := by decide +kernel
theorem dX1_firstFault_0 : decode cX1_firstFault 0 = .ok (.aload_n 0, 1) := by decide +kernel
theorem dX1_firstFault_1 : decode cX1_firstFault 1 = .ok (.invokevirtual 27, 3) := by decide +kernel
theorem dX1_firstFault_4 : decode cX1_firstFault 4 = .ok (.istore_n 1, 1) := by decide +kernel
theorem dX1_firstFault_5 : decode cX1_firstFault 5 = .ok (.iconst 0, 1) := by decide +kernel
theorem dX1_firstFault_6 : decode cX1_firstFault 6 = .ok (.istore_n 2, 1) := by decide +kernel
theorem dX1_firstFault_7 : decode cX1_firstFault 7 = .ok (.iload_n 2, 1) := by decide +kernel
theorem dX1_firstFault_8 : decode cX1_firstFault 8 = .ok (.aload_n 0, 1) := by decide +kernel
theorem dX1_firstFault_9 : decode cX1_firstFault 9 = .ok (.getfield 15, 3) := by decide +kernel
theorem dX1_firstFault_12 : decode cX1_firstFault 12 = .ok (.if_icmp .ge 47, 3) := by decide +kernel
theorem dX1_firstFault_15 : decode cX1_firstFault 15 = .ok (.aload_n 0, 1) := by decide +kernel
theorem dX1_firstFault_16 : decode cX1_firstFault 16 = .ok (.getfield 9, 3) := by decide +kernel
theorem dX1_firstFault_19 : decode cX1_firstFault 19 = .ok (.iload_n 2, 1) := by decide +kernel
theorem dX1_firstFault_20 : decode cX1_firstFault 20 = .ok (.invokestatic 19, 3) := by decide +kernel
theorem dX1_firstFault_23 : decode cX1_firstFault 23 = .ok (.istore_n 3, 1) := by decide +kernel
theorem dX1_firstFault_24 : decode cX1_firstFault 24 = .ok (.iload_n 2, 1) := by decide +kernel
theorem dX1_firstFault_25 : decode cX1_firstFault 25 = .ok (.iload_n 1, 1) := by decide +kernel
theorem dX1_firstFault_26 : decode cX1_firstFault 26 = .ok (.if_icmp .ge 11, 3) := by decide +kernel
theorem dX1_firstFault_29 : decode cX1_firstFault 29 = .ok (.iload_n 2, 1) := by decide +kernel
theorem dX1_firstFault_30 : decode cX1_firstFault 30 = .ok (.iload_n 3, 1) := by decide +kernel
theorem dX1_firstFault_31 : decode cX1_firstFault 31 = .ok (.invokestatic 31, 3) := by decide +kernel
theorem dX1_firstFault_34 : decode cX1_firstFault 34 = .ok (.goto 10, 3) := by decide +kernel
theorem dX1_firstFault_37 : decode cX1_firstFault 37 = .ok (.iload_n 2, 1) := by decide +kernel
theorem dX1_firstFault_38 : decode cX1_firstFault 38 = .ok (.iload_n 1, 1) := by decide +kernel
theorem dX1_firstFault_39 : decode cX1_firstFault 39 = .ok (.isub, 1) := by decide +kernel
theorem dX1_firstFault_40 : decode cX1_firstFault 40 = .ok (.iload_n 3, 1) := by decide +kernel
theorem dX1_firstFault_41 : decode cX1_firstFault 41 = .ok (.invokestatic 35, 3) := by decide +kernel
theorem dX1_firstFault_44 : decode cX1_firstFault 44 = .ok (.istore 4, 2) := by decide +kernel
theorem dX1_firstFault_46 : decode cX1_firstFault 46 = .ok (.iload 4, 2) := by decide +kernel
theorem dX1_firstFault_48 : decode cX1_firstFault 48 = .ok (.ifCond .ne 5, 3) := by decide +kernel
theorem dX1_firstFault_51 : decode cX1_firstFault 51 = .ok (.iload_n 2, 1) := by decide +kernel
theorem dX1_firstFault_52 : decode cX1_firstFault 52 = .ok (.ireturn, 1) := by decide +kernel
theorem dX1_firstFault_53 : decode cX1_firstFault 53 = .ok (.iinc 2 1, 3) := by decide +kernel
theorem dX1_firstFault_56 : decode cX1_firstFault 56 = .ok (.goto (-49), 3) := by decide +kernel
theorem dX1_firstFault_59 : decode cX1_firstFault 59 = .ok (.aload_n 0, 1) := by decide +kernel
theorem dX1_firstFault_60 : decode cX1_firstFault 60 = .ok (.getfield 15, 3) := by decide +kernel
theorem dX1_firstFault_63 : decode cX1_firstFault 63 = .ok (.ireturn, 1) := by decide +kernel
theorem dX1_isTent_0 : decode cX1_isTent 0 = .ok (.aload_n 0, 1) := by decide +kernel
theorem dX1_isTent_1 : decode cX1_isTent 1 = .ok (.invokevirtual 27, 3) := by decide +kernel
theorem dX1_isTent_4 : decode cX1_isTent 4 = .ok (.istore_n 1, 1) := by decide +kernel
theorem dX1_isTent_5 : decode cX1_isTent 5 = .ok (.iload_n 1, 1) := by decide +kernel
theorem dX1_isTent_6 : decode cX1_isTent 6 = .ok (.aload_n 0, 1) := by decide +kernel
theorem dX1_isTent_7 : decode cX1_isTent 7 = .ok (.getfield 15, 3) := by decide +kernel
theorem dX1_isTent_10 : decode cX1_isTent 10 = .ok (.if_icmp .ge 30, 3) := by decide +kernel
theorem dX1_isTent_13 : decode cX1_isTent 13 = .ok (.aload_n 0, 1) := by decide +kernel
theorem dX1_isTent_14 : decode cX1_isTent 14 = .ok (.invokevirtual 38, 3) := by decide +kernel
theorem dX1_isTent_17 : decode cX1_isTent 17 = .ok (.aload_n 0, 1) := by decide +kernel
theorem dX1_isTent_18 : decode cX1_isTent 18 = .ok (.getfield 15, 3) := by decide +kernel
theorem dX1_isTent_21 : decode cX1_isTent 21 = .ok (.if_icmp .ne 19, 3) := by decide +kernel
theorem dX1_isTent_24 : decode cX1_isTent 24 = .ok (.aload_n 0, 1) := by decide +kernel
theorem dX1_isTent_25 : decode cX1_isTent 25 = .ok (.getfield 15, 3) := by decide +kernel
theorem dX1_isTent_28 : decode cX1_isTent 28 = .ok (.iload_n 1, 1) := by decide +kernel
theorem dX1_isTent_29 : decode cX1_isTent 29 = .ok (.isub, 1) := by decide +kernel
theorem dX1_isTent_30 : decode cX1_isTent 30 = .ok (.iconst 5, 1) := by decide +kernel
theorem dX1_isTent_31 : decode cX1_isTent 31 = .ok (.irem, 1) := by decide +kernel
theorem dX1_isTent_32 : decode cX1_isTent 32 = .ok (.iconst 4, 1) := by decide +kernel
theorem dX1_isTent_33 : decode cX1_isTent 33 = .ok (.if_icmp .ne 7, 3) := by decide +kernel
theorem dX1_isTent_36 : decode cX1_isTent 36 = .ok (.iconst 1, 1) := by decide +kernel
theorem dX1_isTent_37 : decode cX1_isTent 37 = .ok (.goto 4, 3) := by decide +kernel
theorem dX1_isTent_40 : decode cX1_isTent 40 = .ok (.iconst 0, 1) := by decide +kernel
theorem dX1_isTent_41 : decode cX1_isTent 41 = .ok (.ireturn, 1) := by decide +kernel
theorem dX1_things_0 : decode cX1_things 0 = .ok (.aload_n 0, 1) := by decide +kernel
theorem dX1_things_1 : decode cX1_things 1 = .ok (.invokevirtual 27, 3) := by decide +kernel
theorem dX1_things_4 : decode cX1_things 4 = .ok (.iconst 4, 1) := by decide +kernel
theorem dX1_things_5 : decode cX1_things 5 = .ok (.idiv, 1) := by decide +kernel
theorem dX1_things_6 : decode cX1_things 6 = .ok (.ireturn, 1) := by decide +kernel
theorem dX1_claimers_0 : decode cX1_claimers 0 = .ok (.aload_n 0, 1) := by decide +kernel
theorem dX1_claimers_1 : decode cX1_claimers 1 = .ok (.getfield 15, 3) := by decide +kernel
theorem dX1_claimers_4 : decode cX1_claimers 4 = .ok (.aload_n 0, 1) := by decide +kernel
theorem dX1_claimers_5 : decode cX1_claimers 5 = .ok (.invokevirtual 27, 3) := by decide +kernel
theorem dX1_claimers_8 : decode cX1_claimers 8 = .ok (.isub, 1) := by decide +kernel
theorem dX1_claimers_9 : decode cX1_claimers 9 = .ok (.iconst 1, 1) := by decide +kernel
theorem dX1_claimers_10 : decode cX1_claimers 10 = .ok (.iadd, 1) := by decide +kernel
theorem dX1_claimers_11 : decode cX1_claimers 11 = .ok (.iconst 5, 1) := by decide +kernel
theorem dX1_claimers_12 : decode cX1_claimers 12 = .ok (.idiv, 1) := by decide +kernel
theorem dX1_claimers_13 : decode cX1_claimers 13 = .ok (.ireturn, 1) := by decide +kernel
theorem dX1_thingSign_0 : decode cX1_thingSign 0 = .ok (.aload_n 0, 1) := by decide +kernel
theorem dX1_thingSign_1 : decode cX1_thingSign 1 = .ok (.getfield 9, 3) := by decide +kernel
theorem dX1_thingSign_4 : decode cX1_thingSign 4 = .ok (.iload_n 1, 1) := by decide +kernel
theorem dX1_thingSign_5 : decode cX1_thingSign 5 = .ok (.iconst 4, 1) := by decide +kernel
theorem dX1_thingSign_6 : decode cX1_thingSign 6 = .ok (.imul, 1) := by decide +kernel
theorem dX1_thingSign_7 : decode cX1_thingSign 7 = .ok (.iload_n 2, 1) := by decide +kernel
theorem dX1_thingSign_8 : decode cX1_thingSign 8 = .ok (.iadd, 1) := by decide +kernel
theorem dX1_thingSign_9 : decode cX1_thingSign 9 = .ok (.invokestatic 19, 3) := by decide +kernel
theorem dX1_thingSign_12 : decode cX1_thingSign 12 = .ok (.bipush 48, 2) := by decide +kernel
theorem dX1_thingSign_14 : decode cX1_thingSign 14 = .ok (.isub, 1) := by decide +kernel
theorem dX1_thingSign_15 : decode cX1_thingSign 15 = .ok (.ireturn, 1) := by decide +kernel
theorem dX1_claimerKind_0 : decode cX1_claimerKind 0 = .ok (.aload_n 0, 1) := by decide +kernel
theorem dX1_claimerKind_1 : decode cX1_claimerKind 1 = .ok (.getfield 9, 3) := by decide +kernel
theorem dX1_claimerKind_4 : decode cX1_claimerKind 4 = .ok (.aload_n 0, 1) := by decide +kernel
theorem dX1_claimerKind_5 : decode cX1_claimerKind 5 = .ok (.invokevirtual 27, 3) := by decide +kernel
theorem dX1_claimerKind_8 : decode cX1_claimerKind 8 = .ok (.iload_n 1, 1) := by decide +kernel
theorem dX1_claimerKind_9 : decode cX1_claimerKind 9 = .ok (.iconst 5, 1) := by decide +kernel
theorem dX1_claimerKind_10 : decode cX1_claimerKind 10 = .ok (.imul, 1) := by decide +kernel
theorem dX1_claimerKind_11 : decode cX1_claimerKind 11 = .ok (.iadd, 1) := by decide +kernel
theorem dX1_claimerKind_12 : decode cX1_claimerKind 12 = .ok (.invokestatic 19, 3) := by decide +kernel
theorem dX1_claimerKind_15 : decode cX1_claimerKind 15 = .ok (.invokestatic 41, 3) := by decide +kernel
theorem dX1_claimerKind_18 : decode cX1_claimerKind 18 = .ok (.ireturn, 1) := by decide +kernel
theorem dX1_claimerSign_0 : decode cX1_claimerSign 0 = .ok (.aload_n 0, 1) := by decide +kernel
theorem dX1_claimerSign_1 : decode cX1_claimerSign 1 = .ok (.getfield 9, 3) := by decide +kernel
theorem dX1_claimerSign_4 : decode cX1_claimerSign 4 = .ok (.aload_n 0, 1) := by decide +kernel
theorem dX1_claimerSign_5 : decode cX1_claimerSign 5 = .ok (.invokevirtual 27, 3) := by decide +kernel
theorem dX1_claimerSign_8 : decode cX1_claimerSign 8 = .ok (.iload_n 1, 1) := by decide +kernel
theorem dX1_claimerSign_9 : decode cX1_claimerSign 9 = .ok (.iconst 5, 1) := by decide +kernel
theorem dX1_claimerSign_10 : decode cX1_claimerSign 10 = .ok (.imul, 1) := by decide +kernel
theorem dX1_claimerSign_11 : decode cX1_claimerSign 11 = .ok (.iadd, 1) := by decide +kernel
theorem dX1_claimerSign_12 : decode cX1_claimerSign 12 = .ok (.iconst 1, 1) := by decide +kernel
theorem dX1_claimerSign_13 : decode cX1_claimerSign 13 = .ok (.iadd, 1) := by decide +kernel
theorem dX1_claimerSign_14 : decode cX1_claimerSign 14 = .ok (.iload_n 2, 1) := by decide +kernel
theorem dX1_claimerSign_15 : decode cX1_claimerSign 15 = .ok (.iadd, 1) := by decide +kernel
theorem dX1_claimerSign_16 : decode cX1_claimerSign 16 = .ok (.invokestatic 19, 3) := by decide +kernel
theorem dX1_claimerSign_19 : decode cX1_claimerSign 19 = .ok (.bipush 48, 2) := by decide +kernel
theorem dX1_claimerSign_21 : decode cX1_claimerSign 21 = .ok (.isub, 1) := by decide +kernel
theorem dX1_claimerSign_22 : decode cX1_claimerSign 22 = .ok (.ireturn, 1) := by decide +kernel
theorem dX1_firstClaimer_0 : decode cX1_firstClaimer 0 = .ok (.iconst 0, 1) := by decide +kernel
theorem dX1_firstClaimer_1 : decode cX1_firstClaimer 1 = .ok (.istore_n 1, 1) := by decide +kernel
theorem dX1_firstClaimer_2 : decode cX1_firstClaimer 2 = .ok (.iload_n 1, 1) := by decide +kernel
theorem dX1_firstClaimer_3 : decode cX1_firstClaimer 3 = .ok (.aload_n 0, 1) := by decide +kernel
theorem dX1_firstClaimer_4 : decode cX1_firstClaimer 4 = .ok (.getfield 15, 3) := by decide +kernel
theorem dX1_firstClaimer_7 : decode cX1_firstClaimer 7 = .ok (.if_icmp .ge 26, 3) := by decide +kernel
theorem dX1_firstClaimer_10 : decode cX1_firstClaimer 10 = .ok (.aload_n 0, 1) := by decide +kernel
theorem dX1_firstClaimer_11 : decode cX1_firstClaimer 11 = .ok (.getfield 9, 3) := by decide +kernel
theorem dX1_firstClaimer_14 : decode cX1_firstClaimer 14 = .ok (.iload_n 1, 1) := by decide +kernel
theorem dX1_firstClaimer_15 : decode cX1_firstClaimer 15 = .ok (.invokestatic 19, 3) := by decide +kernel
theorem dX1_firstClaimer_18 : decode cX1_firstClaimer 18 = .ok (.bipush 59, 2) := by decide +kernel
theorem dX1_firstClaimer_20 : decode cX1_firstClaimer 20 = .ok (.if_icmp .ne 7, 3) := by decide +kernel
theorem dX1_firstClaimer_23 : decode cX1_firstClaimer 23 = .ok (.iload_n 1, 1) := by decide +kernel
theorem dX1_firstClaimer_24 : decode cX1_firstClaimer 24 = .ok (.iconst 1, 1) := by decide +kernel
theorem dX1_firstClaimer_25 : decode cX1_firstClaimer 25 = .ok (.iadd, 1) := by decide +kernel
theorem dX1_firstClaimer_26 : decode cX1_firstClaimer 26 = .ok (.ireturn, 1) := by decide +kernel
theorem dX1_firstClaimer_27 : decode cX1_firstClaimer 27 = .ok (.iinc 1 1, 3) := by decide +kernel
theorem dX1_firstClaimer_30 : decode cX1_firstClaimer 30 = .ok (.goto (-28), 3) := by decide +kernel
theorem dX1_firstClaimer_33 : decode cX1_firstClaimer 33 = .ok (.aload_n 0, 1) := by decide +kernel
theorem dX1_firstClaimer_34 : decode cX1_firstClaimer 34 = .ok (.getfield 15, 3) := by decide +kernel
theorem dX1_firstClaimer_37 : decode cX1_firstClaimer 37 = .ok (.ireturn, 1) := by decide +kernel
theorem dX1_isGoodAmongThings_0 : decode cX1_isGoodAmongThings 0 = .ok (.iload_n 0, 1) := by decide +kernel
theorem dX1_isGoodAmongThings_1 : decode cX1_isGoodAmongThings 1 = .ok (.iconst 4, 1) := by decide +kernel
theorem dX1_isGoodAmongThings_2 : decode cX1_isGoodAmongThings 2 = .ok (.idiv, 1) := by decide +kernel
theorem dX1_isGoodAmongThings_3 : decode cX1_isGoodAmongThings 3 = .ok (.istore_n 2, 1) := by decide +kernel
theorem dX1_isGoodAmongThings_4 : decode cX1_isGoodAmongThings 4 = .ok (.iload_n 0, 1) := by decide +kernel
theorem dX1_isGoodAmongThings_5 : decode cX1_isGoodAmongThings 5 = .ok (.iconst 4, 1) := by decide +kernel
theorem dX1_isGoodAmongThings_6 : decode cX1_isGoodAmongThings 6 = .ok (.irem, 1) := by decide +kernel
theorem dX1_isGoodAmongThings_7 : decode cX1_isGoodAmongThings 7 = .ok (.istore_n 3, 1) := by decide +kernel
theorem dX1_isGoodAmongThings_8 : decode cX1_isGoodAmongThings 8 = .ok (.iload_n 3, 1) := by decide +kernel
theorem dX1_isGoodAmongThings_9 : decode cX1_isGoodAmongThings 9 = .ok (.iconst 3, 1) := by decide +kernel
theorem dX1_isGoodAmongThings_10 : decode cX1_isGoodAmongThings 10 = .ok (.if_icmp .ge 9, 3) := by decide +kernel
theorem dX1_isGoodAmongThings_13 : decode cX1_isGoodAmongThings 13 = .ok (.iload_n 3, 1) := by decide +kernel
theorem dX1_isGoodAmongThings_14 : decode cX1_isGoodAmongThings 14 = .ok (.iload_n 1, 1) := by decide +kernel
theorem dX1_isGoodAmongThings_15 : decode cX1_isGoodAmongThings 15 = .ok (.invokestatic 45, 3) := by decide +kernel
theorem dX1_isGoodAmongThings_18 : decode cX1_isGoodAmongThings 18 = .ok (.ireturn, 1) := by decide +kernel
theorem dX1_isGoodAmongThings_19 : decode cX1_isGoodAmongThings 19 = .ok (.iload_n 1, 1) := by decide +kernel
theorem dX1_isGoodAmongThings_20 : decode cX1_isGoodAmongThings 20 = .ok (.bipush 44, 2) := by decide +kernel
theorem dX1_isGoodAmongThings_22 : decode cX1_isGoodAmongThings 22 = .ok (.if_icmp .ne 10, 3) := by decide +kernel
theorem dX1_isGoodAmongThings_25 : decode cX1_isGoodAmongThings 25 = .ok (.iload_n 2, 1) := by decide +kernel
theorem dX1_isGoodAmongThings_26 : decode cX1_isGoodAmongThings 26 = .ok (.iconst 1, 1) := by decide +kernel
theorem dX1_isGoodAmongThings_27 : decode cX1_isGoodAmongThings 27 = .ok (.iadd, 1) := by decide +kernel
theorem dX1_isGoodAmongThings_28 : decode cX1_isGoodAmongThings 28 = .ok (.iconst 5, 1) := by decide +kernel
theorem dX1_isGoodAmongThings_29 : decode cX1_isGoodAmongThings 29 = .ok (.if_icmp .lt 16, 3) := by decide +kernel
theorem dX1_isGoodAmongThings_32 : decode cX1_isGoodAmongThings 32 = .ok (.iload_n 1, 1) := by decide +kernel
theorem dX1_isGoodAmongThings_33 : decode cX1_isGoodAmongThings 33 = .ok (.bipush 59, 2) := by decide +kernel
theorem dX1_isGoodAmongThings_35 : decode cX1_isGoodAmongThings 35 = .ok (.if_icmp .ne 14, 3) := by decide +kernel
theorem dX1_isGoodAmongThings_38 : decode cX1_isGoodAmongThings 38 = .ok (.iload_n 2, 1) := by decide +kernel
theorem dX1_isGoodAmongThings_39 : decode cX1_isGoodAmongThings 39 = .ok (.iconst 1, 1) := by decide +kernel
theorem dX1_isGoodAmongThings_40 : decode cX1_isGoodAmongThings 40 = .ok (.iadd, 1) := by decide +kernel
theorem dX1_isGoodAmongThings_41 : decode cX1_isGoodAmongThings 41 = .ok (.iconst 2, 1) := by decide +kernel
theorem dX1_isGoodAmongThings_42 : decode cX1_isGoodAmongThings 42 = .ok (.if_icmp .lt 7, 3) := by decide +kernel
theorem dX1_isGoodAmongThings_45 : decode cX1_isGoodAmongThings 45 = .ok (.iconst 1, 1) := by decide +kernel
theorem dX1_isGoodAmongThings_46 : decode cX1_isGoodAmongThings 46 = .ok (.goto 4, 3) := by decide +kernel
theorem dX1_isGoodAmongThings_49 : decode cX1_isGoodAmongThings 49 = .ok (.iconst 0, 1) := by decide +kernel
theorem dX1_isGoodAmongThings_50 : decode cX1_isGoodAmongThings 50 = .ok (.ireturn, 1) := by decide +kernel
theorem dX1_isGoodAmongClaimers_0 : decode cX1_isGoodAmongClaimers 0 = .ok (.iload_n 0, 1) := by decide +kernel
theorem dX1_isGoodAmongClaimers_1 : decode cX1_isGoodAmongClaimers 1 = .ok (.iconst 5, 1) := by decide +kernel
theorem dX1_isGoodAmongClaimers_2 : decode cX1_isGoodAmongClaimers 2 = .ok (.idiv, 1) := by decide +kernel
theorem dX1_isGoodAmongClaimers_3 : decode cX1_isGoodAmongClaimers 3 = .ok (.istore_n 2, 1) := by decide +kernel
theorem dX1_isGoodAmongClaimers_4 : decode cX1_isGoodAmongClaimers 4 = .ok (.iload_n 0, 1) := by decide +kernel
theorem dX1_isGoodAmongClaimers_5 : decode cX1_isGoodAmongClaimers 5 = .ok (.iconst 5, 1) := by decide +kernel
theorem dX1_isGoodAmongClaimers_6 : decode cX1_isGoodAmongClaimers 6 = .ok (.irem, 1) := by decide +kernel
theorem dX1_isGoodAmongClaimers_7 : decode cX1_isGoodAmongClaimers 7 = .ok (.istore_n 3, 1) := by decide +kernel
theorem dX1_isGoodAmongClaimers_8 : decode cX1_isGoodAmongClaimers 8 = .ok (.iload_n 3, 1) := by decide +kernel
theorem dX1_isGoodAmongClaimers_9 : decode cX1_isGoodAmongClaimers 9 = .ok (.ifCond .ne 17, 3) := by decide +kernel
theorem dX1_isGoodAmongClaimers_12 : decode cX1_isGoodAmongClaimers 12 = .ok (.iload_n 1, 1) := by decide +kernel
theorem dX1_isGoodAmongClaimers_13 : decode cX1_isGoodAmongClaimers 13 = .ok (.invokestatic 41, 3) := by decide +kernel
theorem dX1_isGoodAmongClaimers_16 : decode cX1_isGoodAmongClaimers 16 = .ok (.iconst (-1), 1) := by decide +kernel
theorem dX1_isGoodAmongClaimers_17 : decode cX1_isGoodAmongClaimers 17 = .ok (.if_icmp .eq 7, 3) := by decide +kernel
theorem dX1_isGoodAmongClaimers_20 : decode cX1_isGoodAmongClaimers 20 = .ok (.iconst 1, 1) := by decide +kernel
theorem dX1_isGoodAmongClaimers_21 : decode cX1_isGoodAmongClaimers 21 = .ok (.goto 4, 3) := by decide +kernel
theorem dX1_isGoodAmongClaimers_24 : decode cX1_isGoodAmongClaimers 24 = .ok (.iconst 0, 1) := by decide +kernel
theorem dX1_isGoodAmongClaimers_25 : decode cX1_isGoodAmongClaimers 25 = .ok (.ireturn, 1) := by decide +kernel
theorem dX1_isGoodAmongClaimers_26 : decode cX1_isGoodAmongClaimers 26 = .ok (.iload_n 3, 1) := by decide +kernel
theorem dX1_isGoodAmongClaimers_27 : decode cX1_isGoodAmongClaimers 27 = .ok (.iconst 3, 1) := by decide +kernel
theorem dX1_isGoodAmongClaimers_28 : decode cX1_isGoodAmongClaimers 28 = .ok (.if_icmp .gt 11, 3) := by decide +kernel
theorem dX1_isGoodAmongClaimers_31 : decode cX1_isGoodAmongClaimers 31 = .ok (.iload_n 3, 1) := by decide +kernel
theorem dX1_isGoodAmongClaimers_32 : decode cX1_isGoodAmongClaimers 32 = .ok (.iconst 1, 1) := by decide +kernel
theorem dX1_isGoodAmongClaimers_33 : decode cX1_isGoodAmongClaimers 33 = .ok (.isub, 1) := by decide +kernel
theorem dX1_isGoodAmongClaimers_34 : decode cX1_isGoodAmongClaimers 34 = .ok (.iload_n 1, 1) := by decide +kernel
theorem dX1_isGoodAmongClaimers_35 : decode cX1_isGoodAmongClaimers 35 = .ok (.invokestatic 45, 3) := by decide +kernel
theorem dX1_isGoodAmongClaimers_38 : decode cX1_isGoodAmongClaimers 38 = .ok (.ireturn, 1) := by decide +kernel
theorem dX1_isGoodAmongClaimers_39 : decode cX1_isGoodAmongClaimers 39 = .ok (.iload_n 1, 1) := by decide +kernel
theorem dX1_isGoodAmongClaimers_40 : decode cX1_isGoodAmongClaimers 40 = .ok (.bipush 44, 2) := by decide +kernel
theorem dX1_isGoodAmongClaimers_42 : decode cX1_isGoodAmongClaimers 42 = .ok (.if_icmp .ne 14, 3) := by decide +kernel
theorem dX1_isGoodAmongClaimers_45 : decode cX1_isGoodAmongClaimers 45 = .ok (.iload_n 2, 1) := by decide +kernel
theorem dX1_isGoodAmongClaimers_46 : decode cX1_isGoodAmongClaimers 46 = .ok (.iconst 1, 1) := by decide +kernel
theorem dX1_isGoodAmongClaimers_47 : decode cX1_isGoodAmongClaimers 47 = .ok (.iadd, 1) := by decide +kernel
theorem dX1_isGoodAmongClaimers_48 : decode cX1_isGoodAmongClaimers 48 = .ok (.iconst 3, 1) := by decide +kernel
theorem dX1_isGoodAmongClaimers_49 : decode cX1_isGoodAmongClaimers 49 = .ok (.if_icmp .ge 7, 3) := by decide +kernel
theorem dX1_isGoodAmongClaimers_52 : decode cX1_isGoodAmongClaimers 52 = .ok (.iconst 1, 1) := by decide +kernel
theorem dX1_isGoodAmongClaimers_53 : decode cX1_isGoodAmongClaimers 53 = .ok (.goto 4, 3) := by decide +kernel
theorem dX1_isGoodAmongClaimers_56 : decode cX1_isGoodAmongClaimers 56 = .ok (.iconst 0, 1) := by decide +kernel
theorem dX1_isGoodAmongClaimers_57 : decode cX1_isGoodAmongClaimers 57 = .ok (.ireturn, 1) := by decide +kernel
theorem dX1_isSign_0 : decode cX1_isSign 0 = .ok (.iload_n 1, 1) := by decide +kernel
theorem dX1_isSign_1 : decode cX1_isSign 1 = .ok (.bipush 48, 2) := by decide +kernel
theorem dX1_isSign_3 : decode cX1_isSign 3 = .ok (.isub, 1) := by decide +kernel
theorem dX1_isSign_4 : decode cX1_isSign 4 = .ok (.getstatic 48, 3) := by decide +kernel
theorem dX1_isSign_7 : decode cX1_isSign 7 = .ok (.iload_n 0, 1) := by decide +kernel
theorem dX1_isSign_8 : decode cX1_isSign 8 = .ok (.invokestatic 19, 3) := by decide +kernel
theorem dX1_isSign_11 : decode cX1_isSign 11 = .ok (.invokestatic 51, 3) := by decide +kernel
theorem dX1_isSign_14 : decode cX1_isSign 14 = .ok (.ireturn, 1) := by decide +kernel
theorem dX1_kindOfLetter_0 : decode cX1_kindOfLetter 0 = .ok (.ldc 54, 2) := by decide +kernel
theorem dX1_kindOfLetter_2 : decode cX1_kindOfLetter 2 = .ok (.iload_n 0, 1) := by decide +kernel
theorem dX1_kindOfLetter_3 : decode cX1_kindOfLetter 3 = .ok (.i2c, 1) := by decide +kernel
theorem dX1_kindOfLetter_4 : decode cX1_kindOfLetter 4 = .ok (.invokevirtual 56, 3) := by decide +kernel
theorem dX1_kindOfLetter_7 : decode cX1_kindOfLetter 7 = .ok (.ireturn, 1) := by decide +kernel
theorem dX2_init_0 : decode cX2_init 0 = .ok (.aload_n 0, 1) := by decide +kernel
theorem dX2_init_1 : decode cX2_init 1 = .ok (.invokespecial 3, 3) := by decide +kernel
theorem dX2_init_4 : decode cX2_init 4 = .ok (.aload_n 0, 1) := by decide +kernel
theorem dX2_init_5 : decode cX2_init 5 = .ok (.iconst 5, 1) := by decide +kernel
theorem dX2_init_6 : decode cX2_init 6 = .ok (.newarray .int, 2) := by decide +kernel
theorem dX2_init_8 : decode cX2_init 8 = .ok (.putfield 9, 3) := by decide +kernel
theorem dX2_init_11 : decode cX2_init 11 = .ok (.aload_n 0, 1) := by decide +kernel
theorem dX2_init_12 : decode cX2_init 12 = .ok (.bipush 9, 2) := by decide +kernel
theorem dX2_init_14 : decode cX2_init 14 = .ok (.newarray .int, 2) := by decide +kernel
theorem dX2_init_16 : decode cX2_init 16 = .ok (.putfield 15, 3) := by decide +kernel
theorem dX2_init_19 : decode cX2_init 19 = .ok (.aload_n 0, 1) := by decide +kernel
theorem dX2_init_20 : decode cX2_init 20 = .ok (.bipush 8, 2) := by decide +kernel
theorem dX2_init_22 : decode cX2_init 22 = .ok (.newarray .int, 2) := by decide +kernel
theorem dX2_init_24 : decode cX2_init 24 = .ok (.putfield 18, 3) := by decide +kernel
theorem dX2_init_27 : decode cX2_init 27 = .ok (.aload_n 0, 1) := by decide +kernel
theorem dX2_init_28 : decode cX2_init 28 = .ok (.bipush 8, 2) := by decide +kernel
theorem dX2_init_30 : decode cX2_init 30 = .ok (.newarray .int, 2) := by decide +kernel
theorem dX2_init_32 : decode cX2_init 32 = .ok (.putfield 21, 3) := by decide +kernel
theorem dX2_init_35 : decode cX2_init 35 = .ok (.aload_n 0, 1) := by decide +kernel
theorem dX2_init_36 : decode cX2_init 36 = .ok (.bipush 8, 2) := by decide +kernel
theorem dX2_init_38 : decode cX2_init 38 = .ok (.newarray .int, 2) := by decide +kernel
theorem dX2_init_40 : decode cX2_init 40 = .ok (.putfield 24, 3) := by decide +kernel
theorem dX2_init_43 : decode cX2_init 43 = .ok (.aload_n 0, 1) := by decide +kernel
theorem dX2_init_44 : decode cX2_init 44 = .ok (.invokevirtual 27, 3) := by decide +kernel
theorem dX2_init_47 : decode cX2_init 47 = .ok (.return_, 1) := by decide +kernel
theorem dX2_begin_0 : decode cX2_begin 0 = .ok (.aload_n 0, 1) := by decide +kernel
theorem dX2_begin_1 : decode cX2_begin 1 = .ok (.invokevirtual 30, 3) := by decide +kernel
theorem dX2_begin_4 : decode cX2_begin 4 = .ok (.aload_n 0, 1) := by decide +kernel
theorem dX2_begin_5 : decode cX2_begin 5 = .ok (.iconst 0, 1) := by decide +kernel
theorem dX2_begin_6 : decode cX2_begin 6 = .ok (.putfield 33, 3) := by decide +kernel
theorem dX2_begin_9 : decode cX2_begin 9 = .ok (.aload_n 0, 1) := by decide +kernel
theorem dX2_begin_10 : decode cX2_begin 10 = .ok (.iconst 0, 1) := by decide +kernel
theorem dX2_begin_11 : decode cX2_begin 11 = .ok (.putfield 37, 3) := by decide +kernel
theorem dX2_begin_14 : decode cX2_begin 14 = .ok (.aload_n 0, 1) := by decide +kernel
theorem dX2_begin_15 : decode cX2_begin 15 = .ok (.iconst 0, 1) := by decide +kernel
theorem dX2_begin_16 : decode cX2_begin 16 = .ok (.putfield 40, 3) := by decide +kernel
theorem dX2_begin_19 : decode cX2_begin 19 = .ok (.aload_n 0, 1) := by decide +kernel
theorem dX2_begin_20 : decode cX2_begin 20 = .ok (.iconst 0, 1) := by decide +kernel
theorem dX2_begin_21 : decode cX2_begin 21 = .ok (.putfield 43, 3) := by decide +kernel
theorem dX2_begin_24 : decode cX2_begin 24 = .ok (.return_, 1) := by decide +kernel
theorem dX2_copyFrom_0 : decode cX2_copyFrom 0 = .ok (.aload_n 1, 1) := by decide +kernel
theorem dX2_copyFrom_1 : decode cX2_copyFrom 1 = .ok (.getfield 9, 3) := by decide +kernel
theorem dX2_copyFrom_4 : decode cX2_copyFrom 4 = .ok (.aload_n 0, 1) := by decide +kernel
theorem dX2_copyFrom_5 : decode cX2_copyFrom 5 = .ok (.getfield 9, 3) := by decide +kernel
theorem dX2_copyFrom_8 : decode cX2_copyFrom 8 = .ok (.invokestatic 46, 3) := by decide +kernel
theorem dX2_copyFrom_11 : decode cX2_copyFrom 11 = .ok (.aload_n 1, 1) := by decide +kernel
theorem dX2_copyFrom_12 : decode cX2_copyFrom 12 = .ok (.getfield 15, 3) := by decide +kernel
theorem dX2_copyFrom_15 : decode cX2_copyFrom 15 = .ok (.aload_n 0, 1) := by decide +kernel
theorem dX2_copyFrom_16 : decode cX2_copyFrom 16 = .ok (.getfield 15, 3) := by decide +kernel
theorem dX2_copyFrom_19 : decode cX2_copyFrom 19 = .ok (.invokestatic 46, 3) := by decide +kernel
theorem dX2_copyFrom_22 : decode cX2_copyFrom 22 = .ok (.aload_n 1, 1) := by decide +kernel
theorem dX2_copyFrom_23 : decode cX2_copyFrom 23 = .ok (.getfield 18, 3) := by decide +kernel
theorem dX2_copyFrom_26 : decode cX2_copyFrom 26 = .ok (.aload_n 0, 1) := by decide +kernel
theorem dX2_copyFrom_27 : decode cX2_copyFrom 27 = .ok (.getfield 18, 3) := by decide +kernel
theorem dX2_copyFrom_30 : decode cX2_copyFrom 30 = .ok (.invokestatic 46, 3) := by decide +kernel
theorem dX2_copyFrom_33 : decode cX2_copyFrom 33 = .ok (.aload_n 1, 1) := by decide +kernel
theorem dX2_copyFrom_34 : decode cX2_copyFrom 34 = .ok (.getfield 21, 3) := by decide +kernel
theorem dX2_copyFrom_37 : decode cX2_copyFrom 37 = .ok (.aload_n 0, 1) := by decide +kernel
theorem dX2_copyFrom_38 : decode cX2_copyFrom 38 = .ok (.getfield 21, 3) := by decide +kernel
theorem dX2_copyFrom_41 : decode cX2_copyFrom 41 = .ok (.invokestatic 46, 3) := by decide +kernel
theorem dX2_copyFrom_44 : decode cX2_copyFrom 44 = .ok (.aload_n 1, 1) := by decide +kernel
theorem dX2_copyFrom_45 : decode cX2_copyFrom 45 = .ok (.getfield 24, 3) := by decide +kernel
theorem dX2_copyFrom_48 : decode cX2_copyFrom 48 = .ok (.aload_n 0, 1) := by decide +kernel
theorem dX2_copyFrom_49 : decode cX2_copyFrom 49 = .ok (.getfield 24, 3) := by decide +kernel
theorem dX2_copyFrom_52 : decode cX2_copyFrom 52 = .ok (.invokestatic 46, 3) := by decide +kernel
theorem dX2_copyFrom_55 : decode cX2_copyFrom 55 = .ok (.aload_n 0, 1) := by decide +kernel
theorem dX2_copyFrom_56 : decode cX2_copyFrom 56 = .ok (.aload_n 1, 1) := by decide +kernel
theorem dX2_copyFrom_57 : decode cX2_copyFrom 57 = .ok (.getfield 33, 3) := by decide +kernel
theorem dX2_copyFrom_60 : decode cX2_copyFrom 60 = .ok (.putfield 33, 3) := by decide +kernel
theorem dX2_copyFrom_63 : decode cX2_copyFrom 63 = .ok (.aload_n 0, 1) := by decide +kernel
theorem dX2_copyFrom_64 : decode cX2_copyFrom 64 = .ok (.aload_n 1, 1) := by decide +kernel
theorem dX2_copyFrom_65 : decode cX2_copyFrom 65 = .ok (.getfield 37, 3) := by decide +kernel
theorem dX2_copyFrom_68 : decode cX2_copyFrom 68 = .ok (.putfield 37, 3) := by decide +kernel
theorem dX2_copyFrom_71 : decode cX2_copyFrom 71 = .ok (.aload_n 0, 1) := by decide +kernel
theorem dX2_copyFrom_72 : decode cX2_copyFrom 72 = .ok (.aload_n 1, 1) := by decide +kernel
theorem dX2_copyFrom_73 : decode cX2_copyFrom 73 = .ok (.getfield 40, 3) := by decide +kernel
theorem dX2_copyFrom_76 : decode cX2_copyFrom 76 = .ok (.putfield 40, 3) := by decide +kernel
theorem dX2_copyFrom_79 : decode cX2_copyFrom 79 = .ok (.aload_n 0, 1) := by decide +kernel
theorem dX2_copyFrom_80 : decode cX2_copyFrom 80 = .ok (.aload_n 1, 1) := by decide +kernel
theorem dX2_copyFrom_81 : decode cX2_copyFrom 81 = .ok (.getfield 43, 3) := by decide +kernel
theorem dX2_copyFrom_84 : decode cX2_copyFrom 84 = .ok (.putfield 43, 3) := by decide +kernel
theorem dX2_copyFrom_87 : decode cX2_copyFrom 87 = .ok (.return_, 1) := by decide +kernel
theorem dX2_holderOf_0 : decode cX2_holderOf 0 = .ok (.aload_n 0, 1) := by decide +kernel
theorem dX2_holderOf_1 : decode cX2_holderOf 1 = .ok (.getfield 9, 3) := by decide +kernel
theorem dX2_holderOf_4 : decode cX2_holderOf 4 = .ok (.iload_n 1, 1) := by decide +kernel
theorem dX2_holderOf_5 : decode cX2_holderOf 5 = .ok (.invokestatic 50, 3) := by decide +kernel
theorem dX2_holderOf_8 : decode cX2_holderOf 8 = .ok (.ireturn, 1) := by decide +kernel
theorem dX2_thingOf_0 : decode cX2_thingOf 0 = .ok (.iconst 0, 1) := by decide +kernel
theorem dX2_thingOf_1 : decode cX2_thingOf 1 = .ok (.istore_n 2, 1) := by decide +kernel
theorem dX2_thingOf_2 : decode cX2_thingOf 2 = .ok (.iload_n 2, 1) := by decide +kernel
theorem dX2_thingOf_3 : decode cX2_thingOf 3 = .ok (.iconst 5, 1) := by decide +kernel
theorem dX2_thingOf_4 : decode cX2_thingOf 4 = .ok (.if_icmp .ge 23, 3) := by decide +kernel
theorem dX2_thingOf_7 : decode cX2_thingOf 7 = .ok (.aload_n 0, 1) := by decide +kernel
theorem dX2_thingOf_8 : decode cX2_thingOf 8 = .ok (.getfield 9, 3) := by decide +kernel
theorem dX2_thingOf_11 : decode cX2_thingOf 11 = .ok (.iload_n 2, 1) := by decide +kernel
theorem dX2_thingOf_12 : decode cX2_thingOf 12 = .ok (.invokestatic 50, 3) := by decide +kernel
theorem dX2_thingOf_15 : decode cX2_thingOf 15 = .ok (.iload_n 1, 1) := by decide +kernel
theorem dX2_thingOf_16 : decode cX2_thingOf 16 = .ok (.if_icmp .ne 5, 3) := by decide +kernel
theorem dX2_thingOf_19 : decode cX2_thingOf 19 = .ok (.iload_n 2, 1) := by decide +kernel
theorem dX2_thingOf_20 : decode cX2_thingOf 20 = .ok (.ireturn, 1) := by decide +kernel
theorem dX2_thingOf_21 : decode cX2_thingOf 21 = .ok (.iinc 2 1, 3) := by decide +kernel
theorem dX2_thingOf_24 : decode cX2_thingOf 24 = .ok (.goto (-22), 3) := by decide +kernel
theorem dX2_thingOf_27 : decode cX2_thingOf 27 = .ok (.iconst (-1), 1) := by decide +kernel
theorem dX2_thingOf_28 : decode cX2_thingOf 28 = .ok (.ireturn, 1) := by decide +kernel
theorem dX2_hand_0 : decode cX2_hand 0 = .ok (.aload_n 0, 1) := by decide +kernel
theorem dX2_hand_1 : decode cX2_hand 1 = .ok (.getfield 9, 3) := by decide +kernel
theorem dX2_hand_4 : decode cX2_hand 4 = .ok (.iload_n 1, 1) := by decide +kernel
theorem dX2_hand_5 : decode cX2_hand 5 = .ok (.iload_n 2, 1) := by decide +kernel
theorem dX2_hand_6 : decode cX2_hand 6 = .ok (.invokestatic 54, 3) := by decide +kernel
theorem dX2_hand_9 : decode cX2_hand 9 = .ok (.return_, 1) := by decide +kernel
theorem dX2_memoryOf_0 : decode cX2_memoryOf 0 = .ok (.aload_n 0, 1) := by decide +kernel
theorem dX2_memoryOf_1 : decode cX2_memoryOf 1 = .ok (.getfield 15, 3) := by decide +kernel
theorem dX2_memoryOf_4 : decode cX2_memoryOf 4 = .ok (.iload_n 1, 1) := by decide +kernel
theorem dX2_memoryOf_5 : decode cX2_memoryOf 5 = .ok (.iconst 3, 1) := by decide +kernel
theorem dX2_memoryOf_6 : decode cX2_memoryOf 6 = .ok (.imul, 1) := by decide +kernel
theorem dX2_memoryOf_7 : decode cX2_memoryOf 7 = .ok (.iload_n 2, 1) := by decide +kernel
theorem dX2_memoryOf_8 : decode cX2_memoryOf 8 = .ok (.iadd, 1) := by decide +kernel
theorem dX2_memoryOf_9 : decode cX2_memoryOf 9 = .ok (.invokestatic 50, 3) := by decide +kernel
theorem dX2_memoryOf_12 : decode cX2_memoryOf 12 = .ok (.ireturn, 1) := by decide +kernel
theorem dX2_setMemory_0 : decode cX2_setMemory 0 = .ok (.aload_n 0, 1) := by decide +kernel
theorem dX2_setMemory_1 : decode cX2_setMemory 1 = .ok (.getfield 15, 3) := by decide +kernel
theorem dX2_setMemory_4 : decode cX2_setMemory 4 = .ok (.iload_n 1, 1) := by decide +kernel
theorem dX2_setMemory_5 : decode cX2_setMemory 5 = .ok (.iconst 3, 1) := by decide +kernel
theorem dX2_setMemory_6 : decode cX2_setMemory 6 = .ok (.imul, 1) := by decide +kernel
theorem dX2_setMemory_7 : decode cX2_setMemory 7 = .ok (.iload_n 2, 1) := by decide +kernel
theorem dX2_setMemory_8 : decode cX2_setMemory 8 = .ok (.iadd, 1) := by decide +kernel
theorem dX2_setMemory_9 : decode cX2_setMemory 9 = .ok (.iload_n 3, 1) := by decide +kernel
theorem dX2_setMemory_10 : decode cX2_setMemory 10 = .ok (.invokestatic 54, 3) := by decide +kernel
theorem dX2_setMemory_13 : decode cX2_setMemory 13 = .ok (.return_, 1) := by decide +kernel
theorem dX2_endMonday_0 : decode cX2_endMonday 0 = .ok (.aload_n 0, 1) := by decide +kernel
theorem dX2_endMonday_1 : decode cX2_endMonday 1 = .ok (.dup, 1) := by decide +kernel
theorem dX2_endMonday_2 : decode cX2_endMonday 2 = .ok (.getfield 40, 3) := by decide +kernel
theorem dX2_endMonday_5 : decode cX2_endMonday 5 = .ok (.iload_n 1, 1) := by decide +kernel
theorem dX2_endMonday_6 : decode cX2_endMonday 6 = .ok (.iadd, 1) := by decide +kernel
theorem dX2_endMonday_7 : decode cX2_endMonday 7 = .ok (.putfield 40, 3) := by decide +kernel
theorem dX2_endMonday_10 : decode cX2_endMonday 10 = .ok (.aload_n 0, 1) := by decide +kernel
theorem dX2_endMonday_11 : decode cX2_endMonday 11 = .ok (.dup, 1) := by decide +kernel
theorem dX2_endMonday_12 : decode cX2_endMonday 12 = .ok (.getfield 43, 3) := by decide +kernel
theorem dX2_endMonday_15 : decode cX2_endMonday 15 = .ok (.iload_n 2, 1) := by decide +kernel
theorem dX2_endMonday_16 : decode cX2_endMonday 16 = .ok (.iadd, 1) := by decide +kernel
theorem dX2_endMonday_17 : decode cX2_endMonday 17 = .ok (.putfield 43, 3) := by decide +kernel
theorem dX2_endMonday_20 : decode cX2_endMonday 20 = .ok (.aload_n 0, 1) := by decide +kernel
theorem dX2_endMonday_21 : decode cX2_endMonday 21 = .ok (.dup, 1) := by decide +kernel
theorem dX2_endMonday_22 : decode cX2_endMonday 22 = .ok (.getfield 37, 3) := by decide +kernel
theorem dX2_endMonday_25 : decode cX2_endMonday 25 = .ok (.iconst 1, 1) := by decide +kernel
theorem dX2_endMonday_26 : decode cX2_endMonday 26 = .ok (.iadd, 1) := by decide +kernel
theorem dX2_endMonday_27 : decode cX2_endMonday 27 = .ok (.putfield 37, 3) := by decide +kernel
theorem dX2_endMonday_30 : decode cX2_endMonday 30 = .ok (.aload_n 0, 1) := by decide +kernel
theorem dX2_endMonday_31 : decode cX2_endMonday 31 = .ok (.invokevirtual 30, 3) := by decide +kernel
theorem dX2_endMonday_34 : decode cX2_endMonday 34 = .ok (.return_, 1) := by decide +kernel
theorem dX2_mondaysOver_0 : decode cX2_mondaysOver 0 = .ok (.aload_n 0, 1) := by decide +kernel
theorem dX2_mondaysOver_1 : decode cX2_mondaysOver 1 = .ok (.getfield 37, 3) := by decide +kernel
theorem dX2_mondaysOver_4 : decode cX2_mondaysOver 4 = .ok (.ireturn, 1) := by decide +kernel
theorem dX2_thingsLeft_0 : decode cX2_thingsLeft 0 = .ok (.aload_n 0, 1) := by decide +kernel
theorem dX2_thingsLeft_1 : decode cX2_thingsLeft 1 = .ok (.getfield 40, 3) := by decide +kernel
theorem dX2_thingsLeft_4 : decode cX2_thingsLeft 4 = .ok (.ireturn, 1) := by decide +kernel
theorem dX2_claimersLeft_0 : decode cX2_claimersLeft 0 = .ok (.aload_n 0, 1) := by decide +kernel
theorem dX2_claimersLeft_1 : decode cX2_claimersLeft 1 = .ok (.getfield 43, 3) := by decide +kernel
theorem dX2_claimersLeft_4 : decode cX2_claimersLeft 4 = .ok (.ireturn, 1) := by decide +kernel
theorem dX2_noteSeen_0 : decode cX2_noteSeen 0 = .ok (.aload_n 0, 1) := by decide +kernel
theorem dX2_noteSeen_1 : decode cX2_noteSeen 1 = .ok (.getfield 33, 3) := by decide +kernel
theorem dX2_noteSeen_4 : decode cX2_noteSeen 4 = .ok (.bipush 8, 2) := by decide +kernel
theorem dX2_noteSeen_6 : decode cX2_noteSeen 6 = .ok (.if_icmp .lt 5, 3) := by decide +kernel
theorem dX2_noteSeen_9 : decode cX2_noteSeen 9 = .ok (.iconst 0, 1) := by decide +kernel
theorem dX2_noteSeen_10 : decode cX2_noteSeen 10 = .ok (.ireturn, 1) := by decide +kernel
theorem dX2_noteSeen_11 : decode cX2_noteSeen 11 = .ok (.aload_n 0, 1) := by decide +kernel
theorem dX2_noteSeen_12 : decode cX2_noteSeen 12 = .ok (.getfield 18, 3) := by decide +kernel
theorem dX2_noteSeen_15 : decode cX2_noteSeen 15 = .ok (.aload_n 0, 1) := by decide +kernel
theorem dX2_noteSeen_16 : decode cX2_noteSeen 16 = .ok (.getfield 33, 3) := by decide +kernel
theorem dX2_noteSeen_19 : decode cX2_noteSeen 19 = .ok (.iload_n 1, 1) := by decide +kernel
theorem dX2_noteSeen_20 : decode cX2_noteSeen 20 = .ok (.invokestatic 54, 3) := by decide +kernel
theorem dX2_noteSeen_23 : decode cX2_noteSeen 23 = .ok (.aload_n 0, 1) := by decide +kernel
theorem dX2_noteSeen_24 : decode cX2_noteSeen 24 = .ok (.getfield 21, 3) := by decide +kernel
theorem dX2_noteSeen_27 : decode cX2_noteSeen 27 = .ok (.aload_n 0, 1) := by decide +kernel
theorem dX2_noteSeen_28 : decode cX2_noteSeen 28 = .ok (.getfield 33, 3) := by decide +kernel
theorem dX2_noteSeen_31 : decode cX2_noteSeen 31 = .ok (.iload_n 2, 1) := by decide +kernel
theorem dX2_noteSeen_32 : decode cX2_noteSeen 32 = .ok (.invokestatic 54, 3) := by decide +kernel
theorem dX2_noteSeen_35 : decode cX2_noteSeen 35 = .ok (.aload_n 0, 1) := by decide +kernel
theorem dX2_noteSeen_36 : decode cX2_noteSeen 36 = .ok (.getfield 24, 3) := by decide +kernel
theorem dX2_noteSeen_39 : decode cX2_noteSeen 39 = .ok (.aload_n 0, 1) := by decide +kernel
theorem dX2_noteSeen_40 : decode cX2_noteSeen 40 = .ok (.getfield 33, 3) := by decide +kernel
theorem dX2_noteSeen_43 : decode cX2_noteSeen 43 = .ok (.iload_n 3, 1) := by decide +kernel
theorem dX2_noteSeen_44 : decode cX2_noteSeen 44 = .ok (.ifCond .eq 7, 3) := by decide +kernel
theorem dX2_noteSeen_47 : decode cX2_noteSeen 47 = .ok (.iconst 1, 1) := by decide +kernel
theorem dX2_noteSeen_48 : decode cX2_noteSeen 48 = .ok (.goto 4, 3) := by decide +kernel
theorem dX2_noteSeen_51 : decode cX2_noteSeen 51 = .ok (.iconst 0, 1) := by decide +kernel
theorem dX2_noteSeen_52 : decode cX2_noteSeen 52 = .ok (.invokestatic 54, 3) := by decide +kernel
theorem dX2_noteSeen_55 : decode cX2_noteSeen 55 = .ok (.aload_n 0, 1) := by decide +kernel
theorem dX2_noteSeen_56 : decode cX2_noteSeen 56 = .ok (.dup, 1) := by decide +kernel
theorem dX2_noteSeen_57 : decode cX2_noteSeen 57 = .ok (.getfield 33, 3) := by decide +kernel
theorem dX2_noteSeen_60 : decode cX2_noteSeen 60 = .ok (.iconst 1, 1) := by decide +kernel
theorem dX2_noteSeen_61 : decode cX2_noteSeen 61 = .ok (.iadd, 1) := by decide +kernel
theorem dX2_noteSeen_62 : decode cX2_noteSeen 62 = .ok (.putfield 33, 3) := by decide +kernel
theorem dX2_noteSeen_65 : decode cX2_noteSeen 65 = .ok (.iconst 1, 1) := by decide +kernel
theorem dX2_noteSeen_66 : decode cX2_noteSeen 66 = .ok (.ireturn, 1) := by decide +kernel
theorem dX2_clearSeen_0 : decode cX2_clearSeen 0 = .ok (.aload_n 0, 1) := by decide +kernel
theorem dX2_clearSeen_1 : decode cX2_clearSeen 1 = .ok (.iconst 0, 1) := by decide +kernel
theorem dX2_clearSeen_2 : decode cX2_clearSeen 2 = .ok (.putfield 33, 3) := by decide +kernel
theorem dX2_clearSeen_5 : decode cX2_clearSeen 5 = .ok (.return_, 1) := by decide +kernel
theorem dX2_seenInAll_0 : decode cX2_seenInAll 0 = .ok (.aload_n 0, 1) := by decide +kernel
theorem dX2_seenInAll_1 : decode cX2_seenInAll 1 = .ok (.getfield 33, 3) := by decide +kernel
theorem dX2_seenInAll_4 : decode cX2_seenInAll 4 = .ok (.ireturn, 1) := by decide +kernel
theorem dX2_seenThing_0 : decode cX2_seenThing 0 = .ok (.aload_n 0, 1) := by decide +kernel
theorem dX2_seenThing_1 : decode cX2_seenThing 1 = .ok (.getfield 18, 3) := by decide +kernel
theorem dX2_seenThing_4 : decode cX2_seenThing 4 = .ok (.iload_n 1, 1) := by decide +kernel
theorem dX2_seenThing_5 : decode cX2_seenThing 5 = .ok (.invokestatic 50, 3) := by decide +kernel
theorem dX2_seenThing_8 : decode cX2_seenThing 8 = .ok (.ireturn, 1) := by decide +kernel
theorem dX2_seenClaimer_0 : decode cX2_seenClaimer 0 = .ok (.aload_n 0, 1) := by decide +kernel
theorem dX2_seenClaimer_1 : decode cX2_seenClaimer 1 = .ok (.getfield 21, 3) := by decide +kernel
theorem dX2_seenClaimer_4 : decode cX2_seenClaimer 4 = .ok (.iload_n 1, 1) := by decide +kernel
theorem dX2_seenClaimer_5 : decode cX2_seenClaimer 5 = .ok (.invokestatic 50, 3) := by decide +kernel
theorem dX2_seenClaimer_8 : decode cX2_seenClaimer 8 = .ok (.ireturn, 1) := by decide +kernel
theorem dX2_seenFitted_0 : decode cX2_seenFitted 0 = .ok (.aload_n 0, 1) := by decide +kernel
theorem dX2_seenFitted_1 : decode cX2_seenFitted 1 = .ok (.getfield 24, 3) := by decide +kernel
theorem dX2_seenFitted_4 : decode cX2_seenFitted 4 = .ok (.iload_n 1, 1) := by decide +kernel
theorem dX2_seenFitted_5 : decode cX2_seenFitted 5 = .ok (.invokestatic 50, 3) := by decide +kernel
theorem dX2_seenFitted_8 : decode cX2_seenFitted 8 = .ok (.iconst 1, 1) := by decide +kernel
theorem dX2_seenFitted_9 : decode cX2_seenFitted 9 = .ok (.if_icmp .ne 7, 3) := by decide +kernel
theorem dX2_seenFitted_12 : decode cX2_seenFitted 12 = .ok (.iconst 1, 1) := by decide +kernel
theorem dX2_seenFitted_13 : decode cX2_seenFitted 13 = .ok (.goto 4, 3) := by decide +kernel
theorem dX2_seenFitted_16 : decode cX2_seenFitted 16 = .ok (.iconst 0, 1) := by decide +kernel
theorem dX2_seenFitted_17 : decode cX2_seenFitted 17 = .ok (.ireturn, 1) := by decide +kernel
theorem dX2_takeAllBack_0 : decode cX2_takeAllBack 0 = .ok (.iconst 0, 1) := by decide +kernel
theorem dX2_takeAllBack_1 : decode cX2_takeAllBack 1 = .ok (.istore_n 1, 1) := by decide +kernel
theorem dX2_takeAllBack_2 : decode cX2_takeAllBack 2 = .ok (.iload_n 1, 1) := by decide +kernel
theorem dX2_takeAllBack_3 : decode cX2_takeAllBack 3 = .ok (.iconst 5, 1) := by decide +kernel
theorem dX2_takeAllBack_4 : decode cX2_takeAllBack 4 = .ok (.if_icmp .ge 18, 3) := by decide +kernel
theorem dX2_takeAllBack_7 : decode cX2_takeAllBack 7 = .ok (.aload_n 0, 1) := by decide +kernel
theorem dX2_takeAllBack_8 : decode cX2_takeAllBack 8 = .ok (.getfield 9, 3) := by decide +kernel
theorem dX2_takeAllBack_11 : decode cX2_takeAllBack 11 = .ok (.iload_n 1, 1) := by decide +kernel
theorem dX2_takeAllBack_12 : decode cX2_takeAllBack 12 = .ok (.iconst (-1), 1) := by decide +kernel
theorem dX2_takeAllBack_13 : decode cX2_takeAllBack 13 = .ok (.invokestatic 54, 3) := by decide +kernel
theorem dX2_takeAllBack_16 : decode cX2_takeAllBack 16 = .ok (.iinc 1 1, 3) := by decide +kernel
theorem dX2_takeAllBack_19 : decode cX2_takeAllBack 19 = .ok (.goto (-17), 3) := by decide +kernel
theorem dX2_takeAllBack_22 : decode cX2_takeAllBack 22 = .ok (.return_, 1) := by decide +kernel
theorem dX3_init_0 : decode cX3_init 0 = .ok (.aload_n 0, 1) := by decide +kernel
theorem dX3_init_1 : decode cX3_init 1 = .ok (.invokespecial 3, 3) := by decide +kernel
theorem dX3_init_4 : decode cX3_init 4 = .ok (.aload_n 0, 1) := by decide +kernel
theorem dX3_init_5 : decode cX3_init 5 = .ok (.bipush 15, 2) := by decide +kernel
theorem dX3_init_7 : decode cX3_init 7 = .ok (.newarray .int, 2) := by decide +kernel
theorem dX3_init_9 : decode cX3_init 9 = .ok (.putfield 9, 3) := by decide +kernel
theorem dX3_init_12 : decode cX3_init 12 = .ok (.aload_n 0, 1) := by decide +kernel
theorem dX3_init_13 : decode cX3_init 13 = .ok (.iconst 3, 1) := by decide +kernel
theorem dX3_init_14 : decode cX3_init 14 = .ok (.newarray .int, 2) := by decide +kernel
theorem dX3_init_16 : decode cX3_init 16 = .ok (.putfield 15, 3) := by decide +kernel
theorem dX3_init_19 : decode cX3_init 19 = .ok (.aload_n 0, 1) := by decide +kernel
theorem dX3_init_20 : decode cX3_init 20 = .ok (.new 18, 3) := by decide +kernel
theorem dX3_init_23 : decode cX3_init 23 = .ok (.dup, 1) := by decide +kernel
theorem dX3_init_24 : decode cX3_init 24 = .ok (.invokespecial 20, 3) := by decide +kernel
theorem dX3_init_27 : decode cX3_init 27 = .ok (.putfield 21, 3) := by decide +kernel
theorem dX3_init_30 : decode cX3_init 30 = .ok (.aload_n 0, 1) := by decide +kernel
theorem dX3_init_31 : decode cX3_init 31 = .ok (.new 18, 3) := by decide +kernel
theorem dX3_init_34 : decode cX3_init 34 = .ok (.dup, 1) := by decide +kernel
theorem dX3_init_35 : decode cX3_init 35 = .ok (.invokespecial 20, 3) := by decide +kernel
theorem dX3_init_38 : decode cX3_init 38 = .ok (.putfield 25, 3) := by decide +kernel
theorem dX3_init_41 : decode cX3_init 41 = .ok (.aload_n 0, 1) := by decide +kernel
theorem dX3_init_42 : decode cX3_init 42 = .ok (.iconst 0, 1) := by decide +kernel
theorem dX3_init_43 : decode cX3_init 43 = .ok (.putfield 28, 3) := by decide +kernel
theorem dX3_init_46 : decode cX3_init 46 = .ok (.aload_n 0, 1) := by decide +kernel
theorem dX3_init_47 : decode cX3_init 47 = .ok (.iconst 0, 1) := by decide +kernel
theorem dX3_init_48 : decode cX3_init 48 = .ok (.putfield 32, 3) := by decide +kernel
theorem dX3_init_51 : decode cX3_init 51 = .ok (.aload_n 0, 1) := by decide +kernel
theorem dX3_init_52 : decode cX3_init 52 = .ok (.iconst 0, 1) := by decide +kernel
theorem dX3_init_53 : decode cX3_init 53 = .ok (.putfield 35, 3) := by decide +kernel
theorem dX3_init_56 : decode cX3_init 56 = .ok (.return_, 1) := by decide +kernel
theorem dX3_readFrom_0 : decode cX3_readFrom 0 = .ok (.aload_n 0, 1) := by decide +kernel
theorem dX3_readFrom_1 : decode cX3_readFrom 1 = .ok (.aload_n 1, 1) := by decide +kernel
theorem dX3_readFrom_2 : decode cX3_readFrom 2 = .ok (.invokevirtual 39, 3) := by decide +kernel
theorem dX3_readFrom_5 : decode cX3_readFrom 5 = .ok (.putfield 28, 3) := by decide +kernel
theorem dX3_readFrom_8 : decode cX3_readFrom 8 = .ok (.aload_n 0, 1) := by decide +kernel
theorem dX3_readFrom_9 : decode cX3_readFrom 9 = .ok (.aload_n 1, 1) := by decide +kernel
theorem dX3_readFrom_10 : decode cX3_readFrom 10 = .ok (.invokevirtual 44, 3) := by decide +kernel
theorem dX3_readFrom_13 : decode cX3_readFrom 13 = .ok (.putfield 32, 3) := by decide +kernel
theorem dX3_readFrom_16 : decode cX3_readFrom 16 = .ok (.aload_n 0, 1) := by decide +kernel
theorem dX3_readFrom_17 : decode cX3_readFrom 17 = .ok (.iconst 0, 1) := by decide +kernel
theorem dX3_readFrom_18 : decode cX3_readFrom 18 = .ok (.putfield 35, 3) := by decide +kernel
theorem dX3_readFrom_21 : decode cX3_readFrom 21 = .ok (.aload_n 0, 1) := by decide +kernel
theorem dX3_readFrom_22 : decode cX3_readFrom 22 = .ok (.getfield 21, 3) := by decide +kernel
theorem dX3_readFrom_25 : decode cX3_readFrom 25 = .ok (.invokevirtual 46, 3) := by decide +kernel
theorem dX3_readFrom_28 : decode cX3_readFrom 28 = .ok (.iconst 0, 1) := by decide +kernel
theorem dX3_readFrom_29 : decode cX3_readFrom 29 = .ok (.istore_n 2, 1) := by decide +kernel
theorem dX3_readFrom_30 : decode cX3_readFrom 30 = .ok (.iload_n 2, 1) := by decide +kernel
theorem dX3_readFrom_31 : decode cX3_readFrom 31 = .ok (.aload_n 0, 1) := by decide +kernel
theorem dX3_readFrom_32 : decode cX3_readFrom 32 = .ok (.getfield 28, 3) := by decide +kernel
theorem dX3_readFrom_35 : decode cX3_readFrom 35 = .ok (.if_icmp .ge 40, 3) := by decide +kernel
theorem dX3_readFrom_38 : decode cX3_readFrom 38 = .ok (.iconst 0, 1) := by decide +kernel
theorem dX3_readFrom_39 : decode cX3_readFrom 39 = .ok (.istore_n 3, 1) := by decide +kernel
theorem dX3_readFrom_40 : decode cX3_readFrom 40 = .ok (.iload_n 3, 1) := by decide +kernel
theorem dX3_readFrom_41 : decode cX3_readFrom 41 = .ok (.iconst 3, 1) := by decide +kernel
theorem dX3_readFrom_42 : decode cX3_readFrom 42 = .ok (.if_icmp .ge 27, 3) := by decide +kernel
theorem dX3_readFrom_45 : decode cX3_readFrom 45 = .ok (.aload_n 0, 1) := by decide +kernel
theorem dX3_readFrom_46 : decode cX3_readFrom 46 = .ok (.getfield 9, 3) := by decide +kernel
theorem dX3_readFrom_49 : decode cX3_readFrom 49 = .ok (.iload_n 2, 1) := by decide +kernel
theorem dX3_readFrom_50 : decode cX3_readFrom 50 = .ok (.iconst 3, 1) := by decide +kernel
theorem dX3_readFrom_51 : decode cX3_readFrom 51 = .ok (.imul, 1) := by decide +kernel
theorem dX3_readFrom_52 : decode cX3_readFrom 52 = .ok (.iload_n 3, 1) := by decide +kernel
theorem dX3_readFrom_53 : decode cX3_readFrom 53 = .ok (.iadd, 1) := by decide +kernel
theorem dX3_readFrom_54 : decode cX3_readFrom 54 = .ok (.aload_n 1, 1) := by decide +kernel
theorem dX3_readFrom_55 : decode cX3_readFrom 55 = .ok (.iload_n 2, 1) := by decide +kernel
theorem dX3_readFrom_56 : decode cX3_readFrom 56 = .ok (.iload_n 3, 1) := by decide +kernel
theorem dX3_readFrom_57 : decode cX3_readFrom 57 = .ok (.invokevirtual 49, 3) := by decide +kernel
theorem dX3_readFrom_60 : decode cX3_readFrom 60 = .ok (.invokestatic 53, 3) := by decide +kernel
theorem dX3_readFrom_63 : decode cX3_readFrom 63 = .ok (.iinc 3 1, 3) := by decide +kernel
theorem dX3_readFrom_66 : decode cX3_readFrom 66 = .ok (.goto (-26), 3) := by decide +kernel
theorem dX3_readFrom_69 : decode cX3_readFrom 69 = .ok (.iinc 2 1, 3) := by decide +kernel
theorem dX3_readFrom_72 : decode cX3_readFrom 72 = .ok (.goto (-42), 3) := by decide +kernel
theorem dX3_readFrom_75 : decode cX3_readFrom 75 = .ok (.iconst 0, 1) := by decide +kernel
theorem dX3_readFrom_76 : decode cX3_readFrom 76 = .ok (.istore_n 2, 1) := by decide +kernel
theorem dX3_readFrom_77 : decode cX3_readFrom 77 = .ok (.iload_n 2, 1) := by decide +kernel
theorem dX3_readFrom_78 : decode cX3_readFrom 78 = .ok (.aload_n 0, 1) := by decide +kernel
theorem dX3_readFrom_79 : decode cX3_readFrom 79 = .ok (.getfield 32, 3) := by decide +kernel
theorem dX3_readFrom_82 : decode cX3_readFrom 82 = .ok (.if_icmp .ge 50, 3) := by decide +kernel
theorem dX3_readFrom_85 : decode cX3_readFrom 85 = .ok (.aload_n 0, 1) := by decide +kernel
theorem dX3_readFrom_86 : decode cX3_readFrom 86 = .ok (.getfield 15, 3) := by decide +kernel
theorem dX3_readFrom_89 : decode cX3_readFrom 89 = .ok (.iload_n 2, 1) := by decide +kernel
theorem dX3_readFrom_90 : decode cX3_readFrom 90 = .ok (.aload_n 1, 1) := by decide +kernel
theorem dX3_readFrom_91 : decode cX3_readFrom 91 = .ok (.iload_n 2, 1) := by decide +kernel
theorem dX3_readFrom_92 : decode cX3_readFrom 92 = .ok (.invokevirtual 57, 3) := by decide +kernel
theorem dX3_readFrom_95 : decode cX3_readFrom 95 = .ok (.invokestatic 53, 3) := by decide +kernel
theorem dX3_readFrom_98 : decode cX3_readFrom 98 = .ok (.iconst 0, 1) := by decide +kernel
theorem dX3_readFrom_99 : decode cX3_readFrom 99 = .ok (.istore_n 3, 1) := by decide +kernel
theorem dX3_readFrom_100 : decode cX3_readFrom 100 = .ok (.iload_n 3, 1) := by decide +kernel
theorem dX3_readFrom_101 : decode cX3_readFrom 101 = .ok (.iconst 3, 1) := by decide +kernel
theorem dX3_readFrom_102 : decode cX3_readFrom 102 = .ok (.if_icmp .ge 24, 3) := by decide +kernel
theorem dX3_readFrom_105 : decode cX3_readFrom 105 = .ok (.aload_n 0, 1) := by decide +kernel
theorem dX3_readFrom_106 : decode cX3_readFrom 106 = .ok (.getfield 21, 3) := by decide +kernel
theorem dX3_readFrom_109 : decode cX3_readFrom 109 = .ok (.iload_n 2, 1) := by decide +kernel
theorem dX3_readFrom_110 : decode cX3_readFrom 110 = .ok (.iload_n 3, 1) := by decide +kernel
theorem dX3_readFrom_111 : decode cX3_readFrom 111 = .ok (.aload_n 1, 1) := by decide +kernel
theorem dX3_readFrom_112 : decode cX3_readFrom 112 = .ok (.iload_n 2, 1) := by decide +kernel
theorem dX3_readFrom_113 : decode cX3_readFrom 113 = .ok (.iload_n 3, 1) := by decide +kernel
theorem dX3_readFrom_114 : decode cX3_readFrom 114 = .ok (.invokevirtual 61, 3) := by decide +kernel
theorem dX3_readFrom_117 : decode cX3_readFrom 117 = .ok (.invokevirtual 64, 3) := by decide +kernel
theorem dX3_readFrom_120 : decode cX3_readFrom 120 = .ok (.iinc 3 1, 3) := by decide +kernel
theorem dX3_readFrom_123 : decode cX3_readFrom 123 = .ok (.goto (-23), 3) := by decide +kernel
theorem dX3_readFrom_126 : decode cX3_readFrom 126 = .ok (.iinc 2 1, 3) := by decide +kernel
theorem dX3_readFrom_129 : decode cX3_readFrom 129 = .ok (.goto (-52), 3) := by decide +kernel
theorem dX3_readFrom_132 : decode cX3_readFrom 132 = .ok (.return_, 1) := by decide +kernel
theorem dX3_stands_0 : decode cX3_stands 0 = .ok (.aload_n 0, 1) := by decide +kernel
theorem dX3_stands_1 : decode cX3_stands 1 = .ok (.getfield 28, 3) := by decide +kernel
theorem dX3_stands_4 : decode cX3_stands 4 = .ok (.ifCond .le 7, 3) := by decide +kernel
theorem dX3_stands_7 : decode cX3_stands 7 = .ok (.iconst 1, 1) := by decide +kernel
theorem dX3_stands_8 : decode cX3_stands 8 = .ok (.goto 4, 3) := by decide +kernel
theorem dX3_stands_11 : decode cX3_stands 11 = .ok (.iconst 0, 1) := by decide +kernel
theorem dX3_stands_12 : decode cX3_stands 12 = .ok (.ireturn, 1) := by decide +kernel
theorem dX3_things_0 : decode cX3_things 0 = .ok (.aload_n 0, 1) := by decide +kernel
theorem dX3_things_1 : decode cX3_things 1 = .ok (.getfield 28, 3) := by decide +kernel
theorem dX3_things_4 : decode cX3_things 4 = .ok (.ireturn, 1) := by decide +kernel
theorem dX3_claimers_0 : decode cX3_claimers 0 = .ok (.aload_n 0, 1) := by decide +kernel
theorem dX3_claimers_1 : decode cX3_claimers 1 = .ok (.getfield 32, 3) := by decide +kernel
theorem dX3_claimers_4 : decode cX3_claimers 4 = .ok (.ireturn, 1) := by decide +kernel
theorem dX3_hasThing_0 : decode cX3_hasThing 0 = .ok (.iload_n 1, 1) := by decide +kernel
theorem dX3_hasThing_1 : decode cX3_hasThing 1 = .ok (.aload_n 0, 1) := by decide +kernel
theorem dX3_hasThing_2 : decode cX3_hasThing 2 = .ok (.getfield 28, 3) := by decide +kernel
theorem dX3_hasThing_5 : decode cX3_hasThing 5 = .ok (.invokestatic 68, 3) := by decide +kernel
theorem dX3_hasThing_8 : decode cX3_hasThing 8 = .ok (.ireturn, 1) := by decide +kernel
theorem dX3_hasClaimer_0 : decode cX3_hasClaimer 0 = .ok (.iload_n 1, 1) := by decide +kernel
theorem dX3_hasClaimer_1 : decode cX3_hasClaimer 1 = .ok (.aload_n 0, 1) := by decide +kernel
theorem dX3_hasClaimer_2 : decode cX3_hasClaimer 2 = .ok (.getfield 32, 3) := by decide +kernel
theorem dX3_hasClaimer_5 : decode cX3_hasClaimer 5 = .ok (.invokestatic 68, 3) := by decide +kernel
theorem dX3_hasClaimer_8 : decode cX3_hasClaimer 8 = .ok (.ireturn, 1) := by decide +kernel
theorem dX3_hasBoth_0 : decode cX3_hasBoth 0 = .ok (.aload_n 0, 1) := by decide +kernel
theorem dX3_hasBoth_1 : decode cX3_hasBoth 1 = .ok (.iload_n 1, 1) := by decide +kernel
theorem dX3_hasBoth_2 : decode cX3_hasBoth 2 = .ok (.invokevirtual 72, 3) := by decide +kernel
theorem dX3_hasBoth_5 : decode cX3_hasBoth 5 = .ok (.ifCond .eq 15, 3) := by decide +kernel
theorem dX3_hasBoth_8 : decode cX3_hasBoth 8 = .ok (.aload_n 0, 1) := by decide +kernel
theorem dX3_hasBoth_9 : decode cX3_hasBoth 9 = .ok (.iload_n 2, 1) := by decide +kernel
theorem dX3_hasBoth_10 : decode cX3_hasBoth 10 = .ok (.invokevirtual 76, 3) := by decide +kernel
theorem dX3_hasBoth_13 : decode cX3_hasBoth 13 = .ok (.ifCond .eq 7, 3) := by decide +kernel
theorem dX3_hasBoth_16 : decode cX3_hasBoth 16 = .ok (.iconst 1, 1) := by decide +kernel
theorem dX3_hasBoth_17 : decode cX3_hasBoth 17 = .ok (.goto 4, 3) := by decide +kernel
theorem dX3_hasBoth_20 : decode cX3_hasBoth 20 = .ok (.iconst 0, 1) := by decide +kernel
theorem dX3_hasBoth_21 : decode cX3_hasBoth 21 = .ok (.ireturn, 1) := by decide +kernel
theorem dX3_register_0 : decode cX3_register 0 = .ok (.aload_n 0, 1) := by decide +kernel
theorem dX3_register_1 : decode cX3_register 1 = .ok (.getfield 21, 3) := by decide +kernel
theorem dX3_register_4 : decode cX3_register 4 = .ok (.areturn, 1) := by decide +kernel
theorem dX3_keepImage_0 : decode cX3_keepImage 0 = .ok (.aload_n 0, 1) := by decide +kernel
theorem dX3_keepImage_1 : decode cX3_keepImage 1 = .ok (.getfield 25, 3) := by decide +kernel
theorem dX3_keepImage_4 : decode cX3_keepImage 4 = .ok (.aload_n 0, 1) := by decide +kernel
theorem dX3_keepImage_5 : decode cX3_keepImage 5 = .ok (.getfield 21, 3) := by decide +kernel
theorem dX3_keepImage_8 : decode cX3_keepImage 8 = .ok (.invokevirtual 79, 3) := by decide +kernel
theorem dX3_keepImage_11 : decode cX3_keepImage 11 = .ok (.aload_n 0, 1) := by decide +kernel
theorem dX3_keepImage_12 : decode cX3_keepImage 12 = .ok (.iconst 1, 1) := by decide +kernel
theorem dX3_keepImage_13 : decode cX3_keepImage 13 = .ok (.putfield 35, 3) := by decide +kernel
theorem dX3_keepImage_16 : decode cX3_keepImage 16 = .ok (.return_, 1) := by decide +kernel
theorem dX3_hasImage_0 : decode cX3_hasImage 0 = .ok (.aload_n 0, 1) := by decide +kernel
theorem dX3_hasImage_1 : decode cX3_hasImage 1 = .ok (.getfield 35, 3) := by decide +kernel
theorem dX3_hasImage_4 : decode cX3_hasImage 4 = .ok (.ireturn, 1) := by decide +kernel
theorem dX3_goOnFromImage_0 : decode cX3_goOnFromImage 0 = .ok (.aload_n 0, 1) := by decide +kernel
theorem dX3_goOnFromImage_1 : decode cX3_goOnFromImage 1 = .ok (.getfield 21, 3) := by decide +kernel
theorem dX3_goOnFromImage_4 : decode cX3_goOnFromImage 4 = .ok (.aload_n 0, 1) := by decide +kernel
theorem dX3_goOnFromImage_5 : decode cX3_goOnFromImage 5 = .ok (.getfield 25, 3) := by decide +kernel
theorem dX3_goOnFromImage_8 : decode cX3_goOnFromImage 8 = .ok (.invokevirtual 79, 3) := by decide +kernel
theorem dX3_goOnFromImage_11 : decode cX3_goOnFromImage 11 = .ok (.return_, 1) := by decide +kernel
theorem dX3_signOf_0 : decode cX3_signOf 0 = .ok (.aload_n 0, 1) := by decide +kernel
theorem dX3_signOf_1 : decode cX3_signOf 1 = .ok (.getfield 9, 3) := by decide +kernel
theorem dX3_signOf_4 : decode cX3_signOf 4 = .ok (.iload_n 1, 1) := by decide +kernel
theorem dX3_signOf_5 : decode cX3_signOf 5 = .ok (.iconst 3, 1) := by decide +kernel
theorem dX3_signOf_6 : decode cX3_signOf 6 = .ok (.imul, 1) := by decide +kernel
theorem dX3_signOf_7 : decode cX3_signOf 7 = .ok (.iload_n 2, 1) := by decide +kernel
theorem dX3_signOf_8 : decode cX3_signOf 8 = .ok (.iadd, 1) := by decide +kernel
theorem dX3_signOf_9 : decode cX3_signOf 9 = .ok (.invokestatic 83, 3) := by decide +kernel
theorem dX3_signOf_12 : decode cX3_signOf 12 = .ok (.ireturn, 1) := by decide +kernel
theorem dX3_kindOf_0 : decode cX3_kindOf 0 = .ok (.aload_n 0, 1) := by decide +kernel
theorem dX3_kindOf_1 : decode cX3_kindOf 1 = .ok (.getfield 15, 3) := by decide +kernel
theorem dX3_kindOf_4 : decode cX3_kindOf 4 = .ok (.iload_n 1, 1) := by decide +kernel
theorem dX3_kindOf_5 : decode cX3_kindOf 5 = .ok (.invokestatic 83, 3) := by decide +kernel
theorem dX3_kindOf_8 : decode cX3_kindOf 8 = .ok (.ireturn, 1) := by decide +kernel
theorem dX3_wrongOf_0 : decode cX3_wrongOf 0 = .ok (.aload_n 0, 1) := by decide +kernel
theorem dX3_wrongOf_1 : decode cX3_wrongOf 1 = .ok (.aload_n 0, 1) := by decide +kernel
theorem dX3_wrongOf_2 : decode cX3_wrongOf 2 = .ok (.iload_n 1, 1) := by decide +kernel
theorem dX3_wrongOf_3 : decode cX3_wrongOf 3 = .ok (.iconst 0, 1) := by decide +kernel
theorem dX3_wrongOf_4 : decode cX3_wrongOf 4 = .ok (.invokevirtual 87, 3) := by decide +kernel
theorem dX3_wrongOf_7 : decode cX3_wrongOf 7 = .ok (.iload_n 1, 1) := by decide +kernel
theorem dX3_wrongOf_8 : decode cX3_wrongOf 8 = .ok (.iload_n 2, 1) := by decide +kernel
theorem dX3_wrongOf_9 : decode cX3_wrongOf 9 = .ok (.invokevirtual 90, 3) := by decide +kernel
theorem dX3_wrongOf_12 : decode cX3_wrongOf 12 = .ok (.ireturn, 1) := by decide +kernel
theorem dX3_fits_0 : decode cX3_fits 0 = .ok (.aload_n 0, 1) := by decide +kernel
theorem dX3_fits_1 : decode cX3_fits 1 = .ok (.iload_n 2, 1) := by decide +kernel
theorem dX3_fits_2 : decode cX3_fits 2 = .ok (.invokevirtual 94, 3) := by decide +kernel
theorem dX3_fits_5 : decode cX3_fits 5 = .ok (.aload_n 0, 1) := by decide +kernel
theorem dX3_fits_6 : decode cX3_fits 6 = .ok (.aload_n 0, 1) := by decide +kernel
theorem dX3_fits_7 : decode cX3_fits 7 = .ok (.iload_n 1, 1) := by decide +kernel
theorem dX3_fits_8 : decode cX3_fits 8 = .ok (.iconst 0, 1) := by decide +kernel
theorem dX3_fits_9 : decode cX3_fits 9 = .ok (.invokevirtual 87, 3) := by decide +kernel
theorem dX3_fits_12 : decode cX3_fits 12 = .ok (.iload_n 1, 1) := by decide +kernel
theorem dX3_fits_13 : decode cX3_fits 13 = .ok (.iload_n 2, 1) := by decide +kernel
theorem dX3_fits_14 : decode cX3_fits 14 = .ok (.invokevirtual 90, 3) := by decide +kernel
theorem dX3_fits_17 : decode cX3_fits 17 = .ok (.invokestatic 97, 3) := by decide +kernel
theorem dX3_fits_20 : decode cX3_fits 20 = .ok (.ireturn, 1) := by decide +kernel
theorem dX3_claimersFitted_0 : decode cX3_claimersFitted 0 = .ok (.iconst 0, 1) := by decide +kernel
theorem dX3_claimersFitted_1 : decode cX3_claimersFitted 1 = .ok (.istore_n 2, 1) := by decide +kernel
theorem dX3_claimersFitted_2 : decode cX3_claimersFitted 2 = .ok (.iconst 0, 1) := by decide +kernel
theorem dX3_claimersFitted_3 : decode cX3_claimersFitted 3 = .ok (.istore_n 3, 1) := by decide +kernel
theorem dX3_claimersFitted_4 : decode cX3_claimersFitted 4 = .ok (.iload_n 3, 1) := by decide +kernel
theorem dX3_claimersFitted_5 : decode cX3_claimersFitted 5 = .ok (.aload_n 0, 1) := by decide +kernel
theorem dX3_claimersFitted_6 : decode cX3_claimersFitted 6 = .ok (.getfield 32, 3) := by decide +kernel
theorem dX3_claimersFitted_9 : decode cX3_claimersFitted 9 = .ok (.if_icmp .ge 24, 3) := by decide +kernel
theorem dX3_claimersFitted_12 : decode cX3_claimersFitted 12 = .ok (.aload_n 0, 1) := by decide +kernel
theorem dX3_claimersFitted_13 : decode cX3_claimersFitted 13 = .ok (.iload_n 1, 1) := by decide +kernel
theorem dX3_claimersFitted_14 : decode cX3_claimersFitted 14 = .ok (.iload_n 3, 1) := by decide +kernel
theorem dX3_claimersFitted_15 : decode cX3_claimersFitted 15 = .ok (.invokevirtual 100, 3) := by decide +kernel
theorem dX3_claimersFitted_18 : decode cX3_claimersFitted 18 = .ok (.ifCond .eq 9, 3) := by decide +kernel
theorem dX3_claimersFitted_21 : decode cX3_claimersFitted 21 = .ok (.iload_n 2, 1) := by decide +kernel
theorem dX3_claimersFitted_22 : decode cX3_claimersFitted 22 = .ok (.iconst 1, 1) := by decide +kernel
theorem dX3_claimersFitted_23 : decode cX3_claimersFitted 23 = .ok (.iload_n 3, 1) := by decide +kernel
theorem dX3_claimersFitted_24 : decode cX3_claimersFitted 24 = .ok (.ishl, 1) := by decide +kernel
theorem dX3_claimersFitted_25 : decode cX3_claimersFitted 25 = .ok (.ior, 1) := by decide +kernel
theorem dX3_claimersFitted_26 : decode cX3_claimersFitted 26 = .ok (.istore_n 2, 1) := by decide +kernel
theorem dX3_claimersFitted_27 : decode cX3_claimersFitted 27 = .ok (.iinc 3 1, 3) := by decide +kernel
theorem dX3_claimersFitted_30 : decode cX3_claimersFitted 30 = .ok (.goto (-26), 3) := by decide +kernel
theorem dX3_claimersFitted_33 : decode cX3_claimersFitted 33 = .ok (.iload_n 2, 1) := by decide +kernel
theorem dX3_claimersFitted_34 : decode cX3_claimersFitted 34 = .ok (.ireturn, 1) := by decide +kernel
theorem dX3_thingsFitting_0 : decode cX3_thingsFitting 0 = .ok (.iconst 0, 1) := by decide +kernel
theorem dX3_thingsFitting_1 : decode cX3_thingsFitting 1 = .ok (.istore_n 2, 1) := by decide +kernel
theorem dX3_thingsFitting_2 : decode cX3_thingsFitting 2 = .ok (.iconst 0, 1) := by decide +kernel
theorem dX3_thingsFitting_3 : decode cX3_thingsFitting 3 = .ok (.istore_n 3, 1) := by decide +kernel
theorem dX3_thingsFitting_4 : decode cX3_thingsFitting 4 = .ok (.iload_n 3, 1) := by decide +kernel
theorem dX3_thingsFitting_5 : decode cX3_thingsFitting 5 = .ok (.aload_n 0, 1) := by decide +kernel
theorem dX3_thingsFitting_6 : decode cX3_thingsFitting 6 = .ok (.getfield 28, 3) := by decide +kernel
theorem dX3_thingsFitting_9 : decode cX3_thingsFitting 9 = .ok (.if_icmp .ge 24, 3) := by decide +kernel
theorem dX3_thingsFitting_12 : decode cX3_thingsFitting 12 = .ok (.aload_n 0, 1) := by decide +kernel
theorem dX3_thingsFitting_13 : decode cX3_thingsFitting 13 = .ok (.iload_n 3, 1) := by decide +kernel
theorem dX3_thingsFitting_14 : decode cX3_thingsFitting 14 = .ok (.iload_n 1, 1) := by decide +kernel
theorem dX3_thingsFitting_15 : decode cX3_thingsFitting 15 = .ok (.invokevirtual 100, 3) := by decide +kernel
theorem dX3_thingsFitting_18 : decode cX3_thingsFitting 18 = .ok (.ifCond .eq 9, 3) := by decide +kernel
theorem dX3_thingsFitting_21 : decode cX3_thingsFitting 21 = .ok (.iload_n 2, 1) := by decide +kernel
theorem dX3_thingsFitting_22 : decode cX3_thingsFitting 22 = .ok (.iconst 1, 1) := by decide +kernel
theorem dX3_thingsFitting_23 : decode cX3_thingsFitting 23 = .ok (.iload_n 3, 1) := by decide +kernel
theorem dX3_thingsFitting_24 : decode cX3_thingsFitting 24 = .ok (.ishl, 1) := by decide +kernel
theorem dX3_thingsFitting_25 : decode cX3_thingsFitting 25 = .ok (.ior, 1) := by decide +kernel
theorem dX3_thingsFitting_26 : decode cX3_thingsFitting 26 = .ok (.istore_n 2, 1) := by decide +kernel
theorem dX3_thingsFitting_27 : decode cX3_thingsFitting 27 = .ok (.iinc 3 1, 3) := by decide +kernel
theorem dX3_thingsFitting_30 : decode cX3_thingsFitting 30 = .ok (.goto (-26), 3) := by decide +kernel
theorem dX3_thingsFitting_33 : decode cX3_thingsFitting 33 = .ok (.iload_n 2, 1) := by decide +kernel
theorem dX3_thingsFitting_34 : decode cX3_thingsFitting 34 = .ok (.ireturn, 1) := by decide +kernel
theorem dX3_thingsNotGiven_0 : decode cX3_thingsNotGiven 0 = .ok (.iconst 0, 1) := by decide +kernel
theorem dX3_thingsNotGiven_1 : decode cX3_thingsNotGiven 1 = .ok (.istore_n 1, 1) := by decide +kernel
theorem dX3_thingsNotGiven_2 : decode cX3_thingsNotGiven 2 = .ok (.iconst 0, 1) := by decide +kernel
theorem dX3_thingsNotGiven_3 : decode cX3_thingsNotGiven 3 = .ok (.istore_n 2, 1) := by decide +kernel
theorem dX3_thingsNotGiven_4 : decode cX3_thingsNotGiven 4 = .ok (.iload_n 2, 1) := by decide +kernel
theorem dX3_thingsNotGiven_5 : decode cX3_thingsNotGiven 5 = .ok (.aload_n 0, 1) := by decide +kernel
theorem dX3_thingsNotGiven_6 : decode cX3_thingsNotGiven 6 = .ok (.getfield 28, 3) := by decide +kernel
theorem dX3_thingsNotGiven_9 : decode cX3_thingsNotGiven 9 = .ok (.if_icmp .ge 27, 3) := by decide +kernel
theorem dX3_thingsNotGiven_12 : decode cX3_thingsNotGiven 12 = .ok (.aload_n 0, 1) := by decide +kernel
theorem dX3_thingsNotGiven_13 : decode cX3_thingsNotGiven 13 = .ok (.getfield 21, 3) := by decide +kernel
theorem dX3_thingsNotGiven_16 : decode cX3_thingsNotGiven 16 = .ok (.iload_n 2, 1) := by decide +kernel
theorem dX3_thingsNotGiven_17 : decode cX3_thingsNotGiven 17 = .ok (.invokevirtual 103, 3) := by decide +kernel
theorem dX3_thingsNotGiven_20 : decode cX3_thingsNotGiven 20 = .ok (.iconst (-1), 1) := by decide +kernel
theorem dX3_thingsNotGiven_21 : decode cX3_thingsNotGiven 21 = .ok (.if_icmp .ne 9, 3) := by decide +kernel
theorem dX3_thingsNotGiven_24 : decode cX3_thingsNotGiven 24 = .ok (.iload_n 1, 1) := by decide +kernel
theorem dX3_thingsNotGiven_25 : decode cX3_thingsNotGiven 25 = .ok (.iconst 1, 1) := by decide +kernel
theorem dX3_thingsNotGiven_26 : decode cX3_thingsNotGiven 26 = .ok (.iload_n 2, 1) := by decide +kernel
theorem dX3_thingsNotGiven_27 : decode cX3_thingsNotGiven 27 = .ok (.ishl, 1) := by decide +kernel
theorem dX3_thingsNotGiven_28 : decode cX3_thingsNotGiven 28 = .ok (.ior, 1) := by decide +kernel
theorem dX3_thingsNotGiven_29 : decode cX3_thingsNotGiven 29 = .ok (.istore_n 1, 1) := by decide +kernel
theorem dX3_thingsNotGiven_30 : decode cX3_thingsNotGiven 30 = .ok (.iinc 2 1, 3) := by decide +kernel
theorem dX3_thingsNotGiven_33 : decode cX3_thingsNotGiven 33 = .ok (.goto (-29), 3) := by decide +kernel
theorem dX3_thingsNotGiven_36 : decode cX3_thingsNotGiven 36 = .ok (.iload_n 1, 1) := by decide +kernel
theorem dX3_thingsNotGiven_37 : decode cX3_thingsNotGiven 37 = .ok (.ireturn, 1) := by decide +kernel
theorem dX3_given_0 : decode cX3_given 0 = .ok (.aload_n 0, 1) := by decide +kernel
theorem dX3_given_1 : decode cX3_given 1 = .ok (.getfield 28, 3) := by decide +kernel
theorem dX3_given_4 : decode cX3_given 4 = .ok (.aload_n 0, 1) := by decide +kernel
theorem dX3_given_5 : decode cX3_given 5 = .ok (.invokevirtual 106, 3) := by decide +kernel
theorem dX3_given_8 : decode cX3_given 8 = .ok (.invokestatic 109, 3) := by decide +kernel
theorem dX3_given_11 : decode cX3_given 11 = .ok (.isub, 1) := by decide +kernel
theorem dX3_given_12 : decode cX3_given 12 = .ok (.ireturn, 1) := by decide +kernel
theorem dX3_givenThatFit_0 : decode cX3_givenThatFit 0 = .ok (.iconst 0, 1) := by decide +kernel
theorem dX3_givenThatFit_1 : decode cX3_givenThatFit 1 = .ok (.istore_n 1, 1) := by decide +kernel
theorem dX3_givenThatFit_2 : decode cX3_givenThatFit 2 = .ok (.iconst 0, 1) := by decide +kernel
theorem dX3_givenThatFit_3 : decode cX3_givenThatFit 3 = .ok (.istore_n 2, 1) := by decide +kernel
theorem dX3_givenThatFit_4 : decode cX3_givenThatFit 4 = .ok (.iload_n 2, 1) := by decide +kernel
theorem dX3_givenThatFit_5 : decode cX3_givenThatFit 5 = .ok (.aload_n 0, 1) := by decide +kernel
theorem dX3_givenThatFit_6 : decode cX3_givenThatFit 6 = .ok (.getfield 28, 3) := by decide +kernel
theorem dX3_givenThatFit_9 : decode cX3_givenThatFit 9 = .ok (.if_icmp .ge 35, 3) := by decide +kernel
theorem dX3_givenThatFit_12 : decode cX3_givenThatFit 12 = .ok (.aload_n 0, 1) := by decide +kernel
theorem dX3_givenThatFit_13 : decode cX3_givenThatFit 13 = .ok (.getfield 21, 3) := by decide +kernel
theorem dX3_givenThatFit_16 : decode cX3_givenThatFit 16 = .ok (.iload_n 2, 1) := by decide +kernel
theorem dX3_givenThatFit_17 : decode cX3_givenThatFit 17 = .ok (.invokevirtual 103, 3) := by decide +kernel
theorem dX3_givenThatFit_20 : decode cX3_givenThatFit 20 = .ok (.istore_n 3, 1) := by decide +kernel
theorem dX3_givenThatFit_21 : decode cX3_givenThatFit 21 = .ok (.iload_n 3, 1) := by decide +kernel
theorem dX3_givenThatFit_22 : decode cX3_givenThatFit 22 = .ok (.iconst (-1), 1) := by decide +kernel
theorem dX3_givenThatFit_23 : decode cX3_givenThatFit 23 = .ok (.if_icmp .eq 15, 3) := by decide +kernel
theorem dX3_givenThatFit_26 : decode cX3_givenThatFit 26 = .ok (.aload_n 0, 1) := by decide +kernel
theorem dX3_givenThatFit_27 : decode cX3_givenThatFit 27 = .ok (.iload_n 2, 1) := by decide +kernel
theorem dX3_givenThatFit_28 : decode cX3_givenThatFit 28 = .ok (.iload_n 3, 1) := by decide +kernel
theorem dX3_givenThatFit_29 : decode cX3_givenThatFit 29 = .ok (.invokevirtual 100, 3) := by decide +kernel
theorem dX3_givenThatFit_32 : decode cX3_givenThatFit 32 = .ok (.ifCond .eq 6, 3) := by decide +kernel
theorem dX3_givenThatFit_35 : decode cX3_givenThatFit 35 = .ok (.iinc 1 1, 3) := by decide +kernel
theorem dX3_givenThatFit_38 : decode cX3_givenThatFit 38 = .ok (.iinc 2 1, 3) := by decide +kernel
theorem dX3_givenThatFit_41 : decode cX3_givenThatFit 41 = .ok (.goto (-37), 3) := by decide +kernel
theorem dX3_givenThatFit_44 : decode cX3_givenThatFit 44 = .ok (.iload_n 1, 1) := by decide +kernel
theorem dX3_givenThatFit_45 : decode cX3_givenThatFit 45 = .ok (.ireturn, 1) := by decide +kernel
theorem dX3_givenWrong_0 : decode cX3_givenWrong 0 = .ok (.iconst 0, 1) := by decide +kernel
theorem dX3_givenWrong_1 : decode cX3_givenWrong 1 = .ok (.istore_n 1, 1) := by decide +kernel
theorem dX3_givenWrong_2 : decode cX3_givenWrong 2 = .ok (.iconst 0, 1) := by decide +kernel
theorem dX3_givenWrong_3 : decode cX3_givenWrong 3 = .ok (.istore_n 2, 1) := by decide +kernel
theorem dX3_givenWrong_4 : decode cX3_givenWrong 4 = .ok (.iload_n 2, 1) := by decide +kernel
theorem dX3_givenWrong_5 : decode cX3_givenWrong 5 = .ok (.aload_n 0, 1) := by decide +kernel
theorem dX3_givenWrong_6 : decode cX3_givenWrong 6 = .ok (.getfield 28, 3) := by decide +kernel
theorem dX3_givenWrong_9 : decode cX3_givenWrong 9 = .ok (.if_icmp .ge 32, 3) := by decide +kernel
theorem dX3_givenWrong_12 : decode cX3_givenWrong 12 = .ok (.aload_n 0, 1) := by decide +kernel
theorem dX3_givenWrong_13 : decode cX3_givenWrong 13 = .ok (.getfield 21, 3) := by decide +kernel
theorem dX3_givenWrong_16 : decode cX3_givenWrong 16 = .ok (.iload_n 2, 1) := by decide +kernel
theorem dX3_givenWrong_17 : decode cX3_givenWrong 17 = .ok (.invokevirtual 103, 3) := by decide +kernel
theorem dX3_givenWrong_20 : decode cX3_givenWrong 20 = .ok (.istore_n 3, 1) := by decide +kernel
theorem dX3_givenWrong_21 : decode cX3_givenWrong 21 = .ok (.iload_n 3, 1) := by decide +kernel
theorem dX3_givenWrong_22 : decode cX3_givenWrong 22 = .ok (.iconst (-1), 1) := by decide +kernel
theorem dX3_givenWrong_23 : decode cX3_givenWrong 23 = .ok (.if_icmp .eq 12, 3) := by decide +kernel
theorem dX3_givenWrong_26 : decode cX3_givenWrong 26 = .ok (.iload_n 1, 1) := by decide +kernel
theorem dX3_givenWrong_27 : decode cX3_givenWrong 27 = .ok (.aload_n 0, 1) := by decide +kernel
theorem dX3_givenWrong_28 : decode cX3_givenWrong 28 = .ok (.iload_n 2, 1) := by decide +kernel
theorem dX3_givenWrong_29 : decode cX3_givenWrong 29 = .ok (.iload_n 3, 1) := by decide +kernel
theorem dX3_givenWrong_30 : decode cX3_givenWrong 30 = .ok (.invokevirtual 114, 3) := by decide +kernel
theorem dX3_givenWrong_33 : decode cX3_givenWrong 33 = .ok (.iadd, 1) := by decide +kernel
theorem dX3_givenWrong_34 : decode cX3_givenWrong 34 = .ok (.istore_n 1, 1) := by decide +kernel
theorem dX3_givenWrong_35 : decode cX3_givenWrong 35 = .ok (.iinc 2 1, 3) := by decide +kernel
theorem dX3_givenWrong_38 : decode cX3_givenWrong 38 = .ok (.goto (-34), 3) := by decide +kernel
theorem dX3_givenWrong_41 : decode cX3_givenWrong 41 = .ok (.iload_n 1, 1) := by decide +kernel
theorem dX3_givenWrong_42 : decode cX3_givenWrong 42 = .ok (.ireturn, 1) := by decide +kernel
theorem dX3_signToAsk_0 : decode cX3_signToAsk 0 = .ok (.iload_n 1, 1) := by decide +kernel
theorem dX3_signToAsk_1 : decode cX3_signToAsk 1 = .ok (.ifCond .ne 5, 3) := by decide +kernel
theorem dX3_signToAsk_4 : decode cX3_signToAsk 4 = .ok (.iconst (-1), 1) := by decide +kernel
theorem dX3_signToAsk_5 : decode cX3_signToAsk 5 = .ok (.ireturn, 1) := by decide +kernel
theorem dX3_signToAsk_6 : decode cX3_signToAsk 6 = .ok (.iconst (-1), 1) := by decide +kernel
theorem dX3_signToAsk_7 : decode cX3_signToAsk 7 = .ok (.istore_n 2, 1) := by decide +kernel
theorem dX3_signToAsk_8 : decode cX3_signToAsk 8 = .ok (.iconst 0, 1) := by decide +kernel
theorem dX3_signToAsk_9 : decode cX3_signToAsk 9 = .ok (.istore_n 3, 1) := by decide +kernel
theorem dX3_signToAsk_10 : decode cX3_signToAsk 10 = .ok (.iconst 0, 1) := by decide +kernel
theorem dX3_signToAsk_11 : decode cX3_signToAsk 11 = .ok (.istore 4, 2) := by decide +kernel
theorem dX3_signToAsk_13 : decode cX3_signToAsk 13 = .ok (.iload 4, 2) := by decide +kernel
theorem dX3_signToAsk_15 : decode cX3_signToAsk 15 = .ok (.iconst 3, 1) := by decide +kernel
theorem dX3_signToAsk_16 : decode cX3_signToAsk 16 = .ok (.if_icmp .ge 35, 3) := by decide +kernel
theorem dX3_signToAsk_19 : decode cX3_signToAsk 19 = .ok (.aload_n 0, 1) := by decide +kernel
theorem dX3_signToAsk_20 : decode cX3_signToAsk 20 = .ok (.iload_n 1, 1) := by decide +kernel
theorem dX3_signToAsk_21 : decode cX3_signToAsk 21 = .ok (.iload 4, 2) := by decide +kernel
theorem dX3_signToAsk_23 : decode cX3_signToAsk 23 = .ok (.invokevirtual 117, 3) := by decide +kernel
theorem dX3_signToAsk_26 : decode cX3_signToAsk 26 = .ok (.istore 5, 2) := by decide +kernel
theorem dX3_signToAsk_28 : decode cX3_signToAsk 28 = .ok (.iload_n 2, 1) := by decide +kernel
theorem dX3_signToAsk_29 : decode cX3_signToAsk 29 = .ok (.iconst (-1), 1) := by decide +kernel
theorem dX3_signToAsk_30 : decode cX3_signToAsk 30 = .ok (.if_icmp .eq 9, 3) := by decide +kernel
theorem dX3_signToAsk_33 : decode cX3_signToAsk 33 = .ok (.iload 5, 2) := by decide +kernel
theorem dX3_signToAsk_35 : decode cX3_signToAsk 35 = .ok (.iload_n 3, 1) := by decide +kernel
theorem dX3_signToAsk_36 : decode cX3_signToAsk 36 = .ok (.if_icmp .ge 9, 3) := by decide +kernel
theorem dX3_signToAsk_39 : decode cX3_signToAsk 39 = .ok (.iload 4, 2) := by decide +kernel
theorem dX3_signToAsk_41 : decode cX3_signToAsk 41 = .ok (.istore_n 2, 1) := by decide +kernel
theorem dX3_signToAsk_42 : decode cX3_signToAsk 42 = .ok (.iload 5, 2) := by decide +kernel
theorem dX3_signToAsk_44 : decode cX3_signToAsk 44 = .ok (.istore_n 3, 1) := by decide +kernel
theorem dX3_signToAsk_45 : decode cX3_signToAsk 45 = .ok (.iinc 4 1, 3) := by decide +kernel
theorem dX3_signToAsk_48 : decode cX3_signToAsk 48 = .ok (.goto (-35), 3) := by decide +kernel
theorem dX3_signToAsk_51 : decode cX3_signToAsk 51 = .ok (.iload_n 2, 1) := by decide +kernel
theorem dX3_signToAsk_52 : decode cX3_signToAsk 52 = .ok (.ireturn, 1) := by decide +kernel
theorem dX3_mostAlike_0 : decode cX3_mostAlike 0 = .ok (.iconst 0, 1) := by decide +kernel
theorem dX3_mostAlike_1 : decode cX3_mostAlike 1 = .ok (.istore_n 3, 1) := by decide +kernel
theorem dX3_mostAlike_2 : decode cX3_mostAlike 2 = .ok (.iconst 0, 1) := by decide +kernel
theorem dX3_mostAlike_3 : decode cX3_mostAlike 3 = .ok (.istore 4, 2) := by decide +kernel
theorem dX3_mostAlike_5 : decode cX3_mostAlike 5 = .ok (.iload 4, 2) := by decide +kernel
theorem dX3_mostAlike_7 : decode cX3_mostAlike 7 = .ok (.aload_n 0, 1) := by decide +kernel
theorem dX3_mostAlike_8 : decode cX3_mostAlike 8 = .ok (.getfield 28, 3) := by decide +kernel
theorem dX3_mostAlike_11 : decode cX3_mostAlike 11 = .ok (.if_icmp .ge 36, 3) := by decide +kernel
theorem dX3_mostAlike_14 : decode cX3_mostAlike 14 = .ok (.iload_n 1, 1) := by decide +kernel
theorem dX3_mostAlike_15 : decode cX3_mostAlike 15 = .ok (.iload 4, 2) := by decide +kernel
theorem dX3_mostAlike_17 : decode cX3_mostAlike 17 = .ok (.invokestatic 120, 3) := by decide +kernel
theorem dX3_mostAlike_20 : decode cX3_mostAlike 20 = .ok (.ifCond .eq 21, 3) := by decide +kernel
theorem dX3_mostAlike_23 : decode cX3_mostAlike 23 = .ok (.iload_n 3, 1) := by decide +kernel
theorem dX3_mostAlike_24 : decode cX3_mostAlike 24 = .ok (.aload_n 0, 1) := by decide +kernel
theorem dX3_mostAlike_25 : decode cX3_mostAlike 25 = .ok (.iload_n 1, 1) := by decide +kernel
theorem dX3_mostAlike_26 : decode cX3_mostAlike 26 = .ok (.iload_n 2, 1) := by decide +kernel
theorem dX3_mostAlike_27 : decode cX3_mostAlike 27 = .ok (.aload_n 0, 1) := by decide +kernel
theorem dX3_mostAlike_28 : decode cX3_mostAlike 28 = .ok (.iload 4, 2) := by decide +kernel
theorem dX3_mostAlike_30 : decode cX3_mostAlike 30 = .ok (.iload_n 2, 1) := by decide +kernel
theorem dX3_mostAlike_31 : decode cX3_mostAlike 31 = .ok (.invokevirtual 87, 3) := by decide +kernel
theorem dX3_mostAlike_34 : decode cX3_mostAlike 34 = .ok (.invokevirtual 123, 3) := by decide +kernel
theorem dX3_mostAlike_37 : decode cX3_mostAlike 37 = .ok (.invokestatic 126, 3) := by decide +kernel
theorem dX3_mostAlike_40 : decode cX3_mostAlike 40 = .ok (.istore_n 3, 1) := by decide +kernel
theorem dX3_mostAlike_41 : decode cX3_mostAlike 41 = .ok (.iinc 4 1, 3) := by decide +kernel
theorem dX3_mostAlike_44 : decode cX3_mostAlike 44 = .ok (.goto (-39), 3) := by decide +kernel
theorem dX3_mostAlike_47 : decode cX3_mostAlike 47 = .ok (.iload_n 3, 1) := by decide +kernel
theorem dX3_mostAlike_48 : decode cX3_mostAlike 48 = .ok (.ireturn, 1) := by decide +kernel
theorem dX3_howManyAlike_0 : decode cX3_howManyAlike 0 = .ok (.iconst 0, 1) := by decide +kernel
theorem dX3_howManyAlike_1 : decode cX3_howManyAlike 1 = .ok (.istore 4, 2) := by decide +kernel
theorem dX3_howManyAlike_3 : decode cX3_howManyAlike 3 = .ok (.iconst 0, 1) := by decide +kernel
theorem dX3_howManyAlike_4 : decode cX3_howManyAlike 4 = .ok (.istore 5, 2) := by decide +kernel
theorem dX3_howManyAlike_6 : decode cX3_howManyAlike 6 = .ok (.iload 5, 2) := by decide +kernel
theorem dX3_howManyAlike_8 : decode cX3_howManyAlike 8 = .ok (.aload_n 0, 1) := by decide +kernel
theorem dX3_howManyAlike_9 : decode cX3_howManyAlike 9 = .ok (.getfield 28, 3) := by decide +kernel
theorem dX3_howManyAlike_12 : decode cX3_howManyAlike 12 = .ok (.if_icmp .ge 32, 3) := by decide +kernel
theorem dX3_howManyAlike_15 : decode cX3_howManyAlike 15 = .ok (.iload_n 1, 1) := by decide +kernel
theorem dX3_howManyAlike_16 : decode cX3_howManyAlike 16 = .ok (.iload 5, 2) := by decide +kernel
theorem dX3_howManyAlike_18 : decode cX3_howManyAlike 18 = .ok (.invokestatic 120, 3) := by decide +kernel
theorem dX3_howManyAlike_21 : decode cX3_howManyAlike 21 = .ok (.ifCond .eq 17, 3) := by decide +kernel
theorem dX3_howManyAlike_24 : decode cX3_howManyAlike 24 = .ok (.aload_n 0, 1) := by decide +kernel
theorem dX3_howManyAlike_25 : decode cX3_howManyAlike 25 = .ok (.iload 5, 2) := by decide +kernel
theorem dX3_howManyAlike_27 : decode cX3_howManyAlike 27 = .ok (.iload_n 2, 1) := by decide +kernel
theorem dX3_howManyAlike_28 : decode cX3_howManyAlike 28 = .ok (.invokevirtual 87, 3) := by decide +kernel
theorem dX3_howManyAlike_31 : decode cX3_howManyAlike 31 = .ok (.iload_n 3, 1) := by decide +kernel
theorem dX3_howManyAlike_32 : decode cX3_howManyAlike 32 = .ok (.if_icmp .ne 6, 3) := by decide +kernel
theorem dX3_howManyAlike_35 : decode cX3_howManyAlike 35 = .ok (.iinc 4 1, 3) := by decide +kernel
theorem dX3_howManyAlike_38 : decode cX3_howManyAlike 38 = .ok (.iinc 5 1, 3) := by decide +kernel
theorem dX3_howManyAlike_41 : decode cX3_howManyAlike 41 = .ok (.goto (-35), 3) := by decide +kernel
theorem dX3_howManyAlike_44 : decode cX3_howManyAlike 44 = .ok (.iload 4, 2) := by decide +kernel
theorem dX3_howManyAlike_46 : decode cX3_howManyAlike 46 = .ok (.ireturn, 1) := by decide +kernel
theorem dX3_yearsOf_0 : decode cX3_yearsOf 0 = .ok (.sipush 1023, 3) := by decide +kernel
theorem dX3_yearsOf_3 : decode cX3_yearsOf 3 = .ok (.istore_n 2, 1) := by decide +kernel
theorem dX3_yearsOf_4 : decode cX3_yearsOf 4 = .ok (.iconst 0, 1) := by decide +kernel
theorem dX3_yearsOf_5 : decode cX3_yearsOf 5 = .ok (.istore_n 3, 1) := by decide +kernel
theorem dX3_yearsOf_6 : decode cX3_yearsOf 6 = .ok (.iload_n 3, 1) := by decide +kernel
theorem dX3_yearsOf_7 : decode cX3_yearsOf 7 = .ok (.aload_n 0, 1) := by decide +kernel
theorem dX3_yearsOf_8 : decode cX3_yearsOf 8 = .ok (.getfield 21, 3) := by decide +kernel
theorem dX3_yearsOf_11 : decode cX3_yearsOf 11 = .ok (.invokevirtual 131, 3) := by decide +kernel
theorem dX3_yearsOf_14 : decode cX3_yearsOf 14 = .ok (.if_icmp .ge 59, 3) := by decide +kernel
theorem dX3_yearsOf_17 : decode cX3_yearsOf 17 = .ok (.aload_n 0, 1) := by decide +kernel
theorem dX3_yearsOf_18 : decode cX3_yearsOf 18 = .ok (.getfield 21, 3) := by decide +kernel
theorem dX3_yearsOf_21 : decode cX3_yearsOf 21 = .ok (.iload_n 3, 1) := by decide +kernel
theorem dX3_yearsOf_22 : decode cX3_yearsOf 22 = .ok (.invokevirtual 134, 3) := by decide +kernel
theorem dX3_yearsOf_25 : decode cX3_yearsOf 25 = .ok (.iload_n 1, 1) := by decide +kernel
theorem dX3_yearsOf_26 : decode cX3_yearsOf 26 = .ok (.if_icmp .ne 41, 3) := by decide +kernel
theorem dX3_yearsOf_29 : decode cX3_yearsOf 29 = .ok (.aload_n 0, 1) := by decide +kernel
theorem dX3_yearsOf_30 : decode cX3_yearsOf 30 = .ok (.iload_n 1, 1) := by decide +kernel
theorem dX3_yearsOf_31 : decode cX3_yearsOf 31 = .ok (.aload_n 0, 1) := by decide +kernel
theorem dX3_yearsOf_32 : decode cX3_yearsOf 32 = .ok (.getfield 21, 3) := by decide +kernel
theorem dX3_yearsOf_35 : decode cX3_yearsOf 35 = .ok (.iload_n 3, 1) := by decide +kernel
theorem dX3_yearsOf_36 : decode cX3_yearsOf 36 = .ok (.invokevirtual 137, 3) := by decide +kernel
theorem dX3_yearsOf_39 : decode cX3_yearsOf 39 = .ok (.invokevirtual 140, 3) := by decide +kernel
theorem dX3_yearsOf_42 : decode cX3_yearsOf 42 = .ok (.istore 4, 2) := by decide +kernel
theorem dX3_yearsOf_44 : decode cX3_yearsOf 44 = .ok (.iload_n 2, 1) := by decide +kernel
theorem dX3_yearsOf_45 : decode cX3_yearsOf 45 = .ok (.aload_n 0, 1) := by decide +kernel
theorem dX3_yearsOf_46 : decode cX3_yearsOf 46 = .ok (.getfield 21, 3) := by decide +kernel
theorem dX3_yearsOf_49 : decode cX3_yearsOf 49 = .ok (.iload_n 3, 1) := by decide +kernel
theorem dX3_yearsOf_50 : decode cX3_yearsOf 50 = .ok (.invokevirtual 143, 3) := by decide +kernel
theorem dX3_yearsOf_53 : decode cX3_yearsOf 53 = .ok (.ifCond .eq 8, 3) := by decide +kernel
theorem dX3_yearsOf_56 : decode cX3_yearsOf 56 = .ok (.iload 4, 2) := by decide +kernel
theorem dX3_yearsOf_58 : decode cX3_yearsOf 58 = .ok (.goto 7, 3) := by decide +kernel
theorem dX3_yearsOf_61 : decode cX3_yearsOf 61 = .ok (.iload 4, 2) := by decide +kernel
theorem dX3_yearsOf_63 : decode cX3_yearsOf 63 = .ok (.iconst (-1), 1) := by decide +kernel
theorem dX3_yearsOf_64 : decode cX3_yearsOf 64 = .ok (.ixor, 1) := by decide +kernel
theorem dX3_yearsOf_65 : decode cX3_yearsOf 65 = .ok (.iand, 1) := by decide +kernel
theorem dX3_yearsOf_66 : decode cX3_yearsOf 66 = .ok (.istore_n 2, 1) := by decide +kernel
theorem dX3_yearsOf_67 : decode cX3_yearsOf 67 = .ok (.iinc 3 1, 3) := by decide +kernel
theorem dX3_yearsOf_70 : decode cX3_yearsOf 70 = .ok (.goto (-64), 3) := by decide +kernel
theorem dX3_yearsOf_73 : decode cX3_yearsOf 73 = .ok (.iload_n 2, 1) := by decide +kernel
theorem dX3_yearsOf_74 : decode cX3_yearsOf 74 = .ok (.ireturn, 1) := by decide +kernel
theorem dX3_claimerToShow_0 : decode cX3_claimerToShow 0 = .ok (.iload_n 2, 1) := by decide +kernel
theorem dX3_claimerToShow_1 : decode cX3_claimerToShow 1 = .ok (.ifCond .ne 5, 3) := by decide +kernel
theorem dX3_claimerToShow_4 : decode cX3_claimerToShow 4 = .ok (.iconst (-1), 1) := by decide +kernel
theorem dX3_claimerToShow_5 : decode cX3_claimerToShow 5 = .ok (.ireturn, 1) := by decide +kernel
theorem dX3_claimerToShow_6 : decode cX3_claimerToShow 6 = .ok (.iconst (-1), 1) := by decide +kernel
theorem dX3_claimerToShow_7 : decode cX3_claimerToShow 7 = .ok (.istore_n 3, 1) := by decide +kernel
theorem dX3_claimerToShow_8 : decode cX3_claimerToShow 8 = .ok (.iconst 0, 1) := by decide +kernel
theorem dX3_claimerToShow_9 : decode cX3_claimerToShow 9 = .ok (.istore 4, 2) := by decide +kernel
theorem dX3_claimerToShow_11 : decode cX3_claimerToShow 11 = .ok (.iconst 0, 1) := by decide +kernel
theorem dX3_claimerToShow_12 : decode cX3_claimerToShow 12 = .ok (.istore 5, 2) := by decide +kernel
theorem dX3_claimerToShow_14 : decode cX3_claimerToShow 14 = .ok (.iload 5, 2) := by decide +kernel
theorem dX3_claimerToShow_16 : decode cX3_claimerToShow 16 = .ok (.aload_n 0, 1) := by decide +kernel
theorem dX3_claimerToShow_17 : decode cX3_claimerToShow 17 = .ok (.getfield 32, 3) := by decide +kernel
theorem dX3_claimerToShow_20 : decode cX3_claimerToShow 20 = .ok (.if_icmp .ge 58, 3) := by decide +kernel
theorem dX3_claimerToShow_23 : decode cX3_claimerToShow 23 = .ok (.aload_n 0, 1) := by decide +kernel
theorem dX3_claimerToShow_24 : decode cX3_claimerToShow 24 = .ok (.iload_n 1, 1) := by decide +kernel
theorem dX3_claimerToShow_25 : decode cX3_claimerToShow 25 = .ok (.iload 5, 2) := by decide +kernel
theorem dX3_claimerToShow_27 : decode cX3_claimerToShow 27 = .ok (.invokevirtual 140, 3) := by decide +kernel
theorem dX3_claimerToShow_30 : decode cX3_claimerToShow 30 = .ok (.istore 6, 2) := by decide +kernel
theorem dX3_claimerToShow_32 : decode cX3_claimerToShow 32 = .ok (.iload_n 2, 1) := by decide +kernel
theorem dX3_claimerToShow_33 : decode cX3_claimerToShow 33 = .ok (.iload 6, 2) := by decide +kernel
theorem dX3_claimerToShow_35 : decode cX3_claimerToShow 35 = .ok (.iand, 1) := by decide +kernel
theorem dX3_claimerToShow_36 : decode cX3_claimerToShow 36 = .ok (.invokestatic 109, 3) := by decide +kernel
theorem dX3_claimerToShow_39 : decode cX3_claimerToShow 39 = .ok (.iload_n 2, 1) := by decide +kernel
theorem dX3_claimerToShow_40 : decode cX3_claimerToShow 40 = .ok (.iload 6, 2) := by decide +kernel
theorem dX3_claimerToShow_42 : decode cX3_claimerToShow 42 = .ok (.iconst (-1), 1) := by decide +kernel
theorem dX3_claimerToShow_43 : decode cX3_claimerToShow 43 = .ok (.ixor, 1) := by decide +kernel
theorem dX3_claimerToShow_44 : decode cX3_claimerToShow 44 = .ok (.iand, 1) := by decide +kernel
theorem dX3_claimerToShow_45 : decode cX3_claimerToShow 45 = .ok (.invokestatic 109, 3) := by decide +kernel
theorem dX3_claimerToShow_48 : decode cX3_claimerToShow 48 = .ok (.invokestatic 126, 3) := by decide +kernel
theorem dX3_claimerToShow_51 : decode cX3_claimerToShow 51 = .ok (.istore 7, 2) := by decide +kernel
theorem dX3_claimerToShow_53 : decode cX3_claimerToShow 53 = .ok (.iload_n 3, 1) := by decide +kernel
theorem dX3_claimerToShow_54 : decode cX3_claimerToShow 54 = .ok (.iconst (-1), 1) := by decide +kernel
theorem dX3_claimerToShow_55 : decode cX3_claimerToShow 55 = .ok (.if_icmp .eq 10, 3) := by decide +kernel
theorem dX3_claimerToShow_58 : decode cX3_claimerToShow 58 = .ok (.iload 7, 2) := by decide +kernel
theorem dX3_claimerToShow_60 : decode cX3_claimerToShow 60 = .ok (.iload 4, 2) := by decide +kernel
theorem dX3_claimerToShow_62 : decode cX3_claimerToShow 62 = .ok (.if_icmp .ge 10, 3) := by decide +kernel
theorem dX3_claimerToShow_65 : decode cX3_claimerToShow 65 = .ok (.iload 5, 2) := by decide +kernel
theorem dX3_claimerToShow_67 : decode cX3_claimerToShow 67 = .ok (.istore_n 3, 1) := by decide +kernel
theorem dX3_claimerToShow_68 : decode cX3_claimerToShow 68 = .ok (.iload 7, 2) := by decide +kernel
theorem dX3_claimerToShow_70 : decode cX3_claimerToShow 70 = .ok (.istore 4, 2) := by decide +kernel
theorem dX3_claimerToShow_72 : decode cX3_claimerToShow 72 = .ok (.iinc 5 1, 3) := by decide +kernel
theorem dX3_claimerToShow_75 : decode cX3_claimerToShow 75 = .ok (.goto (-61), 3) := by decide +kernel
theorem dX3_claimerToShow_78 : decode cX3_claimerToShow 78 = .ok (.iload_n 3, 1) := by decide +kernel
theorem dX3_claimerToShow_79 : decode cX3_claimerToShow 79 = .ok (.ireturn, 1) := by decide +kernel
theorem dX3_yearsFitting_0 : decode cX3_yearsFitting 0 = .ok (.iconst 0, 1) := by decide +kernel
theorem dX3_yearsFitting_1 : decode cX3_yearsFitting 1 = .ok (.istore_n 3, 1) := by decide +kernel
theorem dX3_yearsFitting_2 : decode cX3_yearsFitting 2 = .ok (.iconst 0, 1) := by decide +kernel
theorem dX3_yearsFitting_3 : decode cX3_yearsFitting 3 = .ok (.istore 4, 2) := by decide +kernel
theorem dX3_yearsFitting_5 : decode cX3_yearsFitting 5 = .ok (.iload 4, 2) := by decide +kernel
theorem dX3_yearsFitting_7 : decode cX3_yearsFitting 7 = .ok (.bipush 10, 2) := by decide +kernel
theorem dX3_yearsFitting_9 : decode cX3_yearsFitting 9 = .ok (.if_icmp .ge 35, 3) := by decide +kernel
theorem dX3_yearsFitting_12 : decode cX3_yearsFitting 12 = .ok (.aload_n 0, 1) := by decide +kernel
theorem dX3_yearsFitting_13 : decode cX3_yearsFitting 13 = .ok (.iload_n 2, 1) := by decide +kernel
theorem dX3_yearsFitting_14 : decode cX3_yearsFitting 14 = .ok (.invokevirtual 94, 3) := by decide +kernel
theorem dX3_yearsFitting_17 : decode cX3_yearsFitting 17 = .ok (.aload_n 0, 1) := by decide +kernel
theorem dX3_yearsFitting_18 : decode cX3_yearsFitting 18 = .ok (.iload 4, 2) := by decide +kernel
theorem dX3_yearsFitting_20 : decode cX3_yearsFitting 20 = .ok (.iload_n 1, 1) := by decide +kernel
theorem dX3_yearsFitting_21 : decode cX3_yearsFitting 21 = .ok (.iload_n 2, 1) := by decide +kernel
theorem dX3_yearsFitting_22 : decode cX3_yearsFitting 22 = .ok (.invokevirtual 90, 3) := by decide +kernel
theorem dX3_yearsFitting_25 : decode cX3_yearsFitting 25 = .ok (.invokestatic 97, 3) := by decide +kernel
theorem dX3_yearsFitting_28 : decode cX3_yearsFitting 28 = .ok (.ifCond .eq 10, 3) := by decide +kernel
theorem dX3_yearsFitting_31 : decode cX3_yearsFitting 31 = .ok (.iload_n 3, 1) := by decide +kernel
theorem dX3_yearsFitting_32 : decode cX3_yearsFitting 32 = .ok (.iconst 1, 1) := by decide +kernel
theorem dX3_yearsFitting_33 : decode cX3_yearsFitting 33 = .ok (.iload 4, 2) := by decide +kernel
theorem dX3_yearsFitting_35 : decode cX3_yearsFitting 35 = .ok (.ishl, 1) := by decide +kernel
theorem dX3_yearsFitting_36 : decode cX3_yearsFitting 36 = .ok (.ior, 1) := by decide +kernel
theorem dX3_yearsFitting_37 : decode cX3_yearsFitting 37 = .ok (.istore_n 3, 1) := by decide +kernel
theorem dX3_yearsFitting_38 : decode cX3_yearsFitting 38 = .ok (.iinc 4 1, 3) := by decide +kernel
theorem dX3_yearsFitting_41 : decode cX3_yearsFitting 41 = .ok (.goto (-36), 3) := by decide +kernel
theorem dX3_yearsFitting_44 : decode cX3_yearsFitting 44 = .ok (.iload_n 3, 1) := by decide +kernel
theorem dX3_yearsFitting_45 : decode cX3_yearsFitting 45 = .ok (.ireturn, 1) := by decide +kernel
theorem dX3_wrongIfLostIn_0 : decode cX3_wrongIfLostIn 0 = .ok (.aload_n 0, 1) := by decide +kernel
theorem dX3_wrongIfLostIn_1 : decode cX3_wrongIfLostIn 1 = .ok (.iload_n 3, 1) := by decide +kernel
theorem dX3_wrongIfLostIn_2 : decode cX3_wrongIfLostIn 2 = .ok (.invokevirtual 94, 3) := by decide +kernel
theorem dX3_wrongIfLostIn_5 : decode cX3_wrongIfLostIn 5 = .ok (.iload_n 1, 1) := by decide +kernel
theorem dX3_wrongIfLostIn_6 : decode cX3_wrongIfLostIn 6 = .ok (.aload_n 0, 1) := by decide +kernel
theorem dX3_wrongIfLostIn_7 : decode cX3_wrongIfLostIn 7 = .ok (.getfield 21, 3) := by decide +kernel
theorem dX3_wrongIfLostIn_10 : decode cX3_wrongIfLostIn 10 = .ok (.iload_n 3, 1) := by decide +kernel
theorem dX3_wrongIfLostIn_11 : decode cX3_wrongIfLostIn 11 = .ok (.iconst 0, 1) := by decide +kernel
theorem dX3_wrongIfLostIn_12 : decode cX3_wrongIfLostIn 12 = .ok (.invokevirtual 146, 3) := by decide +kernel
theorem dX3_wrongIfLostIn_15 : decode cX3_wrongIfLostIn 15 = .ok (.isub, 1) := by decide +kernel
theorem dX3_wrongIfLostIn_16 : decode cX3_wrongIfLostIn 16 = .ok (.invokestatic 149, 3) := by decide +kernel
theorem dX3_wrongIfLostIn_19 : decode cX3_wrongIfLostIn 19 = .ok (.aload_n 0, 1) := by decide +kernel
theorem dX3_wrongIfLostIn_20 : decode cX3_wrongIfLostIn 20 = .ok (.iload_n 2, 1) := by decide +kernel
theorem dX3_wrongIfLostIn_21 : decode cX3_wrongIfLostIn 21 = .ok (.iconst 1, 1) := by decide +kernel
theorem dX3_wrongIfLostIn_22 : decode cX3_wrongIfLostIn 22 = .ok (.invokevirtual 87, 3) := by decide +kernel
theorem dX3_wrongIfLostIn_25 : decode cX3_wrongIfLostIn 25 = .ok (.aload_n 0, 1) := by decide +kernel
theorem dX3_wrongIfLostIn_26 : decode cX3_wrongIfLostIn 26 = .ok (.getfield 21, 3) := by decide +kernel
theorem dX3_wrongIfLostIn_29 : decode cX3_wrongIfLostIn 29 = .ok (.iload_n 3, 1) := by decide +kernel
theorem dX3_wrongIfLostIn_30 : decode cX3_wrongIfLostIn 30 = .ok (.iconst 1, 1) := by decide +kernel
theorem dX3_wrongIfLostIn_31 : decode cX3_wrongIfLostIn 31 = .ok (.invokevirtual 146, 3) := by decide +kernel
theorem dX3_wrongIfLostIn_34 : decode cX3_wrongIfLostIn 34 = .ok (.if_icmp .eq 7, 3) := by decide +kernel
theorem dX3_wrongIfLostIn_37 : decode cX3_wrongIfLostIn 37 = .ok (.iconst 1, 1) := by decide +kernel
theorem dX3_wrongIfLostIn_38 : decode cX3_wrongIfLostIn 38 = .ok (.goto 4, 3) := by decide +kernel
theorem dX3_wrongIfLostIn_41 : decode cX3_wrongIfLostIn 41 = .ok (.iconst 0, 1) := by decide +kernel
theorem dX3_wrongIfLostIn_42 : decode cX3_wrongIfLostIn 42 = .ok (.aload_n 0, 1) := by decide +kernel
theorem dX3_wrongIfLostIn_43 : decode cX3_wrongIfLostIn 43 = .ok (.iload_n 2, 1) := by decide +kernel
theorem dX3_wrongIfLostIn_44 : decode cX3_wrongIfLostIn 44 = .ok (.iconst 2, 1) := by decide +kernel
theorem dX3_wrongIfLostIn_45 : decode cX3_wrongIfLostIn 45 = .ok (.invokevirtual 87, 3) := by decide +kernel
theorem dX3_wrongIfLostIn_48 : decode cX3_wrongIfLostIn 48 = .ok (.aload_n 0, 1) := by decide +kernel
theorem dX3_wrongIfLostIn_49 : decode cX3_wrongIfLostIn 49 = .ok (.getfield 21, 3) := by decide +kernel
theorem dX3_wrongIfLostIn_52 : decode cX3_wrongIfLostIn 52 = .ok (.iload_n 3, 1) := by decide +kernel
theorem dX3_wrongIfLostIn_53 : decode cX3_wrongIfLostIn 53 = .ok (.iconst 2, 1) := by decide +kernel
theorem dX3_wrongIfLostIn_54 : decode cX3_wrongIfLostIn 54 = .ok (.invokevirtual 146, 3) := by decide +kernel
theorem dX3_wrongIfLostIn_57 : decode cX3_wrongIfLostIn 57 = .ok (.if_icmp .eq 7, 3) := by decide +kernel
theorem dX3_wrongIfLostIn_60 : decode cX3_wrongIfLostIn 60 = .ok (.iconst 1, 1) := by decide +kernel
theorem dX3_wrongIfLostIn_61 : decode cX3_wrongIfLostIn 61 = .ok (.goto 4, 3) := by decide +kernel
theorem dX3_wrongIfLostIn_64 : decode cX3_wrongIfLostIn 64 = .ok (.iconst 0, 1) := by decide +kernel
theorem dX3_wrongIfLostIn_65 : decode cX3_wrongIfLostIn 65 = .ok (.invokestatic 152, 3) := by decide +kernel
theorem dX3_wrongIfLostIn_68 : decode cX3_wrongIfLostIn 68 = .ok (.ireturn, 1) := by decide +kernel
theorem dX4_init_0 : decode cX4_init 0 = .ok (.aload_n 0, 1) := by decide +kernel
theorem dX4_init_1 : decode cX4_init 1 = .ok (.invokespecial 3, 3) := by decide +kernel
theorem dX4_init_4 : decode cX4_init 4 = .ok (.aload_n 0, 1) := by decide +kernel
theorem dX4_init_5 : decode cX4_init 5 = .ok (.lconst 0, 1) := by decide +kernel
theorem dX4_init_6 : decode cX4_init 6 = .ok (.putfield 9, 3) := by decide +kernel
theorem dX4_init_9 : decode cX4_init 9 = .ok (.aload_n 0, 1) := by decide +kernel
theorem dX4_init_10 : decode cX4_init 10 = .ok (.iconst 0, 1) := by decide +kernel
theorem dX4_init_11 : decode cX4_init 11 = .ok (.putfield 15, 3) := by decide +kernel
theorem dX4_init_14 : decode cX4_init 14 = .ok (.aload_n 0, 1) := by decide +kernel
theorem dX4_init_15 : decode cX4_init 15 = .ok (.iconst 0, 1) := by decide +kernel
theorem dX4_init_16 : decode cX4_init 16 = .ok (.putfield 19, 3) := by decide +kernel
theorem dX4_init_19 : decode cX4_init 19 = .ok (.return_, 1) := by decide +kernel
theorem dX4_tell_0 : decode cX4_tell 0 = .ok (.iload_n 1, 1) := by decide +kernel
theorem dX4_tell_1 : decode cX4_tell 1 = .ok (.ifCond .ne 8, 3) := by decide +kernel
theorem dX4_tell_4 : decode cX4_tell 4 = .ok (.aload_n 0, 1) := by decide +kernel
theorem dX4_tell_5 : decode cX4_tell 5 = .ok (.getfield 15, 3) := by decide +kernel
theorem dX4_tell_8 : decode cX4_tell 8 = .ok (.ireturn, 1) := by decide +kernel
theorem dX4_tell_9 : decode cX4_tell 9 = .ok (.iload_n 1, 1) := by decide +kernel
theorem dX4_tell_10 : decode cX4_tell 10 = .ok (.iconst 1, 1) := by decide +kernel
theorem dX4_tell_11 : decode cX4_tell 11 = .ok (.if_icmp .ne 8, 3) := by decide +kernel
theorem dX4_tell_14 : decode cX4_tell 14 = .ok (.aload_n 0, 1) := by decide +kernel
theorem dX4_tell_15 : decode cX4_tell 15 = .ok (.getfield 19, 3) := by decide +kernel
theorem dX4_tell_18 : decode cX4_tell 18 = .ok (.ireturn, 1) := by decide +kernel
theorem dX4_tell_19 : decode cX4_tell 19 = .ok (.aload_n 0, 1) := by decide +kernel
theorem dX4_tell_20 : decode cX4_tell 20 = .ok (.getfield 9, 3) := by decide +kernel
theorem dX4_tell_23 : decode cX4_tell 23 = .ok (.l2i, 1) := by decide +kernel
theorem dX4_tell_24 : decode cX4_tell 24 = .ok (.ireturn, 1) := by decide +kernel
theorem dX4_play_0 : decode cX4_play 0 = .ok (.aload_n 0, 1) := by decide +kernel
theorem dX4_play_1 : decode cX4_play 1 = .ok (.iload_n 3, 1) := by decide +kernel
theorem dX4_play_2 : decode cX4_play 2 = .ok (.i2l, 1) := by decide +kernel
theorem dX4_play_3 : decode cX4_play 3 = .ok (.putfield 9, 3) := by decide +kernel
theorem dX4_play_6 : decode cX4_play 6 = .ok (.aload_n 0, 1) := by decide +kernel
theorem dX4_play_7 : decode cX4_play 7 = .ok (.iconst 0, 1) := by decide +kernel
theorem dX4_play_8 : decode cX4_play 8 = .ok (.putfield 15, 3) := by decide +kernel
theorem dX4_play_11 : decode cX4_play 11 = .ok (.aload_n 0, 1) := by decide +kernel
theorem dX4_play_12 : decode cX4_play 12 = .ok (.iconst 0, 1) := by decide +kernel
theorem dX4_play_13 : decode cX4_play 13 = .ok (.putfield 19, 3) := by decide +kernel
theorem dX4_play_16 : decode cX4_play 16 = .ok (.iconst 0, 1) := by decide +kernel
theorem dX4_play_17 : decode cX4_play 17 = .ok (.istore 4, 2) := by decide +kernel
theorem dX4_play_19 : decode cX4_play 19 = .ok (.iload 4, 2) := by decide +kernel
theorem dX4_play_21 : decode cX4_play 21 = .ok (.iload_n 2, 1) := by decide +kernel
theorem dX4_play_22 : decode cX4_play 22 = .ok (.if_icmp .ge 133, 3) := by decide +kernel
theorem dX4_play_25 : decode cX4_play 25 = .ok (.aload_n 1, 1) := by decide +kernel
theorem dX4_play_26 : decode cX4_play 26 = .ok (.aload_n 0, 1) := by decide +kernel
theorem dX4_play_27 : decode cX4_play 27 = .ok (.aload_n 1, 1) := by decide +kernel
theorem dX4_play_28 : decode cX4_play 28 = .ok (.invokevirtual 22, 3) := by decide +kernel
theorem dX4_play_31 : decode cX4_play 31 = .ok (.invokevirtual 28, 3) := by decide +kernel
theorem dX4_play_34 : decode cX4_play 34 = .ok (.invokevirtual 32, 3) := by decide +kernel
theorem dX4_play_37 : decode cX4_play 37 = .ok (.istore 5, 2) := by decide +kernel
theorem dX4_play_39 : decode cX4_play 39 = .ok (.aload_n 0, 1) := by decide +kernel
theorem dX4_play_40 : decode cX4_play 40 = .ok (.bipush 10, 2) := by decide +kernel
theorem dX4_play_42 : decode cX4_play 42 = .ok (.invokevirtual 28, 3) := by decide +kernel
theorem dX4_play_45 : decode cX4_play 45 = .ok (.istore 6, 2) := by decide +kernel
theorem dX4_play_47 : decode cX4_play 47 = .ok (.aload_n 0, 1) := by decide +kernel
theorem dX4_play_48 : decode cX4_play 48 = .ok (.getstatic 35, 3) := by decide +kernel
theorem dX4_play_51 : decode cX4_play 51 = .ok (.iconst 1, 1) := by decide +kernel
theorem dX4_play_52 : decode cX4_play 52 = .ok (.invokestatic 39, 3) := by decide +kernel
theorem dX4_play_55 : decode cX4_play 55 = .ok (.invokevirtual 28, 3) := by decide +kernel
theorem dX4_play_58 : decode cX4_play 58 = .ok (.istore 7, 2) := by decide +kernel
theorem dX4_play_60 : decode cX4_play 60 = .ok (.aload_n 0, 1) := by decide +kernel
theorem dX4_play_61 : decode cX4_play 61 = .ok (.getstatic 35, 3) := by decide +kernel
theorem dX4_play_64 : decode cX4_play 64 = .ok (.iconst 2, 1) := by decide +kernel
theorem dX4_play_65 : decode cX4_play 65 = .ok (.invokestatic 39, 3) := by decide +kernel
theorem dX4_play_68 : decode cX4_play 68 = .ok (.invokevirtual 28, 3) := by decide +kernel
theorem dX4_play_71 : decode cX4_play 71 = .ok (.istore 8, 2) := by decide +kernel
theorem dX4_play_73 : decode cX4_play 73 = .ok (.iconst 0, 1) := by decide +kernel
theorem dX4_play_74 : decode cX4_play 74 = .ok (.istore 9, 2) := by decide +kernel
theorem dX4_play_76 : decode cX4_play 76 = .ok (.iload 9, 2) := by decide +kernel
theorem dX4_play_78 : decode cX4_play 78 = .ok (.aload_n 1, 1) := by decide +kernel
theorem dX4_play_79 : decode cX4_play 79 = .ok (.invokevirtual 43, 3) := by decide +kernel
theorem dX4_play_82 : decode cX4_play 82 = .ok (.if_icmp .ge 67, 3) := by decide +kernel
theorem dX4_play_85 : decode cX4_play 85 = .ok (.aload_n 0, 1) := by decide +kernel
theorem dX4_play_86 : decode cX4_play 86 = .ok (.iload 5, 2) := by decide +kernel
theorem dX4_play_88 : decode cX4_play 88 = .ok (.iload 5, 2) := by decide +kernel
theorem dX4_play_90 : decode cX4_play 90 = .ok (.aload_n 1, 1) := by decide +kernel
theorem dX4_play_91 : decode cX4_play 91 = .ok (.iload 9, 2) := by decide +kernel
theorem dX4_play_93 : decode cX4_play 93 = .ok (.iconst 0, 1) := by decide +kernel
theorem dX4_play_94 : decode cX4_play 94 = .ok (.invokevirtual 46, 3) := by decide +kernel
theorem dX4_play_97 : decode cX4_play 97 = .ok (.iload 6, 2) := by decide +kernel
theorem dX4_play_99 : decode cX4_play 99 = .ok (.isub, 1) := by decide +kernel
theorem dX4_play_100 : decode cX4_play 100 = .ok (.invokestatic 50, 3) := by decide +kernel
theorem dX4_play_103 : decode cX4_play 103 = .ok (.aload_n 1, 1) := by decide +kernel
theorem dX4_play_104 : decode cX4_play 104 = .ok (.iload 9, 2) := by decide +kernel
theorem dX4_play_106 : decode cX4_play 106 = .ok (.iconst 1, 1) := by decide +kernel
theorem dX4_play_107 : decode cX4_play 107 = .ok (.invokevirtual 46, 3) := by decide +kernel
theorem dX4_play_110 : decode cX4_play 110 = .ok (.iload 7, 2) := by decide +kernel
theorem dX4_play_112 : decode cX4_play 112 = .ok (.if_icmp .eq 7, 3) := by decide +kernel
theorem dX4_play_115 : decode cX4_play 115 = .ok (.iconst 1, 1) := by decide +kernel
theorem dX4_play_116 : decode cX4_play 116 = .ok (.goto 4, 3) := by decide +kernel
theorem dX4_play_119 : decode cX4_play 119 = .ok (.iconst 0, 1) := by decide +kernel
theorem dX4_play_120 : decode cX4_play 120 = .ok (.aload_n 1, 1) := by decide +kernel
theorem dX4_play_121 : decode cX4_play 121 = .ok (.iload 9, 2) := by decide +kernel
theorem dX4_play_123 : decode cX4_play 123 = .ok (.iconst 2, 1) := by decide +kernel
theorem dX4_play_124 : decode cX4_play 124 = .ok (.invokevirtual 46, 3) := by decide +kernel
theorem dX4_play_127 : decode cX4_play 127 = .ok (.iload 8, 2) := by decide +kernel
theorem dX4_play_129 : decode cX4_play 129 = .ok (.if_icmp .eq 7, 3) := by decide +kernel
theorem dX4_play_132 : decode cX4_play 132 = .ok (.iconst 1, 1) := by decide +kernel
theorem dX4_play_133 : decode cX4_play 133 = .ok (.goto 4, 3) := by decide +kernel
theorem dX4_play_136 : decode cX4_play 136 = .ok (.iconst 0, 1) := by decide +kernel
theorem dX4_play_137 : decode cX4_play 137 = .ok (.invokestatic 55, 3) := by decide +kernel
theorem dX4_play_140 : decode cX4_play 140 = .ok (.invokevirtual 59, 3) := by decide +kernel
theorem dX4_play_143 : decode cX4_play 143 = .ok (.iinc 9 1, 3) := by decide +kernel
theorem dX4_play_146 : decode cX4_play 146 = .ok (.goto (-70), 3) := by decide +kernel
theorem dX4_play_149 : decode cX4_play 149 = .ok (.iinc 4 1, 3) := by decide +kernel
theorem dX4_play_152 : decode cX4_play 152 = .ok (.goto (-133), 3) := by decide +kernel
theorem dX4_play_155 : decode cX4_play 155 = .ok (.return_, 1) := by decide +kernel
theorem dX4_addIfFit_0 : decode cX4_addIfFit 0 = .ok (.iload_n 1, 1) := by decide +kernel
theorem dX4_addIfFit_1 : decode cX4_addIfFit 1 = .ok (.iload_n 2, 1) := by decide +kernel
theorem dX4_addIfFit_2 : decode cX4_addIfFit 2 = .ok (.invokestatic 63, 3) := by decide +kernel
theorem dX4_addIfFit_5 : decode cX4_addIfFit 5 = .ok (.ifCond .ne 4, 3) := by decide +kernel
theorem dX4_addIfFit_8 : decode cX4_addIfFit 8 = .ok (.return_, 1) := by decide +kernel
theorem dX4_addIfFit_9 : decode cX4_addIfFit 9 = .ok (.aload_n 0, 1) := by decide +kernel
theorem dX4_addIfFit_10 : decode cX4_addIfFit 10 = .ok (.dup, 1) := by decide +kernel
theorem dX4_addIfFit_11 : decode cX4_addIfFit 11 = .ok (.getfield 15, 3) := by decide +kernel
theorem dX4_addIfFit_14 : decode cX4_addIfFit 14 = .ok (.iconst 1, 1) := by decide +kernel
theorem dX4_addIfFit_15 : decode cX4_addIfFit 15 = .ok (.iadd, 1) := by decide +kernel
theorem dX4_addIfFit_16 : decode cX4_addIfFit 16 = .ok (.putfield 15, 3) := by decide +kernel
theorem dX4_addIfFit_19 : decode cX4_addIfFit 19 = .ok (.aload_n 0, 1) := by decide +kernel
theorem dX4_addIfFit_20 : decode cX4_addIfFit 20 = .ok (.dup, 1) := by decide +kernel
theorem dX4_addIfFit_21 : decode cX4_addIfFit 21 = .ok (.getfield 19, 3) := by decide +kernel
theorem dX4_addIfFit_24 : decode cX4_addIfFit 24 = .ok (.iload_n 2, 1) := by decide +kernel
theorem dX4_addIfFit_25 : decode cX4_addIfFit 25 = .ok (.iadd, 1) := by decide +kernel
theorem dX4_addIfFit_26 : decode cX4_addIfFit 26 = .ok (.putfield 19, 3) := by decide +kernel
theorem dX4_addIfFit_29 : decode cX4_addIfFit 29 = .ok (.return_, 1) := by decide +kernel
theorem dX4_draw_0 : decode cX4_draw 0 = .ok (.aload_n 0, 1) := by decide +kernel
theorem dX4_draw_1 : decode cX4_draw 1 = .ok (.ldc2_w 67, 3) := by decide +kernel
theorem dX4_draw_4 : decode cX4_draw 4 = .ok (.aload_n 0, 1) := by decide +kernel
theorem dX4_draw_5 : decode cX4_draw 5 = .ok (.getfield 9, 3) := by decide +kernel
theorem dX4_draw_8 : decode cX4_draw 8 = .ok (.lmul, 1) := by decide +kernel
theorem dX4_draw_9 : decode cX4_draw 9 = .ok (.ldc2_w 69, 3) := by decide +kernel
theorem dX4_draw_12 : decode cX4_draw 12 = .ok (.ladd, 1) := by decide +kernel
theorem dX4_draw_13 : decode cX4_draw 13 = .ok (.ldc2_w 71, 3) := by decide +kernel
theorem dX4_draw_16 : decode cX4_draw 16 = .ok (.lrem, 1) := by decide +kernel
theorem dX4_draw_17 : decode cX4_draw 17 = .ok (.putfield 9, 3) := by decide +kernel
theorem dX4_draw_20 : decode cX4_draw 20 = .ok (.iload_n 1, 1) := by decide +kernel
theorem dX4_draw_21 : decode cX4_draw 21 = .ok (.ifCond .le 18, 3) := by decide +kernel
theorem dX4_draw_24 : decode cX4_draw 24 = .ok (.aload_n 0, 1) := by decide +kernel
theorem dX4_draw_25 : decode cX4_draw 25 = .ok (.getfield 9, 3) := by decide +kernel
theorem dX4_draw_28 : decode cX4_draw 28 = .ok (.ldc2_w 73, 3) := by decide +kernel
theorem dX4_draw_31 : decode cX4_draw 31 = .ok (.ldiv, 1) := by decide +kernel
theorem dX4_draw_32 : decode cX4_draw 32 = .ok (.iload_n 1, 1) := by decide +kernel
theorem dX4_draw_33 : decode cX4_draw 33 = .ok (.i2l, 1) := by decide +kernel
theorem dX4_draw_34 : decode cX4_draw 34 = .ok (.lrem, 1) := by decide +kernel
theorem dX4_draw_35 : decode cX4_draw 35 = .ok (.l2i, 1) := by decide +kernel
theorem dX4_draw_36 : decode cX4_draw 36 = .ok (.goto 4, 3) := by decide +kernel
theorem dX4_draw_39 : decode cX4_draw 39 = .ok (.iconst 0, 1) := by decide +kernel
theorem dX4_draw_40 : decode cX4_draw 40 = .ok (.ireturn, 1) := by decide +kernel
theorem dX5_init_0 : decode cX5_init 0 = .ok (.aload_n 0, 1) := by decide +kernel
theorem dX5_init_1 : decode cX5_init 1 = .ok (.invokespecial 3, 3) := by decide +kernel
theorem dX5_init_4 : decode cX5_init 4 = .ok (.aload_n 0, 1) := by decide +kernel
theorem dX5_init_5 : decode cX5_init 5 = .ok (.new 9, 3) := by decide +kernel
theorem dX5_init_8 : decode cX5_init 8 = .ok (.dup, 1) := by decide +kernel
theorem dX5_init_9 : decode cX5_init 9 = .ok (.invokespecial 11, 3) := by decide +kernel
theorem dX5_init_12 : decode cX5_init 12 = .ok (.putfield 12, 3) := by decide +kernel
theorem dX5_init_15 : decode cX5_init 15 = .ok (.aload_n 0, 1) := by decide +kernel
theorem dX5_init_16 : decode cX5_init 16 = .ok (.new 16, 3) := by decide +kernel
theorem dX5_init_19 : decode cX5_init 19 = .ok (.dup, 1) := by decide +kernel
theorem dX5_init_20 : decode cX5_init 20 = .ok (.invokespecial 18, 3) := by decide +kernel
theorem dX5_init_23 : decode cX5_init 23 = .ok (.putfield 19, 3) := by decide +kernel
theorem dX5_init_26 : decode cX5_init 26 = .ok (.aload_n 0, 1) := by decide +kernel
theorem dX5_init_27 : decode cX5_init 27 = .ok (.new 23, 3) := by decide +kernel
theorem dX5_init_30 : decode cX5_init 30 = .ok (.dup, 1) := by decide +kernel
theorem dX5_init_31 : decode cX5_init 31 = .ok (.invokespecial 25, 3) := by decide +kernel
theorem dX5_init_34 : decode cX5_init 34 = .ok (.putfield 26, 3) := by decide +kernel
theorem dX5_init_37 : decode cX5_init 37 = .ok (.aload_n 0, 1) := by decide +kernel
theorem dX5_init_38 : decode cX5_init 38 = .ok (.new 30, 3) := by decide +kernel
theorem dX5_init_41 : decode cX5_init 41 = .ok (.dup, 1) := by decide +kernel
theorem dX5_init_42 : decode cX5_init 42 = .ok (.invokespecial 32, 3) := by decide +kernel
theorem dX5_init_45 : decode cX5_init 45 = .ok (.putfield 33, 3) := by decide +kernel
theorem dX5_init_48 : decode cX5_init 48 = .ok (.aload_n 0, 1) := by decide +kernel
theorem dX5_init_49 : decode cX5_init 49 = .ok (.iconst 0, 1) := by decide +kernel
theorem dX5_init_50 : decode cX5_init 50 = .ok (.putfield 37, 3) := by decide +kernel
theorem dX5_init_53 : decode cX5_init 53 = .ok (.return_, 1) := by decide +kernel
theorem dX5_letter_0 : decode cX5_letter 0 = .ok (.iload_n 1, 1) := by decide +kernel
theorem dX5_letter_1 : decode cX5_letter 1 = .ok (.iconst 1, 1) := by decide +kernel
theorem dX5_letter_2 : decode cX5_letter 2 = .ok (.if_icmp .lt 9, 3) := by decide +kernel
theorem dX5_letter_5 : decode cX5_letter 5 = .ok (.iload_n 1, 1) := by decide +kernel
theorem dX5_letter_6 : decode cX5_letter 6 = .ok (.bipush 126, 2) := by decide +kernel
theorem dX5_letter_8 : decode cX5_letter 8 = .ok (.if_icmp .le 6, 3) := by decide +kernel
theorem dX5_letter_11 : decode cX5_letter 11 = .ok (.bipush (-102), 2) := by decide +kernel
theorem dX5_letter_13 : decode cX5_letter 13 = .ok (.ireturn, 1) := by decide +kernel
theorem dX5_letter_14 : decode cX5_letter 14 = .ok (.aload_n 0, 1) := by decide +kernel
theorem dX5_letter_15 : decode cX5_letter 15 = .ok (.getfield 12, 3) := by decide +kernel
theorem dX5_letter_18 : decode cX5_letter 18 = .ok (.iload_n 1, 1) := by decide +kernel
theorem dX5_letter_19 : decode cX5_letter 19 = .ok (.invokevirtual 41, 3) := by decide +kernel
theorem dX5_letter_22 : decode cX5_letter 22 = .ok (.ifCond .ne 6, 3) := by decide +kernel
theorem dX5_letter_25 : decode cX5_letter 25 = .ok (.bipush (-104), 2) := by decide +kernel
theorem dX5_letter_27 : decode cX5_letter 27 = .ok (.ireturn, 1) := by decide +kernel
theorem dX5_letter_28 : decode cX5_letter 28 = .ok (.aload_n 0, 1) := by decide +kernel
theorem dX5_letter_29 : decode cX5_letter 29 = .ok (.getfield 12, 3) := by decide +kernel
theorem dX5_letter_32 : decode cX5_letter 32 = .ok (.invokevirtual 45, 3) := by decide +kernel
theorem dX5_letter_35 : decode cX5_letter 35 = .ok (.ireturn, 1) := by decide +kernel
theorem dX5_blank_0 : decode cX5_blank 0 = .ok (.aload_n 0, 1) := by decide +kernel
theorem dX5_blank_1 : decode cX5_blank 1 = .ok (.getfield 12, 3) := by decide +kernel
theorem dX5_blank_4 : decode cX5_blank 4 = .ok (.invokevirtual 45, 3) := by decide +kernel
theorem dX5_blank_7 : decode cX5_blank 7 = .ok (.istore_n 1, 1) := by decide +kernel
theorem dX5_blank_8 : decode cX5_blank 8 = .ok (.aload_n 0, 1) := by decide +kernel
theorem dX5_blank_9 : decode cX5_blank 9 = .ok (.getfield 12, 3) := by decide +kernel
theorem dX5_blank_12 : decode cX5_blank 12 = .ok (.invokevirtual 49, 3) := by decide +kernel
theorem dX5_blank_15 : decode cX5_blank 15 = .ok (.iload_n 1, 1) := by decide +kernel
theorem dX5_blank_16 : decode cX5_blank 16 = .ok (.ireturn, 1) := by decide +kernel
theorem dX5_fault_0 : decode cX5_fault 0 = .ok (.aload_n 0, 1) := by decide +kernel
theorem dX5_fault_1 : decode cX5_fault 1 = .ok (.getfield 12, 3) := by decide +kernel
theorem dX5_fault_4 : decode cX5_fault 4 = .ok (.invokevirtual 52, 3) := by decide +kernel
theorem dX5_fault_7 : decode cX5_fault 7 = .ok (.ireturn, 1) := by decide +kernel
theorem dX5_tent_0 : decode cX5_tent 0 = .ok (.aload_n 0, 1) := by decide +kernel
theorem dX5_tent_1 : decode cX5_tent 1 = .ok (.getfield 12, 3) := by decide +kernel
theorem dX5_tent_4 : decode cX5_tent 4 = .ok (.invokevirtual 55, 3) := by decide +kernel
theorem dX5_tent_7 : decode cX5_tent 7 = .ok (.ifCond .ne 6, 3) := by decide +kernel
theorem dX5_tent_10 : decode cX5_tent 10 = .ok (.bipush (-103), 2) := by decide +kernel
theorem dX5_tent_12 : decode cX5_tent 12 = .ok (.ireturn, 1) := by decide +kernel
theorem dX5_tent_13 : decode cX5_tent 13 = .ok (.aload_n 0, 1) := by decide +kernel
theorem dX5_tent_14 : decode cX5_tent 14 = .ok (.getfield 19, 3) := by decide +kernel
theorem dX5_tent_17 : decode cX5_tent 17 = .ok (.aload_n 0, 1) := by decide +kernel
theorem dX5_tent_18 : decode cX5_tent 18 = .ok (.getfield 12, 3) := by decide +kernel
theorem dX5_tent_21 : decode cX5_tent 21 = .ok (.invokevirtual 59, 3) := by decide +kernel
theorem dX5_tent_24 : decode cX5_tent 24 = .ok (.aload_n 0, 1) := by decide +kernel
theorem dX5_tent_25 : decode cX5_tent 25 = .ok (.getfield 12, 3) := by decide +kernel
theorem dX5_tent_28 : decode cX5_tent 28 = .ok (.invokevirtual 49, 3) := by decide +kernel
theorem dX5_tent_31 : decode cX5_tent 31 = .ok (.aload_n 0, 1) := by decide +kernel
theorem dX5_tent_32 : decode cX5_tent 32 = .ok (.dup, 1) := by decide +kernel
theorem dX5_tent_33 : decode cX5_tent 33 = .ok (.getfield 37, 3) := by decide +kernel
theorem dX5_tent_36 : decode cX5_tent 36 = .ok (.iconst 1, 1) := by decide +kernel
theorem dX5_tent_37 : decode cX5_tent 37 = .ok (.iadd, 1) := by decide +kernel
theorem dX5_tent_38 : decode cX5_tent 38 = .ok (.putfield 37, 3) := by decide +kernel
theorem dX5_tent_41 : decode cX5_tent 41 = .ok (.aload_n 0, 1) := by decide +kernel
theorem dX5_tent_42 : decode cX5_tent 42 = .ok (.getfield 19, 3) := by decide +kernel
theorem dX5_tent_45 : decode cX5_tent 45 = .ok (.invokevirtual 63, 3) := by decide +kernel
theorem dX5_tent_48 : decode cX5_tent 48 = .ok (.ireturn, 1) := by decide +kernel
theorem dX5_thing_0 : decode cX5_thing 0 = .ok (.aload_n 0, 1) := by decide +kernel
theorem dX5_thing_1 : decode cX5_thing 1 = .ok (.getfield 19, 3) := by decide +kernel
theorem dX5_thing_4 : decode cX5_thing 4 = .ok (.iload_n 1, 1) := by decide +kernel
theorem dX5_thing_5 : decode cX5_thing 5 = .ok (.invokevirtual 66, 3) := by decide +kernel
theorem dX5_thing_8 : decode cX5_thing 8 = .ok (.ifCond .ne 6, 3) := by decide +kernel
theorem dX5_thing_11 : decode cX5_thing 11 = .ok (.bipush (-101), 2) := by decide +kernel
theorem dX5_thing_13 : decode cX5_thing 13 = .ok (.ireturn, 1) := by decide +kernel
theorem dX5_thing_14 : decode cX5_thing 14 = .ok (.iload_n 2, 1) := by decide +kernel
theorem dX5_thing_15 : decode cX5_thing 15 = .ok (.tableswitch 98 0 6 #[41, 41, 41, 51, 63, 72, 81], 41) := by decide +kernel
theorem dX5_thing_56 : decode cX5_thing 56 = .ok (.aload_n 0, 1) := by decide +kernel
theorem dX5_thing_57 : decode cX5_thing 57 = .ok (.getfield 19, 3) := by decide +kernel
theorem dX5_thing_60 : decode cX5_thing 60 = .ok (.iload_n 1, 1) := by decide +kernel
theorem dX5_thing_61 : decode cX5_thing 61 = .ok (.iload_n 2, 1) := by decide +kernel
theorem dX5_thing_62 : decode cX5_thing 62 = .ok (.invokevirtual 69, 3) := by decide +kernel
theorem dX5_thing_65 : decode cX5_thing 65 = .ok (.ireturn, 1) := by decide +kernel
theorem dX5_thing_66 : decode cX5_thing 66 = .ok (.aload_n 0, 1) := by decide +kernel
theorem dX5_thing_67 : decode cX5_thing 67 = .ok (.getfield 19, 3) := by decide +kernel
theorem dX5_thing_70 : decode cX5_thing 70 = .ok (.invokevirtual 73, 3) := by decide +kernel
theorem dX5_thing_73 : decode cX5_thing 73 = .ok (.iload_n 1, 1) := by decide +kernel
theorem dX5_thing_74 : decode cX5_thing 74 = .ok (.invokevirtual 77, 3) := by decide +kernel
theorem dX5_thing_77 : decode cX5_thing 77 = .ok (.ireturn, 1) := by decide +kernel
theorem dX5_thing_78 : decode cX5_thing 78 = .ok (.aload_n 0, 1) := by decide +kernel
theorem dX5_thing_79 : decode cX5_thing 79 = .ok (.getfield 19, 3) := by decide +kernel
theorem dX5_thing_82 : decode cX5_thing 82 = .ok (.iload_n 1, 1) := by decide +kernel
theorem dX5_thing_83 : decode cX5_thing 83 = .ok (.invokevirtual 83, 3) := by decide +kernel
theorem dX5_thing_86 : decode cX5_thing 86 = .ok (.ireturn, 1) := by decide +kernel
theorem dX5_thing_87 : decode cX5_thing 87 = .ok (.aload_n 0, 1) := by decide +kernel
theorem dX5_thing_88 : decode cX5_thing 88 = .ok (.getfield 19, 3) := by decide +kernel
theorem dX5_thing_91 : decode cX5_thing 91 = .ok (.iload_n 1, 1) := by decide +kernel
theorem dX5_thing_92 : decode cX5_thing 92 = .ok (.invokevirtual 86, 3) := by decide +kernel
theorem dX5_thing_95 : decode cX5_thing 95 = .ok (.ireturn, 1) := by decide +kernel
theorem dX5_thing_96 : decode cX5_thing 96 = .ok (.aload_n 0, 1) := by decide +kernel
theorem dX5_thing_97 : decode cX5_thing 97 = .ok (.getfield 19, 3) := by decide +kernel
theorem dX5_thing_100 : decode cX5_thing 100 = .ok (.iload_n 1, 1) := by decide +kernel
theorem dX5_thing_101 : decode cX5_thing 101 = .ok (.aload_n 0, 1) := by decide +kernel
theorem dX5_thing_102 : decode cX5_thing 102 = .ok (.getfield 19, 3) := by decide +kernel
theorem dX5_thing_105 : decode cX5_thing 105 = .ok (.iload_n 1, 1) := by decide +kernel
theorem dX5_thing_106 : decode cX5_thing 106 = .ok (.invokevirtual 86, 3) := by decide +kernel
theorem dX5_thing_109 : decode cX5_thing 109 = .ok (.invokevirtual 89, 3) := by decide +kernel
theorem dX5_thing_112 : decode cX5_thing 112 = .ok (.ireturn, 1) := by decide +kernel
theorem dX5_thing_113 : decode cX5_thing 113 = .ok (.bipush (-102), 2) := by decide +kernel
theorem dX5_thing_115 : decode cX5_thing 115 = .ok (.ireturn, 1) := by decide +kernel
theorem dX5_claimer_0 : decode cX5_claimer 0 = .ok (.aload_n 0, 1) := by decide +kernel
theorem dX5_claimer_1 : decode cX5_claimer 1 = .ok (.getfield 19, 3) := by decide +kernel
theorem dX5_claimer_4 : decode cX5_claimer 4 = .ok (.iload_n 1, 1) := by decide +kernel
theorem dX5_claimer_5 : decode cX5_claimer 5 = .ok (.invokevirtual 92, 3) := by decide +kernel
theorem dX5_claimer_8 : decode cX5_claimer 8 = .ok (.ifCond .ne 6, 3) := by decide +kernel
theorem dX5_claimer_11 : decode cX5_claimer 11 = .ok (.bipush (-101), 2) := by decide +kernel
theorem dX5_claimer_13 : decode cX5_claimer 13 = .ok (.ireturn, 1) := by decide +kernel
theorem dX5_claimer_14 : decode cX5_claimer 14 = .ok (.iload_n 2, 1) := by decide +kernel
theorem dX5_claimer_15 : decode cX5_claimer 15 = .ok (.tableswitch 108 0 6 #[41, 41, 41, 54, 63, 75, 84], 41) := by decide +kernel
theorem dX5_claimer_56 : decode cX5_claimer 56 = .ok (.aload_n 0, 1) := by decide +kernel
theorem dX5_claimer_57 : decode cX5_claimer 57 = .ok (.getfield 19, 3) := by decide +kernel
theorem dX5_claimer_60 : decode cX5_claimer 60 = .ok (.invokevirtual 73, 3) := by decide +kernel
theorem dX5_claimer_63 : decode cX5_claimer 63 = .ok (.iload_n 1, 1) := by decide +kernel
theorem dX5_claimer_64 : decode cX5_claimer 64 = .ok (.iload_n 2, 1) := by decide +kernel
theorem dX5_claimer_65 : decode cX5_claimer 65 = .ok (.invokevirtual 95, 3) := by decide +kernel
theorem dX5_claimer_68 : decode cX5_claimer 68 = .ok (.ireturn, 1) := by decide +kernel
theorem dX5_claimer_69 : decode cX5_claimer 69 = .ok (.aload_n 0, 1) := by decide +kernel
theorem dX5_claimer_70 : decode cX5_claimer 70 = .ok (.getfield 19, 3) := by decide +kernel
theorem dX5_claimer_73 : decode cX5_claimer 73 = .ok (.iload_n 1, 1) := by decide +kernel
theorem dX5_claimer_74 : decode cX5_claimer 74 = .ok (.invokevirtual 98, 3) := by decide +kernel
theorem dX5_claimer_77 : decode cX5_claimer 77 = .ok (.ireturn, 1) := by decide +kernel
theorem dX5_claimer_78 : decode cX5_claimer 78 = .ok (.aload_n 0, 1) := by decide +kernel
theorem dX5_claimer_79 : decode cX5_claimer 79 = .ok (.getfield 19, 3) := by decide +kernel
theorem dX5_claimer_82 : decode cX5_claimer 82 = .ok (.invokevirtual 73, 3) := by decide +kernel
theorem dX5_claimer_85 : decode cX5_claimer 85 = .ok (.iload_n 1, 1) := by decide +kernel
theorem dX5_claimer_86 : decode cX5_claimer 86 = .ok (.invokevirtual 101, 3) := by decide +kernel
theorem dX5_claimer_89 : decode cX5_claimer 89 = .ok (.ireturn, 1) := by decide +kernel
theorem dX5_claimer_90 : decode cX5_claimer 90 = .ok (.aload_n 0, 1) := by decide +kernel
theorem dX5_claimer_91 : decode cX5_claimer 91 = .ok (.getfield 19, 3) := by decide +kernel
theorem dX5_claimer_94 : decode cX5_claimer 94 = .ok (.iload_n 1, 1) := by decide +kernel
theorem dX5_claimer_95 : decode cX5_claimer 95 = .ok (.invokevirtual 104, 3) := by decide +kernel
theorem dX5_claimer_98 : decode cX5_claimer 98 = .ok (.ireturn, 1) := by decide +kernel
theorem dX5_claimer_99 : decode cX5_claimer 99 = .ok (.aload_n 0, 1) := by decide +kernel
theorem dX5_claimer_100 : decode cX5_claimer 100 = .ok (.getfield 19, 3) := by decide +kernel
theorem dX5_claimer_103 : decode cX5_claimer 103 = .ok (.aload_n 0, 1) := by decide +kernel
theorem dX5_claimer_104 : decode cX5_claimer 104 = .ok (.getfield 19, 3) := by decide +kernel
theorem dX5_claimer_107 : decode cX5_claimer 107 = .ok (.iload_n 1, 1) := by decide +kernel
theorem dX5_claimer_108 : decode cX5_claimer 108 = .ok (.invokevirtual 104, 3) := by decide +kernel
theorem dX5_claimer_111 : decode cX5_claimer 111 = .ok (.aload_n 0, 1) := by decide +kernel
theorem dX5_claimer_112 : decode cX5_claimer 112 = .ok (.getfield 19, 3) := by decide +kernel
theorem dX5_claimer_115 : decode cX5_claimer 115 = .ok (.invokevirtual 107, 3) := by decide +kernel
theorem dX5_claimer_118 : decode cX5_claimer 118 = .ok (.iand, 1) := by decide +kernel
theorem dX5_claimer_119 : decode cX5_claimer 119 = .ok (.invokevirtual 110, 3) := by decide +kernel
theorem dX5_claimer_122 : decode cX5_claimer 122 = .ok (.ireturn, 1) := by decide +kernel
theorem dX5_claimer_123 : decode cX5_claimer 123 = .ok (.bipush (-102), 2) := by decide +kernel
theorem dX5_claimer_125 : decode cX5_claimer 125 = .ok (.ireturn, 1) := by decide +kernel
theorem dX5_as_0 : decode cX5_as 0 = .ok (.aload_n 0, 1) := by decide +kernel
theorem dX5_as_1 : decode cX5_as 1 = .ok (.getfield 19, 3) := by decide +kernel
theorem dX5_as_4 : decode cX5_as 4 = .ok (.iload_n 1, 1) := by decide +kernel
theorem dX5_as_5 : decode cX5_as 5 = .ok (.invokevirtual 92, 3) := by decide +kernel
theorem dX5_as_8 : decode cX5_as 8 = .ok (.ifCond .ne 6, 3) := by decide +kernel
theorem dX5_as_11 : decode cX5_as 11 = .ok (.bipush (-101), 2) := by decide +kernel
theorem dX5_as_13 : decode cX5_as 13 = .ok (.ireturn, 1) := by decide +kernel
theorem dX5_as_14 : decode cX5_as 14 = .ok (.iload_n 2, 1) := by decide +kernel
theorem dX5_as_15 : decode cX5_as 15 = .ok (.iconst 5, 1) := by decide +kernel
theorem dX5_as_16 : decode cX5_as 16 = .ok (.invokestatic 113, 3) := by decide +kernel
theorem dX5_as_19 : decode cX5_as 19 = .ok (.ifCond .ne 6, 3) := by decide +kernel
theorem dX5_as_22 : decode cX5_as 22 = .ok (.bipush (-102), 2) := by decide +kernel
theorem dX5_as_24 : decode cX5_as 24 = .ok (.ireturn, 1) := by decide +kernel
theorem dX5_as_25 : decode cX5_as 25 = .ok (.aload_n 0, 1) := by decide +kernel
theorem dX5_as_26 : decode cX5_as 26 = .ok (.getfield 19, 3) := by decide +kernel
theorem dX5_as_29 : decode cX5_as 29 = .ok (.iload_n 1, 1) := by decide +kernel
theorem dX5_as_30 : decode cX5_as 30 = .ok (.invokevirtual 98, 3) := by decide +kernel
theorem dX5_as_33 : decode cX5_as 33 = .ok (.iload_n 2, 1) := by decide +kernel
theorem dX5_as_34 : decode cX5_as 34 = .ok (.invokestatic 117, 3) := by decide +kernel
theorem dX5_as_37 : decode cX5_as 37 = .ok (.ifCond .eq 7, 3) := by decide +kernel
theorem dX5_as_40 : decode cX5_as 40 = .ok (.iload_n 1, 1) := by decide +kernel
theorem dX5_as_41 : decode cX5_as 41 = .ok (.goto 4, 3) := by decide +kernel
theorem dX5_as_44 : decode cX5_as 44 = .ok (.iconst (-1), 1) := by decide +kernel
theorem dX5_as_45 : decode cX5_as 45 = .ok (.ireturn, 1) := by decide +kernel
theorem dX5_wrong_0 : decode cX5_wrong 0 = .ok (.aload_n 0, 1) := by decide +kernel
theorem dX5_wrong_1 : decode cX5_wrong 1 = .ok (.getfield 19, 3) := by decide +kernel
theorem dX5_wrong_4 : decode cX5_wrong 4 = .ok (.iload_n 1, 1) := by decide +kernel
theorem dX5_wrong_5 : decode cX5_wrong 5 = .ok (.iload_n 2, 1) := by decide +kernel
theorem dX5_wrong_6 : decode cX5_wrong 6 = .ok (.invokevirtual 120, 3) := by decide +kernel
theorem dX5_wrong_9 : decode cX5_wrong 9 = .ok (.ifCond .ne 6, 3) := by decide +kernel
theorem dX5_wrong_12 : decode cX5_wrong 12 = .ok (.bipush (-101), 2) := by decide +kernel
theorem dX5_wrong_14 : decode cX5_wrong 14 = .ok (.ireturn, 1) := by decide +kernel
theorem dX5_wrong_15 : decode cX5_wrong 15 = .ok (.aload_n 0, 1) := by decide +kernel
theorem dX5_wrong_16 : decode cX5_wrong 16 = .ok (.getfield 19, 3) := by decide +kernel
theorem dX5_wrong_19 : decode cX5_wrong 19 = .ok (.iload_n 1, 1) := by decide +kernel
theorem dX5_wrong_20 : decode cX5_wrong 20 = .ok (.iload_n 2, 1) := by decide +kernel
theorem dX5_wrong_21 : decode cX5_wrong 21 = .ok (.invokevirtual 123, 3) := by decide +kernel
theorem dX5_wrong_24 : decode cX5_wrong 24 = .ok (.ireturn, 1) := by decide +kernel
theorem dX5_give_0 : decode cX5_give 0 = .ok (.aload_n 0, 1) := by decide +kernel
theorem dX5_give_1 : decode cX5_give 1 = .ok (.getfield 19, 3) := by decide +kernel
theorem dX5_give_4 : decode cX5_give 4 = .ok (.iload_n 1, 1) := by decide +kernel
theorem dX5_give_5 : decode cX5_give 5 = .ok (.iload_n 2, 1) := by decide +kernel
theorem dX5_give_6 : decode cX5_give 6 = .ok (.invokevirtual 120, 3) := by decide +kernel
theorem dX5_give_9 : decode cX5_give 9 = .ok (.ifCond .ne 6, 3) := by decide +kernel
theorem dX5_give_12 : decode cX5_give 12 = .ok (.bipush (-101), 2) := by decide +kernel
theorem dX5_give_14 : decode cX5_give 14 = .ok (.ireturn, 1) := by decide +kernel
theorem dX5_give_15 : decode cX5_give 15 = .ok (.aload_n 0, 1) := by decide +kernel
theorem dX5_give_16 : decode cX5_give 16 = .ok (.getfield 19, 3) := by decide +kernel
theorem dX5_give_19 : decode cX5_give 19 = .ok (.invokevirtual 73, 3) := by decide +kernel
theorem dX5_give_22 : decode cX5_give 22 = .ok (.astore_n 3, 1) := by decide +kernel
theorem dX5_give_23 : decode cX5_give 23 = .ok (.aload_n 3, 1) := by decide +kernel
theorem dX5_give_24 : decode cX5_give 24 = .ok (.iload_n 1, 1) := by decide +kernel
theorem dX5_give_25 : decode cX5_give 25 = .ok (.invokevirtual 77, 3) := by decide +kernel
theorem dX5_give_28 : decode cX5_give 28 = .ok (.iconst (-1), 1) := by decide +kernel
theorem dX5_give_29 : decode cX5_give 29 = .ok (.if_icmp .ne 12, 3) := by decide +kernel
theorem dX5_give_32 : decode cX5_give 32 = .ok (.aload_n 3, 1) := by decide +kernel
theorem dX5_give_33 : decode cX5_give 33 = .ok (.iload_n 2, 1) := by decide +kernel
theorem dX5_give_34 : decode cX5_give 34 = .ok (.invokevirtual 101, 3) := by decide +kernel
theorem dX5_give_37 : decode cX5_give 37 = .ok (.iconst (-1), 1) := by decide +kernel
theorem dX5_give_38 : decode cX5_give 38 = .ok (.if_icmp .eq 6, 3) := by decide +kernel
theorem dX5_give_41 : decode cX5_give 41 = .ok (.bipush (-103), 2) := by decide +kernel
theorem dX5_give_43 : decode cX5_give 43 = .ok (.ireturn, 1) := by decide +kernel
theorem dX5_give_44 : decode cX5_give 44 = .ok (.aload_n 3, 1) := by decide +kernel
theorem dX5_give_45 : decode cX5_give 45 = .ok (.iload_n 1, 1) := by decide +kernel
theorem dX5_give_46 : decode cX5_give 46 = .ok (.iload_n 2, 1) := by decide +kernel
theorem dX5_give_47 : decode cX5_give 47 = .ok (.invokevirtual 126, 3) := by decide +kernel
theorem dX5_give_50 : decode cX5_give 50 = .ok (.aload_n 0, 1) := by decide +kernel
theorem dX5_give_51 : decode cX5_give 51 = .ok (.getfield 19, 3) := by decide +kernel
theorem dX5_give_54 : decode cX5_give 54 = .ok (.iload_n 1, 1) := by decide +kernel
theorem dX5_give_55 : decode cX5_give 55 = .ok (.iload_n 2, 1) := by decide +kernel
theorem dX5_give_56 : decode cX5_give 56 = .ok (.invokevirtual 123, 3) := by decide +kernel
theorem dX5_give_59 : decode cX5_give 59 = .ok (.ireturn, 1) := by decide +kernel
theorem dX5_back_0 : decode cX5_back 0 = .ok (.aload_n 0, 1) := by decide +kernel
theorem dX5_back_1 : decode cX5_back 1 = .ok (.getfield 19, 3) := by decide +kernel
theorem dX5_back_4 : decode cX5_back 4 = .ok (.iload_n 1, 1) := by decide +kernel
theorem dX5_back_5 : decode cX5_back 5 = .ok (.invokevirtual 66, 3) := by decide +kernel
theorem dX5_back_8 : decode cX5_back 8 = .ok (.ifCond .ne 6, 3) := by decide +kernel
theorem dX5_back_11 : decode cX5_back 11 = .ok (.bipush (-101), 2) := by decide +kernel
theorem dX5_back_13 : decode cX5_back 13 = .ok (.ireturn, 1) := by decide +kernel
theorem dX5_back_14 : decode cX5_back 14 = .ok (.aload_n 0, 1) := by decide +kernel
theorem dX5_back_15 : decode cX5_back 15 = .ok (.getfield 19, 3) := by decide +kernel
theorem dX5_back_18 : decode cX5_back 18 = .ok (.invokevirtual 73, 3) := by decide +kernel
theorem dX5_back_21 : decode cX5_back 21 = .ok (.iload_n 1, 1) := by decide +kernel
theorem dX5_back_22 : decode cX5_back 22 = .ok (.invokevirtual 77, 3) := by decide +kernel
theorem dX5_back_25 : decode cX5_back 25 = .ok (.istore_n 2, 1) := by decide +kernel
theorem dX5_back_26 : decode cX5_back 26 = .ok (.iload_n 2, 1) := by decide +kernel
theorem dX5_back_27 : decode cX5_back 27 = .ok (.iconst (-1), 1) := by decide +kernel
theorem dX5_back_28 : decode cX5_back 28 = .ok (.if_icmp .ne 6, 3) := by decide +kernel
theorem dX5_back_31 : decode cX5_back 31 = .ok (.bipush (-103), 2) := by decide +kernel
theorem dX5_back_33 : decode cX5_back 33 = .ok (.ireturn, 1) := by decide +kernel
theorem dX5_back_34 : decode cX5_back 34 = .ok (.aload_n 0, 1) := by decide +kernel
theorem dX5_back_35 : decode cX5_back 35 = .ok (.getfield 19, 3) := by decide +kernel
theorem dX5_back_38 : decode cX5_back 38 = .ok (.invokevirtual 73, 3) := by decide +kernel
theorem dX5_back_41 : decode cX5_back 41 = .ok (.iload_n 1, 1) := by decide +kernel
theorem dX5_back_42 : decode cX5_back 42 = .ok (.iconst (-1), 1) := by decide +kernel
theorem dX5_back_43 : decode cX5_back 43 = .ok (.invokevirtual 126, 3) := by decide +kernel
theorem dX5_back_46 : decode cX5_back 46 = .ok (.iload_n 2, 1) := by decide +kernel
theorem dX5_back_47 : decode cX5_back 47 = .ok (.ireturn, 1) := by decide +kernel
theorem dX5_remember_0 : decode cX5_remember 0 = .ok (.aload_n 0, 1) := by decide +kernel
theorem dX5_remember_1 : decode cX5_remember 1 = .ok (.getfield 19, 3) := by decide +kernel
theorem dX5_remember_4 : decode cX5_remember 4 = .ok (.iload_n 1, 1) := by decide +kernel
theorem dX5_remember_5 : decode cX5_remember 5 = .ok (.invokevirtual 92, 3) := by decide +kernel
theorem dX5_remember_8 : decode cX5_remember 8 = .ok (.ifCond .ne 6, 3) := by decide +kernel
theorem dX5_remember_11 : decode cX5_remember 11 = .ok (.bipush (-101), 2) := by decide +kernel
theorem dX5_remember_13 : decode cX5_remember 13 = .ok (.ireturn, 1) := by decide +kernel
theorem dX5_remember_14 : decode cX5_remember 14 = .ok (.iload_n 2, 1) := by decide +kernel
theorem dX5_remember_15 : decode cX5_remember 15 = .ok (.iconst 3, 1) := by decide +kernel
theorem dX5_remember_16 : decode cX5_remember 16 = .ok (.invokestatic 113, 3) := by decide +kernel
theorem dX5_remember_19 : decode cX5_remember 19 = .ok (.ifCond .eq 17, 3) := by decide +kernel
theorem dX5_remember_22 : decode cX5_remember 22 = .ok (.iload_n 3, 1) := by decide +kernel
theorem dX5_remember_23 : decode cX5_remember 23 = .ok (.getstatic 130, 3) := by decide +kernel
theorem dX5_remember_26 : decode cX5_remember 26 = .ok (.iload_n 2, 1) := by decide +kernel
theorem dX5_remember_27 : decode cX5_remember 27 = .ok (.invokestatic 134, 3) := by decide +kernel
theorem dX5_remember_30 : decode cX5_remember 30 = .ok (.invokestatic 113, 3) := by decide +kernel
theorem dX5_remember_33 : decode cX5_remember 33 = .ok (.ifCond .ne 6, 3) := by decide +kernel
theorem dX5_remember_36 : decode cX5_remember 36 = .ok (.bipush (-102), 2) := by decide +kernel
theorem dX5_remember_38 : decode cX5_remember 38 = .ok (.ireturn, 1) := by decide +kernel
theorem dX5_remember_39 : decode cX5_remember 39 = .ok (.aload_n 0, 1) := by decide +kernel
theorem dX5_remember_40 : decode cX5_remember 40 = .ok (.getfield 19, 3) := by decide +kernel
theorem dX5_remember_43 : decode cX5_remember 43 = .ok (.invokevirtual 73, 3) := by decide +kernel
theorem dX5_remember_46 : decode cX5_remember 46 = .ok (.iload_n 1, 1) := by decide +kernel
theorem dX5_remember_47 : decode cX5_remember 47 = .ok (.iload_n 2, 1) := by decide +kernel
theorem dX5_remember_48 : decode cX5_remember 48 = .ok (.invokevirtual 95, 3) := by decide +kernel
theorem dX5_remember_51 : decode cX5_remember 51 = .ok (.istore 4, 2) := by decide +kernel
theorem dX5_remember_53 : decode cX5_remember 53 = .ok (.aload_n 0, 1) := by decide +kernel
theorem dX5_remember_54 : decode cX5_remember 54 = .ok (.getfield 19, 3) := by decide +kernel
theorem dX5_remember_57 : decode cX5_remember 57 = .ok (.invokevirtual 73, 3) := by decide +kernel
theorem dX5_remember_60 : decode cX5_remember 60 = .ok (.iload_n 1, 1) := by decide +kernel
theorem dX5_remember_61 : decode cX5_remember 61 = .ok (.iload_n 2, 1) := by decide +kernel
theorem dX5_remember_62 : decode cX5_remember 62 = .ok (.iload_n 3, 1) := by decide +kernel
theorem dX5_remember_63 : decode cX5_remember 63 = .ok (.invokevirtual 138, 3) := by decide +kernel
theorem dX5_remember_66 : decode cX5_remember 66 = .ok (.iload 4, 2) := by decide +kernel
theorem dX5_remember_68 : decode cX5_remember 68 = .ok (.ireturn, 1) := by decide +kernel
theorem dX5_six_0 : decode cX5_six 0 = .ok (.aload_n 0, 1) := by decide +kernel
theorem dX5_six_1 : decode cX5_six 1 = .ok (.getfield 19, 3) := by decide +kernel
theorem dX5_six_4 : decode cX5_six 4 = .ok (.invokevirtual 142, 3) := by decide +kernel
theorem dX5_six_7 : decode cX5_six 7 = .ok (.ifCond .ne 6, 3) := by decide +kernel
theorem dX5_six_10 : decode cX5_six 10 = .ok (.bipush (-103), 2) := by decide +kernel
theorem dX5_six_12 : decode cX5_six 12 = .ok (.ireturn, 1) := by decide +kernel
theorem dX5_six_13 : decode cX5_six 13 = .ok (.aload_n 0, 1) := by decide +kernel
theorem dX5_six_14 : decode cX5_six 14 = .ok (.getfield 19, 3) := by decide +kernel
theorem dX5_six_17 : decode cX5_six 17 = .ok (.invokevirtual 73, 3) := by decide +kernel
theorem dX5_six_20 : decode cX5_six 20 = .ok (.invokevirtual 145, 3) := by decide +kernel
theorem dX5_six_23 : decode cX5_six 23 = .ok (.bipush 99, 2) := by decide +kernel
theorem dX5_six_25 : decode cX5_six 25 = .ok (.if_icmp .lt 6, 3) := by decide +kernel
theorem dX5_six_28 : decode cX5_six 28 = .ok (.bipush (-104), 2) := by decide +kernel
theorem dX5_six_30 : decode cX5_six 30 = .ok (.ireturn, 1) := by decide +kernel
theorem dX5_six_31 : decode cX5_six 31 = .ok (.aload_n 0, 1) := by decide +kernel
theorem dX5_six_32 : decode cX5_six 32 = .ok (.getfield 19, 3) := by decide +kernel
theorem dX5_six_35 : decode cX5_six 35 = .ok (.invokevirtual 148, 3) := by decide +kernel
theorem dX5_six_38 : decode cX5_six 38 = .ok (.istore_n 1, 1) := by decide +kernel
theorem dX5_six_39 : decode cX5_six 39 = .ok (.aload_n 0, 1) := by decide +kernel
theorem dX5_six_40 : decode cX5_six 40 = .ok (.getfield 19, 3) := by decide +kernel
theorem dX5_six_43 : decode cX5_six 43 = .ok (.invokevirtual 63, 3) := by decide +kernel
theorem dX5_six_46 : decode cX5_six 46 = .ok (.iload_n 1, 1) := by decide +kernel
theorem dX5_six_47 : decode cX5_six 47 = .ok (.isub, 1) := by decide +kernel
theorem dX5_six_48 : decode cX5_six 48 = .ok (.istore_n 2, 1) := by decide +kernel
theorem dX5_six_49 : decode cX5_six 49 = .ok (.aload_n 0, 1) := by decide +kernel
theorem dX5_six_50 : decode cX5_six 50 = .ok (.getfield 19, 3) := by decide +kernel
theorem dX5_six_53 : decode cX5_six 53 = .ok (.invokevirtual 73, 3) := by decide +kernel
theorem dX5_six_56 : decode cX5_six 56 = .ok (.iload_n 2, 1) := by decide +kernel
theorem dX5_six_57 : decode cX5_six 57 = .ok (.aload_n 0, 1) := by decide +kernel
theorem dX5_six_58 : decode cX5_six 58 = .ok (.getfield 19, 3) := by decide +kernel
theorem dX5_six_61 : decode cX5_six 61 = .ok (.invokevirtual 151, 3) := by decide +kernel
theorem dX5_six_64 : decode cX5_six 64 = .ok (.iload_n 1, 1) := by decide +kernel
theorem dX5_six_65 : decode cX5_six 65 = .ok (.isub, 1) := by decide +kernel
theorem dX5_six_66 : decode cX5_six 66 = .ok (.invokevirtual 154, 3) := by decide +kernel
theorem dX5_six_69 : decode cX5_six 69 = .ok (.iload_n 2, 1) := by decide +kernel
theorem dX5_six_70 : decode cX5_six 70 = .ok (.ireturn, 1) := by decide +kernel
theorem dX5_match_0 : decode cX5_match 0 = .ok (.iload_n 1, 1) := by decide +kernel
theorem dX5_match_1 : decode cX5_match 1 = .ok (.invokestatic 157, 3) := by decide +kernel
theorem dX5_match_4 : decode cX5_match 4 = .ok (.ifCond .ne 6, 3) := by decide +kernel
theorem dX5_match_7 : decode cX5_match 7 = .ok (.bipush (-102), 2) := by decide +kernel
theorem dX5_match_9 : decode cX5_match 9 = .ok (.ireturn, 1) := by decide +kernel
theorem dX5_match_10 : decode cX5_match 10 = .ok (.aload_n 0, 1) := by decide +kernel
theorem dX5_match_11 : decode cX5_match 11 = .ok (.getfield 19, 3) := by decide +kernel
theorem dX5_match_14 : decode cX5_match 14 = .ok (.invokevirtual 142, 3) := by decide +kernel
theorem dX5_match_17 : decode cX5_match 17 = .ok (.ifCond .ne 6, 3) := by decide +kernel
theorem dX5_match_20 : decode cX5_match 20 = .ok (.bipush (-103), 2) := by decide +kernel
theorem dX5_match_22 : decode cX5_match 22 = .ok (.ireturn, 1) := by decide +kernel
theorem dX5_match_23 : decode cX5_match 23 = .ok (.aload_n 0, 1) := by decide +kernel
theorem dX5_match_24 : decode cX5_match 24 = .ok (.getfield 26, 3) := by decide +kernel
theorem dX5_match_27 : decode cX5_match 27 = .ok (.aload_n 0, 1) := by decide +kernel
theorem dX5_match_28 : decode cX5_match 28 = .ok (.getfield 19, 3) := by decide +kernel
theorem dX5_match_31 : decode cX5_match 31 = .ok (.invokevirtual 160, 3) := by decide +kernel
theorem dX5_match_34 : decode cX5_match 34 = .ok (.aload_n 0, 1) := by decide +kernel
theorem dX5_match_35 : decode cX5_match 35 = .ok (.getfield 26, 3) := by decide +kernel
theorem dX5_match_38 : decode cX5_match 38 = .ok (.iload_n 1, 1) := by decide +kernel
theorem dX5_match_39 : decode cX5_match 39 = .ok (.invokevirtual 164, 3) := by decide +kernel
theorem dX5_match_42 : decode cX5_match 42 = .ok (.ireturn, 1) := by decide +kernel
theorem dX5_see_0 : decode cX5_see 0 = .ok (.aload_n 0, 1) := by decide +kernel
theorem dX5_see_1 : decode cX5_see 1 = .ok (.getfield 19, 3) := by decide +kernel
theorem dX5_see_4 : decode cX5_see 4 = .ok (.iload_n 1, 1) := by decide +kernel
theorem dX5_see_5 : decode cX5_see 5 = .ok (.iload_n 2, 1) := by decide +kernel
theorem dX5_see_6 : decode cX5_see 6 = .ok (.invokevirtual 120, 3) := by decide +kernel
theorem dX5_see_9 : decode cX5_see 9 = .ok (.ifCond .ne 6, 3) := by decide +kernel
theorem dX5_see_12 : decode cX5_see 12 = .ok (.bipush (-101), 2) := by decide +kernel
theorem dX5_see_14 : decode cX5_see 14 = .ok (.ireturn, 1) := by decide +kernel
theorem dX5_see_15 : decode cX5_see 15 = .ok (.aload_n 0, 1) := by decide +kernel
theorem dX5_see_16 : decode cX5_see 16 = .ok (.getfield 19, 3) := by decide +kernel
theorem dX5_see_19 : decode cX5_see 19 = .ok (.invokevirtual 73, 3) := by decide +kernel
theorem dX5_see_22 : decode cX5_see 22 = .ok (.iload_n 1, 1) := by decide +kernel
theorem dX5_see_23 : decode cX5_see 23 = .ok (.iload_n 2, 1) := by decide +kernel
theorem dX5_see_24 : decode cX5_see 24 = .ok (.iload_n 3, 1) := by decide +kernel
theorem dX5_see_25 : decode cX5_see 25 = .ok (.invokevirtual 167, 3) := by decide +kernel
theorem dX5_see_28 : decode cX5_see 28 = .ok (.ifCond .ne 6, 3) := by decide +kernel
theorem dX5_see_31 : decode cX5_see 31 = .ok (.bipush (-104), 2) := by decide +kernel
theorem dX5_see_33 : decode cX5_see 33 = .ok (.ireturn, 1) := by decide +kernel
theorem dX5_see_34 : decode cX5_see 34 = .ok (.aload_n 0, 1) := by decide +kernel
theorem dX5_see_35 : decode cX5_see 35 = .ok (.getfield 19, 3) := by decide +kernel
theorem dX5_see_38 : decode cX5_see 38 = .ok (.invokevirtual 73, 3) := by decide +kernel
theorem dX5_see_41 : decode cX5_see 41 = .ok (.invokevirtual 171, 3) := by decide +kernel
theorem dX5_see_44 : decode cX5_see 44 = .ok (.ireturn, 1) := by decide +kernel
theorem dX5_forget_0 : decode cX5_forget 0 = .ok (.aload_n 0, 1) := by decide +kernel
theorem dX5_forget_1 : decode cX5_forget 1 = .ok (.getfield 19, 3) := by decide +kernel
theorem dX5_forget_4 : decode cX5_forget 4 = .ok (.invokevirtual 73, 3) := by decide +kernel
theorem dX5_forget_7 : decode cX5_forget 7 = .ok (.invokevirtual 171, 3) := by decide +kernel
theorem dX5_forget_10 : decode cX5_forget 10 = .ok (.istore_n 1, 1) := by decide +kernel
theorem dX5_forget_11 : decode cX5_forget 11 = .ok (.aload_n 0, 1) := by decide +kernel
theorem dX5_forget_12 : decode cX5_forget 12 = .ok (.getfield 19, 3) := by decide +kernel
theorem dX5_forget_15 : decode cX5_forget 15 = .ok (.invokevirtual 73, 3) := by decide +kernel
theorem dX5_forget_18 : decode cX5_forget 18 = .ok (.invokevirtual 174, 3) := by decide +kernel
theorem dX5_forget_21 : decode cX5_forget 21 = .ok (.iload_n 1, 1) := by decide +kernel
theorem dX5_forget_22 : decode cX5_forget 22 = .ok (.ireturn, 1) := by decide +kernel
theorem dX5_mondays_0 : decode cX5_mondays 0 = .ok (.iload_n 1, 1) := by decide +kernel
theorem dX5_mondays_1 : decode cX5_mondays 1 = .ok (.iconst 1, 1) := by decide +kernel
theorem dX5_mondays_2 : decode cX5_mondays 2 = .ok (.if_icmp .lt 22, 3) := by decide +kernel
theorem dX5_mondays_5 : decode cX5_mondays 5 = .ok (.iload_n 1, 1) := by decide +kernel
theorem dX5_mondays_6 : decode cX5_mondays 6 = .ok (.bipush 60, 2) := by decide +kernel
theorem dX5_mondays_8 : decode cX5_mondays 8 = .ok (.if_icmp .gt 16, 3) := by decide +kernel
theorem dX5_mondays_11 : decode cX5_mondays 11 = .ok (.iload_n 2, 1) := by decide +kernel
theorem dX5_mondays_12 : decode cX5_mondays 12 = .ok (.ifCond .lt 12, 3) := by decide +kernel
theorem dX5_mondays_15 : decode cX5_mondays 15 = .ok (.iload_n 3, 1) := by decide +kernel
theorem dX5_mondays_16 : decode cX5_mondays 16 = .ok (.ifCond .lt 8, 3) := by decide +kernel
theorem dX5_mondays_19 : decode cX5_mondays 19 = .ok (.iload_n 3, 1) := by decide +kernel
theorem dX5_mondays_20 : decode cX5_mondays 20 = .ok (.iconst 2, 1) := by decide +kernel
theorem dX5_mondays_21 : decode cX5_mondays 21 = .ok (.if_icmp .le 6, 3) := by decide +kernel
theorem dX5_mondays_24 : decode cX5_mondays 24 = .ok (.bipush (-102), 2) := by decide +kernel
theorem dX5_mondays_26 : decode cX5_mondays 26 = .ok (.ireturn, 1) := by decide +kernel
theorem dX5_mondays_27 : decode cX5_mondays 27 = .ok (.aload_n 0, 1) := by decide +kernel
theorem dX5_mondays_28 : decode cX5_mondays 28 = .ok (.getfield 19, 3) := by decide +kernel
theorem dX5_mondays_31 : decode cX5_mondays 31 = .ok (.invokevirtual 142, 3) := by decide +kernel
theorem dX5_mondays_34 : decode cX5_mondays 34 = .ok (.ifCond .ne 6, 3) := by decide +kernel
theorem dX5_mondays_37 : decode cX5_mondays 37 = .ok (.bipush (-103), 2) := by decide +kernel
theorem dX5_mondays_39 : decode cX5_mondays 39 = .ok (.ireturn, 1) := by decide +kernel
theorem dX5_mondays_40 : decode cX5_mondays 40 = .ok (.aload_n 0, 1) := by decide +kernel
theorem dX5_mondays_41 : decode cX5_mondays 41 = .ok (.getfield 33, 3) := by decide +kernel
theorem dX5_mondays_44 : decode cX5_mondays 44 = .ok (.aload_n 0, 1) := by decide +kernel
theorem dX5_mondays_45 : decode cX5_mondays 45 = .ok (.getfield 19, 3) := by decide +kernel
theorem dX5_mondays_48 : decode cX5_mondays 48 = .ok (.iload_n 1, 1) := by decide +kernel
theorem dX5_mondays_49 : decode cX5_mondays 49 = .ok (.iload_n 2, 1) := by decide +kernel
theorem dX5_mondays_50 : decode cX5_mondays 50 = .ok (.invokevirtual 177, 3) := by decide +kernel
theorem dX5_mondays_53 : decode cX5_mondays 53 = .ok (.aload_n 0, 1) := by decide +kernel
theorem dX5_mondays_54 : decode cX5_mondays 54 = .ok (.getfield 33, 3) := by decide +kernel
theorem dX5_mondays_57 : decode cX5_mondays 57 = .ok (.iload_n 3, 1) := by decide +kernel
theorem dX5_mondays_58 : decode cX5_mondays 58 = .ok (.invokevirtual 181, 3) := by decide +kernel
theorem dX5_mondays_61 : decode cX5_mondays 61 = .ok (.ireturn, 1) := by decide +kernel
theorem dX5_image_0 : decode cX5_image 0 = .ok (.aload_n 0, 1) := by decide +kernel
theorem dX5_image_1 : decode cX5_image 1 = .ok (.getfield 19, 3) := by decide +kernel
theorem dX5_image_4 : decode cX5_image 4 = .ok (.invokevirtual 142, 3) := by decide +kernel
theorem dX5_image_7 : decode cX5_image 7 = .ok (.ifCond .ne 6, 3) := by decide +kernel
theorem dX5_image_10 : decode cX5_image 10 = .ok (.bipush (-103), 2) := by decide +kernel
theorem dX5_image_12 : decode cX5_image 12 = .ok (.ireturn, 1) := by decide +kernel
theorem dX5_image_13 : decode cX5_image 13 = .ok (.aload_n 0, 1) := by decide +kernel
theorem dX5_image_14 : decode cX5_image 14 = .ok (.getfield 19, 3) := by decide +kernel
theorem dX5_image_17 : decode cX5_image 17 = .ok (.invokevirtual 182, 3) := by decide +kernel
theorem dX5_image_20 : decode cX5_image 20 = .ok (.aload_n 0, 1) := by decide +kernel
theorem dX5_image_21 : decode cX5_image 21 = .ok (.getfield 19, 3) := by decide +kernel
theorem dX5_image_24 : decode cX5_image 24 = .ok (.invokevirtual 73, 3) := by decide +kernel
theorem dX5_image_27 : decode cX5_image 27 = .ok (.invokevirtual 145, 3) := by decide +kernel
theorem dX5_image_30 : decode cX5_image 30 = .ok (.ireturn, 1) := by decide +kernel
theorem dX5_restore_0 : decode cX5_restore 0 = .ok (.aload_n 0, 1) := by decide +kernel
theorem dX5_restore_1 : decode cX5_restore 1 = .ok (.getfield 19, 3) := by decide +kernel
theorem dX5_restore_4 : decode cX5_restore 4 = .ok (.invokevirtual 185, 3) := by decide +kernel
theorem dX5_restore_7 : decode cX5_restore 7 = .ok (.ifCond .ne 6, 3) := by decide +kernel
theorem dX5_restore_10 : decode cX5_restore 10 = .ok (.bipush (-103), 2) := by decide +kernel
theorem dX5_restore_12 : decode cX5_restore 12 = .ok (.ireturn, 1) := by decide +kernel
theorem dX5_restore_13 : decode cX5_restore 13 = .ok (.aload_n 0, 1) := by decide +kernel
theorem dX5_restore_14 : decode cX5_restore 14 = .ok (.getfield 19, 3) := by decide +kernel
theorem dX5_restore_17 : decode cX5_restore 17 = .ok (.invokevirtual 188, 3) := by decide +kernel
theorem dX5_restore_20 : decode cX5_restore 20 = .ok (.aload_n 0, 1) := by decide +kernel
theorem dX5_restore_21 : decode cX5_restore 21 = .ok (.getfield 19, 3) := by decide +kernel
theorem dX5_restore_24 : decode cX5_restore 24 = .ok (.invokevirtual 73, 3) := by decide +kernel
theorem dX5_restore_27 : decode cX5_restore 27 = .ok (.invokevirtual 145, 3) := by decide +kernel
theorem dX5_restore_30 : decode cX5_restore 30 = .ok (.ireturn, 1) := by decide +kernel
theorem dX5_count_0 : decode cX5_count 0 = .ok (.iload_n 1, 1) := by decide +kernel
theorem dX5_count_1 : decode cX5_count 1 = .ok (.tableswitch 156 0 10 #[59, 67, 75, 83, 91, 99, 110, 121, 132, 143, 151], 59) := by decide +kernel
theorem dX5_count_60 : decode cX5_count 60 = .ok (.aload_n 0, 1) := by decide +kernel
theorem dX5_count_61 : decode cX5_count 61 = .ok (.getfield 19, 3) := by decide +kernel
theorem dX5_count_64 : decode cX5_count 64 = .ok (.invokevirtual 63, 3) := by decide +kernel
theorem dX5_count_67 : decode cX5_count 67 = .ok (.ireturn, 1) := by decide +kernel
theorem dX5_count_68 : decode cX5_count 68 = .ok (.aload_n 0, 1) := by decide +kernel
theorem dX5_count_69 : decode cX5_count 69 = .ok (.getfield 19, 3) := by decide +kernel
theorem dX5_count_72 : decode cX5_count 72 = .ok (.invokevirtual 151, 3) := by decide +kernel
theorem dX5_count_75 : decode cX5_count 75 = .ok (.ireturn, 1) := by decide +kernel
theorem dX5_count_76 : decode cX5_count 76 = .ok (.aload_n 0, 1) := by decide +kernel
theorem dX5_count_77 : decode cX5_count 77 = .ok (.getfield 19, 3) := by decide +kernel
theorem dX5_count_80 : decode cX5_count 80 = .ok (.invokevirtual 148, 3) := by decide +kernel
theorem dX5_count_83 : decode cX5_count 83 = .ok (.ireturn, 1) := by decide +kernel
theorem dX5_count_84 : decode cX5_count 84 = .ok (.aload_n 0, 1) := by decide +kernel
theorem dX5_count_85 : decode cX5_count 85 = .ok (.getfield 19, 3) := by decide +kernel
theorem dX5_count_88 : decode cX5_count 88 = .ok (.invokevirtual 191, 3) := by decide +kernel
theorem dX5_count_91 : decode cX5_count 91 = .ok (.ireturn, 1) := by decide +kernel
theorem dX5_count_92 : decode cX5_count 92 = .ok (.aload_n 0, 1) := by decide +kernel
theorem dX5_count_93 : decode cX5_count 93 = .ok (.getfield 19, 3) := by decide +kernel
theorem dX5_count_96 : decode cX5_count 96 = .ok (.invokevirtual 194, 3) := by decide +kernel
theorem dX5_count_99 : decode cX5_count 99 = .ok (.ireturn, 1) := by decide +kernel
theorem dX5_count_100 : decode cX5_count 100 = .ok (.aload_n 0, 1) := by decide +kernel
theorem dX5_count_101 : decode cX5_count 101 = .ok (.getfield 19, 3) := by decide +kernel
theorem dX5_count_104 : decode cX5_count 104 = .ok (.invokevirtual 73, 3) := by decide +kernel
theorem dX5_count_107 : decode cX5_count 107 = .ok (.invokevirtual 145, 3) := by decide +kernel
theorem dX5_count_110 : decode cX5_count 110 = .ok (.ireturn, 1) := by decide +kernel
theorem dX5_count_111 : decode cX5_count 111 = .ok (.aload_n 0, 1) := by decide +kernel
theorem dX5_count_112 : decode cX5_count 112 = .ok (.getfield 19, 3) := by decide +kernel
theorem dX5_count_115 : decode cX5_count 115 = .ok (.invokevirtual 73, 3) := by decide +kernel
theorem dX5_count_118 : decode cX5_count 118 = .ok (.invokevirtual 197, 3) := by decide +kernel
theorem dX5_count_121 : decode cX5_count 121 = .ok (.ireturn, 1) := by decide +kernel
theorem dX5_count_122 : decode cX5_count 122 = .ok (.aload_n 0, 1) := by decide +kernel
theorem dX5_count_123 : decode cX5_count 123 = .ok (.getfield 19, 3) := by decide +kernel
theorem dX5_count_126 : decode cX5_count 126 = .ok (.invokevirtual 73, 3) := by decide +kernel
theorem dX5_count_129 : decode cX5_count 129 = .ok (.invokevirtual 200, 3) := by decide +kernel
theorem dX5_count_132 : decode cX5_count 132 = .ok (.ireturn, 1) := by decide +kernel
theorem dX5_count_133 : decode cX5_count 133 = .ok (.aload_n 0, 1) := by decide +kernel
theorem dX5_count_134 : decode cX5_count 134 = .ok (.getfield 19, 3) := by decide +kernel
theorem dX5_count_137 : decode cX5_count 137 = .ok (.invokevirtual 73, 3) := by decide +kernel
theorem dX5_count_140 : decode cX5_count 140 = .ok (.invokevirtual 171, 3) := by decide +kernel
theorem dX5_count_143 : decode cX5_count 143 = .ok (.ireturn, 1) := by decide +kernel
theorem dX5_count_144 : decode cX5_count 144 = .ok (.aload_n 0, 1) := by decide +kernel
theorem dX5_count_145 : decode cX5_count 145 = .ok (.getfield 12, 3) := by decide +kernel
theorem dX5_count_148 : decode cX5_count 148 = .ok (.invokevirtual 45, 3) := by decide +kernel
theorem dX5_count_151 : decode cX5_count 151 = .ok (.ireturn, 1) := by decide +kernel
theorem dX5_count_152 : decode cX5_count 152 = .ok (.aload_n 0, 1) := by decide +kernel
theorem dX5_count_153 : decode cX5_count 153 = .ok (.getfield 37, 3) := by decide +kernel
theorem dX5_count_156 : decode cX5_count 156 = .ok (.ireturn, 1) := by decide +kernel
theorem dX5_count_157 : decode cX5_count 157 = .ok (.bipush (-102), 2) := by decide +kernel
theorem dX5_count_159 : decode cX5_count 159 = .ok (.ireturn, 1) := by decide +kernel
theorem dX5_digest_0 : decode cX5_digest 0 = .ok (.ldc2_w 203, 3) := by decide +kernel
theorem dX5_digest_3 : decode cX5_digest 3 = .ok (.lstore_n 1, 1) := by decide +kernel
theorem dX5_digest_4 : decode cX5_digest 4 = .ok (.iconst 0, 1) := by decide +kernel
theorem dX5_digest_5 : decode cX5_digest 5 = .ok (.istore_n 3, 1) := by decide +kernel
theorem dX5_digest_6 : decode cX5_digest 6 = .ok (.iload_n 3, 1) := by decide +kernel
theorem dX5_digest_7 : decode cX5_digest 7 = .ok (.aload_n 0, 1) := by decide +kernel
theorem dX5_digest_8 : decode cX5_digest 8 = .ok (.getfield 19, 3) := by decide +kernel
theorem dX5_digest_11 : decode cX5_digest 11 = .ok (.invokevirtual 63, 3) := by decide +kernel
theorem dX5_digest_14 : decode cX5_digest 14 = .ok (.if_icmp .ge 37, 3) := by decide +kernel
theorem dX5_digest_17 : decode cX5_digest 17 = .ok (.iconst 0, 1) := by decide +kernel
theorem dX5_digest_18 : decode cX5_digest 18 = .ok (.istore 4, 2) := by decide +kernel
theorem dX5_digest_20 : decode cX5_digest 20 = .ok (.iload 4, 2) := by decide +kernel
theorem dX5_digest_22 : decode cX5_digest 22 = .ok (.bipush 6, 2) := by decide +kernel
theorem dX5_digest_24 : decode cX5_digest 24 = .ok (.if_icmp .gt 21, 3) := by decide +kernel
theorem dX5_digest_27 : decode cX5_digest 27 = .ok (.lload_n 1, 1) := by decide +kernel
theorem dX5_digest_28 : decode cX5_digest 28 = .ok (.aload_n 0, 1) := by decide +kernel
theorem dX5_digest_29 : decode cX5_digest 29 = .ok (.iload_n 3, 1) := by decide +kernel
theorem dX5_digest_30 : decode cX5_digest 30 = .ok (.iload 4, 2) := by decide +kernel
theorem dX5_digest_32 : decode cX5_digest 32 = .ok (.invokevirtual 205, 3) := by decide +kernel
theorem dX5_digest_35 : decode cX5_digest 35 = .ok (.invokestatic 208, 3) := by decide +kernel
theorem dX5_digest_38 : decode cX5_digest 38 = .ok (.lstore_n 1, 1) := by decide +kernel
theorem dX5_digest_39 : decode cX5_digest 39 = .ok (.iinc 4 1, 3) := by decide +kernel
theorem dX5_digest_42 : decode cX5_digest 42 = .ok (.goto (-22), 3) := by decide +kernel
theorem dX5_digest_45 : decode cX5_digest 45 = .ok (.iinc 3 1, 3) := by decide +kernel
theorem dX5_digest_48 : decode cX5_digest 48 = .ok (.goto (-42), 3) := by decide +kernel
theorem dX5_digest_51 : decode cX5_digest 51 = .ok (.iconst 0, 1) := by decide +kernel
theorem dX5_digest_52 : decode cX5_digest 52 = .ok (.istore_n 3, 1) := by decide +kernel
theorem dX5_digest_53 : decode cX5_digest 53 = .ok (.iload_n 3, 1) := by decide +kernel
theorem dX5_digest_54 : decode cX5_digest 54 = .ok (.aload_n 0, 1) := by decide +kernel
theorem dX5_digest_55 : decode cX5_digest 55 = .ok (.getfield 19, 3) := by decide +kernel
theorem dX5_digest_58 : decode cX5_digest 58 = .ok (.invokevirtual 151, 3) := by decide +kernel
theorem dX5_digest_61 : decode cX5_digest 61 = .ok (.if_icmp .ge 73, 3) := by decide +kernel
theorem dX5_digest_64 : decode cX5_digest 64 = .ok (.iconst 0, 1) := by decide +kernel
theorem dX5_digest_65 : decode cX5_digest 65 = .ok (.istore 4, 2) := by decide +kernel
theorem dX5_digest_67 : decode cX5_digest 67 = .ok (.iload 4, 2) := by decide +kernel
theorem dX5_digest_69 : decode cX5_digest 69 = .ok (.bipush 6, 2) := by decide +kernel
theorem dX5_digest_71 : decode cX5_digest 71 = .ok (.if_icmp .gt 21, 3) := by decide +kernel
theorem dX5_digest_74 : decode cX5_digest 74 = .ok (.lload_n 1, 1) := by decide +kernel
theorem dX5_digest_75 : decode cX5_digest 75 = .ok (.aload_n 0, 1) := by decide +kernel
theorem dX5_digest_76 : decode cX5_digest 76 = .ok (.iload_n 3, 1) := by decide +kernel
theorem dX5_digest_77 : decode cX5_digest 77 = .ok (.iload 4, 2) := by decide +kernel
theorem dX5_digest_79 : decode cX5_digest 79 = .ok (.invokevirtual 212, 3) := by decide +kernel
theorem dX5_digest_82 : decode cX5_digest 82 = .ok (.invokestatic 208, 3) := by decide +kernel
theorem dX5_digest_85 : decode cX5_digest 85 = .ok (.lstore_n 1, 1) := by decide +kernel
theorem dX5_digest_86 : decode cX5_digest 86 = .ok (.iinc 4 1, 3) := by decide +kernel
theorem dX5_digest_89 : decode cX5_digest 89 = .ok (.goto (-22), 3) := by decide +kernel
theorem dX5_digest_92 : decode cX5_digest 92 = .ok (.iconst 0, 1) := by decide +kernel
theorem dX5_digest_93 : decode cX5_digest 93 = .ok (.istore 4, 2) := by decide +kernel
theorem dX5_digest_95 : decode cX5_digest 95 = .ok (.iload 4, 2) := by decide +kernel
theorem dX5_digest_97 : decode cX5_digest 97 = .ok (.aload_n 0, 1) := by decide +kernel
theorem dX5_digest_98 : decode cX5_digest 98 = .ok (.getfield 19, 3) := by decide +kernel
theorem dX5_digest_101 : decode cX5_digest 101 = .ok (.invokevirtual 63, 3) := by decide +kernel
theorem dX5_digest_104 : decode cX5_digest 104 = .ok (.if_icmp .ge 24, 3) := by decide +kernel
theorem dX5_digest_107 : decode cX5_digest 107 = .ok (.lload_n 1, 1) := by decide +kernel
theorem dX5_digest_108 : decode cX5_digest 108 = .ok (.aload_n 0, 1) := by decide +kernel
theorem dX5_digest_109 : decode cX5_digest 109 = .ok (.getfield 19, 3) := by decide +kernel
theorem dX5_digest_112 : decode cX5_digest 112 = .ok (.iload 4, 2) := by decide +kernel
theorem dX5_digest_114 : decode cX5_digest 114 = .ok (.iload_n 3, 1) := by decide +kernel
theorem dX5_digest_115 : decode cX5_digest 115 = .ok (.invokevirtual 123, 3) := by decide +kernel
theorem dX5_digest_118 : decode cX5_digest 118 = .ok (.invokestatic 208, 3) := by decide +kernel
theorem dX5_digest_121 : decode cX5_digest 121 = .ok (.lstore_n 1, 1) := by decide +kernel
theorem dX5_digest_122 : decode cX5_digest 122 = .ok (.iinc 4 1, 3) := by decide +kernel
theorem dX5_digest_125 : decode cX5_digest 125 = .ok (.goto (-30), 3) := by decide +kernel
theorem dX5_digest_128 : decode cX5_digest 128 = .ok (.iinc 3 1, 3) := by decide +kernel
theorem dX5_digest_131 : decode cX5_digest 131 = .ok (.goto (-78), 3) := by decide +kernel
theorem dX5_digest_134 : decode cX5_digest 134 = .ok (.aload_n 0, 1) := by decide +kernel
theorem dX5_digest_135 : decode cX5_digest 135 = .ok (.getfield 19, 3) := by decide +kernel
theorem dX5_digest_138 : decode cX5_digest 138 = .ok (.invokevirtual 142, 3) := by decide +kernel
theorem dX5_digest_141 : decode cX5_digest 141 = .ok (.ifCond .eq 48, 3) := by decide +kernel
theorem dX5_digest_144 : decode cX5_digest 144 = .ok (.aload_n 0, 1) := by decide +kernel
theorem dX5_digest_145 : decode cX5_digest 145 = .ok (.getfield 26, 3) := by decide +kernel
theorem dX5_digest_148 : decode cX5_digest 148 = .ok (.aload_n 0, 1) := by decide +kernel
theorem dX5_digest_149 : decode cX5_digest 149 = .ok (.getfield 19, 3) := by decide +kernel
theorem dX5_digest_152 : decode cX5_digest 152 = .ok (.invokevirtual 160, 3) := by decide +kernel
theorem dX5_digest_155 : decode cX5_digest 155 = .ok (.iconst 0, 1) := by decide +kernel
theorem dX5_digest_156 : decode cX5_digest 156 = .ok (.istore_n 3, 1) := by decide +kernel
theorem dX5_digest_157 : decode cX5_digest 157 = .ok (.iload_n 3, 1) := by decide +kernel
theorem dX5_digest_158 : decode cX5_digest 158 = .ok (.bipush 12, 2) := by decide +kernel
theorem dX5_digest_160 : decode cX5_digest 160 = .ok (.if_icmp .gt 29, 3) := by decide +kernel
theorem dX5_digest_163 : decode cX5_digest 163 = .ok (.iload_n 3, 1) := by decide +kernel
theorem dX5_digest_164 : decode cX5_digest 164 = .ok (.invokestatic 157, 3) := by decide +kernel
theorem dX5_digest_167 : decode cX5_digest 167 = .ok (.ifCond .eq 16, 3) := by decide +kernel
theorem dX5_digest_170 : decode cX5_digest 170 = .ok (.lload_n 1, 1) := by decide +kernel
theorem dX5_digest_171 : decode cX5_digest 171 = .ok (.aload_n 0, 1) := by decide +kernel
theorem dX5_digest_172 : decode cX5_digest 172 = .ok (.getfield 26, 3) := by decide +kernel
theorem dX5_digest_175 : decode cX5_digest 175 = .ok (.iload_n 3, 1) := by decide +kernel
theorem dX5_digest_176 : decode cX5_digest 176 = .ok (.invokevirtual 164, 3) := by decide +kernel
theorem dX5_digest_179 : decode cX5_digest 179 = .ok (.invokestatic 208, 3) := by decide +kernel
theorem dX5_digest_182 : decode cX5_digest 182 = .ok (.lstore_n 1, 1) := by decide +kernel
theorem dX5_digest_183 : decode cX5_digest 183 = .ok (.iinc 3 1, 3) := by decide +kernel
theorem dX5_digest_186 : decode cX5_digest 186 = .ok (.goto (-29), 3) := by decide +kernel
theorem dX5_digest_189 : decode cX5_digest 189 = .ok (.iconst 0, 1) := by decide +kernel
theorem dX5_digest_190 : decode cX5_digest 190 = .ok (.istore_n 3, 1) := by decide +kernel
theorem dX5_digest_191 : decode cX5_digest 191 = .ok (.iload_n 3, 1) := by decide +kernel
theorem dX5_digest_192 : decode cX5_digest 192 = .ok (.aload_n 0, 1) := by decide +kernel
theorem dX5_digest_193 : decode cX5_digest 193 = .ok (.getfield 12, 3) := by decide +kernel
theorem dX5_digest_196 : decode cX5_digest 196 = .ok (.invokevirtual 45, 3) := by decide +kernel
theorem dX5_digest_199 : decode cX5_digest 199 = .ok (.if_icmp .ge 22, 3) := by decide +kernel
theorem dX5_digest_202 : decode cX5_digest 202 = .ok (.lload_n 1, 1) := by decide +kernel
theorem dX5_digest_203 : decode cX5_digest 203 = .ok (.aload_n 0, 1) := by decide +kernel
theorem dX5_digest_204 : decode cX5_digest 204 = .ok (.getfield 12, 3) := by decide +kernel
theorem dX5_digest_207 : decode cX5_digest 207 = .ok (.iload_n 3, 1) := by decide +kernel
theorem dX5_digest_208 : decode cX5_digest 208 = .ok (.invokevirtual 215, 3) := by decide +kernel
theorem dX5_digest_211 : decode cX5_digest 211 = .ok (.invokestatic 208, 3) := by decide +kernel
theorem dX5_digest_214 : decode cX5_digest 214 = .ok (.lstore_n 1, 1) := by decide +kernel
theorem dX5_digest_215 : decode cX5_digest 215 = .ok (.iinc 3 1, 3) := by decide +kernel
theorem dX5_digest_218 : decode cX5_digest 218 = .ok (.goto (-27), 3) := by decide +kernel
theorem dX5_digest_221 : decode cX5_digest 221 = .ok (.iconst 0, 1) := by decide +kernel
theorem dX5_digest_222 : decode cX5_digest 222 = .ok (.istore_n 3, 1) := by decide +kernel
theorem dX5_digest_223 : decode cX5_digest 223 = .ok (.iload_n 3, 1) := by decide +kernel
theorem dX5_digest_224 : decode cX5_digest 224 = .ok (.bipush 10, 2) := by decide +kernel
theorem dX5_digest_226 : decode cX5_digest 226 = .ok (.if_icmp .gt 19, 3) := by decide +kernel
theorem dX5_digest_229 : decode cX5_digest 229 = .ok (.lload_n 1, 1) := by decide +kernel
theorem dX5_digest_230 : decode cX5_digest 230 = .ok (.aload_n 0, 1) := by decide +kernel
theorem dX5_digest_231 : decode cX5_digest 231 = .ok (.iload_n 3, 1) := by decide +kernel
theorem dX5_digest_232 : decode cX5_digest 232 = .ok (.invokevirtual 218, 3) := by decide +kernel
theorem dX5_digest_235 : decode cX5_digest 235 = .ok (.invokestatic 208, 3) := by decide +kernel
theorem dX5_digest_238 : decode cX5_digest 238 = .ok (.lstore_n 1, 1) := by decide +kernel
theorem dX5_digest_239 : decode cX5_digest 239 = .ok (.iinc 3 1, 3) := by decide +kernel
theorem dX5_digest_242 : decode cX5_digest 242 = .ok (.goto (-19), 3) := by decide +kernel
theorem dX5_digest_245 : decode cX5_digest 245 = .ok (.lload_n 1, 1) := by decide +kernel
theorem dX5_digest_246 : decode cX5_digest 246 = .ok (.lreturn, 1) := by decide +kernel
theorem dX5_mixed_0 : decode cX5_mixed 0 = .ok (.ldc2_w 221, 3) := by decide +kernel
theorem dX5_mixed_3 : decode cX5_mixed 3 = .ok (.lload_n 0, 1) := by decide +kernel
theorem dX5_mixed_4 : decode cX5_mixed 4 = .ok (.lmul, 1) := by decide +kernel
theorem dX5_mixed_5 : decode cX5_mixed 5 = .ok (.iload_n 2, 1) := by decide +kernel
theorem dX5_mixed_6 : decode cX5_mixed 6 = .ok (.i2l, 1) := by decide +kernel
theorem dX5_mixed_7 : decode cX5_mixed 7 = .ok (.ladd, 1) := by decide +kernel
theorem dX5_mixed_8 : decode cX5_mixed 8 = .ok (.lreturn, 1) := by decide +kernel
theorem dX5_isMatchQuestion_0 : decode cX5_isMatchQuestion 0 = .ok (.iload_n 0, 1) := by decide +kernel
theorem dX5_isMatchQuestion_1 : decode cX5_isMatchQuestion 1 = .ok (.ifCond .eq 20, 3) := by decide +kernel
theorem dX5_isMatchQuestion_4 : decode cX5_isMatchQuestion 4 = .ok (.iload_n 0, 1) := by decide +kernel
theorem dX5_isMatchQuestion_5 : decode cX5_isMatchQuestion 5 = .ok (.iconst 1, 1) := by decide +kernel
theorem dX5_isMatchQuestion_6 : decode cX5_isMatchQuestion 6 = .ok (.if_icmp .eq 15, 3) := by decide +kernel
theorem dX5_isMatchQuestion_9 : decode cX5_isMatchQuestion 9 = .ok (.iload_n 0, 1) := by decide +kernel
theorem dX5_isMatchQuestion_10 : decode cX5_isMatchQuestion 10 = .ok (.bipush 10, 2) := by decide +kernel
theorem dX5_isMatchQuestion_12 : decode cX5_isMatchQuestion 12 = .ok (.if_icmp .lt 13, 3) := by decide +kernel
theorem dX5_isMatchQuestion_15 : decode cX5_isMatchQuestion 15 = .ok (.iload_n 0, 1) := by decide +kernel
theorem dX5_isMatchQuestion_16 : decode cX5_isMatchQuestion 16 = .ok (.bipush 12, 2) := by decide +kernel
theorem dX5_isMatchQuestion_18 : decode cX5_isMatchQuestion 18 = .ok (.if_icmp .gt 7, 3) := by decide +kernel
theorem dX5_isMatchQuestion_21 : decode cX5_isMatchQuestion 21 = .ok (.iconst 1, 1) := by decide +kernel
theorem dX5_isMatchQuestion_22 : decode cX5_isMatchQuestion 22 = .ok (.goto 4, 3) := by decide +kernel
theorem dX5_isMatchQuestion_25 : decode cX5_isMatchQuestion 25 = .ok (.iconst 0, 1) := by decide +kernel
theorem dX5_isMatchQuestion_26 : decode cX5_isMatchQuestion 26 = .ok (.ireturn, 1) := by decide +kernel
theorem dX5_isKind_0 : decode cX5_isKind 0 = .ok (.iload_n 1, 1) := by decide +kernel
theorem dX5_isKind_1 : decode cX5_isKind 1 = .ok (.iload_n 0, 1) := by decide +kernel
theorem dX5_isKind_2 : decode cX5_isKind 2 = .ok (.if_icmp .eq 17, 3) := by decide +kernel
theorem dX5_isKind_5 : decode cX5_isKind 5 = .ok (.iload_n 1, 1) := by decide +kernel
theorem dX5_isKind_6 : decode cX5_isKind 6 = .ok (.ifCond .eq 13, 3) := by decide +kernel
theorem dX5_isKind_9 : decode cX5_isKind 9 = .ok (.iload_n 1, 1) := by decide +kernel
theorem dX5_isKind_10 : decode cX5_isKind 10 = .ok (.iconst 1, 1) := by decide +kernel
theorem dX5_isKind_11 : decode cX5_isKind 11 = .ok (.if_icmp .ne 12, 3) := by decide +kernel
theorem dX5_isKind_14 : decode cX5_isKind 14 = .ok (.iload_n 0, 1) := by decide +kernel
theorem dX5_isKind_15 : decode cX5_isKind 15 = .ok (.iconst 4, 1) := by decide +kernel
theorem dX5_isKind_16 : decode cX5_isKind 16 = .ok (.if_icmp .ne 7, 3) := by decide +kernel
theorem dX5_isKind_19 : decode cX5_isKind 19 = .ok (.iconst 1, 1) := by decide +kernel
theorem dX5_isKind_20 : decode cX5_isKind 20 = .ok (.goto 4, 3) := by decide +kernel
theorem dX5_isKind_23 : decode cX5_isKind 23 = .ok (.iconst 0, 1) := by decide +kernel
theorem dX5_isKind_24 : decode cX5_isKind 24 = .ok (.ireturn, 1) := by decide +kernel
theorem dX5_wrongBy_0 : decode cX5_wrongBy 0 = .ok (.getstatic 223, 3) := by decide +kernel
theorem dX5_wrongBy_3 : decode cX5_wrongBy 3 = .ok (.iload_n 0, 1) := by decide +kernel
theorem dX5_wrongBy_4 : decode cX5_wrongBy 4 = .ok (.invokestatic 134, 3) := by decide +kernel
theorem dX5_wrongBy_7 : decode cX5_wrongBy 7 = .ok (.iload_n 1, 1) := by decide +kernel
theorem dX5_wrongBy_8 : decode cX5_wrongBy 8 = .ok (.imul, 1) := by decide +kernel
theorem dX5_wrongBy_9 : decode cX5_wrongBy 9 = .ok (.istore 4, 2) := by decide +kernel
theorem dX5_wrongBy_11 : decode cX5_wrongBy 11 = .ok (.iload_n 2, 1) := by decide +kernel
theorem dX5_wrongBy_12 : decode cX5_wrongBy 12 = .ok (.ifCond .eq 15, 3) := by decide +kernel
theorem dX5_wrongBy_15 : decode cX5_wrongBy 15 = .ok (.iload 4, 2) := by decide +kernel
theorem dX5_wrongBy_17 : decode cX5_wrongBy 17 = .ok (.getstatic 226, 3) := by decide +kernel
theorem dX5_wrongBy_20 : decode cX5_wrongBy 20 = .ok (.iload_n 0, 1) := by decide +kernel
theorem dX5_wrongBy_21 : decode cX5_wrongBy 21 = .ok (.invokestatic 134, 3) := by decide +kernel
theorem dX5_wrongBy_24 : decode cX5_wrongBy 24 = .ok (.iadd, 1) := by decide +kernel
theorem dX5_wrongBy_25 : decode cX5_wrongBy 25 = .ok (.istore 4, 2) := by decide +kernel
theorem dX5_wrongBy_27 : decode cX5_wrongBy 27 = .ok (.iload_n 3, 1) := by decide +kernel
theorem dX5_wrongBy_28 : decode cX5_wrongBy 28 = .ok (.ifCond .eq 15, 3) := by decide +kernel
theorem dX5_wrongBy_31 : decode cX5_wrongBy 31 = .ok (.iload 4, 2) := by decide +kernel
theorem dX5_wrongBy_33 : decode cX5_wrongBy 33 = .ok (.getstatic 229, 3) := by decide +kernel
theorem dX5_wrongBy_36 : decode cX5_wrongBy 36 = .ok (.iload_n 0, 1) := by decide +kernel
theorem dX5_wrongBy_37 : decode cX5_wrongBy 37 = .ok (.invokestatic 134, 3) := by decide +kernel
theorem dX5_wrongBy_40 : decode cX5_wrongBy 40 = .ok (.iadd, 1) := by decide +kernel
theorem dX5_wrongBy_41 : decode cX5_wrongBy 41 = .ok (.istore 4, 2) := by decide +kernel
theorem dX5_wrongBy_43 : decode cX5_wrongBy 43 = .ok (.iload 4, 2) := by decide +kernel
theorem dX5_wrongBy_45 : decode cX5_wrongBy 45 = .ok (.ireturn, 1) := by decide +kernel
theorem dX5_isFit_0 : decode cX5_isFit 0 = .ok (.iload_n 1, 1) := by decide +kernel
theorem dX5_isFit_1 : decode cX5_isFit 1 = .ok (.getstatic 232, 3) := by decide +kernel
theorem dX5_isFit_4 : decode cX5_isFit 4 = .ok (.iload_n 0, 1) := by decide +kernel
theorem dX5_isFit_5 : decode cX5_isFit 5 = .ok (.invokestatic 134, 3) := by decide +kernel
theorem dX5_isFit_8 : decode cX5_isFit 8 = .ok (.if_icmp .gt 7, 3) := by decide +kernel
theorem dX5_isFit_11 : decode cX5_isFit 11 = .ok (.iconst 1, 1) := by decide +kernel
theorem dX5_isFit_12 : decode cX5_isFit 12 = .ok (.goto 4, 3) := by decide +kernel
theorem dX5_isFit_15 : decode cX5_isFit 15 = .ok (.iconst 0, 1) := by decide +kernel
theorem dX5_isFit_16 : decode cX5_isFit 16 = .ok (.ireturn, 1) := by decide +kernel
theorem dX5_isBelow_0 : decode cX5_isBelow 0 = .ok (.iload_n 0, 1) := by decide +kernel
theorem dX5_isBelow_1 : decode cX5_isBelow 1 = .ok (.ifCond .lt 12, 3) := by decide +kernel
theorem dX5_isBelow_4 : decode cX5_isBelow 4 = .ok (.iload_n 0, 1) := by decide +kernel
theorem dX5_isBelow_5 : decode cX5_isBelow 5 = .ok (.iload_n 1, 1) := by decide +kernel
theorem dX5_isBelow_6 : decode cX5_isBelow 6 = .ok (.if_icmp .ge 7, 3) := by decide +kernel
theorem dX5_isBelow_9 : decode cX5_isBelow 9 = .ok (.iconst 1, 1) := by decide +kernel
theorem dX5_isBelow_10 : decode cX5_isBelow 10 = .ok (.goto 4, 3) := by decide +kernel
theorem dX5_isBelow_13 : decode cX5_isBelow 13 = .ok (.iconst 0, 1) := by decide +kernel
theorem dX5_isBelow_14 : decode cX5_isBelow 14 = .ok (.ireturn, 1) := by decide +kernel
theorem dX5_isIn_0 : decode cX5_isIn 0 = .ok (.iload_n 0, 1) := by decide +kernel
theorem dX5_isIn_1 : decode cX5_isIn 1 = .ok (.iconst 1, 1) := by decide +kernel
theorem dX5_isIn_2 : decode cX5_isIn 2 = .ok (.iload_n 1, 1) := by decide +kernel
theorem dX5_isIn_3 : decode cX5_isIn 3 = .ok (.ishl, 1) := by decide +kernel
theorem dX5_isIn_4 : decode cX5_isIn 4 = .ok (.iand, 1) := by decide +kernel
theorem dX5_isIn_5 : decode cX5_isIn 5 = .ok (.ifCond .eq 7, 3) := by decide +kernel
theorem dX5_isIn_8 : decode cX5_isIn 8 = .ok (.iconst 1, 1) := by decide +kernel
theorem dX5_isIn_9 : decode cX5_isIn 9 = .ok (.goto 4, 3) := by decide +kernel
theorem dX5_isIn_12 : decode cX5_isIn 12 = .ok (.iconst 0, 1) := by decide +kernel
theorem dX5_isIn_13 : decode cX5_isIn 13 = .ok (.ireturn, 1) := by decide +kernel
theorem dX5_entry_0 : decode cX5_entry 0 = .ok (.iload_n 1, 1) := by decide +kernel
theorem dX5_entry_1 : decode cX5_entry 1 = .ok (.ifCond .lt 15, 3) := by decide +kernel
theorem dX5_entry_4 : decode cX5_entry 4 = .ok (.iload_n 1, 1) := by decide +kernel
theorem dX5_entry_5 : decode cX5_entry 5 = .ok (.aload_n 0, 1) := by decide +kernel
theorem dX5_entry_6 : decode cX5_entry 6 = .ok (.arraylength, 1) := by decide +kernel
theorem dX5_entry_7 : decode cX5_entry 7 = .ok (.if_icmp .ge 9, 3) := by decide +kernel
theorem dX5_entry_10 : decode cX5_entry 10 = .ok (.aload_n 0, 1) := by decide +kernel
theorem dX5_entry_11 : decode cX5_entry 11 = .ok (.iload_n 1, 1) := by decide +kernel
theorem dX5_entry_12 : decode cX5_entry 12 = .ok (.iaload, 1) := by decide +kernel
theorem dX5_entry_13 : decode cX5_entry 13 = .ok (.goto 4, 3) := by decide +kernel
theorem dX5_entry_16 : decode cX5_entry 16 = .ok (.iconst 0, 1) := by decide +kernel
theorem dX5_entry_17 : decode cX5_entry 17 = .ok (.ireturn, 1) := by decide +kernel
theorem dX5_put_0 : decode cX5_put 0 = .ok (.iload_n 1, 1) := by decide +kernel
theorem dX5_put_1 : decode cX5_put 1 = .ok (.ifCond .lt 13, 3) := by decide +kernel
theorem dX5_put_4 : decode cX5_put 4 = .ok (.iload_n 1, 1) := by decide +kernel
theorem dX5_put_5 : decode cX5_put 5 = .ok (.aload_n 0, 1) := by decide +kernel
theorem dX5_put_6 : decode cX5_put 6 = .ok (.arraylength, 1) := by decide +kernel
theorem dX5_put_7 : decode cX5_put 7 = .ok (.if_icmp .ge 7, 3) := by decide +kernel
theorem dX5_put_10 : decode cX5_put 10 = .ok (.aload_n 0, 1) := by decide +kernel
theorem dX5_put_11 : decode cX5_put 11 = .ok (.iload_n 1, 1) := by decide +kernel
theorem dX5_put_12 : decode cX5_put 12 = .ok (.iload_n 2, 1) := by decide +kernel
theorem dX5_put_13 : decode cX5_put 13 = .ok (.iastore, 1) := by decide +kernel
theorem dX5_put_14 : decode cX5_put 14 = .ok (.return_, 1) := by decide +kernel
theorem dX5_copy_0 : decode cX5_copy 0 = .ok (.iconst 0, 1) := by decide +kernel
theorem dX5_copy_1 : decode cX5_copy 1 = .ok (.istore_n 2, 1) := by decide +kernel
theorem dX5_copy_2 : decode cX5_copy 2 = .ok (.iload_n 2, 1) := by decide +kernel
theorem dX5_copy_3 : decode cX5_copy 3 = .ok (.aload_n 0, 1) := by decide +kernel
theorem dX5_copy_4 : decode cX5_copy 4 = .ok (.arraylength, 1) := by decide +kernel
theorem dX5_copy_5 : decode cX5_copy 5 = .ok (.if_icmp .ge 21, 3) := by decide +kernel
theorem dX5_copy_8 : decode cX5_copy 8 = .ok (.iload_n 2, 1) := by decide +kernel
theorem dX5_copy_9 : decode cX5_copy 9 = .ok (.aload_n 1, 1) := by decide +kernel
theorem dX5_copy_10 : decode cX5_copy 10 = .ok (.arraylength, 1) := by decide +kernel
theorem dX5_copy_11 : decode cX5_copy 11 = .ok (.if_icmp .ge 15, 3) := by decide +kernel
theorem dX5_copy_14 : decode cX5_copy 14 = .ok (.aload_n 1, 1) := by decide +kernel
theorem dX5_copy_15 : decode cX5_copy 15 = .ok (.iload_n 2, 1) := by decide +kernel
theorem dX5_copy_16 : decode cX5_copy 16 = .ok (.aload_n 0, 1) := by decide +kernel
theorem dX5_copy_17 : decode cX5_copy 17 = .ok (.iload_n 2, 1) := by decide +kernel
theorem dX5_copy_18 : decode cX5_copy 18 = .ok (.iaload, 1) := by decide +kernel
theorem dX5_copy_19 : decode cX5_copy 19 = .ok (.iastore, 1) := by decide +kernel
theorem dX5_copy_20 : decode cX5_copy 20 = .ok (.iinc 2 1, 3) := by decide +kernel
theorem dX5_copy_23 : decode cX5_copy 23 = .ok (.goto (-21), 3) := by decide +kernel
theorem dX5_copy_26 : decode cX5_copy 26 = .ok (.return_, 1) := by decide +kernel
theorem dX6_init_0 : decode cX6_init 0 = .ok (.aload_n 0, 1) := by decide +kernel
theorem dX6_init_1 : decode cX6_init 1 = .ok (.invokespecial 1, 3) := by decide +kernel
theorem dX6_init_4 : decode cX6_init 4 = .ok (.aload_n 0, 1) := by decide +kernel
theorem dX6_init_5 : decode cX6_init 5 = .ok (.bipush 36, 2) := by decide +kernel
theorem dX6_init_7 : decode cX6_init 7 = .ok (.newarray .int, 2) := by decide +kernel
theorem dX6_init_9 : decode cX6_init 9 = .ok (.putfield 7, 3) := by decide +kernel
theorem dX6_init_12 : decode cX6_init 12 = .ok (.aload_n 0, 1) := by decide +kernel
theorem dX6_init_13 : decode cX6_init 13 = .ok (.bipush 20, 2) := by decide +kernel
theorem dX6_init_15 : decode cX6_init 15 = .ok (.newarray .int, 2) := by decide +kernel
theorem dX6_init_17 : decode cX6_init 17 = .ok (.putfield 13, 3) := by decide +kernel
theorem dX6_init_20 : decode cX6_init 20 = .ok (.aload_n 0, 1) := by decide +kernel
theorem dX6_init_21 : decode cX6_init 21 = .ok (.bipush 15, 2) := by decide +kernel
theorem dX6_init_23 : decode cX6_init 23 = .ok (.newarray .int, 2) := by decide +kernel
theorem dX6_init_25 : decode cX6_init 25 = .ok (.putfield 16, 3) := by decide +kernel
theorem dX6_init_28 : decode cX6_init 28 = .ok (.aload_n 0, 1) := by decide +kernel
theorem dX6_init_29 : decode cX6_init 29 = .ok (.bipush 10, 2) := by decide +kernel
theorem dX6_init_31 : decode cX6_init 31 = .ok (.newarray .int, 2) := by decide +kernel
theorem dX6_init_33 : decode cX6_init 33 = .ok (.putfield 19, 3) := by decide +kernel
theorem dX6_init_36 : decode cX6_init 36 = .ok (.aload_n 0, 1) := by decide +kernel
theorem dX6_init_37 : decode cX6_init 37 = .ok (.iconst 3, 1) := by decide +kernel
theorem dX6_init_38 : decode cX6_init 38 = .ok (.newarray .int, 2) := by decide +kernel
theorem dX6_init_40 : decode cX6_init 40 = .ok (.putfield 22, 3) := by decide +kernel
theorem dX6_init_43 : decode cX6_init 43 = .ok (.aload_n 0, 1) := by decide +kernel
theorem dX6_init_44 : decode cX6_init 44 = .ok (.iconst 3, 1) := by decide +kernel
theorem dX6_init_45 : decode cX6_init 45 = .ok (.newarray .int, 2) := by decide +kernel
theorem dX6_init_47 : decode cX6_init 47 = .ok (.putfield 25, 3) := by decide +kernel
theorem dX6_init_50 : decode cX6_init 50 = .ok (.aload_n 0, 1) := by decide +kernel
theorem dX6_init_51 : decode cX6_init 51 = .ok (.bipush 24, 2) := by decide +kernel
theorem dX6_init_53 : decode cX6_init 53 = .ok (.newarray .int, 2) := by decide +kernel
theorem dX6_init_55 : decode cX6_init 55 = .ok (.putfield 28, 3) := by decide +kernel
theorem dX6_init_58 : decode cX6_init 58 = .ok (.aload_n 0, 1) := by decide +kernel
theorem dX6_init_59 : decode cX6_init 59 = .ok (.bipush 15, 2) := by decide +kernel
theorem dX6_init_61 : decode cX6_init 61 = .ok (.newarray .int, 2) := by decide +kernel
theorem dX6_init_63 : decode cX6_init 63 = .ok (.putfield 31, 3) := by decide +kernel
theorem dX6_init_66 : decode cX6_init 66 = .ok (.aload_n 0, 1) := by decide +kernel
theorem dX6_init_67 : decode cX6_init 67 = .ok (.bipush 20, 2) := by decide +kernel
theorem dX6_init_69 : decode cX6_init 69 = .ok (.newarray .int, 2) := by decide +kernel
theorem dX6_init_71 : decode cX6_init 71 = .ok (.putfield 34, 3) := by decide +kernel
theorem dX6_init_74 : decode cX6_init 74 = .ok (.aload_n 0, 1) := by decide +kernel
theorem dX6_init_75 : decode cX6_init 75 = .ok (.bipush 15, 2) := by decide +kernel
theorem dX6_init_77 : decode cX6_init 77 = .ok (.newarray .int, 2) := by decide +kernel
theorem dX6_init_79 : decode cX6_init 79 = .ok (.putfield 37, 3) := by decide +kernel
theorem dX6_init_82 : decode cX6_init 82 = .ok (.aload_n 0, 1) := by decide +kernel
theorem dX6_init_83 : decode cX6_init 83 = .ok (.bipush 24, 2) := by decide +kernel
theorem dX6_init_85 : decode cX6_init 85 = .ok (.newarray .int, 2) := by decide +kernel
theorem dX6_init_87 : decode cX6_init 87 = .ok (.putfield 40, 3) := by decide +kernel
theorem dX6_init_90 : decode cX6_init 90 = .ok (.aload_n 0, 1) := by decide +kernel
theorem dX6_init_91 : decode cX6_init 91 = .ok (.iconst (-1), 1) := by decide +kernel
theorem dX6_init_92 : decode cX6_init 92 = .ok (.putfield 43, 3) := by decide +kernel
theorem dX6_init_95 : decode cX6_init 95 = .ok (.return_, 1) := by decide +kernel
theorem dX6_in_0 : decode cX6_in 0 = .ok (.lload_n 0, 1) := by decide +kernel
theorem dX6_in_1 : decode cX6_in 1 = .ok (.lload_n 2, 1) := by decide +kernel
theorem dX6_in_2 : decode cX6_in 2 = .ok (.lcmp, 1) := by decide +kernel
theorem dX6_in_3 : decode cX6_in 3 = .ok (.ifCond .lt 14, 3) := by decide +kernel
theorem dX6_in_6 : decode cX6_in 6 = .ok (.lload_n 0, 1) := by decide +kernel
theorem dX6_in_7 : decode cX6_in 7 = .ok (.lload 4, 2) := by decide +kernel
theorem dX6_in_9 : decode cX6_in 9 = .ok (.lcmp, 1) := by decide +kernel
theorem dX6_in_10 : decode cX6_in 10 = .ok (.ifCond .gt 7, 3) := by decide +kernel
theorem dX6_in_13 : decode cX6_in 13 = .ok (.iconst 1, 1) := by decide +kernel
theorem dX6_in_14 : decode cX6_in 14 = .ok (.goto 4, 3) := by decide +kernel
theorem dX6_in_17 : decode cX6_in 17 = .ok (.iconst 0, 1) := by decide +kernel
theorem dX6_in_18 : decode cX6_in 18 = .ok (.ireturn, 1) := by decide +kernel
theorem dX6_copy_0 : decode cX6_copy 0 = .ok (.iconst 0, 1) := by decide +kernel
theorem dX6_copy_1 : decode cX6_copy 1 = .ok (.istore_n 2, 1) := by decide +kernel
theorem dX6_copy_2 : decode cX6_copy 2 = .ok (.iload_n 2, 1) := by decide +kernel
theorem dX6_copy_3 : decode cX6_copy 3 = .ok (.aload_n 0, 1) := by decide +kernel
theorem dX6_copy_4 : decode cX6_copy 4 = .ok (.arraylength, 1) := by decide +kernel
theorem dX6_copy_5 : decode cX6_copy 5 = .ok (.if_icmp .ge 15, 3) := by decide +kernel
theorem dX6_copy_8 : decode cX6_copy 8 = .ok (.aload_n 1, 1) := by decide +kernel
theorem dX6_copy_9 : decode cX6_copy 9 = .ok (.iload_n 2, 1) := by decide +kernel
theorem dX6_copy_10 : decode cX6_copy 10 = .ok (.aload_n 0, 1) := by decide +kernel
theorem dX6_copy_11 : decode cX6_copy 11 = .ok (.iload_n 2, 1) := by decide +kernel
theorem dX6_copy_12 : decode cX6_copy 12 = .ok (.iaload, 1) := by decide +kernel
theorem dX6_copy_13 : decode cX6_copy 13 = .ok (.iastore, 1) := by decide +kernel
theorem dX6_copy_14 : decode cX6_copy 14 = .ok (.iinc 2 1, 3) := by decide +kernel
theorem dX6_copy_17 : decode cX6_copy 17 = .ok (.goto (-15), 3) := by decide +kernel
theorem dX6_copy_20 : decode cX6_copy 20 = .ok (.return_, 1) := by decide +kernel
theorem dX6_letter_0 : decode cX6_letter 0 = .ok (.iload_n 1, 1) := by decide +kernel
theorem dX6_letter_1 : decode cX6_letter 1 = .ok (.i2l, 1) := by decide +kernel
theorem dX6_letter_2 : decode cX6_letter 2 = .ok (.lconst 1, 1) := by decide +kernel
theorem dX6_letter_3 : decode cX6_letter 3 = .ok (.ldc2_w 47, 3) := by decide +kernel
theorem dX6_letter_6 : decode cX6_letter 6 = .ok (.invokestatic 49, 3) := by decide +kernel
theorem dX6_letter_9 : decode cX6_letter 9 = .ok (.ifCond .ne 6, 3) := by decide +kernel
theorem dX6_letter_12 : decode cX6_letter 12 = .ok (.bipush (-102), 2) := by decide +kernel
theorem dX6_letter_14 : decode cX6_letter 14 = .ok (.ireturn, 1) := by decide +kernel
theorem dX6_letter_15 : decode cX6_letter 15 = .ok (.aload_n 0, 1) := by decide +kernel
theorem dX6_letter_16 : decode cX6_letter 16 = .ok (.getfield 53, 3) := by decide +kernel
theorem dX6_letter_19 : decode cX6_letter 19 = .ok (.bipush 36, 2) := by decide +kernel
theorem dX6_letter_21 : decode cX6_letter 21 = .ok (.if_icmp .ne 6, 3) := by decide +kernel
theorem dX6_letter_24 : decode cX6_letter 24 = .ok (.bipush (-104), 2) := by decide +kernel
theorem dX6_letter_26 : decode cX6_letter 26 = .ok (.ireturn, 1) := by decide +kernel
theorem dX6_letter_27 : decode cX6_letter 27 = .ok (.aload_n 0, 1) := by decide +kernel
theorem dX6_letter_28 : decode cX6_letter 28 = .ok (.getfield 7, 3) := by decide +kernel
theorem dX6_letter_31 : decode cX6_letter 31 = .ok (.aload_n 0, 1) := by decide +kernel
theorem dX6_letter_32 : decode cX6_letter 32 = .ok (.getfield 53, 3) := by decide +kernel
theorem dX6_letter_35 : decode cX6_letter 35 = .ok (.iload_n 1, 1) := by decide +kernel
theorem dX6_letter_36 : decode cX6_letter 36 = .ok (.iastore, 1) := by decide +kernel
theorem dX6_letter_37 : decode cX6_letter 37 = .ok (.aload_n 0, 1) := by decide +kernel
theorem dX6_letter_38 : decode cX6_letter 38 = .ok (.dup, 1) := by decide +kernel
theorem dX6_letter_39 : decode cX6_letter 39 = .ok (.getfield 53, 3) := by decide +kernel
theorem dX6_letter_42 : decode cX6_letter 42 = .ok (.iconst 1, 1) := by decide +kernel
theorem dX6_letter_43 : decode cX6_letter 43 = .ok (.iadd, 1) := by decide +kernel
theorem dX6_letter_44 : decode cX6_letter 44 = .ok (.putfield 53, 3) := by decide +kernel
theorem dX6_letter_47 : decode cX6_letter 47 = .ok (.aload_n 0, 1) := by decide +kernel
theorem dX6_letter_48 : decode cX6_letter 48 = .ok (.getfield 53, 3) := by decide +kernel
theorem dX6_letter_51 : decode cX6_letter 51 = .ok (.ireturn, 1) := by decide +kernel
theorem dX6_blank_0 : decode cX6_blank 0 = .ok (.aload_n 0, 1) := by decide +kernel
theorem dX6_blank_1 : decode cX6_blank 1 = .ok (.getfield 53, 3) := by decide +kernel
theorem dX6_blank_4 : decode cX6_blank 4 = .ok (.istore_n 1, 1) := by decide +kernel
theorem dX6_blank_5 : decode cX6_blank 5 = .ok (.aload_n 0, 1) := by decide +kernel
theorem dX6_blank_6 : decode cX6_blank 6 = .ok (.iconst 0, 1) := by decide +kernel
theorem dX6_blank_7 : decode cX6_blank 7 = .ok (.putfield 53, 3) := by decide +kernel
theorem dX6_blank_10 : decode cX6_blank 10 = .ok (.iload_n 1, 1) := by decide +kernel
theorem dX6_blank_11 : decode cX6_blank 11 = .ok (.ireturn, 1) := by decide +kernel
theorem dX6_kindBy_0 : decode cX6_kindBy 0 = .ok (.iload_n 0, 1) := by decide +kernel
theorem dX6_kindBy_1 : decode cX6_kindBy 1 = .ok (.bipush 99, 2) := by decide +kernel
theorem dX6_kindBy_3 : decode cX6_kindBy 3 = .ok (.if_icmp .ne 7, 3) := by decide +kernel
theorem dX6_kindBy_6 : decode cX6_kindBy 6 = .ok (.iconst 0, 1) := by decide +kernel
theorem dX6_kindBy_7 : decode cX6_kindBy 7 = .ok (.goto 44, 3) := by decide +kernel
theorem dX6_kindBy_10 : decode cX6_kindBy 10 = .ok (.iload_n 0, 1) := by decide +kernel
theorem dX6_kindBy_11 : decode cX6_kindBy 11 = .ok (.bipush 119, 2) := by decide +kernel
theorem dX6_kindBy_13 : decode cX6_kindBy 13 = .ok (.if_icmp .ne 7, 3) := by decide +kernel
theorem dX6_kindBy_16 : decode cX6_kindBy 16 = .ok (.iconst 1, 1) := by decide +kernel
theorem dX6_kindBy_17 : decode cX6_kindBy 17 = .ok (.goto 34, 3) := by decide +kernel
theorem dX6_kindBy_20 : decode cX6_kindBy 20 = .ok (.iload_n 0, 1) := by decide +kernel
theorem dX6_kindBy_21 : decode cX6_kindBy 21 = .ok (.bipush 108, 2) := by decide +kernel
theorem dX6_kindBy_23 : decode cX6_kindBy 23 = .ok (.if_icmp .ne 7, 3) := by decide +kernel
theorem dX6_kindBy_26 : decode cX6_kindBy 26 = .ok (.iconst 2, 1) := by decide +kernel
theorem dX6_kindBy_27 : decode cX6_kindBy 27 = .ok (.goto 24, 3) := by decide +kernel
theorem dX6_kindBy_30 : decode cX6_kindBy 30 = .ok (.iload_n 0, 1) := by decide +kernel
theorem dX6_kindBy_31 : decode cX6_kindBy 31 = .ok (.bipush 104, 2) := by decide +kernel
theorem dX6_kindBy_33 : decode cX6_kindBy 33 = .ok (.if_icmp .ne 7, 3) := by decide +kernel
theorem dX6_kindBy_36 : decode cX6_kindBy 36 = .ok (.iconst 3, 1) := by decide +kernel
theorem dX6_kindBy_37 : decode cX6_kindBy 37 = .ok (.goto 14, 3) := by decide +kernel
theorem dX6_kindBy_40 : decode cX6_kindBy 40 = .ok (.iload_n 0, 1) := by decide +kernel
theorem dX6_kindBy_41 : decode cX6_kindBy 41 = .ok (.bipush 110, 2) := by decide +kernel
theorem dX6_kindBy_43 : decode cX6_kindBy 43 = .ok (.if_icmp .ne 7, 3) := by decide +kernel
theorem dX6_kindBy_46 : decode cX6_kindBy 46 = .ok (.iconst 4, 1) := by decide +kernel
theorem dX6_kindBy_47 : decode cX6_kindBy 47 = .ok (.goto 4, 3) := by decide +kernel
theorem dX6_kindBy_50 : decode cX6_kindBy 50 = .ok (.iconst (-1), 1) := by decide +kernel
theorem dX6_kindBy_51 : decode cX6_kindBy 51 = .ok (.ireturn, 1) := by decide +kernel
theorem dX6_mostOf_0 : decode cX6_mostOf 0 = .ok (.iload_n 0, 1) := by decide +kernel
theorem dX6_mostOf_1 : decode cX6_mostOf 1 = .ok (.ifCond .ne 8, 3) := by decide +kernel
theorem dX6_mostOf_4 : decode cX6_mostOf 4 = .ok (.bipush 9, 2) := by decide +kernel
theorem dX6_mostOf_6 : decode cX6_mostOf 6 = .ok (.goto 13, 3) := by decide +kernel
theorem dX6_mostOf_9 : decode cX6_mostOf 9 = .ok (.iload_n 0, 1) := by decide +kernel
theorem dX6_mostOf_10 : decode cX6_mostOf 10 = .ok (.iconst 1, 1) := by decide +kernel
theorem dX6_mostOf_11 : decode cX6_mostOf 11 = .ok (.if_icmp .ne 7, 3) := by decide +kernel
theorem dX6_mostOf_14 : decode cX6_mostOf 14 = .ok (.iconst 5, 1) := by decide +kernel
theorem dX6_mostOf_15 : decode cX6_mostOf 15 = .ok (.goto 4, 3) := by decide +kernel
theorem dX6_mostOf_18 : decode cX6_mostOf 18 = .ok (.iconst 4, 1) := by decide +kernel
theorem dX6_mostOf_19 : decode cX6_mostOf 19 = .ok (.ireturn, 1) := by decide +kernel
theorem dX6_isGood_0 : decode cX6_isGood 0 = .ok (.aload_n 0, 1) := by decide +kernel
theorem dX6_isGood_1 : decode cX6_isGood 1 = .ok (.getfield 7, 3) := by decide +kernel
theorem dX6_isGood_4 : decode cX6_isGood 4 = .ok (.iload_n 1, 1) := by decide +kernel
theorem dX6_isGood_5 : decode cX6_isGood 5 = .ok (.iaload, 1) := by decide +kernel
theorem dX6_isGood_6 : decode cX6_isGood 6 = .ok (.istore_n 2, 1) := by decide +kernel
theorem dX6_isGood_7 : decode cX6_isGood 7 = .ok (.aload_n 0, 1) := by decide +kernel
theorem dX6_isGood_8 : decode cX6_isGood 8 = .ok (.getfield 56, 3) := by decide +kernel
theorem dX6_isGood_11 : decode cX6_isGood 11 = .ok (.iconst (-1), 1) := by decide +kernel
theorem dX6_isGood_12 : decode cX6_isGood 12 = .ok (.if_icmp .ne 64, 3) := by decide +kernel
theorem dX6_isGood_15 : decode cX6_isGood 15 = .ok (.iload_n 1, 1) := by decide +kernel
theorem dX6_isGood_16 : decode cX6_isGood 16 = .ok (.iconst 4, 1) := by decide +kernel
theorem dX6_isGood_17 : decode cX6_isGood 17 = .ok (.irem, 1) := by decide +kernel
theorem dX6_isGood_18 : decode cX6_isGood 18 = .ok (.iconst 3, 1) := by decide +kernel
theorem dX6_isGood_19 : decode cX6_isGood 19 = .ok (.if_icmp .ge 20, 3) := by decide +kernel
theorem dX6_isGood_22 : decode cX6_isGood 22 = .ok (.iload_n 2, 1) := by decide +kernel
theorem dX6_isGood_23 : decode cX6_isGood 23 = .ok (.bipush 48, 2) := by decide +kernel
theorem dX6_isGood_25 : decode cX6_isGood 25 = .ok (.isub, 1) := by decide +kernel
theorem dX6_isGood_26 : decode cX6_isGood 26 = .ok (.i2l, 1) := by decide +kernel
theorem dX6_isGood_27 : decode cX6_isGood 27 = .ok (.lconst 0, 1) := by decide +kernel
theorem dX6_isGood_28 : decode cX6_isGood 28 = .ok (.iload_n 1, 1) := by decide +kernel
theorem dX6_isGood_29 : decode cX6_isGood 29 = .ok (.iconst 4, 1) := by decide +kernel
theorem dX6_isGood_30 : decode cX6_isGood 30 = .ok (.irem, 1) := by decide +kernel
theorem dX6_isGood_31 : decode cX6_isGood 31 = .ok (.invokestatic 59, 3) := by decide +kernel
end
section
theorem dX6_isGood_34 : decode cX6_isGood 34 = .ok (.i2l, 1) := by decide +kernel
theorem dX6_isGood_35 : decode cX6_isGood 35 = .ok (.invokestatic 49, 3) := by decide +kernel
theorem dX6_isGood_38 : decode cX6_isGood 38 = .ok (.ireturn, 1) := by decide +kernel
theorem dX6_isGood_39 : decode cX6_isGood 39 = .ok (.iload_n 2, 1) := by decide +kernel
theorem dX6_isGood_40 : decode cX6_isGood 40 = .ok (.bipush 59, 2) := by decide +kernel
theorem dX6_isGood_42 : decode cX6_isGood 42 = .ok (.if_icmp .ne 16, 3) := by decide +kernel
theorem dX6_isGood_45 : decode cX6_isGood 45 = .ok (.iload_n 1, 1) := by decide +kernel
theorem dX6_isGood_46 : decode cX6_isGood 46 = .ok (.bipush 6, 2) := by decide +kernel
theorem dX6_isGood_48 : decode cX6_isGood 48 = .ok (.if_icmp .le 10, 3) := by decide +kernel
theorem dX6_isGood_51 : decode cX6_isGood 51 = .ok (.aload_n 0, 1) := by decide +kernel
theorem dX6_isGood_52 : decode cX6_isGood 52 = .ok (.iload_n 1, 1) := by decide +kernel
theorem dX6_isGood_53 : decode cX6_isGood 53 = .ok (.putfield 56, 3) := by decide +kernel
theorem dX6_isGood_56 : decode cX6_isGood 56 = .ok (.iconst 1, 1) := by decide +kernel
theorem dX6_isGood_57 : decode cX6_isGood 57 = .ok (.ireturn, 1) := by decide +kernel
theorem dX6_isGood_58 : decode cX6_isGood 58 = .ok (.iload_n 2, 1) := by decide +kernel
theorem dX6_isGood_59 : decode cX6_isGood 59 = .ok (.bipush 44, 2) := by decide +kernel
theorem dX6_isGood_61 : decode cX6_isGood 61 = .ok (.if_icmp .ne 13, 3) := by decide +kernel
theorem dX6_isGood_64 : decode cX6_isGood 64 = .ok (.iload_n 1, 1) := by decide +kernel
theorem dX6_isGood_65 : decode cX6_isGood 65 = .ok (.bipush 19, 2) := by decide +kernel
theorem dX6_isGood_67 : decode cX6_isGood 67 = .ok (.if_icmp .ge 7, 3) := by decide +kernel
theorem dX6_isGood_70 : decode cX6_isGood 70 = .ok (.iconst 1, 1) := by decide +kernel
theorem dX6_isGood_71 : decode cX6_isGood 71 = .ok (.goto 4, 3) := by decide +kernel
theorem dX6_isGood_74 : decode cX6_isGood 74 = .ok (.iconst 0, 1) := by decide +kernel
theorem dX6_isGood_75 : decode cX6_isGood 75 = .ok (.ireturn, 1) := by decide +kernel
theorem dX6_isGood_76 : decode cX6_isGood 76 = .ok (.iload_n 1, 1) := by decide +kernel
theorem dX6_isGood_77 : decode cX6_isGood 77 = .ok (.aload_n 0, 1) := by decide +kernel
theorem dX6_isGood_78 : decode cX6_isGood 78 = .ok (.getfield 56, 3) := by decide +kernel
theorem dX6_isGood_81 : decode cX6_isGood 81 = .ok (.isub, 1) := by decide +kernel
theorem dX6_isGood_82 : decode cX6_isGood 82 = .ok (.iconst 1, 1) := by decide +kernel
theorem dX6_isGood_83 : decode cX6_isGood 83 = .ok (.isub, 1) := by decide +kernel
theorem dX6_isGood_84 : decode cX6_isGood 84 = .ok (.istore_n 3, 1) := by decide +kernel
theorem dX6_isGood_85 : decode cX6_isGood 85 = .ok (.iload_n 3, 1) := by decide +kernel
theorem dX6_isGood_86 : decode cX6_isGood 86 = .ok (.iconst 5, 1) := by decide +kernel
theorem dX6_isGood_87 : decode cX6_isGood 87 = .ok (.irem, 1) := by decide +kernel
theorem dX6_isGood_88 : decode cX6_isGood 88 = .ok (.ifCond .ne 17, 3) := by decide +kernel
theorem dX6_isGood_91 : decode cX6_isGood 91 = .ok (.iload_n 2, 1) := by decide +kernel
theorem dX6_isGood_92 : decode cX6_isGood 92 = .ok (.invokestatic 63, 3) := by decide +kernel
theorem dX6_isGood_95 : decode cX6_isGood 95 = .ok (.iconst (-1), 1) := by decide +kernel
theorem dX6_isGood_96 : decode cX6_isGood 96 = .ok (.if_icmp .eq 7, 3) := by decide +kernel
theorem dX6_isGood_99 : decode cX6_isGood 99 = .ok (.iconst 1, 1) := by decide +kernel
theorem dX6_isGood_100 : decode cX6_isGood 100 = .ok (.goto 4, 3) := by decide +kernel
theorem dX6_isGood_103 : decode cX6_isGood 103 = .ok (.iconst 0, 1) := by decide +kernel
theorem dX6_isGood_104 : decode cX6_isGood 104 = .ok (.ireturn, 1) := by decide +kernel
theorem dX6_isGood_105 : decode cX6_isGood 105 = .ok (.iload_n 3, 1) := by decide +kernel
theorem dX6_isGood_106 : decode cX6_isGood 106 = .ok (.iconst 5, 1) := by decide +kernel
theorem dX6_isGood_107 : decode cX6_isGood 107 = .ok (.irem, 1) := by decide +kernel
theorem dX6_isGood_108 : decode cX6_isGood 108 = .ok (.iconst 4, 1) := by decide +kernel
theorem dX6_isGood_109 : decode cX6_isGood 109 = .ok (.if_icmp .ne 23, 3) := by decide +kernel
theorem dX6_isGood_112 : decode cX6_isGood 112 = .ok (.iload_n 2, 1) := by decide +kernel
theorem dX6_isGood_113 : decode cX6_isGood 113 = .ok (.bipush 44, 2) := by decide +kernel
theorem dX6_isGood_115 : decode cX6_isGood 115 = .ok (.if_icmp .ne 13, 3) := by decide +kernel
theorem dX6_isGood_118 : decode cX6_isGood 118 = .ok (.iload_n 3, 1) := by decide +kernel
theorem dX6_isGood_119 : decode cX6_isGood 119 = .ok (.bipush 14, 2) := by decide +kernel
theorem dX6_isGood_121 : decode cX6_isGood 121 = .ok (.if_icmp .ge 7, 3) := by decide +kernel
theorem dX6_isGood_124 : decode cX6_isGood 124 = .ok (.iconst 1, 1) := by decide +kernel
theorem dX6_isGood_125 : decode cX6_isGood 125 = .ok (.goto 25, 3) := by decide +kernel
theorem dX6_isGood_128 : decode cX6_isGood 128 = .ok (.iconst 0, 1) := by decide +kernel
theorem dX6_isGood_129 : decode cX6_isGood 129 = .ok (.goto 21, 3) := by decide +kernel
theorem dX6_isGood_132 : decode cX6_isGood 132 = .ok (.iload_n 2, 1) := by decide +kernel
theorem dX6_isGood_133 : decode cX6_isGood 133 = .ok (.bipush 48, 2) := by decide +kernel
theorem dX6_isGood_135 : decode cX6_isGood 135 = .ok (.isub, 1) := by decide +kernel
theorem dX6_isGood_136 : decode cX6_isGood 136 = .ok (.i2l, 1) := by decide +kernel
theorem dX6_isGood_137 : decode cX6_isGood 137 = .ok (.lconst 0, 1) := by decide +kernel
theorem dX6_isGood_138 : decode cX6_isGood 138 = .ok (.iload_n 3, 1) := by decide +kernel
theorem dX6_isGood_139 : decode cX6_isGood 139 = .ok (.iconst 5, 1) := by decide +kernel
theorem dX6_isGood_140 : decode cX6_isGood 140 = .ok (.irem, 1) := by decide +kernel
theorem dX6_isGood_141 : decode cX6_isGood 141 = .ok (.iconst 1, 1) := by decide +kernel
theorem dX6_isGood_142 : decode cX6_isGood 142 = .ok (.isub, 1) := by decide +kernel
theorem dX6_isGood_143 : decode cX6_isGood 143 = .ok (.invokestatic 59, 3) := by decide +kernel
theorem dX6_isGood_146 : decode cX6_isGood 146 = .ok (.i2l, 1) := by decide +kernel
theorem dX6_isGood_147 : decode cX6_isGood 147 = .ok (.invokestatic 49, 3) := by decide +kernel
theorem dX6_isGood_150 : decode cX6_isGood 150 = .ok (.ireturn, 1) := by decide +kernel
theorem dX6_faultOf_0 : decode cX6_faultOf 0 = .ok (.aload_n 0, 1) := by decide +kernel
theorem dX6_faultOf_1 : decode cX6_faultOf 1 = .ok (.iconst (-1), 1) := by decide +kernel
theorem dX6_faultOf_2 : decode cX6_faultOf 2 = .ok (.putfield 56, 3) := by decide +kernel
theorem dX6_faultOf_5 : decode cX6_faultOf 5 = .ok (.iconst 0, 1) := by decide +kernel
theorem dX6_faultOf_6 : decode cX6_faultOf 6 = .ok (.istore_n 1, 1) := by decide +kernel
theorem dX6_faultOf_7 : decode cX6_faultOf 7 = .ok (.iload_n 1, 1) := by decide +kernel
theorem dX6_faultOf_8 : decode cX6_faultOf 8 = .ok (.aload_n 0, 1) := by decide +kernel
theorem dX6_faultOf_9 : decode cX6_faultOf 9 = .ok (.getfield 53, 3) := by decide +kernel
theorem dX6_faultOf_12 : decode cX6_faultOf 12 = .ok (.if_icmp .ge 17, 3) := by decide +kernel
theorem dX6_faultOf_15 : decode cX6_faultOf 15 = .ok (.aload_n 0, 1) := by decide +kernel
theorem dX6_faultOf_16 : decode cX6_faultOf 16 = .ok (.iload_n 1, 1) := by decide +kernel
theorem dX6_faultOf_17 : decode cX6_faultOf 17 = .ok (.invokevirtual 66, 3) := by decide +kernel
theorem dX6_faultOf_20 : decode cX6_faultOf 20 = .ok (.ifCond .eq 9, 3) := by decide +kernel
theorem dX6_faultOf_23 : decode cX6_faultOf 23 = .ok (.iinc 1 1, 3) := by decide +kernel
theorem dX6_faultOf_26 : decode cX6_faultOf 26 = .ok (.goto (-19), 3) := by decide +kernel
theorem dX6_faultOf_29 : decode cX6_faultOf 29 = .ok (.iload_n 1, 1) := by decide +kernel
theorem dX6_faultOf_30 : decode cX6_faultOf 30 = .ok (.ireturn, 1) := by decide +kernel
theorem dX6_fault_0 : decode cX6_fault 0 = .ok (.aload_n 0, 1) := by decide +kernel
theorem dX6_fault_1 : decode cX6_fault 1 = .ok (.invokevirtual 70, 3) := by decide +kernel
theorem dX6_fault_4 : decode cX6_fault 4 = .ok (.ireturn, 1) := by decide +kernel
theorem dX6_tent_0 : decode cX6_tent 0 = .ok (.aload_n 0, 1) := by decide +kernel
theorem dX6_tent_1 : decode cX6_tent 1 = .ok (.invokevirtual 70, 3) := by decide +kernel
theorem dX6_tent_4 : decode cX6_tent 4 = .ok (.aload_n 0, 1) := by decide +kernel
theorem dX6_tent_5 : decode cX6_tent 5 = .ok (.getfield 53, 3) := by decide +kernel
theorem dX6_tent_8 : decode cX6_tent 8 = .ok (.if_icmp .lt 25, 3) := by decide +kernel
theorem dX6_tent_11 : decode cX6_tent 11 = .ok (.aload_n 0, 1) := by decide +kernel
theorem dX6_tent_12 : decode cX6_tent 12 = .ok (.getfield 56, 3) := by decide +kernel
theorem dX6_tent_15 : decode cX6_tent 15 = .ok (.iconst (-1), 1) := by decide +kernel
theorem dX6_tent_16 : decode cX6_tent 16 = .ok (.if_icmp .eq 17, 3) := by decide +kernel
theorem dX6_tent_19 : decode cX6_tent 19 = .ok (.aload_n 0, 1) := by decide +kernel
theorem dX6_tent_20 : decode cX6_tent 20 = .ok (.getfield 53, 3) := by decide +kernel
theorem dX6_tent_23 : decode cX6_tent 23 = .ok (.aload_n 0, 1) := by decide +kernel
theorem dX6_tent_24 : decode cX6_tent 24 = .ok (.getfield 56, 3) := by decide +kernel
theorem dX6_tent_27 : decode cX6_tent 27 = .ok (.isub, 1) := by decide +kernel
theorem dX6_tent_28 : decode cX6_tent 28 = .ok (.iconst 5, 1) := by decide +kernel
theorem dX6_tent_29 : decode cX6_tent 29 = .ok (.irem, 1) := by decide +kernel
theorem dX6_tent_30 : decode cX6_tent 30 = .ok (.ifCond .eq 6, 3) := by decide +kernel
theorem dX6_tent_33 : decode cX6_tent 33 = .ok (.bipush (-103), 2) := by decide +kernel
theorem dX6_tent_35 : decode cX6_tent 35 = .ok (.ireturn, 1) := by decide +kernel
theorem dX6_tent_36 : decode cX6_tent 36 = .ok (.aload_n 0, 1) := by decide +kernel
theorem dX6_tent_37 : decode cX6_tent 37 = .ok (.aload_n 0, 1) := by decide +kernel
theorem dX6_tent_38 : decode cX6_tent 38 = .ok (.getfield 56, 3) := by decide +kernel
theorem dX6_tent_41 : decode cX6_tent 41 = .ok (.iconst 1, 1) := by decide +kernel
theorem dX6_tent_42 : decode cX6_tent 42 = .ok (.iadd, 1) := by decide +kernel
theorem dX6_tent_43 : decode cX6_tent 43 = .ok (.iconst 4, 1) := by decide +kernel
theorem dX6_tent_44 : decode cX6_tent 44 = .ok (.idiv, 1) := by decide +kernel
theorem dX6_tent_45 : decode cX6_tent 45 = .ok (.putfield 74, 3) := by decide +kernel
theorem dX6_tent_48 : decode cX6_tent 48 = .ok (.iconst 0, 1) := by decide +kernel
theorem dX6_tent_49 : decode cX6_tent 49 = .ok (.istore_n 1, 1) := by decide +kernel
theorem dX6_tent_50 : decode cX6_tent 50 = .ok (.iload_n 1, 1) := by decide +kernel
theorem dX6_tent_51 : decode cX6_tent 51 = .ok (.aload_n 0, 1) := by decide +kernel
theorem dX6_tent_52 : decode cX6_tent 52 = .ok (.getfield 74, 3) := by decide +kernel
theorem dX6_tent_55 : decode cX6_tent 55 = .ok (.if_icmp .ge 56, 3) := by decide +kernel
theorem dX6_tent_58 : decode cX6_tent 58 = .ok (.iconst 0, 1) := by decide +kernel
theorem dX6_tent_59 : decode cX6_tent 59 = .ok (.istore_n 2, 1) := by decide +kernel
theorem dX6_tent_60 : decode cX6_tent 60 = .ok (.iload_n 2, 1) := by decide +kernel
theorem dX6_tent_61 : decode cX6_tent 61 = .ok (.iconst 3, 1) := by decide +kernel
theorem dX6_tent_62 : decode cX6_tent 62 = .ok (.if_icmp .ge 32, 3) := by decide +kernel
theorem dX6_tent_65 : decode cX6_tent 65 = .ok (.aload_n 0, 1) := by decide +kernel
theorem dX6_tent_66 : decode cX6_tent 66 = .ok (.getfield 13, 3) := by decide +kernel
theorem dX6_tent_69 : decode cX6_tent 69 = .ok (.iconst 4, 1) := by decide +kernel
theorem dX6_tent_70 : decode cX6_tent 70 = .ok (.iload_n 1, 1) := by decide +kernel
theorem dX6_tent_71 : decode cX6_tent 71 = .ok (.imul, 1) := by decide +kernel
theorem dX6_tent_72 : decode cX6_tent 72 = .ok (.iload_n 2, 1) := by decide +kernel
theorem dX6_tent_73 : decode cX6_tent 73 = .ok (.iadd, 1) := by decide +kernel
theorem dX6_tent_74 : decode cX6_tent 74 = .ok (.aload_n 0, 1) := by decide +kernel
theorem dX6_tent_75 : decode cX6_tent 75 = .ok (.getfield 7, 3) := by decide +kernel
theorem dX6_tent_78 : decode cX6_tent 78 = .ok (.iconst 4, 1) := by decide +kernel
theorem dX6_tent_79 : decode cX6_tent 79 = .ok (.iload_n 1, 1) := by decide +kernel
theorem dX6_tent_80 : decode cX6_tent 80 = .ok (.imul, 1) := by decide +kernel
theorem dX6_tent_81 : decode cX6_tent 81 = .ok (.iload_n 2, 1) := by decide +kernel
theorem dX6_tent_82 : decode cX6_tent 82 = .ok (.iadd, 1) := by decide +kernel
theorem dX6_tent_83 : decode cX6_tent 83 = .ok (.iaload, 1) := by decide +kernel
theorem dX6_tent_84 : decode cX6_tent 84 = .ok (.bipush 48, 2) := by decide +kernel
theorem dX6_tent_86 : decode cX6_tent 86 = .ok (.isub, 1) := by decide +kernel
theorem dX6_tent_87 : decode cX6_tent 87 = .ok (.iastore, 1) := by decide +kernel
theorem dX6_tent_88 : decode cX6_tent 88 = .ok (.iinc 2 1, 3) := by decide +kernel
theorem dX6_tent_91 : decode cX6_tent 91 = .ok (.goto (-31), 3) := by decide +kernel
theorem dX6_tent_94 : decode cX6_tent 94 = .ok (.aload_n 0, 1) := by decide +kernel
theorem dX6_tent_95 : decode cX6_tent 95 = .ok (.getfield 13, 3) := by decide +kernel
theorem dX6_tent_98 : decode cX6_tent 98 = .ok (.iconst 4, 1) := by decide +kernel
theorem dX6_tent_99 : decode cX6_tent 99 = .ok (.iload_n 1, 1) := by decide +kernel
theorem dX6_tent_100 : decode cX6_tent 100 = .ok (.imul, 1) := by decide +kernel
theorem dX6_tent_101 : decode cX6_tent 101 = .ok (.iconst 3, 1) := by decide +kernel
theorem dX6_tent_102 : decode cX6_tent 102 = .ok (.iadd, 1) := by decide +kernel
theorem dX6_tent_103 : decode cX6_tent 103 = .ok (.iconst (-1), 1) := by decide +kernel
theorem dX6_tent_104 : decode cX6_tent 104 = .ok (.iastore, 1) := by decide +kernel
theorem dX6_tent_105 : decode cX6_tent 105 = .ok (.iinc 1 1, 3) := by decide +kernel
theorem dX6_tent_108 : decode cX6_tent 108 = .ok (.goto (-58), 3) := by decide +kernel
theorem dX6_tent_111 : decode cX6_tent 111 = .ok (.aload_n 0, 1) := by decide +kernel
theorem dX6_tent_112 : decode cX6_tent 112 = .ok (.aload_n 0, 1) := by decide +kernel
theorem dX6_tent_113 : decode cX6_tent 113 = .ok (.getfield 53, 3) := by decide +kernel
theorem dX6_tent_116 : decode cX6_tent 116 = .ok (.aload_n 0, 1) := by decide +kernel
theorem dX6_tent_117 : decode cX6_tent 117 = .ok (.getfield 56, 3) := by decide +kernel
theorem dX6_tent_120 : decode cX6_tent 120 = .ok (.isub, 1) := by decide +kernel
theorem dX6_tent_121 : decode cX6_tent 121 = .ok (.iconst 5, 1) := by decide +kernel
theorem dX6_tent_122 : decode cX6_tent 122 = .ok (.idiv, 1) := by decide +kernel
theorem dX6_tent_123 : decode cX6_tent 123 = .ok (.putfield 77, 3) := by decide +kernel
theorem dX6_tent_126 : decode cX6_tent 126 = .ok (.iconst 0, 1) := by decide +kernel
theorem dX6_tent_127 : decode cX6_tent 127 = .ok (.istore_n 1, 1) := by decide +kernel
theorem dX6_tent_128 : decode cX6_tent 128 = .ok (.iload_n 1, 1) := by decide +kernel
theorem dX6_tent_129 : decode cX6_tent 129 = .ok (.aload_n 0, 1) := by decide +kernel
theorem dX6_tent_130 : decode cX6_tent 130 = .ok (.getfield 77, 3) := by decide +kernel
theorem dX6_tent_133 : decode cX6_tent 133 = .ok (.if_icmp .ge 86, 3) := by decide +kernel
theorem dX6_tent_136 : decode cX6_tent 136 = .ok (.aload_n 0, 1) := by decide +kernel
theorem dX6_tent_137 : decode cX6_tent 137 = .ok (.getfield 56, 3) := by decide +kernel
theorem dX6_tent_140 : decode cX6_tent 140 = .ok (.iconst 1, 1) := by decide +kernel
theorem dX6_tent_141 : decode cX6_tent 141 = .ok (.iadd, 1) := by decide +kernel
theorem dX6_tent_142 : decode cX6_tent 142 = .ok (.iconst 5, 1) := by decide +kernel
theorem dX6_tent_143 : decode cX6_tent 143 = .ok (.iload_n 1, 1) := by decide +kernel
theorem dX6_tent_144 : decode cX6_tent 144 = .ok (.imul, 1) := by decide +kernel
theorem dX6_tent_145 : decode cX6_tent 145 = .ok (.iadd, 1) := by decide +kernel
theorem dX6_tent_146 : decode cX6_tent 146 = .ok (.istore_n 2, 1) := by decide +kernel
theorem dX6_tent_147 : decode cX6_tent 147 = .ok (.aload_n 0, 1) := by decide +kernel
theorem dX6_tent_148 : decode cX6_tent 148 = .ok (.getfield 16, 3) := by decide +kernel
theorem dX6_tent_151 : decode cX6_tent 151 = .ok (.iconst 5, 1) := by decide +kernel
theorem dX6_tent_152 : decode cX6_tent 152 = .ok (.iload_n 1, 1) := by decide +kernel
theorem dX6_tent_153 : decode cX6_tent 153 = .ok (.imul, 1) := by decide +kernel
theorem dX6_tent_154 : decode cX6_tent 154 = .ok (.iconst 3, 1) := by decide +kernel
theorem dX6_tent_155 : decode cX6_tent 155 = .ok (.iadd, 1) := by decide +kernel
theorem dX6_tent_156 : decode cX6_tent 156 = .ok (.aload_n 0, 1) := by decide +kernel
theorem dX6_tent_157 : decode cX6_tent 157 = .ok (.getfield 7, 3) := by decide +kernel
theorem dX6_tent_160 : decode cX6_tent 160 = .ok (.iload_n 2, 1) := by decide +kernel
theorem dX6_tent_161 : decode cX6_tent 161 = .ok (.iaload, 1) := by decide +kernel
theorem dX6_tent_162 : decode cX6_tent 162 = .ok (.invokestatic 63, 3) := by decide +kernel
theorem dX6_tent_165 : decode cX6_tent 165 = .ok (.iastore, 1) := by decide +kernel
theorem dX6_tent_166 : decode cX6_tent 166 = .ok (.iconst 0, 1) := by decide +kernel
theorem dX6_tent_167 : decode cX6_tent 167 = .ok (.istore_n 3, 1) := by decide +kernel
theorem dX6_tent_168 : decode cX6_tent 168 = .ok (.iload_n 3, 1) := by decide +kernel
theorem dX6_tent_169 : decode cX6_tent 169 = .ok (.iconst 3, 1) := by decide +kernel
theorem dX6_tent_170 : decode cX6_tent 170 = .ok (.if_icmp .ge 32, 3) := by decide +kernel
theorem dX6_tent_173 : decode cX6_tent 173 = .ok (.aload_n 0, 1) := by decide +kernel
theorem dX6_tent_174 : decode cX6_tent 174 = .ok (.getfield 16, 3) := by decide +kernel
theorem dX6_tent_177 : decode cX6_tent 177 = .ok (.iconst 5, 1) := by decide +kernel
theorem dX6_tent_178 : decode cX6_tent 178 = .ok (.iload_n 1, 1) := by decide +kernel
theorem dX6_tent_179 : decode cX6_tent 179 = .ok (.imul, 1) := by decide +kernel
theorem dX6_tent_180 : decode cX6_tent 180 = .ok (.iload_n 3, 1) := by decide +kernel
theorem dX6_tent_181 : decode cX6_tent 181 = .ok (.iadd, 1) := by decide +kernel
theorem dX6_tent_182 : decode cX6_tent 182 = .ok (.aload_n 0, 1) := by decide +kernel
theorem dX6_tent_183 : decode cX6_tent 183 = .ok (.getfield 7, 3) := by decide +kernel
theorem dX6_tent_186 : decode cX6_tent 186 = .ok (.iload_n 2, 1) := by decide +kernel
theorem dX6_tent_187 : decode cX6_tent 187 = .ok (.iconst 1, 1) := by decide +kernel
theorem dX6_tent_188 : decode cX6_tent 188 = .ok (.iadd, 1) := by decide +kernel
theorem dX6_tent_189 : decode cX6_tent 189 = .ok (.iload_n 3, 1) := by decide +kernel
theorem dX6_tent_190 : decode cX6_tent 190 = .ok (.iadd, 1) := by decide +kernel
theorem dX6_tent_191 : decode cX6_tent 191 = .ok (.iaload, 1) := by decide +kernel
theorem dX6_tent_192 : decode cX6_tent 192 = .ok (.bipush 48, 2) := by decide +kernel
theorem dX6_tent_194 : decode cX6_tent 194 = .ok (.isub, 1) := by decide +kernel
theorem dX6_tent_195 : decode cX6_tent 195 = .ok (.iastore, 1) := by decide +kernel
theorem dX6_tent_196 : decode cX6_tent 196 = .ok (.iinc 3 1, 3) := by decide +kernel
theorem dX6_tent_199 : decode cX6_tent 199 = .ok (.goto (-31), 3) := by decide +kernel
theorem dX6_tent_202 : decode cX6_tent 202 = .ok (.aload_n 0, 1) := by decide +kernel
theorem dX6_tent_203 : decode cX6_tent 203 = .ok (.getfield 16, 3) := by decide +kernel
theorem dX6_tent_206 : decode cX6_tent 206 = .ok (.iconst 5, 1) := by decide +kernel
theorem dX6_tent_207 : decode cX6_tent 207 = .ok (.iload_n 1, 1) := by decide +kernel
theorem dX6_tent_208 : decode cX6_tent 208 = .ok (.imul, 1) := by decide +kernel
theorem dX6_tent_209 : decode cX6_tent 209 = .ok (.iconst 4, 1) := by decide +kernel
theorem dX6_tent_210 : decode cX6_tent 210 = .ok (.iadd, 1) := by decide +kernel
theorem dX6_tent_211 : decode cX6_tent 211 = .ok (.iconst (-1), 1) := by decide +kernel
theorem dX6_tent_212 : decode cX6_tent 212 = .ok (.iastore, 1) := by decide +kernel
theorem dX6_tent_213 : decode cX6_tent 213 = .ok (.iinc 1 1, 3) := by decide +kernel
theorem dX6_tent_216 : decode cX6_tent 216 = .ok (.goto (-88), 3) := by decide +kernel
theorem dX6_tent_219 : decode cX6_tent 219 = .ok (.aload_n 0, 1) := by decide +kernel
theorem dX6_tent_220 : decode cX6_tent 220 = .ok (.iconst 0, 1) := by decide +kernel
theorem dX6_tent_221 : decode cX6_tent 221 = .ok (.putfield 80, 3) := by decide +kernel
theorem dX6_tent_224 : decode cX6_tent 224 = .ok (.aload_n 0, 1) := by decide +kernel
theorem dX6_tent_225 : decode cX6_tent 225 = .ok (.iconst 0, 1) := by decide +kernel
theorem dX6_tent_226 : decode cX6_tent 226 = .ok (.putfield 83, 3) := by decide +kernel
theorem dX6_tent_229 : decode cX6_tent 229 = .ok (.aload_n 0, 1) := by decide +kernel
theorem dX6_tent_230 : decode cX6_tent 230 = .ok (.iconst 0, 1) := by decide +kernel
theorem dX6_tent_231 : decode cX6_tent 231 = .ok (.putfield 86, 3) := by decide +kernel
theorem dX6_tent_234 : decode cX6_tent 234 = .ok (.aload_n 0, 1) := by decide +kernel
theorem dX6_tent_235 : decode cX6_tent 235 = .ok (.iconst 0, 1) := by decide +kernel
theorem dX6_tent_236 : decode cX6_tent 236 = .ok (.putfield 89, 3) := by decide +kernel
theorem dX6_tent_239 : decode cX6_tent 239 = .ok (.aload_n 0, 1) := by decide +kernel
theorem dX6_tent_240 : decode cX6_tent 240 = .ok (.dup, 1) := by decide +kernel
theorem dX6_tent_241 : decode cX6_tent 241 = .ok (.getfield 92, 3) := by decide +kernel
theorem dX6_tent_244 : decode cX6_tent 244 = .ok (.iconst 1, 1) := by decide +kernel
theorem dX6_tent_245 : decode cX6_tent 245 = .ok (.iadd, 1) := by decide +kernel
theorem dX6_tent_246 : decode cX6_tent 246 = .ok (.putfield 92, 3) := by decide +kernel
theorem dX6_tent_249 : decode cX6_tent 249 = .ok (.aload_n 0, 1) := by decide +kernel
theorem dX6_tent_250 : decode cX6_tent 250 = .ok (.iconst 0, 1) := by decide +kernel
theorem dX6_tent_251 : decode cX6_tent 251 = .ok (.putfield 53, 3) := by decide +kernel
theorem dX6_tent_254 : decode cX6_tent 254 = .ok (.aload_n 0, 1) := by decide +kernel
theorem dX6_tent_255 : decode cX6_tent 255 = .ok (.getfield 74, 3) := by decide +kernel
theorem dX6_tent_258 : decode cX6_tent 258 = .ok (.ireturn, 1) := by decide +kernel
theorem dX6_lacks_0 : decode cX6_lacks 0 = .ok (.aload_n 0, 1) := by decide +kernel
theorem dX6_lacks_1 : decode cX6_lacks 1 = .ok (.getfield 74, 3) := by decide +kernel
theorem dX6_lacks_4 : decode cX6_lacks 4 = .ok (.ifCond .ne 7, 3) := by decide +kernel
theorem dX6_lacks_7 : decode cX6_lacks 7 = .ok (.iconst 1, 1) := by decide +kernel
theorem dX6_lacks_8 : decode cX6_lacks 8 = .ok (.goto 4, 3) := by decide +kernel
theorem dX6_lacks_11 : decode cX6_lacks 11 = .ok (.iconst 0, 1) := by decide +kernel
theorem dX6_lacks_12 : decode cX6_lacks 12 = .ok (.ireturn, 1) := by decide +kernel
theorem dX6_isThing_0 : decode cX6_isThing 0 = .ok (.iload_n 1, 1) := by decide +kernel
theorem dX6_isThing_1 : decode cX6_isThing 1 = .ok (.i2l, 1) := by decide +kernel
theorem dX6_isThing_2 : decode cX6_isThing 2 = .ok (.lconst 0, 1) := by decide +kernel
theorem dX6_isThing_3 : decode cX6_isThing 3 = .ok (.aload_n 0, 1) := by decide +kernel
theorem dX6_isThing_4 : decode cX6_isThing 4 = .ok (.getfield 74, 3) := by decide +kernel
theorem dX6_isThing_7 : decode cX6_isThing 7 = .ok (.iconst 1, 1) := by decide +kernel
theorem dX6_isThing_8 : decode cX6_isThing 8 = .ok (.isub, 1) := by decide +kernel
theorem dX6_isThing_9 : decode cX6_isThing 9 = .ok (.i2l, 1) := by decide +kernel
theorem dX6_isThing_10 : decode cX6_isThing 10 = .ok (.invokestatic 49, 3) := by decide +kernel
theorem dX6_isThing_13 : decode cX6_isThing 13 = .ok (.ireturn, 1) := by decide +kernel
theorem dX6_isClaimer_0 : decode cX6_isClaimer 0 = .ok (.iload_n 1, 1) := by decide +kernel
theorem dX6_isClaimer_1 : decode cX6_isClaimer 1 = .ok (.i2l, 1) := by decide +kernel
theorem dX6_isClaimer_2 : decode cX6_isClaimer 2 = .ok (.lconst 0, 1) := by decide +kernel
theorem dX6_isClaimer_3 : decode cX6_isClaimer 3 = .ok (.aload_n 0, 1) := by decide +kernel
theorem dX6_isClaimer_4 : decode cX6_isClaimer 4 = .ok (.getfield 77, 3) := by decide +kernel
theorem dX6_isClaimer_7 : decode cX6_isClaimer 7 = .ok (.iconst 1, 1) := by decide +kernel
theorem dX6_isClaimer_8 : decode cX6_isClaimer 8 = .ok (.isub, 1) := by decide +kernel
theorem dX6_isClaimer_9 : decode cX6_isClaimer 9 = .ok (.i2l, 1) := by decide +kernel
theorem dX6_isClaimer_10 : decode cX6_isClaimer 10 = .ok (.invokestatic 49, 3) := by decide +kernel
theorem dX6_isClaimer_13 : decode cX6_isClaimer 13 = .ok (.ireturn, 1) := by decide +kernel
theorem dX6_wrongIn_0 : decode cX6_wrongIn 0 = .ok (.aload_n 0, 1) := by decide +kernel
theorem dX6_wrongIn_1 : decode cX6_wrongIn 1 = .ok (.getfield 16, 3) := by decide +kernel
theorem dX6_wrongIn_4 : decode cX6_wrongIn 4 = .ok (.iconst 5, 1) := by decide +kernel
theorem dX6_wrongIn_5 : decode cX6_wrongIn 5 = .ok (.iload_n 2, 1) := by decide +kernel
theorem dX6_wrongIn_6 : decode cX6_wrongIn 6 = .ok (.imul, 1) := by decide +kernel
theorem dX6_wrongIn_7 : decode cX6_wrongIn 7 = .ok (.iconst 3, 1) := by decide +kernel
theorem dX6_wrongIn_8 : decode cX6_wrongIn 8 = .ok (.iadd, 1) := by decide +kernel
theorem dX6_wrongIn_9 : decode cX6_wrongIn 9 = .ok (.iaload, 1) := by decide +kernel
theorem dX6_wrongIn_10 : decode cX6_wrongIn 10 = .ok (.istore 4, 2) := by decide +kernel
theorem dX6_wrongIn_12 : decode cX6_wrongIn 12 = .ok (.aload_n 0, 1) := by decide +kernel
theorem dX6_wrongIn_13 : decode cX6_wrongIn 13 = .ok (.getfield 13, 3) := by decide +kernel
theorem dX6_wrongIn_16 : decode cX6_wrongIn 16 = .ok (.iconst 4, 1) := by decide +kernel
theorem dX6_wrongIn_17 : decode cX6_wrongIn 17 = .ok (.iload_n 1, 1) := by decide +kernel
theorem dX6_wrongIn_18 : decode cX6_wrongIn 18 = .ok (.imul, 1) := by decide +kernel
theorem dX6_wrongIn_19 : decode cX6_wrongIn 19 = .ok (.iconst 2, 1) := by decide +kernel
theorem dX6_wrongIn_20 : decode cX6_wrongIn 20 = .ok (.iadd, 1) := by decide +kernel
theorem dX6_wrongIn_21 : decode cX6_wrongIn 21 = .ok (.iaload, 1) := by decide +kernel
theorem dX6_wrongIn_22 : decode cX6_wrongIn 22 = .ok (.aload_n 0, 1) := by decide +kernel
theorem dX6_wrongIn_23 : decode cX6_wrongIn 23 = .ok (.getfield 16, 3) := by decide +kernel
theorem dX6_wrongIn_26 : decode cX6_wrongIn 26 = .ok (.iconst 5, 1) := by decide +kernel
theorem dX6_wrongIn_27 : decode cX6_wrongIn 27 = .ok (.iload_n 2, 1) := by decide +kernel
theorem dX6_wrongIn_28 : decode cX6_wrongIn 28 = .ok (.imul, 1) := by decide +kernel
theorem dX6_wrongIn_29 : decode cX6_wrongIn 29 = .ok (.iconst 2, 1) := by decide +kernel
theorem dX6_wrongIn_30 : decode cX6_wrongIn 30 = .ok (.iadd, 1) := by decide +kernel
theorem dX6_wrongIn_31 : decode cX6_wrongIn 31 = .ok (.iaload, 1) := by decide +kernel
theorem dX6_wrongIn_32 : decode cX6_wrongIn 32 = .ok (.if_icmp .ne 7, 3) := by decide +kernel
theorem dX6_wrongIn_35 : decode cX6_wrongIn 35 = .ok (.iconst 0, 1) := by decide +kernel
theorem dX6_wrongIn_36 : decode cX6_wrongIn 36 = .ok (.goto 4, 3) := by decide +kernel
theorem dX6_wrongIn_39 : decode cX6_wrongIn 39 = .ok (.iconst 1, 1) := by decide +kernel
theorem dX6_wrongIn_40 : decode cX6_wrongIn 40 = .ok (.istore 5, 2) := by decide +kernel
theorem dX6_wrongIn_42 : decode cX6_wrongIn 42 = .ok (.iload 4, 2) := by decide +kernel
theorem dX6_wrongIn_44 : decode cX6_wrongIn 44 = .ok (.iconst 3, 1) := by decide +kernel
theorem dX6_wrongIn_45 : decode cX6_wrongIn 45 = .ok (.if_icmp .ne 8, 3) := by decide +kernel
theorem dX6_wrongIn_48 : decode cX6_wrongIn 48 = .ok (.iconst 3, 1) := by decide +kernel
theorem dX6_wrongIn_49 : decode cX6_wrongIn 49 = .ok (.iload 5, 2) := by decide +kernel
theorem dX6_wrongIn_51 : decode cX6_wrongIn 51 = .ok (.imul, 1) := by decide +kernel
theorem dX6_wrongIn_52 : decode cX6_wrongIn 52 = .ok (.ireturn, 1) := by decide +kernel
theorem dX6_wrongIn_53 : decode cX6_wrongIn 53 = .ok (.iload_n 3, 1) := by decide +kernel
theorem dX6_wrongIn_54 : decode cX6_wrongIn 54 = .ok (.aload_n 0, 1) := by decide +kernel
theorem dX6_wrongIn_55 : decode cX6_wrongIn 55 = .ok (.getfield 16, 3) := by decide +kernel
theorem dX6_wrongIn_58 : decode cX6_wrongIn 58 = .ok (.iconst 5, 1) := by decide +kernel
theorem dX6_wrongIn_59 : decode cX6_wrongIn 59 = .ok (.iload_n 2, 1) := by decide +kernel
theorem dX6_wrongIn_60 : decode cX6_wrongIn 60 = .ok (.imul, 1) := by decide +kernel
theorem dX6_wrongIn_61 : decode cX6_wrongIn 61 = .ok (.iaload, 1) := by decide +kernel
theorem dX6_wrongIn_62 : decode cX6_wrongIn 62 = .ok (.isub, 1) := by decide +kernel
theorem dX6_wrongIn_63 : decode cX6_wrongIn 63 = .ok (.istore 6, 2) := by decide +kernel
theorem dX6_wrongIn_65 : decode cX6_wrongIn 65 = .ok (.iload 6, 2) := by decide +kernel
theorem dX6_wrongIn_67 : decode cX6_wrongIn 67 = .ok (.ifCond .ge 9, 3) := by decide +kernel
theorem dX6_wrongIn_70 : decode cX6_wrongIn 70 = .ok (.iload 6, 2) := by decide +kernel
theorem dX6_wrongIn_72 : decode cX6_wrongIn 72 = .ok (.ineg, 1) := by decide +kernel
theorem dX6_wrongIn_73 : decode cX6_wrongIn 73 = .ok (.goto 5, 3) := by decide +kernel
theorem dX6_wrongIn_76 : decode cX6_wrongIn 76 = .ok (.iload 6, 2) := by decide +kernel
theorem dX6_wrongIn_78 : decode cX6_wrongIn 78 = .ok (.istore 7, 2) := by decide +kernel
theorem dX6_wrongIn_80 : decode cX6_wrongIn 80 = .ok (.aload_n 0, 1) := by decide +kernel
theorem dX6_wrongIn_81 : decode cX6_wrongIn 81 = .ok (.getfield 13, 3) := by decide +kernel
theorem dX6_wrongIn_84 : decode cX6_wrongIn 84 = .ok (.iconst 4, 1) := by decide +kernel
theorem dX6_wrongIn_85 : decode cX6_wrongIn 85 = .ok (.iload_n 1, 1) := by decide +kernel
theorem dX6_wrongIn_86 : decode cX6_wrongIn 86 = .ok (.imul, 1) := by decide +kernel
theorem dX6_wrongIn_87 : decode cX6_wrongIn 87 = .ok (.iconst 1, 1) := by decide +kernel
theorem dX6_wrongIn_88 : decode cX6_wrongIn 88 = .ok (.iadd, 1) := by decide +kernel
theorem dX6_wrongIn_89 : decode cX6_wrongIn 89 = .ok (.iaload, 1) := by decide +kernel
theorem dX6_wrongIn_90 : decode cX6_wrongIn 90 = .ok (.aload_n 0, 1) := by decide +kernel
theorem dX6_wrongIn_91 : decode cX6_wrongIn 91 = .ok (.getfield 16, 3) := by decide +kernel
theorem dX6_wrongIn_94 : decode cX6_wrongIn 94 = .ok (.iconst 5, 1) := by decide +kernel
theorem dX6_wrongIn_95 : decode cX6_wrongIn 95 = .ok (.iload_n 2, 1) := by decide +kernel
theorem dX6_wrongIn_96 : decode cX6_wrongIn 96 = .ok (.imul, 1) := by decide +kernel
theorem dX6_wrongIn_97 : decode cX6_wrongIn 97 = .ok (.iconst 1, 1) := by decide +kernel
theorem dX6_wrongIn_98 : decode cX6_wrongIn 98 = .ok (.iadd, 1) := by decide +kernel
theorem dX6_wrongIn_99 : decode cX6_wrongIn 99 = .ok (.iaload, 1) := by decide +kernel
theorem dX6_wrongIn_100 : decode cX6_wrongIn 100 = .ok (.if_icmp .eq 15, 3) := by decide +kernel
theorem dX6_wrongIn_103 : decode cX6_wrongIn 103 = .ok (.iload 4, 2) := by decide +kernel
theorem dX6_wrongIn_105 : decode cX6_wrongIn 105 = .ok (.iconst 1, 1) := by decide +kernel
theorem dX6_wrongIn_106 : decode cX6_wrongIn 106 = .ok (.if_icmp .eq 9, 3) := by decide +kernel
theorem dX6_wrongIn_109 : decode cX6_wrongIn 109 = .ok (.iload 4, 2) := by decide +kernel
theorem dX6_wrongIn_111 : decode cX6_wrongIn 111 = .ok (.iconst 4, 1) := by decide +kernel
theorem dX6_wrongIn_112 : decode cX6_wrongIn 112 = .ok (.if_icmp .ne 7, 3) := by decide +kernel
theorem dX6_wrongIn_115 : decode cX6_wrongIn 115 = .ok (.iconst 0, 1) := by decide +kernel
theorem dX6_wrongIn_116 : decode cX6_wrongIn 116 = .ok (.goto 4, 3) := by decide +kernel
theorem dX6_wrongIn_119 : decode cX6_wrongIn 119 = .ok (.iconst 2, 1) := by decide +kernel
theorem dX6_wrongIn_120 : decode cX6_wrongIn 120 = .ok (.istore 8, 2) := by decide +kernel
theorem dX6_wrongIn_122 : decode cX6_wrongIn 122 = .ok (.iload 4, 2) := by decide +kernel
theorem dX6_wrongIn_124 : decode cX6_wrongIn 124 = .ok (.iconst 2, 1) := by decide +kernel
theorem dX6_wrongIn_125 : decode cX6_wrongIn 125 = .ok (.if_icmp .ne 10, 3) := by decide +kernel
theorem dX6_wrongIn_128 : decode cX6_wrongIn 128 = .ok (.iconst 3, 1) := by decide +kernel
theorem dX6_wrongIn_129 : decode cX6_wrongIn 129 = .ok (.iload 7, 2) := by decide +kernel
theorem dX6_wrongIn_131 : decode cX6_wrongIn 131 = .ok (.imul, 1) := by decide +kernel
theorem dX6_wrongIn_132 : decode cX6_wrongIn 132 = .ok (.goto 5, 3) := by decide +kernel
theorem dX6_wrongIn_135 : decode cX6_wrongIn 135 = .ok (.iload 7, 2) := by decide +kernel
theorem dX6_wrongIn_137 : decode cX6_wrongIn 137 = .ok (.iload 8, 2) := by decide +kernel
theorem dX6_wrongIn_139 : decode cX6_wrongIn 139 = .ok (.iadd, 1) := by decide +kernel
theorem dX6_wrongIn_140 : decode cX6_wrongIn 140 = .ok (.iconst 2, 1) := by decide +kernel
theorem dX6_wrongIn_141 : decode cX6_wrongIn 141 = .ok (.iload 5, 2) := by decide +kernel
theorem dX6_wrongIn_143 : decode cX6_wrongIn 143 = .ok (.imul, 1) := by decide +kernel
theorem dX6_wrongIn_144 : decode cX6_wrongIn 144 = .ok (.iadd, 1) := by decide +kernel
theorem dX6_wrongIn_145 : decode cX6_wrongIn 145 = .ok (.ireturn, 1) := by decide +kernel
theorem dX6_wrongOf_0 : decode cX6_wrongOf 0 = .ok (.aload_n 0, 1) := by decide +kernel
theorem dX6_wrongOf_1 : decode cX6_wrongOf 1 = .ok (.iload_n 1, 1) := by decide +kernel
theorem dX6_wrongOf_2 : decode cX6_wrongOf 2 = .ok (.iload_n 2, 1) := by decide +kernel
theorem dX6_wrongOf_3 : decode cX6_wrongOf 3 = .ok (.aload_n 0, 1) := by decide +kernel
theorem dX6_wrongOf_4 : decode cX6_wrongOf 4 = .ok (.getfield 13, 3) := by decide +kernel
theorem dX6_wrongOf_7 : decode cX6_wrongOf 7 = .ok (.iconst 4, 1) := by decide +kernel
theorem dX6_wrongOf_8 : decode cX6_wrongOf 8 = .ok (.iload_n 1, 1) := by decide +kernel
theorem dX6_wrongOf_9 : decode cX6_wrongOf 9 = .ok (.imul, 1) := by decide +kernel
theorem dX6_wrongOf_10 : decode cX6_wrongOf 10 = .ok (.iaload, 1) := by decide +kernel
theorem dX6_wrongOf_11 : decode cX6_wrongOf 11 = .ok (.invokevirtual 95, 3) := by decide +kernel
theorem dX6_wrongOf_14 : decode cX6_wrongOf 14 = .ok (.ireturn, 1) := by decide +kernel
theorem dX6_fitsBy_0 : decode cX6_fitsBy 0 = .ok (.iload_n 2, 1) := by decide +kernel
theorem dX6_fitsBy_1 : decode cX6_fitsBy 1 = .ok (.aload_n 0, 1) := by decide +kernel
theorem dX6_fitsBy_2 : decode cX6_fitsBy 2 = .ok (.getfield 16, 3) := by decide +kernel
theorem dX6_fitsBy_5 : decode cX6_fitsBy 5 = .ok (.iconst 5, 1) := by decide +kernel
theorem dX6_fitsBy_6 : decode cX6_fitsBy 6 = .ok (.iload_n 1, 1) := by decide +kernel
theorem dX6_fitsBy_7 : decode cX6_fitsBy 7 = .ok (.imul, 1) := by decide +kernel
theorem dX6_fitsBy_8 : decode cX6_fitsBy 8 = .ok (.iconst 3, 1) := by decide +kernel
theorem dX6_fitsBy_9 : decode cX6_fitsBy 9 = .ok (.iadd, 1) := by decide +kernel
theorem dX6_fitsBy_10 : decode cX6_fitsBy 10 = .ok (.iaload, 1) := by decide +kernel
theorem dX6_fitsBy_11 : decode cX6_fitsBy 11 = .ok (.iconst 4, 1) := by decide +kernel
theorem dX6_fitsBy_12 : decode cX6_fitsBy 12 = .ok (.if_icmp .ne 7, 3) := by decide +kernel
theorem dX6_fitsBy_15 : decode cX6_fitsBy 15 = .ok (.iconst 4, 1) := by decide +kernel
theorem dX6_fitsBy_16 : decode cX6_fitsBy 16 = .ok (.goto 4, 3) := by decide +kernel
theorem dX6_fitsBy_19 : decode cX6_fitsBy 19 = .ok (.iconst 2, 1) := by decide +kernel
theorem dX6_fitsBy_20 : decode cX6_fitsBy 20 = .ok (.if_icmp .gt 7, 3) := by decide +kernel
theorem dX6_fitsBy_23 : decode cX6_fitsBy 23 = .ok (.iconst 1, 1) := by decide +kernel
theorem dX6_fitsBy_24 : decode cX6_fitsBy 24 = .ok (.goto 4, 3) := by decide +kernel
theorem dX6_fitsBy_27 : decode cX6_fitsBy 27 = .ok (.iconst 0, 1) := by decide +kernel
theorem dX6_fitsBy_28 : decode cX6_fitsBy 28 = .ok (.ireturn, 1) := by decide +kernel
theorem dX6_fits_0 : decode cX6_fits 0 = .ok (.aload_n 0, 1) := by decide +kernel
theorem dX6_fits_1 : decode cX6_fits 1 = .ok (.iload_n 2, 1) := by decide +kernel
theorem dX6_fits_2 : decode cX6_fits 2 = .ok (.aload_n 0, 1) := by decide +kernel
theorem dX6_fits_3 : decode cX6_fits 3 = .ok (.iload_n 1, 1) := by decide +kernel
theorem dX6_fits_4 : decode cX6_fits 4 = .ok (.iload_n 2, 1) := by decide +kernel
theorem dX6_fits_5 : decode cX6_fits 5 = .ok (.invokevirtual 99, 3) := by decide +kernel
theorem dX6_fits_8 : decode cX6_fits 8 = .ok (.invokevirtual 103, 3) := by decide +kernel
theorem dX6_fits_11 : decode cX6_fits 11 = .ok (.ireturn, 1) := by decide +kernel
theorem dX6_claimersOf_0 : decode cX6_claimersOf 0 = .ok (.iconst 0, 1) := by decide +kernel
theorem dX6_claimersOf_1 : decode cX6_claimersOf 1 = .ok (.istore_n 2, 1) := by decide +kernel
theorem dX6_claimersOf_2 : decode cX6_claimersOf 2 = .ok (.iconst 0, 1) := by decide +kernel
theorem dX6_claimersOf_3 : decode cX6_claimersOf 3 = .ok (.istore_n 3, 1) := by decide +kernel
theorem dX6_claimersOf_4 : decode cX6_claimersOf 4 = .ok (.iload_n 3, 1) := by decide +kernel
theorem dX6_claimersOf_5 : decode cX6_claimersOf 5 = .ok (.aload_n 0, 1) := by decide +kernel
theorem dX6_claimersOf_6 : decode cX6_claimersOf 6 = .ok (.getfield 77, 3) := by decide +kernel
theorem dX6_claimersOf_9 : decode cX6_claimersOf 9 = .ok (.if_icmp .ge 28, 3) := by decide +kernel
theorem dX6_claimersOf_12 : decode cX6_claimersOf 12 = .ok (.iload_n 2, 1) := by decide +kernel
theorem dX6_claimersOf_13 : decode cX6_claimersOf 13 = .ok (.aload_n 0, 1) := by decide +kernel
theorem dX6_claimersOf_14 : decode cX6_claimersOf 14 = .ok (.iload_n 1, 1) := by decide +kernel
theorem dX6_claimersOf_15 : decode cX6_claimersOf 15 = .ok (.iload_n 3, 1) := by decide +kernel
theorem dX6_claimersOf_16 : decode cX6_claimersOf 16 = .ok (.invokevirtual 107, 3) := by decide +kernel
theorem dX6_claimersOf_19 : decode cX6_claimersOf 19 = .ok (.ifCond .eq 9, 3) := by decide +kernel
theorem dX6_claimersOf_22 : decode cX6_claimersOf 22 = .ok (.iconst 1, 1) := by decide +kernel
theorem dX6_claimersOf_23 : decode cX6_claimersOf 23 = .ok (.iload_n 3, 1) := by decide +kernel
theorem dX6_claimersOf_24 : decode cX6_claimersOf 24 = .ok (.ishl, 1) := by decide +kernel
theorem dX6_claimersOf_25 : decode cX6_claimersOf 25 = .ok (.goto 4, 3) := by decide +kernel
theorem dX6_claimersOf_28 : decode cX6_claimersOf 28 = .ok (.iconst 0, 1) := by decide +kernel
theorem dX6_claimersOf_29 : decode cX6_claimersOf 29 = .ok (.ior, 1) := by decide +kernel
theorem dX6_claimersOf_30 : decode cX6_claimersOf 30 = .ok (.istore_n 2, 1) := by decide +kernel
theorem dX6_claimersOf_31 : decode cX6_claimersOf 31 = .ok (.iinc 3 1, 3) := by decide +kernel
theorem dX6_claimersOf_34 : decode cX6_claimersOf 34 = .ok (.goto (-30), 3) := by decide +kernel
theorem dX6_claimersOf_37 : decode cX6_claimersOf 37 = .ok (.iload_n 2, 1) := by decide +kernel
theorem dX6_claimersOf_38 : decode cX6_claimersOf 38 = .ok (.ireturn, 1) := by decide +kernel
theorem dX6_thingsOf_0 : decode cX6_thingsOf 0 = .ok (.iconst 0, 1) := by decide +kernel
theorem dX6_thingsOf_1 : decode cX6_thingsOf 1 = .ok (.istore_n 2, 1) := by decide +kernel
theorem dX6_thingsOf_2 : decode cX6_thingsOf 2 = .ok (.iconst 0, 1) := by decide +kernel
theorem dX6_thingsOf_3 : decode cX6_thingsOf 3 = .ok (.istore_n 3, 1) := by decide +kernel
theorem dX6_thingsOf_4 : decode cX6_thingsOf 4 = .ok (.iload_n 3, 1) := by decide +kernel
theorem dX6_thingsOf_5 : decode cX6_thingsOf 5 = .ok (.aload_n 0, 1) := by decide +kernel
theorem dX6_thingsOf_6 : decode cX6_thingsOf 6 = .ok (.getfield 74, 3) := by decide +kernel
theorem dX6_thingsOf_9 : decode cX6_thingsOf 9 = .ok (.if_icmp .ge 28, 3) := by decide +kernel
theorem dX6_thingsOf_12 : decode cX6_thingsOf 12 = .ok (.iload_n 2, 1) := by decide +kernel
theorem dX6_thingsOf_13 : decode cX6_thingsOf 13 = .ok (.aload_n 0, 1) := by decide +kernel
theorem dX6_thingsOf_14 : decode cX6_thingsOf 14 = .ok (.iload_n 3, 1) := by decide +kernel
theorem dX6_thingsOf_15 : decode cX6_thingsOf 15 = .ok (.iload_n 1, 1) := by decide +kernel
theorem dX6_thingsOf_16 : decode cX6_thingsOf 16 = .ok (.invokevirtual 107, 3) := by decide +kernel
theorem dX6_thingsOf_19 : decode cX6_thingsOf 19 = .ok (.ifCond .eq 9, 3) := by decide +kernel
theorem dX6_thingsOf_22 : decode cX6_thingsOf 22 = .ok (.iconst 1, 1) := by decide +kernel
theorem dX6_thingsOf_23 : decode cX6_thingsOf 23 = .ok (.iload_n 3, 1) := by decide +kernel
theorem dX6_thingsOf_24 : decode cX6_thingsOf 24 = .ok (.ishl, 1) := by decide +kernel
theorem dX6_thingsOf_25 : decode cX6_thingsOf 25 = .ok (.goto 4, 3) := by decide +kernel
theorem dX6_thingsOf_28 : decode cX6_thingsOf 28 = .ok (.iconst 0, 1) := by decide +kernel
theorem dX6_thingsOf_29 : decode cX6_thingsOf 29 = .ok (.ior, 1) := by decide +kernel
theorem dX6_thingsOf_30 : decode cX6_thingsOf 30 = .ok (.istore_n 2, 1) := by decide +kernel
theorem dX6_thingsOf_31 : decode cX6_thingsOf 31 = .ok (.iinc 3 1, 3) := by decide +kernel
theorem dX6_thingsOf_34 : decode cX6_thingsOf 34 = .ok (.goto (-30), 3) := by decide +kernel
theorem dX6_thingsOf_37 : decode cX6_thingsOf 37 = .ok (.iload_n 2, 1) := by decide +kernel
theorem dX6_thingsOf_38 : decode cX6_thingsOf 38 = .ok (.ireturn, 1) := by decide +kernel
theorem dX6_signOf_0 : decode cX6_signOf 0 = .ok (.iconst (-1), 1) := by decide +kernel
theorem dX6_signOf_1 : decode cX6_signOf 1 = .ok (.istore_n 2, 1) := by decide +kernel
theorem dX6_signOf_2 : decode cX6_signOf 2 = .ok (.bipush 99, 2) := by decide +kernel
theorem dX6_signOf_4 : decode cX6_signOf 4 = .ok (.istore_n 3, 1) := by decide +kernel
theorem dX6_signOf_5 : decode cX6_signOf 5 = .ok (.iconst 0, 1) := by decide +kernel
theorem dX6_signOf_6 : decode cX6_signOf 6 = .ok (.istore 4, 2) := by decide +kernel
theorem dX6_signOf_8 : decode cX6_signOf 8 = .ok (.iload 4, 2) := by decide +kernel
theorem dX6_signOf_10 : decode cX6_signOf 10 = .ok (.iconst 3, 1) := by decide +kernel
theorem dX6_signOf_11 : decode cX6_signOf 11 = .ok (.if_icmp .ge 170, 3) := by decide +kernel
theorem dX6_signOf_14 : decode cX6_signOf 14 = .ok (.iconst 0, 1) := by decide +kernel
theorem dX6_signOf_15 : decode cX6_signOf 15 = .ok (.istore 5, 2) := by decide +kernel
theorem dX6_signOf_17 : decode cX6_signOf 17 = .ok (.iload 5, 2) := by decide +kernel
theorem dX6_signOf_19 : decode cX6_signOf 19 = .ok (.bipush 10, 2) := by decide +kernel
theorem dX6_signOf_21 : decode cX6_signOf 21 = .ok (.if_icmp .ge 17, 3) := by decide +kernel
theorem dX6_signOf_24 : decode cX6_signOf 24 = .ok (.aload_n 0, 1) := by decide +kernel
theorem dX6_signOf_25 : decode cX6_signOf 25 = .ok (.getfield 19, 3) := by decide +kernel
theorem dX6_signOf_28 : decode cX6_signOf 28 = .ok (.iload 5, 2) := by decide +kernel
theorem dX6_signOf_30 : decode cX6_signOf 30 = .ok (.iconst 0, 1) := by decide +kernel
theorem dX6_signOf_31 : decode cX6_signOf 31 = .ok (.iastore, 1) := by decide +kernel
theorem dX6_signOf_32 : decode cX6_signOf 32 = .ok (.iinc 5 1, 3) := by decide +kernel
theorem dX6_signOf_35 : decode cX6_signOf 35 = .ok (.goto (-18), 3) := by decide +kernel
theorem dX6_signOf_38 : decode cX6_signOf 38 = .ok (.iconst 0, 1) := by decide +kernel
theorem dX6_signOf_39 : decode cX6_signOf 39 = .ok (.istore 5, 2) := by decide +kernel
theorem dX6_signOf_41 : decode cX6_signOf 41 = .ok (.iconst 0, 1) := by decide +kernel
theorem dX6_signOf_42 : decode cX6_signOf 42 = .ok (.istore 6, 2) := by decide +kernel
theorem dX6_signOf_44 : decode cX6_signOf 44 = .ok (.iload 6, 2) := by decide +kernel
theorem dX6_signOf_46 : decode cX6_signOf 46 = .ok (.aload_n 0, 1) := by decide +kernel
theorem dX6_signOf_47 : decode cX6_signOf 47 = .ok (.getfield 74, 3) := by decide +kernel
theorem dX6_signOf_50 : decode cX6_signOf 50 = .ok (.if_icmp .ge 89, 3) := by decide +kernel
theorem dX6_signOf_53 : decode cX6_signOf 53 = .ok (.aload_n 0, 1) := by decide +kernel
theorem dX6_signOf_54 : decode cX6_signOf 54 = .ok (.getfield 13, 3) := by decide +kernel
theorem dX6_signOf_57 : decode cX6_signOf 57 = .ok (.iconst 4, 1) := by decide +kernel
theorem dX6_signOf_58 : decode cX6_signOf 58 = .ok (.iload 6, 2) := by decide +kernel
theorem dX6_signOf_60 : decode cX6_signOf 60 = .ok (.imul, 1) := by decide +kernel
theorem dX6_signOf_61 : decode cX6_signOf 61 = .ok (.iload 4, 2) := by decide +kernel
theorem dX6_signOf_63 : decode cX6_signOf 63 = .ok (.iadd, 1) := by decide +kernel
theorem dX6_signOf_64 : decode cX6_signOf 64 = .ok (.iaload, 1) := by decide +kernel
theorem dX6_signOf_65 : decode cX6_signOf 65 = .ok (.istore 7, 2) := by decide +kernel
theorem dX6_signOf_67 : decode cX6_signOf 67 = .ok (.aload_n 0, 1) := by decide +kernel
theorem dX6_signOf_68 : decode cX6_signOf 68 = .ok (.getfield 19, 3) := by decide +kernel
theorem dX6_signOf_71 : decode cX6_signOf 71 = .ok (.iload 7, 2) := by decide +kernel
theorem dX6_signOf_73 : decode cX6_signOf 73 = .ok (.dup2, 1) := by decide +kernel
theorem dX6_signOf_74 : decode cX6_signOf 74 = .ok (.iaload, 1) := by decide +kernel
theorem dX6_signOf_75 : decode cX6_signOf 75 = .ok (.aload_n 0, 1) := by decide +kernel
theorem dX6_signOf_76 : decode cX6_signOf 76 = .ok (.getfield 13, 3) := by decide +kernel
theorem dX6_signOf_79 : decode cX6_signOf 79 = .ok (.iconst 4, 1) := by decide +kernel
theorem dX6_signOf_80 : decode cX6_signOf 80 = .ok (.iload 6, 2) := by decide +kernel
theorem dX6_signOf_82 : decode cX6_signOf 82 = .ok (.imul, 1) := by decide +kernel
theorem dX6_signOf_83 : decode cX6_signOf 83 = .ok (.iconst 3, 1) := by decide +kernel
theorem dX6_signOf_84 : decode cX6_signOf 84 = .ok (.iadd, 1) := by decide +kernel
theorem dX6_signOf_85 : decode cX6_signOf 85 = .ok (.iaload, 1) := by decide +kernel
theorem dX6_signOf_86 : decode cX6_signOf 86 = .ok (.iconst (-1), 1) := by decide +kernel
theorem dX6_signOf_87 : decode cX6_signOf 87 = .ok (.if_icmp .ne 17, 3) := by decide +kernel
theorem dX6_signOf_90 : decode cX6_signOf 90 = .ok (.aload_n 0, 1) := by decide +kernel
theorem dX6_signOf_91 : decode cX6_signOf 91 = .ok (.iload 6, 2) := by decide +kernel
theorem dX6_signOf_93 : decode cX6_signOf 93 = .ok (.iload_n 1, 1) := by decide +kernel
theorem dX6_signOf_94 : decode cX6_signOf 94 = .ok (.invokevirtual 107, 3) := by decide +kernel
theorem dX6_signOf_97 : decode cX6_signOf 97 = .ok (.ifCond .eq 7, 3) := by decide +kernel
theorem dX6_signOf_100 : decode cX6_signOf 100 = .ok (.iconst 1, 1) := by decide +kernel
theorem dX6_signOf_101 : decode cX6_signOf 101 = .ok (.goto 4, 3) := by decide +kernel
theorem dX6_signOf_104 : decode cX6_signOf 104 = .ok (.iconst 0, 1) := by decide +kernel
theorem dX6_signOf_105 : decode cX6_signOf 105 = .ok (.iadd, 1) := by decide +kernel
theorem dX6_signOf_106 : decode cX6_signOf 106 = .ok (.iastore, 1) := by decide +kernel
theorem dX6_signOf_107 : decode cX6_signOf 107 = .ok (.aload_n 0, 1) := by decide +kernel
theorem dX6_signOf_108 : decode cX6_signOf 108 = .ok (.getfield 19, 3) := by decide +kernel
theorem dX6_signOf_111 : decode cX6_signOf 111 = .ok (.iload 7, 2) := by decide +kernel
theorem dX6_signOf_113 : decode cX6_signOf 113 = .ok (.iaload, 1) := by decide +kernel
theorem dX6_signOf_114 : decode cX6_signOf 114 = .ok (.iload 5, 2) := by decide +kernel
theorem dX6_signOf_116 : decode cX6_signOf 116 = .ok (.if_icmp .le 13, 3) := by decide +kernel
theorem dX6_signOf_119 : decode cX6_signOf 119 = .ok (.aload_n 0, 1) := by decide +kernel
theorem dX6_signOf_120 : decode cX6_signOf 120 = .ok (.getfield 19, 3) := by decide +kernel
theorem dX6_signOf_123 : decode cX6_signOf 123 = .ok (.iload 7, 2) := by decide +kernel
theorem dX6_signOf_125 : decode cX6_signOf 125 = .ok (.iaload, 1) := by decide +kernel
theorem dX6_signOf_126 : decode cX6_signOf 126 = .ok (.goto 5, 3) := by decide +kernel
theorem dX6_signOf_129 : decode cX6_signOf 129 = .ok (.iload 5, 2) := by decide +kernel
theorem dX6_signOf_131 : decode cX6_signOf 131 = .ok (.istore 5, 2) := by decide +kernel
theorem dX6_signOf_133 : decode cX6_signOf 133 = .ok (.iinc 6 1, 3) := by decide +kernel
theorem dX6_signOf_136 : decode cX6_signOf 136 = .ok (.goto (-92), 3) := by decide +kernel
theorem dX6_signOf_139 : decode cX6_signOf 139 = .ok (.iload 5, 2) := by decide +kernel
theorem dX6_signOf_141 : decode cX6_signOf 141 = .ok (.ifCond .le 14, 3) := by decide +kernel
theorem dX6_signOf_144 : decode cX6_signOf 144 = .ok (.iload 5, 2) := by decide +kernel
theorem dX6_signOf_146 : decode cX6_signOf 146 = .ok (.iload_n 3, 1) := by decide +kernel
theorem dX6_signOf_147 : decode cX6_signOf 147 = .ok (.if_icmp .ge 8, 3) := by decide +kernel
theorem dX6_signOf_150 : decode cX6_signOf 150 = .ok (.iload 4, 2) := by decide +kernel
theorem dX6_signOf_152 : decode cX6_signOf 152 = .ok (.goto 4, 3) := by decide +kernel
theorem dX6_signOf_155 : decode cX6_signOf 155 = .ok (.iload_n 2, 1) := by decide +kernel
theorem dX6_signOf_156 : decode cX6_signOf 156 = .ok (.istore_n 2, 1) := by decide +kernel
theorem dX6_signOf_157 : decode cX6_signOf 157 = .ok (.iload 5, 2) := by decide +kernel
theorem dX6_signOf_159 : decode cX6_signOf 159 = .ok (.ifCond .le 14, 3) := by decide +kernel
theorem dX6_signOf_162 : decode cX6_signOf 162 = .ok (.iload 5, 2) := by decide +kernel
theorem dX6_signOf_164 : decode cX6_signOf 164 = .ok (.iload_n 3, 1) := by decide +kernel
theorem dX6_signOf_165 : decode cX6_signOf 165 = .ok (.if_icmp .ge 8, 3) := by decide +kernel
theorem dX6_signOf_168 : decode cX6_signOf 168 = .ok (.iload 5, 2) := by decide +kernel
theorem dX6_signOf_170 : decode cX6_signOf 170 = .ok (.goto 4, 3) := by decide +kernel
theorem dX6_signOf_173 : decode cX6_signOf 173 = .ok (.iload_n 3, 1) := by decide +kernel
theorem dX6_signOf_174 : decode cX6_signOf 174 = .ok (.istore_n 3, 1) := by decide +kernel
theorem dX6_signOf_175 : decode cX6_signOf 175 = .ok (.iinc 4 1, 3) := by decide +kernel
theorem dX6_signOf_178 : decode cX6_signOf 178 = .ok (.goto (-170), 3) := by decide +kernel
theorem dX6_signOf_181 : decode cX6_signOf 181 = .ok (.iload_n 2, 1) := by decide +kernel
theorem dX6_signOf_182 : decode cX6_signOf 182 = .ok (.ireturn, 1) := by decide +kernel
theorem dX6_tellThing_0 : decode cX6_tellThing 0 = .ok (.iload_n 2, 1) := by decide +kernel
theorem dX6_tellThing_1 : decode cX6_tellThing 1 = .ok (.tableswitch 72 0 6 #[43, 43, 43, 43, 54, 60, 66], 43) := by decide +kernel
theorem dX6_tellThing_44 : decode cX6_tellThing 44 = .ok (.aload_n 0, 1) := by decide +kernel
theorem dX6_tellThing_45 : decode cX6_tellThing 45 = .ok (.getfield 13, 3) := by decide +kernel
theorem dX6_tellThing_48 : decode cX6_tellThing 48 = .ok (.iconst 4, 1) := by decide +kernel
theorem dX6_tellThing_49 : decode cX6_tellThing 49 = .ok (.iload_n 1, 1) := by decide +kernel
theorem dX6_tellThing_50 : decode cX6_tellThing 50 = .ok (.imul, 1) := by decide +kernel
theorem dX6_tellThing_51 : decode cX6_tellThing 51 = .ok (.iload_n 2, 1) := by decide +kernel
theorem dX6_tellThing_52 : decode cX6_tellThing 52 = .ok (.iadd, 1) := by decide +kernel
theorem dX6_tellThing_53 : decode cX6_tellThing 53 = .ok (.iaload, 1) := by decide +kernel
theorem dX6_tellThing_54 : decode cX6_tellThing 54 = .ok (.ireturn, 1) := by decide +kernel
theorem dX6_tellThing_55 : decode cX6_tellThing 55 = .ok (.aload_n 0, 1) := by decide +kernel
theorem dX6_tellThing_56 : decode cX6_tellThing 56 = .ok (.iload_n 1, 1) := by decide +kernel
theorem dX6_tellThing_57 : decode cX6_tellThing 57 = .ok (.invokevirtual 110, 3) := by decide +kernel
theorem dX6_tellThing_60 : decode cX6_tellThing 60 = .ok (.ireturn, 1) := by decide +kernel
theorem dX6_tellThing_61 : decode cX6_tellThing 61 = .ok (.aload_n 0, 1) := by decide +kernel
theorem dX6_tellThing_62 : decode cX6_tellThing 62 = .ok (.iload_n 1, 1) := by decide +kernel
theorem dX6_tellThing_63 : decode cX6_tellThing 63 = .ok (.invokevirtual 113, 3) := by decide +kernel
theorem dX6_tellThing_66 : decode cX6_tellThing 66 = .ok (.ireturn, 1) := by decide +kernel
theorem dX6_tellThing_67 : decode cX6_tellThing 67 = .ok (.aload_n 0, 1) := by decide +kernel
theorem dX6_tellThing_68 : decode cX6_tellThing 68 = .ok (.iload_n 1, 1) := by decide +kernel
theorem dX6_tellThing_69 : decode cX6_tellThing 69 = .ok (.invokevirtual 116, 3) := by decide +kernel
theorem dX6_tellThing_72 : decode cX6_tellThing 72 = .ok (.ireturn, 1) := by decide +kernel
theorem dX6_tellThing_73 : decode cX6_tellThing 73 = .ok (.bipush (-102), 2) := by decide +kernel
theorem dX6_tellThing_75 : decode cX6_tellThing 75 = .ok (.ireturn, 1) := by decide +kernel
theorem dX6_thing_0 : decode cX6_thing 0 = .ok (.aload_n 0, 1) := by decide +kernel
theorem dX6_thing_1 : decode cX6_thing 1 = .ok (.iload_n 1, 1) := by decide +kernel
theorem dX6_thing_2 : decode cX6_thing 2 = .ok (.invokevirtual 119, 3) := by decide +kernel
theorem dX6_thing_5 : decode cX6_thing 5 = .ok (.ifCond .eq 12, 3) := by decide +kernel
theorem dX6_thing_8 : decode cX6_thing 8 = .ok (.aload_n 0, 1) := by decide +kernel
theorem dX6_thing_9 : decode cX6_thing 9 = .ok (.iload_n 1, 1) := by decide +kernel
theorem dX6_thing_10 : decode cX6_thing 10 = .ok (.iload_n 2, 1) := by decide +kernel
theorem dX6_thing_11 : decode cX6_thing 11 = .ok (.invokevirtual 122, 3) := by decide +kernel
theorem dX6_thing_14 : decode cX6_thing 14 = .ok (.goto 5, 3) := by decide +kernel
theorem dX6_thing_17 : decode cX6_thing 17 = .ok (.bipush (-101), 2) := by decide +kernel
theorem dX6_thing_19 : decode cX6_thing 19 = .ok (.ireturn, 1) := by decide +kernel
theorem dX6_tellClaimer_0 : decode cX6_tellClaimer 0 = .ok (.iload_n 2, 1) := by decide +kernel
theorem dX6_tellClaimer_1 : decode cX6_tellClaimer 1 = .ok (.tableswitch 66 0 6 #[43, 43, 43, 43, 43, 54, 60], 43) := by decide +kernel
theorem dX6_tellClaimer_44 : decode cX6_tellClaimer 44 = .ok (.aload_n 0, 1) := by decide +kernel
theorem dX6_tellClaimer_45 : decode cX6_tellClaimer 45 = .ok (.getfield 16, 3) := by decide +kernel
theorem dX6_tellClaimer_48 : decode cX6_tellClaimer 48 = .ok (.iconst 5, 1) := by decide +kernel
theorem dX6_tellClaimer_49 : decode cX6_tellClaimer 49 = .ok (.iload_n 1, 1) := by decide +kernel
theorem dX6_tellClaimer_50 : decode cX6_tellClaimer 50 = .ok (.imul, 1) := by decide +kernel
theorem dX6_tellClaimer_51 : decode cX6_tellClaimer 51 = .ok (.iload_n 2, 1) := by decide +kernel
theorem dX6_tellClaimer_52 : decode cX6_tellClaimer 52 = .ok (.iadd, 1) := by decide +kernel
theorem dX6_tellClaimer_53 : decode cX6_tellClaimer 53 = .ok (.iaload, 1) := by decide +kernel
theorem dX6_tellClaimer_54 : decode cX6_tellClaimer 54 = .ok (.ireturn, 1) := by decide +kernel
theorem dX6_tellClaimer_55 : decode cX6_tellClaimer 55 = .ok (.aload_n 0, 1) := by decide +kernel
theorem dX6_tellClaimer_56 : decode cX6_tellClaimer 56 = .ok (.iload_n 1, 1) := by decide +kernel
theorem dX6_tellClaimer_57 : decode cX6_tellClaimer 57 = .ok (.invokevirtual 125, 3) := by decide +kernel
theorem dX6_tellClaimer_60 : decode cX6_tellClaimer 60 = .ok (.ireturn, 1) := by decide +kernel
theorem dX6_tellClaimer_61 : decode cX6_tellClaimer 61 = .ok (.aload_n 0, 1) := by decide +kernel
theorem dX6_tellClaimer_62 : decode cX6_tellClaimer 62 = .ok (.iload_n 1, 1) := by decide +kernel
theorem dX6_tellClaimer_63 : decode cX6_tellClaimer 63 = .ok (.invokevirtual 128, 3) := by decide +kernel
theorem dX6_tellClaimer_66 : decode cX6_tellClaimer 66 = .ok (.ireturn, 1) := by decide +kernel
theorem dX6_tellClaimer_67 : decode cX6_tellClaimer 67 = .ok (.bipush (-102), 2) := by decide +kernel
theorem dX6_tellClaimer_69 : decode cX6_tellClaimer 69 = .ok (.ireturn, 1) := by decide +kernel
theorem dX6_claimer_0 : decode cX6_claimer 0 = .ok (.aload_n 0, 1) := by decide +kernel
theorem dX6_claimer_1 : decode cX6_claimer 1 = .ok (.iload_n 1, 1) := by decide +kernel
theorem dX6_claimer_2 : decode cX6_claimer 2 = .ok (.invokevirtual 131, 3) := by decide +kernel
theorem dX6_claimer_5 : decode cX6_claimer 5 = .ok (.ifCond .eq 12, 3) := by decide +kernel
theorem dX6_claimer_8 : decode cX6_claimer 8 = .ok (.aload_n 0, 1) := by decide +kernel
theorem dX6_claimer_9 : decode cX6_claimer 9 = .ok (.iload_n 1, 1) := by decide +kernel
theorem dX6_claimer_10 : decode cX6_claimer 10 = .ok (.iload_n 2, 1) := by decide +kernel
theorem dX6_claimer_11 : decode cX6_claimer 11 = .ok (.invokevirtual 134, 3) := by decide +kernel
theorem dX6_claimer_14 : decode cX6_claimer 14 = .ok (.goto 5, 3) := by decide +kernel
theorem dX6_claimer_17 : decode cX6_claimer 17 = .ok (.bipush (-101), 2) := by decide +kernel
theorem dX6_claimer_19 : decode cX6_claimer 19 = .ok (.ireturn, 1) := by decide +kernel
theorem dX6_as_0 : decode cX6_as 0 = .ok (.aload_n 0, 1) := by decide +kernel
theorem dX6_as_1 : decode cX6_as 1 = .ok (.iload_n 1, 1) := by decide +kernel
theorem dX6_as_2 : decode cX6_as 2 = .ok (.invokevirtual 131, 3) := by decide +kernel
theorem dX6_as_5 : decode cX6_as 5 = .ok (.ifCond .ne 6, 3) := by decide +kernel
theorem dX6_as_8 : decode cX6_as 8 = .ok (.bipush (-101), 2) := by decide +kernel
theorem dX6_as_10 : decode cX6_as 10 = .ok (.ireturn, 1) := by decide +kernel
theorem dX6_as_11 : decode cX6_as 11 = .ok (.iload_n 2, 1) := by decide +kernel
theorem dX6_as_12 : decode cX6_as 12 = .ok (.i2l, 1) := by decide +kernel
theorem dX6_as_13 : decode cX6_as 13 = .ok (.lconst 0, 1) := by decide +kernel
theorem dX6_as_14 : decode cX6_as 14 = .ok (.ldc2_w 137, 3) := by decide +kernel
theorem dX6_as_17 : decode cX6_as 17 = .ok (.invokestatic 49, 3) := by decide +kernel
theorem dX6_as_20 : decode cX6_as 20 = .ok (.ifCond .ne 6, 3) := by decide +kernel
theorem dX6_as_23 : decode cX6_as 23 = .ok (.bipush (-102), 2) := by decide +kernel
theorem dX6_as_25 : decode cX6_as 25 = .ok (.ireturn, 1) := by decide +kernel
theorem dX6_as_26 : decode cX6_as 26 = .ok (.aload_n 0, 1) := by decide +kernel
theorem dX6_as_27 : decode cX6_as 27 = .ok (.getfield 16, 3) := by decide +kernel
theorem dX6_as_30 : decode cX6_as 30 = .ok (.iconst 5, 1) := by decide +kernel
theorem dX6_as_31 : decode cX6_as 31 = .ok (.iload_n 1, 1) := by decide +kernel
theorem dX6_as_32 : decode cX6_as 32 = .ok (.imul, 1) := by decide +kernel
theorem dX6_as_33 : decode cX6_as 33 = .ok (.iconst 3, 1) := by decide +kernel
theorem dX6_as_34 : decode cX6_as 34 = .ok (.iadd, 1) := by decide +kernel
theorem dX6_as_35 : decode cX6_as 35 = .ok (.iaload, 1) := by decide +kernel
theorem dX6_as_36 : decode cX6_as 36 = .ok (.istore_n 3, 1) := by decide +kernel
theorem dX6_as_37 : decode cX6_as 37 = .ok (.iload_n 2, 1) := by decide +kernel
theorem dX6_as_38 : decode cX6_as 38 = .ok (.ifCond .eq 18, 3) := by decide +kernel
theorem dX6_as_41 : decode cX6_as 41 = .ok (.iload_n 2, 1) := by decide +kernel
theorem dX6_as_42 : decode cX6_as 42 = .ok (.iload_n 3, 1) := by decide +kernel
theorem dX6_as_43 : decode cX6_as 43 = .ok (.if_icmp .eq 13, 3) := by decide +kernel
theorem dX6_as_46 : decode cX6_as 46 = .ok (.iload_n 2, 1) := by decide +kernel
theorem dX6_as_47 : decode cX6_as 47 = .ok (.iconst 1, 1) := by decide +kernel
theorem dX6_as_48 : decode cX6_as 48 = .ok (.if_icmp .ne 12, 3) := by decide +kernel
theorem dX6_as_51 : decode cX6_as 51 = .ok (.iload_n 3, 1) := by decide +kernel
theorem dX6_as_52 : decode cX6_as 52 = .ok (.iconst 4, 1) := by decide +kernel
theorem dX6_as_53 : decode cX6_as 53 = .ok (.if_icmp .ne 7, 3) := by decide +kernel
theorem dX6_as_56 : decode cX6_as 56 = .ok (.iconst 1, 1) := by decide +kernel
theorem dX6_as_57 : decode cX6_as 57 = .ok (.goto 4, 3) := by decide +kernel
theorem dX6_as_60 : decode cX6_as 60 = .ok (.iconst 0, 1) := by decide +kernel
theorem dX6_as_61 : decode cX6_as 61 = .ok (.istore 4, 2) := by decide +kernel
theorem dX6_as_63 : decode cX6_as 63 = .ok (.iload 4, 2) := by decide +kernel
theorem dX6_as_65 : decode cX6_as 65 = .ok (.ifCond .eq 7, 3) := by decide +kernel
theorem dX6_as_68 : decode cX6_as 68 = .ok (.iload_n 1, 1) := by decide +kernel
theorem dX6_as_69 : decode cX6_as 69 = .ok (.goto 4, 3) := by decide +kernel
theorem dX6_as_72 : decode cX6_as 72 = .ok (.iconst (-1), 1) := by decide +kernel
theorem dX6_as_73 : decode cX6_as 73 = .ok (.ireturn, 1) := by decide +kernel
theorem dX6_wrong_0 : decode cX6_wrong 0 = .ok (.aload_n 0, 1) := by decide +kernel
theorem dX6_wrong_1 : decode cX6_wrong 1 = .ok (.iload_n 1, 1) := by decide +kernel
theorem dX6_wrong_2 : decode cX6_wrong 2 = .ok (.invokevirtual 119, 3) := by decide +kernel
theorem dX6_wrong_5 : decode cX6_wrong 5 = .ok (.ifCond .eq 20, 3) := by decide +kernel
theorem dX6_wrong_8 : decode cX6_wrong 8 = .ok (.aload_n 0, 1) := by decide +kernel
theorem dX6_wrong_9 : decode cX6_wrong 9 = .ok (.iload_n 2, 1) := by decide +kernel
theorem dX6_wrong_10 : decode cX6_wrong 10 = .ok (.invokevirtual 131, 3) := by decide +kernel
theorem dX6_wrong_13 : decode cX6_wrong 13 = .ok (.ifCond .eq 12, 3) := by decide +kernel
theorem dX6_wrong_16 : decode cX6_wrong 16 = .ok (.aload_n 0, 1) := by decide +kernel
theorem dX6_wrong_17 : decode cX6_wrong 17 = .ok (.iload_n 1, 1) := by decide +kernel
theorem dX6_wrong_18 : decode cX6_wrong 18 = .ok (.iload_n 2, 1) := by decide +kernel
theorem dX6_wrong_19 : decode cX6_wrong 19 = .ok (.invokevirtual 99, 3) := by decide +kernel
theorem dX6_wrong_22 : decode cX6_wrong 22 = .ok (.goto 5, 3) := by decide +kernel
theorem dX6_wrong_25 : decode cX6_wrong 25 = .ok (.bipush (-101), 2) := by decide +kernel
theorem dX6_wrong_27 : decode cX6_wrong 27 = .ok (.ireturn, 1) := by decide +kernel
theorem dX6_give_0 : decode cX6_give 0 = .ok (.aload_n 0, 1) := by decide +kernel
theorem dX6_give_1 : decode cX6_give 1 = .ok (.iload_n 1, 1) := by decide +kernel
theorem dX6_give_2 : decode cX6_give 2 = .ok (.invokevirtual 119, 3) := by decide +kernel
theorem dX6_give_5 : decode cX6_give 5 = .ok (.ifCond .eq 11, 3) := by decide +kernel
theorem dX6_give_8 : decode cX6_give 8 = .ok (.aload_n 0, 1) := by decide +kernel
theorem dX6_give_9 : decode cX6_give 9 = .ok (.iload_n 2, 1) := by decide +kernel
theorem dX6_give_10 : decode cX6_give 10 = .ok (.invokevirtual 131, 3) := by decide +kernel
theorem dX6_give_13 : decode cX6_give 13 = .ok (.ifCond .ne 6, 3) := by decide +kernel
theorem dX6_give_16 : decode cX6_give 16 = .ok (.bipush (-101), 2) := by decide +kernel
theorem dX6_give_18 : decode cX6_give 18 = .ok (.ireturn, 1) := by decide +kernel
theorem dX6_give_19 : decode cX6_give 19 = .ok (.aload_n 0, 1) := by decide +kernel
theorem dX6_give_20 : decode cX6_give 20 = .ok (.getfield 13, 3) := by decide +kernel
theorem dX6_give_23 : decode cX6_give 23 = .ok (.iconst 4, 1) := by decide +kernel
theorem dX6_give_24 : decode cX6_give 24 = .ok (.iload_n 1, 1) := by decide +kernel
theorem dX6_give_25 : decode cX6_give 25 = .ok (.imul, 1) := by decide +kernel
theorem dX6_give_26 : decode cX6_give 26 = .ok (.iconst 3, 1) := by decide +kernel
theorem dX6_give_27 : decode cX6_give 27 = .ok (.iadd, 1) := by decide +kernel
theorem dX6_give_28 : decode cX6_give 28 = .ok (.iaload, 1) := by decide +kernel
theorem dX6_give_29 : decode cX6_give 29 = .ok (.iconst (-1), 1) := by decide +kernel
theorem dX6_give_30 : decode cX6_give 30 = .ok (.if_icmp .ne 17, 3) := by decide +kernel
theorem dX6_give_33 : decode cX6_give 33 = .ok (.aload_n 0, 1) := by decide +kernel
theorem dX6_give_34 : decode cX6_give 34 = .ok (.getfield 16, 3) := by decide +kernel
theorem dX6_give_37 : decode cX6_give 37 = .ok (.iconst 5, 1) := by decide +kernel
theorem dX6_give_38 : decode cX6_give 38 = .ok (.iload_n 2, 1) := by decide +kernel
theorem dX6_give_39 : decode cX6_give 39 = .ok (.imul, 1) := by decide +kernel
theorem dX6_give_40 : decode cX6_give 40 = .ok (.iconst 4, 1) := by decide +kernel
theorem dX6_give_41 : decode cX6_give 41 = .ok (.iadd, 1) := by decide +kernel
theorem dX6_give_42 : decode cX6_give 42 = .ok (.iaload, 1) := by decide +kernel
theorem dX6_give_43 : decode cX6_give 43 = .ok (.iconst (-1), 1) := by decide +kernel
theorem dX6_give_44 : decode cX6_give 44 = .ok (.if_icmp .eq 6, 3) := by decide +kernel
theorem dX6_give_47 : decode cX6_give 47 = .ok (.bipush (-103), 2) := by decide +kernel
theorem dX6_give_49 : decode cX6_give 49 = .ok (.ireturn, 1) := by decide +kernel
theorem dX6_give_50 : decode cX6_give 50 = .ok (.aload_n 0, 1) := by decide +kernel
theorem dX6_give_51 : decode cX6_give 51 = .ok (.getfield 13, 3) := by decide +kernel
theorem dX6_give_54 : decode cX6_give 54 = .ok (.iconst 4, 1) := by decide +kernel
theorem dX6_give_55 : decode cX6_give 55 = .ok (.iload_n 1, 1) := by decide +kernel
theorem dX6_give_56 : decode cX6_give 56 = .ok (.imul, 1) := by decide +kernel
theorem dX6_give_57 : decode cX6_give 57 = .ok (.iconst 3, 1) := by decide +kernel
theorem dX6_give_58 : decode cX6_give 58 = .ok (.iadd, 1) := by decide +kernel
theorem dX6_give_59 : decode cX6_give 59 = .ok (.iload_n 2, 1) := by decide +kernel
theorem dX6_give_60 : decode cX6_give 60 = .ok (.iastore, 1) := by decide +kernel
theorem dX6_give_61 : decode cX6_give 61 = .ok (.aload_n 0, 1) := by decide +kernel
theorem dX6_give_62 : decode cX6_give 62 = .ok (.getfield 16, 3) := by decide +kernel
theorem dX6_give_65 : decode cX6_give 65 = .ok (.iconst 5, 1) := by decide +kernel
theorem dX6_give_66 : decode cX6_give 66 = .ok (.iload_n 2, 1) := by decide +kernel
theorem dX6_give_67 : decode cX6_give 67 = .ok (.imul, 1) := by decide +kernel
theorem dX6_give_68 : decode cX6_give 68 = .ok (.iconst 4, 1) := by decide +kernel
theorem dX6_give_69 : decode cX6_give 69 = .ok (.iadd, 1) := by decide +kernel
theorem dX6_give_70 : decode cX6_give 70 = .ok (.iload_n 1, 1) := by decide +kernel
theorem dX6_give_71 : decode cX6_give 71 = .ok (.iastore, 1) := by decide +kernel
theorem dX6_give_72 : decode cX6_give 72 = .ok (.aload_n 0, 1) := by decide +kernel
theorem dX6_give_73 : decode cX6_give 73 = .ok (.iload_n 1, 1) := by decide +kernel
theorem dX6_give_74 : decode cX6_give 74 = .ok (.iload_n 2, 1) := by decide +kernel
theorem dX6_give_75 : decode cX6_give 75 = .ok (.invokevirtual 99, 3) := by decide +kernel
theorem dX6_give_78 : decode cX6_give 78 = .ok (.ireturn, 1) := by decide +kernel
theorem dX6_back_0 : decode cX6_back 0 = .ok (.aload_n 0, 1) := by decide +kernel
theorem dX6_back_1 : decode cX6_back 1 = .ok (.iload_n 1, 1) := by decide +kernel
theorem dX6_back_2 : decode cX6_back 2 = .ok (.invokevirtual 119, 3) := by decide +kernel
theorem dX6_back_5 : decode cX6_back 5 = .ok (.ifCond .ne 6, 3) := by decide +kernel
theorem dX6_back_8 : decode cX6_back 8 = .ok (.bipush (-101), 2) := by decide +kernel
theorem dX6_back_10 : decode cX6_back 10 = .ok (.ireturn, 1) := by decide +kernel
theorem dX6_back_11 : decode cX6_back 11 = .ok (.aload_n 0, 1) := by decide +kernel
theorem dX6_back_12 : decode cX6_back 12 = .ok (.getfield 13, 3) := by decide +kernel
theorem dX6_back_15 : decode cX6_back 15 = .ok (.iconst 4, 1) := by decide +kernel
theorem dX6_back_16 : decode cX6_back 16 = .ok (.iload_n 1, 1) := by decide +kernel
theorem dX6_back_17 : decode cX6_back 17 = .ok (.imul, 1) := by decide +kernel
theorem dX6_back_18 : decode cX6_back 18 = .ok (.iconst 3, 1) := by decide +kernel
theorem dX6_back_19 : decode cX6_back 19 = .ok (.iadd, 1) := by decide +kernel
theorem dX6_back_20 : decode cX6_back 20 = .ok (.iaload, 1) := by decide +kernel
theorem dX6_back_21 : decode cX6_back 21 = .ok (.istore_n 2, 1) := by decide +kernel
theorem dX6_back_22 : decode cX6_back 22 = .ok (.iload_n 2, 1) := by decide +kernel
theorem dX6_back_23 : decode cX6_back 23 = .ok (.iconst (-1), 1) := by decide +kernel
theorem dX6_back_24 : decode cX6_back 24 = .ok (.if_icmp .ne 6, 3) := by decide +kernel
theorem dX6_back_27 : decode cX6_back 27 = .ok (.bipush (-103), 2) := by decide +kernel
theorem dX6_back_29 : decode cX6_back 29 = .ok (.ireturn, 1) := by decide +kernel
theorem dX6_back_30 : decode cX6_back 30 = .ok (.aload_n 0, 1) := by decide +kernel
theorem dX6_back_31 : decode cX6_back 31 = .ok (.getfield 13, 3) := by decide +kernel
theorem dX6_back_34 : decode cX6_back 34 = .ok (.iconst 4, 1) := by decide +kernel
theorem dX6_back_35 : decode cX6_back 35 = .ok (.iload_n 1, 1) := by decide +kernel
theorem dX6_back_36 : decode cX6_back 36 = .ok (.imul, 1) := by decide +kernel
theorem dX6_back_37 : decode cX6_back 37 = .ok (.iconst 3, 1) := by decide +kernel
theorem dX6_back_38 : decode cX6_back 38 = .ok (.iadd, 1) := by decide +kernel
theorem dX6_back_39 : decode cX6_back 39 = .ok (.iconst (-1), 1) := by decide +kernel
theorem dX6_back_40 : decode cX6_back 40 = .ok (.iastore, 1) := by decide +kernel
theorem dX6_back_41 : decode cX6_back 41 = .ok (.aload_n 0, 1) := by decide +kernel
theorem dX6_back_42 : decode cX6_back 42 = .ok (.getfield 16, 3) := by decide +kernel
theorem dX6_back_45 : decode cX6_back 45 = .ok (.iconst 5, 1) := by decide +kernel
theorem dX6_back_46 : decode cX6_back 46 = .ok (.iload_n 2, 1) := by decide +kernel
theorem dX6_back_47 : decode cX6_back 47 = .ok (.imul, 1) := by decide +kernel
theorem dX6_back_48 : decode cX6_back 48 = .ok (.iconst 4, 1) := by decide +kernel
theorem dX6_back_49 : decode cX6_back 49 = .ok (.iadd, 1) := by decide +kernel
theorem dX6_back_50 : decode cX6_back 50 = .ok (.iconst (-1), 1) := by decide +kernel
theorem dX6_back_51 : decode cX6_back 51 = .ok (.iastore, 1) := by decide +kernel
theorem dX6_back_52 : decode cX6_back 52 = .ok (.iload_n 2, 1) := by decide +kernel
theorem dX6_back_53 : decode cX6_back 53 = .ok (.ireturn, 1) := by decide +kernel
theorem dX6_remember_0 : decode cX6_remember 0 = .ok (.aload_n 0, 1) := by decide +kernel
theorem dX6_remember_1 : decode cX6_remember 1 = .ok (.iload_n 1, 1) := by decide +kernel
theorem dX6_remember_2 : decode cX6_remember 2 = .ok (.invokevirtual 131, 3) := by decide +kernel
theorem dX6_remember_5 : decode cX6_remember 5 = .ok (.ifCond .ne 6, 3) := by decide +kernel
theorem dX6_remember_8 : decode cX6_remember 8 = .ok (.bipush (-101), 2) := by decide +kernel
theorem dX6_remember_10 : decode cX6_remember 10 = .ok (.ireturn, 1) := by decide +kernel
theorem dX6_remember_11 : decode cX6_remember 11 = .ok (.iload_n 2, 1) := by decide +kernel
theorem dX6_remember_12 : decode cX6_remember 12 = .ok (.i2l, 1) := by decide +kernel
theorem dX6_remember_13 : decode cX6_remember 13 = .ok (.lconst 0, 1) := by decide +kernel
theorem dX6_remember_14 : decode cX6_remember 14 = .ok (.ldc2_w 139, 3) := by decide +kernel
theorem dX6_remember_17 : decode cX6_remember 17 = .ok (.invokestatic 49, 3) := by decide +kernel
theorem dX6_remember_20 : decode cX6_remember 20 = .ok (.ifCond .eq 17, 3) := by decide +kernel
theorem dX6_remember_23 : decode cX6_remember 23 = .ok (.iload_n 3, 1) := by decide +kernel
theorem dX6_remember_24 : decode cX6_remember 24 = .ok (.i2l, 1) := by decide +kernel
theorem dX6_remember_25 : decode cX6_remember 25 = .ok (.lconst 0, 1) := by decide +kernel
theorem dX6_remember_26 : decode cX6_remember 26 = .ok (.iload_n 2, 1) := by decide +kernel
theorem dX6_remember_27 : decode cX6_remember 27 = .ok (.invokestatic 59, 3) := by decide +kernel
theorem dX6_remember_30 : decode cX6_remember 30 = .ok (.i2l, 1) := by decide +kernel
theorem dX6_remember_31 : decode cX6_remember 31 = .ok (.invokestatic 49, 3) := by decide +kernel
theorem dX6_remember_34 : decode cX6_remember 34 = .ok (.ifCond .ne 6, 3) := by decide +kernel
theorem dX6_remember_37 : decode cX6_remember 37 = .ok (.bipush (-102), 2) := by decide +kernel
theorem dX6_remember_39 : decode cX6_remember 39 = .ok (.ireturn, 1) := by decide +kernel
theorem dX6_remember_40 : decode cX6_remember 40 = .ok (.aload_n 0, 1) := by decide +kernel
theorem dX6_remember_41 : decode cX6_remember 41 = .ok (.getfield 16, 3) := by decide +kernel
theorem dX6_remember_44 : decode cX6_remember 44 = .ok (.iconst 5, 1) := by decide +kernel
theorem dX6_remember_45 : decode cX6_remember 45 = .ok (.iload_n 1, 1) := by decide +kernel
theorem dX6_remember_46 : decode cX6_remember 46 = .ok (.imul, 1) := by decide +kernel
theorem dX6_remember_47 : decode cX6_remember 47 = .ok (.iload_n 2, 1) := by decide +kernel
theorem dX6_remember_48 : decode cX6_remember 48 = .ok (.iadd, 1) := by decide +kernel
theorem dX6_remember_49 : decode cX6_remember 49 = .ok (.iaload, 1) := by decide +kernel
theorem dX6_remember_50 : decode cX6_remember 50 = .ok (.istore 4, 2) := by decide +kernel
theorem dX6_remember_52 : decode cX6_remember 52 = .ok (.aload_n 0, 1) := by decide +kernel
theorem dX6_remember_53 : decode cX6_remember 53 = .ok (.getfield 16, 3) := by decide +kernel
theorem dX6_remember_56 : decode cX6_remember 56 = .ok (.iconst 5, 1) := by decide +kernel
theorem dX6_remember_57 : decode cX6_remember 57 = .ok (.iload_n 1, 1) := by decide +kernel
theorem dX6_remember_58 : decode cX6_remember 58 = .ok (.imul, 1) := by decide +kernel
theorem dX6_remember_59 : decode cX6_remember 59 = .ok (.iload_n 2, 1) := by decide +kernel
theorem dX6_remember_60 : decode cX6_remember 60 = .ok (.iadd, 1) := by decide +kernel
theorem dX6_remember_61 : decode cX6_remember 61 = .ok (.iload_n 3, 1) := by decide +kernel
theorem dX6_remember_62 : decode cX6_remember 62 = .ok (.iastore, 1) := by decide +kernel
theorem dX6_remember_63 : decode cX6_remember 63 = .ok (.iload 4, 2) := by decide +kernel
theorem dX6_remember_65 : decode cX6_remember 65 = .ok (.ireturn, 1) := by decide +kernel
theorem dX6_givenMany_0 : decode cX6_givenMany 0 = .ok (.iconst 0, 1) := by decide +kernel
theorem dX6_givenMany_1 : decode cX6_givenMany 1 = .ok (.istore_n 1, 1) := by decide +kernel
theorem dX6_givenMany_2 : decode cX6_givenMany 2 = .ok (.iconst 0, 1) := by decide +kernel
theorem dX6_givenMany_3 : decode cX6_givenMany 3 = .ok (.istore_n 2, 1) := by decide +kernel
theorem dX6_givenMany_4 : decode cX6_givenMany 4 = .ok (.iload_n 2, 1) := by decide +kernel
theorem dX6_givenMany_5 : decode cX6_givenMany 5 = .ok (.aload_n 0, 1) := by decide +kernel
theorem dX6_givenMany_6 : decode cX6_givenMany 6 = .ok (.getfield 74, 3) := by decide +kernel
theorem dX6_givenMany_9 : decode cX6_givenMany 9 = .ok (.if_icmp .ge 31, 3) := by decide +kernel
theorem dX6_givenMany_12 : decode cX6_givenMany 12 = .ok (.iload_n 1, 1) := by decide +kernel
theorem dX6_givenMany_13 : decode cX6_givenMany 13 = .ok (.aload_n 0, 1) := by decide +kernel
theorem dX6_givenMany_14 : decode cX6_givenMany 14 = .ok (.getfield 13, 3) := by decide +kernel
theorem dX6_givenMany_17 : decode cX6_givenMany 17 = .ok (.iconst 4, 1) := by decide +kernel
theorem dX6_givenMany_18 : decode cX6_givenMany 18 = .ok (.iload_n 2, 1) := by decide +kernel
theorem dX6_givenMany_19 : decode cX6_givenMany 19 = .ok (.imul, 1) := by decide +kernel
theorem dX6_givenMany_20 : decode cX6_givenMany 20 = .ok (.iconst 3, 1) := by decide +kernel
theorem dX6_givenMany_21 : decode cX6_givenMany 21 = .ok (.iadd, 1) := by decide +kernel
theorem dX6_givenMany_22 : decode cX6_givenMany 22 = .ok (.iaload, 1) := by decide +kernel
theorem dX6_givenMany_23 : decode cX6_givenMany 23 = .ok (.iconst (-1), 1) := by decide +kernel
theorem dX6_givenMany_24 : decode cX6_givenMany 24 = .ok (.if_icmp .ne 7, 3) := by decide +kernel
theorem dX6_givenMany_27 : decode cX6_givenMany 27 = .ok (.iconst 0, 1) := by decide +kernel
theorem dX6_givenMany_28 : decode cX6_givenMany 28 = .ok (.goto 4, 3) := by decide +kernel
theorem dX6_givenMany_31 : decode cX6_givenMany 31 = .ok (.iconst 1, 1) := by decide +kernel
theorem dX6_givenMany_32 : decode cX6_givenMany 32 = .ok (.iadd, 1) := by decide +kernel
theorem dX6_givenMany_33 : decode cX6_givenMany 33 = .ok (.istore_n 1, 1) := by decide +kernel
theorem dX6_givenMany_34 : decode cX6_givenMany 34 = .ok (.iinc 2 1, 3) := by decide +kernel
theorem dX6_givenMany_37 : decode cX6_givenMany 37 = .ok (.goto (-33), 3) := by decide +kernel
theorem dX6_givenMany_40 : decode cX6_givenMany 40 = .ok (.iload_n 1, 1) := by decide +kernel
theorem dX6_givenMany_41 : decode cX6_givenMany 41 = .ok (.ireturn, 1) := by decide +kernel
theorem dX6_six_0 : decode cX6_six 0 = .ok (.aload_n 0, 1) := by decide +kernel
theorem dX6_six_1 : decode cX6_six 1 = .ok (.invokevirtual 141, 3) := by decide +kernel
theorem dX6_six_4 : decode cX6_six 4 = .ok (.ifCond .eq 6, 3) := by decide +kernel
theorem dX6_six_7 : decode cX6_six 7 = .ok (.bipush (-103), 2) := by decide +kernel
theorem dX6_six_9 : decode cX6_six 9 = .ok (.ireturn, 1) := by decide +kernel
theorem dX6_six_10 : decode cX6_six 10 = .ok (.aload_n 0, 1) := by decide +kernel
theorem dX6_six_11 : decode cX6_six 11 = .ok (.getfield 80, 3) := by decide +kernel
theorem dX6_six_14 : decode cX6_six 14 = .ok (.bipush 99, 2) := by decide +kernel
theorem dX6_six_16 : decode cX6_six 16 = .ok (.if_icmp .ne 6, 3) := by decide +kernel
theorem dX6_six_19 : decode cX6_six 19 = .ok (.bipush (-104), 2) := by decide +kernel
theorem dX6_six_21 : decode cX6_six 21 = .ok (.ireturn, 1) := by decide +kernel
theorem dX6_six_22 : decode cX6_six 22 = .ok (.aload_n 0, 1) := by decide +kernel
theorem dX6_six_23 : decode cX6_six 23 = .ok (.invokevirtual 145, 3) := by decide +kernel
theorem dX6_six_26 : decode cX6_six 26 = .ok (.istore_n 1, 1) := by decide +kernel
theorem dX6_six_27 : decode cX6_six 27 = .ok (.aload_n 0, 1) := by decide +kernel
theorem dX6_six_28 : decode cX6_six 28 = .ok (.dup, 1) := by decide +kernel
theorem dX6_six_29 : decode cX6_six 29 = .ok (.getfield 80, 3) := by decide +kernel
theorem dX6_six_32 : decode cX6_six 32 = .ok (.iconst 1, 1) := by decide +kernel
theorem dX6_six_33 : decode cX6_six 33 = .ok (.iadd, 1) := by decide +kernel
theorem dX6_six_34 : decode cX6_six 34 = .ok (.putfield 80, 3) := by decide +kernel
theorem dX6_six_37 : decode cX6_six 37 = .ok (.aload_n 0, 1) := by decide +kernel
theorem dX6_six_38 : decode cX6_six 38 = .ok (.dup, 1) := by decide +kernel
theorem dX6_six_39 : decode cX6_six 39 = .ok (.getfield 83, 3) := by decide +kernel
theorem dX6_six_42 : decode cX6_six 42 = .ok (.aload_n 0, 1) := by decide +kernel
theorem dX6_six_43 : decode cX6_six 43 = .ok (.getfield 74, 3) := by decide +kernel
theorem dX6_six_46 : decode cX6_six 46 = .ok (.iload_n 1, 1) := by decide +kernel
theorem dX6_six_47 : decode cX6_six 47 = .ok (.isub, 1) := by decide +kernel
theorem dX6_six_48 : decode cX6_six 48 = .ok (.iadd, 1) := by decide +kernel
theorem dX6_six_49 : decode cX6_six 49 = .ok (.putfield 83, 3) := by decide +kernel
theorem dX6_six_52 : decode cX6_six 52 = .ok (.aload_n 0, 1) := by decide +kernel
theorem dX6_six_53 : decode cX6_six 53 = .ok (.dup, 1) := by decide +kernel
theorem dX6_six_54 : decode cX6_six 54 = .ok (.getfield 86, 3) := by decide +kernel
theorem dX6_six_57 : decode cX6_six 57 = .ok (.aload_n 0, 1) := by decide +kernel
theorem dX6_six_58 : decode cX6_six 58 = .ok (.getfield 77, 3) := by decide +kernel
theorem dX6_six_61 : decode cX6_six 61 = .ok (.iload_n 1, 1) := by decide +kernel
theorem dX6_six_62 : decode cX6_six 62 = .ok (.isub, 1) := by decide +kernel
theorem dX6_six_63 : decode cX6_six 63 = .ok (.iadd, 1) := by decide +kernel
theorem dX6_six_64 : decode cX6_six 64 = .ok (.putfield 86, 3) := by decide +kernel
theorem dX6_six_67 : decode cX6_six 67 = .ok (.iconst 0, 1) := by decide +kernel
theorem dX6_six_68 : decode cX6_six 68 = .ok (.istore_n 2, 1) := by decide +kernel
theorem dX6_six_69 : decode cX6_six 69 = .ok (.iload_n 2, 1) := by decide +kernel
theorem dX6_six_70 : decode cX6_six 70 = .ok (.aload_n 0, 1) := by decide +kernel
theorem dX6_six_71 : decode cX6_six 71 = .ok (.getfield 74, 3) := by decide +kernel
theorem dX6_six_74 : decode cX6_six 74 = .ok (.if_icmp .ge 20, 3) := by decide +kernel
theorem dX6_six_77 : decode cX6_six 77 = .ok (.aload_n 0, 1) := by decide +kernel
theorem dX6_six_78 : decode cX6_six 78 = .ok (.getfield 13, 3) := by decide +kernel
theorem dX6_six_81 : decode cX6_six 81 = .ok (.iconst 4, 1) := by decide +kernel
theorem dX6_six_82 : decode cX6_six 82 = .ok (.iload_n 2, 1) := by decide +kernel
theorem dX6_six_83 : decode cX6_six 83 = .ok (.imul, 1) := by decide +kernel
theorem dX6_six_84 : decode cX6_six 84 = .ok (.iconst 3, 1) := by decide +kernel
theorem dX6_six_85 : decode cX6_six 85 = .ok (.iadd, 1) := by decide +kernel
theorem dX6_six_86 : decode cX6_six 86 = .ok (.iconst (-1), 1) := by decide +kernel
theorem dX6_six_87 : decode cX6_six 87 = .ok (.iastore, 1) := by decide +kernel
theorem dX6_six_88 : decode cX6_six 88 = .ok (.iinc 2 1, 3) := by decide +kernel
theorem dX6_six_91 : decode cX6_six 91 = .ok (.goto (-22), 3) := by decide +kernel
theorem dX6_six_94 : decode cX6_six 94 = .ok (.iconst 0, 1) := by decide +kernel
theorem dX6_six_95 : decode cX6_six 95 = .ok (.istore_n 2, 1) := by decide +kernel
theorem dX6_six_96 : decode cX6_six 96 = .ok (.iload_n 2, 1) := by decide +kernel
theorem dX6_six_97 : decode cX6_six 97 = .ok (.aload_n 0, 1) := by decide +kernel
theorem dX6_six_98 : decode cX6_six 98 = .ok (.getfield 77, 3) := by decide +kernel
theorem dX6_six_101 : decode cX6_six 101 = .ok (.if_icmp .ge 20, 3) := by decide +kernel
theorem dX6_six_104 : decode cX6_six 104 = .ok (.aload_n 0, 1) := by decide +kernel
theorem dX6_six_105 : decode cX6_six 105 = .ok (.getfield 16, 3) := by decide +kernel
theorem dX6_six_108 : decode cX6_six 108 = .ok (.iconst 5, 1) := by decide +kernel
theorem dX6_six_109 : decode cX6_six 109 = .ok (.iload_n 2, 1) := by decide +kernel
theorem dX6_six_110 : decode cX6_six 110 = .ok (.imul, 1) := by decide +kernel
theorem dX6_six_111 : decode cX6_six 111 = .ok (.iconst 4, 1) := by decide +kernel
theorem dX6_six_112 : decode cX6_six 112 = .ok (.iadd, 1) := by decide +kernel
theorem dX6_six_113 : decode cX6_six 113 = .ok (.iconst (-1), 1) := by decide +kernel
theorem dX6_six_114 : decode cX6_six 114 = .ok (.iastore, 1) := by decide +kernel
theorem dX6_six_115 : decode cX6_six 115 = .ok (.iinc 2 1, 3) := by decide +kernel
theorem dX6_six_118 : decode cX6_six 118 = .ok (.goto (-22), 3) := by decide +kernel
theorem dX6_six_121 : decode cX6_six 121 = .ok (.aload_n 0, 1) := by decide +kernel
theorem dX6_six_122 : decode cX6_six 122 = .ok (.getfield 74, 3) := by decide +kernel
theorem dX6_six_125 : decode cX6_six 125 = .ok (.iload_n 1, 1) := by decide +kernel
theorem dX6_six_126 : decode cX6_six 126 = .ok (.isub, 1) := by decide +kernel
theorem dX6_six_127 : decode cX6_six 127 = .ok (.ireturn, 1) := by decide +kernel
theorem dX6_layRow_0 : decode cX6_layRow 0 = .ok (.iload_n 1, 1) := by decide +kernel
theorem dX6_layRow_1 : decode cX6_layRow 1 = .ok (.istore_n 2, 1) := by decide +kernel
theorem dX6_layRow_2 : decode cX6_layRow 2 = .ok (.iconst 0, 1) := by decide +kernel
theorem dX6_layRow_3 : decode cX6_layRow 3 = .ok (.istore_n 3, 1) := by decide +kernel
theorem dX6_layRow_4 : decode cX6_layRow 4 = .ok (.iconst 1, 1) := by decide +kernel
theorem dX6_layRow_5 : decode cX6_layRow 5 = .ok (.istore 4, 2) := by decide +kernel
theorem dX6_layRow_7 : decode cX6_layRow 7 = .ok (.aload_n 0, 1) := by decide +kernel
theorem dX6_layRow_8 : decode cX6_layRow 8 = .ok (.getfield 77, 3) := by decide +kernel
theorem dX6_layRow_11 : decode cX6_layRow 11 = .ok (.iconst 1, 1) := by decide +kernel
theorem dX6_layRow_12 : decode cX6_layRow 12 = .ok (.isub, 1) := by decide +kernel
theorem dX6_layRow_13 : decode cX6_layRow 13 = .ok (.istore 5, 2) := by decide +kernel
theorem dX6_layRow_15 : decode cX6_layRow 15 = .ok (.iload 5, 2) := by decide +kernel
theorem dX6_layRow_17 : decode cX6_layRow 17 = .ok (.ifCond .lt 147, 3) := by decide +kernel
theorem dX6_layRow_20 : decode cX6_layRow 20 = .ok (.aload_n 0, 1) := by decide +kernel
theorem dX6_layRow_21 : decode cX6_layRow 21 = .ok (.getfield 22, 3) := by decide +kernel
theorem dX6_layRow_24 : decode cX6_layRow 24 = .ok (.iload 5, 2) := by decide +kernel
theorem dX6_layRow_26 : decode cX6_layRow 26 = .ok (.iload_n 2, 1) := by decide +kernel
theorem dX6_layRow_27 : decode cX6_layRow 27 = .ok (.aload_n 0, 1) := by decide +kernel
theorem dX6_layRow_28 : decode cX6_layRow 28 = .ok (.getfield 74, 3) := by decide +kernel
theorem dX6_layRow_31 : decode cX6_layRow 31 = .ok (.iconst 1, 1) := by decide +kernel
theorem dX6_layRow_32 : decode cX6_layRow 32 = .ok (.iadd, 1) := by decide +kernel
theorem dX6_layRow_33 : decode cX6_layRow 33 = .ok (.irem, 1) := by decide +kernel
theorem dX6_layRow_34 : decode cX6_layRow 34 = .ok (.iconst 1, 1) := by decide +kernel
theorem dX6_layRow_35 : decode cX6_layRow 35 = .ok (.isub, 1) := by decide +kernel
theorem dX6_layRow_36 : decode cX6_layRow 36 = .ok (.iastore, 1) := by decide +kernel
theorem dX6_layRow_37 : decode cX6_layRow 37 = .ok (.iload_n 2, 1) := by decide +kernel
theorem dX6_layRow_38 : decode cX6_layRow 38 = .ok (.aload_n 0, 1) := by decide +kernel
theorem dX6_layRow_39 : decode cX6_layRow 39 = .ok (.getfield 74, 3) := by decide +kernel
theorem dX6_layRow_42 : decode cX6_layRow 42 = .ok (.iconst 1, 1) := by decide +kernel
theorem dX6_layRow_43 : decode cX6_layRow 43 = .ok (.iadd, 1) := by decide +kernel
theorem dX6_layRow_44 : decode cX6_layRow 44 = .ok (.idiv, 1) := by decide +kernel
theorem dX6_layRow_45 : decode cX6_layRow 45 = .ok (.istore_n 2, 1) := by decide +kernel
theorem dX6_layRow_46 : decode cX6_layRow 46 = .ok (.aload_n 0, 1) := by decide +kernel
theorem dX6_layRow_47 : decode cX6_layRow 47 = .ok (.getfield 22, 3) := by decide +kernel
theorem dX6_layRow_50 : decode cX6_layRow 50 = .ok (.iload 5, 2) := by decide +kernel
theorem dX6_layRow_52 : decode cX6_layRow 52 = .ok (.iaload, 1) := by decide +kernel
theorem dX6_layRow_53 : decode cX6_layRow 53 = .ok (.iconst (-1), 1) := by decide +kernel
theorem dX6_layRow_54 : decode cX6_layRow 54 = .ok (.if_icmp .eq 104, 3) := by decide +kernel
theorem dX6_layRow_57 : decode cX6_layRow 57 = .ok (.aload_n 0, 1) := by decide +kernel
theorem dX6_layRow_58 : decode cX6_layRow 58 = .ok (.getfield 13, 3) := by decide +kernel
theorem dX6_layRow_61 : decode cX6_layRow 61 = .ok (.iconst 4, 1) := by decide +kernel
theorem dX6_layRow_62 : decode cX6_layRow 62 = .ok (.aload_n 0, 1) := by decide +kernel
theorem dX6_layRow_63 : decode cX6_layRow 63 = .ok (.getfield 22, 3) := by decide +kernel
theorem dX6_layRow_66 : decode cX6_layRow 66 = .ok (.iload 5, 2) := by decide +kernel
theorem dX6_layRow_68 : decode cX6_layRow 68 = .ok (.iaload, 1) := by decide +kernel
theorem dX6_layRow_69 : decode cX6_layRow 69 = .ok (.imul, 1) := by decide +kernel
theorem dX6_layRow_70 : decode cX6_layRow 70 = .ok (.iconst 3, 1) := by decide +kernel
theorem dX6_layRow_71 : decode cX6_layRow 71 = .ok (.iadd, 1) := by decide +kernel
theorem dX6_layRow_72 : decode cX6_layRow 72 = .ok (.iaload, 1) := by decide +kernel
theorem dX6_layRow_73 : decode cX6_layRow 73 = .ok (.iconst (-1), 1) := by decide +kernel
theorem dX6_layRow_74 : decode cX6_layRow 74 = .ok (.if_icmp .ne 22, 3) := by decide +kernel
theorem dX6_layRow_77 : decode cX6_layRow 77 = .ok (.aload_n 0, 1) := by decide +kernel
theorem dX6_layRow_78 : decode cX6_layRow 78 = .ok (.getfield 16, 3) := by decide +kernel
theorem dX6_layRow_81 : decode cX6_layRow 81 = .ok (.iconst 5, 1) := by decide +kernel
theorem dX6_layRow_82 : decode cX6_layRow 82 = .ok (.iload 5, 2) := by decide +kernel
theorem dX6_layRow_84 : decode cX6_layRow 84 = .ok (.imul, 1) := by decide +kernel
theorem dX6_layRow_85 : decode cX6_layRow 85 = .ok (.iconst 4, 1) := by decide +kernel
theorem dX6_layRow_86 : decode cX6_layRow 86 = .ok (.iadd, 1) := by decide +kernel
theorem dX6_layRow_87 : decode cX6_layRow 87 = .ok (.iaload, 1) := by decide +kernel
theorem dX6_layRow_88 : decode cX6_layRow 88 = .ok (.iconst (-1), 1) := by decide +kernel
theorem dX6_layRow_89 : decode cX6_layRow 89 = .ok (.if_icmp .ne 7, 3) := by decide +kernel
theorem dX6_layRow_92 : decode cX6_layRow 92 = .ok (.iconst 1, 1) := by decide +kernel
theorem dX6_layRow_93 : decode cX6_layRow 93 = .ok (.goto 4, 3) := by decide +kernel
theorem dX6_layRow_96 : decode cX6_layRow 96 = .ok (.iconst 0, 1) := by decide +kernel
theorem dX6_layRow_97 : decode cX6_layRow 97 = .ok (.istore 6, 2) := by decide +kernel
theorem dX6_layRow_99 : decode cX6_layRow 99 = .ok (.iload 4, 2) := by decide +kernel
theorem dX6_layRow_101 : decode cX6_layRow 101 = .ok (.ifCond .eq 42, 3) := by decide +kernel
theorem dX6_layRow_104 : decode cX6_layRow 104 = .ok (.iload 6, 2) := by decide +kernel
theorem dX6_layRow_106 : decode cX6_layRow 106 = .ok (.ifCond .eq 37, 3) := by decide +kernel
theorem dX6_layRow_109 : decode cX6_layRow 109 = .ok (.aload_n 0, 1) := by decide +kernel
theorem dX6_layRow_110 : decode cX6_layRow 110 = .ok (.aload_n 0, 1) := by decide +kernel
theorem dX6_layRow_111 : decode cX6_layRow 111 = .ok (.getfield 22, 3) := by decide +kernel
theorem dX6_layRow_114 : decode cX6_layRow 114 = .ok (.iload 5, 2) := by decide +kernel
theorem dX6_layRow_116 : decode cX6_layRow 116 = .ok (.iaload, 1) := by decide +kernel
theorem dX6_layRow_117 : decode cX6_layRow 117 = .ok (.iload 5, 2) := by decide +kernel
theorem dX6_layRow_119 : decode cX6_layRow 119 = .ok (.invokevirtual 107, 3) := by decide +kernel
theorem dX6_layRow_122 : decode cX6_layRow 122 = .ok (.ifCond .eq 21, 3) := by decide +kernel
theorem dX6_layRow_125 : decode cX6_layRow 125 = .ok (.iload_n 3, 1) := by decide +kernel
theorem dX6_layRow_126 : decode cX6_layRow 126 = .ok (.aload_n 0, 1) := by decide +kernel
theorem dX6_layRow_127 : decode cX6_layRow 127 = .ok (.getfield 22, 3) := by decide +kernel
theorem dX6_layRow_130 : decode cX6_layRow 130 = .ok (.iload 5, 2) := by decide +kernel
theorem dX6_layRow_132 : decode cX6_layRow 132 = .ok (.iaload, 1) := by decide +kernel
theorem dX6_layRow_133 : decode cX6_layRow 133 = .ok (.ishr, 1) := by decide +kernel
theorem dX6_layRow_134 : decode cX6_layRow 134 = .ok (.iconst 1, 1) := by decide +kernel
theorem dX6_layRow_135 : decode cX6_layRow 135 = .ok (.iand, 1) := by decide +kernel
theorem dX6_layRow_136 : decode cX6_layRow 136 = .ok (.ifCond .ne 7, 3) := by decide +kernel
theorem dX6_layRow_139 : decode cX6_layRow 139 = .ok (.iconst 1, 1) := by decide +kernel
theorem dX6_layRow_140 : decode cX6_layRow 140 = .ok (.goto 4, 3) := by decide +kernel
theorem dX6_layRow_143 : decode cX6_layRow 143 = .ok (.iconst 0, 1) := by decide +kernel
theorem dX6_layRow_144 : decode cX6_layRow 144 = .ok (.istore 4, 2) := by decide +kernel
theorem dX6_layRow_146 : decode cX6_layRow 146 = .ok (.iload_n 3, 1) := by decide +kernel
theorem dX6_layRow_147 : decode cX6_layRow 147 = .ok (.iconst 1, 1) := by decide +kernel
theorem dX6_layRow_148 : decode cX6_layRow 148 = .ok (.aload_n 0, 1) := by decide +kernel
theorem dX6_layRow_149 : decode cX6_layRow 149 = .ok (.getfield 22, 3) := by decide +kernel
theorem dX6_layRow_152 : decode cX6_layRow 152 = .ok (.iload 5, 2) := by decide +kernel
theorem dX6_layRow_154 : decode cX6_layRow 154 = .ok (.iaload, 1) := by decide +kernel
theorem dX6_layRow_155 : decode cX6_layRow 155 = .ok (.ishl, 1) := by decide +kernel
theorem dX6_layRow_156 : decode cX6_layRow 156 = .ok (.ior, 1) := by decide +kernel
theorem dX6_layRow_157 : decode cX6_layRow 157 = .ok (.istore_n 3, 1) := by decide +kernel
theorem dX6_layRow_158 : decode cX6_layRow 158 = .ok (.iinc 5 (-1), 3) := by decide +kernel
theorem dX6_layRow_161 : decode cX6_layRow 161 = .ok (.goto (-146), 3) := by decide +kernel
theorem dX6_layRow_164 : decode cX6_layRow 164 = .ok (.iload 4, 2) := by decide +kernel
theorem dX6_layRow_166 : decode cX6_layRow 166 = .ok (.ireturn, 1) := by decide +kernel
theorem dX6_matchOf_0 : decode cX6_matchOf 0 = .ok (.iconst 1, 1) := by decide +kernel
theorem dX6_matchOf_1 : decode cX6_matchOf 1 = .ok (.istore_n 2, 1) := by decide +kernel
theorem dX6_matchOf_2 : decode cX6_matchOf 2 = .ok (.iconst 0, 1) := by decide +kernel
theorem dX6_matchOf_3 : decode cX6_matchOf 3 = .ok (.istore_n 3, 1) := by decide +kernel
theorem dX6_matchOf_4 : decode cX6_matchOf 4 = .ok (.iload_n 3, 1) := by decide +kernel
theorem dX6_matchOf_5 : decode cX6_matchOf 5 = .ok (.aload_n 0, 1) := by decide +kernel
theorem dX6_matchOf_6 : decode cX6_matchOf 6 = .ok (.getfield 77, 3) := by decide +kernel
theorem dX6_matchOf_9 : decode cX6_matchOf 9 = .ok (.if_icmp .ge 18, 3) := by decide +kernel
theorem dX6_matchOf_12 : decode cX6_matchOf 12 = .ok (.iload_n 2, 1) := by decide +kernel
theorem dX6_matchOf_13 : decode cX6_matchOf 13 = .ok (.aload_n 0, 1) := by decide +kernel
theorem dX6_matchOf_14 : decode cX6_matchOf 14 = .ok (.getfield 74, 3) := by decide +kernel
theorem dX6_matchOf_17 : decode cX6_matchOf 17 = .ok (.iconst 1, 1) := by decide +kernel
theorem dX6_matchOf_18 : decode cX6_matchOf 18 = .ok (.iadd, 1) := by decide +kernel
theorem dX6_matchOf_19 : decode cX6_matchOf 19 = .ok (.imul, 1) := by decide +kernel
theorem dX6_matchOf_20 : decode cX6_matchOf 20 = .ok (.istore_n 2, 1) := by decide +kernel
theorem dX6_matchOf_21 : decode cX6_matchOf 21 = .ok (.iinc 3 1, 3) := by decide +kernel
theorem dX6_matchOf_24 : decode cX6_matchOf 24 = .ok (.goto (-20), 3) := by decide +kernel
theorem dX6_matchOf_27 : decode cX6_matchOf 27 = .ok (.iconst (-1), 1) := by decide +kernel
theorem dX6_matchOf_28 : decode cX6_matchOf 28 = .ok (.istore_n 3, 1) := by decide +kernel
theorem dX6_matchOf_29 : decode cX6_matchOf 29 = .ok (.iconst 0, 1) := by decide +kernel
theorem dX6_matchOf_30 : decode cX6_matchOf 30 = .ok (.istore 4, 2) := by decide +kernel
theorem dX6_matchOf_32 : decode cX6_matchOf 32 = .ok (.iconst 0, 1) := by decide +kernel
theorem dX6_matchOf_33 : decode cX6_matchOf 33 = .ok (.istore 5, 2) := by decide +kernel
theorem dX6_matchOf_35 : decode cX6_matchOf 35 = .ok (.iload 5, 2) := by decide +kernel
theorem dX6_matchOf_37 : decode cX6_matchOf 37 = .ok (.iload_n 2, 1) := by decide +kernel
theorem dX6_matchOf_38 : decode cX6_matchOf 38 = .ok (.if_icmp .ge 133, 3) := by decide +kernel
theorem dX6_matchOf_41 : decode cX6_matchOf 41 = .ok (.aload_n 0, 1) := by decide +kernel
theorem dX6_matchOf_42 : decode cX6_matchOf 42 = .ok (.iload 5, 2) := by decide +kernel
theorem dX6_matchOf_44 : decode cX6_matchOf 44 = .ok (.invokevirtual 148, 3) := by decide +kernel
theorem dX6_matchOf_47 : decode cX6_matchOf 47 = .ok (.ifCond .eq 118, 3) := by decide +kernel
theorem dX6_matchOf_50 : decode cX6_matchOf 50 = .ok (.iconst 0, 1) := by decide +kernel
theorem dX6_matchOf_51 : decode cX6_matchOf 51 = .ok (.istore 6, 2) := by decide +kernel
theorem dX6_matchOf_53 : decode cX6_matchOf 53 = .ok (.iconst 0, 1) := by decide +kernel
theorem dX6_matchOf_54 : decode cX6_matchOf 54 = .ok (.istore 7, 2) := by decide +kernel
theorem dX6_matchOf_56 : decode cX6_matchOf 56 = .ok (.iconst 0, 1) := by decide +kernel
theorem dX6_matchOf_57 : decode cX6_matchOf 57 = .ok (.istore 8, 2) := by decide +kernel
theorem dX6_matchOf_59 : decode cX6_matchOf 59 = .ok (.iload 8, 2) := by decide +kernel
theorem dX6_matchOf_61 : decode cX6_matchOf 61 = .ok (.aload_n 0, 1) := by decide +kernel
theorem dX6_matchOf_62 : decode cX6_matchOf 62 = .ok (.getfield 77, 3) := by decide +kernel
theorem dX6_matchOf_65 : decode cX6_matchOf 65 = .ok (.if_icmp .ge 63, 3) := by decide +kernel
theorem dX6_matchOf_68 : decode cX6_matchOf 68 = .ok (.iload 6, 2) := by decide +kernel
theorem dX6_matchOf_70 : decode cX6_matchOf 70 = .ok (.aload_n 0, 1) := by decide +kernel
theorem dX6_matchOf_71 : decode cX6_matchOf 71 = .ok (.getfield 22, 3) := by decide +kernel
theorem dX6_matchOf_74 : decode cX6_matchOf 74 = .ok (.iload 8, 2) := by decide +kernel
theorem dX6_matchOf_76 : decode cX6_matchOf 76 = .ok (.iaload, 1) := by decide +kernel
theorem dX6_matchOf_77 : decode cX6_matchOf 77 = .ok (.iconst (-1), 1) := by decide +kernel
theorem dX6_matchOf_78 : decode cX6_matchOf 78 = .ok (.if_icmp .ne 7, 3) := by decide +kernel
theorem dX6_matchOf_81 : decode cX6_matchOf 81 = .ok (.iconst 0, 1) := by decide +kernel
theorem dX6_matchOf_82 : decode cX6_matchOf 82 = .ok (.goto 4, 3) := by decide +kernel
theorem dX6_matchOf_85 : decode cX6_matchOf 85 = .ok (.iconst 1, 1) := by decide +kernel
theorem dX6_matchOf_86 : decode cX6_matchOf 86 = .ok (.iadd, 1) := by decide +kernel
theorem dX6_matchOf_87 : decode cX6_matchOf 87 = .ok (.istore 6, 2) := by decide +kernel
theorem dX6_matchOf_89 : decode cX6_matchOf 89 = .ok (.iload 7, 2) := by decide +kernel
theorem dX6_matchOf_91 : decode cX6_matchOf 91 = .ok (.aload_n 0, 1) := by decide +kernel
theorem dX6_matchOf_92 : decode cX6_matchOf 92 = .ok (.getfield 22, 3) := by decide +kernel
theorem dX6_matchOf_95 : decode cX6_matchOf 95 = .ok (.iload 8, 2) := by decide +kernel
theorem dX6_matchOf_97 : decode cX6_matchOf 97 = .ok (.iaload, 1) := by decide +kernel
theorem dX6_matchOf_98 : decode cX6_matchOf 98 = .ok (.iconst (-1), 1) := by decide +kernel
theorem dX6_matchOf_99 : decode cX6_matchOf 99 = .ok (.if_icmp .ne 7, 3) := by decide +kernel
theorem dX6_matchOf_102 : decode cX6_matchOf 102 = .ok (.iconst 0, 1) := by decide +kernel
theorem dX6_matchOf_103 : decode cX6_matchOf 103 = .ok (.goto 16, 3) := by decide +kernel
theorem dX6_matchOf_106 : decode cX6_matchOf 106 = .ok (.aload_n 0, 1) := by decide +kernel
theorem dX6_matchOf_107 : decode cX6_matchOf 107 = .ok (.aload_n 0, 1) := by decide +kernel
theorem dX6_matchOf_108 : decode cX6_matchOf 108 = .ok (.getfield 22, 3) := by decide +kernel
theorem dX6_matchOf_111 : decode cX6_matchOf 111 = .ok (.iload 8, 2) := by decide +kernel
theorem dX6_matchOf_113 : decode cX6_matchOf 113 = .ok (.iaload, 1) := by decide +kernel
theorem dX6_matchOf_114 : decode cX6_matchOf 114 = .ok (.iload 8, 2) := by decide +kernel
theorem dX6_matchOf_116 : decode cX6_matchOf 116 = .ok (.invokevirtual 99, 3) := by decide +kernel
theorem dX6_matchOf_119 : decode cX6_matchOf 119 = .ok (.iadd, 1) := by decide +kernel
theorem dX6_matchOf_120 : decode cX6_matchOf 120 = .ok (.istore 7, 2) := by decide +kernel
theorem dX6_matchOf_122 : decode cX6_matchOf 122 = .ok (.iinc 8 1, 3) := by decide +kernel
theorem dX6_matchOf_125 : decode cX6_matchOf 125 = .ok (.goto (-66), 3) := by decide +kernel
theorem dX6_matchOf_128 : decode cX6_matchOf 128 = .ok (.iload 6, 2) := by decide +kernel
theorem dX6_matchOf_130 : decode cX6_matchOf 130 = .ok (.iload_n 3, 1) := by decide +kernel
theorem dX6_matchOf_131 : decode cX6_matchOf 131 = .ok (.if_icmp .gt 16, 3) := by decide +kernel
theorem dX6_matchOf_134 : decode cX6_matchOf 134 = .ok (.iload 6, 2) := by decide +kernel
theorem dX6_matchOf_136 : decode cX6_matchOf 136 = .ok (.iload_n 3, 1) := by decide +kernel
theorem dX6_matchOf_137 : decode cX6_matchOf 137 = .ok (.if_icmp .ne 28, 3) := by decide +kernel
theorem dX6_matchOf_140 : decode cX6_matchOf 140 = .ok (.iload 7, 2) := by decide +kernel
theorem dX6_matchOf_142 : decode cX6_matchOf 142 = .ok (.iload 4, 2) := by decide +kernel
theorem dX6_matchOf_144 : decode cX6_matchOf 144 = .ok (.if_icmp .ge 21, 3) := by decide +kernel
theorem dX6_matchOf_147 : decode cX6_matchOf 147 = .ok (.iload 6, 2) := by decide +kernel
theorem dX6_matchOf_149 : decode cX6_matchOf 149 = .ok (.istore_n 3, 1) := by decide +kernel
theorem dX6_matchOf_150 : decode cX6_matchOf 150 = .ok (.iload 7, 2) := by decide +kernel
theorem dX6_matchOf_152 : decode cX6_matchOf 152 = .ok (.istore 4, 2) := by decide +kernel
theorem dX6_matchOf_154 : decode cX6_matchOf 154 = .ok (.aload_n 0, 1) := by decide +kernel
theorem dX6_matchOf_155 : decode cX6_matchOf 155 = .ok (.getfield 22, 3) := by decide +kernel
theorem dX6_matchOf_158 : decode cX6_matchOf 158 = .ok (.aload_n 0, 1) := by decide +kernel
theorem dX6_matchOf_159 : decode cX6_matchOf 159 = .ok (.getfield 25, 3) := by decide +kernel
theorem dX6_matchOf_162 : decode cX6_matchOf 162 = .ok (.invokestatic 151, 3) := by decide +kernel
theorem dX6_matchOf_165 : decode cX6_matchOf 165 = .ok (.iinc 5 1, 3) := by decide +kernel
theorem dX6_matchOf_168 : decode cX6_matchOf 168 = .ok (.goto (-133), 3) := by decide +kernel
theorem dX6_matchOf_171 : decode cX6_matchOf 171 = .ok (.iload_n 1, 1) := by decide +kernel
theorem dX6_matchOf_172 : decode cX6_matchOf 172 = .ok (.ifCond .ne 7, 3) := by decide +kernel
theorem dX6_matchOf_175 : decode cX6_matchOf 175 = .ok (.iload_n 3, 1) := by decide +kernel
theorem dX6_matchOf_176 : decode cX6_matchOf 176 = .ok (.goto 37, 3) := by decide +kernel
theorem dX6_matchOf_179 : decode cX6_matchOf 179 = .ok (.iload_n 1, 1) := by decide +kernel
theorem dX6_matchOf_180 : decode cX6_matchOf 180 = .ok (.iconst 1, 1) := by decide +kernel
theorem dX6_matchOf_181 : decode cX6_matchOf 181 = .ok (.if_icmp .ne 8, 3) := by decide +kernel
theorem dX6_matchOf_184 : decode cX6_matchOf 184 = .ok (.iload 4, 2) := by decide +kernel
theorem dX6_matchOf_186 : decode cX6_matchOf 186 = .ok (.goto 27, 3) := by decide +kernel
theorem dX6_matchOf_189 : decode cX6_matchOf 189 = .ok (.iload_n 1, 1) := by decide +kernel
theorem dX6_matchOf_190 : decode cX6_matchOf 190 = .ok (.bipush 10, 2) := by decide +kernel
theorem dX6_matchOf_192 : decode cX6_matchOf 192 = .ok (.isub, 1) := by decide +kernel
theorem dX6_matchOf_193 : decode cX6_matchOf 193 = .ok (.aload_n 0, 1) := by decide +kernel
theorem dX6_matchOf_194 : decode cX6_matchOf 194 = .ok (.getfield 77, 3) := by decide +kernel
theorem dX6_matchOf_197 : decode cX6_matchOf 197 = .ok (.if_icmp .ge 15, 3) := by decide +kernel
theorem dX6_matchOf_200 : decode cX6_matchOf 200 = .ok (.aload_n 0, 1) := by decide +kernel
theorem dX6_matchOf_201 : decode cX6_matchOf 201 = .ok (.getfield 25, 3) := by decide +kernel
theorem dX6_matchOf_204 : decode cX6_matchOf 204 = .ok (.iload_n 1, 1) := by decide +kernel
theorem dX6_matchOf_205 : decode cX6_matchOf 205 = .ok (.bipush 10, 2) := by decide +kernel
theorem dX6_matchOf_207 : decode cX6_matchOf 207 = .ok (.isub, 1) := by decide +kernel
theorem dX6_matchOf_208 : decode cX6_matchOf 208 = .ok (.iaload, 1) := by decide +kernel
theorem dX6_matchOf_209 : decode cX6_matchOf 209 = .ok (.goto 4, 3) := by decide +kernel
theorem dX6_matchOf_212 : decode cX6_matchOf 212 = .ok (.iconst (-1), 1) := by decide +kernel
theorem dX6_matchOf_213 : decode cX6_matchOf 213 = .ok (.ireturn, 1) := by decide +kernel
theorem dX6_match_0 : decode cX6_match 0 = .ok (.iload_n 1, 1) := by decide +kernel
theorem dX6_match_1 : decode cX6_match 1 = .ok (.i2l, 1) := by decide +kernel
theorem dX6_match_2 : decode cX6_match 2 = .ok (.lconst 0, 1) := by decide +kernel
theorem dX6_match_3 : decode cX6_match 3 = .ok (.lconst 1, 1) := by decide +kernel
theorem dX6_match_4 : decode cX6_match 4 = .ok (.invokestatic 49, 3) := by decide +kernel
theorem dX6_match_7 : decode cX6_match 7 = .ok (.ifCond .ne 20, 3) := by decide +kernel
theorem dX6_match_10 : decode cX6_match 10 = .ok (.iload_n 1, 1) := by decide +kernel
theorem dX6_match_11 : decode cX6_match 11 = .ok (.i2l, 1) := by decide +kernel
theorem dX6_match_12 : decode cX6_match 12 = .ok (.ldc2_w 155, 3) := by decide +kernel
theorem dX6_match_15 : decode cX6_match 15 = .ok (.ldc2_w 157, 3) := by decide +kernel
theorem dX6_match_18 : decode cX6_match 18 = .ok (.invokestatic 49, 3) := by decide +kernel
theorem dX6_match_21 : decode cX6_match 21 = .ok (.ifCond .ne 6, 3) := by decide +kernel
theorem dX6_match_24 : decode cX6_match 24 = .ok (.bipush (-102), 2) := by decide +kernel
theorem dX6_match_26 : decode cX6_match 26 = .ok (.ireturn, 1) := by decide +kernel
theorem dX6_match_27 : decode cX6_match 27 = .ok (.aload_n 0, 1) := by decide +kernel
theorem dX6_match_28 : decode cX6_match 28 = .ok (.invokevirtual 141, 3) := by decide +kernel
theorem dX6_match_31 : decode cX6_match 31 = .ok (.ifCond .eq 8, 3) := by decide +kernel
theorem dX6_match_34 : decode cX6_match 34 = .ok (.bipush (-103), 2) := by decide +kernel
theorem dX6_match_36 : decode cX6_match 36 = .ok (.goto 8, 3) := by decide +kernel
theorem dX6_match_39 : decode cX6_match 39 = .ok (.aload_n 0, 1) := by decide +kernel
theorem dX6_match_40 : decode cX6_match 40 = .ok (.iload_n 1, 1) := by decide +kernel
theorem dX6_match_41 : decode cX6_match 41 = .ok (.invokevirtual 159, 3) := by decide +kernel
theorem dX6_match_44 : decode cX6_match 44 = .ok (.ireturn, 1) := by decide +kernel
theorem dX6_see_0 : decode cX6_see 0 = .ok (.aload_n 0, 1) := by decide +kernel
theorem dX6_see_1 : decode cX6_see 1 = .ok (.iload_n 1, 1) := by decide +kernel
theorem dX6_see_2 : decode cX6_see 2 = .ok (.invokevirtual 119, 3) := by decide +kernel
theorem dX6_see_5 : decode cX6_see 5 = .ok (.ifCond .eq 11, 3) := by decide +kernel
theorem dX6_see_8 : decode cX6_see 8 = .ok (.aload_n 0, 1) := by decide +kernel
theorem dX6_see_9 : decode cX6_see 9 = .ok (.iload_n 2, 1) := by decide +kernel
theorem dX6_see_10 : decode cX6_see 10 = .ok (.invokevirtual 131, 3) := by decide +kernel
theorem dX6_see_13 : decode cX6_see 13 = .ok (.ifCond .ne 6, 3) := by decide +kernel
theorem dX6_see_16 : decode cX6_see 16 = .ok (.bipush (-101), 2) := by decide +kernel
theorem dX6_see_18 : decode cX6_see 18 = .ok (.ireturn, 1) := by decide +kernel
theorem dX6_see_19 : decode cX6_see 19 = .ok (.aload_n 0, 1) := by decide +kernel
theorem dX6_see_20 : decode cX6_see 20 = .ok (.getfield 89, 3) := by decide +kernel
theorem dX6_see_23 : decode cX6_see 23 = .ok (.bipush 8, 2) := by decide +kernel
theorem dX6_see_25 : decode cX6_see 25 = .ok (.if_icmp .ne 6, 3) := by decide +kernel
theorem dX6_see_28 : decode cX6_see 28 = .ok (.bipush (-104), 2) := by decide +kernel
theorem dX6_see_30 : decode cX6_see 30 = .ok (.ireturn, 1) := by decide +kernel
theorem dX6_see_31 : decode cX6_see 31 = .ok (.aload_n 0, 1) := by decide +kernel
theorem dX6_see_32 : decode cX6_see 32 = .ok (.getfield 28, 3) := by decide +kernel
theorem dX6_see_35 : decode cX6_see 35 = .ok (.iconst 3, 1) := by decide +kernel
theorem dX6_see_36 : decode cX6_see 36 = .ok (.aload_n 0, 1) := by decide +kernel
theorem dX6_see_37 : decode cX6_see 37 = .ok (.getfield 89, 3) := by decide +kernel
theorem dX6_see_40 : decode cX6_see 40 = .ok (.imul, 1) := by decide +kernel
theorem dX6_see_41 : decode cX6_see 41 = .ok (.iload_n 1, 1) := by decide +kernel
theorem dX6_see_42 : decode cX6_see 42 = .ok (.iastore, 1) := by decide +kernel
theorem dX6_see_43 : decode cX6_see 43 = .ok (.aload_n 0, 1) := by decide +kernel
theorem dX6_see_44 : decode cX6_see 44 = .ok (.getfield 28, 3) := by decide +kernel
theorem dX6_see_47 : decode cX6_see 47 = .ok (.iconst 3, 1) := by decide +kernel
theorem dX6_see_48 : decode cX6_see 48 = .ok (.aload_n 0, 1) := by decide +kernel
theorem dX6_see_49 : decode cX6_see 49 = .ok (.getfield 89, 3) := by decide +kernel
theorem dX6_see_52 : decode cX6_see 52 = .ok (.imul, 1) := by decide +kernel
theorem dX6_see_53 : decode cX6_see 53 = .ok (.iconst 1, 1) := by decide +kernel
theorem dX6_see_54 : decode cX6_see 54 = .ok (.iadd, 1) := by decide +kernel
theorem dX6_see_55 : decode cX6_see 55 = .ok (.iload_n 2, 1) := by decide +kernel
theorem dX6_see_56 : decode cX6_see 56 = .ok (.iastore, 1) := by decide +kernel
theorem dX6_see_57 : decode cX6_see 57 = .ok (.aload_n 0, 1) := by decide +kernel
theorem dX6_see_58 : decode cX6_see 58 = .ok (.getfield 28, 3) := by decide +kernel
theorem dX6_see_61 : decode cX6_see 61 = .ok (.iconst 3, 1) := by decide +kernel
theorem dX6_see_62 : decode cX6_see 62 = .ok (.aload_n 0, 1) := by decide +kernel
theorem dX6_see_63 : decode cX6_see 63 = .ok (.getfield 89, 3) := by decide +kernel
theorem dX6_see_66 : decode cX6_see 66 = .ok (.imul, 1) := by decide +kernel
theorem dX6_see_67 : decode cX6_see 67 = .ok (.iconst 2, 1) := by decide +kernel
theorem dX6_see_68 : decode cX6_see 68 = .ok (.iadd, 1) := by decide +kernel
theorem dX6_see_69 : decode cX6_see 69 = .ok (.iload_n 3, 1) := by decide +kernel
theorem dX6_see_70 : decode cX6_see 70 = .ok (.ifCond .eq 7, 3) := by decide +kernel
theorem dX6_see_73 : decode cX6_see 73 = .ok (.iconst 1, 1) := by decide +kernel
theorem dX6_see_74 : decode cX6_see 74 = .ok (.goto 4, 3) := by decide +kernel
theorem dX6_see_77 : decode cX6_see 77 = .ok (.iconst 0, 1) := by decide +kernel
theorem dX6_see_78 : decode cX6_see 78 = .ok (.iastore, 1) := by decide +kernel
theorem dX6_see_79 : decode cX6_see 79 = .ok (.aload_n 0, 1) := by decide +kernel
theorem dX6_see_80 : decode cX6_see 80 = .ok (.dup, 1) := by decide +kernel
theorem dX6_see_81 : decode cX6_see 81 = .ok (.getfield 89, 3) := by decide +kernel
theorem dX6_see_84 : decode cX6_see 84 = .ok (.iconst 1, 1) := by decide +kernel
theorem dX6_see_85 : decode cX6_see 85 = .ok (.iadd, 1) := by decide +kernel
theorem dX6_see_86 : decode cX6_see 86 = .ok (.putfield 89, 3) := by decide +kernel
theorem dX6_see_89 : decode cX6_see 89 = .ok (.aload_n 0, 1) := by decide +kernel
theorem dX6_see_90 : decode cX6_see 90 = .ok (.getfield 89, 3) := by decide +kernel
theorem dX6_see_93 : decode cX6_see 93 = .ok (.ireturn, 1) := by decide +kernel
theorem dX6_forget_0 : decode cX6_forget 0 = .ok (.aload_n 0, 1) := by decide +kernel
theorem dX6_forget_1 : decode cX6_forget 1 = .ok (.getfield 89, 3) := by decide +kernel
theorem dX6_forget_4 : decode cX6_forget 4 = .ok (.istore_n 1, 1) := by decide +kernel
theorem dX6_forget_5 : decode cX6_forget 5 = .ok (.aload_n 0, 1) := by decide +kernel
theorem dX6_forget_6 : decode cX6_forget 6 = .ok (.iconst 0, 1) := by decide +kernel
theorem dX6_forget_7 : decode cX6_forget 7 = .ok (.putfield 89, 3) := by decide +kernel
theorem dX6_forget_10 : decode cX6_forget 10 = .ok (.iload_n 1, 1) := by decide +kernel
theorem dX6_forget_11 : decode cX6_forget 11 = .ok (.ireturn, 1) := by decide +kernel
theorem dX6_yearsOf_0 : decode cX6_yearsOf 0 = .ok (.iconst 0, 1) := by decide +kernel
theorem dX6_yearsOf_1 : decode cX6_yearsOf 1 = .ok (.istore_n 2, 1) := by decide +kernel
theorem dX6_yearsOf_2 : decode cX6_yearsOf 2 = .ok (.iconst 0, 1) := by decide +kernel
theorem dX6_yearsOf_3 : decode cX6_yearsOf 3 = .ok (.istore_n 3, 1) := by decide +kernel
theorem dX6_yearsOf_4 : decode cX6_yearsOf 4 = .ok (.iload_n 3, 1) := by decide +kernel
theorem dX6_yearsOf_5 : decode cX6_yearsOf 5 = .ok (.bipush 10, 2) := by decide +kernel
theorem dX6_yearsOf_7 : decode cX6_yearsOf 7 = .ok (.if_icmp .ge 123, 3) := by decide +kernel
theorem dX6_yearsOf_10 : decode cX6_yearsOf 10 = .ok (.iconst 1, 1) := by decide +kernel
theorem dX6_yearsOf_11 : decode cX6_yearsOf 11 = .ok (.istore 4, 2) := by decide +kernel
theorem dX6_yearsOf_13 : decode cX6_yearsOf 13 = .ok (.iconst 0, 1) := by decide +kernel
theorem dX6_yearsOf_14 : decode cX6_yearsOf 14 = .ok (.istore 5, 2) := by decide +kernel
theorem dX6_yearsOf_16 : decode cX6_yearsOf 16 = .ok (.iload 5, 2) := by decide +kernel
theorem dX6_yearsOf_18 : decode cX6_yearsOf 18 = .ok (.aload_n 0, 1) := by decide +kernel
theorem dX6_yearsOf_19 : decode cX6_yearsOf 19 = .ok (.getfield 89, 3) := by decide +kernel
theorem dX6_yearsOf_22 : decode cX6_yearsOf 22 = .ok (.if_icmp .ge 87, 3) := by decide +kernel
theorem dX6_yearsOf_25 : decode cX6_yearsOf 25 = .ok (.aload_n 0, 1) := by decide +kernel
theorem dX6_yearsOf_26 : decode cX6_yearsOf 26 = .ok (.getfield 28, 3) := by decide +kernel
theorem dX6_yearsOf_29 : decode cX6_yearsOf 29 = .ok (.iconst 3, 1) := by decide +kernel
theorem dX6_yearsOf_30 : decode cX6_yearsOf 30 = .ok (.iload 5, 2) := by decide +kernel
theorem dX6_yearsOf_32 : decode cX6_yearsOf 32 = .ok (.imul, 1) := by decide +kernel
theorem dX6_yearsOf_33 : decode cX6_yearsOf 33 = .ok (.iconst 1, 1) := by decide +kernel
theorem dX6_yearsOf_34 : decode cX6_yearsOf 34 = .ok (.iadd, 1) := by decide +kernel
theorem dX6_yearsOf_35 : decode cX6_yearsOf 35 = .ok (.iaload, 1) := by decide +kernel
theorem dX6_yearsOf_36 : decode cX6_yearsOf 36 = .ok (.istore 6, 2) := by decide +kernel
theorem dX6_yearsOf_38 : decode cX6_yearsOf 38 = .ok (.aload_n 0, 1) := by decide +kernel
theorem dX6_yearsOf_39 : decode cX6_yearsOf 39 = .ok (.iload 6, 2) := by decide +kernel
theorem dX6_yearsOf_41 : decode cX6_yearsOf 41 = .ok (.aload_n 0, 1) := by decide +kernel
theorem dX6_yearsOf_42 : decode cX6_yearsOf 42 = .ok (.iload_n 1, 1) := by decide +kernel
theorem dX6_yearsOf_43 : decode cX6_yearsOf 43 = .ok (.iload 6, 2) := by decide +kernel
theorem dX6_yearsOf_45 : decode cX6_yearsOf 45 = .ok (.iload_n 3, 1) := by decide +kernel
theorem dX6_yearsOf_46 : decode cX6_yearsOf 46 = .ok (.invokevirtual 95, 3) := by decide +kernel
theorem dX6_yearsOf_49 : decode cX6_yearsOf 49 = .ok (.invokevirtual 103, 3) := by decide +kernel
theorem dX6_yearsOf_52 : decode cX6_yearsOf 52 = .ok (.ifCond .eq 7, 3) := by decide +kernel
theorem dX6_yearsOf_55 : decode cX6_yearsOf 55 = .ok (.iconst 1, 1) := by decide +kernel
theorem dX6_yearsOf_56 : decode cX6_yearsOf 56 = .ok (.goto 4, 3) := by decide +kernel
theorem dX6_yearsOf_59 : decode cX6_yearsOf 59 = .ok (.iconst 0, 1) := by decide +kernel
theorem dX6_yearsOf_60 : decode cX6_yearsOf 60 = .ok (.istore 7, 2) := by decide +kernel
theorem dX6_yearsOf_62 : decode cX6_yearsOf 62 = .ok (.iload 4, 2) := by decide +kernel
theorem dX6_yearsOf_64 : decode cX6_yearsOf 64 = .ok (.ifCond .eq 36, 3) := by decide +kernel
theorem dX6_yearsOf_67 : decode cX6_yearsOf 67 = .ok (.aload_n 0, 1) := by decide +kernel
theorem dX6_yearsOf_68 : decode cX6_yearsOf 68 = .ok (.getfield 28, 3) := by decide +kernel
theorem dX6_yearsOf_71 : decode cX6_yearsOf 71 = .ok (.iconst 3, 1) := by decide +kernel
theorem dX6_yearsOf_72 : decode cX6_yearsOf 72 = .ok (.iload 5, 2) := by decide +kernel
theorem dX6_yearsOf_74 : decode cX6_yearsOf 74 = .ok (.imul, 1) := by decide +kernel
theorem dX6_yearsOf_75 : decode cX6_yearsOf 75 = .ok (.iaload, 1) := by decide +kernel
theorem dX6_yearsOf_76 : decode cX6_yearsOf 76 = .ok (.iload_n 1, 1) := by decide +kernel
theorem dX6_yearsOf_77 : decode cX6_yearsOf 77 = .ok (.if_icmp .ne 19, 3) := by decide +kernel
theorem dX6_yearsOf_80 : decode cX6_yearsOf 80 = .ok (.iload 7, 2) := by decide +kernel
theorem dX6_yearsOf_82 : decode cX6_yearsOf 82 = .ok (.aload_n 0, 1) := by decide +kernel
theorem dX6_yearsOf_83 : decode cX6_yearsOf 83 = .ok (.getfield 28, 3) := by decide +kernel
theorem dX6_yearsOf_86 : decode cX6_yearsOf 86 = .ok (.iconst 3, 1) := by decide +kernel
theorem dX6_yearsOf_87 : decode cX6_yearsOf 87 = .ok (.iload 5, 2) := by decide +kernel
theorem dX6_yearsOf_89 : decode cX6_yearsOf 89 = .ok (.imul, 1) := by decide +kernel
theorem dX6_yearsOf_90 : decode cX6_yearsOf 90 = .ok (.iconst 2, 1) := by decide +kernel
theorem dX6_yearsOf_91 : decode cX6_yearsOf 91 = .ok (.iadd, 1) := by decide +kernel
theorem dX6_yearsOf_92 : decode cX6_yearsOf 92 = .ok (.iaload, 1) := by decide +kernel
theorem dX6_yearsOf_93 : decode cX6_yearsOf 93 = .ok (.if_icmp .ne 7, 3) := by decide +kernel
theorem dX6_yearsOf_96 : decode cX6_yearsOf 96 = .ok (.iconst 1, 1) := by decide +kernel
theorem dX6_yearsOf_97 : decode cX6_yearsOf 97 = .ok (.goto 4, 3) := by decide +kernel
theorem dX6_yearsOf_100 : decode cX6_yearsOf 100 = .ok (.iconst 0, 1) := by decide +kernel
theorem dX6_yearsOf_101 : decode cX6_yearsOf 101 = .ok (.istore 4, 2) := by decide +kernel
theorem dX6_yearsOf_103 : decode cX6_yearsOf 103 = .ok (.iinc 5 1, 3) := by decide +kernel
theorem dX6_yearsOf_106 : decode cX6_yearsOf 106 = .ok (.goto (-90), 3) := by decide +kernel
theorem dX6_yearsOf_109 : decode cX6_yearsOf 109 = .ok (.iload_n 2, 1) := by decide +kernel
theorem dX6_yearsOf_110 : decode cX6_yearsOf 110 = .ok (.iload 4, 2) := by decide +kernel
theorem dX6_yearsOf_112 : decode cX6_yearsOf 112 = .ok (.ifCond .eq 9, 3) := by decide +kernel
theorem dX6_yearsOf_115 : decode cX6_yearsOf 115 = .ok (.iconst 1, 1) := by decide +kernel
theorem dX6_yearsOf_116 : decode cX6_yearsOf 116 = .ok (.iload_n 3, 1) := by decide +kernel
theorem dX6_yearsOf_117 : decode cX6_yearsOf 117 = .ok (.ishl, 1) := by decide +kernel
theorem dX6_yearsOf_118 : decode cX6_yearsOf 118 = .ok (.goto 4, 3) := by decide +kernel
theorem dX6_yearsOf_121 : decode cX6_yearsOf 121 = .ok (.iconst 0, 1) := by decide +kernel
theorem dX6_yearsOf_122 : decode cX6_yearsOf 122 = .ok (.ior, 1) := by decide +kernel
theorem dX6_yearsOf_123 : decode cX6_yearsOf 123 = .ok (.istore_n 2, 1) := by decide +kernel
theorem dX6_yearsOf_124 : decode cX6_yearsOf 124 = .ok (.iinc 3 1, 3) := by decide +kernel
theorem dX6_yearsOf_127 : decode cX6_yearsOf 127 = .ok (.goto (-123), 3) := by decide +kernel
theorem dX6_yearsOf_130 : decode cX6_yearsOf 130 = .ok (.iload_n 2, 1) := by decide +kernel
theorem dX6_yearsOf_131 : decode cX6_yearsOf 131 = .ok (.ireturn, 1) := by decide +kernel
theorem dX6_showOf_0 : decode cX6_showOf 0 = .ok (.aload_n 0, 1) := by decide +kernel
theorem dX6_showOf_1 : decode cX6_showOf 1 = .ok (.iload_n 1, 1) := by decide +kernel
theorem dX6_showOf_2 : decode cX6_showOf 2 = .ok (.invokevirtual 113, 3) := by decide +kernel
theorem dX6_showOf_5 : decode cX6_showOf 5 = .ok (.istore_n 2, 1) := by decide +kernel
theorem dX6_showOf_6 : decode cX6_showOf 6 = .ok (.iconst (-1), 1) := by decide +kernel
theorem dX6_showOf_7 : decode cX6_showOf 7 = .ok (.istore_n 3, 1) := by decide +kernel
theorem dX6_showOf_8 : decode cX6_showOf 8 = .ok (.bipush 11, 2) := by decide +kernel
theorem dX6_showOf_10 : decode cX6_showOf 10 = .ok (.istore 4, 2) := by decide +kernel
theorem dX6_showOf_12 : decode cX6_showOf 12 = .ok (.iconst 0, 1) := by decide +kernel
theorem dX6_showOf_13 : decode cX6_showOf 13 = .ok (.istore 5, 2) := by decide +kernel
theorem dX6_showOf_15 : decode cX6_showOf 15 = .ok (.iload 5, 2) := by decide +kernel
theorem dX6_showOf_17 : decode cX6_showOf 17 = .ok (.aload_n 0, 1) := by decide +kernel
theorem dX6_showOf_18 : decode cX6_showOf 18 = .ok (.getfield 77, 3) := by decide +kernel
theorem dX6_showOf_21 : decode cX6_showOf 21 = .ok (.if_icmp .ge 131, 3) := by decide +kernel
theorem dX6_showOf_24 : decode cX6_showOf 24 = .ok (.iload_n 2, 1) := by decide +kernel
theorem dX6_showOf_25 : decode cX6_showOf 25 = .ok (.ifCond .eq 127, 3) := by decide +kernel
theorem dX6_showOf_28 : decode cX6_showOf 28 = .ok (.iconst 0, 1) := by decide +kernel
theorem dX6_showOf_29 : decode cX6_showOf 29 = .ok (.istore 6, 2) := by decide +kernel
theorem dX6_showOf_31 : decode cX6_showOf 31 = .ok (.iconst 0, 1) := by decide +kernel
theorem dX6_showOf_32 : decode cX6_showOf 32 = .ok (.istore 7, 2) := by decide +kernel
theorem dX6_showOf_34 : decode cX6_showOf 34 = .ok (.iconst 0, 1) := by decide +kernel
theorem dX6_showOf_35 : decode cX6_showOf 35 = .ok (.istore 8, 2) := by decide +kernel
theorem dX6_showOf_37 : decode cX6_showOf 37 = .ok (.iload 8, 2) := by decide +kernel
theorem dX6_showOf_39 : decode cX6_showOf 39 = .ok (.bipush 10, 2) := by decide +kernel
theorem dX6_showOf_41 : decode cX6_showOf 41 = .ok (.if_icmp .ge 53, 3) := by decide +kernel
theorem dX6_showOf_44 : decode cX6_showOf 44 = .ok (.iload 7, 2) := by decide +kernel
theorem dX6_showOf_46 : decode cX6_showOf 46 = .ok (.iload_n 2, 1) := by decide +kernel
theorem dX6_showOf_47 : decode cX6_showOf 47 = .ok (.iload 8, 2) := by decide +kernel
theorem dX6_showOf_49 : decode cX6_showOf 49 = .ok (.ishr, 1) := by decide +kernel
theorem dX6_showOf_50 : decode cX6_showOf 50 = .ok (.iconst 1, 1) := by decide +kernel
theorem dX6_showOf_51 : decode cX6_showOf 51 = .ok (.iand, 1) := by decide +kernel
theorem dX6_showOf_52 : decode cX6_showOf 52 = .ok (.iadd, 1) := by decide +kernel
theorem dX6_showOf_53 : decode cX6_showOf 53 = .ok (.istore 7, 2) := by decide +kernel
theorem dX6_showOf_55 : decode cX6_showOf 55 = .ok (.iload 6, 2) := by decide +kernel
theorem dX6_showOf_57 : decode cX6_showOf 57 = .ok (.aload_n 0, 1) := by decide +kernel
theorem dX6_showOf_58 : decode cX6_showOf 58 = .ok (.iload 5, 2) := by decide +kernel
theorem dX6_showOf_60 : decode cX6_showOf 60 = .ok (.aload_n 0, 1) := by decide +kernel
theorem dX6_showOf_61 : decode cX6_showOf 61 = .ok (.iload_n 1, 1) := by decide +kernel
theorem dX6_showOf_62 : decode cX6_showOf 62 = .ok (.iload 5, 2) := by decide +kernel
theorem dX6_showOf_64 : decode cX6_showOf 64 = .ok (.iload 8, 2) := by decide +kernel
theorem dX6_showOf_66 : decode cX6_showOf 66 = .ok (.invokevirtual 95, 3) := by decide +kernel
theorem dX6_showOf_69 : decode cX6_showOf 69 = .ok (.invokevirtual 103, 3) := by decide +kernel
theorem dX6_showOf_72 : decode cX6_showOf 72 = .ok (.ifCond .eq 12, 3) := by decide +kernel
theorem dX6_showOf_75 : decode cX6_showOf 75 = .ok (.iload_n 2, 1) := by decide +kernel
theorem dX6_showOf_76 : decode cX6_showOf 76 = .ok (.iload 8, 2) := by decide +kernel
theorem dX6_showOf_78 : decode cX6_showOf 78 = .ok (.ishr, 1) := by decide +kernel
theorem dX6_showOf_79 : decode cX6_showOf 79 = .ok (.iconst 1, 1) := by decide +kernel
theorem dX6_showOf_80 : decode cX6_showOf 80 = .ok (.iand, 1) := by decide +kernel
theorem dX6_showOf_81 : decode cX6_showOf 81 = .ok (.goto 4, 3) := by decide +kernel
theorem dX6_showOf_84 : decode cX6_showOf 84 = .ok (.iconst 0, 1) := by decide +kernel
theorem dX6_showOf_85 : decode cX6_showOf 85 = .ok (.iadd, 1) := by decide +kernel
theorem dX6_showOf_86 : decode cX6_showOf 86 = .ok (.istore 6, 2) := by decide +kernel
theorem dX6_showOf_88 : decode cX6_showOf 88 = .ok (.iinc 8 1, 3) := by decide +kernel
theorem dX6_showOf_91 : decode cX6_showOf 91 = .ok (.goto (-54), 3) := by decide +kernel
theorem dX6_showOf_94 : decode cX6_showOf 94 = .ok (.iload 6, 2) := by decide +kernel
theorem dX6_showOf_96 : decode cX6_showOf 96 = .ok (.iload 7, 2) := by decide +kernel
theorem dX6_showOf_98 : decode cX6_showOf 98 = .ok (.iload 6, 2) := by decide +kernel
theorem dX6_showOf_100 : decode cX6_showOf 100 = .ok (.isub, 1) := by decide +kernel
theorem dX6_showOf_101 : decode cX6_showOf 101 = .ok (.if_icmp .le 8, 3) := by decide +kernel
theorem dX6_showOf_104 : decode cX6_showOf 104 = .ok (.iload 6, 2) := by decide +kernel
theorem dX6_showOf_106 : decode cX6_showOf 106 = .ok (.goto 8, 3) := by decide +kernel
theorem dX6_showOf_109 : decode cX6_showOf 109 = .ok (.iload 7, 2) := by decide +kernel
theorem dX6_showOf_111 : decode cX6_showOf 111 = .ok (.iload 6, 2) := by decide +kernel
theorem dX6_showOf_113 : decode cX6_showOf 113 = .ok (.isub, 1) := by decide +kernel
theorem dX6_showOf_114 : decode cX6_showOf 114 = .ok (.istore 8, 2) := by decide +kernel
theorem dX6_showOf_116 : decode cX6_showOf 116 = .ok (.iload 8, 2) := by decide +kernel
theorem dX6_showOf_118 : decode cX6_showOf 118 = .ok (.iload 4, 2) := by decide +kernel
theorem dX6_showOf_120 : decode cX6_showOf 120 = .ok (.if_icmp .ge 8, 3) := by decide +kernel
theorem dX6_showOf_123 : decode cX6_showOf 123 = .ok (.iload 5, 2) := by decide +kernel
theorem dX6_showOf_125 : decode cX6_showOf 125 = .ok (.goto 4, 3) := by decide +kernel
theorem dX6_showOf_128 : decode cX6_showOf 128 = .ok (.iload_n 3, 1) := by decide +kernel
theorem dX6_showOf_129 : decode cX6_showOf 129 = .ok (.istore_n 3, 1) := by decide +kernel
theorem dX6_showOf_130 : decode cX6_showOf 130 = .ok (.iload 8, 2) := by decide +kernel
theorem dX6_showOf_132 : decode cX6_showOf 132 = .ok (.iload 4, 2) := by decide +kernel
theorem dX6_showOf_134 : decode cX6_showOf 134 = .ok (.if_icmp .ge 8, 3) := by decide +kernel
theorem dX6_showOf_137 : decode cX6_showOf 137 = .ok (.iload 8, 2) := by decide +kernel
theorem dX6_showOf_139 : decode cX6_showOf 139 = .ok (.goto 5, 3) := by decide +kernel
theorem dX6_showOf_142 : decode cX6_showOf 142 = .ok (.iload 4, 2) := by decide +kernel
theorem dX6_showOf_144 : decode cX6_showOf 144 = .ok (.istore 4, 2) := by decide +kernel
theorem dX6_showOf_146 : decode cX6_showOf 146 = .ok (.iinc 5 1, 3) := by decide +kernel
theorem dX6_showOf_149 : decode cX6_showOf 149 = .ok (.goto (-134), 3) := by decide +kernel
theorem dX6_showOf_152 : decode cX6_showOf 152 = .ok (.iload_n 3, 1) := by decide +kernel
theorem dX6_showOf_153 : decode cX6_showOf 153 = .ok (.ireturn, 1) := by decide +kernel
theorem dX6_draw_0 : decode cX6_draw 0 = .ok (.aload_n 0, 1) := by decide +kernel
theorem dX6_draw_1 : decode cX6_draw 1 = .ok (.ldc2_w 162, 3) := by decide +kernel
theorem dX6_draw_4 : decode cX6_draw 4 = .ok (.aload_n 0, 1) := by decide +kernel
theorem dX6_draw_5 : decode cX6_draw 5 = .ok (.getfield 164, 3) := by decide +kernel
theorem dX6_draw_8 : decode cX6_draw 8 = .ok (.i2l, 1) := by decide +kernel
theorem dX6_draw_9 : decode cX6_draw 9 = .ok (.lmul, 1) := by decide +kernel
theorem dX6_draw_10 : decode cX6_draw 10 = .ok (.ldc2_w 167, 3) := by decide +kernel
theorem dX6_draw_13 : decode cX6_draw 13 = .ok (.ladd, 1) := by decide +kernel
theorem dX6_draw_14 : decode cX6_draw 14 = .ok (.ldc2_w 169, 3) := by decide +kernel
theorem dX6_draw_17 : decode cX6_draw 17 = .ok (.land, 1) := by decide +kernel
theorem dX6_draw_18 : decode cX6_draw 18 = .ok (.l2i, 1) := by decide +kernel
theorem dX6_draw_19 : decode cX6_draw 19 = .ok (.putfield 164, 3) := by decide +kernel
theorem dX6_draw_22 : decode cX6_draw 22 = .ok (.aload_n 0, 1) := by decide +kernel
theorem dX6_draw_23 : decode cX6_draw 23 = .ok (.getfield 164, 3) := by decide +kernel
theorem dX6_draw_26 : decode cX6_draw 26 = .ok (.ldc 171, 2) := by decide +kernel
theorem dX6_draw_28 : decode cX6_draw 28 = .ok (.idiv, 1) := by decide +kernel
theorem dX6_draw_29 : decode cX6_draw 29 = .ok (.iload_n 1, 1) := by decide +kernel
theorem dX6_draw_30 : decode cX6_draw 30 = .ok (.irem, 1) := by decide +kernel
theorem dX6_draw_31 : decode cX6_draw 31 = .ok (.ireturn, 1) := by decide +kernel
theorem dX6_mondays_0 : decode cX6_mondays 0 = .ok (.iload_n 1, 1) := by decide +kernel
theorem dX6_mondays_1 : decode cX6_mondays 1 = .ok (.i2l, 1) := by decide +kernel
theorem dX6_mondays_2 : decode cX6_mondays 2 = .ok (.lconst 1, 1) := by decide +kernel
theorem dX6_mondays_3 : decode cX6_mondays 3 = .ok (.ldc2_w 172, 3) := by decide +kernel
theorem dX6_mondays_6 : decode cX6_mondays 6 = .ok (.invokestatic 49, 3) := by decide +kernel
theorem dX6_mondays_9 : decode cX6_mondays 9 = .ok (.ifCond .eq 19, 3) := by decide +kernel
theorem dX6_mondays_12 : decode cX6_mondays 12 = .ok (.iload_n 2, 1) := by decide +kernel
theorem dX6_mondays_13 : decode cX6_mondays 13 = .ok (.ifCond .lt 15, 3) := by decide +kernel
theorem dX6_mondays_16 : decode cX6_mondays 16 = .ok (.iload_n 3, 1) := by decide +kernel
theorem dX6_mondays_17 : decode cX6_mondays 17 = .ok (.i2l, 1) := by decide +kernel
theorem dX6_mondays_18 : decode cX6_mondays 18 = .ok (.lconst 0, 1) := by decide +kernel
theorem dX6_mondays_19 : decode cX6_mondays 19 = .ok (.ldc2_w 139, 3) := by decide +kernel
theorem dX6_mondays_22 : decode cX6_mondays 22 = .ok (.invokestatic 49, 3) := by decide +kernel
theorem dX6_mondays_25 : decode cX6_mondays 25 = .ok (.ifCond .ne 6, 3) := by decide +kernel
theorem dX6_mondays_28 : decode cX6_mondays 28 = .ok (.bipush (-102), 2) := by decide +kernel
theorem dX6_mondays_30 : decode cX6_mondays 30 = .ok (.ireturn, 1) := by decide +kernel
theorem dX6_mondays_31 : decode cX6_mondays 31 = .ok (.aload_n 0, 1) := by decide +kernel
theorem dX6_mondays_32 : decode cX6_mondays 32 = .ok (.invokevirtual 141, 3) := by decide +kernel
theorem dX6_mondays_35 : decode cX6_mondays 35 = .ok (.ifCond .eq 6, 3) := by decide +kernel
theorem dX6_mondays_38 : decode cX6_mondays 38 = .ok (.bipush (-103), 2) := by decide +kernel
theorem dX6_mondays_40 : decode cX6_mondays 40 = .ok (.ireturn, 1) := by decide +kernel
theorem dX6_mondays_41 : decode cX6_mondays 41 = .ok (.aload_n 0, 1) := by decide +kernel
theorem dX6_mondays_42 : decode cX6_mondays 42 = .ok (.getfield 16, 3) := by decide +kernel
theorem dX6_mondays_45 : decode cX6_mondays 45 = .ok (.aload_n 0, 1) := by decide +kernel
theorem dX6_mondays_46 : decode cX6_mondays 46 = .ok (.getfield 31, 3) := by decide +kernel
theorem dX6_mondays_49 : decode cX6_mondays 49 = .ok (.invokestatic 151, 3) := by decide +kernel
theorem dX6_mondays_52 : decode cX6_mondays 52 = .ok (.aload_n 0, 1) := by decide +kernel
theorem dX6_mondays_53 : decode cX6_mondays 53 = .ok (.iload_n 2, 1) := by decide +kernel
theorem dX6_mondays_54 : decode cX6_mondays 54 = .ok (.putfield 164, 3) := by decide +kernel
theorem dX6_mondays_57 : decode cX6_mondays 57 = .ok (.iconst 0, 1) := by decide +kernel
theorem dX6_mondays_58 : decode cX6_mondays 58 = .ok (.istore 4, 2) := by decide +kernel
theorem dX6_mondays_60 : decode cX6_mondays 60 = .ok (.iconst 0, 1) := by decide +kernel
theorem dX6_mondays_61 : decode cX6_mondays 61 = .ok (.istore 5, 2) := by decide +kernel
theorem dX6_mondays_63 : decode cX6_mondays 63 = .ok (.iconst 0, 1) := by decide +kernel
theorem dX6_mondays_64 : decode cX6_mondays 64 = .ok (.istore 6, 2) := by decide +kernel
theorem dX6_mondays_66 : decode cX6_mondays 66 = .ok (.iload 6, 2) := by decide +kernel
theorem dX6_mondays_68 : decode cX6_mondays 68 = .ok (.iload_n 1, 1) := by decide +kernel
theorem dX6_mondays_69 : decode cX6_mondays 69 = .ok (.if_icmp .ge 124, 3) := by decide +kernel
theorem dX6_mondays_72 : decode cX6_mondays 72 = .ok (.aload_n 0, 1) := by decide +kernel
theorem dX6_mondays_73 : decode cX6_mondays 73 = .ok (.aload_n 0, 1) := by decide +kernel
theorem dX6_mondays_74 : decode cX6_mondays 74 = .ok (.getfield 77, 3) := by decide +kernel
theorem dX6_mondays_77 : decode cX6_mondays 77 = .ok (.invokevirtual 174, 3) := by decide +kernel
theorem dX6_mondays_80 : decode cX6_mondays 80 = .ok (.istore 7, 2) := by decide +kernel
theorem dX6_mondays_82 : decode cX6_mondays 82 = .ok (.iconst 0, 1) := by decide +kernel
theorem dX6_mondays_83 : decode cX6_mondays 83 = .ok (.istore 8, 2) := by decide +kernel
theorem dX6_mondays_85 : decode cX6_mondays 85 = .ok (.iload 8, 2) := by decide +kernel
theorem dX6_mondays_87 : decode cX6_mondays 87 = .ok (.iconst 3, 1) := by decide +kernel
theorem dX6_mondays_88 : decode cX6_mondays 88 = .ok (.if_icmp .ge 32, 3) := by decide +kernel
theorem dX6_mondays_91 : decode cX6_mondays 91 = .ok (.aload_n 0, 1) := by decide +kernel
theorem dX6_mondays_92 : decode cX6_mondays 92 = .ok (.getfield 16, 3) := by decide +kernel
theorem dX6_mondays_95 : decode cX6_mondays 95 = .ok (.iconst 5, 1) := by decide +kernel
theorem dX6_mondays_96 : decode cX6_mondays 96 = .ok (.iload 7, 2) := by decide +kernel
theorem dX6_mondays_98 : decode cX6_mondays 98 = .ok (.imul, 1) := by decide +kernel
theorem dX6_mondays_99 : decode cX6_mondays 99 = .ok (.iload 8, 2) := by decide +kernel
theorem dX6_mondays_101 : decode cX6_mondays 101 = .ok (.iadd, 1) := by decide +kernel
theorem dX6_mondays_102 : decode cX6_mondays 102 = .ok (.aload_n 0, 1) := by decide +kernel
theorem dX6_mondays_103 : decode cX6_mondays 103 = .ok (.iload 8, 2) := by decide +kernel
theorem dX6_mondays_105 : decode cX6_mondays 105 = .ok (.invokestatic 59, 3) := by decide +kernel
theorem dX6_mondays_108 : decode cX6_mondays 108 = .ok (.iconst 1, 1) := by decide +kernel
theorem dX6_mondays_109 : decode cX6_mondays 109 = .ok (.iadd, 1) := by decide +kernel
theorem dX6_mondays_110 : decode cX6_mondays 110 = .ok (.invokevirtual 174, 3) := by decide +kernel
theorem dX6_mondays_113 : decode cX6_mondays 113 = .ok (.iastore, 1) := by decide +kernel
theorem dX6_mondays_114 : decode cX6_mondays 114 = .ok (.iinc 8 1, 3) := by decide +kernel
theorem dX6_mondays_117 : decode cX6_mondays 117 = .ok (.goto (-32), 3) := by decide +kernel
theorem dX6_mondays_120 : decode cX6_mondays 120 = .ok (.iconst 0, 1) := by decide +kernel
theorem dX6_mondays_121 : decode cX6_mondays 121 = .ok (.istore 8, 2) := by decide +kernel
theorem dX6_mondays_123 : decode cX6_mondays 123 = .ok (.iload 8, 2) := by decide +kernel
theorem dX6_mondays_125 : decode cX6_mondays 125 = .ok (.aload_n 0, 1) := by decide +kernel
theorem dX6_mondays_126 : decode cX6_mondays 126 = .ok (.getfield 74, 3) := by decide +kernel
theorem dX6_mondays_129 : decode cX6_mondays 129 = .ok (.if_icmp .ge 58, 3) := by decide +kernel
theorem dX6_mondays_132 : decode cX6_mondays 132 = .ok (.iload 4, 2) := by decide +kernel
theorem dX6_mondays_134 : decode cX6_mondays 134 = .ok (.aload_n 0, 1) := by decide +kernel
theorem dX6_mondays_135 : decode cX6_mondays 135 = .ok (.iload 8, 2) := by decide +kernel
theorem dX6_mondays_137 : decode cX6_mondays 137 = .ok (.iload 7, 2) := by decide +kernel
theorem dX6_mondays_139 : decode cX6_mondays 139 = .ok (.invokevirtual 107, 3) := by decide +kernel
theorem dX6_mondays_142 : decode cX6_mondays 142 = .ok (.ifCond .eq 7, 3) := by decide +kernel
theorem dX6_mondays_145 : decode cX6_mondays 145 = .ok (.iconst 1, 1) := by decide +kernel
theorem dX6_mondays_146 : decode cX6_mondays 146 = .ok (.goto 4, 3) := by decide +kernel
theorem dX6_mondays_149 : decode cX6_mondays 149 = .ok (.iconst 0, 1) := by decide +kernel
theorem dX6_mondays_150 : decode cX6_mondays 150 = .ok (.iadd, 1) := by decide +kernel
theorem dX6_mondays_151 : decode cX6_mondays 151 = .ok (.istore 4, 2) := by decide +kernel
theorem dX6_mondays_153 : decode cX6_mondays 153 = .ok (.iload 5, 2) := by decide +kernel
theorem dX6_mondays_155 : decode cX6_mondays 155 = .ok (.aload_n 0, 1) := by decide +kernel
theorem dX6_mondays_156 : decode cX6_mondays 156 = .ok (.iload 8, 2) := by decide +kernel
theorem dX6_mondays_158 : decode cX6_mondays 158 = .ok (.iload 7, 2) := by decide +kernel
theorem dX6_mondays_160 : decode cX6_mondays 160 = .ok (.invokevirtual 107, 3) := by decide +kernel
theorem dX6_mondays_163 : decode cX6_mondays 163 = .ok (.ifCond .eq 14, 3) := by decide +kernel
theorem dX6_mondays_166 : decode cX6_mondays 166 = .ok (.aload_n 0, 1) := by decide +kernel
theorem dX6_mondays_167 : decode cX6_mondays 167 = .ok (.iload 8, 2) := by decide +kernel
theorem dX6_mondays_169 : decode cX6_mondays 169 = .ok (.iload 7, 2) := by decide +kernel
theorem dX6_mondays_171 : decode cX6_mondays 171 = .ok (.invokevirtual 99, 3) := by decide +kernel
theorem dX6_mondays_174 : decode cX6_mondays 174 = .ok (.goto 4, 3) := by decide +kernel
theorem dX6_mondays_177 : decode cX6_mondays 177 = .ok (.iconst 0, 1) := by decide +kernel
theorem dX6_mondays_178 : decode cX6_mondays 178 = .ok (.iadd, 1) := by decide +kernel
theorem dX6_mondays_179 : decode cX6_mondays 179 = .ok (.istore 5, 2) := by decide +kernel
theorem dX6_mondays_181 : decode cX6_mondays 181 = .ok (.iinc 8 1, 3) := by decide +kernel
theorem dX6_mondays_184 : decode cX6_mondays 184 = .ok (.goto (-61), 3) := by decide +kernel
theorem dX6_mondays_187 : decode cX6_mondays 187 = .ok (.iinc 6 1, 3) := by decide +kernel
theorem dX6_mondays_190 : decode cX6_mondays 190 = .ok (.goto (-124), 3) := by decide +kernel
theorem dX6_mondays_193 : decode cX6_mondays 193 = .ok (.aload_n 0, 1) := by decide +kernel
theorem dX6_mondays_194 : decode cX6_mondays 194 = .ok (.getfield 31, 3) := by decide +kernel
theorem dX6_mondays_197 : decode cX6_mondays 197 = .ok (.aload_n 0, 1) := by decide +kernel
theorem dX6_mondays_198 : decode cX6_mondays 198 = .ok (.getfield 16, 3) := by decide +kernel
theorem dX6_mondays_201 : decode cX6_mondays 201 = .ok (.invokestatic 151, 3) := by decide +kernel
theorem dX6_mondays_204 : decode cX6_mondays 204 = .ok (.iload_n 3, 1) := by decide +kernel
theorem dX6_mondays_205 : decode cX6_mondays 205 = .ok (.ifCond .ne 8, 3) := by decide +kernel
theorem dX6_mondays_208 : decode cX6_mondays 208 = .ok (.iload 4, 2) := by decide +kernel
theorem dX6_mondays_210 : decode cX6_mondays 210 = .ok (.goto 17, 3) := by decide +kernel
theorem dX6_mondays_213 : decode cX6_mondays 213 = .ok (.iload_n 3, 1) := by decide +kernel
theorem dX6_mondays_214 : decode cX6_mondays 214 = .ok (.iconst 1, 1) := by decide +kernel
theorem dX6_mondays_215 : decode cX6_mondays 215 = .ok (.if_icmp .ne 8, 3) := by decide +kernel
theorem dX6_mondays_218 : decode cX6_mondays 218 = .ok (.iload 5, 2) := by decide +kernel
theorem dX6_mondays_220 : decode cX6_mondays 220 = .ok (.goto 7, 3) := by decide +kernel
theorem dX6_mondays_223 : decode cX6_mondays 223 = .ok (.aload_n 0, 1) := by decide +kernel
theorem dX6_mondays_224 : decode cX6_mondays 224 = .ok (.getfield 164, 3) := by decide +kernel
theorem dX6_mondays_227 : decode cX6_mondays 227 = .ok (.ireturn, 1) := by decide +kernel
theorem dX6_image_0 : decode cX6_image 0 = .ok (.aload_n 0, 1) := by decide +kernel
theorem dX6_image_1 : decode cX6_image 1 = .ok (.invokevirtual 141, 3) := by decide +kernel
theorem dX6_image_4 : decode cX6_image 4 = .ok (.ifCond .eq 6, 3) := by decide +kernel
theorem dX6_image_7 : decode cX6_image 7 = .ok (.bipush (-103), 2) := by decide +kernel
theorem dX6_image_9 : decode cX6_image 9 = .ok (.ireturn, 1) := by decide +kernel
theorem dX6_image_10 : decode cX6_image 10 = .ok (.aload_n 0, 1) := by decide +kernel
theorem dX6_image_11 : decode cX6_image 11 = .ok (.getfield 13, 3) := by decide +kernel
theorem dX6_image_14 : decode cX6_image 14 = .ok (.aload_n 0, 1) := by decide +kernel
theorem dX6_image_15 : decode cX6_image 15 = .ok (.getfield 34, 3) := by decide +kernel
theorem dX6_image_18 : decode cX6_image 18 = .ok (.invokestatic 151, 3) := by decide +kernel
theorem dX6_image_21 : decode cX6_image 21 = .ok (.aload_n 0, 1) := by decide +kernel
theorem dX6_image_22 : decode cX6_image 22 = .ok (.getfield 16, 3) := by decide +kernel
theorem dX6_image_25 : decode cX6_image 25 = .ok (.aload_n 0, 1) := by decide +kernel
theorem dX6_image_26 : decode cX6_image 26 = .ok (.getfield 37, 3) := by decide +kernel
theorem dX6_image_29 : decode cX6_image 29 = .ok (.invokestatic 151, 3) := by decide +kernel
theorem dX6_image_32 : decode cX6_image 32 = .ok (.aload_n 0, 1) := by decide +kernel
theorem dX6_image_33 : decode cX6_image 33 = .ok (.getfield 28, 3) := by decide +kernel
theorem dX6_image_36 : decode cX6_image 36 = .ok (.aload_n 0, 1) := by decide +kernel
theorem dX6_image_37 : decode cX6_image 37 = .ok (.getfield 40, 3) := by decide +kernel
theorem dX6_image_40 : decode cX6_image 40 = .ok (.invokestatic 151, 3) := by decide +kernel
theorem dX6_image_43 : decode cX6_image 43 = .ok (.aload_n 0, 1) := by decide +kernel
theorem dX6_image_44 : decode cX6_image 44 = .ok (.aload_n 0, 1) := by decide +kernel
theorem dX6_image_45 : decode cX6_image 45 = .ok (.getfield 80, 3) := by decide +kernel
theorem dX6_image_48 : decode cX6_image 48 = .ok (.putfield 177, 3) := by decide +kernel
theorem dX6_image_51 : decode cX6_image 51 = .ok (.aload_n 0, 1) := by decide +kernel
theorem dX6_image_52 : decode cX6_image 52 = .ok (.aload_n 0, 1) := by decide +kernel
theorem dX6_image_53 : decode cX6_image 53 = .ok (.getfield 83, 3) := by decide +kernel
theorem dX6_image_56 : decode cX6_image 56 = .ok (.putfield 180, 3) := by decide +kernel
theorem dX6_image_59 : decode cX6_image 59 = .ok (.aload_n 0, 1) := by decide +kernel
theorem dX6_image_60 : decode cX6_image 60 = .ok (.aload_n 0, 1) := by decide +kernel
theorem dX6_image_61 : decode cX6_image 61 = .ok (.getfield 86, 3) := by decide +kernel
theorem dX6_image_64 : decode cX6_image 64 = .ok (.putfield 183, 3) := by decide +kernel
theorem dX6_image_67 : decode cX6_image 67 = .ok (.aload_n 0, 1) := by decide +kernel
theorem dX6_image_68 : decode cX6_image 68 = .ok (.aload_n 0, 1) := by decide +kernel
theorem dX6_image_69 : decode cX6_image 69 = .ok (.getfield 89, 3) := by decide +kernel
theorem dX6_image_72 : decode cX6_image 72 = .ok (.putfield 186, 3) := by decide +kernel
theorem dX6_image_75 : decode cX6_image 75 = .ok (.aload_n 0, 1) := by decide +kernel
theorem dX6_image_76 : decode cX6_image 76 = .ok (.aload_n 0, 1) := by decide +kernel
theorem dX6_image_77 : decode cX6_image 77 = .ok (.getfield 92, 3) := by decide +kernel
theorem dX6_image_80 : decode cX6_image 80 = .ok (.putfield 43, 3) := by decide +kernel
theorem dX6_image_83 : decode cX6_image 83 = .ok (.aload_n 0, 1) := by decide +kernel
theorem dX6_image_84 : decode cX6_image 84 = .ok (.getfield 80, 3) := by decide +kernel
theorem dX6_image_87 : decode cX6_image 87 = .ok (.ireturn, 1) := by decide +kernel
theorem dX6_restore_0 : decode cX6_restore 0 = .ok (.aload_n 0, 1) := by decide +kernel
theorem dX6_restore_1 : decode cX6_restore 1 = .ok (.getfield 43, 3) := by decide +kernel
theorem dX6_restore_4 : decode cX6_restore 4 = .ok (.aload_n 0, 1) := by decide +kernel
theorem dX6_restore_5 : decode cX6_restore 5 = .ok (.getfield 92, 3) := by decide +kernel
theorem dX6_restore_8 : decode cX6_restore 8 = .ok (.if_icmp .eq 6, 3) := by decide +kernel
theorem dX6_restore_11 : decode cX6_restore 11 = .ok (.bipush (-103), 2) := by decide +kernel
theorem dX6_restore_13 : decode cX6_restore 13 = .ok (.ireturn, 1) := by decide +kernel
theorem dX6_restore_14 : decode cX6_restore 14 = .ok (.aload_n 0, 1) := by decide +kernel
theorem dX6_restore_15 : decode cX6_restore 15 = .ok (.getfield 34, 3) := by decide +kernel
theorem dX6_restore_18 : decode cX6_restore 18 = .ok (.aload_n 0, 1) := by decide +kernel
theorem dX6_restore_19 : decode cX6_restore 19 = .ok (.getfield 13, 3) := by decide +kernel
theorem dX6_restore_22 : decode cX6_restore 22 = .ok (.invokestatic 151, 3) := by decide +kernel
theorem dX6_restore_25 : decode cX6_restore 25 = .ok (.aload_n 0, 1) := by decide +kernel
theorem dX6_restore_26 : decode cX6_restore 26 = .ok (.getfield 37, 3) := by decide +kernel
theorem dX6_restore_29 : decode cX6_restore 29 = .ok (.aload_n 0, 1) := by decide +kernel
theorem dX6_restore_30 : decode cX6_restore 30 = .ok (.getfield 16, 3) := by decide +kernel
theorem dX6_restore_33 : decode cX6_restore 33 = .ok (.invokestatic 151, 3) := by decide +kernel
theorem dX6_restore_36 : decode cX6_restore 36 = .ok (.aload_n 0, 1) := by decide +kernel
theorem dX6_restore_37 : decode cX6_restore 37 = .ok (.getfield 40, 3) := by decide +kernel
theorem dX6_restore_40 : decode cX6_restore 40 = .ok (.aload_n 0, 1) := by decide +kernel
theorem dX6_restore_41 : decode cX6_restore 41 = .ok (.getfield 28, 3) := by decide +kernel
theorem dX6_restore_44 : decode cX6_restore 44 = .ok (.invokestatic 151, 3) := by decide +kernel
theorem dX6_restore_47 : decode cX6_restore 47 = .ok (.aload_n 0, 1) := by decide +kernel
theorem dX6_restore_48 : decode cX6_restore 48 = .ok (.aload_n 0, 1) := by decide +kernel
theorem dX6_restore_49 : decode cX6_restore 49 = .ok (.getfield 177, 3) := by decide +kernel
theorem dX6_restore_52 : decode cX6_restore 52 = .ok (.putfield 80, 3) := by decide +kernel
theorem dX6_restore_55 : decode cX6_restore 55 = .ok (.aload_n 0, 1) := by decide +kernel
theorem dX6_restore_56 : decode cX6_restore 56 = .ok (.aload_n 0, 1) := by decide +kernel
theorem dX6_restore_57 : decode cX6_restore 57 = .ok (.getfield 180, 3) := by decide +kernel
theorem dX6_restore_60 : decode cX6_restore 60 = .ok (.putfield 83, 3) := by decide +kernel
theorem dX6_restore_63 : decode cX6_restore 63 = .ok (.aload_n 0, 1) := by decide +kernel
theorem dX6_restore_64 : decode cX6_restore 64 = .ok (.aload_n 0, 1) := by decide +kernel
theorem dX6_restore_65 : decode cX6_restore 65 = .ok (.getfield 183, 3) := by decide +kernel
theorem dX6_restore_68 : decode cX6_restore 68 = .ok (.putfield 86, 3) := by decide +kernel
theorem dX6_restore_71 : decode cX6_restore 71 = .ok (.aload_n 0, 1) := by decide +kernel
theorem dX6_restore_72 : decode cX6_restore 72 = .ok (.aload_n 0, 1) := by decide +kernel
theorem dX6_restore_73 : decode cX6_restore 73 = .ok (.getfield 186, 3) := by decide +kernel
theorem dX6_restore_76 : decode cX6_restore 76 = .ok (.putfield 89, 3) := by decide +kernel
theorem dX6_restore_79 : decode cX6_restore 79 = .ok (.aload_n 0, 1) := by decide +kernel
theorem dX6_restore_80 : decode cX6_restore 80 = .ok (.getfield 80, 3) := by decide +kernel
theorem dX6_restore_83 : decode cX6_restore 83 = .ok (.ireturn, 1) := by decide +kernel
theorem dX6_givenFit_0 : decode cX6_givenFit 0 = .ok (.iconst 0, 1) := by decide +kernel
theorem dX6_givenFit_1 : decode cX6_givenFit 1 = .ok (.istore_n 1, 1) := by decide +kernel
theorem dX6_givenFit_2 : decode cX6_givenFit 2 = .ok (.iconst 0, 1) := by decide +kernel
theorem dX6_givenFit_3 : decode cX6_givenFit 3 = .ok (.istore_n 2, 1) := by decide +kernel
theorem dX6_givenFit_4 : decode cX6_givenFit 4 = .ok (.iload_n 2, 1) := by decide +kernel
theorem dX6_givenFit_5 : decode cX6_givenFit 5 = .ok (.aload_n 0, 1) := by decide +kernel
theorem dX6_givenFit_6 : decode cX6_givenFit 6 = .ok (.getfield 77, 3) := by decide +kernel
theorem dX6_givenFit_9 : decode cX6_givenFit 9 = .ok (.if_icmp .ge 49, 3) := by decide +kernel
theorem dX6_givenFit_12 : decode cX6_givenFit 12 = .ok (.iload_n 1, 1) := by decide +kernel
theorem dX6_givenFit_13 : decode cX6_givenFit 13 = .ok (.aload_n 0, 1) := by decide +kernel
theorem dX6_givenFit_14 : decode cX6_givenFit 14 = .ok (.getfield 16, 3) := by decide +kernel
theorem dX6_givenFit_17 : decode cX6_givenFit 17 = .ok (.iconst 5, 1) := by decide +kernel
theorem dX6_givenFit_18 : decode cX6_givenFit 18 = .ok (.iload_n 2, 1) := by decide +kernel
theorem dX6_givenFit_19 : decode cX6_givenFit 19 = .ok (.imul, 1) := by decide +kernel
theorem dX6_givenFit_20 : decode cX6_givenFit 20 = .ok (.iconst 4, 1) := by decide +kernel
theorem dX6_givenFit_21 : decode cX6_givenFit 21 = .ok (.iadd, 1) := by decide +kernel
theorem dX6_givenFit_22 : decode cX6_givenFit 22 = .ok (.iaload, 1) := by decide +kernel
theorem dX6_givenFit_23 : decode cX6_givenFit 23 = .ok (.iconst (-1), 1) := by decide +kernel
theorem dX6_givenFit_24 : decode cX6_givenFit 24 = .ok (.if_icmp .eq 25, 3) := by decide +kernel
theorem dX6_givenFit_27 : decode cX6_givenFit 27 = .ok (.aload_n 0, 1) := by decide +kernel
theorem dX6_givenFit_28 : decode cX6_givenFit 28 = .ok (.aload_n 0, 1) := by decide +kernel
theorem dX6_givenFit_29 : decode cX6_givenFit 29 = .ok (.getfield 16, 3) := by decide +kernel
theorem dX6_givenFit_32 : decode cX6_givenFit 32 = .ok (.iconst 5, 1) := by decide +kernel
theorem dX6_givenFit_33 : decode cX6_givenFit 33 = .ok (.iload_n 2, 1) := by decide +kernel
theorem dX6_givenFit_34 : decode cX6_givenFit 34 = .ok (.imul, 1) := by decide +kernel
theorem dX6_givenFit_35 : decode cX6_givenFit 35 = .ok (.iconst 4, 1) := by decide +kernel
theorem dX6_givenFit_36 : decode cX6_givenFit 36 = .ok (.iadd, 1) := by decide +kernel
theorem dX6_givenFit_37 : decode cX6_givenFit 37 = .ok (.iaload, 1) := by decide +kernel
theorem dX6_givenFit_38 : decode cX6_givenFit 38 = .ok (.iload_n 2, 1) := by decide +kernel
theorem dX6_givenFit_39 : decode cX6_givenFit 39 = .ok (.invokevirtual 107, 3) := by decide +kernel
theorem dX6_givenFit_42 : decode cX6_givenFit 42 = .ok (.ifCond .eq 7, 3) := by decide +kernel
theorem dX6_givenFit_45 : decode cX6_givenFit 45 = .ok (.iconst 1, 1) := by decide +kernel
theorem dX6_givenFit_46 : decode cX6_givenFit 46 = .ok (.goto 4, 3) := by decide +kernel
theorem dX6_givenFit_49 : decode cX6_givenFit 49 = .ok (.iconst 0, 1) := by decide +kernel
theorem dX6_givenFit_50 : decode cX6_givenFit 50 = .ok (.iadd, 1) := by decide +kernel
theorem dX6_givenFit_51 : decode cX6_givenFit 51 = .ok (.istore_n 1, 1) := by decide +kernel
theorem dX6_givenFit_52 : decode cX6_givenFit 52 = .ok (.iinc 2 1, 3) := by decide +kernel
theorem dX6_givenFit_55 : decode cX6_givenFit 55 = .ok (.goto (-51), 3) := by decide +kernel
theorem dX6_givenFit_58 : decode cX6_givenFit 58 = .ok (.iload_n 1, 1) := by decide +kernel
theorem dX6_givenFit_59 : decode cX6_givenFit 59 = .ok (.ireturn, 1) := by decide +kernel
theorem dX6_givenWrong_0 : decode cX6_givenWrong 0 = .ok (.iconst 0, 1) := by decide +kernel
theorem dX6_givenWrong_1 : decode cX6_givenWrong 1 = .ok (.istore_n 1, 1) := by decide +kernel
theorem dX6_givenWrong_2 : decode cX6_givenWrong 2 = .ok (.iconst 0, 1) := by decide +kernel
theorem dX6_givenWrong_3 : decode cX6_givenWrong 3 = .ok (.istore_n 2, 1) := by decide +kernel
theorem dX6_givenWrong_4 : decode cX6_givenWrong 4 = .ok (.iload_n 2, 1) := by decide +kernel
theorem dX6_givenWrong_5 : decode cX6_givenWrong 5 = .ok (.aload_n 0, 1) := by decide +kernel
theorem dX6_givenWrong_6 : decode cX6_givenWrong 6 = .ok (.getfield 77, 3) := by decide +kernel
theorem dX6_givenWrong_9 : decode cX6_givenWrong 9 = .ok (.if_icmp .ge 45, 3) := by decide +kernel
theorem dX6_givenWrong_12 : decode cX6_givenWrong 12 = .ok (.iload_n 1, 1) := by decide +kernel
theorem dX6_givenWrong_13 : decode cX6_givenWrong 13 = .ok (.aload_n 0, 1) := by decide +kernel
theorem dX6_givenWrong_14 : decode cX6_givenWrong 14 = .ok (.getfield 16, 3) := by decide +kernel
theorem dX6_givenWrong_17 : decode cX6_givenWrong 17 = .ok (.iconst 5, 1) := by decide +kernel
theorem dX6_givenWrong_18 : decode cX6_givenWrong 18 = .ok (.iload_n 2, 1) := by decide +kernel
theorem dX6_givenWrong_19 : decode cX6_givenWrong 19 = .ok (.imul, 1) := by decide +kernel
theorem dX6_givenWrong_20 : decode cX6_givenWrong 20 = .ok (.iconst 4, 1) := by decide +kernel
theorem dX6_givenWrong_21 : decode cX6_givenWrong 21 = .ok (.iadd, 1) := by decide +kernel
theorem dX6_givenWrong_22 : decode cX6_givenWrong 22 = .ok (.iaload, 1) := by decide +kernel
theorem dX6_givenWrong_23 : decode cX6_givenWrong 23 = .ok (.iconst (-1), 1) := by decide +kernel
theorem dX6_givenWrong_24 : decode cX6_givenWrong 24 = .ok (.if_icmp .ne 7, 3) := by decide +kernel
theorem dX6_givenWrong_27 : decode cX6_givenWrong 27 = .ok (.iconst 0, 1) := by decide +kernel
theorem dX6_givenWrong_28 : decode cX6_givenWrong 28 = .ok (.goto 18, 3) := by decide +kernel
theorem dX6_givenWrong_31 : decode cX6_givenWrong 31 = .ok (.aload_n 0, 1) := by decide +kernel
theorem dX6_givenWrong_32 : decode cX6_givenWrong 32 = .ok (.aload_n 0, 1) := by decide +kernel
theorem dX6_givenWrong_33 : decode cX6_givenWrong 33 = .ok (.getfield 16, 3) := by decide +kernel
theorem dX6_givenWrong_36 : decode cX6_givenWrong 36 = .ok (.iconst 5, 1) := by decide +kernel
theorem dX6_givenWrong_37 : decode cX6_givenWrong 37 = .ok (.iload_n 2, 1) := by decide +kernel
theorem dX6_givenWrong_38 : decode cX6_givenWrong 38 = .ok (.imul, 1) := by decide +kernel
theorem dX6_givenWrong_39 : decode cX6_givenWrong 39 = .ok (.iconst 4, 1) := by decide +kernel
theorem dX6_givenWrong_40 : decode cX6_givenWrong 40 = .ok (.iadd, 1) := by decide +kernel
theorem dX6_givenWrong_41 : decode cX6_givenWrong 41 = .ok (.iaload, 1) := by decide +kernel
theorem dX6_givenWrong_42 : decode cX6_givenWrong 42 = .ok (.iload_n 2, 1) := by decide +kernel
theorem dX6_givenWrong_43 : decode cX6_givenWrong 43 = .ok (.invokevirtual 99, 3) := by decide +kernel
theorem dX6_givenWrong_46 : decode cX6_givenWrong 46 = .ok (.iadd, 1) := by decide +kernel
theorem dX6_givenWrong_47 : decode cX6_givenWrong 47 = .ok (.istore_n 1, 1) := by decide +kernel
theorem dX6_givenWrong_48 : decode cX6_givenWrong 48 = .ok (.iinc 2 1, 3) := by decide +kernel
theorem dX6_givenWrong_51 : decode cX6_givenWrong 51 = .ok (.goto (-47), 3) := by decide +kernel
theorem dX6_givenWrong_54 : decode cX6_givenWrong 54 = .ok (.iload_n 1, 1) := by decide +kernel
theorem dX6_givenWrong_55 : decode cX6_givenWrong 55 = .ok (.ireturn, 1) := by decide +kernel
theorem dX6_countOf_0 : decode cX6_countOf 0 = .ok (.iload_n 1, 1) := by decide +kernel
theorem dX6_countOf_1 : decode cX6_countOf 1 = .ok (.tableswitch 114 0 10 #[59, 64, 69, 74, 79, 84, 89, 94, 99, 104, 109], 59) := by decide +kernel
theorem dX6_countOf_60 : decode cX6_countOf 60 = .ok (.aload_n 0, 1) := by decide +kernel
theorem dX6_countOf_61 : decode cX6_countOf 61 = .ok (.getfield 74, 3) := by decide +kernel
theorem dX6_countOf_64 : decode cX6_countOf 64 = .ok (.ireturn, 1) := by decide +kernel
theorem dX6_countOf_65 : decode cX6_countOf 65 = .ok (.aload_n 0, 1) := by decide +kernel
theorem dX6_countOf_66 : decode cX6_countOf 66 = .ok (.getfield 77, 3) := by decide +kernel
theorem dX6_countOf_69 : decode cX6_countOf 69 = .ok (.ireturn, 1) := by decide +kernel
theorem dX6_countOf_70 : decode cX6_countOf 70 = .ok (.aload_n 0, 1) := by decide +kernel
theorem dX6_countOf_71 : decode cX6_countOf 71 = .ok (.invokevirtual 145, 3) := by decide +kernel
theorem dX6_countOf_74 : decode cX6_countOf 74 = .ok (.ireturn, 1) := by decide +kernel
theorem dX6_countOf_75 : decode cX6_countOf 75 = .ok (.aload_n 0, 1) := by decide +kernel
theorem dX6_countOf_76 : decode cX6_countOf 76 = .ok (.invokevirtual 189, 3) := by decide +kernel
theorem dX6_countOf_79 : decode cX6_countOf 79 = .ok (.ireturn, 1) := by decide +kernel
theorem dX6_countOf_80 : decode cX6_countOf 80 = .ok (.aload_n 0, 1) := by decide +kernel
theorem dX6_countOf_81 : decode cX6_countOf 81 = .ok (.invokevirtual 192, 3) := by decide +kernel
theorem dX6_countOf_84 : decode cX6_countOf 84 = .ok (.ireturn, 1) := by decide +kernel
theorem dX6_countOf_85 : decode cX6_countOf 85 = .ok (.aload_n 0, 1) := by decide +kernel
theorem dX6_countOf_86 : decode cX6_countOf 86 = .ok (.getfield 80, 3) := by decide +kernel
theorem dX6_countOf_89 : decode cX6_countOf 89 = .ok (.ireturn, 1) := by decide +kernel
theorem dX6_countOf_90 : decode cX6_countOf 90 = .ok (.aload_n 0, 1) := by decide +kernel
theorem dX6_countOf_91 : decode cX6_countOf 91 = .ok (.getfield 83, 3) := by decide +kernel
theorem dX6_countOf_94 : decode cX6_countOf 94 = .ok (.ireturn, 1) := by decide +kernel
theorem dX6_countOf_95 : decode cX6_countOf 95 = .ok (.aload_n 0, 1) := by decide +kernel
theorem dX6_countOf_96 : decode cX6_countOf 96 = .ok (.getfield 86, 3) := by decide +kernel
theorem dX6_countOf_99 : decode cX6_countOf 99 = .ok (.ireturn, 1) := by decide +kernel
theorem dX6_countOf_100 : decode cX6_countOf 100 = .ok (.aload_n 0, 1) := by decide +kernel
theorem dX6_countOf_101 : decode cX6_countOf 101 = .ok (.getfield 89, 3) := by decide +kernel
theorem dX6_countOf_104 : decode cX6_countOf 104 = .ok (.ireturn, 1) := by decide +kernel
theorem dX6_countOf_105 : decode cX6_countOf 105 = .ok (.aload_n 0, 1) := by decide +kernel
theorem dX6_countOf_106 : decode cX6_countOf 106 = .ok (.getfield 53, 3) := by decide +kernel
theorem dX6_countOf_109 : decode cX6_countOf 109 = .ok (.ireturn, 1) := by decide +kernel
theorem dX6_countOf_110 : decode cX6_countOf 110 = .ok (.aload_n 0, 1) := by decide +kernel
theorem dX6_countOf_111 : decode cX6_countOf 111 = .ok (.getfield 92, 3) := by decide +kernel
theorem dX6_countOf_114 : decode cX6_countOf 114 = .ok (.ireturn, 1) := by decide +kernel
theorem dX6_countOf_115 : decode cX6_countOf 115 = .ok (.bipush (-102), 2) := by decide +kernel
theorem dX6_countOf_117 : decode cX6_countOf 117 = .ok (.ireturn, 1) := by decide +kernel
theorem dX6_count_0 : decode cX6_count 0 = .ok (.aload_n 0, 1) := by decide +kernel
theorem dX6_count_1 : decode cX6_count 1 = .ok (.iload_n 1, 1) := by decide +kernel
theorem dX6_count_2 : decode cX6_count 2 = .ok (.invokevirtual 195, 3) := by decide +kernel
theorem dX6_count_5 : decode cX6_count 5 = .ok (.ireturn, 1) := by decide +kernel
theorem dX6_say_0 : decode cX6_say 0 = .ok (.aload_n 0, 1) := by decide +kernel
theorem dX6_say_1 : decode cX6_say 1 = .ok (.ldc2_w 198, 3) := by decide +kernel
theorem dX6_say_4 : decode cX6_say 4 = .ok (.aload_n 0, 1) := by decide +kernel
theorem dX6_say_5 : decode cX6_say 5 = .ok (.getfield 200, 3) := by decide +kernel
theorem dX6_say_8 : decode cX6_say 8 = .ok (.lmul, 1) := by decide +kernel
theorem dX6_say_9 : decode cX6_say 9 = .ok (.lload_n 1, 1) := by decide +kernel
theorem dX6_say_10 : decode cX6_say 10 = .ok (.ladd, 1) := by decide +kernel
theorem dX6_say_11 : decode cX6_say 11 = .ok (.putfield 200, 3) := by decide +kernel
theorem dX6_say_14 : decode cX6_say 14 = .ok (.return_, 1) := by decide +kernel
theorem dX6_digest_0 : decode cX6_digest 0 = .ok (.aload_n 0, 1) := by decide +kernel
theorem dX6_digest_1 : decode cX6_digest 1 = .ok (.ldc2_w 204, 3) := by decide +kernel
theorem dX6_digest_4 : decode cX6_digest 4 = .ok (.putfield 200, 3) := by decide +kernel
theorem dX6_digest_7 : decode cX6_digest 7 = .ok (.iconst 0, 1) := by decide +kernel
theorem dX6_digest_8 : decode cX6_digest 8 = .ok (.istore_n 1, 1) := by decide +kernel
theorem dX6_digest_9 : decode cX6_digest 9 = .ok (.iload_n 1, 1) := by decide +kernel
theorem dX6_digest_10 : decode cX6_digest 10 = .ok (.aload_n 0, 1) := by decide +kernel
theorem dX6_digest_11 : decode cX6_digest 11 = .ok (.getfield 74, 3) := by decide +kernel
theorem dX6_digest_14 : decode cX6_digest 14 = .ok (.if_icmp .ge 34, 3) := by decide +kernel
theorem dX6_digest_17 : decode cX6_digest 17 = .ok (.iconst 0, 1) := by decide +kernel
theorem dX6_digest_18 : decode cX6_digest 18 = .ok (.istore_n 2, 1) := by decide +kernel
theorem dX6_digest_19 : decode cX6_digest 19 = .ok (.iload_n 2, 1) := by decide +kernel
theorem dX6_digest_20 : decode cX6_digest 20 = .ok (.bipush 7, 2) := by decide +kernel
theorem dX6_digest_22 : decode cX6_digest 22 = .ok (.if_icmp .ge 20, 3) := by decide +kernel
theorem dX6_digest_25 : decode cX6_digest 25 = .ok (.aload_n 0, 1) := by decide +kernel
theorem dX6_digest_26 : decode cX6_digest 26 = .ok (.aload_n 0, 1) := by decide +kernel
theorem dX6_digest_27 : decode cX6_digest 27 = .ok (.iload_n 1, 1) := by decide +kernel
theorem dX6_digest_28 : decode cX6_digest 28 = .ok (.iload_n 2, 1) := by decide +kernel
theorem dX6_digest_29 : decode cX6_digest 29 = .ok (.invokevirtual 122, 3) := by decide +kernel
theorem dX6_digest_32 : decode cX6_digest 32 = .ok (.i2l, 1) := by decide +kernel
theorem dX6_digest_33 : decode cX6_digest 33 = .ok (.invokevirtual 206, 3) := by decide +kernel
theorem dX6_digest_36 : decode cX6_digest 36 = .ok (.iinc 2 1, 3) := by decide +kernel
theorem dX6_digest_39 : decode cX6_digest 39 = .ok (.goto (-20), 3) := by decide +kernel
theorem dX6_digest_42 : decode cX6_digest 42 = .ok (.iinc 1 1, 3) := by decide +kernel
theorem dX6_digest_45 : decode cX6_digest 45 = .ok (.goto (-36), 3) := by decide +kernel
theorem dX6_digest_48 : decode cX6_digest 48 = .ok (.iconst 0, 1) := by decide +kernel
theorem dX6_digest_49 : decode cX6_digest 49 = .ok (.istore_n 1, 1) := by decide +kernel
theorem dX6_digest_50 : decode cX6_digest 50 = .ok (.iload_n 1, 1) := by decide +kernel
theorem dX6_digest_51 : decode cX6_digest 51 = .ok (.aload_n 0, 1) := by decide +kernel
theorem dX6_digest_52 : decode cX6_digest 52 = .ok (.getfield 77, 3) := by decide +kernel
theorem dX6_digest_55 : decode cX6_digest 55 = .ok (.if_icmp .ge 61, 3) := by decide +kernel
theorem dX6_digest_58 : decode cX6_digest 58 = .ok (.iconst 0, 1) := by decide +kernel
theorem dX6_digest_59 : decode cX6_digest 59 = .ok (.istore_n 2, 1) := by decide +kernel
theorem dX6_digest_60 : decode cX6_digest 60 = .ok (.iload_n 2, 1) := by decide +kernel
theorem dX6_digest_61 : decode cX6_digest 61 = .ok (.bipush 7, 2) := by decide +kernel
theorem dX6_digest_63 : decode cX6_digest 63 = .ok (.if_icmp .ge 20, 3) := by decide +kernel
theorem dX6_digest_66 : decode cX6_digest 66 = .ok (.aload_n 0, 1) := by decide +kernel
theorem dX6_digest_67 : decode cX6_digest 67 = .ok (.aload_n 0, 1) := by decide +kernel
theorem dX6_digest_68 : decode cX6_digest 68 = .ok (.iload_n 1, 1) := by decide +kernel
theorem dX6_digest_69 : decode cX6_digest 69 = .ok (.iload_n 2, 1) := by decide +kernel
theorem dX6_digest_70 : decode cX6_digest 70 = .ok (.invokevirtual 134, 3) := by decide +kernel
theorem dX6_digest_73 : decode cX6_digest 73 = .ok (.i2l, 1) := by decide +kernel
theorem dX6_digest_74 : decode cX6_digest 74 = .ok (.invokevirtual 206, 3) := by decide +kernel
theorem dX6_digest_77 : decode cX6_digest 77 = .ok (.iinc 2 1, 3) := by decide +kernel
theorem dX6_digest_80 : decode cX6_digest 80 = .ok (.goto (-20), 3) := by decide +kernel
theorem dX6_digest_83 : decode cX6_digest 83 = .ok (.iconst 0, 1) := by decide +kernel
theorem dX6_digest_84 : decode cX6_digest 84 = .ok (.istore_n 2, 1) := by decide +kernel
theorem dX6_digest_85 : decode cX6_digest 85 = .ok (.iload_n 2, 1) := by decide +kernel
theorem dX6_digest_86 : decode cX6_digest 86 = .ok (.aload_n 0, 1) := by decide +kernel
theorem dX6_digest_87 : decode cX6_digest 87 = .ok (.getfield 74, 3) := by decide +kernel
theorem dX6_digest_90 : decode cX6_digest 90 = .ok (.if_icmp .ge 20, 3) := by decide +kernel
theorem dX6_digest_93 : decode cX6_digest 93 = .ok (.aload_n 0, 1) := by decide +kernel
theorem dX6_digest_94 : decode cX6_digest 94 = .ok (.aload_n 0, 1) := by decide +kernel
theorem dX6_digest_95 : decode cX6_digest 95 = .ok (.iload_n 2, 1) := by decide +kernel
theorem dX6_digest_96 : decode cX6_digest 96 = .ok (.iload_n 1, 1) := by decide +kernel
theorem dX6_digest_97 : decode cX6_digest 97 = .ok (.invokevirtual 99, 3) := by decide +kernel
theorem dX6_digest_100 : decode cX6_digest 100 = .ok (.i2l, 1) := by decide +kernel
theorem dX6_digest_101 : decode cX6_digest 101 = .ok (.invokevirtual 206, 3) := by decide +kernel
theorem dX6_digest_104 : decode cX6_digest 104 = .ok (.iinc 2 1, 3) := by decide +kernel
theorem dX6_digest_107 : decode cX6_digest 107 = .ok (.goto (-22), 3) := by decide +kernel
theorem dX6_digest_110 : decode cX6_digest 110 = .ok (.iinc 1 1, 3) := by decide +kernel
theorem dX6_digest_113 : decode cX6_digest 113 = .ok (.goto (-63), 3) := by decide +kernel
theorem dX6_digest_116 : decode cX6_digest 116 = .ok (.aload_n 0, 1) := by decide +kernel
theorem dX6_digest_117 : decode cX6_digest 117 = .ok (.invokevirtual 141, 3) := by decide +kernel
theorem dX6_digest_120 : decode cX6_digest 120 = .ok (.ifCond .ne 48, 3) := by decide +kernel
theorem dX6_digest_123 : decode cX6_digest 123 = .ok (.aload_n 0, 1) := by decide +kernel
theorem dX6_digest_124 : decode cX6_digest 124 = .ok (.aload_n 0, 1) := by decide +kernel
theorem dX6_digest_125 : decode cX6_digest 125 = .ok (.iconst 0, 1) := by decide +kernel
theorem dX6_digest_126 : decode cX6_digest 126 = .ok (.invokevirtual 159, 3) := by decide +kernel
theorem dX6_digest_129 : decode cX6_digest 129 = .ok (.i2l, 1) := by decide +kernel
theorem dX6_digest_130 : decode cX6_digest 130 = .ok (.invokevirtual 206, 3) := by decide +kernel
theorem dX6_digest_133 : decode cX6_digest 133 = .ok (.aload_n 0, 1) := by decide +kernel
theorem dX6_digest_134 : decode cX6_digest 134 = .ok (.aload_n 0, 1) := by decide +kernel
theorem dX6_digest_135 : decode cX6_digest 135 = .ok (.iconst 1, 1) := by decide +kernel
theorem dX6_digest_136 : decode cX6_digest 136 = .ok (.invokevirtual 159, 3) := by decide +kernel
theorem dX6_digest_139 : decode cX6_digest 139 = .ok (.i2l, 1) := by decide +kernel
theorem dX6_digest_140 : decode cX6_digest 140 = .ok (.invokevirtual 206, 3) := by decide +kernel
theorem dX6_digest_143 : decode cX6_digest 143 = .ok (.bipush 10, 2) := by decide +kernel
theorem dX6_digest_145 : decode cX6_digest 145 = .ok (.istore_n 1, 1) := by decide +kernel
theorem dX6_digest_146 : decode cX6_digest 146 = .ok (.iload_n 1, 1) := by decide +kernel
theorem dX6_digest_147 : decode cX6_digest 147 = .ok (.bipush 13, 2) := by decide +kernel
theorem dX6_digest_149 : decode cX6_digest 149 = .ok (.if_icmp .ge 19, 3) := by decide +kernel
theorem dX6_digest_152 : decode cX6_digest 152 = .ok (.aload_n 0, 1) := by decide +kernel
theorem dX6_digest_153 : decode cX6_digest 153 = .ok (.aload_n 0, 1) := by decide +kernel
theorem dX6_digest_154 : decode cX6_digest 154 = .ok (.iload_n 1, 1) := by decide +kernel
theorem dX6_digest_155 : decode cX6_digest 155 = .ok (.invokevirtual 159, 3) := by decide +kernel
theorem dX6_digest_158 : decode cX6_digest 158 = .ok (.i2l, 1) := by decide +kernel
theorem dX6_digest_159 : decode cX6_digest 159 = .ok (.invokevirtual 206, 3) := by decide +kernel
theorem dX6_digest_162 : decode cX6_digest 162 = .ok (.iinc 1 1, 3) := by decide +kernel
theorem dX6_digest_165 : decode cX6_digest 165 = .ok (.goto (-19), 3) := by decide +kernel
theorem dX6_digest_168 : decode cX6_digest 168 = .ok (.iconst 0, 1) := by decide +kernel
theorem dX6_digest_169 : decode cX6_digest 169 = .ok (.istore_n 1, 1) := by decide +kernel
theorem dX6_digest_170 : decode cX6_digest 170 = .ok (.iload_n 1, 1) := by decide +kernel
theorem dX6_digest_171 : decode cX6_digest 171 = .ok (.aload_n 0, 1) := by decide +kernel
theorem dX6_digest_172 : decode cX6_digest 172 = .ok (.getfield 53, 3) := by decide +kernel
theorem dX6_digest_175 : decode cX6_digest 175 = .ok (.if_icmp .ge 20, 3) := by decide +kernel
theorem dX6_digest_178 : decode cX6_digest 178 = .ok (.aload_n 0, 1) := by decide +kernel
theorem dX6_digest_179 : decode cX6_digest 179 = .ok (.aload_n 0, 1) := by decide +kernel
theorem dX6_digest_180 : decode cX6_digest 180 = .ok (.getfield 7, 3) := by decide +kernel
theorem dX6_digest_183 : decode cX6_digest 183 = .ok (.iload_n 1, 1) := by decide +kernel
theorem dX6_digest_184 : decode cX6_digest 184 = .ok (.iaload, 1) := by decide +kernel
theorem dX6_digest_185 : decode cX6_digest 185 = .ok (.i2l, 1) := by decide +kernel
theorem dX6_digest_186 : decode cX6_digest 186 = .ok (.invokevirtual 206, 3) := by decide +kernel
theorem dX6_digest_189 : decode cX6_digest 189 = .ok (.iinc 1 1, 3) := by decide +kernel
theorem dX6_digest_192 : decode cX6_digest 192 = .ok (.goto (-22), 3) := by decide +kernel
theorem dX6_digest_195 : decode cX6_digest 195 = .ok (.iconst 0, 1) := by decide +kernel
theorem dX6_digest_196 : decode cX6_digest 196 = .ok (.istore_n 1, 1) := by decide +kernel
theorem dX6_digest_197 : decode cX6_digest 197 = .ok (.iload_n 1, 1) := by decide +kernel
theorem dX6_digest_198 : decode cX6_digest 198 = .ok (.bipush 11, 2) := by decide +kernel
theorem dX6_digest_200 : decode cX6_digest 200 = .ok (.if_icmp .ge 19, 3) := by decide +kernel
theorem dX6_digest_203 : decode cX6_digest 203 = .ok (.aload_n 0, 1) := by decide +kernel
theorem dX6_digest_204 : decode cX6_digest 204 = .ok (.aload_n 0, 1) := by decide +kernel
theorem dX6_digest_205 : decode cX6_digest 205 = .ok (.iload_n 1, 1) := by decide +kernel
theorem dX6_digest_206 : decode cX6_digest 206 = .ok (.invokevirtual 195, 3) := by decide +kernel
theorem dX6_digest_209 : decode cX6_digest 209 = .ok (.i2l, 1) := by decide +kernel
theorem dX6_digest_210 : decode cX6_digest 210 = .ok (.invokevirtual 206, 3) := by decide +kernel
theorem dX6_digest_213 : decode cX6_digest 213 = .ok (.iinc 1 1, 3) := by decide +kernel
theorem dX6_digest_216 : decode cX6_digest 216 = .ok (.goto (-19), 3) := by decide +kernel
theorem dX6_digest_219 : decode cX6_digest 219 = .ok (.aload_n 0, 1) := by decide +kernel
theorem dX6_digest_220 : decode cX6_digest 220 = .ok (.getfield 200, 3) := by decide +kernel
theorem dX6_digest_223 : decode cX6_digest 223 = .ok (.lreturn, 1) := by decide +kernel
theorem dJ6_bitCount_0f7a4_0 : decode cJ6_bitCount_0f7a4 0 = .ok (.iload_n 0, 1) := by decide +kernel
theorem dJ6_bitCount_0f7a4_1 : decode cJ6_bitCount_0f7a4 1 = .ok (.iload_n 0, 1) := by decide +kernel
theorem dJ6_bitCount_0f7a4_2 : decode cJ6_bitCount_0f7a4 2 = .ok (.iconst 1, 1) := by decide +kernel
theorem dJ6_bitCount_0f7a4_3 : decode cJ6_bitCount_0f7a4 3 = .ok (.iushr, 1) := by decide +kernel
theorem dJ6_bitCount_0f7a4_4 : decode cJ6_bitCount_0f7a4 4 = .ok (.ldc_w 265, 3) := by decide +kernel
theorem dJ6_bitCount_0f7a4_7 : decode cJ6_bitCount_0f7a4 7 = .ok (.iand, 1) := by decide +kernel
theorem dJ6_bitCount_0f7a4_8 : decode cJ6_bitCount_0f7a4 8 = .ok (.isub, 1) := by decide +kernel
theorem dJ6_bitCount_0f7a4_9 : decode cJ6_bitCount_0f7a4 9 = .ok (.istore_n 0, 1) := by decide +kernel
theorem dJ6_bitCount_0f7a4_10 : decode cJ6_bitCount_0f7a4 10 = .ok (.iload_n 0, 1) := by decide +kernel
theorem dJ6_bitCount_0f7a4_11 : decode cJ6_bitCount_0f7a4 11 = .ok (.ldc_w 266, 3) := by decide +kernel
theorem dJ6_bitCount_0f7a4_14 : decode cJ6_bitCount_0f7a4 14 = .ok (.iand, 1) := by decide +kernel
theorem dJ6_bitCount_0f7a4_15 : decode cJ6_bitCount_0f7a4 15 = .ok (.iload_n 0, 1) := by decide +kernel
theorem dJ6_bitCount_0f7a4_16 : decode cJ6_bitCount_0f7a4 16 = .ok (.iconst 2, 1) := by decide +kernel
theorem dJ6_bitCount_0f7a4_17 : decode cJ6_bitCount_0f7a4 17 = .ok (.iushr, 1) := by decide +kernel
theorem dJ6_bitCount_0f7a4_18 : decode cJ6_bitCount_0f7a4 18 = .ok (.ldc_w 266, 3) := by decide +kernel
theorem dJ6_bitCount_0f7a4_21 : decode cJ6_bitCount_0f7a4 21 = .ok (.iand, 1) := by decide +kernel
theorem dJ6_bitCount_0f7a4_22 : decode cJ6_bitCount_0f7a4 22 = .ok (.iadd, 1) := by decide +kernel
theorem dJ6_bitCount_0f7a4_23 : decode cJ6_bitCount_0f7a4 23 = .ok (.istore_n 0, 1) := by decide +kernel
theorem dJ6_bitCount_0f7a4_24 : decode cJ6_bitCount_0f7a4 24 = .ok (.iload_n 0, 1) := by decide +kernel
theorem dJ6_bitCount_0f7a4_25 : decode cJ6_bitCount_0f7a4 25 = .ok (.iload_n 0, 1) := by decide +kernel
theorem dJ6_bitCount_0f7a4_26 : decode cJ6_bitCount_0f7a4 26 = .ok (.iconst 4, 1) := by decide +kernel
theorem dJ6_bitCount_0f7a4_27 : decode cJ6_bitCount_0f7a4 27 = .ok (.iushr, 1) := by decide +kernel
theorem dJ6_bitCount_0f7a4_28 : decode cJ6_bitCount_0f7a4 28 = .ok (.iadd, 1) := by decide +kernel
theorem dJ6_bitCount_0f7a4_29 : decode cJ6_bitCount_0f7a4 29 = .ok (.ldc_w 267, 3) := by decide +kernel
theorem dJ6_bitCount_0f7a4_32 : decode cJ6_bitCount_0f7a4 32 = .ok (.iand, 1) := by decide +kernel
theorem dJ6_bitCount_0f7a4_33 : decode cJ6_bitCount_0f7a4 33 = .ok (.istore_n 0, 1) := by decide +kernel
theorem dJ6_bitCount_0f7a4_34 : decode cJ6_bitCount_0f7a4 34 = .ok (.iload_n 0, 1) := by decide +kernel
theorem dJ6_bitCount_0f7a4_35 : decode cJ6_bitCount_0f7a4 35 = .ok (.iload_n 0, 1) := by decide +kernel
theorem dJ6_bitCount_0f7a4_36 : decode cJ6_bitCount_0f7a4 36 = .ok (.bipush 8, 2) := by decide +kernel
theorem dJ6_bitCount_0f7a4_38 : decode cJ6_bitCount_0f7a4 38 = .ok (.iushr, 1) := by decide +kernel
theorem dJ6_bitCount_0f7a4_39 : decode cJ6_bitCount_0f7a4 39 = .ok (.iadd, 1) := by decide +kernel
theorem dJ6_bitCount_0f7a4_40 : decode cJ6_bitCount_0f7a4 40 = .ok (.istore_n 0, 1) := by decide +kernel
theorem dJ6_bitCount_0f7a4_41 : decode cJ6_bitCount_0f7a4 41 = .ok (.iload_n 0, 1) := by decide +kernel
theorem dJ6_bitCount_0f7a4_42 : decode cJ6_bitCount_0f7a4 42 = .ok (.iload_n 0, 1) := by decide +kernel
theorem dJ6_bitCount_0f7a4_43 : decode cJ6_bitCount_0f7a4 43 = .ok (.bipush 16, 2) := by decide +kernel
theorem dJ6_bitCount_0f7a4_45 : decode cJ6_bitCount_0f7a4 45 = .ok (.iushr, 1) := by decide +kernel
theorem dJ6_bitCount_0f7a4_46 : decode cJ6_bitCount_0f7a4 46 = .ok (.iadd, 1) := by decide +kernel
theorem dJ6_bitCount_0f7a4_47 : decode cJ6_bitCount_0f7a4 47 = .ok (.istore_n 0, 1) := by decide +kernel
theorem dJ6_bitCount_0f7a4_48 : decode cJ6_bitCount_0f7a4 48 = .ok (.iload_n 0, 1) := by decide +kernel
theorem dJ6_bitCount_0f7a4_49 : decode cJ6_bitCount_0f7a4 49 = .ok (.bipush 63, 2) := by decide +kernel
theorem dJ6_bitCount_0f7a4_51 : decode cJ6_bitCount_0f7a4 51 = .ok (.iand, 1) := by decide +kernel
theorem dJ6_bitCount_0f7a4_52 : decode cJ6_bitCount_0f7a4 52 = .ok (.ireturn, 1) := by decide +kernel
theorem dJ0_length_8abf5_0 : decode cJ0_length_8abf5 0 = .ok (.aload_n 0, 1) := by decide +kernel
theorem dJ0_length_8abf5_1 : decode cJ0_length_8abf5 1 = .ok (.getfield 9, 3) := by decide +kernel
theorem dJ0_length_8abf5_4 : decode cJ0_length_8abf5 4 = .ok (.arraylength, 1) := by decide +kernel
theorem dJ0_length_8abf5_5 : decode cJ0_length_8abf5 5 = .ok (.aload_n 0, 1) := by decide +kernel
theorem dJ0_length_8abf5_6 : decode cJ0_length_8abf5 6 = .ok (.invokevirtual 335, 3) := by decide +kernel
theorem dJ0_length_8abf5_9 : decode cJ0_length_8abf5 9 = .ok (.ishr, 1) := by decide +kernel
theorem dJ0_length_8abf5_10 : decode cJ0_length_8abf5 10 = .ok (.ireturn, 1) := by decide +kernel
theorem dJ0_indexOf_0f7a4_0 : decode cJ0_indexOf_0f7a4 0 = .ok (.aload_n 0, 1) := by decide +kernel
theorem dJ0_indexOf_0f7a4_1 : decode cJ0_indexOf_0f7a4 1 = .ok (.iload_n 1, 1) := by decide +kernel
theorem dJ0_indexOf_0f7a4_2 : decode cJ0_indexOf_0f7a4 2 = .ok (.iconst 0, 1) := by decide +kernel
theorem dJ0_indexOf_0f7a4_3 : decode cJ0_indexOf_0f7a4 3 = .ok (.invokevirtual 633, 3) := by decide +kernel
theorem dJ0_indexOf_0f7a4_6 : decode cJ0_indexOf_0f7a4 6 = .ok (.ireturn, 1) := by decide +kernel
theorem dJ0_indexOf_7cf53_0 : decode cJ0_indexOf_7cf53 0 = .ok (.aload_n 0, 1) := by decide +kernel
theorem dJ0_indexOf_7cf53_1 : decode cJ0_indexOf_7cf53 1 = .ok (.invokevirtual 492, 3) := by decide +kernel
theorem dJ0_indexOf_7cf53_4 : decode cJ0_indexOf_7cf53 4 = .ok (.ifCond .eq 19, 3) := by decide +kernel
theorem dJ0_indexOf_7cf53_7 : decode cJ0_indexOf_7cf53 7 = .ok (.aload_n 0, 1) := by decide +kernel
theorem dJ0_indexOf_7cf53_8 : decode cJ0_indexOf_7cf53 8 = .ok (.getfield 9, 3) := by decide +kernel
theorem dJ0_indexOf_7cf53_11 : decode cJ0_indexOf_7cf53 11 = .ok (.iload_n 1, 1) := by decide +kernel
theorem dJ0_indexOf_7cf53_12 : decode cJ0_indexOf_7cf53 12 = .ok (.iload_n 2, 1) := by decide +kernel
theorem dJ0_indexOf_7cf53_13 : decode cJ0_indexOf_7cf53 13 = .ok (.aload_n 0, 1) := by decide +kernel
theorem dJ0_indexOf_7cf53_14 : decode cJ0_indexOf_7cf53 14 = .ok (.invokevirtual 505, 3) := by decide +kernel
theorem dJ0_indexOf_7cf53_17 : decode cJ0_indexOf_7cf53 17 = .ok (.invokestatic 637, 3) := by decide +kernel
theorem dJ0_indexOf_7cf53_20 : decode cJ0_indexOf_7cf53 20 = .ok (.goto 16, 3) := by decide +kernel
theorem dJ0_indexOf_7cf53_23 : decode cJ0_indexOf_7cf53 23 = .ok (.aload_n 0, 1) := by decide +kernel
theorem dJ0_indexOf_7cf53_24 : decode cJ0_indexOf_7cf53 24 = .ok (.getfield 9, 3) := by decide +kernel
theorem dJ0_indexOf_7cf53_27 : decode cJ0_indexOf_7cf53 27 = .ok (.iload_n 1, 1) := by decide +kernel
theorem dJ0_indexOf_7cf53_28 : decode cJ0_indexOf_7cf53 28 = .ok (.iload_n 2, 1) := by decide +kernel
theorem dJ0_indexOf_7cf53_29 : decode cJ0_indexOf_7cf53 29 = .ok (.aload_n 0, 1) := by decide +kernel
theorem dJ0_indexOf_7cf53_30 : decode cJ0_indexOf_7cf53 30 = .ok (.invokevirtual 505, 3) := by decide +kernel
theorem dJ0_indexOf_7cf53_33 : decode cJ0_indexOf_7cf53 33 = .ok (.invokestatic 640, 3) := by decide +kernel
theorem dJ0_indexOf_7cf53_36 : decode cJ0_indexOf_7cf53 36 = .ok (.ireturn, 1) := by decide +kernel
theorem dJ0_coder_7d493_0 : decode cJ0_coder_7d493 0 = .ok (.getstatic 38, 3) := by decide +kernel
theorem dJ0_coder_7d493_3 : decode cJ0_coder_7d493 3 = .ok (.ifCond .eq 10, 3) := by decide +kernel
theorem dJ0_coder_7d493_6 : decode cJ0_coder_7d493 6 = .ok (.aload_n 0, 1) := by decide +kernel
theorem dJ0_coder_7d493_7 : decode cJ0_coder_7d493 7 = .ok (.getfield 15, 3) := by decide +kernel
theorem dJ0_coder_7d493_10 : decode cJ0_coder_7d493 10 = .ok (.goto 4, 3) := by decide +kernel
theorem dJ0_coder_7d493_13 : decode cJ0_coder_7d493 13 = .ok (.iconst 1, 1) := by decide +kernel
theorem dJ0_coder_7d493_14 : decode cJ0_coder_7d493 14 = .ok (.ireturn, 1) := by decide +kernel
theorem dJ0_isLatin1_aae02_0 : decode cJ0_isLatin1_aae02 0 = .ok (.getstatic 38, 3) := by decide +kernel
theorem dJ0_isLatin1_aae02_3 : decode cJ0_isLatin1_aae02 3 = .ok (.ifCond .eq 14, 3) := by decide +kernel
theorem dJ0_isLatin1_aae02_6 : decode cJ0_isLatin1_aae02 6 = .ok (.aload_n 0, 1) := by decide +kernel
theorem dJ0_isLatin1_aae02_7 : decode cJ0_isLatin1_aae02 7 = .ok (.getfield 15, 3) := by decide +kernel
theorem dJ0_isLatin1_aae02_10 : decode cJ0_isLatin1_aae02 10 = .ok (.ifCond .ne 7, 3) := by decide +kernel
theorem dJ0_isLatin1_aae02_13 : decode cJ0_isLatin1_aae02 13 = .ok (.iconst 1, 1) := by decide +kernel
theorem dJ0_isLatin1_aae02_14 : decode cJ0_isLatin1_aae02 14 = .ok (.goto 4, 3) := by decide +kernel
theorem dJ0_isLatin1_aae02_17 : decode cJ0_isLatin1_aae02 17 = .ok (.iconst 0, 1) := by decide +kernel
theorem dJ0_isLatin1_aae02_18 : decode cJ0_isLatin1_aae02 18 = .ok (.ireturn, 1) := by decide +kernel
theorem dJ1_canEncode_9a6ad_0 : decode cJ1_canEncode_9a6ad 0 = .ok (.iload_n 0, 1) := by decide +kernel
theorem dJ1_canEncode_9a6ad_1 : decode cJ1_canEncode_9a6ad 1 = .ok (.ifCond .lt 14, 3) := by decide +kernel
theorem dJ1_canEncode_9a6ad_4 : decode cJ1_canEncode_9a6ad 4 = .ok (.iload_n 0, 1) := by decide +kernel
theorem dJ1_canEncode_9a6ad_5 : decode cJ1_canEncode_9a6ad 5 = .ok (.sipush 255, 3) := by decide +kernel
theorem dJ1_canEncode_9a6ad_8 : decode cJ1_canEncode_9a6ad 8 = .ok (.if_icmp .gt 7, 3) := by decide +kernel
theorem dJ1_canEncode_9a6ad_11 : decode cJ1_canEncode_9a6ad 11 = .ok (.iconst 1, 1) := by decide +kernel
theorem dJ1_canEncode_9a6ad_12 : decode cJ1_canEncode_9a6ad 12 = .ok (.goto 4, 3) := by decide +kernel
theorem dJ1_canEncode_9a6ad_15 : decode cJ1_canEncode_9a6ad 15 = .ok (.iconst 0, 1) := by decide +kernel
theorem dJ1_canEncode_9a6ad_16 : decode cJ1_canEncode_9a6ad 16 = .ok (.ireturn, 1) := by decide +kernel
theorem dJ1_indexOf_4cfef_0 : decode cJ1_indexOf_4cfef 0 = .ok (.iload_n 1, 1) := by decide +kernel
theorem dJ1_indexOf_4cfef_1 : decode cJ1_indexOf_4cfef 1 = .ok (.invokestatic 88, 3) := by decide +kernel
theorem dJ1_indexOf_4cfef_4 : decode cJ1_indexOf_4cfef 4 = .ok (.ifCond .ne 5, 3) := by decide +kernel
theorem dJ1_indexOf_4cfef_7 : decode cJ1_indexOf_4cfef 7 = .ok (.iconst (-1), 1) := by decide +kernel
theorem dJ1_indexOf_4cfef_8 : decode cJ1_indexOf_4cfef 8 = .ok (.ireturn, 1) := by decide +kernel
theorem dJ1_indexOf_4cfef_9 : decode cJ1_indexOf_4cfef 9 = .ok (.iload_n 2, 1) := by decide +kernel
theorem dJ1_indexOf_4cfef_10 : decode cJ1_indexOf_4cfef 10 = .ok (.iconst 0, 1) := by decide +kernel
theorem dJ1_indexOf_4cfef_11 : decode cJ1_indexOf_4cfef 11 = .ok (.invokestatic 92, 3) := by decide +kernel
theorem dJ1_indexOf_4cfef_14 : decode cJ1_indexOf_4cfef 14 = .ok (.istore_n 2, 1) := by decide +kernel
theorem dJ1_indexOf_4cfef_15 : decode cJ1_indexOf_4cfef 15 = .ok (.iload_n 3, 1) := by decide +kernel
theorem dJ1_indexOf_4cfef_16 : decode cJ1_indexOf_4cfef 16 = .ok (.aload_n 0, 1) := by decide +kernel
theorem dJ1_indexOf_4cfef_17 : decode cJ1_indexOf_4cfef 17 = .ok (.arraylength, 1) := by decide +kernel
theorem dJ1_indexOf_4cfef_18 : decode cJ1_indexOf_4cfef 18 = .ok (.invokestatic 38, 3) := by decide +kernel
theorem dJ1_indexOf_4cfef_21 : decode cJ1_indexOf_4cfef 21 = .ok (.istore_n 3, 1) := by decide +kernel
theorem dJ1_indexOf_4cfef_22 : decode cJ1_indexOf_4cfef 22 = .ok (.iload_n 2, 1) := by decide +kernel
theorem dJ1_indexOf_4cfef_23 : decode cJ1_indexOf_4cfef 23 = .ok (.iload_n 3, 1) := by decide +kernel
theorem dJ1_indexOf_4cfef_24 : decode cJ1_indexOf_4cfef 24 = .ok (.if_icmp .lt 5, 3) := by decide +kernel
theorem dJ1_indexOf_4cfef_27 : decode cJ1_indexOf_4cfef 27 = .ok (.iconst (-1), 1) := by decide +kernel
theorem dJ1_indexOf_4cfef_28 : decode cJ1_indexOf_4cfef 28 = .ok (.ireturn, 1) := by decide +kernel
theorem dJ1_indexOf_4cfef_29 : decode cJ1_indexOf_4cfef 29 = .ok (.aload_n 0, 1) := by decide +kernel
theorem dJ1_indexOf_4cfef_30 : decode cJ1_indexOf_4cfef 30 = .ok (.iload_n 1, 1) := by decide +kernel
theorem dJ1_indexOf_4cfef_31 : decode cJ1_indexOf_4cfef 31 = .ok (.iload_n 2, 1) := by decide +kernel
theorem dJ1_indexOf_4cfef_32 : decode cJ1_indexOf_4cfef 32 = .ok (.iload_n 3, 1) := by decide +kernel
theorem dJ1_indexOf_4cfef_33 : decode cJ1_indexOf_4cfef 33 = .ok (.invokestatic 95, 3) := by decide +kernel
theorem dJ1_indexOf_4cfef_36 : decode cJ1_indexOf_4cfef 36 = .ok (.ireturn, 1) := by decide +kernel
theorem dJ1_indexOfChar_4cfef_0 : decode cJ1_indexOfChar_4cfef 0 = .ok (.iload_n 1, 1) := by decide +kernel
theorem dJ1_indexOfChar_4cfef_1 : decode cJ1_indexOfChar_4cfef 1 = .ok (.i2b, 1) := by decide +kernel
theorem dJ1_indexOfChar_4cfef_2 : decode cJ1_indexOfChar_4cfef 2 = .ok (.istore 4, 2) := by decide +kernel
theorem dJ1_indexOfChar_4cfef_4 : decode cJ1_indexOfChar_4cfef 4 = .ok (.iload_n 2, 1) := by decide +kernel
theorem dJ1_indexOfChar_4cfef_5 : decode cJ1_indexOfChar_4cfef 5 = .ok (.istore 5, 2) := by decide +kernel
theorem dJ1_indexOfChar_4cfef_7 : decode cJ1_indexOfChar_4cfef 7 = .ok (.iload 5, 2) := by decide +kernel
theorem dJ1_indexOfChar_4cfef_9 : decode cJ1_indexOfChar_4cfef 9 = .ok (.iload_n 3, 1) := by decide +kernel
theorem dJ1_indexOfChar_4cfef_10 : decode cJ1_indexOfChar_4cfef 10 = .ok (.if_icmp .ge 21, 3) := by decide +kernel
theorem dJ1_indexOfChar_4cfef_13 : decode cJ1_indexOfChar_4cfef 13 = .ok (.aload_n 0, 1) := by decide +kernel
theorem dJ1_indexOfChar_4cfef_14 : decode cJ1_indexOfChar_4cfef 14 = .ok (.iload 5, 2) := by decide +kernel
theorem dJ1_indexOfChar_4cfef_16 : decode cJ1_indexOfChar_4cfef 16 = .ok (.baload, 1) := by decide +kernel
theorem dJ1_indexOfChar_4cfef_17 : decode cJ1_indexOfChar_4cfef 17 = .ok (.iload 4, 2) := by decide +kernel
theorem dJ1_indexOfChar_4cfef_19 : decode cJ1_indexOfChar_4cfef 19 = .ok (.if_icmp .ne 6, 3) := by decide +kernel
theorem dJ1_indexOfChar_4cfef_22 : decode cJ1_indexOfChar_4cfef 22 = .ok (.iload 5, 2) := by decide +kernel
theorem dJ1_indexOfChar_4cfef_24 : decode cJ1_indexOfChar_4cfef 24 = .ok (.ireturn, 1) := by decide +kernel
theorem dJ1_indexOfChar_4cfef_25 : decode cJ1_indexOfChar_4cfef 25 = .ok (.iinc 5 1, 3) := by decide +kernel
theorem dJ1_indexOfChar_4cfef_28 : decode cJ1_indexOfChar_4cfef 28 = .ok (.goto (-21), 3) := by decide +kernel
theorem dJ1_indexOfChar_4cfef_31 : decode cJ1_indexOfChar_4cfef 31 = .ok (.iconst (-1), 1) := by decide +kernel
theorem dJ1_indexOfChar_4cfef_32 : decode cJ1_indexOfChar_4cfef 32 = .ok (.ireturn, 1) := by decide +kernel
theorem dL_law_0 : decode cL_law 0 = .ok (.new 7, 3) := by decide +kernel
theorem dL_law_3 : decode cL_law 3 = .ok (.dup, 1) := by decide +kernel
theorem dL_law_4 : decode cL_law 4 = .ok (.invokespecial 9, 3) := by decide +kernel
theorem dL_law_7 : decode cL_law 7 = .ok (.astore_n 1, 1) := by decide +kernel
theorem dL_law_8 : decode cL_law 8 = .ok (.new 10, 3) := by decide +kernel
theorem dL_law_11 : decode cL_law 11 = .ok (.dup, 1) := by decide +kernel
theorem dL_law_12 : decode cL_law 12 = .ok (.invokespecial 12, 3) := by decide +kernel
theorem dL_law_15 : decode cL_law 15 = .ok (.astore_n 2, 1) := by decide +kernel
theorem dL_law_16 : decode cL_law 16 = .ok (.iconst 0, 1) := by decide +kernel
theorem dL_law_17 : decode cL_law 17 = .ok (.istore_n 3, 1) := by decide +kernel
theorem dL_law_18 : decode cL_law 18 = .ok (.iload_n 3, 1) := by decide +kernel
theorem dL_law_19 : decode cL_law 19 = .ok (.aload_n 0, 1) := by decide +kernel
theorem dL_law_20 : decode cL_law 20 = .ok (.arraylength, 1) := by decide +kernel
theorem dL_law_21 : decode cL_law 21 = .ok (.iconst 4, 1) := by decide +kernel
theorem dL_law_22 : decode cL_law 22 = .ok (.isub, 1) := by decide +kernel
theorem dL_law_23 : decode cL_law 23 = .ok (.if_icmp .gt 618, 3) := by decide +kernel
theorem dL_law_26 : decode cL_law 26 = .ok (.aload_n 0, 1) := by decide +kernel
theorem dL_law_27 : decode cL_law 27 = .ok (.iload_n 3, 1) := by decide +kernel
theorem dL_law_28 : decode cL_law 28 = .ok (.iaload, 1) := by decide +kernel
theorem dL_law_29 : decode cL_law 29 = .ok (.bipush 31, 2) := by decide +kernel
theorem dL_law_31 : decode cL_law 31 = .ok (.iand, 1) := by decide +kernel
theorem dL_law_32 : decode cL_law 32 = .ok (.tableswitch 603 0 19 #[96, 119, 132, 145, 158, 191, 224, 257, 290, 323, 346, 389, 402, 425, 484, 497, 540, 553, 566, 589], 96) := by decide +kernel
theorem dL_law_128 : decode cL_law 128 = .ok (.aload_n 1, 1) := by decide +kernel
theorem dL_law_129 : decode cL_law 129 = .ok (.aload_n 0, 1) := by decide +kernel
theorem dL_law_130 : decode cL_law 130 = .ok (.iload_n 3, 1) := by decide +kernel
theorem dL_law_131 : decode cL_law 131 = .ok (.iconst 1, 1) := by decide +kernel
theorem dL_law_132 : decode cL_law 132 = .ok (.iadd, 1) := by decide +kernel
theorem dL_law_133 : decode cL_law 133 = .ok (.iaload, 1) := by decide +kernel
theorem dL_law_134 : decode cL_law 134 = .ok (.invokevirtual 13, 3) := by decide +kernel
theorem dL_law_137 : decode cL_law 137 = .ok (.aload_n 2, 1) := by decide +kernel
theorem dL_law_138 : decode cL_law 138 = .ok (.aload_n 0, 1) := by decide +kernel
theorem dL_law_139 : decode cL_law 139 = .ok (.iload_n 3, 1) := by decide +kernel
theorem dL_law_140 : decode cL_law 140 = .ok (.iconst 1, 1) := by decide +kernel
theorem dL_law_141 : decode cL_law 141 = .ok (.iadd, 1) := by decide +kernel
theorem dL_law_142 : decode cL_law 142 = .ok (.iaload, 1) := by decide +kernel
theorem dL_law_143 : decode cL_law 143 = .ok (.invokevirtual 17, 3) := by decide +kernel
theorem dL_law_146 : decode cL_law 146 = .ok (.if_icmp .eq 489, 3) := by decide +kernel
theorem dL_law_149 : decode cL_law 149 = .ok (.iconst 0, 1) := by decide +kernel
theorem dL_law_150 : decode cL_law 150 = .ok (.ireturn, 1) := by decide +kernel
theorem dL_law_151 : decode cL_law 151 = .ok (.aload_n 1, 1) := by decide +kernel
theorem dL_law_152 : decode cL_law 152 = .ok (.invokevirtual 18, 3) := by decide +kernel
theorem dL_law_155 : decode cL_law 155 = .ok (.aload_n 2, 1) := by decide +kernel
theorem dL_law_156 : decode cL_law 156 = .ok (.invokevirtual 22, 3) := by decide +kernel
theorem dL_law_159 : decode cL_law 159 = .ok (.if_icmp .eq 476, 3) := by decide +kernel
theorem dL_law_162 : decode cL_law 162 = .ok (.iconst 0, 1) := by decide +kernel
theorem dL_law_163 : decode cL_law 163 = .ok (.ireturn, 1) := by decide +kernel
theorem dL_law_164 : decode cL_law 164 = .ok (.aload_n 1, 1) := by decide +kernel
theorem dL_law_165 : decode cL_law 165 = .ok (.invokevirtual 23, 3) := by decide +kernel
theorem dL_law_168 : decode cL_law 168 = .ok (.aload_n 2, 1) := by decide +kernel
theorem dL_law_169 : decode cL_law 169 = .ok (.invokevirtual 26, 3) := by decide +kernel
theorem dL_law_172 : decode cL_law 172 = .ok (.if_icmp .eq 463, 3) := by decide +kernel
theorem dL_law_175 : decode cL_law 175 = .ok (.iconst 0, 1) := by decide +kernel
theorem dL_law_176 : decode cL_law 176 = .ok (.ireturn, 1) := by decide +kernel
theorem dL_law_177 : decode cL_law 177 = .ok (.aload_n 1, 1) := by decide +kernel
theorem dL_law_178 : decode cL_law 178 = .ok (.invokevirtual 27, 3) := by decide +kernel
theorem dL_law_181 : decode cL_law 181 = .ok (.aload_n 2, 1) := by decide +kernel
theorem dL_law_182 : decode cL_law 182 = .ok (.invokevirtual 30, 3) := by decide +kernel
theorem dL_law_185 : decode cL_law 185 = .ok (.if_icmp .eq 450, 3) := by decide +kernel
theorem dL_law_188 : decode cL_law 188 = .ok (.iconst 0, 1) := by decide +kernel
theorem dL_law_189 : decode cL_law 189 = .ok (.ireturn, 1) := by decide +kernel
theorem dL_law_190 : decode cL_law 190 = .ok (.aload_n 1, 1) := by decide +kernel
theorem dL_law_191 : decode cL_law 191 = .ok (.aload_n 0, 1) := by decide +kernel
theorem dL_law_192 : decode cL_law 192 = .ok (.iload_n 3, 1) := by decide +kernel
theorem dL_law_193 : decode cL_law 193 = .ok (.iconst 1, 1) := by decide +kernel
theorem dL_law_194 : decode cL_law 194 = .ok (.iadd, 1) := by decide +kernel
theorem dL_law_195 : decode cL_law 195 = .ok (.iaload, 1) := by decide +kernel
theorem dL_law_196 : decode cL_law 196 = .ok (.aload_n 0, 1) := by decide +kernel
theorem dL_law_197 : decode cL_law 197 = .ok (.iload_n 3, 1) := by decide +kernel
theorem dL_law_198 : decode cL_law 198 = .ok (.iconst 2, 1) := by decide +kernel
theorem dL_law_199 : decode cL_law 199 = .ok (.iadd, 1) := by decide +kernel
theorem dL_law_200 : decode cL_law 200 = .ok (.iaload, 1) := by decide +kernel
theorem dL_law_201 : decode cL_law 201 = .ok (.invokevirtual 31, 3) := by decide +kernel
theorem dL_law_204 : decode cL_law 204 = .ok (.aload_n 2, 1) := by decide +kernel
theorem dL_law_205 : decode cL_law 205 = .ok (.aload_n 0, 1) := by decide +kernel
theorem dL_law_206 : decode cL_law 206 = .ok (.iload_n 3, 1) := by decide +kernel
theorem dL_law_207 : decode cL_law 207 = .ok (.iconst 1, 1) := by decide +kernel
theorem dL_law_208 : decode cL_law 208 = .ok (.iadd, 1) := by decide +kernel
theorem dL_law_209 : decode cL_law 209 = .ok (.iaload, 1) := by decide +kernel
theorem dL_law_210 : decode cL_law 210 = .ok (.aload_n 0, 1) := by decide +kernel
theorem dL_law_211 : decode cL_law 211 = .ok (.iload_n 3, 1) := by decide +kernel
theorem dL_law_212 : decode cL_law 212 = .ok (.iconst 2, 1) := by decide +kernel
theorem dL_law_213 : decode cL_law 213 = .ok (.iadd, 1) := by decide +kernel
theorem dL_law_214 : decode cL_law 214 = .ok (.iaload, 1) := by decide +kernel
theorem dL_law_215 : decode cL_law 215 = .ok (.invokevirtual 35, 3) := by decide +kernel
theorem dL_law_218 : decode cL_law 218 = .ok (.if_icmp .eq 417, 3) := by decide +kernel
theorem dL_law_221 : decode cL_law 221 = .ok (.iconst 0, 1) := by decide +kernel
theorem dL_law_222 : decode cL_law 222 = .ok (.ireturn, 1) := by decide +kernel
theorem dL_law_223 : decode cL_law 223 = .ok (.aload_n 1, 1) := by decide +kernel
theorem dL_law_224 : decode cL_law 224 = .ok (.aload_n 0, 1) := by decide +kernel
theorem dL_law_225 : decode cL_law 225 = .ok (.iload_n 3, 1) := by decide +kernel
theorem dL_law_226 : decode cL_law 226 = .ok (.iconst 1, 1) := by decide +kernel
theorem dL_law_227 : decode cL_law 227 = .ok (.iadd, 1) := by decide +kernel
theorem dL_law_228 : decode cL_law 228 = .ok (.iaload, 1) := by decide +kernel
theorem dL_law_229 : decode cL_law 229 = .ok (.aload_n 0, 1) := by decide +kernel
theorem dL_law_230 : decode cL_law 230 = .ok (.iload_n 3, 1) := by decide +kernel
theorem dL_law_231 : decode cL_law 231 = .ok (.iconst 2, 1) := by decide +kernel
theorem dL_law_232 : decode cL_law 232 = .ok (.iadd, 1) := by decide +kernel
theorem dL_law_233 : decode cL_law 233 = .ok (.iaload, 1) := by decide +kernel
theorem dL_law_234 : decode cL_law 234 = .ok (.invokevirtual 36, 3) := by decide +kernel
theorem dL_law_237 : decode cL_law 237 = .ok (.aload_n 2, 1) := by decide +kernel
theorem dL_law_238 : decode cL_law 238 = .ok (.aload_n 0, 1) := by decide +kernel
theorem dL_law_239 : decode cL_law 239 = .ok (.iload_n 3, 1) := by decide +kernel
theorem dL_law_240 : decode cL_law 240 = .ok (.iconst 1, 1) := by decide +kernel
theorem dL_law_241 : decode cL_law 241 = .ok (.iadd, 1) := by decide +kernel
theorem dL_law_242 : decode cL_law 242 = .ok (.iaload, 1) := by decide +kernel
theorem dL_law_243 : decode cL_law 243 = .ok (.aload_n 0, 1) := by decide +kernel
theorem dL_law_244 : decode cL_law 244 = .ok (.iload_n 3, 1) := by decide +kernel
theorem dL_law_245 : decode cL_law 245 = .ok (.iconst 2, 1) := by decide +kernel
theorem dL_law_246 : decode cL_law 246 = .ok (.iadd, 1) := by decide +kernel
theorem dL_law_247 : decode cL_law 247 = .ok (.iaload, 1) := by decide +kernel
theorem dL_law_248 : decode cL_law 248 = .ok (.invokevirtual 39, 3) := by decide +kernel
theorem dL_law_251 : decode cL_law 251 = .ok (.if_icmp .eq 384, 3) := by decide +kernel
theorem dL_law_254 : decode cL_law 254 = .ok (.iconst 0, 1) := by decide +kernel
theorem dL_law_255 : decode cL_law 255 = .ok (.ireturn, 1) := by decide +kernel
theorem dL_law_256 : decode cL_law 256 = .ok (.aload_n 1, 1) := by decide +kernel
theorem dL_law_257 : decode cL_law 257 = .ok (.aload_n 0, 1) := by decide +kernel
theorem dL_law_258 : decode cL_law 258 = .ok (.iload_n 3, 1) := by decide +kernel
theorem dL_law_259 : decode cL_law 259 = .ok (.iconst 1, 1) := by decide +kernel
theorem dL_law_260 : decode cL_law 260 = .ok (.iadd, 1) := by decide +kernel
theorem dL_law_261 : decode cL_law 261 = .ok (.iaload, 1) := by decide +kernel
theorem dL_law_262 : decode cL_law 262 = .ok (.aload_n 0, 1) := by decide +kernel
theorem dL_law_263 : decode cL_law 263 = .ok (.iload_n 3, 1) := by decide +kernel
theorem dL_law_264 : decode cL_law 264 = .ok (.iconst 2, 1) := by decide +kernel
theorem dL_law_265 : decode cL_law 265 = .ok (.iadd, 1) := by decide +kernel
theorem dL_law_266 : decode cL_law 266 = .ok (.iaload, 1) := by decide +kernel
theorem dL_law_267 : decode cL_law 267 = .ok (.invokevirtual 40, 3) := by decide +kernel
theorem dL_law_270 : decode cL_law 270 = .ok (.aload_n 2, 1) := by decide +kernel
theorem dL_law_271 : decode cL_law 271 = .ok (.aload_n 0, 1) := by decide +kernel
theorem dL_law_272 : decode cL_law 272 = .ok (.iload_n 3, 1) := by decide +kernel
theorem dL_law_273 : decode cL_law 273 = .ok (.iconst 1, 1) := by decide +kernel
theorem dL_law_274 : decode cL_law 274 = .ok (.iadd, 1) := by decide +kernel
theorem dL_law_275 : decode cL_law 275 = .ok (.iaload, 1) := by decide +kernel
theorem dL_law_276 : decode cL_law 276 = .ok (.aload_n 0, 1) := by decide +kernel
theorem dL_law_277 : decode cL_law 277 = .ok (.iload_n 3, 1) := by decide +kernel
theorem dL_law_278 : decode cL_law 278 = .ok (.iconst 2, 1) := by decide +kernel
theorem dL_law_279 : decode cL_law 279 = .ok (.iadd, 1) := by decide +kernel
theorem dL_law_280 : decode cL_law 280 = .ok (.iaload, 1) := by decide +kernel
theorem dL_law_281 : decode cL_law 281 = .ok (.invokevirtual 43, 3) := by decide +kernel
theorem dL_law_284 : decode cL_law 284 = .ok (.if_icmp .eq 351, 3) := by decide +kernel
theorem dL_law_287 : decode cL_law 287 = .ok (.iconst 0, 1) := by decide +kernel
theorem dL_law_288 : decode cL_law 288 = .ok (.ireturn, 1) := by decide +kernel
theorem dL_law_289 : decode cL_law 289 = .ok (.aload_n 1, 1) := by decide +kernel
theorem dL_law_290 : decode cL_law 290 = .ok (.aload_n 0, 1) := by decide +kernel
theorem dL_law_291 : decode cL_law 291 = .ok (.iload_n 3, 1) := by decide +kernel
theorem dL_law_292 : decode cL_law 292 = .ok (.iconst 1, 1) := by decide +kernel
theorem dL_law_293 : decode cL_law 293 = .ok (.iadd, 1) := by decide +kernel
theorem dL_law_294 : decode cL_law 294 = .ok (.iaload, 1) := by decide +kernel
theorem dL_law_295 : decode cL_law 295 = .ok (.aload_n 0, 1) := by decide +kernel
theorem dL_law_296 : decode cL_law 296 = .ok (.iload_n 3, 1) := by decide +kernel
theorem dL_law_297 : decode cL_law 297 = .ok (.iconst 2, 1) := by decide +kernel
theorem dL_law_298 : decode cL_law 298 = .ok (.iadd, 1) := by decide +kernel
theorem dL_law_299 : decode cL_law 299 = .ok (.iaload, 1) := by decide +kernel
theorem dL_law_300 : decode cL_law 300 = .ok (.invokevirtual 44, 3) := by decide +kernel
theorem dL_law_303 : decode cL_law 303 = .ok (.aload_n 2, 1) := by decide +kernel
theorem dL_law_304 : decode cL_law 304 = .ok (.aload_n 0, 1) := by decide +kernel
theorem dL_law_305 : decode cL_law 305 = .ok (.iload_n 3, 1) := by decide +kernel
theorem dL_law_306 : decode cL_law 306 = .ok (.iconst 1, 1) := by decide +kernel
theorem dL_law_307 : decode cL_law 307 = .ok (.iadd, 1) := by decide +kernel
theorem dL_law_308 : decode cL_law 308 = .ok (.iaload, 1) := by decide +kernel
theorem dL_law_309 : decode cL_law 309 = .ok (.aload_n 0, 1) := by decide +kernel
theorem dL_law_310 : decode cL_law 310 = .ok (.iload_n 3, 1) := by decide +kernel
theorem dL_law_311 : decode cL_law 311 = .ok (.iconst 2, 1) := by decide +kernel
theorem dL_law_312 : decode cL_law 312 = .ok (.iadd, 1) := by decide +kernel
theorem dL_law_313 : decode cL_law 313 = .ok (.iaload, 1) := by decide +kernel
theorem dL_law_314 : decode cL_law 314 = .ok (.invokevirtual 47, 3) := by decide +kernel
theorem dL_law_317 : decode cL_law 317 = .ok (.if_icmp .eq 318, 3) := by decide +kernel
theorem dL_law_320 : decode cL_law 320 = .ok (.iconst 0, 1) := by decide +kernel
theorem dL_law_321 : decode cL_law 321 = .ok (.ireturn, 1) := by decide +kernel
theorem dL_law_322 : decode cL_law 322 = .ok (.aload_n 1, 1) := by decide +kernel
theorem dL_law_323 : decode cL_law 323 = .ok (.aload_n 0, 1) := by decide +kernel
theorem dL_law_324 : decode cL_law 324 = .ok (.iload_n 3, 1) := by decide +kernel
theorem dL_law_325 : decode cL_law 325 = .ok (.iconst 1, 1) := by decide +kernel
theorem dL_law_326 : decode cL_law 326 = .ok (.iadd, 1) := by decide +kernel
theorem dL_law_327 : decode cL_law 327 = .ok (.iaload, 1) := by decide +kernel
theorem dL_law_328 : decode cL_law 328 = .ok (.aload_n 0, 1) := by decide +kernel
theorem dL_law_329 : decode cL_law 329 = .ok (.iload_n 3, 1) := by decide +kernel
theorem dL_law_330 : decode cL_law 330 = .ok (.iconst 2, 1) := by decide +kernel
theorem dL_law_331 : decode cL_law 331 = .ok (.iadd, 1) := by decide +kernel
theorem dL_law_332 : decode cL_law 332 = .ok (.iaload, 1) := by decide +kernel
theorem dL_law_333 : decode cL_law 333 = .ok (.invokevirtual 48, 3) := by decide +kernel
theorem dL_law_336 : decode cL_law 336 = .ok (.aload_n 2, 1) := by decide +kernel
theorem dL_law_337 : decode cL_law 337 = .ok (.aload_n 0, 1) := by decide +kernel
theorem dL_law_338 : decode cL_law 338 = .ok (.iload_n 3, 1) := by decide +kernel
theorem dL_law_339 : decode cL_law 339 = .ok (.iconst 1, 1) := by decide +kernel
theorem dL_law_340 : decode cL_law 340 = .ok (.iadd, 1) := by decide +kernel
theorem dL_law_341 : decode cL_law 341 = .ok (.iaload, 1) := by decide +kernel
theorem dL_law_342 : decode cL_law 342 = .ok (.aload_n 0, 1) := by decide +kernel
theorem dL_law_343 : decode cL_law 343 = .ok (.iload_n 3, 1) := by decide +kernel
theorem dL_law_344 : decode cL_law 344 = .ok (.iconst 2, 1) := by decide +kernel
theorem dL_law_345 : decode cL_law 345 = .ok (.iadd, 1) := by decide +kernel
theorem dL_law_346 : decode cL_law 346 = .ok (.iaload, 1) := by decide +kernel
theorem dL_law_347 : decode cL_law 347 = .ok (.invokevirtual 51, 3) := by decide +kernel
theorem dL_law_350 : decode cL_law 350 = .ok (.if_icmp .eq 285, 3) := by decide +kernel
theorem dL_law_353 : decode cL_law 353 = .ok (.iconst 0, 1) := by decide +kernel
theorem dL_law_354 : decode cL_law 354 = .ok (.ireturn, 1) := by decide +kernel
theorem dL_law_355 : decode cL_law 355 = .ok (.aload_n 1, 1) := by decide +kernel
theorem dL_law_356 : decode cL_law 356 = .ok (.aload_n 0, 1) := by decide +kernel
theorem dL_law_357 : decode cL_law 357 = .ok (.iload_n 3, 1) := by decide +kernel
theorem dL_law_358 : decode cL_law 358 = .ok (.iconst 1, 1) := by decide +kernel
theorem dL_law_359 : decode cL_law 359 = .ok (.iadd, 1) := by decide +kernel
theorem dL_law_360 : decode cL_law 360 = .ok (.iaload, 1) := by decide +kernel
theorem dL_law_361 : decode cL_law 361 = .ok (.invokevirtual 52, 3) := by decide +kernel
theorem dL_law_364 : decode cL_law 364 = .ok (.aload_n 2, 1) := by decide +kernel
theorem dL_law_365 : decode cL_law 365 = .ok (.aload_n 0, 1) := by decide +kernel
theorem dL_law_366 : decode cL_law 366 = .ok (.iload_n 3, 1) := by decide +kernel
theorem dL_law_367 : decode cL_law 367 = .ok (.iconst 1, 1) := by decide +kernel
theorem dL_law_368 : decode cL_law 368 = .ok (.iadd, 1) := by decide +kernel
theorem dL_law_369 : decode cL_law 369 = .ok (.iaload, 1) := by decide +kernel
theorem dL_law_370 : decode cL_law 370 = .ok (.invokevirtual 55, 3) := by decide +kernel
theorem dL_law_373 : decode cL_law 373 = .ok (.if_icmp .eq 262, 3) := by decide +kernel
theorem dL_law_376 : decode cL_law 376 = .ok (.iconst 0, 1) := by decide +kernel
theorem dL_law_377 : decode cL_law 377 = .ok (.ireturn, 1) := by decide +kernel
theorem dL_law_378 : decode cL_law 378 = .ok (.aload_n 1, 1) := by decide +kernel
theorem dL_law_379 : decode cL_law 379 = .ok (.aload_n 0, 1) := by decide +kernel
theorem dL_law_380 : decode cL_law 380 = .ok (.iload_n 3, 1) := by decide +kernel
theorem dL_law_381 : decode cL_law 381 = .ok (.iconst 1, 1) := by decide +kernel
theorem dL_law_382 : decode cL_law 382 = .ok (.iadd, 1) := by decide +kernel
theorem dL_law_383 : decode cL_law 383 = .ok (.iaload, 1) := by decide +kernel
theorem dL_law_384 : decode cL_law 384 = .ok (.aload_n 0, 1) := by decide +kernel
theorem dL_law_385 : decode cL_law 385 = .ok (.iload_n 3, 1) := by decide +kernel
theorem dL_law_386 : decode cL_law 386 = .ok (.iconst 2, 1) := by decide +kernel
theorem dL_law_387 : decode cL_law 387 = .ok (.iadd, 1) := by decide +kernel
theorem dL_law_388 : decode cL_law 388 = .ok (.iaload, 1) := by decide +kernel
theorem dL_law_389 : decode cL_law 389 = .ok (.aload_n 0, 1) := by decide +kernel
theorem dL_law_390 : decode cL_law 390 = .ok (.iload_n 3, 1) := by decide +kernel
theorem dL_law_391 : decode cL_law 391 = .ok (.iconst 3, 1) := by decide +kernel
theorem dL_law_392 : decode cL_law 392 = .ok (.iadd, 1) := by decide +kernel
theorem dL_law_393 : decode cL_law 393 = .ok (.iaload, 1) := by decide +kernel
theorem dL_law_394 : decode cL_law 394 = .ok (.invokevirtual 56, 3) := by decide +kernel
theorem dL_law_397 : decode cL_law 397 = .ok (.aload_n 2, 1) := by decide +kernel
theorem dL_law_398 : decode cL_law 398 = .ok (.aload_n 0, 1) := by decide +kernel
theorem dL_law_399 : decode cL_law 399 = .ok (.iload_n 3, 1) := by decide +kernel
theorem dL_law_400 : decode cL_law 400 = .ok (.iconst 1, 1) := by decide +kernel
theorem dL_law_401 : decode cL_law 401 = .ok (.iadd, 1) := by decide +kernel
theorem dL_law_402 : decode cL_law 402 = .ok (.iaload, 1) := by decide +kernel
theorem dL_law_403 : decode cL_law 403 = .ok (.aload_n 0, 1) := by decide +kernel
theorem dL_law_404 : decode cL_law 404 = .ok (.iload_n 3, 1) := by decide +kernel
theorem dL_law_405 : decode cL_law 405 = .ok (.iconst 2, 1) := by decide +kernel
theorem dL_law_406 : decode cL_law 406 = .ok (.iadd, 1) := by decide +kernel
theorem dL_law_407 : decode cL_law 407 = .ok (.iaload, 1) := by decide +kernel
theorem dL_law_408 : decode cL_law 408 = .ok (.aload_n 0, 1) := by decide +kernel
theorem dL_law_409 : decode cL_law 409 = .ok (.iload_n 3, 1) := by decide +kernel
theorem dL_law_410 : decode cL_law 410 = .ok (.iconst 3, 1) := by decide +kernel
theorem dL_law_411 : decode cL_law 411 = .ok (.iadd, 1) := by decide +kernel
theorem dL_law_412 : decode cL_law 412 = .ok (.iaload, 1) := by decide +kernel
theorem dL_law_413 : decode cL_law 413 = .ok (.invokevirtual 60, 3) := by decide +kernel
theorem dL_law_416 : decode cL_law 416 = .ok (.if_icmp .eq 219, 3) := by decide +kernel
theorem dL_law_419 : decode cL_law 419 = .ok (.iconst 0, 1) := by decide +kernel
theorem dL_law_420 : decode cL_law 420 = .ok (.ireturn, 1) := by decide +kernel
theorem dL_law_421 : decode cL_law 421 = .ok (.aload_n 1, 1) := by decide +kernel
theorem dL_law_422 : decode cL_law 422 = .ok (.invokevirtual 61, 3) := by decide +kernel
theorem dL_law_425 : decode cL_law 425 = .ok (.aload_n 2, 1) := by decide +kernel
theorem dL_law_426 : decode cL_law 426 = .ok (.invokevirtual 64, 3) := by decide +kernel
theorem dL_law_429 : decode cL_law 429 = .ok (.if_icmp .eq 206, 3) := by decide +kernel
theorem dL_law_432 : decode cL_law 432 = .ok (.iconst 0, 1) := by decide +kernel
theorem dL_law_433 : decode cL_law 433 = .ok (.ireturn, 1) := by decide +kernel
theorem dL_law_434 : decode cL_law 434 = .ok (.aload_n 1, 1) := by decide +kernel
theorem dL_law_435 : decode cL_law 435 = .ok (.aload_n 0, 1) := by decide +kernel
theorem dL_law_436 : decode cL_law 436 = .ok (.iload_n 3, 1) := by decide +kernel
theorem dL_law_437 : decode cL_law 437 = .ok (.iconst 1, 1) := by decide +kernel
theorem dL_law_438 : decode cL_law 438 = .ok (.iadd, 1) := by decide +kernel
theorem dL_law_439 : decode cL_law 439 = .ok (.iaload, 1) := by decide +kernel
theorem dL_law_440 : decode cL_law 440 = .ok (.invokevirtual 65, 3) := by decide +kernel
theorem dL_law_443 : decode cL_law 443 = .ok (.aload_n 2, 1) := by decide +kernel
theorem dL_law_444 : decode cL_law 444 = .ok (.aload_n 0, 1) := by decide +kernel
theorem dL_law_445 : decode cL_law 445 = .ok (.iload_n 3, 1) := by decide +kernel
theorem dL_law_446 : decode cL_law 446 = .ok (.iconst 1, 1) := by decide +kernel
theorem dL_law_447 : decode cL_law 447 = .ok (.iadd, 1) := by decide +kernel
theorem dL_law_448 : decode cL_law 448 = .ok (.iaload, 1) := by decide +kernel
theorem dL_law_449 : decode cL_law 449 = .ok (.invokevirtual 68, 3) := by decide +kernel
theorem dL_law_452 : decode cL_law 452 = .ok (.if_icmp .eq 183, 3) := by decide +kernel
theorem dL_law_455 : decode cL_law 455 = .ok (.iconst 0, 1) := by decide +kernel
theorem dL_law_456 : decode cL_law 456 = .ok (.ireturn, 1) := by decide +kernel
theorem dL_law_457 : decode cL_law 457 = .ok (.aload_n 1, 1) := by decide +kernel
theorem dL_law_458 : decode cL_law 458 = .ok (.aload_n 0, 1) := by decide +kernel
theorem dL_law_459 : decode cL_law 459 = .ok (.iload_n 3, 1) := by decide +kernel
theorem dL_law_460 : decode cL_law 460 = .ok (.iconst 1, 1) := by decide +kernel
theorem dL_law_461 : decode cL_law 461 = .ok (.iadd, 1) := by decide +kernel
theorem dL_law_462 : decode cL_law 462 = .ok (.iaload, 1) := by decide +kernel
theorem dL_law_463 : decode cL_law 463 = .ok (.aload_n 0, 1) := by decide +kernel
theorem dL_law_464 : decode cL_law 464 = .ok (.iload_n 3, 1) := by decide +kernel
theorem dL_law_465 : decode cL_law 465 = .ok (.iconst 2, 1) := by decide +kernel
theorem dL_law_466 : decode cL_law 466 = .ok (.iadd, 1) := by decide +kernel
theorem dL_law_467 : decode cL_law 467 = .ok (.iaload, 1) := by decide +kernel
theorem dL_law_468 : decode cL_law 468 = .ok (.aload_n 0, 1) := by decide +kernel
theorem dL_law_469 : decode cL_law 469 = .ok (.iload_n 3, 1) := by decide +kernel
theorem dL_law_470 : decode cL_law 470 = .ok (.iconst 3, 1) := by decide +kernel
theorem dL_law_471 : decode cL_law 471 = .ok (.iadd, 1) := by decide +kernel
theorem dL_law_472 : decode cL_law 472 = .ok (.iaload, 1) := by decide +kernel
theorem dL_law_473 : decode cL_law 473 = .ok (.ifCond .eq 7, 3) := by decide +kernel
theorem dL_law_476 : decode cL_law 476 = .ok (.iconst 1, 1) := by decide +kernel
theorem dL_law_477 : decode cL_law 477 = .ok (.goto 4, 3) := by decide +kernel
theorem dL_law_480 : decode cL_law 480 = .ok (.iconst 0, 1) := by decide +kernel
theorem dL_law_481 : decode cL_law 481 = .ok (.invokevirtual 69, 3) := by decide +kernel
theorem dL_law_484 : decode cL_law 484 = .ok (.aload_n 2, 1) := by decide +kernel
theorem dL_law_485 : decode cL_law 485 = .ok (.aload_n 0, 1) := by decide +kernel
theorem dL_law_486 : decode cL_law 486 = .ok (.iload_n 3, 1) := by decide +kernel
theorem dL_law_487 : decode cL_law 487 = .ok (.iconst 1, 1) := by decide +kernel
theorem dL_law_488 : decode cL_law 488 = .ok (.iadd, 1) := by decide +kernel
theorem dL_law_489 : decode cL_law 489 = .ok (.iaload, 1) := by decide +kernel
theorem dL_law_490 : decode cL_law 490 = .ok (.aload_n 0, 1) := by decide +kernel
theorem dL_law_491 : decode cL_law 491 = .ok (.iload_n 3, 1) := by decide +kernel
theorem dL_law_492 : decode cL_law 492 = .ok (.iconst 2, 1) := by decide +kernel
theorem dL_law_493 : decode cL_law 493 = .ok (.iadd, 1) := by decide +kernel
theorem dL_law_494 : decode cL_law 494 = .ok (.iaload, 1) := by decide +kernel
theorem dL_law_495 : decode cL_law 495 = .ok (.aload_n 0, 1) := by decide +kernel
theorem dL_law_496 : decode cL_law 496 = .ok (.iload_n 3, 1) := by decide +kernel
theorem dL_law_497 : decode cL_law 497 = .ok (.iconst 3, 1) := by decide +kernel
theorem dL_law_498 : decode cL_law 498 = .ok (.iadd, 1) := by decide +kernel
theorem dL_law_499 : decode cL_law 499 = .ok (.iaload, 1) := by decide +kernel
theorem dL_law_500 : decode cL_law 500 = .ok (.ifCond .eq 7, 3) := by decide +kernel
theorem dL_law_503 : decode cL_law 503 = .ok (.iconst 1, 1) := by decide +kernel
theorem dL_law_504 : decode cL_law 504 = .ok (.goto 4, 3) := by decide +kernel
theorem dL_law_507 : decode cL_law 507 = .ok (.iconst 0, 1) := by decide +kernel
theorem dL_law_508 : decode cL_law 508 = .ok (.invokevirtual 73, 3) := by decide +kernel
theorem dL_law_511 : decode cL_law 511 = .ok (.if_icmp .eq 124, 3) := by decide +kernel
theorem dL_law_514 : decode cL_law 514 = .ok (.iconst 0, 1) := by decide +kernel
theorem dL_law_515 : decode cL_law 515 = .ok (.ireturn, 1) := by decide +kernel
theorem dL_law_516 : decode cL_law 516 = .ok (.aload_n 1, 1) := by decide +kernel
theorem dL_law_517 : decode cL_law 517 = .ok (.invokevirtual 74, 3) := by decide +kernel
theorem dL_law_520 : decode cL_law 520 = .ok (.aload_n 2, 1) := by decide +kernel
theorem dL_law_521 : decode cL_law 521 = .ok (.invokevirtual 77, 3) := by decide +kernel
theorem dL_law_524 : decode cL_law 524 = .ok (.if_icmp .eq 111, 3) := by decide +kernel
theorem dL_law_527 : decode cL_law 527 = .ok (.iconst 0, 1) := by decide +kernel
theorem dL_law_528 : decode cL_law 528 = .ok (.ireturn, 1) := by decide +kernel
theorem dL_law_529 : decode cL_law 529 = .ok (.aload_n 1, 1) := by decide +kernel
theorem dL_law_530 : decode cL_law 530 = .ok (.aload_n 0, 1) := by decide +kernel
theorem dL_law_531 : decode cL_law 531 = .ok (.iload_n 3, 1) := by decide +kernel
theorem dL_law_532 : decode cL_law 532 = .ok (.iconst 1, 1) := by decide +kernel
theorem dL_law_533 : decode cL_law 533 = .ok (.iadd, 1) := by decide +kernel
theorem dL_law_534 : decode cL_law 534 = .ok (.iaload, 1) := by decide +kernel
theorem dL_law_535 : decode cL_law 535 = .ok (.aload_n 0, 1) := by decide +kernel
theorem dL_law_536 : decode cL_law 536 = .ok (.iload_n 3, 1) := by decide +kernel
theorem dL_law_537 : decode cL_law 537 = .ok (.iconst 2, 1) := by decide +kernel
theorem dL_law_538 : decode cL_law 538 = .ok (.iadd, 1) := by decide +kernel
theorem dL_law_539 : decode cL_law 539 = .ok (.iaload, 1) := by decide +kernel
theorem dL_law_540 : decode cL_law 540 = .ok (.aload_n 0, 1) := by decide +kernel
theorem dL_law_541 : decode cL_law 541 = .ok (.iload_n 3, 1) := by decide +kernel
theorem dL_law_542 : decode cL_law 542 = .ok (.iconst 3, 1) := by decide +kernel
theorem dL_law_543 : decode cL_law 543 = .ok (.iadd, 1) := by decide +kernel
theorem dL_law_544 : decode cL_law 544 = .ok (.iaload, 1) := by decide +kernel
theorem dL_law_545 : decode cL_law 545 = .ok (.invokevirtual 78, 3) := by decide +kernel
theorem dL_law_548 : decode cL_law 548 = .ok (.aload_n 2, 1) := by decide +kernel
theorem dL_law_549 : decode cL_law 549 = .ok (.aload_n 0, 1) := by decide +kernel
theorem dL_law_550 : decode cL_law 550 = .ok (.iload_n 3, 1) := by decide +kernel
theorem dL_law_551 : decode cL_law 551 = .ok (.iconst 1, 1) := by decide +kernel
theorem dL_law_552 : decode cL_law 552 = .ok (.iadd, 1) := by decide +kernel
theorem dL_law_553 : decode cL_law 553 = .ok (.iaload, 1) := by decide +kernel
theorem dL_law_554 : decode cL_law 554 = .ok (.aload_n 0, 1) := by decide +kernel
theorem dL_law_555 : decode cL_law 555 = .ok (.iload_n 3, 1) := by decide +kernel
theorem dL_law_556 : decode cL_law 556 = .ok (.iconst 2, 1) := by decide +kernel
theorem dL_law_557 : decode cL_law 557 = .ok (.iadd, 1) := by decide +kernel
theorem dL_law_558 : decode cL_law 558 = .ok (.iaload, 1) := by decide +kernel
theorem dL_law_559 : decode cL_law 559 = .ok (.aload_n 0, 1) := by decide +kernel
theorem dL_law_560 : decode cL_law 560 = .ok (.iload_n 3, 1) := by decide +kernel
theorem dL_law_561 : decode cL_law 561 = .ok (.iconst 3, 1) := by decide +kernel
theorem dL_law_562 : decode cL_law 562 = .ok (.iadd, 1) := by decide +kernel
theorem dL_law_563 : decode cL_law 563 = .ok (.iaload, 1) := by decide +kernel
theorem dL_law_564 : decode cL_law 564 = .ok (.invokevirtual 81, 3) := by decide +kernel
theorem dL_law_567 : decode cL_law 567 = .ok (.if_icmp .eq 68, 3) := by decide +kernel
theorem dL_law_570 : decode cL_law 570 = .ok (.iconst 0, 1) := by decide +kernel
theorem dL_law_571 : decode cL_law 571 = .ok (.ireturn, 1) := by decide +kernel
theorem dL_law_572 : decode cL_law 572 = .ok (.aload_n 1, 1) := by decide +kernel
theorem dL_law_573 : decode cL_law 573 = .ok (.invokevirtual 82, 3) := by decide +kernel
theorem dL_law_576 : decode cL_law 576 = .ok (.aload_n 2, 1) := by decide +kernel
theorem dL_law_577 : decode cL_law 577 = .ok (.invokevirtual 85, 3) := by decide +kernel
theorem dL_law_580 : decode cL_law 580 = .ok (.if_icmp .eq 55, 3) := by decide +kernel
theorem dL_law_583 : decode cL_law 583 = .ok (.iconst 0, 1) := by decide +kernel
theorem dL_law_584 : decode cL_law 584 = .ok (.ireturn, 1) := by decide +kernel
theorem dL_law_585 : decode cL_law 585 = .ok (.aload_n 1, 1) := by decide +kernel
theorem dL_law_586 : decode cL_law 586 = .ok (.invokevirtual 86, 3) := by decide +kernel
theorem dL_law_589 : decode cL_law 589 = .ok (.aload_n 2, 1) := by decide +kernel
theorem dL_law_590 : decode cL_law 590 = .ok (.invokevirtual 89, 3) := by decide +kernel
theorem dL_law_593 : decode cL_law 593 = .ok (.if_icmp .eq 42, 3) := by decide +kernel
theorem dL_law_596 : decode cL_law 596 = .ok (.iconst 0, 1) := by decide +kernel
theorem dL_law_597 : decode cL_law 597 = .ok (.ireturn, 1) := by decide +kernel
theorem dL_law_598 : decode cL_law 598 = .ok (.aload_n 1, 1) := by decide +kernel
theorem dL_law_599 : decode cL_law 599 = .ok (.aload_n 0, 1) := by decide +kernel
theorem dL_law_600 : decode cL_law 600 = .ok (.iload_n 3, 1) := by decide +kernel
theorem dL_law_601 : decode cL_law 601 = .ok (.iconst 1, 1) := by decide +kernel
theorem dL_law_602 : decode cL_law 602 = .ok (.iadd, 1) := by decide +kernel
theorem dL_law_603 : decode cL_law 603 = .ok (.iaload, 1) := by decide +kernel
theorem dL_law_604 : decode cL_law 604 = .ok (.invokevirtual 90, 3) := by decide +kernel
theorem dL_law_607 : decode cL_law 607 = .ok (.aload_n 2, 1) := by decide +kernel
theorem dL_law_608 : decode cL_law 608 = .ok (.aload_n 0, 1) := by decide +kernel
theorem dL_law_609 : decode cL_law 609 = .ok (.iload_n 3, 1) := by decide +kernel
theorem dL_law_610 : decode cL_law 610 = .ok (.iconst 1, 1) := by decide +kernel
theorem dL_law_611 : decode cL_law 611 = .ok (.iadd, 1) := by decide +kernel
theorem dL_law_612 : decode cL_law 612 = .ok (.iaload, 1) := by decide +kernel
theorem dL_law_613 : decode cL_law 613 = .ok (.invokevirtual 93, 3) := by decide +kernel
theorem dL_law_616 : decode cL_law 616 = .ok (.if_icmp .eq 19, 3) := by decide +kernel
theorem dL_law_619 : decode cL_law 619 = .ok (.iconst 0, 1) := by decide +kernel
theorem dL_law_620 : decode cL_law 620 = .ok (.ireturn, 1) := by decide +kernel
theorem dL_law_621 : decode cL_law 621 = .ok (.aload_n 1, 1) := by decide +kernel
theorem dL_law_622 : decode cL_law 622 = .ok (.invokevirtual 94, 3) := by decide +kernel
theorem dL_law_625 : decode cL_law 625 = .ok (.aload_n 2, 1) := by decide +kernel
theorem dL_law_626 : decode cL_law 626 = .ok (.invokevirtual 98, 3) := by decide +kernel
theorem dL_law_629 : decode cL_law 629 = .ok (.lcmp, 1) := by decide +kernel
theorem dL_law_630 : decode cL_law 630 = .ok (.ifCond .eq 5, 3) := by decide +kernel
theorem dL_law_633 : decode cL_law 633 = .ok (.iconst 0, 1) := by decide +kernel
theorem dL_law_634 : decode cL_law 634 = .ok (.ireturn, 1) := by decide +kernel
theorem dL_law_635 : decode cL_law 635 = .ok (.iinc 3 4, 3) := by decide +kernel
theorem dL_law_638 : decode cL_law 638 = .ok (.goto (-620), 3) := by decide +kernel
theorem dL_law_641 : decode cL_law 641 = .ok (.iconst 1, 1) := by decide +kernel
theorem dL_law_642 : decode cL_law 642 = .ok (.ireturn, 1) := by decide +kernel
end
section
/-! ===== WORDS: the tables' words that can be carried, one list for all methods ===== -/
def xU : List Cond := lw_tbl.filter goodWord
theorem xUin {w : Cond} (h : w ∈ lw_tbl) (g : goodWord w = true) : w ∈ xU := List.mem_filter.mpr ⟨h, g⟩
theorem xU_tbl : ∀ w ∈ xU, w ∈ lw_tbl := fun w h => (List.mem_filter.mp h).1
theorem xU_good : ∀ w ∈ xU, (w.onTables && w.keeps) = true ∨ ∃ ty, w = .arrayClass ty := fun w h => good_of_word (List.mem_filter.mp h).2
theorem xr1 {w : Cond} (h : w ∈ tables_1_1) (g : goodWord w = true) : w ∈ xU := xUin (List.mem_append_right _ (show w ∈ tables_1 from List.mem_append_left _ h)) g
theorem xr2 {w : Cond} (h : w ∈ tables_1_2) (g : goodWord w = true) : w ∈ xU := xUin (List.mem_append_right _ (show w ∈ tables_1 from List.mem_append_right _ (List.mem_append_left _ h))) g
theorem xr3 {w : Cond} (h : w ∈ tables_1_3) (g : goodWord w = true) : w ∈ xU := xUin (List.mem_append_right _ (show w ∈ tables_1 from List.mem_append_right _ (List.mem_append_right _ (List.mem_append_left _ h)))) g
theorem xr4 {w : Cond} (h : w ∈ tables_1_4) (g : goodWord w = true) : w ∈ xU := xUin (List.mem_append_right _ (show w ∈ tables_1 from List.mem_append_right _ (List.mem_append_right _ (List.mem_append_right _ (List.mem_append_left _ h))))) g
theorem xr5 {w : Cond} (h : w ∈ tables_1_5) (g : goodWord w = true) : w ∈ xU := xUin (List.mem_append_right _ (show w ∈ tables_1 from List.mem_append_right _ (List.mem_append_right _ (List.mem_append_right _ (List.mem_append_right _ h))))) g
theorem xr0 {q : MethodName × Nat} (h : q ∈ lw_privs) : Cond.selects q.1.cls q.1 q.1 ∈ xU := xUin (List.mem_append_left _ (List.mem_map_of_mem (f := fun q : MethodName × Nat => Cond.selects q.1.cls q.1 q.1) h)) rfl
theorem uw_1_0 : Cond.initialized RL ∈ xU := xr1 (List.mem_of_getElem? (i := 0) rfl) rfl
theorem uw_1_1 : Cond.initialized RX5 ∈ xU := xr1 (List.mem_of_getElem? (i := 1) rfl) rfl
theorem uw_1_2 : Cond.initialized RX1 ∈ xU := xr1 (List.mem_of_getElem? (i := 2) rfl) rfl
theorem uw_1_3 : Cond.initialized RX3 ∈ xU := xr1 (List.mem_of_getElem? (i := 3) rfl) rfl
theorem uw_1_4 : Cond.initialized RX2 ∈ xU := xr1 (List.mem_of_getElem? (i := 4) rfl) rfl
theorem uw_1_5 : Cond.initialized RX0 ∈ xU := xr1 (List.mem_of_getElem? (i := 5) rfl) rfl
theorem uw_1_6 : Cond.initialized RX4 ∈ xU := xr1 (List.mem_of_getElem? (i := 6) rfl) rfl
theorem uw_1_7 : Cond.initialized RX6 ∈ xU := xr1 (List.mem_of_getElem? (i := 7) rfl) rfl
theorem uw_1_8 : Cond.initialized RJ0 ∈ xU := xr1 (List.mem_of_getElem? (i := 8) rfl) rfl
theorem uw_1_9 : Cond.initialized RJ1 ∈ xU := xr1 (List.mem_of_getElem? (i := 9) rfl) rfl
theorem uw_1_10 : Cond.initialized RJ9 ∈ xU := xr1 (List.mem_of_getElem? (i := 10) rfl) rfl
theorem uw_1_11 : Cond.initialized RJ2 ∈ xU := xr1 (List.mem_of_getElem? (i := 11) rfl) rfl
theorem uw_1_12 : Cond.initialized RJ3 ∈ xU := xr1 (List.mem_of_getElem? (i := 12) rfl) rfl
theorem uw_1_13 : Cond.initialized RJ11 ∈ xU := xr1 (List.mem_of_getElem? (i := 13) rfl) rfl
theorem uw_1_14 : Cond.initialized RJ6 ∈ xU := xr1 (List.mem_of_getElem? (i := 14) rfl) rfl
theorem uw_1_15 : Cond.classLink RL 7 RX5 ∈ xU := xr1 (List.mem_of_getElem? (i := 15) rfl) rfl
theorem uw_1_16 : Cond.instantiable RX5 5 ∈ xU := xr1 (List.mem_of_getElem? (i := 16) rfl) rfl
theorem uw_1_17 : Cond.methodLink RL 9 yX5_init ∈ xU := xr1 (List.mem_of_getElem? (i := 17) rfl) rfl
theorem uw_1_18 : Cond.instanceMethod yX5_init ∈ xU := xr1 (List.mem_of_getElem? (i := 18) rfl) rfl
theorem uw_1_19 : Cond.code yX5_init prog_1_method_1_code 1 (Option.none : Option Jvm.ClassFile.FieldType) ∈ xU := xr1 (List.mem_of_getElem? (i := 19) rfl) rfl
theorem uw_1_20 : Cond.methodLink RX5 3 objectInit ∈ xU := xr1 (List.mem_of_getElem? (i := 20) rfl) rfl
theorem uw_1_21 : Cond.instanceMethod objectInit ∈ xU := xr1 (List.mem_of_getElem? (i := 21) rfl) rfl
theorem uw_1_22 : Cond.code objectInit object_method_1_code 1 (Option.none : Option Jvm.ClassFile.FieldType) ∈ xU := xr1 (List.mem_of_getElem? (i := 22) rfl) rfl
theorem uw_1_23 : Cond.classLink RX5 9 RX1 ∈ xU := xr1 (List.mem_of_getElem? (i := 23) rfl) rfl
theorem uw_1_24 : Cond.instantiable RX1 2 ∈ xU := xr1 (List.mem_of_getElem? (i := 24) rfl) rfl
theorem uw_1_25 : Cond.methodLink RX5 11 yX1_init ∈ xU := xr1 (List.mem_of_getElem? (i := 25) rfl) rfl
theorem uw_1_26 : Cond.instanceMethod yX1_init ∈ xU := xr1 (List.mem_of_getElem? (i := 26) rfl) rfl
theorem uw_1_27 : Cond.code yX1_init prog_3_method_1_code 1 (Option.none : Option Jvm.ClassFile.FieldType) ∈ xU := xr1 (List.mem_of_getElem? (i := 27) rfl) rfl
theorem uw_1_28 : Cond.methodLink RX1 3 objectInit ∈ xU := xr1 (List.mem_of_getElem? (i := 28) rfl) rfl
theorem uw_1_29 : Cond.fieldLink RX1 9 RX1 "codes" "[I" ∈ xU := xr1 (List.mem_of_getElem? (i := 29) rfl) rfl
theorem uw_1_30 : Cond.fieldLink RX1 15 RX1 "length" "I" ∈ xU := xr1 (List.mem_of_getElem? (i := 30) rfl) rfl
theorem uw_1_31 : Cond.laysFinal RX1 RX1 "codes" "[I" ∈ xU := xr1 (List.mem_of_getElem? (i := 31) rfl) rfl
theorem uw_1_33 : Cond.lays RX1 RX1 "length" "I" ∈ xU := xr1 (List.mem_of_getElem? (i := 33) rfl) rfl
theorem uw_1_36 : Cond.arrayClass Jvm.ClassFile.FieldType.int ∈ xU := xr1 (List.mem_of_getElem? (i := 36) rfl) rfl
theorem uw_1_37 : Cond.classLink RX5 16 RX3 ∈ xU := xr1 (List.mem_of_getElem? (i := 37) rfl) rfl
theorem uw_1_38 : Cond.instantiable RX3 7 ∈ xU := xr1 (List.mem_of_getElem? (i := 38) rfl) rfl
theorem uw_1_39 : Cond.methodLink RX5 18 yX3_init ∈ xU := xr1 (List.mem_of_getElem? (i := 39) rfl) rfl
theorem uw_1_40 : Cond.instanceMethod yX3_init ∈ xU := xr1 (List.mem_of_getElem? (i := 40) rfl) rfl
theorem uw_1_41 : Cond.code yX3_init prog_5_method_1_code 1 (Option.none : Option Jvm.ClassFile.FieldType) ∈ xU := xr1 (List.mem_of_getElem? (i := 41) rfl) rfl
theorem uw_1_42 : Cond.methodLink RX3 3 objectInit ∈ xU := xr1 (List.mem_of_getElem? (i := 42) rfl) rfl
theorem uw_1_43 : Cond.classLink RX3 18 RX2 ∈ xU := xr1 (List.mem_of_getElem? (i := 43) rfl) rfl
theorem uw_1_44 : Cond.instantiable RX2 9 ∈ xU := xr1 (List.mem_of_getElem? (i := 44) rfl) rfl
theorem uw_1_45 : Cond.methodLink RX3 20 yX2_init ∈ xU := xr1 (List.mem_of_getElem? (i := 45) rfl) rfl
theorem uw_1_46 : Cond.instanceMethod yX2_init ∈ xU := xr1 (List.mem_of_getElem? (i := 46) rfl) rfl
theorem uw_1_47 : Cond.code yX2_init prog_4_method_1_code 1 (Option.none : Option Jvm.ClassFile.FieldType) ∈ xU := xr1 (List.mem_of_getElem? (i := 47) rfl) rfl
theorem uw_1_48 : Cond.methodLink RX2 3 objectInit ∈ xU := xr1 (List.mem_of_getElem? (i := 48) rfl) rfl
theorem uw_1_49 : Cond.methodLink RX2 27 yX2_begin ∈ xU := xr1 (List.mem_of_getElem? (i := 49) rfl) rfl
theorem uw_1_50 : Cond.instanceMethod yX2_begin ∈ xU := xr1 (List.mem_of_getElem? (i := 50) rfl) rfl
theorem uw_1_51 : Cond.selects RX2 yX2_begin yX2_begin ∈ xU := xr1 (List.mem_of_getElem? (i := 51) rfl) rfl
theorem uw_1_52 : Cond.code yX2_begin prog_4_method_2_code 1 (Option.none : Option Jvm.ClassFile.FieldType) ∈ xU := xr1 (List.mem_of_getElem? (i := 52) rfl) rfl
theorem uw_1_53 : Cond.methodLink RX2 30 yX2_takeAllBack ∈ xU := xr1 (List.mem_of_getElem? (i := 53) rfl) rfl
theorem uw_1_55 : Cond.instanceMethod yX2_takeAllBack ∈ xU := xr1 (List.mem_of_getElem? (i := 55) rfl) rfl
theorem uw_1_56 : Cond.code yX2_takeAllBack prog_4_method_19_code 2 (Option.none : Option Jvm.ClassFile.FieldType) ∈ xU := xr1 (List.mem_of_getElem? (i := 56) rfl) rfl
theorem uw_1_58 : Cond.static yX5_put ∈ xU := xr1 (List.mem_of_getElem? (i := 58) rfl) rfl
theorem uw_1_59 : Cond.code yX5_put prog_1_method_30_code 3 (Option.none : Option Jvm.ClassFile.FieldType) ∈ xU := xr1 (List.mem_of_getElem? (i := 59) rfl) rfl
theorem uw_1_60 : Cond.fieldLink RX2 9 RX2 "holders" "[I" ∈ xU := xr1 (List.mem_of_getElem? (i := 60) rfl) rfl
theorem uw_1_61 : Cond.fieldLink RX2 15 RX2 "memories" "[I" ∈ xU := xr1 (List.mem_of_getElem? (i := 61) rfl) rfl
theorem uw_1_62 : Cond.fieldLink RX2 18 RX2 "seenThings" "[I" ∈ xU := xr1 (List.mem_of_getElem? (i := 62) rfl) rfl
theorem uw_1_63 : Cond.fieldLink RX2 21 RX2 "seenClaimers" "[I" ∈ xU := xr1 (List.mem_of_getElem? (i := 63) rfl) rfl
theorem uw_1_64 : Cond.fieldLink RX2 24 RX2 "seenFitted" "[I" ∈ xU := xr1 (List.mem_of_getElem? (i := 64) rfl) rfl
theorem uw_1_65 : Cond.fieldLink RX2 33 RX2 "seenInAll" "I" ∈ xU := xr1 (List.mem_of_getElem? (i := 65) rfl) rfl
theorem uw_1_66 : Cond.fieldLink RX2 37 RX2 "mondaysOver" "I" ∈ xU := xr1 (List.mem_of_getElem? (i := 66) rfl) rfl
theorem uw_1_67 : Cond.fieldLink RX2 40 RX2 "thingsLeft" "I" ∈ xU := xr1 (List.mem_of_getElem? (i := 67) rfl) rfl
theorem uw_1_68 : Cond.fieldLink RX2 43 RX2 "claimersLeft" "I" ∈ xU := xr1 (List.mem_of_getElem? (i := 68) rfl) rfl
theorem uw_1_69 : Cond.laysFinal RX2 RX2 "holders" "[I" ∈ xU := xr1 (List.mem_of_getElem? (i := 69) rfl) rfl
theorem uw_1_71 : Cond.laysFinal RX2 RX2 "memories" "[I" ∈ xU := xr1 (List.mem_of_getElem? (i := 71) rfl) rfl
theorem uw_1_73 : Cond.laysFinal RX2 RX2 "seenThings" "[I" ∈ xU := xr1 (List.mem_of_getElem? (i := 73) rfl) rfl
theorem uw_1_75 : Cond.laysFinal RX2 RX2 "seenClaimers" "[I" ∈ xU := xr1 (List.mem_of_getElem? (i := 75) rfl) rfl
theorem uw_1_77 : Cond.laysFinal RX2 RX2 "seenFitted" "[I" ∈ xU := xr1 (List.mem_of_getElem? (i := 77) rfl) rfl
theorem uw_1_79 : Cond.lays RX2 RX2 "seenInAll" "I" ∈ xU := xr1 (List.mem_of_getElem? (i := 79) rfl) rfl
theorem uw_1_81 : Cond.lays RX2 RX2 "mondaysOver" "I" ∈ xU := xr1 (List.mem_of_getElem? (i := 81) rfl) rfl
theorem uw_1_83 : Cond.lays RX2 RX2 "thingsLeft" "I" ∈ xU := xr1 (List.mem_of_getElem? (i := 83) rfl) rfl
theorem uw_1_85 : Cond.lays RX2 RX2 "claimersLeft" "I" ∈ xU := xr1 (List.mem_of_getElem? (i := 85) rfl) rfl
theorem uw_1_88 : Cond.fieldLink RX3 9 RX3 "thingSigns" "[I" ∈ xU := xr1 (List.mem_of_getElem? (i := 88) rfl) rfl
theorem uw_1_89 : Cond.fieldLink RX3 15 RX3 "kinds" "[I" ∈ xU := xr1 (List.mem_of_getElem? (i := 89) rfl) rfl
theorem uw_1_90 : Cond.fieldLink RX3 21 RX3 "register" "LLostTent$Register;" ∈ xU := xr1 (List.mem_of_getElem? (i := 90) rfl) rfl
theorem uw_1_91 : Cond.fieldLink RX3 25 RX3 "image" "LLostTent$Register;" ∈ xU := xr1 (List.mem_of_getElem? (i := 91) rfl) rfl
theorem uw_1_92 : Cond.fieldLink RX3 28 RX3 "things" "I" ∈ xU := xr1 (List.mem_of_getElem? (i := 92) rfl) rfl
theorem uw_1_93 : Cond.fieldLink RX3 32 RX3 "claimers" "I" ∈ xU := xr1 (List.mem_of_getElem? (i := 93) rfl) rfl
theorem uw_1_94 : Cond.fieldLink RX3 35 RX3 "imageKept" "Z" ∈ xU := xr1 (List.mem_of_getElem? (i := 94) rfl) rfl
theorem uw_1_95 : Cond.laysFinal RX3 RX3 "thingSigns" "[I" ∈ xU := xr1 (List.mem_of_getElem? (i := 95) rfl) rfl
theorem uw_1_97 : Cond.laysFinal RX3 RX3 "kinds" "[I" ∈ xU := xr1 (List.mem_of_getElem? (i := 97) rfl) rfl
theorem uw_1_99 : Cond.laysFinal RX3 RX3 "register" "LLostTent$Register;" ∈ xU := xr1 (List.mem_of_getElem? (i := 99) rfl) rfl
theorem uw_1_101 : Cond.laysFinal RX3 RX3 "image" "LLostTent$Register;" ∈ xU := xr1 (List.mem_of_getElem? (i := 101) rfl) rfl
theorem uw_1_103 : Cond.lays RX3 RX3 "things" "I" ∈ xU := xr1 (List.mem_of_getElem? (i := 103) rfl) rfl
theorem uw_1_105 : Cond.lays RX3 RX3 "claimers" "I" ∈ xU := xr1 (List.mem_of_getElem? (i := 105) rfl) rfl
theorem uw_1_107 : Cond.lays RX3 RX3 "imageKept" "Z" ∈ xU := xr1 (List.mem_of_getElem? (i := 107) rfl) rfl
theorem uw_1_110 : Cond.classLink RX5 23 RX0 ∈ xU := xr1 (List.mem_of_getElem? (i := 110) rfl) rfl
theorem uw_1_111 : Cond.instantiable RX0 5 ∈ xU := xr1 (List.mem_of_getElem? (i := 111) rfl) rfl
theorem uw_1_112 : Cond.methodLink RX5 25 yX0_init ∈ xU := xr1 (List.mem_of_getElem? (i := 112) rfl) rfl
theorem uw_1_113 : Cond.instanceMethod yX0_init ∈ xU := xr1 (List.mem_of_getElem? (i := 113) rfl) rfl
theorem uw_1_114 : Cond.code yX0_init prog_2_method_1_code 1 (Option.none : Option Jvm.ClassFile.FieldType) ∈ xU := xr1 (List.mem_of_getElem? (i := 114) rfl) rfl
theorem uw_1_115 : Cond.methodLink RX0 3 objectInit ∈ xU := xr1 (List.mem_of_getElem? (i := 115) rfl) rfl
theorem uw_1_116 : Cond.fieldLink RX0 9 RX0 "prices" "[I" ∈ xU := xr1 (List.mem_of_getElem? (i := 116) rfl) rfl
theorem uw_1_117 : Cond.fieldLink RX0 15 RX0 "gets" "[I" ∈ xU := xr1 (List.mem_of_getElem? (i := 117) rfl) rfl
theorem uw_1_118 : Cond.fieldLink RX0 18 RX0 "things" "I" ∈ xU := xr1 (List.mem_of_getElem? (i := 118) rfl) rfl
theorem uw_1_119 : Cond.fieldLink RX0 22 RX0 "pairs" "I" ∈ xU := xr1 (List.mem_of_getElem? (i := 119) rfl) rfl
theorem uw_1_120 : Cond.fieldLink RX0 25 RX0 "wrongTogether" "I" ∈ xU := xr1 (List.mem_of_getElem? (i := 120) rfl) rfl
theorem uw_1_121 : Cond.laysFinal RX0 RX0 "prices" "[I" ∈ xU := xr1 (List.mem_of_getElem? (i := 121) rfl) rfl
theorem uw_1_123 : Cond.laysFinal RX0 RX0 "gets" "[I" ∈ xU := xr1 (List.mem_of_getElem? (i := 123) rfl) rfl
theorem uw_1_125 : Cond.lays RX0 RX0 "things" "I" ∈ xU := xr1 (List.mem_of_getElem? (i := 125) rfl) rfl
theorem uw_1_127 : Cond.lays RX0 RX0 "pairs" "I" ∈ xU := xr1 (List.mem_of_getElem? (i := 127) rfl) rfl
theorem uw_1_129 : Cond.lays RX0 RX0 "wrongTogether" "I" ∈ xU := xr1 (List.mem_of_getElem? (i := 129) rfl) rfl
theorem uw_1_132 : Cond.classLink RX5 30 RX4 ∈ xU := xr1 (List.mem_of_getElem? (i := 132) rfl) rfl
theorem uw_1_133 : Cond.instantiable RX4 3 ∈ xU := xr1 (List.mem_of_getElem? (i := 133) rfl) rfl
theorem uw_1_134 : Cond.methodLink RX5 32 yX4_init ∈ xU := xr1 (List.mem_of_getElem? (i := 134) rfl) rfl
theorem uw_1_135 : Cond.instanceMethod yX4_init ∈ xU := xr1 (List.mem_of_getElem? (i := 135) rfl) rfl
theorem uw_1_136 : Cond.code yX4_init prog_6_method_1_code 1 (Option.none : Option Jvm.ClassFile.FieldType) ∈ xU := xr1 (List.mem_of_getElem? (i := 136) rfl) rfl
theorem uw_1_137 : Cond.methodLink RX4 3 objectInit ∈ xU := xr1 (List.mem_of_getElem? (i := 137) rfl) rfl
theorem uw_1_138 : Cond.fieldLink RX4 9 RX4 "seed" "J" ∈ xU := xr1 (List.mem_of_getElem? (i := 138) rfl) rfl
theorem uw_1_139 : Cond.fieldLink RX4 15 RX4 "fitting" "I" ∈ xU := xr1 (List.mem_of_getElem? (i := 139) rfl) rfl
theorem uw_1_140 : Cond.fieldLink RX4 19 RX4 "wrongTogether" "I" ∈ xU := xr1 (List.mem_of_getElem? (i := 140) rfl) rfl
theorem uw_1_141 : Cond.lays RX4 RX4 "seed" "J" ∈ xU := xr1 (List.mem_of_getElem? (i := 141) rfl) rfl
theorem uw_1_143 : Cond.lays RX4 RX4 "fitting" "I" ∈ xU := xr1 (List.mem_of_getElem? (i := 143) rfl) rfl
theorem uw_1_145 : Cond.lays RX4 RX4 "wrongTogether" "I" ∈ xU := xr1 (List.mem_of_getElem? (i := 145) rfl) rfl
theorem uw_1_148 : Cond.fieldLink RX5 12 RX5 "page" "LLostTent$Page;" ∈ xU := xr1 (List.mem_of_getElem? (i := 148) rfl) rfl
theorem uw_1_149 : Cond.fieldLink RX5 19 RX5 "pitched" "LLostTent$Tent;" ∈ xU := xr1 (List.mem_of_getElem? (i := 149) rfl) rfl
theorem uw_1_150 : Cond.fieldLink RX5 26 RX5 "matching" "LLostTent$Matching;" ∈ xU := xr1 (List.mem_of_getElem? (i := 150) rfl) rfl
theorem uw_1_151 : Cond.fieldLink RX5 33 RX5 "visits" "LLostTent$Visits;" ∈ xU := xr1 (List.mem_of_getElem? (i := 151) rfl) rfl
theorem uw_1_152 : Cond.fieldLink RX5 37 RX5 "tentsRead" "I" ∈ xU := xr1 (List.mem_of_getElem? (i := 152) rfl) rfl
theorem uw_1_153 : Cond.laysFinal RX5 RX5 "page" "LLostTent$Page;" ∈ xU := xr1 (List.mem_of_getElem? (i := 153) rfl) rfl
theorem uw_1_155 : Cond.laysFinal RX5 RX5 "pitched" "LLostTent$Tent;" ∈ xU := xr1 (List.mem_of_getElem? (i := 155) rfl) rfl
theorem uw_1_157 : Cond.laysFinal RX5 RX5 "matching" "LLostTent$Matching;" ∈ xU := xr1 (List.mem_of_getElem? (i := 157) rfl) rfl
theorem uw_1_159 : Cond.laysFinal RX5 RX5 "visits" "LLostTent$Visits;" ∈ xU := xr1 (List.mem_of_getElem? (i := 159) rfl) rfl
theorem uw_1_161 : Cond.lays RX5 RX5 "tentsRead" "I" ∈ xU := xr1 (List.mem_of_getElem? (i := 161) rfl) rfl
theorem uw_1_164 : Cond.methodLink RL 13 yX5_letter ∈ xU := xr1 (List.mem_of_getElem? (i := 164) rfl) rfl
theorem uw_1_165 : Cond.instanceMethod yX5_letter ∈ xU := xr1 (List.mem_of_getElem? (i := 165) rfl) rfl
theorem uw_1_166 : Cond.selects RX5 yX5_letter yX5_letter ∈ xU := xr1 (List.mem_of_getElem? (i := 166) rfl) rfl
theorem uw_1_167 : Cond.code yX5_letter prog_1_method_2_code 2 (some FieldType.int) ∈ xU := xr1 (List.mem_of_getElem? (i := 167) rfl) rfl
theorem uw_1_168 : Cond.methodLink RX5 41 yX1_append ∈ xU := xr1 (List.mem_of_getElem? (i := 168) rfl) rfl
theorem uw_1_169 : Cond.instanceMethod yX1_append ∈ xU := xr1 (List.mem_of_getElem? (i := 169) rfl) rfl
theorem uw_1_170 : Cond.selects RX1 yX1_append yX1_append ∈ xU := xr1 (List.mem_of_getElem? (i := 170) rfl) rfl
theorem uw_1_171 : Cond.code yX1_append prog_3_method_4_code 2 (some FieldType.boolean) ∈ xU := xr1 (List.mem_of_getElem? (i := 171) rfl) rfl
theorem uw_1_173 : Cond.methodLink RX5 45 yX1_length ∈ xU := xr1 (List.mem_of_getElem? (i := 173) rfl) rfl
theorem uw_1_174 : Cond.instanceMethod yX1_length ∈ xU := xr1 (List.mem_of_getElem? (i := 174) rfl) rfl
theorem uw_1_175 : Cond.selects RX1 yX1_length yX1_length ∈ xU := xr1 (List.mem_of_getElem? (i := 175) rfl) rfl
theorem uw_1_176 : Cond.code yX1_length prog_3_method_2_code 1 (some FieldType.int) ∈ xU := xr1 (List.mem_of_getElem? (i := 176) rfl) rfl
theorem uw_1_177 : Cond.methodLink RL 18 yX5_blank ∈ xU := xr1 (List.mem_of_getElem? (i := 177) rfl) rfl
theorem uw_1_178 : Cond.instanceMethod yX5_blank ∈ xU := xr1 (List.mem_of_getElem? (i := 178) rfl) rfl
theorem uw_1_179 : Cond.selects RX5 yX5_blank yX5_blank ∈ xU := xr1 (List.mem_of_getElem? (i := 179) rfl) rfl
theorem uw_1_180 : Cond.code yX5_blank prog_1_method_3_code 2 (some FieldType.int) ∈ xU := xr1 (List.mem_of_getElem? (i := 180) rfl) rfl
theorem uw_1_181 : Cond.methodLink RX5 49 yX1_clear ∈ xU := xr1 (List.mem_of_getElem? (i := 181) rfl) rfl
theorem uw_1_182 : Cond.instanceMethod yX1_clear ∈ xU := xr1 (List.mem_of_getElem? (i := 182) rfl) rfl
theorem uw_1_183 : Cond.selects RX1 yX1_clear yX1_clear ∈ xU := xr1 (List.mem_of_getElem? (i := 183) rfl) rfl
theorem uw_1_184 : Cond.code yX1_clear prog_3_method_5_code 1 (Option.none : Option Jvm.ClassFile.FieldType) ∈ xU := xr1 (List.mem_of_getElem? (i := 184) rfl) rfl
theorem uw_1_185 : Cond.methodLink RL 23 yX5_fault ∈ xU := xr1 (List.mem_of_getElem? (i := 185) rfl) rfl
theorem uw_1_186 : Cond.instanceMethod yX5_fault ∈ xU := xr1 (List.mem_of_getElem? (i := 186) rfl) rfl
theorem uw_1_187 : Cond.selects RX5 yX5_fault yX5_fault ∈ xU := xr1 (List.mem_of_getElem? (i := 187) rfl) rfl
theorem uw_1_188 : Cond.code yX5_fault prog_1_method_4_code 1 (some FieldType.int) ∈ xU := xr1 (List.mem_of_getElem? (i := 188) rfl) rfl
theorem uw_1_189 : Cond.methodLink RX5 52 yX1_firstFault ∈ xU := xr1 (List.mem_of_getElem? (i := 189) rfl) rfl
theorem uw_1_190 : Cond.instanceMethod yX1_firstFault ∈ xU := xr1 (List.mem_of_getElem? (i := 190) rfl) rfl
theorem uw_1_191 : Cond.selects RX1 yX1_firstFault yX1_firstFault ∈ xU := xr1 (List.mem_of_getElem? (i := 191) rfl) rfl
theorem uw_1_192 : Cond.code yX1_firstFault prog_3_method_6_code 5 (some FieldType.int) ∈ xU := xr1 (List.mem_of_getElem? (i := 192) rfl) rfl
theorem uw_1_193 : Cond.methodLink RX1 27 yX1_firstClaimer ∈ xU := xr1 (List.mem_of_getElem? (i := 193) rfl) rfl
theorem uw_1_195 : Cond.instanceMethod yX1_firstClaimer ∈ xU := xr1 (List.mem_of_getElem? (i := 195) rfl) rfl
theorem uw_1_196 : Cond.code yX1_firstClaimer prog_3_method_13_code 2 (some FieldType.int) ∈ xU := xr1 (List.mem_of_getElem? (i := 196) rfl) rfl
theorem uw_1_198 : Cond.static yX5_entry ∈ xU := xr1 (List.mem_of_getElem? (i := 198) rfl) rfl
theorem uw_1_199 : Cond.code yX5_entry prog_1_method_29_code 2 (some FieldType.int) ∈ xU := xr1 (List.mem_of_getElem? (i := 199) rfl) rfl
theorem uw_1_200 : Cond.methodLink RX1 31 yX1_isGoodAmongThings ∈ xU := xr1 (List.mem_of_getElem? (i := 200) rfl) rfl
theorem uw_1_201 : Cond.static yX1_isGoodAmongThings ∈ xU := xr1 (List.mem_of_getElem? (i := 201) rfl) rfl
theorem uw_1_202 : Cond.code yX1_isGoodAmongThings prog_3_method_14_code 4 (some FieldType.boolean) ∈ xU := xr1 (List.mem_of_getElem? (i := 202) rfl) rfl
theorem uw_1_203 : Cond.methodLink RX1 45 yX1_isSign ∈ xU := xr1 (List.mem_of_getElem? (i := 203) rfl) rfl
theorem uw_1_204 : Cond.static yX1_isSign ∈ xU := xr1 (List.mem_of_getElem? (i := 204) rfl) rfl
theorem uw_1_205 : Cond.code yX1_isSign prog_3_method_16_code 2 (some FieldType.boolean) ∈ xU := xr1 (List.mem_of_getElem? (i := 205) rfl) rfl
theorem uw_1_209 : Cond.static yX5_isBelow ∈ xU := xr1 (List.mem_of_getElem? (i := 209) rfl) rfl
theorem uw_1_210 : Cond.code yX5_isBelow prog_1_method_27_code 2 (some FieldType.boolean) ∈ xU := xr1 (List.mem_of_getElem? (i := 210) rfl) rfl
theorem uw_1_211 : Cond.methodLink RX1 35 yX1_isGoodAmongClaimers ∈ xU := xr1 (List.mem_of_getElem? (i := 211) rfl) rfl
theorem uw_1_212 : Cond.static yX1_isGoodAmongClaimers ∈ xU := xr1 (List.mem_of_getElem? (i := 212) rfl) rfl
theorem uw_1_213 : Cond.code yX1_isGoodAmongClaimers prog_3_method_15_code 4 (some FieldType.boolean) ∈ xU := xr1 (List.mem_of_getElem? (i := 213) rfl) rfl
theorem uw_1_214 : Cond.methodLink RX1 41 yX1_kindOfLetter ∈ xU := xr1 (List.mem_of_getElem? (i := 214) rfl) rfl
theorem uw_1_215 : Cond.static yX1_kindOfLetter ∈ xU := xr1 (List.mem_of_getElem? (i := 215) rfl) rfl
theorem uw_1_216 : Cond.code yX1_kindOfLetter prog_3_method_17_code 1 (some FieldType.int) ∈ xU := xr1 (List.mem_of_getElem? (i := 216) rfl) rfl
theorem uw_1_218 : Cond.methodLink RX1 56 yJ0_indexOf_0f7a4 ∈ xU := xr1 (List.mem_of_getElem? (i := 218) rfl) rfl
theorem uw_1_219 : Cond.instanceMethod yJ0_indexOf_0f7a4 ∈ xU := xr1 (List.mem_of_getElem? (i := 219) rfl) rfl
theorem uw_1_220 : Cond.selects RJ0 yJ0_indexOf_0f7a4 yJ0_indexOf_0f7a4 ∈ xU := xr1 (List.mem_of_getElem? (i := 220) rfl) rfl
theorem uw_1_221 : Cond.code yJ0_indexOf_0f7a4 prog_12_method_79_code 2 (some FieldType.int) ∈ xU := xr1 (List.mem_of_getElem? (i := 221) rfl) rfl
theorem uw_1_222 : Cond.methodLink RJ0 633 yJ0_indexOf_7cf53 ∈ xU := xr1 (List.mem_of_getElem? (i := 222) rfl) rfl
theorem uw_1_223 : Cond.instanceMethod yJ0_indexOf_7cf53 ∈ xU := xr1 (List.mem_of_getElem? (i := 223) rfl) rfl
theorem uw_1_224 : Cond.selects RJ0 yJ0_indexOf_7cf53 yJ0_indexOf_7cf53 ∈ xU := xr1 (List.mem_of_getElem? (i := 224) rfl) rfl
theorem uw_1_225 : Cond.code yJ0_indexOf_7cf53 prog_12_method_80_code 3 (some FieldType.int) ∈ xU := xr1 (List.mem_of_getElem? (i := 225) rfl) rfl
theorem uw_1_226 : Cond.methodLink RJ0 492 yJ0_isLatin1_aae02 ∈ xU := xr1 (List.mem_of_getElem? (i := 226) rfl) rfl
theorem uw_1_227 : Cond.instanceMethod yJ0_isLatin1_aae02 ∈ xU := xr1 (List.mem_of_getElem? (i := 227) rfl) rfl
theorem uw_1_228 : Cond.selects RJ0 yJ0_isLatin1_aae02 yJ0_isLatin1_aae02 ∈ xU := xr1 (List.mem_of_getElem? (i := 228) rfl) rfl
theorem uw_1_229 : Cond.code yJ0_isLatin1_aae02 prog_12_method_154_code 1 (some FieldType.boolean) ∈ xU := xr1 (List.mem_of_getElem? (i := 229) rfl) rfl
theorem uw_1_230 : Cond.fieldLink RJ0 38 RJ0 "COMPACT_STRINGS" "Z" ∈ xU := xr1 (List.mem_of_getElem? (i := 230) rfl) rfl
theorem uw_1_232 : Cond.methodLink RJ0 505 yJ0_length_8abf5 ∈ xU := xr1 (List.mem_of_getElem? (i := 232) rfl) rfl
theorem uw_1_233 : Cond.instanceMethod yJ0_length_8abf5 ∈ xU := xr1 (List.mem_of_getElem? (i := 233) rfl) rfl
theorem uw_1_234 : Cond.selects RJ0 yJ0_length_8abf5 yJ0_length_8abf5 ∈ xU := xr1 (List.mem_of_getElem? (i := 234) rfl) rfl
theorem uw_1_235 : Cond.code yJ0_length_8abf5 prog_12_method_54_code 1 (some FieldType.int) ∈ xU := xr1 (List.mem_of_getElem? (i := 235) rfl) rfl
theorem uw_1_236 : Cond.methodLink RJ0 335 yJ0_coder_7d493 ∈ xU := xr1 (List.mem_of_getElem? (i := 236) rfl) rfl
theorem uw_1_237 : Cond.instanceMethod yJ0_coder_7d493 ∈ xU := xr1 (List.mem_of_getElem? (i := 237) rfl) rfl
theorem uw_1_238 : Cond.selects RJ0 yJ0_coder_7d493 yJ0_coder_7d493 ∈ xU := xr1 (List.mem_of_getElem? (i := 238) rfl) rfl
theorem uw_1_239 : Cond.code yJ0_coder_7d493 prog_12_method_152_code 1 (some FieldType.byte) ∈ xU := xr1 (List.mem_of_getElem? (i := 239) rfl) rfl
theorem uw_2_0 : Cond.methodLink RJ0 637 yJ1_indexOf_4cfef ∈ xU := xr2 (List.mem_of_getElem? (i := 0) rfl) rfl
theorem uw_2_1 : Cond.static yJ1_indexOf_4cfef ∈ xU := xr2 (List.mem_of_getElem? (i := 1) rfl) rfl
theorem uw_2_2 : Cond.code yJ1_indexOf_4cfef prog_13_method_22_code 4 (some FieldType.int) ∈ xU := xr2 (List.mem_of_getElem? (i := 2) rfl) rfl
theorem uw_2_3 : Cond.methodLink RJ1 88 yJ1_canEncode_9a6ad ∈ xU := xr2 (List.mem_of_getElem? (i := 3) rfl) rfl
theorem uw_2_4 : Cond.static yJ1_canEncode_9a6ad ∈ xU := xr2 (List.mem_of_getElem? (i := 4) rfl) rfl
theorem uw_2_5 : Cond.code yJ1_canEncode_9a6ad prog_13_method_4_code 1 (some FieldType.boolean) ∈ xU := xr2 (List.mem_of_getElem? (i := 5) rfl) rfl
theorem uw_2_6 : Cond.methodLink RJ1 92 Lib.Math.max.name ∈ xU := xr2 (List.mem_of_getElem? (i := 6) rfl) rfl
theorem uw_2_7 : Cond.static Lib.Math.max.name ∈ xU := xr2 (List.mem_of_getElem? (i := 7) rfl) rfl
theorem uw_2_8 : Cond.code Lib.Math.max.name prog_11_method_65_code 2 (some FieldType.int) ∈ xU := xr2 (List.mem_of_getElem? (i := 8) rfl) rfl
theorem uw_2_9 : Cond.methodLink RJ1 38 Lib.Math.min.name ∈ xU := xr2 (List.mem_of_getElem? (i := 9) rfl) rfl
theorem uw_2_10 : Cond.static Lib.Math.min.name ∈ xU := xr2 (List.mem_of_getElem? (i := 10) rfl) rfl
theorem uw_2_11 : Cond.code Lib.Math.min.name prog_11_method_69_code 2 (some FieldType.int) ∈ xU := xr2 (List.mem_of_getElem? (i := 11) rfl) rfl
theorem uw_2_12 : Cond.methodLink RJ1 95 yJ1_indexOfChar_4cfef ∈ xU := xr2 (List.mem_of_getElem? (i := 12) rfl) rfl
theorem uw_2_13 : Cond.static yJ1_indexOfChar_4cfef ∈ xU := xr2 (List.mem_of_getElem? (i := 13) rfl) rfl
theorem uw_2_14 : Cond.code yJ1_indexOfChar_4cfef prog_13_method_23_code 6 (some FieldType.int) ∈ xU := xr2 (List.mem_of_getElem? (i := 14) rfl) rfl
theorem uw_2_18 : Cond.methodLink RJ2 224 Lib.Math.max.name ∈ xU := xr2 (List.mem_of_getElem? (i := 18) rfl) rfl
theorem uw_2_19 : Cond.methodLink RJ2 183 Lib.Math.min.name ∈ xU := xr2 (List.mem_of_getElem? (i := 19) rfl) rfl
theorem uw_2_20 : Cond.constant RJ2 227 (65536) ∈ xU := xr2 (List.mem_of_getElem? (i := 20) rfl) rfl
theorem uw_2_33 : Cond.fieldLink RJ0 1053 RJ3 "SIOOBE_FORMATTER" "Ljava/util/function/BiFunction;" ∈ xU := xr2 (List.mem_of_getElem? (i := 33) rfl) rfl
theorem uw_2_44 : Cond.fieldLink RJ2 44 RJ2 "$assertionsDisabled" "Z" ∈ xU := xr2 (List.mem_of_getElem? (i := 44) rfl) rfl
theorem uw_2_46 : Cond.fieldLink RJ2 59 RJ2 "HI_BYTE_SHIFT" "I" ∈ xU := xr2 (List.mem_of_getElem? (i := 46) rfl) rfl
theorem uw_2_48 : Cond.fieldLink RJ2 63 RJ2 "LO_BYTE_SHIFT" "I" ∈ xU := xr2 (List.mem_of_getElem? (i := 48) rfl) rfl
theorem uw_2_59 : Cond.constant RJ11 110 (55232) ∈ xU := xr2 (List.mem_of_getElem? (i := 59) rfl) rfl
theorem uw_2_63 : Cond.constant RJ11 76 (56320) ∈ xU := xr2 (List.mem_of_getElem? (i := 63) rfl) rfl
theorem uw_2_64 : Cond.arrayClass Jvm.ClassFile.FieldType.byte ∈ xU := xr2 (List.mem_of_getElem? (i := 64) rfl) rfl
theorem uw_2_65 : Cond.methodLink RL 27 yX5_tent ∈ xU := xr2 (List.mem_of_getElem? (i := 65) rfl) rfl
theorem uw_2_66 : Cond.instanceMethod yX5_tent ∈ xU := xr2 (List.mem_of_getElem? (i := 66) rfl) rfl
theorem uw_2_67 : Cond.selects RX5 yX5_tent yX5_tent ∈ xU := xr2 (List.mem_of_getElem? (i := 67) rfl) rfl
theorem uw_2_68 : Cond.code yX5_tent prog_1_method_5_code 1 (some FieldType.int) ∈ xU := xr2 (List.mem_of_getElem? (i := 68) rfl) rfl
theorem uw_2_69 : Cond.methodLink RX5 55 yX1_isTent ∈ xU := xr2 (List.mem_of_getElem? (i := 69) rfl) rfl
theorem uw_2_70 : Cond.instanceMethod yX1_isTent ∈ xU := xr2 (List.mem_of_getElem? (i := 70) rfl) rfl
theorem uw_2_71 : Cond.selects RX1 yX1_isTent yX1_isTent ∈ xU := xr2 (List.mem_of_getElem? (i := 71) rfl) rfl
theorem uw_2_72 : Cond.code yX1_isTent prog_3_method_7_code 2 (some FieldType.boolean) ∈ xU := xr2 (List.mem_of_getElem? (i := 72) rfl) rfl
theorem uw_2_73 : Cond.methodLink RX1 38 yX1_firstFault ∈ xU := xr2 (List.mem_of_getElem? (i := 73) rfl) rfl
theorem uw_2_74 : Cond.methodLink RX5 59 yX3_readFrom ∈ xU := xr2 (List.mem_of_getElem? (i := 74) rfl) rfl
theorem uw_2_75 : Cond.instanceMethod yX3_readFrom ∈ xU := xr2 (List.mem_of_getElem? (i := 75) rfl) rfl
theorem uw_2_76 : Cond.selects RX3 yX3_readFrom yX3_readFrom ∈ xU := xr2 (List.mem_of_getElem? (i := 76) rfl) rfl
theorem uw_2_77 : Cond.code yX3_readFrom prog_5_method_2_code 4 (Option.none : Option Jvm.ClassFile.FieldType) ∈ xU := xr2 (List.mem_of_getElem? (i := 77) rfl) rfl
theorem uw_2_78 : Cond.methodLink RX3 39 yX1_things ∈ xU := xr2 (List.mem_of_getElem? (i := 78) rfl) rfl
theorem uw_2_79 : Cond.instanceMethod yX1_things ∈ xU := xr2 (List.mem_of_getElem? (i := 79) rfl) rfl
theorem uw_2_80 : Cond.selects RX1 yX1_things yX1_things ∈ xU := xr2 (List.mem_of_getElem? (i := 80) rfl) rfl
theorem uw_2_81 : Cond.code yX1_things prog_3_method_8_code 1 (some FieldType.int) ∈ xU := xr2 (List.mem_of_getElem? (i := 81) rfl) rfl
theorem uw_2_82 : Cond.methodLink RX3 44 yX1_claimers ∈ xU := xr2 (List.mem_of_getElem? (i := 82) rfl) rfl
theorem uw_2_83 : Cond.instanceMethod yX1_claimers ∈ xU := xr2 (List.mem_of_getElem? (i := 83) rfl) rfl
theorem uw_2_84 : Cond.selects RX1 yX1_claimers yX1_claimers ∈ xU := xr2 (List.mem_of_getElem? (i := 84) rfl) rfl
theorem uw_2_85 : Cond.code yX1_claimers prog_3_method_9_code 1 (some FieldType.int) ∈ xU := xr2 (List.mem_of_getElem? (i := 85) rfl) rfl
theorem uw_2_86 : Cond.methodLink RX3 46 yX2_begin ∈ xU := xr2 (List.mem_of_getElem? (i := 86) rfl) rfl
theorem uw_2_87 : Cond.methodLink RX3 49 yX1_thingSign ∈ xU := xr2 (List.mem_of_getElem? (i := 87) rfl) rfl
theorem uw_2_88 : Cond.instanceMethod yX1_thingSign ∈ xU := xr2 (List.mem_of_getElem? (i := 88) rfl) rfl
theorem uw_2_89 : Cond.selects RX1 yX1_thingSign yX1_thingSign ∈ xU := xr2 (List.mem_of_getElem? (i := 89) rfl) rfl
theorem uw_2_90 : Cond.code yX1_thingSign prog_3_method_10_code 3 (some FieldType.int) ∈ xU := xr2 (List.mem_of_getElem? (i := 90) rfl) rfl
theorem uw_2_92 : Cond.methodLink RX3 57 yX1_claimerKind ∈ xU := xr2 (List.mem_of_getElem? (i := 92) rfl) rfl
theorem uw_2_93 : Cond.instanceMethod yX1_claimerKind ∈ xU := xr2 (List.mem_of_getElem? (i := 93) rfl) rfl
theorem uw_2_94 : Cond.selects RX1 yX1_claimerKind yX1_claimerKind ∈ xU := xr2 (List.mem_of_getElem? (i := 94) rfl) rfl
theorem uw_2_95 : Cond.code yX1_claimerKind prog_3_method_11_code 2 (some FieldType.int) ∈ xU := xr2 (List.mem_of_getElem? (i := 95) rfl) rfl
theorem uw_2_96 : Cond.methodLink RX3 61 yX1_claimerSign ∈ xU := xr2 (List.mem_of_getElem? (i := 96) rfl) rfl
theorem uw_2_97 : Cond.instanceMethod yX1_claimerSign ∈ xU := xr2 (List.mem_of_getElem? (i := 97) rfl) rfl
theorem uw_2_98 : Cond.selects RX1 yX1_claimerSign yX1_claimerSign ∈ xU := xr2 (List.mem_of_getElem? (i := 98) rfl) rfl
theorem uw_2_99 : Cond.code yX1_claimerSign prog_3_method_12_code 3 (some FieldType.int) ∈ xU := xr2 (List.mem_of_getElem? (i := 99) rfl) rfl
theorem uw_2_100 : Cond.methodLink RX3 64 yX2_setMemory ∈ xU := xr2 (List.mem_of_getElem? (i := 100) rfl) rfl
theorem uw_2_101 : Cond.instanceMethod yX2_setMemory ∈ xU := xr2 (List.mem_of_getElem? (i := 101) rfl) rfl
theorem uw_2_102 : Cond.selects RX2 yX2_setMemory yX2_setMemory ∈ xU := xr2 (List.mem_of_getElem? (i := 102) rfl) rfl
theorem uw_2_103 : Cond.code yX2_setMemory prog_4_method_8_code 4 (Option.none : Option Jvm.ClassFile.FieldType) ∈ xU := xr2 (List.mem_of_getElem? (i := 103) rfl) rfl
theorem uw_2_104 : Cond.methodLink RX5 63 yX3_things ∈ xU := xr2 (List.mem_of_getElem? (i := 104) rfl) rfl
theorem uw_2_105 : Cond.instanceMethod yX3_things ∈ xU := xr2 (List.mem_of_getElem? (i := 105) rfl) rfl
theorem uw_2_106 : Cond.selects RX3 yX3_things yX3_things ∈ xU := xr2 (List.mem_of_getElem? (i := 106) rfl) rfl
theorem uw_2_107 : Cond.code yX3_things prog_5_method_4_code 1 (some FieldType.int) ∈ xU := xr2 (List.mem_of_getElem? (i := 107) rfl) rfl
theorem uw_2_108 : Cond.methodLink RL 31 yX5_thing ∈ xU := xr2 (List.mem_of_getElem? (i := 108) rfl) rfl
theorem uw_2_109 : Cond.instanceMethod yX5_thing ∈ xU := xr2 (List.mem_of_getElem? (i := 109) rfl) rfl
theorem uw_2_110 : Cond.selects RX5 yX5_thing yX5_thing ∈ xU := xr2 (List.mem_of_getElem? (i := 110) rfl) rfl
theorem uw_2_111 : Cond.code yX5_thing prog_1_method_6_code 3 (some FieldType.int) ∈ xU := xr2 (List.mem_of_getElem? (i := 111) rfl) rfl
theorem uw_2_112 : Cond.methodLink RX5 66 yX3_hasThing ∈ xU := xr2 (List.mem_of_getElem? (i := 112) rfl) rfl
theorem uw_2_113 : Cond.instanceMethod yX3_hasThing ∈ xU := xr2 (List.mem_of_getElem? (i := 113) rfl) rfl
theorem uw_2_114 : Cond.selects RX3 yX3_hasThing yX3_hasThing ∈ xU := xr2 (List.mem_of_getElem? (i := 114) rfl) rfl
theorem uw_2_115 : Cond.code yX3_hasThing prog_5_method_6_code 2 (some FieldType.boolean) ∈ xU := xr2 (List.mem_of_getElem? (i := 115) rfl) rfl
theorem uw_2_117 : Cond.methodLink RX5 69 yX3_signOf ∈ xU := xr2 (List.mem_of_getElem? (i := 117) rfl) rfl
theorem uw_2_118 : Cond.instanceMethod yX3_signOf ∈ xU := xr2 (List.mem_of_getElem? (i := 118) rfl) rfl
theorem uw_2_119 : Cond.selects RX3 yX3_signOf yX3_signOf ∈ xU := xr2 (List.mem_of_getElem? (i := 119) rfl) rfl
theorem uw_2_120 : Cond.code yX3_signOf prog_5_method_13_code 3 (some FieldType.int) ∈ xU := xr2 (List.mem_of_getElem? (i := 120) rfl) rfl
theorem uw_2_122 : Cond.methodLink RX5 73 yX3_register ∈ xU := xr2 (List.mem_of_getElem? (i := 122) rfl) rfl
theorem uw_2_123 : Cond.instanceMethod yX3_register ∈ xU := xr2 (List.mem_of_getElem? (i := 123) rfl) rfl
theorem uw_2_124 : Cond.selects RX3 yX3_register yX3_register ∈ xU := xr2 (List.mem_of_getElem? (i := 124) rfl) rfl
theorem uw_2_125 : Cond.code yX3_register prog_5_method_9_code 1 (some (FieldType.object "LostTent$Register")) ∈ xU := xr2 (List.mem_of_getElem? (i := 125) rfl) rfl
theorem uw_2_126 : Cond.methodLink RX5 77 yX2_holderOf ∈ xU := xr2 (List.mem_of_getElem? (i := 126) rfl) rfl
theorem uw_2_127 : Cond.instanceMethod yX2_holderOf ∈ xU := xr2 (List.mem_of_getElem? (i := 127) rfl) rfl
theorem uw_2_128 : Cond.selects RX2 yX2_holderOf yX2_holderOf ∈ xU := xr2 (List.mem_of_getElem? (i := 128) rfl) rfl
theorem uw_2_129 : Cond.code yX2_holderOf prog_4_method_4_code 2 (some FieldType.int) ∈ xU := xr2 (List.mem_of_getElem? (i := 129) rfl) rfl
theorem uw_2_131 : Cond.methodLink RX5 83 yX3_claimersFitted ∈ xU := xr2 (List.mem_of_getElem? (i := 131) rfl) rfl
theorem uw_2_132 : Cond.instanceMethod yX3_claimersFitted ∈ xU := xr2 (List.mem_of_getElem? (i := 132) rfl) rfl
theorem uw_2_133 : Cond.selects RX3 yX3_claimersFitted yX3_claimersFitted ∈ xU := xr2 (List.mem_of_getElem? (i := 133) rfl) rfl
theorem uw_2_134 : Cond.code yX3_claimersFitted prog_5_method_17_code 4 (some FieldType.int) ∈ xU := xr2 (List.mem_of_getElem? (i := 134) rfl) rfl
theorem uw_2_135 : Cond.methodLink RX3 100 yX3_fits ∈ xU := xr2 (List.mem_of_getElem? (i := 135) rfl) rfl
theorem uw_2_136 : Cond.instanceMethod yX3_fits ∈ xU := xr2 (List.mem_of_getElem? (i := 136) rfl) rfl
theorem uw_2_137 : Cond.selects RX3 yX3_fits yX3_fits ∈ xU := xr2 (List.mem_of_getElem? (i := 137) rfl) rfl
theorem uw_2_138 : Cond.code yX3_fits prog_5_method_16_code 3 (some FieldType.boolean) ∈ xU := xr2 (List.mem_of_getElem? (i := 138) rfl) rfl
theorem uw_2_139 : Cond.methodLink RX3 94 yX3_kindOf ∈ xU := xr2 (List.mem_of_getElem? (i := 139) rfl) rfl
theorem uw_2_140 : Cond.instanceMethod yX3_kindOf ∈ xU := xr2 (List.mem_of_getElem? (i := 140) rfl) rfl
theorem uw_2_141 : Cond.selects RX3 yX3_kindOf yX3_kindOf ∈ xU := xr2 (List.mem_of_getElem? (i := 141) rfl) rfl
theorem uw_2_142 : Cond.code yX3_kindOf prog_5_method_14_code 2 (some FieldType.int) ∈ xU := xr2 (List.mem_of_getElem? (i := 142) rfl) rfl
theorem uw_2_143 : Cond.methodLink RX3 87 yX3_signOf ∈ xU := xr2 (List.mem_of_getElem? (i := 143) rfl) rfl
theorem uw_2_144 : Cond.methodLink RX3 90 yX3_wrongIfLostIn ∈ xU := xr2 (List.mem_of_getElem? (i := 144) rfl) rfl
theorem uw_2_146 : Cond.instanceMethod yX3_wrongIfLostIn ∈ xU := xr2 (List.mem_of_getElem? (i := 146) rfl) rfl
theorem uw_2_147 : Cond.code yX3_wrongIfLostIn prog_5_method_29_code 4 (some FieldType.int) ∈ xU := xr2 (List.mem_of_getElem? (i := 147) rfl) rfl
theorem uw_2_148 : Cond.methodLink RX3 146 yX2_memoryOf ∈ xU := xr2 (List.mem_of_getElem? (i := 148) rfl) rfl
theorem uw_2_149 : Cond.instanceMethod yX2_memoryOf ∈ xU := xr2 (List.mem_of_getElem? (i := 149) rfl) rfl
theorem uw_2_150 : Cond.selects RX2 yX2_memoryOf yX2_memoryOf ∈ xU := xr2 (List.mem_of_getElem? (i := 150) rfl) rfl
theorem uw_2_151 : Cond.code yX2_memoryOf prog_4_method_7_code 3 (some FieldType.int) ∈ xU := xr2 (List.mem_of_getElem? (i := 151) rfl) rfl
theorem uw_2_152 : Cond.methodLink RX3 149 Lib.Math.abs.name ∈ xU := xr2 (List.mem_of_getElem? (i := 152) rfl) rfl
theorem uw_2_153 : Cond.static Lib.Math.abs.name ∈ xU := xr2 (List.mem_of_getElem? (i := 153) rfl) rfl
theorem uw_2_154 : Cond.code Lib.Math.abs.name prog_11_method_59_code 1 (some FieldType.int) ∈ xU := xr2 (List.mem_of_getElem? (i := 154) rfl) rfl
theorem uw_2_156 : Cond.static yX5_wrongBy ∈ xU := xr2 (List.mem_of_getElem? (i := 156) rfl) rfl
theorem uw_2_157 : Cond.code yX5_wrongBy prog_1_method_25_code 5 (some FieldType.int) ∈ xU := xr2 (List.mem_of_getElem? (i := 157) rfl) rfl
theorem uw_2_158 : Cond.fieldLink RX5 223 RX5 "WRONG_A_YEAR" "[I" ∈ xU := xr2 (List.mem_of_getElem? (i := 158) rfl) rfl
theorem uw_2_160 : Cond.methodLink RX5 134 yX5_entry ∈ xU := xr2 (List.mem_of_getElem? (i := 160) rfl) rfl
theorem uw_2_161 : Cond.fieldLink RX5 226 RX5 "WRONG_BY_PLACE" "[I" ∈ xU := xr2 (List.mem_of_getElem? (i := 161) rfl) rfl
theorem uw_2_163 : Cond.fieldLink RX5 229 RX5 "WRONG_BY_LIKE" "[I" ∈ xU := xr2 (List.mem_of_getElem? (i := 163) rfl) rfl
theorem uw_2_166 : Cond.static yX5_isFit ∈ xU := xr2 (List.mem_of_getElem? (i := 166) rfl) rfl
theorem uw_2_167 : Cond.code yX5_isFit prog_1_method_26_code 2 (some FieldType.boolean) ∈ xU := xr2 (List.mem_of_getElem? (i := 167) rfl) rfl
theorem uw_2_168 : Cond.fieldLink RX5 232 RX5 "FITS_UP_TO" "[I" ∈ xU := xr2 (List.mem_of_getElem? (i := 168) rfl) rfl
theorem uw_2_170 : Cond.methodLink RX5 86 yX3_yearsOf ∈ xU := xr2 (List.mem_of_getElem? (i := 170) rfl) rfl
theorem uw_2_171 : Cond.instanceMethod yX3_yearsOf ∈ xU := xr2 (List.mem_of_getElem? (i := 171) rfl) rfl
theorem uw_2_172 : Cond.selects RX3 yX3_yearsOf yX3_yearsOf ∈ xU := xr2 (List.mem_of_getElem? (i := 172) rfl) rfl
theorem uw_2_173 : Cond.code yX3_yearsOf prog_5_method_26_code 5 (some FieldType.int) ∈ xU := xr2 (List.mem_of_getElem? (i := 173) rfl) rfl
theorem uw_2_174 : Cond.methodLink RX3 131 yX2_seenInAll ∈ xU := xr2 (List.mem_of_getElem? (i := 174) rfl) rfl
theorem uw_2_175 : Cond.instanceMethod yX2_seenInAll ∈ xU := xr2 (List.mem_of_getElem? (i := 175) rfl) rfl
theorem uw_2_176 : Cond.selects RX2 yX2_seenInAll yX2_seenInAll ∈ xU := xr2 (List.mem_of_getElem? (i := 176) rfl) rfl
theorem uw_2_177 : Cond.code yX2_seenInAll prog_4_method_15_code 1 (some FieldType.int) ∈ xU := xr2 (List.mem_of_getElem? (i := 177) rfl) rfl
theorem uw_2_178 : Cond.methodLink RX3 134 yX2_seenThing ∈ xU := xr2 (List.mem_of_getElem? (i := 178) rfl) rfl
theorem uw_2_179 : Cond.instanceMethod yX2_seenThing ∈ xU := xr2 (List.mem_of_getElem? (i := 179) rfl) rfl
theorem uw_2_180 : Cond.selects RX2 yX2_seenThing yX2_seenThing ∈ xU := xr2 (List.mem_of_getElem? (i := 180) rfl) rfl
theorem uw_2_181 : Cond.code yX2_seenThing prog_4_method_16_code 2 (some FieldType.int) ∈ xU := xr2 (List.mem_of_getElem? (i := 181) rfl) rfl
theorem uw_2_182 : Cond.methodLink RX3 137 yX2_seenClaimer ∈ xU := xr2 (List.mem_of_getElem? (i := 182) rfl) rfl
theorem uw_2_183 : Cond.instanceMethod yX2_seenClaimer ∈ xU := xr2 (List.mem_of_getElem? (i := 183) rfl) rfl
theorem uw_2_184 : Cond.selects RX2 yX2_seenClaimer yX2_seenClaimer ∈ xU := xr2 (List.mem_of_getElem? (i := 184) rfl) rfl
theorem uw_2_185 : Cond.code yX2_seenClaimer prog_4_method_17_code 2 (some FieldType.int) ∈ xU := xr2 (List.mem_of_getElem? (i := 185) rfl) rfl
theorem uw_2_186 : Cond.methodLink RX3 140 yX3_yearsFitting ∈ xU := xr2 (List.mem_of_getElem? (i := 186) rfl) rfl
theorem uw_2_188 : Cond.instanceMethod yX3_yearsFitting ∈ xU := xr2 (List.mem_of_getElem? (i := 188) rfl) rfl
theorem uw_2_189 : Cond.code yX3_yearsFitting prog_5_method_28_code 5 (some FieldType.int) ∈ xU := xr2 (List.mem_of_getElem? (i := 189) rfl) rfl
theorem uw_2_190 : Cond.methodLink RX3 143 yX2_seenFitted ∈ xU := xr2 (List.mem_of_getElem? (i := 190) rfl) rfl
theorem uw_2_191 : Cond.instanceMethod yX2_seenFitted ∈ xU := xr2 (List.mem_of_getElem? (i := 191) rfl) rfl
theorem uw_2_192 : Cond.selects RX2 yX2_seenFitted yX2_seenFitted ∈ xU := xr2 (List.mem_of_getElem? (i := 192) rfl) rfl
theorem uw_2_193 : Cond.code yX2_seenFitted prog_4_method_18_code 2 (some FieldType.boolean) ∈ xU := xr2 (List.mem_of_getElem? (i := 193) rfl) rfl
theorem uw_2_194 : Cond.methodLink RX5 89 yX3_claimerToShow ∈ xU := xr2 (List.mem_of_getElem? (i := 194) rfl) rfl
theorem uw_2_195 : Cond.instanceMethod yX3_claimerToShow ∈ xU := xr2 (List.mem_of_getElem? (i := 195) rfl) rfl
theorem uw_2_196 : Cond.selects RX3 yX3_claimerToShow yX3_claimerToShow ∈ xU := xr2 (List.mem_of_getElem? (i := 196) rfl) rfl
theorem uw_2_197 : Cond.code yX3_claimerToShow prog_5_method_27_code 8 (some FieldType.int) ∈ xU := xr2 (List.mem_of_getElem? (i := 197) rfl) rfl
theorem uw_2_198 : Cond.methodLink RX3 109 yJ6_bitCount_0f7a4 ∈ xU := xr2 (List.mem_of_getElem? (i := 198) rfl) rfl
theorem uw_2_199 : Cond.static yJ6_bitCount_0f7a4 ∈ xU := xr2 (List.mem_of_getElem? (i := 199) rfl) rfl
theorem uw_2_200 : Cond.code yJ6_bitCount_0f7a4 prog_10_method_49_code 1 (some FieldType.int) ∈ xU := xr2 (List.mem_of_getElem? (i := 200) rfl) rfl
theorem uw_2_201 : Cond.constant RJ6 265 (1431655765) ∈ xU := xr2 (List.mem_of_getElem? (i := 201) rfl) rfl
theorem uw_2_202 : Cond.constant RJ6 266 (858993459) ∈ xU := xr2 (List.mem_of_getElem? (i := 202) rfl) rfl
theorem uw_2_203 : Cond.constant RJ6 267 (252645135) ∈ xU := xr2 (List.mem_of_getElem? (i := 203) rfl) rfl
theorem uw_2_204 : Cond.methodLink RX3 126 Lib.Math.max.name ∈ xU := xr2 (List.mem_of_getElem? (i := 204) rfl) rfl
theorem uw_2_205 : Cond.methodLink RL 36 yX5_claimer ∈ xU := xr2 (List.mem_of_getElem? (i := 205) rfl) rfl
theorem uw_2_206 : Cond.instanceMethod yX5_claimer ∈ xU := xr2 (List.mem_of_getElem? (i := 206) rfl) rfl
theorem uw_2_207 : Cond.selects RX5 yX5_claimer yX5_claimer ∈ xU := xr2 (List.mem_of_getElem? (i := 207) rfl) rfl
theorem uw_2_208 : Cond.code yX5_claimer prog_1_method_7_code 3 (some FieldType.int) ∈ xU := xr2 (List.mem_of_getElem? (i := 208) rfl) rfl
theorem uw_2_209 : Cond.methodLink RX5 92 yX3_hasClaimer ∈ xU := xr2 (List.mem_of_getElem? (i := 209) rfl) rfl
theorem uw_2_210 : Cond.instanceMethod yX3_hasClaimer ∈ xU := xr2 (List.mem_of_getElem? (i := 210) rfl) rfl
theorem uw_2_211 : Cond.selects RX3 yX3_hasClaimer yX3_hasClaimer ∈ xU := xr2 (List.mem_of_getElem? (i := 211) rfl) rfl
theorem uw_2_212 : Cond.code yX3_hasClaimer prog_5_method_7_code 2 (some FieldType.boolean) ∈ xU := xr2 (List.mem_of_getElem? (i := 212) rfl) rfl
theorem uw_2_213 : Cond.methodLink RX5 95 yX2_memoryOf ∈ xU := xr2 (List.mem_of_getElem? (i := 213) rfl) rfl
theorem uw_2_214 : Cond.methodLink RX5 98 yX3_kindOf ∈ xU := xr2 (List.mem_of_getElem? (i := 214) rfl) rfl
theorem uw_2_215 : Cond.methodLink RX5 101 yX2_thingOf ∈ xU := xr2 (List.mem_of_getElem? (i := 215) rfl) rfl
theorem uw_2_216 : Cond.instanceMethod yX2_thingOf ∈ xU := xr2 (List.mem_of_getElem? (i := 216) rfl) rfl
theorem uw_2_217 : Cond.selects RX2 yX2_thingOf yX2_thingOf ∈ xU := xr2 (List.mem_of_getElem? (i := 217) rfl) rfl
theorem uw_2_218 : Cond.code yX2_thingOf prog_4_method_5_code 3 (some FieldType.int) ∈ xU := xr2 (List.mem_of_getElem? (i := 218) rfl) rfl
theorem uw_2_219 : Cond.methodLink RX5 104 yX3_thingsFitting ∈ xU := xr2 (List.mem_of_getElem? (i := 219) rfl) rfl
theorem uw_2_220 : Cond.instanceMethod yX3_thingsFitting ∈ xU := xr2 (List.mem_of_getElem? (i := 220) rfl) rfl
theorem uw_2_221 : Cond.selects RX3 yX3_thingsFitting yX3_thingsFitting ∈ xU := xr2 (List.mem_of_getElem? (i := 221) rfl) rfl
theorem uw_2_222 : Cond.code yX3_thingsFitting prog_5_method_18_code 4 (some FieldType.int) ∈ xU := xr2 (List.mem_of_getElem? (i := 222) rfl) rfl
theorem uw_2_223 : Cond.methodLink RX5 107 yX3_thingsNotGiven ∈ xU := xr2 (List.mem_of_getElem? (i := 223) rfl) rfl
theorem uw_2_224 : Cond.instanceMethod yX3_thingsNotGiven ∈ xU := xr2 (List.mem_of_getElem? (i := 224) rfl) rfl
theorem uw_2_225 : Cond.selects RX3 yX3_thingsNotGiven yX3_thingsNotGiven ∈ xU := xr2 (List.mem_of_getElem? (i := 225) rfl) rfl
theorem uw_2_226 : Cond.code yX3_thingsNotGiven prog_5_method_19_code 3 (some FieldType.int) ∈ xU := xr2 (List.mem_of_getElem? (i := 226) rfl) rfl
theorem uw_2_227 : Cond.methodLink RX3 103 yX2_holderOf ∈ xU := xr2 (List.mem_of_getElem? (i := 227) rfl) rfl
theorem uw_2_228 : Cond.methodLink RX5 110 yX3_signToAsk ∈ xU := xr2 (List.mem_of_getElem? (i := 228) rfl) rfl
theorem uw_2_229 : Cond.instanceMethod yX3_signToAsk ∈ xU := xr2 (List.mem_of_getElem? (i := 229) rfl) rfl
theorem uw_2_230 : Cond.selects RX3 yX3_signToAsk yX3_signToAsk ∈ xU := xr2 (List.mem_of_getElem? (i := 230) rfl) rfl
theorem uw_2_231 : Cond.code yX3_signToAsk prog_5_method_23_code 6 (some FieldType.int) ∈ xU := xr2 (List.mem_of_getElem? (i := 231) rfl) rfl
theorem uw_2_232 : Cond.methodLink RX3 117 yX3_mostAlike ∈ xU := xr2 (List.mem_of_getElem? (i := 232) rfl) rfl
theorem uw_2_234 : Cond.instanceMethod yX3_mostAlike ∈ xU := xr2 (List.mem_of_getElem? (i := 234) rfl) rfl
theorem uw_2_235 : Cond.code yX3_mostAlike prog_5_method_24_code 5 (some FieldType.int) ∈ xU := xr2 (List.mem_of_getElem? (i := 235) rfl) rfl
theorem uw_2_237 : Cond.static yX5_isIn ∈ xU := xr2 (List.mem_of_getElem? (i := 237) rfl) rfl
theorem uw_2_238 : Cond.code yX5_isIn prog_1_method_28_code 2 (some FieldType.boolean) ∈ xU := xr2 (List.mem_of_getElem? (i := 238) rfl) rfl
theorem uw_2_239 : Cond.methodLink RX3 123 yX3_howManyAlike ∈ xU := xr2 (List.mem_of_getElem? (i := 239) rfl) rfl
theorem uw_3_1 : Cond.instanceMethod yX3_howManyAlike ∈ xU := xr3 (List.mem_of_getElem? (i := 1) rfl) rfl
theorem uw_3_2 : Cond.code yX3_howManyAlike prog_5_method_25_code 6 (some FieldType.int) ∈ xU := xr3 (List.mem_of_getElem? (i := 2) rfl) rfl
theorem uw_3_3 : Cond.methodLink RL 40 yX5_as ∈ xU := xr3 (List.mem_of_getElem? (i := 3) rfl) rfl
theorem uw_3_4 : Cond.instanceMethod yX5_as ∈ xU := xr3 (List.mem_of_getElem? (i := 4) rfl) rfl
theorem uw_3_5 : Cond.selects RX5 yX5_as yX5_as ∈ xU := xr3 (List.mem_of_getElem? (i := 5) rfl) rfl
theorem uw_3_6 : Cond.code yX5_as prog_1_method_8_code 3 (some FieldType.int) ∈ xU := xr3 (List.mem_of_getElem? (i := 6) rfl) rfl
theorem uw_3_7 : Cond.methodLink RX5 113 yX5_isBelow ∈ xU := xr3 (List.mem_of_getElem? (i := 7) rfl) rfl
theorem uw_3_8 : Cond.methodLink RX5 117 yX5_isKind ∈ xU := xr3 (List.mem_of_getElem? (i := 8) rfl) rfl
theorem uw_3_9 : Cond.static yX5_isKind ∈ xU := xr3 (List.mem_of_getElem? (i := 9) rfl) rfl
theorem uw_3_10 : Cond.code yX5_isKind prog_1_method_24_code 2 (some FieldType.boolean) ∈ xU := xr3 (List.mem_of_getElem? (i := 10) rfl) rfl
theorem uw_3_11 : Cond.methodLink RL 44 yX5_wrong ∈ xU := xr3 (List.mem_of_getElem? (i := 11) rfl) rfl
theorem uw_3_12 : Cond.instanceMethod yX5_wrong ∈ xU := xr3 (List.mem_of_getElem? (i := 12) rfl) rfl
theorem uw_3_13 : Cond.selects RX5 yX5_wrong yX5_wrong ∈ xU := xr3 (List.mem_of_getElem? (i := 13) rfl) rfl
theorem uw_3_14 : Cond.code yX5_wrong prog_1_method_9_code 3 (some FieldType.int) ∈ xU := xr3 (List.mem_of_getElem? (i := 14) rfl) rfl
theorem uw_3_15 : Cond.methodLink RX5 120 yX3_hasBoth ∈ xU := xr3 (List.mem_of_getElem? (i := 15) rfl) rfl
theorem uw_3_16 : Cond.instanceMethod yX3_hasBoth ∈ xU := xr3 (List.mem_of_getElem? (i := 16) rfl) rfl
theorem uw_3_17 : Cond.selects RX3 yX3_hasBoth yX3_hasBoth ∈ xU := xr3 (List.mem_of_getElem? (i := 17) rfl) rfl
theorem uw_3_18 : Cond.code yX3_hasBoth prog_5_method_8_code 3 (some FieldType.boolean) ∈ xU := xr3 (List.mem_of_getElem? (i := 18) rfl) rfl
theorem uw_3_19 : Cond.methodLink RX3 72 yX3_hasThing ∈ xU := xr3 (List.mem_of_getElem? (i := 19) rfl) rfl
theorem uw_3_20 : Cond.methodLink RX3 76 yX3_hasClaimer ∈ xU := xr3 (List.mem_of_getElem? (i := 20) rfl) rfl
theorem uw_3_21 : Cond.methodLink RX5 123 yX3_wrongOf ∈ xU := xr3 (List.mem_of_getElem? (i := 21) rfl) rfl
theorem uw_3_22 : Cond.instanceMethod yX3_wrongOf ∈ xU := xr3 (List.mem_of_getElem? (i := 22) rfl) rfl
theorem uw_3_23 : Cond.selects RX3 yX3_wrongOf yX3_wrongOf ∈ xU := xr3 (List.mem_of_getElem? (i := 23) rfl) rfl
theorem uw_3_24 : Cond.code yX3_wrongOf prog_5_method_15_code 3 (some FieldType.int) ∈ xU := xr3 (List.mem_of_getElem? (i := 24) rfl) rfl
theorem uw_3_25 : Cond.methodLink RL 48 yX5_give ∈ xU := xr3 (List.mem_of_getElem? (i := 25) rfl) rfl
theorem uw_3_26 : Cond.instanceMethod yX5_give ∈ xU := xr3 (List.mem_of_getElem? (i := 26) rfl) rfl
theorem uw_3_27 : Cond.selects RX5 yX5_give yX5_give ∈ xU := xr3 (List.mem_of_getElem? (i := 27) rfl) rfl
theorem uw_3_28 : Cond.code yX5_give prog_1_method_10_code 4 (some FieldType.int) ∈ xU := xr3 (List.mem_of_getElem? (i := 28) rfl) rfl
theorem uw_3_29 : Cond.methodLink RX5 126 yX2_hand ∈ xU := xr3 (List.mem_of_getElem? (i := 29) rfl) rfl
theorem uw_3_30 : Cond.instanceMethod yX2_hand ∈ xU := xr3 (List.mem_of_getElem? (i := 30) rfl) rfl
theorem uw_3_31 : Cond.selects RX2 yX2_hand yX2_hand ∈ xU := xr3 (List.mem_of_getElem? (i := 31) rfl) rfl
theorem uw_3_32 : Cond.code yX2_hand prog_4_method_6_code 3 (Option.none : Option Jvm.ClassFile.FieldType) ∈ xU := xr3 (List.mem_of_getElem? (i := 32) rfl) rfl
theorem uw_3_33 : Cond.methodLink RL 52 yX5_back ∈ xU := xr3 (List.mem_of_getElem? (i := 33) rfl) rfl
theorem uw_3_34 : Cond.instanceMethod yX5_back ∈ xU := xr3 (List.mem_of_getElem? (i := 34) rfl) rfl
theorem uw_3_35 : Cond.selects RX5 yX5_back yX5_back ∈ xU := xr3 (List.mem_of_getElem? (i := 35) rfl) rfl
theorem uw_3_36 : Cond.code yX5_back prog_1_method_11_code 3 (some FieldType.int) ∈ xU := xr3 (List.mem_of_getElem? (i := 36) rfl) rfl
theorem uw_3_37 : Cond.methodLink RL 56 yX5_remember ∈ xU := xr3 (List.mem_of_getElem? (i := 37) rfl) rfl
theorem uw_3_38 : Cond.instanceMethod yX5_remember ∈ xU := xr3 (List.mem_of_getElem? (i := 38) rfl) rfl
theorem uw_3_39 : Cond.selects RX5 yX5_remember yX5_remember ∈ xU := xr3 (List.mem_of_getElem? (i := 39) rfl) rfl
theorem uw_3_40 : Cond.code yX5_remember prog_1_method_12_code 5 (some FieldType.int) ∈ xU := xr3 (List.mem_of_getElem? (i := 40) rfl) rfl
theorem uw_3_41 : Cond.fieldLink RX5 130 RX5 "SIGN_VALUES" "[I" ∈ xU := xr3 (List.mem_of_getElem? (i := 41) rfl) rfl
theorem uw_3_42 : Cond.methodLink RX5 138 yX2_setMemory ∈ xU := xr3 (List.mem_of_getElem? (i := 42) rfl) rfl
theorem uw_3_43 : Cond.methodLink RL 61 yX5_six ∈ xU := xr3 (List.mem_of_getElem? (i := 43) rfl) rfl
theorem uw_3_44 : Cond.instanceMethod yX5_six ∈ xU := xr3 (List.mem_of_getElem? (i := 44) rfl) rfl
theorem uw_3_45 : Cond.selects RX5 yX5_six yX5_six ∈ xU := xr3 (List.mem_of_getElem? (i := 45) rfl) rfl
theorem uw_3_46 : Cond.code yX5_six prog_1_method_13_code 3 (some FieldType.int) ∈ xU := xr3 (List.mem_of_getElem? (i := 46) rfl) rfl
theorem uw_3_47 : Cond.methodLink RX5 142 yX3_stands ∈ xU := xr3 (List.mem_of_getElem? (i := 47) rfl) rfl
theorem uw_3_48 : Cond.instanceMethod yX3_stands ∈ xU := xr3 (List.mem_of_getElem? (i := 48) rfl) rfl
theorem uw_3_49 : Cond.selects RX3 yX3_stands yX3_stands ∈ xU := xr3 (List.mem_of_getElem? (i := 49) rfl) rfl
theorem uw_3_50 : Cond.code yX3_stands prog_5_method_3_code 1 (some FieldType.boolean) ∈ xU := xr3 (List.mem_of_getElem? (i := 50) rfl) rfl
theorem uw_3_51 : Cond.methodLink RX5 145 yX2_mondaysOver ∈ xU := xr3 (List.mem_of_getElem? (i := 51) rfl) rfl
theorem uw_3_52 : Cond.instanceMethod yX2_mondaysOver ∈ xU := xr3 (List.mem_of_getElem? (i := 52) rfl) rfl
theorem uw_3_53 : Cond.selects RX2 yX2_mondaysOver yX2_mondaysOver ∈ xU := xr3 (List.mem_of_getElem? (i := 53) rfl) rfl
theorem uw_3_54 : Cond.code yX2_mondaysOver prog_4_method_10_code 1 (some FieldType.int) ∈ xU := xr3 (List.mem_of_getElem? (i := 54) rfl) rfl
theorem uw_3_55 : Cond.methodLink RX5 148 yX3_given ∈ xU := xr3 (List.mem_of_getElem? (i := 55) rfl) rfl
theorem uw_3_56 : Cond.instanceMethod yX3_given ∈ xU := xr3 (List.mem_of_getElem? (i := 56) rfl) rfl
theorem uw_3_57 : Cond.selects RX3 yX3_given yX3_given ∈ xU := xr3 (List.mem_of_getElem? (i := 57) rfl) rfl
theorem uw_3_58 : Cond.code yX3_given prog_5_method_20_code 1 (some FieldType.int) ∈ xU := xr3 (List.mem_of_getElem? (i := 58) rfl) rfl
theorem uw_3_59 : Cond.methodLink RX3 106 yX3_thingsNotGiven ∈ xU := xr3 (List.mem_of_getElem? (i := 59) rfl) rfl
theorem uw_3_60 : Cond.methodLink RX5 151 yX3_claimers ∈ xU := xr3 (List.mem_of_getElem? (i := 60) rfl) rfl
theorem uw_3_61 : Cond.instanceMethod yX3_claimers ∈ xU := xr3 (List.mem_of_getElem? (i := 61) rfl) rfl
theorem uw_3_62 : Cond.selects RX3 yX3_claimers yX3_claimers ∈ xU := xr3 (List.mem_of_getElem? (i := 62) rfl) rfl
theorem uw_3_63 : Cond.code yX3_claimers prog_5_method_5_code 1 (some FieldType.int) ∈ xU := xr3 (List.mem_of_getElem? (i := 63) rfl) rfl
theorem uw_3_64 : Cond.methodLink RX5 154 yX2_endMonday ∈ xU := xr3 (List.mem_of_getElem? (i := 64) rfl) rfl
theorem uw_3_65 : Cond.instanceMethod yX2_endMonday ∈ xU := xr3 (List.mem_of_getElem? (i := 65) rfl) rfl
theorem uw_3_66 : Cond.selects RX2 yX2_endMonday yX2_endMonday ∈ xU := xr3 (List.mem_of_getElem? (i := 66) rfl) rfl
theorem uw_3_67 : Cond.code yX2_endMonday prog_4_method_9_code 3 (Option.none : Option Jvm.ClassFile.FieldType) ∈ xU := xr3 (List.mem_of_getElem? (i := 67) rfl) rfl
theorem uw_3_68 : Cond.methodLink RL 65 yX5_match ∈ xU := xr3 (List.mem_of_getElem? (i := 68) rfl) rfl
theorem uw_3_69 : Cond.instanceMethod yX5_match ∈ xU := xr3 (List.mem_of_getElem? (i := 69) rfl) rfl
theorem uw_3_70 : Cond.selects RX5 yX5_match yX5_match ∈ xU := xr3 (List.mem_of_getElem? (i := 70) rfl) rfl
theorem uw_3_71 : Cond.code yX5_match prog_1_method_14_code 2 (some FieldType.int) ∈ xU := xr3 (List.mem_of_getElem? (i := 71) rfl) rfl
theorem uw_3_72 : Cond.methodLink RX5 157 yX5_isMatchQuestion ∈ xU := xr3 (List.mem_of_getElem? (i := 72) rfl) rfl
theorem uw_3_73 : Cond.static yX5_isMatchQuestion ∈ xU := xr3 (List.mem_of_getElem? (i := 73) rfl) rfl
theorem uw_3_74 : Cond.code yX5_isMatchQuestion prog_1_method_23_code 1 (some FieldType.boolean) ∈ xU := xr3 (List.mem_of_getElem? (i := 74) rfl) rfl
theorem uw_3_75 : Cond.methodLink RX5 160 yX0_solve ∈ xU := xr3 (List.mem_of_getElem? (i := 75) rfl) rfl
theorem uw_3_76 : Cond.instanceMethod yX0_solve ∈ xU := xr3 (List.mem_of_getElem? (i := 76) rfl) rfl
theorem uw_3_77 : Cond.selects RX0 yX0_solve yX0_solve ∈ xU := xr3 (List.mem_of_getElem? (i := 77) rfl) rfl
theorem uw_3_78 : Cond.code yX0_solve prog_2_method_3_code 5 (Option.none : Option Jvm.ClassFile.FieldType) ∈ xU := xr3 (List.mem_of_getElem? (i := 78) rfl) rfl
theorem uw_3_79 : Cond.methodLink RX0 32 yX0_setPrices ∈ xU := xr3 (List.mem_of_getElem? (i := 79) rfl) rfl
theorem uw_3_81 : Cond.instanceMethod yX0_setPrices ∈ xU := xr3 (List.mem_of_getElem? (i := 81) rfl) rfl
theorem uw_3_82 : Cond.code yX0_setPrices prog_2_method_4_code 6 (Option.none : Option Jvm.ClassFile.FieldType) ∈ xU := xr3 (List.mem_of_getElem? (i := 82) rfl) rfl
theorem uw_3_83 : Cond.methodLink RX0 47 yX3_things ∈ xU := xr3 (List.mem_of_getElem? (i := 83) rfl) rfl
theorem uw_3_84 : Cond.methodLink RX0 52 yX3_hasClaimer ∈ xU := xr3 (List.mem_of_getElem? (i := 84) rfl) rfl
theorem uw_3_85 : Cond.methodLink RX0 56 yX3_register ∈ xU := xr3 (List.mem_of_getElem? (i := 85) rfl) rfl
theorem uw_3_86 : Cond.methodLink RX0 60 yX2_thingOf ∈ xU := xr3 (List.mem_of_getElem? (i := 86) rfl) rfl
theorem uw_3_87 : Cond.methodLink RX0 66 yX3_hasThing ∈ xU := xr3 (List.mem_of_getElem? (i := 87) rfl) rfl
theorem uw_3_88 : Cond.methodLink RX0 69 yX2_holderOf ∈ xU := xr3 (List.mem_of_getElem? (i := 88) rfl) rfl
theorem uw_3_89 : Cond.methodLink RX0 72 yX3_fits ∈ xU := xr3 (List.mem_of_getElem? (i := 89) rfl) rfl
theorem uw_3_90 : Cond.methodLink RX0 75 yX3_wrongOf ∈ xU := xr3 (List.mem_of_getElem? (i := 90) rfl) rfl
theorem uw_3_92 : Cond.methodLink RX0 36 yX0_may ∈ xU := xr3 (List.mem_of_getElem? (i := 92) rfl) rfl
theorem uw_3_94 : Cond.instanceMethod yX0_may ∈ xU := xr3 (List.mem_of_getElem? (i := 94) rfl) rfl
theorem uw_3_95 : Cond.code yX0_may prog_2_method_5_code 3 (some FieldType.boolean) ∈ xU := xr3 (List.mem_of_getElem? (i := 95) rfl) rfl
theorem uw_3_96 : Cond.methodLink RX0 83 yX0_price ∈ xU := xr3 (List.mem_of_getElem? (i := 96) rfl) rfl
theorem uw_3_98 : Cond.instanceMethod yX0_price ∈ xU := xr3 (List.mem_of_getElem? (i := 98) rfl) rfl
theorem uw_3_99 : Cond.code yX0_price prog_2_method_6_code 3 (some FieldType.int) ∈ xU := xr3 (List.mem_of_getElem? (i := 99) rfl) rfl
theorem uw_3_101 : Cond.methodLink RX0 40 yX0_isTwice ∈ xU := xr3 (List.mem_of_getElem? (i := 101) rfl) rfl
theorem uw_3_102 : Cond.static yX0_isTwice ∈ xU := xr3 (List.mem_of_getElem? (i := 102) rfl) rfl
theorem uw_3_103 : Cond.code yX0_isTwice prog_2_method_7_code 2 (some FieldType.boolean) ∈ xU := xr3 (List.mem_of_getElem? (i := 103) rfl) rfl
theorem uw_3_104 : Cond.methodLink RX0 43 yX0_keepIfBetter ∈ xU := xr3 (List.mem_of_getElem? (i := 104) rfl) rfl
theorem uw_3_106 : Cond.instanceMethod yX0_keepIfBetter ∈ xU := xr3 (List.mem_of_getElem? (i := 106) rfl) rfl
theorem uw_3_107 : Cond.code yX0_keepIfBetter prog_2_method_8_code 6 (Option.none : Option Jvm.ClassFile.FieldType) ∈ xU := xr3 (List.mem_of_getElem? (i := 107) rfl) rfl
theorem uw_3_108 : Cond.methodLink RX0 86 yX0_oneIfGiven ∈ xU := xr3 (List.mem_of_getElem? (i := 108) rfl) rfl
theorem uw_3_109 : Cond.static yX0_oneIfGiven ∈ xU := xr3 (List.mem_of_getElem? (i := 109) rfl) rfl
theorem uw_3_110 : Cond.code yX0_oneIfGiven prog_2_method_9_code 1 (some FieldType.int) ∈ xU := xr3 (List.mem_of_getElem? (i := 110) rfl) rfl
theorem uw_3_111 : Cond.methodLink RX0 89 yX0_priceIfGiven ∈ xU := xr3 (List.mem_of_getElem? (i := 111) rfl) rfl
theorem uw_3_113 : Cond.instanceMethod yX0_priceIfGiven ∈ xU := xr3 (List.mem_of_getElem? (i := 113) rfl) rfl
theorem uw_3_114 : Cond.code yX0_priceIfGiven prog_2_method_10_code 3 (some FieldType.int) ∈ xU := xr3 (List.mem_of_getElem? (i := 114) rfl) rfl
theorem uw_3_115 : Cond.methodLink RX5 164 yX0_tell ∈ xU := xr3 (List.mem_of_getElem? (i := 115) rfl) rfl
theorem uw_3_116 : Cond.instanceMethod yX0_tell ∈ xU := xr3 (List.mem_of_getElem? (i := 116) rfl) rfl
theorem uw_3_117 : Cond.selects RX0 yX0_tell yX0_tell ∈ xU := xr3 (List.mem_of_getElem? (i := 117) rfl) rfl
theorem uw_3_118 : Cond.code yX0_tell prog_2_method_2_code 2 (some FieldType.int) ∈ xU := xr3 (List.mem_of_getElem? (i := 118) rfl) rfl
theorem uw_3_119 : Cond.methodLink RL 69 yX5_see ∈ xU := xr3 (List.mem_of_getElem? (i := 119) rfl) rfl
theorem uw_3_120 : Cond.instanceMethod yX5_see ∈ xU := xr3 (List.mem_of_getElem? (i := 120) rfl) rfl
theorem uw_3_121 : Cond.selects RX5 yX5_see yX5_see ∈ xU := xr3 (List.mem_of_getElem? (i := 121) rfl) rfl
theorem uw_3_122 : Cond.code yX5_see prog_1_method_15_code 4 (some FieldType.int) ∈ xU := xr3 (List.mem_of_getElem? (i := 122) rfl) rfl
theorem uw_3_123 : Cond.methodLink RX5 167 yX2_noteSeen ∈ xU := xr3 (List.mem_of_getElem? (i := 123) rfl) rfl
theorem uw_3_124 : Cond.instanceMethod yX2_noteSeen ∈ xU := xr3 (List.mem_of_getElem? (i := 124) rfl) rfl
theorem uw_3_125 : Cond.selects RX2 yX2_noteSeen yX2_noteSeen ∈ xU := xr3 (List.mem_of_getElem? (i := 125) rfl) rfl
theorem uw_3_126 : Cond.code yX2_noteSeen prog_4_method_13_code 4 (some FieldType.boolean) ∈ xU := xr3 (List.mem_of_getElem? (i := 126) rfl) rfl
theorem uw_3_127 : Cond.methodLink RX5 171 yX2_seenInAll ∈ xU := xr3 (List.mem_of_getElem? (i := 127) rfl) rfl
theorem uw_3_128 : Cond.methodLink RL 74 yX5_forget ∈ xU := xr3 (List.mem_of_getElem? (i := 128) rfl) rfl
theorem uw_3_129 : Cond.instanceMethod yX5_forget ∈ xU := xr3 (List.mem_of_getElem? (i := 129) rfl) rfl
theorem uw_3_130 : Cond.selects RX5 yX5_forget yX5_forget ∈ xU := xr3 (List.mem_of_getElem? (i := 130) rfl) rfl
theorem uw_3_131 : Cond.code yX5_forget prog_1_method_16_code 2 (some FieldType.int) ∈ xU := xr3 (List.mem_of_getElem? (i := 131) rfl) rfl
theorem uw_3_132 : Cond.methodLink RX5 174 yX2_clearSeen ∈ xU := xr3 (List.mem_of_getElem? (i := 132) rfl) rfl
theorem uw_3_133 : Cond.instanceMethod yX2_clearSeen ∈ xU := xr3 (List.mem_of_getElem? (i := 133) rfl) rfl
theorem uw_3_134 : Cond.selects RX2 yX2_clearSeen yX2_clearSeen ∈ xU := xr3 (List.mem_of_getElem? (i := 134) rfl) rfl
theorem uw_3_135 : Cond.code yX2_clearSeen prog_4_method_14_code 1 (Option.none : Option Jvm.ClassFile.FieldType) ∈ xU := xr3 (List.mem_of_getElem? (i := 135) rfl) rfl
theorem uw_3_136 : Cond.methodLink RL 78 yX5_mondays ∈ xU := xr3 (List.mem_of_getElem? (i := 136) rfl) rfl
theorem uw_3_137 : Cond.instanceMethod yX5_mondays ∈ xU := xr3 (List.mem_of_getElem? (i := 137) rfl) rfl
theorem uw_3_138 : Cond.selects RX5 yX5_mondays yX5_mondays ∈ xU := xr3 (List.mem_of_getElem? (i := 138) rfl) rfl
theorem uw_3_139 : Cond.code yX5_mondays prog_1_method_17_code 4 (some FieldType.int) ∈ xU := xr3 (List.mem_of_getElem? (i := 139) rfl) rfl
theorem uw_3_140 : Cond.methodLink RX5 177 yX4_play ∈ xU := xr3 (List.mem_of_getElem? (i := 140) rfl) rfl
theorem uw_3_141 : Cond.instanceMethod yX4_play ∈ xU := xr3 (List.mem_of_getElem? (i := 141) rfl) rfl
theorem uw_3_142 : Cond.selects RX4 yX4_play yX4_play ∈ xU := xr3 (List.mem_of_getElem? (i := 142) rfl) rfl
theorem uw_3_143 : Cond.code yX4_play prog_6_method_3_code 10 (Option.none : Option Jvm.ClassFile.FieldType) ∈ xU := xr3 (List.mem_of_getElem? (i := 143) rfl) rfl
theorem uw_3_144 : Cond.methodLink RX4 22 yX3_claimers ∈ xU := xr3 (List.mem_of_getElem? (i := 144) rfl) rfl
theorem uw_3_145 : Cond.methodLink RX4 28 yX4_draw ∈ xU := xr3 (List.mem_of_getElem? (i := 145) rfl) rfl
theorem uw_3_147 : Cond.instanceMethod yX4_draw ∈ xU := xr3 (List.mem_of_getElem? (i := 147) rfl) rfl
theorem uw_3_148 : Cond.code yX4_draw prog_6_method_5_code 2 (some FieldType.int) ∈ xU := xr3 (List.mem_of_getElem? (i := 148) rfl) rfl
theorem uw_3_149 : Cond.constantLong RX4 67 (1103515245) ∈ xU := xr3 (List.mem_of_getElem? (i := 149) rfl) rfl
theorem uw_3_150 : Cond.constantLong RX4 69 (12345) ∈ xU := xr3 (List.mem_of_getElem? (i := 150) rfl) rfl
theorem uw_3_151 : Cond.constantLong RX4 71 (2147483648) ∈ xU := xr3 (List.mem_of_getElem? (i := 151) rfl) rfl
theorem uw_3_152 : Cond.constantLong RX4 73 (65536) ∈ xU := xr3 (List.mem_of_getElem? (i := 152) rfl) rfl
theorem uw_3_153 : Cond.methodLink RX4 32 yX3_kindOf ∈ xU := xr3 (List.mem_of_getElem? (i := 153) rfl) rfl
theorem uw_3_156 : Cond.methodLink RX4 43 yX3_things ∈ xU := xr3 (List.mem_of_getElem? (i := 156) rfl) rfl
theorem uw_3_157 : Cond.methodLink RX4 46 yX3_signOf ∈ xU := xr3 (List.mem_of_getElem? (i := 157) rfl) rfl
theorem uw_3_158 : Cond.methodLink RX4 50 Lib.Math.abs.name ∈ xU := xr3 (List.mem_of_getElem? (i := 158) rfl) rfl
theorem uw_3_160 : Cond.methodLink RX4 59 yX4_addIfFit ∈ xU := xr3 (List.mem_of_getElem? (i := 160) rfl) rfl
theorem uw_3_162 : Cond.instanceMethod yX4_addIfFit ∈ xU := xr3 (List.mem_of_getElem? (i := 162) rfl) rfl
theorem uw_3_163 : Cond.code yX4_addIfFit prog_6_method_4_code 3 (Option.none : Option Jvm.ClassFile.FieldType) ∈ xU := xr3 (List.mem_of_getElem? (i := 163) rfl) rfl
theorem uw_3_165 : Cond.methodLink RX5 181 yX4_tell ∈ xU := xr3 (List.mem_of_getElem? (i := 165) rfl) rfl
theorem uw_3_166 : Cond.instanceMethod yX4_tell ∈ xU := xr3 (List.mem_of_getElem? (i := 166) rfl) rfl
theorem uw_3_167 : Cond.selects RX4 yX4_tell yX4_tell ∈ xU := xr3 (List.mem_of_getElem? (i := 167) rfl) rfl
theorem uw_3_168 : Cond.code yX4_tell prog_6_method_2_code 2 (some FieldType.int) ∈ xU := xr3 (List.mem_of_getElem? (i := 168) rfl) rfl
theorem uw_3_169 : Cond.methodLink RL 82 yX5_image ∈ xU := xr3 (List.mem_of_getElem? (i := 169) rfl) rfl
theorem uw_3_170 : Cond.instanceMethod yX5_image ∈ xU := xr3 (List.mem_of_getElem? (i := 170) rfl) rfl
theorem uw_3_171 : Cond.selects RX5 yX5_image yX5_image ∈ xU := xr3 (List.mem_of_getElem? (i := 171) rfl) rfl
theorem uw_3_172 : Cond.code yX5_image prog_1_method_18_code 1 (some FieldType.int) ∈ xU := xr3 (List.mem_of_getElem? (i := 172) rfl) rfl
theorem uw_3_173 : Cond.methodLink RX5 182 yX3_keepImage ∈ xU := xr3 (List.mem_of_getElem? (i := 173) rfl) rfl
theorem uw_3_174 : Cond.instanceMethod yX3_keepImage ∈ xU := xr3 (List.mem_of_getElem? (i := 174) rfl) rfl
theorem uw_3_175 : Cond.selects RX3 yX3_keepImage yX3_keepImage ∈ xU := xr3 (List.mem_of_getElem? (i := 175) rfl) rfl
theorem uw_3_176 : Cond.code yX3_keepImage prog_5_method_10_code 1 (Option.none : Option Jvm.ClassFile.FieldType) ∈ xU := xr3 (List.mem_of_getElem? (i := 176) rfl) rfl
theorem uw_3_177 : Cond.methodLink RX3 79 yX2_copyFrom ∈ xU := xr3 (List.mem_of_getElem? (i := 177) rfl) rfl
theorem uw_3_178 : Cond.instanceMethod yX2_copyFrom ∈ xU := xr3 (List.mem_of_getElem? (i := 178) rfl) rfl
theorem uw_3_179 : Cond.selects RX2 yX2_copyFrom yX2_copyFrom ∈ xU := xr3 (List.mem_of_getElem? (i := 179) rfl) rfl
theorem uw_3_180 : Cond.code yX2_copyFrom prog_4_method_3_code 2 (Option.none : Option Jvm.ClassFile.FieldType) ∈ xU := xr3 (List.mem_of_getElem? (i := 180) rfl) rfl
theorem uw_3_182 : Cond.static yX5_copy ∈ xU := xr3 (List.mem_of_getElem? (i := 182) rfl) rfl
theorem uw_3_183 : Cond.code yX5_copy prog_1_method_31_code 3 (Option.none : Option Jvm.ClassFile.FieldType) ∈ xU := xr3 (List.mem_of_getElem? (i := 183) rfl) rfl
theorem uw_3_184 : Cond.methodLink RL 86 yX5_restore ∈ xU := xr3 (List.mem_of_getElem? (i := 184) rfl) rfl
theorem uw_3_185 : Cond.instanceMethod yX5_restore ∈ xU := xr3 (List.mem_of_getElem? (i := 185) rfl) rfl
theorem uw_3_186 : Cond.selects RX5 yX5_restore yX5_restore ∈ xU := xr3 (List.mem_of_getElem? (i := 186) rfl) rfl
theorem uw_3_187 : Cond.code yX5_restore prog_1_method_19_code 1 (some FieldType.int) ∈ xU := xr3 (List.mem_of_getElem? (i := 187) rfl) rfl
theorem uw_3_188 : Cond.methodLink RX5 185 yX3_hasImage ∈ xU := xr3 (List.mem_of_getElem? (i := 188) rfl) rfl
theorem uw_3_189 : Cond.instanceMethod yX3_hasImage ∈ xU := xr3 (List.mem_of_getElem? (i := 189) rfl) rfl
theorem uw_3_190 : Cond.selects RX3 yX3_hasImage yX3_hasImage ∈ xU := xr3 (List.mem_of_getElem? (i := 190) rfl) rfl
theorem uw_3_191 : Cond.code yX3_hasImage prog_5_method_11_code 1 (some FieldType.boolean) ∈ xU := xr3 (List.mem_of_getElem? (i := 191) rfl) rfl
theorem uw_3_192 : Cond.methodLink RX5 188 yX3_goOnFromImage ∈ xU := xr3 (List.mem_of_getElem? (i := 192) rfl) rfl
theorem uw_3_193 : Cond.instanceMethod yX3_goOnFromImage ∈ xU := xr3 (List.mem_of_getElem? (i := 193) rfl) rfl
theorem uw_3_194 : Cond.selects RX3 yX3_goOnFromImage yX3_goOnFromImage ∈ xU := xr3 (List.mem_of_getElem? (i := 194) rfl) rfl
theorem uw_3_195 : Cond.code yX3_goOnFromImage prog_5_method_12_code 1 (Option.none : Option Jvm.ClassFile.FieldType) ∈ xU := xr3 (List.mem_of_getElem? (i := 195) rfl) rfl
theorem uw_3_196 : Cond.methodLink RL 90 yX5_count ∈ xU := xr3 (List.mem_of_getElem? (i := 196) rfl) rfl
theorem uw_3_197 : Cond.instanceMethod yX5_count ∈ xU := xr3 (List.mem_of_getElem? (i := 197) rfl) rfl
theorem uw_3_198 : Cond.selects RX5 yX5_count yX5_count ∈ xU := xr3 (List.mem_of_getElem? (i := 198) rfl) rfl
theorem uw_3_199 : Cond.code yX5_count prog_1_method_20_code 2 (some FieldType.int) ∈ xU := xr3 (List.mem_of_getElem? (i := 199) rfl) rfl
theorem uw_3_200 : Cond.methodLink RX5 191 yX3_givenThatFit ∈ xU := xr3 (List.mem_of_getElem? (i := 200) rfl) rfl
theorem uw_3_201 : Cond.instanceMethod yX3_givenThatFit ∈ xU := xr3 (List.mem_of_getElem? (i := 201) rfl) rfl
theorem uw_3_202 : Cond.selects RX3 yX3_givenThatFit yX3_givenThatFit ∈ xU := xr3 (List.mem_of_getElem? (i := 202) rfl) rfl
theorem uw_3_203 : Cond.code yX3_givenThatFit prog_5_method_21_code 4 (some FieldType.int) ∈ xU := xr3 (List.mem_of_getElem? (i := 203) rfl) rfl
theorem uw_3_204 : Cond.methodLink RX5 194 yX3_givenWrong ∈ xU := xr3 (List.mem_of_getElem? (i := 204) rfl) rfl
theorem uw_3_205 : Cond.instanceMethod yX3_givenWrong ∈ xU := xr3 (List.mem_of_getElem? (i := 205) rfl) rfl
theorem uw_3_206 : Cond.selects RX3 yX3_givenWrong yX3_givenWrong ∈ xU := xr3 (List.mem_of_getElem? (i := 206) rfl) rfl
theorem uw_3_207 : Cond.code yX3_givenWrong prog_5_method_22_code 4 (some FieldType.int) ∈ xU := xr3 (List.mem_of_getElem? (i := 207) rfl) rfl
theorem uw_3_208 : Cond.methodLink RX3 114 yX3_wrongOf ∈ xU := xr3 (List.mem_of_getElem? (i := 208) rfl) rfl
theorem uw_3_209 : Cond.methodLink RX5 197 yX2_thingsLeft ∈ xU := xr3 (List.mem_of_getElem? (i := 209) rfl) rfl
theorem uw_3_210 : Cond.instanceMethod yX2_thingsLeft ∈ xU := xr3 (List.mem_of_getElem? (i := 210) rfl) rfl
theorem uw_3_211 : Cond.selects RX2 yX2_thingsLeft yX2_thingsLeft ∈ xU := xr3 (List.mem_of_getElem? (i := 211) rfl) rfl
theorem uw_3_212 : Cond.code yX2_thingsLeft prog_4_method_11_code 1 (some FieldType.int) ∈ xU := xr3 (List.mem_of_getElem? (i := 212) rfl) rfl
theorem uw_3_213 : Cond.methodLink RX5 200 yX2_claimersLeft ∈ xU := xr3 (List.mem_of_getElem? (i := 213) rfl) rfl
theorem uw_3_214 : Cond.instanceMethod yX2_claimersLeft ∈ xU := xr3 (List.mem_of_getElem? (i := 214) rfl) rfl
theorem uw_3_215 : Cond.selects RX2 yX2_claimersLeft yX2_claimersLeft ∈ xU := xr3 (List.mem_of_getElem? (i := 215) rfl) rfl
theorem uw_3_216 : Cond.code yX2_claimersLeft prog_4_method_12_code 1 (some FieldType.int) ∈ xU := xr3 (List.mem_of_getElem? (i := 216) rfl) rfl
theorem uw_3_217 : Cond.methodLink RL 94 yX5_digest ∈ xU := xr3 (List.mem_of_getElem? (i := 217) rfl) rfl
theorem uw_3_218 : Cond.instanceMethod yX5_digest ∈ xU := xr3 (List.mem_of_getElem? (i := 218) rfl) rfl
theorem uw_3_219 : Cond.selects RX5 yX5_digest yX5_digest ∈ xU := xr3 (List.mem_of_getElem? (i := 219) rfl) rfl
theorem uw_3_220 : Cond.code yX5_digest prog_1_method_21_code 5 (some FieldType.long) ∈ xU := xr3 (List.mem_of_getElem? (i := 220) rfl) rfl
theorem uw_3_221 : Cond.constantLong RX5 203 (1087) ∈ xU := xr3 (List.mem_of_getElem? (i := 221) rfl) rfl
theorem uw_3_222 : Cond.methodLink RX5 205 yX5_thing ∈ xU := xr3 (List.mem_of_getElem? (i := 222) rfl) rfl
theorem uw_3_223 : Cond.methodLink RX5 208 yX5_mixed ∈ xU := xr3 (List.mem_of_getElem? (i := 223) rfl) rfl
theorem uw_3_224 : Cond.static yX5_mixed ∈ xU := xr3 (List.mem_of_getElem? (i := 224) rfl) rfl
theorem uw_3_225 : Cond.code yX5_mixed prog_1_method_22_code 3 (some FieldType.long) ∈ xU := xr3 (List.mem_of_getElem? (i := 225) rfl) rfl
theorem uw_3_226 : Cond.constantLong RX5 221 (31) ∈ xU := xr3 (List.mem_of_getElem? (i := 226) rfl) rfl
theorem uw_3_227 : Cond.methodLink RX5 212 yX5_claimer ∈ xU := xr3 (List.mem_of_getElem? (i := 227) rfl) rfl
theorem uw_3_228 : Cond.methodLink RX5 215 yX1_codeAt ∈ xU := xr3 (List.mem_of_getElem? (i := 228) rfl) rfl
theorem uw_3_229 : Cond.instanceMethod yX1_codeAt ∈ xU := xr3 (List.mem_of_getElem? (i := 229) rfl) rfl
theorem uw_3_230 : Cond.selects RX1 yX1_codeAt yX1_codeAt ∈ xU := xr3 (List.mem_of_getElem? (i := 230) rfl) rfl
theorem uw_3_231 : Cond.code yX1_codeAt prog_3_method_3_code 2 (some FieldType.int) ∈ xU := xr3 (List.mem_of_getElem? (i := 231) rfl) rfl
theorem uw_3_232 : Cond.methodLink RX5 218 yX5_count ∈ xU := xr3 (List.mem_of_getElem? (i := 232) rfl) rfl
theorem uw_3_233 : Cond.classLink RL 10 RX6 ∈ xU := xr3 (List.mem_of_getElem? (i := 233) rfl) rfl
theorem uw_3_234 : Cond.instantiable RX6 27 ∈ xU := xr3 (List.mem_of_getElem? (i := 234) rfl) rfl
theorem uw_3_235 : Cond.methodLink RL 12 yX6_init ∈ xU := xr3 (List.mem_of_getElem? (i := 235) rfl) rfl
theorem uw_3_236 : Cond.instanceMethod yX6_init ∈ xU := xr3 (List.mem_of_getElem? (i := 236) rfl) rfl
theorem uw_3_237 : Cond.code yX6_init prog_8_method_1_code 1 (Option.none : Option Jvm.ClassFile.FieldType) ∈ xU := xr3 (List.mem_of_getElem? (i := 237) rfl) rfl
theorem uw_3_238 : Cond.methodLink RX6 1 objectInit ∈ xU := xr3 (List.mem_of_getElem? (i := 238) rfl) rfl
theorem uw_3_239 : Cond.fieldLink RX6 7 RX6 "page" "[I" ∈ xU := xr3 (List.mem_of_getElem? (i := 239) rfl) rfl
theorem uw_4_0 : Cond.fieldLink RX6 53 RX6 "pageMany" "I" ∈ xU := xr4 (List.mem_of_getElem? (i := 0) rfl) rfl
theorem uw_4_1 : Cond.fieldLink RX6 56 RX6 "endAt" "I" ∈ xU := xr4 (List.mem_of_getElem? (i := 1) rfl) rfl
theorem uw_4_2 : Cond.fieldLink RX6 74 RX6 "things" "I" ∈ xU := xr4 (List.mem_of_getElem? (i := 2) rfl) rfl
theorem uw_4_3 : Cond.fieldLink RX6 77 RX6 "claimers" "I" ∈ xU := xr4 (List.mem_of_getElem? (i := 3) rfl) rfl
theorem uw_4_4 : Cond.fieldLink RX6 80 RX6 "mondaysNow" "I" ∈ xU := xr4 (List.mem_of_getElem? (i := 4) rfl) rfl
theorem uw_4_5 : Cond.fieldLink RX6 83 RX6 "leftThings" "I" ∈ xU := xr4 (List.mem_of_getElem? (i := 5) rfl) rfl
theorem uw_4_6 : Cond.fieldLink RX6 86 RX6 "leftClaimers" "I" ∈ xU := xr4 (List.mem_of_getElem? (i := 6) rfl) rfl
theorem uw_4_7 : Cond.fieldLink RX6 92 RX6 "tentsRead" "I" ∈ xU := xr4 (List.mem_of_getElem? (i := 7) rfl) rfl
theorem uw_4_8 : Cond.fieldLink RX6 13 RX6 "lots" "[I" ∈ xU := xr4 (List.mem_of_getElem? (i := 8) rfl) rfl
theorem uw_4_9 : Cond.fieldLink RX6 16 RX6 "rows" "[I" ∈ xU := xr4 (List.mem_of_getElem? (i := 9) rfl) rfl
theorem uw_4_10 : Cond.fieldLink RX6 19 RX6 "parts" "[I" ∈ xU := xr4 (List.mem_of_getElem? (i := 10) rfl) rfl
theorem uw_4_11 : Cond.fieldLink RX6 22 RX6 "row" "[I" ∈ xU := xr4 (List.mem_of_getElem? (i := 11) rfl) rfl
theorem uw_4_12 : Cond.fieldLink RX6 25 RX6 "bestRow" "[I" ∈ xU := xr4 (List.mem_of_getElem? (i := 12) rfl) rfl
theorem uw_4_13 : Cond.fieldLink RX6 89 RX6 "seenMany" "I" ∈ xU := xr4 (List.mem_of_getElem? (i := 13) rfl) rfl
theorem uw_4_14 : Cond.fieldLink RX6 28 RX6 "sights" "[I" ∈ xU := xr4 (List.mem_of_getElem? (i := 14) rfl) rfl
theorem uw_4_15 : Cond.fieldLink RX6 164 RX6 "seedNow" "I" ∈ xU := xr4 (List.mem_of_getElem? (i := 15) rfl) rfl
theorem uw_4_16 : Cond.fieldLink RX6 31 RX6 "savedRows" "[I" ∈ xU := xr4 (List.mem_of_getElem? (i := 16) rfl) rfl
theorem uw_4_17 : Cond.fieldLink RX6 43 RX6 "keptTent" "I" ∈ xU := xr4 (List.mem_of_getElem? (i := 17) rfl) rfl
theorem uw_4_18 : Cond.fieldLink RX6 177 RX6 "keptMondays" "I" ∈ xU := xr4 (List.mem_of_getElem? (i := 18) rfl) rfl
theorem uw_4_19 : Cond.fieldLink RX6 180 RX6 "keptThings" "I" ∈ xU := xr4 (List.mem_of_getElem? (i := 19) rfl) rfl
theorem uw_4_20 : Cond.fieldLink RX6 183 RX6 "keptClaimers" "I" ∈ xU := xr4 (List.mem_of_getElem? (i := 20) rfl) rfl
theorem uw_4_21 : Cond.fieldLink RX6 186 RX6 "keptSeen" "I" ∈ xU := xr4 (List.mem_of_getElem? (i := 21) rfl) rfl
theorem uw_4_22 : Cond.fieldLink RX6 34 RX6 "keptLots" "[I" ∈ xU := xr4 (List.mem_of_getElem? (i := 22) rfl) rfl
theorem uw_4_23 : Cond.fieldLink RX6 37 RX6 "keptRows" "[I" ∈ xU := xr4 (List.mem_of_getElem? (i := 23) rfl) rfl
theorem uw_4_24 : Cond.fieldLink RX6 40 RX6 "keptSights" "[I" ∈ xU := xr4 (List.mem_of_getElem? (i := 24) rfl) rfl
theorem uw_4_25 : Cond.fieldLink RX6 200 RX6 "hash" "J" ∈ xU := xr4 (List.mem_of_getElem? (i := 25) rfl) rfl
theorem uw_4_26 : Cond.laysFinal RX6 RX6 "page" "[I" ∈ xU := xr4 (List.mem_of_getElem? (i := 26) rfl) rfl
theorem uw_4_28 : Cond.lays RX6 RX6 "pageMany" "I" ∈ xU := xr4 (List.mem_of_getElem? (i := 28) rfl) rfl
theorem uw_4_30 : Cond.lays RX6 RX6 "endAt" "I" ∈ xU := xr4 (List.mem_of_getElem? (i := 30) rfl) rfl
theorem uw_4_32 : Cond.lays RX6 RX6 "things" "I" ∈ xU := xr4 (List.mem_of_getElem? (i := 32) rfl) rfl
theorem uw_4_34 : Cond.lays RX6 RX6 "claimers" "I" ∈ xU := xr4 (List.mem_of_getElem? (i := 34) rfl) rfl
theorem uw_4_36 : Cond.lays RX6 RX6 "mondaysNow" "I" ∈ xU := xr4 (List.mem_of_getElem? (i := 36) rfl) rfl
theorem uw_4_38 : Cond.lays RX6 RX6 "leftThings" "I" ∈ xU := xr4 (List.mem_of_getElem? (i := 38) rfl) rfl
theorem uw_4_40 : Cond.lays RX6 RX6 "leftClaimers" "I" ∈ xU := xr4 (List.mem_of_getElem? (i := 40) rfl) rfl
theorem uw_4_42 : Cond.lays RX6 RX6 "tentsRead" "I" ∈ xU := xr4 (List.mem_of_getElem? (i := 42) rfl) rfl
theorem uw_4_44 : Cond.laysFinal RX6 RX6 "lots" "[I" ∈ xU := xr4 (List.mem_of_getElem? (i := 44) rfl) rfl
theorem uw_4_46 : Cond.laysFinal RX6 RX6 "rows" "[I" ∈ xU := xr4 (List.mem_of_getElem? (i := 46) rfl) rfl
theorem uw_4_48 : Cond.laysFinal RX6 RX6 "parts" "[I" ∈ xU := xr4 (List.mem_of_getElem? (i := 48) rfl) rfl
theorem uw_4_50 : Cond.laysFinal RX6 RX6 "row" "[I" ∈ xU := xr4 (List.mem_of_getElem? (i := 50) rfl) rfl
theorem uw_4_52 : Cond.laysFinal RX6 RX6 "bestRow" "[I" ∈ xU := xr4 (List.mem_of_getElem? (i := 52) rfl) rfl
theorem uw_4_54 : Cond.lays RX6 RX6 "seenMany" "I" ∈ xU := xr4 (List.mem_of_getElem? (i := 54) rfl) rfl
theorem uw_4_56 : Cond.laysFinal RX6 RX6 "sights" "[I" ∈ xU := xr4 (List.mem_of_getElem? (i := 56) rfl) rfl
theorem uw_4_58 : Cond.lays RX6 RX6 "seedNow" "I" ∈ xU := xr4 (List.mem_of_getElem? (i := 58) rfl) rfl
theorem uw_4_60 : Cond.laysFinal RX6 RX6 "savedRows" "[I" ∈ xU := xr4 (List.mem_of_getElem? (i := 60) rfl) rfl
theorem uw_4_62 : Cond.lays RX6 RX6 "keptTent" "I" ∈ xU := xr4 (List.mem_of_getElem? (i := 62) rfl) rfl
theorem uw_4_64 : Cond.lays RX6 RX6 "keptMondays" "I" ∈ xU := xr4 (List.mem_of_getElem? (i := 64) rfl) rfl
theorem uw_4_66 : Cond.lays RX6 RX6 "keptThings" "I" ∈ xU := xr4 (List.mem_of_getElem? (i := 66) rfl) rfl
theorem uw_4_68 : Cond.lays RX6 RX6 "keptClaimers" "I" ∈ xU := xr4 (List.mem_of_getElem? (i := 68) rfl) rfl
theorem uw_4_70 : Cond.lays RX6 RX6 "keptSeen" "I" ∈ xU := xr4 (List.mem_of_getElem? (i := 70) rfl) rfl
theorem uw_4_72 : Cond.laysFinal RX6 RX6 "keptLots" "[I" ∈ xU := xr4 (List.mem_of_getElem? (i := 72) rfl) rfl
theorem uw_4_74 : Cond.laysFinal RX6 RX6 "keptRows" "[I" ∈ xU := xr4 (List.mem_of_getElem? (i := 74) rfl) rfl
theorem uw_4_76 : Cond.laysFinal RX6 RX6 "keptSights" "[I" ∈ xU := xr4 (List.mem_of_getElem? (i := 76) rfl) rfl
theorem uw_4_78 : Cond.lays RX6 RX6 "hash" "J" ∈ xU := xr4 (List.mem_of_getElem? (i := 78) rfl) rfl
theorem uw_4_81 : Cond.methodLink RL 17 yX6_letter ∈ xU := xr4 (List.mem_of_getElem? (i := 81) rfl) rfl
theorem uw_4_82 : Cond.instanceMethod yX6_letter ∈ xU := xr4 (List.mem_of_getElem? (i := 82) rfl) rfl
theorem uw_4_83 : Cond.selects RX6 yX6_letter yX6_letter ∈ xU := xr4 (List.mem_of_getElem? (i := 83) rfl) rfl
theorem uw_4_84 : Cond.code yX6_letter prog_8_method_4_code 2 (some FieldType.int) ∈ xU := xr4 (List.mem_of_getElem? (i := 84) rfl) rfl
theorem uw_4_85 : Cond.constantLong RX6 47 (126) ∈ xU := xr4 (List.mem_of_getElem? (i := 85) rfl) rfl
theorem uw_4_86 : Cond.methodLink RX6 49 yX6_in ∈ xU := xr4 (List.mem_of_getElem? (i := 86) rfl) rfl
theorem uw_4_87 : Cond.static yX6_in ∈ xU := xr4 (List.mem_of_getElem? (i := 87) rfl) rfl
theorem uw_4_88 : Cond.code yX6_in prog_8_method_2_code 6 (some FieldType.boolean) ∈ xU := xr4 (List.mem_of_getElem? (i := 88) rfl) rfl
theorem uw_4_89 : Cond.methodLink RL 22 yX6_blank ∈ xU := xr4 (List.mem_of_getElem? (i := 89) rfl) rfl
theorem uw_4_90 : Cond.instanceMethod yX6_blank ∈ xU := xr4 (List.mem_of_getElem? (i := 90) rfl) rfl
theorem uw_4_91 : Cond.selects RX6 yX6_blank yX6_blank ∈ xU := xr4 (List.mem_of_getElem? (i := 91) rfl) rfl
theorem uw_4_92 : Cond.code yX6_blank prog_8_method_5_code 2 (some FieldType.int) ∈ xU := xr4 (List.mem_of_getElem? (i := 92) rfl) rfl
theorem uw_4_93 : Cond.methodLink RL 26 yX6_fault ∈ xU := xr4 (List.mem_of_getElem? (i := 93) rfl) rfl
theorem uw_4_94 : Cond.instanceMethod yX6_fault ∈ xU := xr4 (List.mem_of_getElem? (i := 94) rfl) rfl
theorem uw_4_95 : Cond.selects RX6 yX6_fault yX6_fault ∈ xU := xr4 (List.mem_of_getElem? (i := 95) rfl) rfl
theorem uw_4_96 : Cond.code yX6_fault prog_8_method_10_code 1 (some FieldType.int) ∈ xU := xr4 (List.mem_of_getElem? (i := 96) rfl) rfl
theorem uw_4_97 : Cond.methodLink RX6 70 yX6_faultOf ∈ xU := xr4 (List.mem_of_getElem? (i := 97) rfl) rfl
theorem uw_4_99 : Cond.instanceMethod yX6_faultOf ∈ xU := xr4 (List.mem_of_getElem? (i := 99) rfl) rfl
theorem uw_4_100 : Cond.code yX6_faultOf prog_8_method_9_code 2 (some FieldType.int) ∈ xU := xr4 (List.mem_of_getElem? (i := 100) rfl) rfl
theorem uw_4_101 : Cond.methodLink RX6 66 yX6_isGood ∈ xU := xr4 (List.mem_of_getElem? (i := 101) rfl) rfl
theorem uw_4_103 : Cond.instanceMethod yX6_isGood ∈ xU := xr4 (List.mem_of_getElem? (i := 103) rfl) rfl
theorem uw_4_104 : Cond.code yX6_isGood prog_8_method_8_code 4 (some FieldType.boolean) ∈ xU := xr4 (List.mem_of_getElem? (i := 104) rfl) rfl
theorem uw_4_105 : Cond.methodLink RX6 59 yX6_mostOf ∈ xU := xr4 (List.mem_of_getElem? (i := 105) rfl) rfl
theorem uw_4_106 : Cond.static yX6_mostOf ∈ xU := xr4 (List.mem_of_getElem? (i := 106) rfl) rfl
theorem uw_4_107 : Cond.code yX6_mostOf prog_8_method_7_code 1 (some FieldType.int) ∈ xU := xr4 (List.mem_of_getElem? (i := 107) rfl) rfl
theorem uw_4_108 : Cond.methodLink RX6 63 yX6_kindBy ∈ xU := xr4 (List.mem_of_getElem? (i := 108) rfl) rfl
theorem uw_4_109 : Cond.static yX6_kindBy ∈ xU := xr4 (List.mem_of_getElem? (i := 109) rfl) rfl
theorem uw_4_110 : Cond.code yX6_kindBy prog_8_method_6_code 1 (some FieldType.int) ∈ xU := xr4 (List.mem_of_getElem? (i := 110) rfl) rfl
theorem uw_4_111 : Cond.methodLink RL 30 yX6_tent ∈ xU := xr4 (List.mem_of_getElem? (i := 111) rfl) rfl
theorem uw_4_112 : Cond.instanceMethod yX6_tent ∈ xU := xr4 (List.mem_of_getElem? (i := 112) rfl) rfl
theorem uw_4_113 : Cond.selects RX6 yX6_tent yX6_tent ∈ xU := xr4 (List.mem_of_getElem? (i := 113) rfl) rfl
theorem uw_4_114 : Cond.code yX6_tent prog_8_method_11_code 4 (some FieldType.int) ∈ xU := xr4 (List.mem_of_getElem? (i := 114) rfl) rfl
theorem uw_4_115 : Cond.methodLink RL 35 yX6_thing ∈ xU := xr4 (List.mem_of_getElem? (i := 115) rfl) rfl
theorem uw_4_116 : Cond.instanceMethod yX6_thing ∈ xU := xr4 (List.mem_of_getElem? (i := 116) rfl) rfl
theorem uw_4_117 : Cond.selects RX6 yX6_thing yX6_thing ∈ xU := xr4 (List.mem_of_getElem? (i := 117) rfl) rfl
theorem uw_4_118 : Cond.code yX6_thing prog_8_method_23_code 3 (some FieldType.int) ∈ xU := xr4 (List.mem_of_getElem? (i := 118) rfl) rfl
theorem uw_4_119 : Cond.methodLink RX6 119 yX6_isThing ∈ xU := xr4 (List.mem_of_getElem? (i := 119) rfl) rfl
theorem uw_4_121 : Cond.instanceMethod yX6_isThing ∈ xU := xr4 (List.mem_of_getElem? (i := 121) rfl) rfl
theorem uw_4_122 : Cond.code yX6_isThing prog_8_method_13_code 2 (some FieldType.boolean) ∈ xU := xr4 (List.mem_of_getElem? (i := 122) rfl) rfl
theorem uw_4_123 : Cond.methodLink RX6 122 yX6_tellThing ∈ xU := xr4 (List.mem_of_getElem? (i := 123) rfl) rfl
theorem uw_4_125 : Cond.instanceMethod yX6_tellThing ∈ xU := xr4 (List.mem_of_getElem? (i := 125) rfl) rfl
theorem uw_4_126 : Cond.code yX6_tellThing prog_8_method_22_code 3 (some FieldType.int) ∈ xU := xr4 (List.mem_of_getElem? (i := 126) rfl) rfl
theorem uw_4_127 : Cond.methodLink RX6 110 yX6_claimersOf ∈ xU := xr4 (List.mem_of_getElem? (i := 127) rfl) rfl
theorem uw_4_129 : Cond.instanceMethod yX6_claimersOf ∈ xU := xr4 (List.mem_of_getElem? (i := 129) rfl) rfl
theorem uw_4_130 : Cond.code yX6_claimersOf prog_8_method_19_code 4 (some FieldType.int) ∈ xU := xr4 (List.mem_of_getElem? (i := 130) rfl) rfl
theorem uw_4_131 : Cond.methodLink RX6 107 yX6_fits ∈ xU := xr4 (List.mem_of_getElem? (i := 131) rfl) rfl
theorem uw_4_133 : Cond.instanceMethod yX6_fits ∈ xU := xr4 (List.mem_of_getElem? (i := 133) rfl) rfl
theorem uw_4_134 : Cond.code yX6_fits prog_8_method_18_code 3 (some FieldType.boolean) ∈ xU := xr4 (List.mem_of_getElem? (i := 134) rfl) rfl
theorem uw_4_135 : Cond.methodLink RX6 99 yX6_wrongOf ∈ xU := xr4 (List.mem_of_getElem? (i := 135) rfl) rfl
theorem uw_4_137 : Cond.instanceMethod yX6_wrongOf ∈ xU := xr4 (List.mem_of_getElem? (i := 137) rfl) rfl
theorem uw_4_138 : Cond.code yX6_wrongOf prog_8_method_16_code 3 (some FieldType.int) ∈ xU := xr4 (List.mem_of_getElem? (i := 138) rfl) rfl
theorem uw_4_139 : Cond.methodLink RX6 95 yX6_wrongIn ∈ xU := xr4 (List.mem_of_getElem? (i := 139) rfl) rfl
theorem uw_4_141 : Cond.instanceMethod yX6_wrongIn ∈ xU := xr4 (List.mem_of_getElem? (i := 141) rfl) rfl
theorem uw_4_142 : Cond.code yX6_wrongIn prog_8_method_15_code 9 (some FieldType.int) ∈ xU := xr4 (List.mem_of_getElem? (i := 142) rfl) rfl
theorem uw_4_143 : Cond.methodLink RX6 103 yX6_fitsBy ∈ xU := xr4 (List.mem_of_getElem? (i := 143) rfl) rfl
theorem uw_4_145 : Cond.instanceMethod yX6_fitsBy ∈ xU := xr4 (List.mem_of_getElem? (i := 145) rfl) rfl
theorem uw_4_146 : Cond.code yX6_fitsBy prog_8_method_17_code 3 (some FieldType.boolean) ∈ xU := xr4 (List.mem_of_getElem? (i := 146) rfl) rfl
theorem uw_4_147 : Cond.methodLink RX6 113 yX6_yearsOf ∈ xU := xr4 (List.mem_of_getElem? (i := 147) rfl) rfl
theorem uw_4_149 : Cond.instanceMethod yX6_yearsOf ∈ xU := xr4 (List.mem_of_getElem? (i := 149) rfl) rfl
theorem uw_4_150 : Cond.code yX6_yearsOf prog_8_method_38_code 8 (some FieldType.int) ∈ xU := xr4 (List.mem_of_getElem? (i := 150) rfl) rfl
theorem uw_4_151 : Cond.methodLink RX6 116 yX6_showOf ∈ xU := xr4 (List.mem_of_getElem? (i := 151) rfl) rfl
theorem uw_4_153 : Cond.instanceMethod yX6_showOf ∈ xU := xr4 (List.mem_of_getElem? (i := 153) rfl) rfl
theorem uw_4_154 : Cond.code yX6_showOf prog_8_method_39_code 9 (some FieldType.int) ∈ xU := xr4 (List.mem_of_getElem? (i := 154) rfl) rfl
theorem uw_4_155 : Cond.methodLink RL 39 yX6_claimer ∈ xU := xr4 (List.mem_of_getElem? (i := 155) rfl) rfl
theorem uw_4_156 : Cond.instanceMethod yX6_claimer ∈ xU := xr4 (List.mem_of_getElem? (i := 156) rfl) rfl
theorem uw_4_157 : Cond.selects RX6 yX6_claimer yX6_claimer ∈ xU := xr4 (List.mem_of_getElem? (i := 157) rfl) rfl
theorem uw_4_158 : Cond.code yX6_claimer prog_8_method_25_code 3 (some FieldType.int) ∈ xU := xr4 (List.mem_of_getElem? (i := 158) rfl) rfl
theorem uw_4_159 : Cond.methodLink RX6 131 yX6_isClaimer ∈ xU := xr4 (List.mem_of_getElem? (i := 159) rfl) rfl
theorem uw_4_161 : Cond.instanceMethod yX6_isClaimer ∈ xU := xr4 (List.mem_of_getElem? (i := 161) rfl) rfl
theorem uw_4_162 : Cond.code yX6_isClaimer prog_8_method_14_code 2 (some FieldType.boolean) ∈ xU := xr4 (List.mem_of_getElem? (i := 162) rfl) rfl
theorem uw_4_163 : Cond.methodLink RX6 134 yX6_tellClaimer ∈ xU := xr4 (List.mem_of_getElem? (i := 163) rfl) rfl
theorem uw_4_165 : Cond.instanceMethod yX6_tellClaimer ∈ xU := xr4 (List.mem_of_getElem? (i := 165) rfl) rfl
theorem uw_4_166 : Cond.code yX6_tellClaimer prog_8_method_24_code 3 (some FieldType.int) ∈ xU := xr4 (List.mem_of_getElem? (i := 166) rfl) rfl
theorem uw_4_167 : Cond.methodLink RX6 125 yX6_thingsOf ∈ xU := xr4 (List.mem_of_getElem? (i := 167) rfl) rfl
theorem uw_4_169 : Cond.instanceMethod yX6_thingsOf ∈ xU := xr4 (List.mem_of_getElem? (i := 169) rfl) rfl
theorem uw_4_170 : Cond.code yX6_thingsOf prog_8_method_20_code 4 (some FieldType.int) ∈ xU := xr4 (List.mem_of_getElem? (i := 170) rfl) rfl
theorem uw_4_171 : Cond.methodLink RX6 128 yX6_signOf ∈ xU := xr4 (List.mem_of_getElem? (i := 171) rfl) rfl
theorem uw_4_173 : Cond.instanceMethod yX6_signOf ∈ xU := xr4 (List.mem_of_getElem? (i := 173) rfl) rfl
theorem uw_4_174 : Cond.code yX6_signOf prog_8_method_21_code 8 (some FieldType.int) ∈ xU := xr4 (List.mem_of_getElem? (i := 174) rfl) rfl
theorem uw_4_175 : Cond.methodLink RL 43 yX6_as ∈ xU := xr4 (List.mem_of_getElem? (i := 175) rfl) rfl
theorem uw_4_176 : Cond.instanceMethod yX6_as ∈ xU := xr4 (List.mem_of_getElem? (i := 176) rfl) rfl
theorem uw_4_177 : Cond.selects RX6 yX6_as yX6_as ∈ xU := xr4 (List.mem_of_getElem? (i := 177) rfl) rfl
theorem uw_4_178 : Cond.code yX6_as prog_8_method_26_code 5 (some FieldType.int) ∈ xU := xr4 (List.mem_of_getElem? (i := 178) rfl) rfl
theorem uw_4_179 : Cond.constantLong RX6 137 (4) ∈ xU := xr4 (List.mem_of_getElem? (i := 179) rfl) rfl
theorem uw_4_180 : Cond.methodLink RL 47 yX6_wrong ∈ xU := xr4 (List.mem_of_getElem? (i := 180) rfl) rfl
theorem uw_4_181 : Cond.instanceMethod yX6_wrong ∈ xU := xr4 (List.mem_of_getElem? (i := 181) rfl) rfl
theorem uw_4_182 : Cond.selects RX6 yX6_wrong yX6_wrong ∈ xU := xr4 (List.mem_of_getElem? (i := 182) rfl) rfl
theorem uw_4_183 : Cond.code yX6_wrong prog_8_method_27_code 3 (some FieldType.int) ∈ xU := xr4 (List.mem_of_getElem? (i := 183) rfl) rfl
theorem uw_4_184 : Cond.methodLink RL 51 yX6_give ∈ xU := xr4 (List.mem_of_getElem? (i := 184) rfl) rfl
theorem uw_4_185 : Cond.instanceMethod yX6_give ∈ xU := xr4 (List.mem_of_getElem? (i := 185) rfl) rfl
theorem uw_4_186 : Cond.selects RX6 yX6_give yX6_give ∈ xU := xr4 (List.mem_of_getElem? (i := 186) rfl) rfl
theorem uw_4_187 : Cond.code yX6_give prog_8_method_28_code 3 (some FieldType.int) ∈ xU := xr4 (List.mem_of_getElem? (i := 187) rfl) rfl
theorem uw_4_188 : Cond.methodLink RL 55 yX6_back ∈ xU := xr4 (List.mem_of_getElem? (i := 188) rfl) rfl
theorem uw_4_189 : Cond.instanceMethod yX6_back ∈ xU := xr4 (List.mem_of_getElem? (i := 189) rfl) rfl
theorem uw_4_190 : Cond.selects RX6 yX6_back yX6_back ∈ xU := xr4 (List.mem_of_getElem? (i := 190) rfl) rfl
theorem uw_4_191 : Cond.code yX6_back prog_8_method_29_code 3 (some FieldType.int) ∈ xU := xr4 (List.mem_of_getElem? (i := 191) rfl) rfl
theorem uw_4_192 : Cond.methodLink RL 60 yX6_remember ∈ xU := xr4 (List.mem_of_getElem? (i := 192) rfl) rfl
theorem uw_4_193 : Cond.instanceMethod yX6_remember ∈ xU := xr4 (List.mem_of_getElem? (i := 193) rfl) rfl
theorem uw_4_194 : Cond.selects RX6 yX6_remember yX6_remember ∈ xU := xr4 (List.mem_of_getElem? (i := 194) rfl) rfl
theorem uw_4_195 : Cond.code yX6_remember prog_8_method_30_code 5 (some FieldType.int) ∈ xU := xr4 (List.mem_of_getElem? (i := 195) rfl) rfl
theorem uw_4_196 : Cond.constantLong RX6 139 (2) ∈ xU := xr4 (List.mem_of_getElem? (i := 196) rfl) rfl
theorem uw_4_197 : Cond.methodLink RL 64 yX6_six ∈ xU := xr4 (List.mem_of_getElem? (i := 197) rfl) rfl
theorem uw_4_198 : Cond.instanceMethod yX6_six ∈ xU := xr4 (List.mem_of_getElem? (i := 198) rfl) rfl
theorem uw_4_199 : Cond.selects RX6 yX6_six yX6_six ∈ xU := xr4 (List.mem_of_getElem? (i := 199) rfl) rfl
theorem uw_4_200 : Cond.code yX6_six prog_8_method_32_code 3 (some FieldType.int) ∈ xU := xr4 (List.mem_of_getElem? (i := 200) rfl) rfl
theorem uw_4_201 : Cond.methodLink RX6 141 yX6_lacks ∈ xU := xr4 (List.mem_of_getElem? (i := 201) rfl) rfl
theorem uw_4_203 : Cond.instanceMethod yX6_lacks ∈ xU := xr4 (List.mem_of_getElem? (i := 203) rfl) rfl
theorem uw_4_204 : Cond.code yX6_lacks prog_8_method_12_code 1 (some FieldType.boolean) ∈ xU := xr4 (List.mem_of_getElem? (i := 204) rfl) rfl
theorem uw_4_205 : Cond.methodLink RX6 145 yX6_givenMany ∈ xU := xr4 (List.mem_of_getElem? (i := 205) rfl) rfl
theorem uw_4_207 : Cond.instanceMethod yX6_givenMany ∈ xU := xr4 (List.mem_of_getElem? (i := 207) rfl) rfl
theorem uw_4_208 : Cond.code yX6_givenMany prog_8_method_31_code 3 (some FieldType.int) ∈ xU := xr4 (List.mem_of_getElem? (i := 208) rfl) rfl
theorem uw_4_209 : Cond.methodLink RL 68 yX6_match ∈ xU := xr4 (List.mem_of_getElem? (i := 209) rfl) rfl
theorem uw_4_210 : Cond.instanceMethod yX6_match ∈ xU := xr4 (List.mem_of_getElem? (i := 210) rfl) rfl
theorem uw_4_211 : Cond.selects RX6 yX6_match yX6_match ∈ xU := xr4 (List.mem_of_getElem? (i := 211) rfl) rfl
theorem uw_4_212 : Cond.code yX6_match prog_8_method_35_code 2 (some FieldType.int) ∈ xU := xr4 (List.mem_of_getElem? (i := 212) rfl) rfl
theorem uw_4_213 : Cond.constantLong RX6 155 (10) ∈ xU := xr4 (List.mem_of_getElem? (i := 213) rfl) rfl
theorem uw_4_214 : Cond.constantLong RX6 157 (12) ∈ xU := xr4 (List.mem_of_getElem? (i := 214) rfl) rfl
theorem uw_4_215 : Cond.methodLink RX6 159 yX6_matchOf ∈ xU := xr4 (List.mem_of_getElem? (i := 215) rfl) rfl
theorem uw_4_217 : Cond.instanceMethod yX6_matchOf ∈ xU := xr4 (List.mem_of_getElem? (i := 217) rfl) rfl
theorem uw_4_218 : Cond.code yX6_matchOf prog_8_method_34_code 9 (some FieldType.int) ∈ xU := xr4 (List.mem_of_getElem? (i := 218) rfl) rfl
theorem uw_4_219 : Cond.methodLink RX6 148 yX6_layRow ∈ xU := xr4 (List.mem_of_getElem? (i := 219) rfl) rfl
theorem uw_4_221 : Cond.instanceMethod yX6_layRow ∈ xU := xr4 (List.mem_of_getElem? (i := 221) rfl) rfl
theorem uw_4_222 : Cond.code yX6_layRow prog_8_method_33_code 7 (some FieldType.boolean) ∈ xU := xr4 (List.mem_of_getElem? (i := 222) rfl) rfl
theorem uw_4_223 : Cond.methodLink RX6 151 yX6_copy ∈ xU := xr4 (List.mem_of_getElem? (i := 223) rfl) rfl
theorem uw_4_224 : Cond.static yX6_copy ∈ xU := xr4 (List.mem_of_getElem? (i := 224) rfl) rfl
theorem uw_4_225 : Cond.code yX6_copy prog_8_method_3_code 3 (Option.none : Option Jvm.ClassFile.FieldType) ∈ xU := xr4 (List.mem_of_getElem? (i := 225) rfl) rfl
theorem uw_4_226 : Cond.methodLink RL 73 yX6_see ∈ xU := xr4 (List.mem_of_getElem? (i := 226) rfl) rfl
theorem uw_4_227 : Cond.instanceMethod yX6_see ∈ xU := xr4 (List.mem_of_getElem? (i := 227) rfl) rfl
theorem uw_4_228 : Cond.selects RX6 yX6_see yX6_see ∈ xU := xr4 (List.mem_of_getElem? (i := 228) rfl) rfl
theorem uw_4_229 : Cond.code yX6_see prog_8_method_36_code 4 (some FieldType.int) ∈ xU := xr4 (List.mem_of_getElem? (i := 229) rfl) rfl
theorem uw_4_230 : Cond.methodLink RL 77 yX6_forget ∈ xU := xr4 (List.mem_of_getElem? (i := 230) rfl) rfl
theorem uw_4_231 : Cond.instanceMethod yX6_forget ∈ xU := xr4 (List.mem_of_getElem? (i := 231) rfl) rfl
theorem uw_4_232 : Cond.selects RX6 yX6_forget yX6_forget ∈ xU := xr4 (List.mem_of_getElem? (i := 232) rfl) rfl
theorem uw_4_233 : Cond.code yX6_forget prog_8_method_37_code 2 (some FieldType.int) ∈ xU := xr4 (List.mem_of_getElem? (i := 233) rfl) rfl
theorem uw_4_234 : Cond.methodLink RL 81 yX6_mondays ∈ xU := xr4 (List.mem_of_getElem? (i := 234) rfl) rfl
theorem uw_4_235 : Cond.instanceMethod yX6_mondays ∈ xU := xr4 (List.mem_of_getElem? (i := 235) rfl) rfl
theorem uw_4_236 : Cond.selects RX6 yX6_mondays yX6_mondays ∈ xU := xr4 (List.mem_of_getElem? (i := 236) rfl) rfl
theorem uw_4_237 : Cond.code yX6_mondays prog_8_method_41_code 9 (some FieldType.int) ∈ xU := xr4 (List.mem_of_getElem? (i := 237) rfl) rfl
theorem uw_4_238 : Cond.constantLong RX6 172 (60) ∈ xU := xr4 (List.mem_of_getElem? (i := 238) rfl) rfl
theorem uw_4_239 : Cond.methodLink RX6 174 yX6_draw ∈ xU := xr4 (List.mem_of_getElem? (i := 239) rfl) rfl
theorem uw_5_1 : Cond.instanceMethod yX6_draw ∈ xU := xr5 (List.mem_of_getElem? (i := 1) rfl) rfl
theorem uw_5_2 : Cond.code yX6_draw prog_8_method_40_code 2 (some FieldType.int) ∈ xU := xr5 (List.mem_of_getElem? (i := 2) rfl) rfl
theorem uw_5_3 : Cond.constantLong RX6 162 (1103515245) ∈ xU := xr5 (List.mem_of_getElem? (i := 3) rfl) rfl
theorem uw_5_4 : Cond.constantLong RX6 167 (12345) ∈ xU := xr5 (List.mem_of_getElem? (i := 4) rfl) rfl
theorem uw_5_5 : Cond.constantLong RX6 169 (2147483647) ∈ xU := xr5 (List.mem_of_getElem? (i := 5) rfl) rfl
theorem uw_5_6 : Cond.constant RX6 171 (65536) ∈ xU := xr5 (List.mem_of_getElem? (i := 6) rfl) rfl
theorem uw_5_7 : Cond.methodLink RL 85 yX6_image ∈ xU := xr5 (List.mem_of_getElem? (i := 7) rfl) rfl
theorem uw_5_8 : Cond.instanceMethod yX6_image ∈ xU := xr5 (List.mem_of_getElem? (i := 8) rfl) rfl
theorem uw_5_9 : Cond.selects RX6 yX6_image yX6_image ∈ xU := xr5 (List.mem_of_getElem? (i := 9) rfl) rfl
theorem uw_5_10 : Cond.code yX6_image prog_8_method_42_code 1 (some FieldType.int) ∈ xU := xr5 (List.mem_of_getElem? (i := 10) rfl) rfl
theorem uw_5_11 : Cond.methodLink RL 89 yX6_restore ∈ xU := xr5 (List.mem_of_getElem? (i := 11) rfl) rfl
theorem uw_5_12 : Cond.instanceMethod yX6_restore ∈ xU := xr5 (List.mem_of_getElem? (i := 12) rfl) rfl
theorem uw_5_13 : Cond.selects RX6 yX6_restore yX6_restore ∈ xU := xr5 (List.mem_of_getElem? (i := 13) rfl) rfl
theorem uw_5_14 : Cond.code yX6_restore prog_8_method_43_code 1 (some FieldType.int) ∈ xU := xr5 (List.mem_of_getElem? (i := 14) rfl) rfl
theorem uw_5_15 : Cond.methodLink RL 93 yX6_count ∈ xU := xr5 (List.mem_of_getElem? (i := 15) rfl) rfl
theorem uw_5_16 : Cond.instanceMethod yX6_count ∈ xU := xr5 (List.mem_of_getElem? (i := 16) rfl) rfl
theorem uw_5_17 : Cond.selects RX6 yX6_count yX6_count ∈ xU := xr5 (List.mem_of_getElem? (i := 17) rfl) rfl
theorem uw_5_18 : Cond.code yX6_count prog_8_method_47_code 2 (some FieldType.int) ∈ xU := xr5 (List.mem_of_getElem? (i := 18) rfl) rfl
theorem uw_5_19 : Cond.methodLink RX6 195 yX6_countOf ∈ xU := xr5 (List.mem_of_getElem? (i := 19) rfl) rfl
theorem uw_5_21 : Cond.instanceMethod yX6_countOf ∈ xU := xr5 (List.mem_of_getElem? (i := 21) rfl) rfl
theorem uw_5_22 : Cond.code yX6_countOf prog_8_method_46_code 2 (some FieldType.int) ∈ xU := xr5 (List.mem_of_getElem? (i := 22) rfl) rfl
theorem uw_5_23 : Cond.methodLink RX6 189 yX6_givenFit ∈ xU := xr5 (List.mem_of_getElem? (i := 23) rfl) rfl
theorem uw_5_25 : Cond.instanceMethod yX6_givenFit ∈ xU := xr5 (List.mem_of_getElem? (i := 25) rfl) rfl
theorem uw_5_26 : Cond.code yX6_givenFit prog_8_method_44_code 3 (some FieldType.int) ∈ xU := xr5 (List.mem_of_getElem? (i := 26) rfl) rfl
theorem uw_5_27 : Cond.methodLink RX6 192 yX6_givenWrong ∈ xU := xr5 (List.mem_of_getElem? (i := 27) rfl) rfl
theorem uw_5_29 : Cond.instanceMethod yX6_givenWrong ∈ xU := xr5 (List.mem_of_getElem? (i := 29) rfl) rfl
theorem uw_5_30 : Cond.code yX6_givenWrong prog_8_method_45_code 3 (some FieldType.int) ∈ xU := xr5 (List.mem_of_getElem? (i := 30) rfl) rfl
theorem uw_5_31 : Cond.methodLink RL 98 yX6_digest ∈ xU := xr5 (List.mem_of_getElem? (i := 31) rfl) rfl
theorem uw_5_32 : Cond.instanceMethod yX6_digest ∈ xU := xr5 (List.mem_of_getElem? (i := 32) rfl) rfl
theorem uw_5_33 : Cond.selects RX6 yX6_digest yX6_digest ∈ xU := xr5 (List.mem_of_getElem? (i := 33) rfl) rfl
theorem uw_5_34 : Cond.code yX6_digest prog_8_method_49_code 3 (some FieldType.long) ∈ xU := xr5 (List.mem_of_getElem? (i := 34) rfl) rfl
theorem uw_5_35 : Cond.constantLong RX6 204 (1087) ∈ xU := xr5 (List.mem_of_getElem? (i := 35) rfl) rfl
theorem uw_5_36 : Cond.methodLink RX6 206 yX6_say ∈ xU := xr5 (List.mem_of_getElem? (i := 36) rfl) rfl
theorem uw_5_38 : Cond.instanceMethod yX6_say ∈ xU := xr5 (List.mem_of_getElem? (i := 38) rfl) rfl
theorem uw_5_39 : Cond.code yX6_say prog_8_method_48_code 3 (Option.none : Option Jvm.ClassFile.FieldType) ∈ xU := xr5 (List.mem_of_getElem? (i := 39) rfl) rfl
theorem uw_5_40 : Cond.constantLong RX6 198 (31) ∈ xU := xr5 (List.mem_of_getElem? (i := 40) rfl) rfl
theorem uw_5_41 : Cond.fieldLink RJ0 15 RJ0 "coder" "B" ∈ xU := xr5 (List.mem_of_getElem? (i := 41) rfl) rfl
theorem uw_5_42 : Cond.fieldLink RJ0 9 RJ0 "value" "[B" ∈ xU := xr5 (List.mem_of_getElem? (i := 42) rfl) rfl
theorem us_0 : Cond.selects RX2 yX2_takeAllBack yX2_takeAllBack ∈ xU := xr0 (q := (⟨"LostTent$Register", "takeAllBack", "()V"⟩, 9)) (List.mem_append_left _ (List.mem_of_getElem? (i := 0) rfl))
theorem us_1 : Cond.selects RX1 yX1_firstClaimer yX1_firstClaimer ∈ xU := xr0 (q := (⟨"LostTent$Page", "firstClaimer", "()I"⟩, 2)) (List.mem_append_left _ (List.mem_of_getElem? (i := 1) rfl))
theorem us_2 : Cond.selects RX3 yX3_wrongIfLostIn yX3_wrongIfLostIn ∈ xU := xr0 (q := (⟨"LostTent$Tent", "wrongIfLostIn", "(III)I"⟩, 7)) (List.mem_append_left _ (List.mem_of_getElem? (i := 2) rfl))
theorem us_3 : Cond.selects RX3 yX3_yearsFitting yX3_yearsFitting ∈ xU := xr0 (q := (⟨"LostTent$Tent", "yearsFitting", "(II)I"⟩, 7)) (List.mem_append_left _ (List.mem_of_getElem? (i := 3) rfl))
theorem us_4 : Cond.selects RX3 yX3_mostAlike yX3_mostAlike ∈ xU := xr0 (q := (⟨"LostTent$Tent", "mostAlike", "(II)I"⟩, 7)) (List.mem_append_left _ (List.mem_of_getElem? (i := 4) rfl))
theorem us_5 : Cond.selects RX3 yX3_howManyAlike yX3_howManyAlike ∈ xU := xr0 (q := (⟨"LostTent$Tent", "howManyAlike", "(III)I"⟩, 7)) (List.mem_append_left _ (List.mem_of_getElem? (i := 5) rfl))
theorem us_6 : Cond.selects RX0 yX0_setPrices yX0_setPrices ∈ xU := xr0 (q := (⟨"LostTent$Matching", "setPrices", "(LLostTent$Tent;)V"⟩, 5)) (List.mem_append_left _ (List.mem_of_getElem? (i := 6) rfl))
theorem us_7 : Cond.selects RX0 yX0_may yX0_may ∈ xU := xr0 (q := (⟨"LostTent$Matching", "may", "(II)Z"⟩, 5)) (List.mem_append_left _ (List.mem_of_getElem? (i := 7) rfl))
theorem us_8 : Cond.selects RX0 yX0_price yX0_price ∈ xU := xr0 (q := (⟨"LostTent$Matching", "price", "(II)I"⟩, 5)) (List.mem_append_left _ (List.mem_of_getElem? (i := 8) rfl))
theorem us_9 : Cond.selects RX0 yX0_keepIfBetter yX0_keepIfBetter ∈ xU := xr0 (q := (⟨"LostTent$Matching", "keepIfBetter", "(III)V"⟩, 5)) (List.mem_append_left _ (List.mem_of_getElem? (i := 9) rfl))
theorem us_10 : Cond.selects RX0 yX0_priceIfGiven yX0_priceIfGiven ∈ xU := xr0 (q := (⟨"LostTent$Matching", "priceIfGiven", "(II)I"⟩, 5)) (List.mem_append_left _ (List.mem_of_getElem? (i := 10) rfl))
theorem us_11 : Cond.selects RX4 yX4_draw yX4_draw ∈ xU := xr0 (q := (⟨"LostTent$Visits", "draw", "(I)I"⟩, 3)) (List.mem_append_left _ (List.mem_of_getElem? (i := 11) rfl))
theorem us_12 : Cond.selects RX4 yX4_addIfFit yX4_addIfFit ∈ xU := xr0 (q := (⟨"LostTent$Visits", "addIfFit", "(II)V"⟩, 3)) (List.mem_append_left _ (List.mem_of_getElem? (i := 12) rfl))
theorem us_13 : Cond.selects RX6 yX6_faultOf yX6_faultOf ∈ xU := xr0 (q := (⟨"LostTentModel", "faultOf", "()I"⟩, 27)) (List.mem_append_left _ (List.mem_of_getElem? (i := 13) rfl))
theorem us_14 : Cond.selects RX6 yX6_isGood yX6_isGood ∈ xU := xr0 (q := (⟨"LostTentModel", "isGood", "(I)Z"⟩, 27)) (List.mem_append_left _ (List.mem_of_getElem? (i := 14) rfl))
theorem us_15 : Cond.selects RX6 yX6_isThing yX6_isThing ∈ xU := xr0 (q := (⟨"LostTentModel", "isThing", "(I)Z"⟩, 27)) (List.mem_append_left _ (List.mem_of_getElem? (i := 15) rfl))
theorem us_16 : Cond.selects RX6 yX6_tellThing yX6_tellThing ∈ xU := xr0 (q := (⟨"LostTentModel", "tellThing", "(II)I"⟩, 27)) (List.mem_append_right _ (List.mem_append_left _ (List.mem_of_getElem? (i := 0) rfl)))
theorem us_17 : Cond.selects RX6 yX6_claimersOf yX6_claimersOf ∈ xU := xr0 (q := (⟨"LostTentModel", "claimersOf", "(I)I"⟩, 27)) (List.mem_append_right _ (List.mem_append_left _ (List.mem_of_getElem? (i := 1) rfl)))
theorem us_18 : Cond.selects RX6 yX6_fits yX6_fits ∈ xU := xr0 (q := (⟨"LostTentModel", "fits", "(II)Z"⟩, 27)) (List.mem_append_right _ (List.mem_append_left _ (List.mem_of_getElem? (i := 2) rfl)))
theorem us_19 : Cond.selects RX6 yX6_wrongOf yX6_wrongOf ∈ xU := xr0 (q := (⟨"LostTentModel", "wrongOf", "(II)I"⟩, 27)) (List.mem_append_right _ (List.mem_append_left _ (List.mem_of_getElem? (i := 3) rfl)))
theorem us_20 : Cond.selects RX6 yX6_wrongIn yX6_wrongIn ∈ xU := xr0 (q := (⟨"LostTentModel", "wrongIn", "(III)I"⟩, 27)) (List.mem_append_right _ (List.mem_append_left _ (List.mem_of_getElem? (i := 4) rfl)))
theorem us_21 : Cond.selects RX6 yX6_fitsBy yX6_fitsBy ∈ xU := xr0 (q := (⟨"LostTentModel", "fitsBy", "(II)Z"⟩, 27)) (List.mem_append_right _ (List.mem_append_left _ (List.mem_of_getElem? (i := 5) rfl)))
theorem us_22 : Cond.selects RX6 yX6_yearsOf yX6_yearsOf ∈ xU := xr0 (q := (⟨"LostTentModel", "yearsOf", "(I)I"⟩, 27)) (List.mem_append_right _ (List.mem_append_left _ (List.mem_of_getElem? (i := 6) rfl)))
theorem us_23 : Cond.selects RX6 yX6_showOf yX6_showOf ∈ xU := xr0 (q := (⟨"LostTentModel", "showOf", "(I)I"⟩, 27)) (List.mem_append_right _ (List.mem_append_left _ (List.mem_of_getElem? (i := 7) rfl)))
theorem us_24 : Cond.selects RX6 yX6_isClaimer yX6_isClaimer ∈ xU := xr0 (q := (⟨"LostTentModel", "isClaimer", "(I)Z"⟩, 27)) (List.mem_append_right _ (List.mem_append_left _ (List.mem_of_getElem? (i := 8) rfl)))
theorem us_25 : Cond.selects RX6 yX6_tellClaimer yX6_tellClaimer ∈ xU := xr0 (q := (⟨"LostTentModel", "tellClaimer", "(II)I"⟩, 27)) (List.mem_append_right _ (List.mem_append_left _ (List.mem_of_getElem? (i := 9) rfl)))
theorem us_26 : Cond.selects RX6 yX6_thingsOf yX6_thingsOf ∈ xU := xr0 (q := (⟨"LostTentModel", "thingsOf", "(I)I"⟩, 27)) (List.mem_append_right _ (List.mem_append_left _ (List.mem_of_getElem? (i := 10) rfl)))
theorem us_27 : Cond.selects RX6 yX6_signOf yX6_signOf ∈ xU := xr0 (q := (⟨"LostTentModel", "signOf", "(I)I"⟩, 27)) (List.mem_append_right _ (List.mem_append_left _ (List.mem_of_getElem? (i := 11) rfl)))
theorem us_28 : Cond.selects RX6 yX6_lacks yX6_lacks ∈ xU := xr0 (q := (⟨"LostTentModel", "lacks", "()Z"⟩, 27)) (List.mem_append_right _ (List.mem_append_left _ (List.mem_of_getElem? (i := 12) rfl)))
theorem us_29 : Cond.selects RX6 yX6_givenMany yX6_givenMany ∈ xU := xr0 (q := (⟨"LostTentModel", "givenMany", "()I"⟩, 27)) (List.mem_append_right _ (List.mem_append_left _ (List.mem_of_getElem? (i := 13) rfl)))
theorem us_30 : Cond.selects RX6 yX6_matchOf yX6_matchOf ∈ xU := xr0 (q := (⟨"LostTentModel", "matchOf", "(I)I"⟩, 27)) (List.mem_append_right _ (List.mem_append_left _ (List.mem_of_getElem? (i := 14) rfl)))
theorem us_31 : Cond.selects RX6 yX6_layRow yX6_layRow ∈ xU := xr0 (q := (⟨"LostTentModel", "layRow", "(I)Z"⟩, 27)) (List.mem_append_right _ (List.mem_append_left _ (List.mem_of_getElem? (i := 15) rfl)))
theorem us_32 : Cond.selects RX6 yX6_draw yX6_draw ∈ xU := xr0 (q := (⟨"LostTentModel", "draw", "(I)I"⟩, 27)) (List.mem_append_right _ (List.mem_append_right _ (List.mem_of_getElem? (i := 0) rfl)))
theorem us_33 : Cond.selects RX6 yX6_countOf yX6_countOf ∈ xU := xr0 (q := (⟨"LostTentModel", "countOf", "(I)I"⟩, 27)) (List.mem_append_right _ (List.mem_append_right _ (List.mem_of_getElem? (i := 1) rfl)))
theorem us_34 : Cond.selects RX6 yX6_givenFit yX6_givenFit ∈ xU := xr0 (q := (⟨"LostTentModel", "givenFit", "()I"⟩, 27)) (List.mem_append_right _ (List.mem_append_right _ (List.mem_of_getElem? (i := 2) rfl)))
theorem us_35 : Cond.selects RX6 yX6_givenWrong yX6_givenWrong ∈ xU := xr0 (q := (⟨"LostTentModel", "givenWrong", "()I"⟩, 27)) (List.mem_append_right _ (List.mem_append_right _ (List.mem_of_getElem? (i := 3) rfl)))
theorem us_36 : Cond.selects RX6 yX6_say yX6_say ∈ xU := xr0 (q := (⟨"LostTentModel", "say", "(J)V"⟩, 27)) (List.mem_append_right _ (List.mem_append_right _ (List.mem_of_getElem? (i := 4) rfl)))
theorem xr_ws {C : String} {T : u_T} {N : Nat} (h : ∀ k, k < N → u_lay C T k ∈ xU) : ∀ w ∈ u_ws C T N, w ∈ xU := fun w hw => by
  obtain ⟨k, hk, rfl⟩ := List.mem_map.mp hw
  exact h k (List.mem_range.mp hk)
theorem inU0 : ∀ w ∈ u_ws RX0 TX0 5, w ∈ xU := xr_ws fun k hk => match k, hk with
  | 0, _ => uw_1_121
  | 1, _ => uw_1_123
  | 2, _ => uw_1_125
  | 3, _ => uw_1_127
  | 4, _ => uw_1_129
  | k + 5, hk => absurd hk (by omega)
theorem inU1 : ∀ w ∈ u_ws RX1 TX1 2, w ∈ xU := xr_ws fun k hk => match k, hk with
  | 0, _ => uw_1_31
  | 1, _ => uw_1_33
  | k + 2, hk => absurd hk (by omega)
theorem inU2 : ∀ w ∈ u_ws RX2 TX2 9, w ∈ xU := xr_ws fun k hk => match k, hk with
  | 0, _ => uw_1_69
  | 1, _ => uw_1_71
  | 2, _ => uw_1_73
  | 3, _ => uw_1_75
  | 4, _ => uw_1_77
  | 5, _ => uw_1_79
  | 6, _ => uw_1_81
  | 7, _ => uw_1_83
  | 8, _ => uw_1_85
  | k + 9, hk => absurd hk (by omega)
theorem inU3 : ∀ w ∈ u_ws RX3 TX3 7, w ∈ xU := xr_ws fun k hk => match k, hk with
  | 0, _ => uw_1_95
  | 1, _ => uw_1_97
  | 2, _ => uw_1_99
  | 3, _ => uw_1_101
  | 4, _ => uw_1_103
  | 5, _ => uw_1_105
  | 6, _ => uw_1_107
  | k + 7, hk => absurd hk (by omega)
theorem inU4 : ∀ w ∈ u_ws RX4 TX4 3, w ∈ xU := xr_ws fun k hk => match k, hk with
  | 0, _ => uw_1_141
  | 1, _ => uw_1_143
  | 2, _ => uw_1_145
  | k + 3, hk => absurd hk (by omega)
theorem inU5 : ∀ w ∈ u_ws RX5 TX5 5, w ∈ xU := xr_ws fun k hk => match k, hk with
  | 0, _ => uw_1_153
  | 1, _ => uw_1_155
  | 2, _ => uw_1_157
  | 3, _ => uw_1_159
  | 4, _ => uw_1_161
  | k + 5, hk => absurd hk (by omega)
theorem inU6 : ∀ w ∈ u_ws RX6 TX6 27, w ∈ xU := xr_ws fun k hk => match k, hk with
  | 0, _ => uw_4_26
  | 1, _ => uw_4_28
  | 2, _ => uw_4_30
  | 3, _ => uw_4_32
  | 4, _ => uw_4_34
  | 5, _ => uw_4_36
  | 6, _ => uw_4_38
  | 7, _ => uw_4_40
  | 8, _ => uw_4_42
  | 9, _ => uw_4_44
  | 10, _ => uw_4_46
  | 11, _ => uw_4_48
  | 12, _ => uw_4_50
  | 13, _ => uw_4_52
  | 14, _ => uw_4_54
  | 15, _ => uw_4_56
  | 16, _ => uw_4_58
  | 17, _ => uw_4_60
  | 18, _ => uw_4_62
  | 19, _ => uw_4_64
  | 20, _ => uw_4_66
  | 21, _ => uw_4_68
  | 22, _ => uw_4_70
  | 23, _ => uw_4_72
  | 24, _ => uw_4_74
  | 25, _ => uw_4_76
  | 26, _ => uw_4_78
  | k + 27, hk => absurd hk (by omega)
end
