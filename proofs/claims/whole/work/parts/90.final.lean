/-! ===== the walk of the law's body, with all that it stands on ===== -/
theorem whole_ops : lwops Inv := ⟨o_letter, o_blank, o_fault, o_tent, o_thing, o_claimer, o_as, o_wrong, o_give, o_back, o_remember, o_six, o_match, o_see, o_forget, o_mondays, o_image, o_restore, o_count, o_digest⟩
theorem whole_start {p : Program} {e : Env} {s : State} {m : MethodId} {below : List Frame} {meth : Method} {c : Code} (l : Launch) (hflags : l.flags = flags0) {b L : Nat} {xs : Nat → Int32} (hL : L ≤ 256) (C0 : lw_At p s m meth c b L xs) : W p l e room_1 s m #[Value.ref b] below meth c s.heap [] 0 0 (lw_Z below #[Value.ref b] s) (entryFrame m ([Value.ref b] : List Value).toArray 4) :=
  whole_open whole_ops inv_mon inv_0 l hL C0
