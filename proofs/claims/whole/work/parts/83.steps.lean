/-! the 29 steps, and the start -/
theorem px_steps : lw_steps PX := ⟨px_feed, px_show, px_told, px_player, px_of, px_drum, px_put, px_heard, px_spread, px_back, px_best, px_early, px_beats, px_form, px_way, px_counts, px_meet, px_hard, px_march, px_seen, px_off, px_whom, px_out, px_act, px_trace, px_as, px_image, px_undo, px_count⟩
theorem whole_start {p : Program} {e : Env} {s : State} {m : MethodId} {below : List Frame} {meth : Method} {c : Code} (l : Launch) (hflags : l.flags = flags0) {b L : Nat} {xs : Nat → Int32} (hL : L ≤ 2048) (C0 : lw_At p s m meth c b L xs) : W p l e room_1 s m #[Value.ref b] below meth c s.heap [] 0 0 (lw_Z below #[Value.ref b] s) (entryFrame m ([Value.ref b] : List Value).toArray 4) := by
  exact whole_open l hL C0 PX px_steps px_init
