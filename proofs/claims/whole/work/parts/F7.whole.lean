/-! the law, from its entry -/
theorem lw_room {s : State} {pl : Platform} (h : s.hasRoom pl room_1 = true) : s.hasRoom pl (sm_room 100 600000 7302250) = true := by
  unfold State.hasRoom at h ⊢
  rw [Bool.and_eq_true, Bool.and_eq_true, Bool.and_eq_true, Bool.and_eq_true] at h ⊢
  obtain ⟨⟨⟨⟨h1, h2⟩, h7⟩, h8⟩, h9⟩ := h
  have g1 := of_decide_eq_true h1
  obtain ⟨g2, g3, g4, g5, g6⟩ := of_decide_eq_true h2
  have e1 : room_1.locals = 84000 := rfl
  have e2 : room_1.frames = 2048 := rfl
  have e3 : (sm_room 100 600000 7302250).locals = 6400 := rfl
  have e4 : (sm_room 100 600000 7302250).frames = 100 := rfl
  rw [e1] at g1 g4 g5
  rw [e2] at g2 g3
  exact ⟨⟨⟨⟨decide_eq_true (by rw [e3]; omega), decide_eq_true ⟨by rw [e4]; omega, by rw [e4]; omega, by rw [e3]; omega, by rw [e3]; omega, g6⟩⟩, h7⟩, h8⟩, h9⟩
theorem whole_start {p : Program} {e : Env} {s : State} {m : MethodId} {below : List Frame} {meth : Method} {c : Code} (l : Launch) (hflags : l.flags = flags0) {b L : Nat} {xs : Nat → Int32} (hL : L ≤ 3072) (C0 : lw_At p s m meth c b L xs) : W p l e room_1 s m #[Value.ref b] below meth c s.heap [] 0 0 (lw_Z below #[Value.ref b] s) (entryFrame m ([Value.ref b] : List Value).toArray 4) := by
  obtain ⟨E, e1, e2, e3, e4, e5, hK, hF⟩ := st_E l C0
  obtain ⟨hx, hb, hr, hml, hown, hts, hX, hbl, hlocks, hgv⟩ := C0
  subst e1
  subst e3
  subst e4
  have hat : sm_at E (lwY meth.name) [.ref (lwb E)] p s m meth c := ⟨hx, hb, hml, hr, hlocks, rfl, hown, fun w hw => hts w (sm_sub_tbl hw), hK, hF, Nat.le_of_eq e2⟩
  have hP : sm_P E sm_L0 im0 s.heap := ⟨fun k q h => by simp [sm_ws, sm_top, im0] at h, e2.symm, fun a ha => absurd ha (show ¬ 100 < 100 by decide), trivial⟩
  have hl := lv_entry ([.ref (lwb E)]) (n := 4) (Nat.le_of_ble_eq_true rfl)
  rw [lg_entry_eq]
  have k := lw_go (E := E) (nm := meth.name) hL p e s m below meth c s.heap [] _ hat hP va_S.rf hl
  intro T hT X
  obtain ⟨t, a1, a2⟩ := k T hT ⟨X.admits, X.cas, X.clock, X.frames, lw_room X.room, X.hears, X.method, X.code, X.here, X.tail, X.warmed, X.limits, X.bytes, X.same⟩
  exact ⟨t, a1, a2 e2.symm⟩
