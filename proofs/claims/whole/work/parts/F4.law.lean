/-! the law over the small machine: its own method, its end, what is on the way -/
abbrev lwY (nm : String) : sm_Y := (⟨RL, nm, "([I)Z"⟩, code, 4, ret)
abbrev lwb (E : sm_E) : Nat := E.2.2.2.2.2.2.2.1
abbrev lwl (E : sm_E) : Nat := E.2.2.2.2.2.2.2.2.1
abbrev lwI (E : sm_E) (i : Int32) : Prop := vp_in (i + 1) (lwl E) ∧ vp_in (i + 2) (lwl E) ∧ vp_in (i + 3) (lwl E) ∧ vp_in (i + 4) (lwl E) ∧ vp_in (i + 5) (lwl E)
abbrev lwG (E : sm_E) (nm : String) (pc : Nat) (i : Int32) (m : sm_M) (cells slots : Nat) (Q : List Frame → State → State → Prop) : Prop := sm_go E lz (lwY nm) 100 600000 7302250 [.ref (lwb E)] pc [(3, .int i), (2, .ref (sm_B E + 109)), (1, .ref (sm_B E + 0)), (0, .ref (lwb E))] [] m cells slots Q
def lwZ (E : sm_E) : List Frame → State → State → Prop := fun below s t => s.heap.size = sm_B E → lw_Z below #[Value.ref (lwb E)] s t
theorem lw_sw {E : sm_E} {L L' : sm_S → Prop} {Y : sm_Y} {d mc ms : Nat} {vs : List Value} {pc : Nat} {lv : List (Nat × Value)} {st : List Value} {m : sm_M} {cells slots : Nat} {Q : List Frame → State → State → Prop} (h1 : sm_wf m.2.2 → L m.2.2 → L' m.2.2) (k : sm_go E L' Y d mc ms vs pc lv st m cells slots Q) : sm_go E L Y d mc ms vs pc lv st m cells slots Q :=
  fun p e s x below meth c H locs ls hat hP hS hl => k p e s x below meth c H locs ls hat ⟨hP.1, hP.2.1, hP.2.2.1, h1 hP.2.2.1 hP.2.2.2⟩ hS hl
theorem lz_wR28 {m : sm_M} {i j : Nat} (hj : j < 24) (h : lz m.2.2) : lz (sm_wR m 28 i (some (29 + j))).2.2 := by
  have hne : ∀ b, b ≠ 28 → (sm_wR m 28 i (some (29 + j))).2.2.1 b = m.2.2.1 b := fun b hb => sm_u_ne hb
  have hr : ∀ q ∈ ly_r, q.1 ≠ 28 := by decide +kernel
  obtain ⟨⟨h1, h2, h3, h4⟩, h5⟩ := h
  refine ⟨⟨h1, fun q hq => ?_, fun k hk => ?_, fun k r hk hq => ?_⟩, h5⟩
  · rw [hne q.1 (hr q hq)]
    exact h2 q hq
  · by_cases hki : k = i
    · subst hki
      exact ⟨j, hj, by simp [sm_wR, sm_u]⟩
    · obtain ⟨j', g1, g2⟩ := h3 k hk
      exact ⟨j', g1, by simp only [sm_wR, sm_u, hki, and_false, if_false]; exact g2⟩
  · rw [hne 69 (by decide)] at hq
    exact h4 k r hk hq
theorem lw_retR {R : Room} {p : Program} {l : Launch} {e : Env} {s : State} {m : MethodId} {below : List Frame} {meth : Method} {c : Code} {b : Nat} (hx : p.tables.exec = Jvm.exec) (hb : c.code = code) (hr : meth.sig.returnType = ret) (hlocks : meth.locks = false) {pc : Nat} {H : Heap} {ls : Array Slot} (hdg : decode code pc = .ok (.ireturn, 1)) : W p l e R s m #[Value.ref b] below meth c H [] 600000 7302250 (lw_Z below #[Value.ref b] s) (F0 m pc ls [.int 1]) := by
  intro T hT X
  obtain ⟨fs, hret, hrun, hended, hW, hframe⟩ := X.leave (v := some (.int 1)) (hlocks := hlocks) (fun h => by rw [hr] at h; cases h)
  have hmeth' : T.vm.method? m = some meth := X.method'
  refine ⟨T.setFrames fs, ?_, .returned (some (.int 1)), hrun, hended, rfl, ⟨_, rfl⟩, hW, hframe⟩
  jvm_step X.here [X.here.top, hx, hb, hdg, hmeth', hr, ret, narrow_b1]
  (try refine ⟨rfl, ?_⟩); (try refine ⟨rfl, ?_⟩)
  first | (intro acts; rw [hret _ acts rfl rfl rfl]) | rw [hret _ _ rfl rfl rfl]
  exact Steps.refl _
theorem lw_fin {E : sm_E} {nm : String} {L : sm_S → Prop} {pc : Nat} {lv : List (Nat × Value)} {m : sm_M} {cells slots : Nat} (h1 : cells ≤ 600000) (h2 : slots ≤ 7302250) (hdg : decode code pc = .ok (.ireturn, 1)) : sm_go E L (lwY nm) 100 600000 7302250 [.ref (lwb E)] pc lv [.int 1] m cells slots (lwZ E) := by
  intro p e s x below meth c H locs ls hat hP hS hl
  by_cases hB : s.heap.size = sm_B E
  · have k : W p E.1 e (sm_room 100 600000 7302250) s x [Value.ref (lwb E)].toArray below meth c H locs cells slots (lw_Z below #[Value.ref (lwb E)] s) (F0 x pc ls [.int 1]) := va_forget (fun q hq => by rw [hB]; exact hS.2.2 q hq) (W.widen h1 h2 (lw_retR hat.1 hat.2.1 hat.2.2.2.1 hat.2.2.2.2.1 hdg))
    intro T hT X
    obtain ⟨t, a1, a2⟩ := k T hT X
    exact ⟨t, a1, fun _ => a2⟩
  · intro T hT X
    exact ⟨_, Steps.refl _, fun h => absurd h hB⟩
