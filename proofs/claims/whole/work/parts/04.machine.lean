def sm_words : List Int32 := [116, 119, 105, 115, 116, -1, -1, 117, 110, 116, 119, 105, 115, 116, 116, 117, 114, 110, -1, -1, -1, 109, 105, 114, 114, 111, 114, -1, 100, 114, 111, 112, -1, -1, -1, 108, 105, 102, 116, -1, -1, -1]
def sm_len : List Nat := [5, 7, 4, 6, 4, 4]
def sm_byt : List (List Int32) := [[116, 119, 105, 115, 116], [117, 110, 116, 119, 105, 115, 116], [116, 117, 114, 110], [109, 105, 114, 114, 111, 114], [100, 114, 111, 112], [108, 105, 102, 116]]
def sm_txt : List String := ["twist", "untwist", "turn", "mirror", "drop", "lift"]
/-- the links of the nest: the makers of the parts -/
def sm_nest : List (Nat × MethodName) := [(27, yX4_init), (34, yX9_init), (41, yX2_init), (48, yX1_init), (55, yX10_init), (62, yX5_init), (69, yX0_init), (80, yX7_init)]
/-- the rows of rows: the class of an int[][] is over that of an int[]; the words of the nest; the classes of rows of objects -/
def sm_AA (E : sm_E) (U : State) : Prop := (∃ k : Class, U.vm.classes[E.2.2.1 5]? = some k ∧ k.kind = .array (E.2.2.1 0) (.array .int)) ∧ (∀ q ∈ sm_nest, va_Nw (.methodLinkNest RX11 q.1 q.2 RX11) U) ∧ va_AO RX7 U ∧ va_AO RX8 U ∧ (Cond.arrayOver (.array .int)).before #[] U = true ∧ va_Nw (.castable "[I" "java/lang/Cloneable") U
theorem sm_AA.al {E : sm_E} {u U : State} (hvm : u.vm.Alike U.vm) (h : sm_AA E u) (hq : ∀ q ∈ sm_nest, va_Nw (.methodLinkNest RX11 q.1 q.2 RX11) U) (hc : va_Nw (.castable "[I" "java/lang/Cloneable") U) : sm_AA E U := by
  obtain ⟨⟨k, h1, h2⟩, -, h4, h5, h6, -⟩ := h
  obtain ⟨k', hk', he⟩ := hvm.2.2 _ _ h1
  exact ⟨⟨k', hk', by rw [he]; exact h2⟩, hq, h4.moved hvm, h5.moved hvm, over_moved hvm h6, hc⟩
theorem sm_AA.warm {E : sm_E} {u U : State} (hW : u.WarmedH U.vm) (h : sm_AA E u) : sm_AA E U := h.al hW.alike (fun q hq => va_Nw.warmM hW (h.2.1 q hq)) (va_Nw.warmC hW h.2.2.2.2.2)
theorem sm_AA.same {E : sm_E} {u U : State} (hv : U.vm = u.vm) (h : sm_AA E u) : sm_AA E U := h.al (by rw [hv]; exact Vm.Alike.refl u.vm) (fun q hq => va_Nw.same rfl hv.symm (h.2.1 q hq)) (va_Nw.same rfl hv.symm h.2.2.2.2.2)
/-- what stands outside: the words' row, the texts, String's own flag -/
def sm_F (E : sm_E) (U : State) (H : Heap) : Prop :=
  va_Z RX12 "WORDS" "[I" (.ref E.2.2.2.2.1) (sm_A E) U H ∧ va_T .int E.2.2.2.2.1 42 (fun j => .int (sm_words.getD j 0)) (sm_A E) U H ∧ va_Z "java/lang/String" "COMPACT_STRINGS" "Z" (.int 1) (sm_A E) U H ∧ va_Zq "jdk/internal/util/Preconditions" "SIOOBE_FORMATTER" "Ljava/util/function/BiFunction;" (sm_A E) U H ∧ vk_S 6 sm_len sm_byt E.2.2.2.2.2.1 E.2.2.2.2.2.2.1 (sm_A E) U H ∧ (∀ i, i < 6 → vk_R RX9 (94 + 2 * i) (sm_txt.getD i "") (E.2.2.2.2.2.1 i) U) ∧ sm_AA E U ∧ va_X E.2.2.2.2.2.2.2.1 E.2.2.2.2.2.2.2.2.1 E.2.2.2.2.2.2.2.2.2 U H ∧ E.2.2.2.2.2.2.2.1 < sm_B E
theorem sm_F.kept {E : sm_E} {U : State} {H H1 : Heap} (h : sm_F E U H) (hq : ∀ a : Nat, a < H.size → ¬ sm_A E a → H1[a]? = H[a]?) : sm_F E U H1 :=
  ⟨h.1.kept hq, h.2.1.kept hq, h.2.2.1.kept hq, h.2.2.2.1.kept hq, h.2.2.2.2.1.kept hq, h.2.2.2.2.2.1, h.2.2.2.2.2.2.1, h.2.2.2.2.2.2.2.1.kept (hq _ (by obtain ⟨c, h1, -⟩ := h.2.2.2.2.2.2.2.1; exact (Array.getElem?_eq_some_iff.mp h1).1) (Nat.not_le.mpr h.2.2.2.2.2.2.2.2)), h.2.2.2.2.2.2.2.2⟩
theorem sm_F.warm {E : sm_E} {s U : State} {H : Heap} (hW : s.WarmedH U.vm) (h : sm_F E s H) : sm_F E U H :=
  ⟨h.1.moved hW.alike, h.2.1.moved hW.alike, h.2.2.1.moved hW.alike, h.2.2.2.1.moved hW.alike, h.2.2.2.2.1.moved hW.alike, fun i hi => (h.2.2.2.2.2.1 i hi).warm hW, h.2.2.2.2.2.2.1.warm hW, h.2.2.2.2.2.2.2.1.moved hW.alike, h.2.2.2.2.2.2.2.2⟩
theorem sm_F.same {E : sm_E} {s U : State} {H : Heap} (hv : U.vm = s.vm) (h : sm_F E s H) : sm_F E U H := by
  have hal : s.vm.Alike U.vm := by rw [hv]; exact Vm.Alike.refl s.vm
  exact ⟨h.1.moved hal, h.2.1.moved hal, h.2.2.1.moved hal, h.2.2.2.1.moved hal, h.2.2.2.2.1.moved hal, fun i hi => (h.2.2.2.2.2.1 i hi).same hv, h.2.2.2.2.2.2.1.same hv, h.2.2.2.2.2.2.2.1.moved hal, h.2.2.2.2.2.2.2.2⟩
/-- the heap holds the memory; the shape is as L says -/
def sm_P (E : sm_E) (L : sm_S → Prop) (m : sm_M) (H : Heap) : Prop := va_P E.2.1 vwCl (sm_ws E m) H ∧ H.size = sm_B E + sm_top m.2.2 ∧ sm_wf m.2.2 ∧ L m.2.2
def sm_room (d mc ms : Nat) : Room := { frames := d, cells := mc, slots := ms, locals := 64 * d }
def sm_Pc (E : sm_E) (L : sm_S → Prop) (m : sm_M) (U : State) : Prop := va_K E.2.1 vwCl (sm_tys E) U ∧ sm_F E U U.heap ∧ sm_P E L m U.heap
def sm_Qc (E : sm_E) (L : sm_S → Prop) (Q : Option Value → sm_M → Prop) : Array Value → State → Outcome → State → Prop := fun _ st o t => (∃ (r : Option Value) (m' : sm_M), o = .returned r ∧ Q r m' ∧ sm_P E L m' t.heap) ∧ va_F (sm_A E) st t
/-- a call of the method Y, at depth d, with the values vs, from the memory m: it returns, and Q -/
def sm_call (E : sm_E) (L : sm_S → Prop) (Y : sm_Y) (d mc ms : Nat) (vs : List Value) (m : sm_M) (Q : Option Value → sm_M → Prop) : Prop :=
  Met E.1 Y.1 (Cond.code Y.1 Y.2.1 Y.2.2.1 Y.2.2.2 :: sm_T) (sm_room d mc ms) (va_Pc vs (sm_Pc E L m)) (sm_Qc E L Q) mc ms (sm_A E)
def sm_at (E : sm_E) (Y : sm_Y) (vs : List Value) (p : Program) (s : State) (x : MethodId) (meth : Method) (c : Code) : Prop :=
  p.tables.exec = Jvm.exec ∧ c.code = Y.2.1 ∧ c.maxLocals = Y.2.2.1 ∧ meth.sig.returnType = Y.2.2.2 ∧ meth.locks = false ∧ meth.name = Y.1.name ∧ s.vm.findClass Y.1.cls = some x.cls ∧ (∀ w ∈ sm_T, w.before vs.toArray s = true) ∧ va_K E.2.1 vwCl (sm_tys E) s ∧ sm_F E s s.heap ∧ sm_B E ≤ s.heap.size
/-- the method Y, at pc, with these locals, this stack, this memory, comes to its end, and Q -/
def sm_go (E : sm_E) (L : sm_S → Prop) (Y : sm_Y) (d mc ms : Nat) (vs : List Value) (pc : Nat) (lv : List (Nat × Value)) (st : List Value) (m : sm_M) (cells slots : Nat) (Q : List Frame → State → State → Prop) : Prop :=
  ∀ (p : Program) (e : Env) (s : State) (x : MethodId) (below : List Frame) (meth : Method) (c : Code) (H : Heap) (locs : List Loc) (ls : Array Slot),
    sm_at E Y vs p s x meth c → sm_P E L m H → va_S (sm_A E) s.heap H locs → lv_has ls Y.2.2.1 lv →
    W p E.1 e (sm_room d mc ms) s x vs.toArray below meth c H locs cells slots (Q below s) (F0 x pc ls st)
/-- a method's own end -/
def sm_Z (E : sm_E) (L : sm_S → Prop) (vs : List Value) (mc ms : Nat) (Q : Option Value → sm_M → Prop) : List Frame → State → State → Prop := fun below s => MQ below (sm_Qc E L Q) vs.toArray s mc ms (sm_A E)
theorem sm_mono {E : sm_E} {L : sm_S → Prop} {Y : sm_Y} {d mc ms : Nat} {vs : List Value} {m : sm_M} {Q Q' : Option Value → sm_M → Prop} (h : sm_call E L Y d mc ms vs m Q) (hq : ∀ r m', Q r m' → Q' r m') : sm_call E L Y d mc ms vs m Q' := by
  intro p e ha hc hk s x args below hf hap hp hK
  obtain ⟨n, o, h1, h2, h3, ⟨⟨r, m', e1, e2, e3⟩, e4⟩, h5⟩ := h p e ha hc hk s x args below hf hap hp hK
  exact ⟨n, o, h1, h2, h3, ⟨⟨r, m', e1, hq r m' e2, e3⟩, e4⟩, h5⟩
theorem sm_enter {E : sm_E} {L : sm_S → Prop} {Y : sm_Y} {d mc ms : Nat} {vs : List Value} {m : sm_M} {Q : Option Value → sm_M → Prop} (hy : plainName Y.1.cls = true) (hn : (lg_sl vs).length ≤ Y.2.2.1)
    (h : sm_go E L Y d mc ms vs 0 (lv_args 0 vs) [] m 0 0 (sm_Z E L vs mc ms Q)) : sm_call E L Y d mc ms vs m Q := by
  unfold sm_call
  refine Met.ofW (cc := Y.2.1) (maxL := Y.2.2.1) (ret := Y.2.2.2) hy rfl ?_
  intro p e s x args below meth c s₁ B hml hv
  obtain ⟨rfl, hK, hF, hP⟩ := hv
  have hts := atoms_spec (ws := Cond.code Y.1 Y.2.1 Y.2.2.1 Y.2.2.2 :: sm_T) B.pre
  have hl := lv_entry vs (n := Y.2.2.1) hn
  rw [lg_entry_eq]
  exact h p e s x below meth c s.heap [] _ ⟨B.exec, B.bytes, hml, B.returns, B.notSynchronized, (name_of_methodNamed B.named B.method).1, findClass_of_methodNamed B.named, fun w hw => hts w (List.mem_cons_of_mem _ hw), hK, hF, by rw [hP.2.1]; exact Nat.le_add_right _ _⟩ hP va_S.rf hl
theorem sm_blind (E : sm_E) (L : sm_S → Prop) (vs : List Value) (m : sm_M) : FrameBlind (va_Pc vs (sm_Pc E L m)) := by
  intro a U g mk h
  obtain ⟨rfl, hK, hF, hP⟩ := h
  exact ⟨rfl, va_K.moved (u := U) (U := U.calling g mk vs.toArray) (Vm.Alike.refl U.vm) hK, sm_F.same (s := U) rfl hF, hP⟩
section SMR
variable {E : sm_E} {L : sm_S → Prop} {Y Y' : sm_Y} {d mc ms d' mc' ms' : Nat} {vs : List Value} {pc : Nat} {lv : List (Nat × Value)} {rest : List Value} {m : sm_M} {cells slots : Nat} {Q : List Frame → State → State → Prop}
/-- what holds at a place where a callee begins -/
theorem sm_ready {p : Program} {s : State} {x : MethodId} {meth : Method} {c : Code} {H : Heap} {locs : List Loc} {m1 : sm_M} {As : List Value} (hat : sm_at E Y vs p s x meth c) (hP : sm_P E L m1 H) (hS : va_S (sm_A E) s.heap H locs) : ∀ U : State, U.heap = H → s.WarmedH U.vm → va_Pc As (sm_Pc E L m1) As.toArray U := by
  intro U hU hW
  obtain ⟨-, -, -, -, -, -, -, -, hK, hF, hB⟩ := hat
  refine ⟨rfl, va_K.moved hW.alike hK, ?_, by rw [hU]; exact hP⟩
  rw [hU]
  exact (hF.kept (fun a h1 h2 => hS.2.1 a h1 h2)).warm hW
theorem sm_after {p : Program} {e : Env} {s : State} {x : MethodId} {below : List Frame} {meth : Method} {c : Code} {H : Heap} {locs : List Loc} {ls : Array Slot} {st0 : List Value} {a : Array Value} {R : Room} {Qf : State → Prop} {args : Array Value} {l : Launch} {Q' : Option Value → sm_M → Prop}
    (hr : va_Run p l e R s x args below meth c H locs cells slots mc' ms' (F0 x pc ls st0) rest (sm_Qc E L Q' a) (sm_A E)) (hS : va_S (sm_A E) s.heap H locs)
    (kk : ∀ (r : Option Value) (m' : sm_M) (H1 : Heap) (locs1 : List Loc), Q' r m' → sm_P E L m' H1 → va_S (sm_A E) s.heap H1 locs1 → W p l e R s x args below meth c H1 locs1 (cells + mc') (slots + ms') Qf (F0 x (pc + 3) ls (r.toList ++ rest))) : W p l e R s x args below meth c H locs cells slots Qf (F0 x pc ls st0) := by
  intro T hT X
  obtain ⟨v, st₀, t, T', L', h0, X', hL, e1, e2, ⟨⟨r, m', hv, hq, hp⟩, hz, hk⟩, st⟩ := hr T hT X
  cases hv
  rw [h0] at hz hk
  obtain ⟨t2, a1, b1⟩ := kk v m' T'.heap (locs ++ L') hq (by rw [e1]; exact hp)
    ⟨Nat.le_trans hS.1 (by rw [e1]; exact hz), fun q h1 h2 => by rw [e1, hk q (Nat.lt_of_lt_of_le h1 hS.1) h2]; exact hS.2.1 q h1 h2, fun q hq => by
      rcases List.mem_append.mp hq with h | h
      · exact hS.2.2 q h
      · exact hL q h⟩ T' rfl X'
  exact ⟨t2, st t2 a1, b1⟩
/-- what a method's own words say: an instance method, a static one -/
def sm_mi (Y : sm_Y) (C : String) (n : Nat) : Prop := Cond.code Y.1 Y.2.1 Y.2.2.1 Y.2.2.2 ∈ sm_T ∧ Cond.instanceMethod Y.1 ∈ sm_T ∧ Cond.selects C Y.1 Y.1 ∈ sm_T ∧ Cond.initialized C ∈ sm_T ∧ Y.1.cls = C ∧ (Y.1.cls ≠ "java/lang/invoke/MethodHandle" ∧ Y.1.cls ≠ "java/lang/invoke/VarHandle" ∧ (parseMethodDescriptor Y.1.desc).map (fun d => d.parameters.length) = some n) ∧ Y.2.2.1 ≤ 44
def sm_mt (Y : sm_Y) (n : Nat) : Prop := Cond.code Y.1 Y.2.1 Y.2.2.1 Y.2.2.2 ∈ sm_T ∧ Cond.static Y.1 ∈ sm_T ∧ Cond.initialized Y.1.cls ∈ sm_T ∧ (Y.1.cls ≠ "java/lang/invoke/MethodHandle" ∧ Y.1.cls ≠ "java/lang/invoke/VarHandle" ∧ (parseMethodDescriptor Y.1.desc).map (fun d => d.parameters.length) = some n) ∧ Y.2.2.1 ≤ 44
def sm_mn (Y : sm_Y) (n : Nat) : Prop := Cond.code Y.1 Y.2.1 Y.2.2.1 none ∈ sm_T ∧ Y.2.2.2 = none ∧ Y.1.name = "<init>" ∧ Cond.instanceMethod Y.1 ∈ sm_T ∧ Cond.initialized Y.1.cls ∈ sm_T ∧ (Y.1.cls ≠ "java/lang/invoke/MethodHandle" ∧ Y.1.cls ≠ "java/lang/invoke/VarHandle" ∧ (parseMethodDescriptor Y.1.desc).map (fun d => d.parameters.length) = some n) ∧ Y.2.2.1 ≤ 44
theorem sm_hws (hc : Cond.code Y'.1 Y'.2.1 Y'.2.2.1 Y'.2.2.2 ∈ sm_T) : GoodIn sm_T (Cond.code Y'.1 Y'.2.1 Y'.2.2.1 Y'.2.2.2 :: sm_T) := sm_good (fun w hw => (List.mem_cons.mp hw).elim (fun e => by rw [e]; exact hc) id)
theorem sm_callB {s : State} {own : String} {n idx : Nat} (hts : ∀ w ∈ sm_T, w.before vs.toArray s = true) (hc : Cond.code Y'.1 Y'.2.1 Y'.2.2.1 Y'.2.2.2 ∈ sm_T) (hini : Cond.initialized Y'.1.cls ∈ sm_T) (hlink : Cond.methodLink own idx Y'.1 ∈ sm_T)
    (hd : Y'.1.cls ≠ "java/lang/invoke/MethodHandle" ∧ Y'.1.cls ≠ "java/lang/invoke/VarHandle" ∧ (parseMethodDescriptor Y'.1.desc).map (fun d => d.parameters.length) = some n) (hl : Y'.2.2.1 ≤ 44) (hdd : d' + 1 ≤ d) :
    CallB (sm_room d mc ms) s vs.toArray own idx Y'.1 Y'.2.1 Y'.2.2.1 Y'.2.2.2 (Cond.code Y'.1 Y'.2.1 Y'.2.2.1 Y'.2.2.2 :: sm_T) (sm_room d' mc' ms') mc' ms' n :=
  callB_of n hts (sm_hws hc) rfl rfl rfl (hts _ hini) (hts _ hlink) hd ⟨hdd, by show 8 + (Y'.2.2.1 + 11) + 64 * d' ≤ 64 * d; omega⟩
/-- invokevirtual -/
theorem sm_iv {C : String} {n idx a ci : Nat} {q : vw_C} {As : List Value} (hm : sm_mi Y' C n) (hlink : Cond.methodLink Y.1.cls idx Y'.1 ∈ sm_T) (hK : ∀ S, L S → sm_K S a = ci) (hci : ci < 11) (hq : vwCl[ci]? = some q) (hC : q.1 = C) (hn : As.length = n) (hdd : d' + 1 ≤ d) (hw : (rest.map fun v => v.category).sum ≤ 8) (hf : cells + mc' ≤ mc ∧ slots + ms' ≤ ms) (hdec : decode Y.2.1 pc = .ok (.invokevirtual idx, 3))
    {st : List Value} (hst : st = As.reverse ++ .ref (sm_B E + a) :: rest)
    (hc : sm_call E L Y' d' mc' ms' (.ref (sm_B E + a) :: As) m (fun r m' => sm_go E L Y d mc ms vs (pc + 3) lv (r.toList ++ rest) m' (cells + mc') (slots + ms') Q)) : sm_go E L Y d mc ms vs pc lv st m cells slots Q := by
  intro p e s x below meth c H locs ls hat hP hS hl
  subst hst
  obtain ⟨hx, hb, hml, hr, hlk, hnm, hown, hts, hKK, hF, hB⟩ := id hat
  obtain ⟨m1, m2, m3, m4, m5, m6, m7⟩ := hm
  have ha := hK _ hP.2.2.2
  have hlt := hP.2.2.1 a (by rw [ha]; omega)
  subst m5
  refine sm_after (va_runV (C := Y'.1.cls) (As := As) (rest := rest) (Ts := sm_T) (nL := Y.2.2.1) ⟨hx, hb, hml, hown, hts⟩ hc ⟨sm_callB hts m1 m4 hlink m6 m7 hdd, hts _ m2, hts _ m3⟩ ⟨sm_blind E L _ m, ?_, sm_ready hat hP hS⟩ rfl hn hl.1 rfl (lv_room hw) hdec hf) hS (fun r m' H1 locs1 hq hp hs => hq p e s x below meth c H1 locs1 ls hat hp hs hl)
  have h9 := va_recv hKK hP.1 hq (q0 := a) (a := sm_B E + a) (by rw [sm_ws_get hlt, sm_cell_obj ha hci])
  rw [hC] at h9
  exact h9
/-- invokestatic -/
theorem sm_is {n idx : Nat} {As : List Value} (hm : sm_mt Y' n) (hlink : Cond.methodLink Y.1.cls idx Y'.1 ∈ sm_T) (hn : As.length = n) (hdd : d' + 1 ≤ d) (hw : (rest.map fun v => v.category).sum ≤ 8) (hf : cells + mc' ≤ mc ∧ slots + ms' ≤ ms) (hdec : decode Y.2.1 pc = .ok (.invokestatic idx, 3))
    {st : List Value} (hst : st = As.reverse ++ rest)
    (hc : sm_call E L Y' d' mc' ms' As m (fun r m' => sm_go E L Y d mc ms vs (pc + 3) lv (r.toList ++ rest) m' (cells + mc') (slots + ms') Q)) : sm_go E L Y d mc ms vs pc lv st m cells slots Q := by
  intro p e s x below meth c H locs ls hat hP hS hl
  subst hst
  obtain ⟨hx, hb, hml, hr, hlk, hnm, hown, hts, hKK, hF, hB⟩ := id hat
  obtain ⟨m1, m2, m3, m4, m5⟩ := hm
  exact sm_after (va_runS (As := As) (rest := rest) (Ts := sm_T) (nL := Y.2.2.1) ⟨hx, hb, hml, hown, hts⟩ hc ⟨sm_callB hts m1 m3 hlink m4 m5 hdd, hts _ m2⟩ ⟨sm_blind E L _ m, sm_ready hat hP hS⟩ rfl hn hl.1 rfl (lv_room hw) hdec hf) hS (fun r m' H1 locs1 hq hp hs => hq p e s x below meth c H1 locs1 ls hat hp hs hl)
/-- invokespecial of a constructor -/
theorem sm_in0 {n idx a : Nat} {As : List Value} (hm : sm_mn Y' n) (hlink : Cond.methodLink Y.1.cls idx Y'.1 ∈ sm_T) (hn : As.length = n) (hdd : d' + 1 ≤ d) (hw : (rest.map fun v => v.category).sum ≤ 8) (hf : cells + mc' ≤ mc ∧ slots + ms' ≤ ms) (hdec : decode Y.2.1 pc = .ok (.invokespecial idx, 3))
    {st : List Value} (hst : st = As.reverse ++ .ref (sm_B E + a) :: rest)
    (hc : sm_call E L Y' d' mc' ms' (.ref (sm_B E + a) :: As) m (fun r m' => sm_go E L Y d mc ms vs (pc + 3) lv (r.toList ++ rest) m' (cells + mc') (slots + ms') Q)) : sm_go E L Y d mc ms vs pc lv st m cells slots Q := by
  intro p e s x below meth c H locs ls hat hP hS hl
  subst hst
  obtain ⟨hx, hb, hml, hr, hlk, hnm, hown, hts, hKK, hF, hB⟩ := id hat
  obtain ⟨m1, m2, m3, m4, m5, m6, m7⟩ := hm
  have m1' : Cond.code Y'.1 Y'.2.1 Y'.2.2.1 Y'.2.2.2 ∈ sm_T := by rw [m2]; exact m1
  have cb : CallB (sm_room d mc ms) s vs.toArray Y.1.cls idx Y'.1 Y'.2.1 Y'.2.2.1 none (Cond.code Y'.1 Y'.2.1 Y'.2.2.1 Y'.2.2.2 :: sm_T) (sm_room d' mc' ms') mc' ms' n := by
    have h := sm_callB (mc := mc) (ms := ms) (mc' := mc') (ms' := ms') hts m1' m5 hlink m6 m7 hdd
    rw [m2] at h ⊢
    exact h
  exact sm_after (va_runI (b := sm_B E + a) (As := As) (rest := rest) (Ts := sm_T) (nL := Y.2.2.1) ⟨hx, hb, hml, hown, hts⟩ hc ⟨cb, m3, hts _ m4⟩ ⟨sm_blind E L _ m, sm_ready hat hP hS⟩ rfl hn hl.1 rfl (lv_room hw) hdec hf) hS (fun r m' H1 locs1 hq hp hs => hq p e s x below meth c H1 locs1 ls hat hp hs hl)
end SMR
