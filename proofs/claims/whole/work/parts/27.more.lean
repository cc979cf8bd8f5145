section SMX
variable {E : sm_E} {L L' : sm_S → Prop} {Y : sm_Y} {d mc ms : Nat} {vs : List Value} {pc : Nat} {lv : List (Nat × Value)} {rest : List Value} {m : sm_M} {cells slots : Nat} {Q : List Frame → State → State → Prop}
theorem sm_Qc_sw {Q0 : Option Value → sm_M → Prop} (h2 : ∀ S, L' S → L S) {a : Array Value} {s : State} {o : Outcome} {t : State} (h : sm_Qc E L' Q0 a s o t) : sm_Qc E L Q0 a s o t := by
  obtain ⟨⟨r, m', e1, e2, e3⟩, e4⟩ := h
  exact ⟨⟨r, m', e1, e2, e3.1, e3.2.1, e3.2.2.1, h2 _ e3.2.2.2⟩, e4⟩
/-- more may be said of the shape, on the way -/
theorem sm_sw {Q0 : Option Value → sm_M → Prop} {st : List Value} (h1 : sm_wf m.2.2 → L m.2.2 → L' m.2.2) (h2 : ∀ S, L' S → L S) (k : sm_go E L' Y d mc ms vs pc lv st m cells slots (sm_Z E L' vs mc ms Q0)) : sm_go E L Y d mc ms vs pc lv st m cells slots (sm_Z E L vs mc ms Q0) := by
  intro p e s x below meth c H locs ls hat hP hS hl T hT X
  obtain ⟨t, a1, o, b1, b2, b3, b4⟩ := k p e s x below meth c H locs ls hat ⟨hP.1, hP.2.1, hP.2.2.1, h1 hP.2.2.1 hP.2.2.2⟩ hS hl T hT X
  exact ⟨t, a1, o, b1, b2, sm_Qc_sw h2 b3, b4⟩
theorem sm_callsw {Q0 : Option Value → sm_M → Prop} (h1 : sm_wf m.2.2 → L m.2.2 → L' m.2.2) (h2 : ∀ S, L' S → L S) (k : sm_call E L' Y d mc ms vs m Q0) : sm_call E L Y d mc ms vs m Q0 := by
  intro p e ha hc hk s x args below hf hap hp hK
  obtain ⟨g1, g2, g3, g4⟩ := hp
  obtain ⟨n, o, b1, b2, b3, b4, b5⟩ := k p e ha hc hk s x args below hf hap ⟨g1, g2, g3, g4.1, g4.2.1, g4.2.2.1, h1 g4.2.2.1 g4.2.2.2⟩ hK
  exact ⟨n, o, b1, b2, b3, sm_Qc_sw h2 b4, b5⟩
/-- Object.clone of a row of ints -/
theorem sm_clone {a n idx : Nat} (ha : sm_K m.2.2 a = 11) (hn : sm_N m.2.2 a = n) (w1 : Cond.methodLink Y.1.cls idx ⟨"[I", "clone", "()Ljava/lang/Object;"⟩ ∈ sm_T) (w2 : Cond.sameMethod "[I" "java/lang/Object" "clone" "()Ljava/lang/Object;" ∈ sm_T) (w3 : Cond.native ⟨"java/lang/Object", "clone", "()Ljava/lang/Object;"⟩ ∈ sm_T) (w4 : Cond.instanceMethod ⟨"java/lang/Object", "clone", "()Ljava/lang/Object;"⟩ ∈ sm_T) (w5 : Cond.selects "[I" ⟨"[I", "clone", "()Ljava/lang/Object;"⟩ ⟨"java/lang/Object", "clone", "()Ljava/lang/Object;"⟩ ∈ sm_T)
    (hL : sm_wf m.2.2 → L m.2.2 → L (sm_nw m 11 n).2.2) (hd : 1 ≤ d) (hw : (rest.map fun v => v.category).sum ≤ 8) (hc : cells + 1 ≤ mc) (hs : slots + n ≤ ms) (hdec : decode Y.2.1 pc = .ok (.invokevirtual idx, 3))
    (kk : ∀ m1, m1 = sm_wIs (sm_nw m 11 n) (sm_top m.2.2) (m.1 a) → sm_go E L Y d mc ms vs (pc + 3) lv (.ref (sm_B E + sm_top m.2.2) :: rest) m1 (cells + 1) (slots + n) Q) : sm_go E L Y d mc ms vs pc lv (.ref (sm_B E + a) :: rest) m cells slots Q := by
  intro p e s x below meth c H locs ls hat hP hS hl
  obtain ⟨hx, hb, hml, hr, hlk, hnm, hown, hts, hKK, hF, hB⟩ := id hat
  subst hn
  have hlt := hP.2.2.1 a (by rw [ha]; decide)
  have hcell : H[sm_B E + a]? = some (vp_cell (E.2.2.1 0) (sm_N m.2.2 a, .inl (m.1 a))) := hP.arr hlt (sm_cell_I ha)
  have hnmA : s.vm.findClass "[I" = some (E.2.2.1 0) := (hKK.2 0 _ rfl).2
  obtain ⟨c0, t0', f1, f2, f3⟩ := Cond.castable_spec (va_Nw.use (A := vs.toArray) rfl hF.2.2.2.2.2.2.1.2.2.2.2.2)
  cases hnmA.symm.trans f1
  intro T hT X
  have hcellT : T.heap[sm_B E + a]? = some (vp_cell (E.2.2.1 0) (sm_N m.2.2 a, .inl (m.1 a))) := by rw [hT]; exact hcell
  obtain ⟨-, kA, hkA, comp, hkind⟩ := State.isArrayOf_alike X.warmed.alike ((hKK.2 0 _ rfl).1 0 (fun _ => .null))
  obtain ⟨-, kS, hkS, compS, hkindS⟩ := (hKK.2 0 _ rfl).1 0 (fun _ => .null)
  have hsz : (vp_cell (E.2.2.1 0) (sm_N m.2.2 a, .inl (m.1 a))).slots.size = sm_N m.2.2 a := arrV_size _ _ _
  obtain ⟨vm', X', st⟩ := X.cloneArray hx hown (hts _ w1) (hts _ w2) (hts _ w3) (hts _ w4) (hts _ w5) (a := sm_B E + a) (cell := vp_cell (E.2.2.1 0) (sm_N m.2.2 a, .inl (m.1 a))) hcellT (fun k h => by cases h) (fun h => by cases h) hnmA f2 f3
    (fun i v hv => by
      have hk' : T.vm.classes[E.2.2.1 0]? = some kA := hkA
      have hi : i < sm_N m.2.2 a := by
        have := (Array.getElem?_eq_some_iff.mp hv).1
        rw [hsz] at this
        exact this
      have hv2 : v = .int (m.1 a i) := by
        have h5 : (arrV (E.2.2.1 0) (sm_N m.2.2 a) (fun j => .int (m.1 a j))).slots[i]? = some v := hv
        rw [arrV_read _ _ hi] at h5
        exact (Option.some.inj h5).symm
      subst hv2
      show T.fitsSlot (E.2.2.1 0) .none i _ = true
      simp [State.fitsSlot, State.slotType?, hk', hkind, fits])
    (g := F0 x pc ls (.ref (sm_B E + a) :: rest)) rfl (by show ls.size = c.maxLocals; rw [hml]; exact hl.1) rfl (by rw [hb]; exact hdec) hd (by show 2 * 0 + _ + 14 ≤ 64 * d; omega) hc (by rw [hsz]; exact hs) (hloader := Vm.clonesLoader_of_array hkS hkindS)
  rw [hsz] at X'
  have hcE : ({ cls := (vp_cell (E.2.2.1 0) (sm_N m.2.2 a, .inl (m.1 a))).cls, slots := (vp_cell (E.2.2.1 0) (sm_N m.2.2 a, .inl (m.1 a))).slots } : Cell) = vp_cell (E.2.2.1 0) (sm_N m.2.2 a, .inl (m.1 a)) := rfl
  rw [hcE] at X' st
  generalize hH1 : H.push (vp_cell (E.2.2.1 0) (sm_N m.2.2 a, .inl (m.1 a))) = H1
  have z1 : H1.size = H.size + 1 := by rw [← hH1, Array.size_push]
  have e1 : H1[H.size]? = some (vp_cell (E.2.2.1 0) (sm_N m.2.2 a, .inl (m.1 a))) := by rw [← hH1, Array.getElem?_push_size]
  have o1 : ∀ q : Nat, q < H.size → H1[q]? = H[q]? := fun q hq => by rw [← hH1, Array.getElem?_push, if_neg (Nat.ne_of_lt hq)]
  have hsP := hP.2.1
  obtain ⟨n1, n2, n3, n4, n5⟩ := sm_nw_at (m := m) (k := 11) (n := sm_N m.2.2 a)
  have hP1 : sm_P E L (sm_wIs (sm_nw m 11 (sm_N m.2.2 a)) (sm_top m.2.2) (m.1 a)) H1 := by
    refine ⟨fun j q hj => ?_, by rw [z1, hsP]; rfl, fun b hb9 => ?_, hL hP.2.2.1 hP.2.2.2⟩
    · obtain ⟨hj1, rfl⟩ := sm_ws_some hj
      have hj2 : j < sm_top m.2.2 + 1 := hj1
      by_cases hja : j = sm_top m.2.2
      · subst hja
        rw [sm_cell_I (show sm_K (sm_wIs (sm_nw m 11 (sm_N m.2.2 a)) (sm_top m.2.2) (m.1 a)).2.2 (sm_top m.2.2) = 11 from n4)]
        show H1[sm_B E + sm_top m.2.2]? = some (vp_cell _ _)
        rw [← hsP, e1]
        have h6 : sm_N (sm_wIs (sm_nw m 11 (sm_N m.2.2 a)) (sm_top m.2.2) (m.1 a)).2.2 (sm_top m.2.2) = sm_N m.2.2 a := n5
        have h7 : (sm_wIs (sm_nw m 11 (sm_N m.2.2 a)) (sm_top m.2.2) (m.1 a)).1 (sm_top m.2.2) = m.1 a := by simp [sm_wIs]
        rw [h6, h7]
      · obtain ⟨o2, o3, o4, o5, o6⟩ := sm_nw_ne (m := m) (k := 11) (n := sm_N m.2.2 a) hja
        have h8 : (sm_wIs (sm_nw m 11 (sm_N m.2.2 a)) (sm_top m.2.2) (m.1 a)).1 j = m.1 j := by
          rw [← o2]
          simp [sm_wIs, hja]
        have h10 : sm_cell E (sm_wIs (sm_nw m 11 (sm_N m.2.2 a)) (sm_top m.2.2) (m.1 a)) j = sm_cell E m j := sm_cell_congr h8 o3 o4 o5 o6
        rw [h10]
        have h9 := hP.1 j _ (sm_ws_get (by omega))
        exact h9.kept (o1 _ h9.lt)
    · show b < sm_top m.2.2 + 1
      by_cases hb1 : b = sm_top m.2.2
      · omega
      · have h8 : sm_K (sm_nw m 11 (sm_N m.2.2 a)).2.2 b < 100 := hb9
        rw [(sm_nw_ne (m := m) (k := 11) (n := sm_N m.2.2 a) hb1).2.2.2.1] at h8
        have := hP.2.2.1 b h8
        omega
  have hS1 : va_S (sm_A E) s.heap H1 locs := sm_S.push hS z1 o1
  have h9 := kk _ rfl p e s x below meth c H1 locs ls hat hP1 hS1 hl
  obtain ⟨t, a1, b1⟩ := h9 ((T.setVm vm').pushCell (vp_cell (E.2.2.1 0) (sm_N m.2.2 a, .inl (m.1 a)))) (by rw [← hH1, ← hT]; rfl) X'
  refine ⟨t, st t ?_, b1⟩
  rw [hT, hsP]
  exact a1
theorem sm_castA {a idx : Nat} (ha : sm_K m.2.2 a = 11) (w1 : Cond.classLink Y.1.cls idx "[I" ∈ sm_T) (hdec : decode Y.2.1 pc = .ok (.checkcast idx, 3)) (kk : sm_go E L Y d mc ms vs (pc + 3) lv (.ref (sm_B E + a) :: rest) m cells slots Q) : sm_go E L Y d mc ms vs pc lv (.ref (sm_B E + a) :: rest) m cells slots Q := by
  intro p e s x below meth c H locs ls hat hP hS hl
  have hlt := hP.2.2.1 a (by rw [ha]; decide)
  exact va_castA hat.1 hat.2.1 hat.2.2.2.2.2.2.1 (hat.2.2.2.2.2.2.2.1 _ w1) hP.1 a (by rw [sm_ws_get hlt, sm_cell_I ha]) (hat.2.2.2.2.2.2.2.2.1.2 0 _ rfl).2 hdec (kk p e s x below meth c H locs ls hat hP hS hl)
/-- the layout, and that what has a kind stands -/
def lz (S : sm_S) : Prop := ly S ∧ sm_wf S
theorem lz_ly (S : sm_S) (h : lz S) : ly S := h.1
theorem ly_top {S : sm_S} (h : lz S) : 149 ≤ sm_top S := h.2 148 (by rw [(h.1.1 148 _ rfl).1]; decide)
theorem ly_r_lt : ∀ q ∈ ly_r, q.1 < 149 ∧ q.1 ≠ 69 := by decide +kernel
theorem ly_kn_lt : ∀ q ∈ ly_kn, q.1 < 100 := by decide +kernel
theorem lz_nw {k n : Nat} (hk : k < 100) (h : lz m.2.2) : lz (sm_nw m k n).2.2 := by
  have ht := ly_top h
  have hne : ∀ b, b ≠ sm_top m.2.2 → (sm_nw m k n).2.2.1 b = m.2.2.1 b ∧ sm_K (sm_nw m k n).2.2 b = sm_K m.2.2 b ∧ sm_N (sm_nw m k n).2.2 b = sm_N m.2.2 b := fun b hb => (sm_nw_ne (m := m) (k := k) (n := n) hb).2.2
  obtain ⟨⟨h1, h2, h3, h4⟩, h5⟩ := h
  refine ⟨⟨fun a q ha => ?_, fun q hq => ?_, fun i hi => ?_, fun i r hi hr => ?_⟩, fun b hb => ?_⟩
  · obtain ⟨g1, g2⟩ := h1 a q ha
    have hlt := h5 a (by rw [g1]; exact ly_kn_lt q (List.mem_of_getElem? ha))
    obtain ⟨e1, e2, e3⟩ := hne a (by omega)
    exact ⟨e2.trans g1, e3.trans g2⟩
  · have := ly_r_lt q hq
    rw [(hne q.1 (by omega)).1]
    exact h2 q hq
  · rw [(hne 28 (by omega)).1]
    exact h3 i hi
  · rw [(hne 69 (by omega)).1] at hr
    obtain ⟨g1, g2⟩ := h4 i r hi hr
    have hlt := h5 r (by rw [g2]; decide)
    exact ⟨g1, (hne r (by omega)).2.1.trans g2⟩
  · show b < sm_top m.2.2 + 1
    by_cases hb1 : b = sm_top m.2.2
    · omega
    · rw [(hne b hb1).2.1] at hb
      have := h5 b hb
      omega
theorem lz_wR {i r : Nat} (hr : 149 ≤ r) (hk : sm_K m.2.2 r = 11) (h : lz m.2.2) : lz (sm_wR m 69 i (some r)).2.2 := by
  have hne : ∀ b, b ≠ 69 → (sm_wR m 69 i (some r)).2.2.1 b = m.2.2.1 b := fun b hb => sm_u_ne hb
  obtain ⟨⟨h1, h2, h3, h4⟩, h5⟩ := h
  refine ⟨⟨h1, fun q hq => ?_, fun i hi => ?_, fun j q hj hq => ?_⟩, h5⟩
  · rw [hne q.1 (ly_r_lt q hq).2]
    exact h2 q hq
  · rw [hne 28 (by decide)]
    exact h3 i hi
  · by_cases hji : j = i
    · subst hji
      have h6 : (sm_wR m 69 j (some r)).2.2.1 69 j = some r := by simp [sm_wR, sm_u]
      rw [h6] at hq
      cases hq
      exact ⟨hr, hk⟩
    · have h6 : (sm_wR m 69 i (some r)).2.2.1 69 j = m.2.2.1 69 j := by simp [sm_wR, sm_u, hji]
      rw [h6] at hq
      exact h4 j q hj hq
end SMX
