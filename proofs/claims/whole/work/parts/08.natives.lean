theorem sm_oi1 : Cond.instanceMethod Lib.objectInit ∈ sm_T := sm_in 108 (by decide +kernel) (by decide +kernel)
theorem sm_oi2 : Cond.code Lib.objectInit ⟨#[0xb1]⟩ 1 none ∈ sm_T := sm_in 109 (by decide +kernel) (by decide +kernel)
theorem sm_ac1 : Cond.native arraycopyName ∈ sm_T := sm_in 501 (by decide +kernel) (by decide +kernel)
theorem sm_ac2 : Cond.static arraycopyName ∈ sm_T := sm_in 500 (by decide +kernel) (by decide +kernel)
theorem sm_ac3 : Cond.initialized "java/lang/System" ∈ sm_T := sm_in 95 (by decide +kernel) (by decide +kernel)
theorem sm_ac4 : nativeFrameWords "java/lang/System" "arraycopy" 5 + 11 + 8 ≤ 64 := by decide +kernel
theorem sm_nn (z : Int32) (hz : ¬ z < 0) : z.toInt = (z.toNatClampNeg : Int) := by
  have hz0 : (0 : Int) ≤ z.toInt := by
    have := Int32.not_lt.mp hz
    simpa using Int32.le_iff_toInt_le.mp this
  show z.toInt = ((z.toInt.toNat : Nat) : Int)
  omega
section SMN
variable {E : sm_E} {L : sm_S → Prop} {Y Y' : sm_Y} {d mc ms d' mc' ms' : Nat} {vs : List Value} {pc : Nat} {lv : List (Nat × Value)} {rest : List Value} {m : sm_M} {cells slots : Nat} {Q : List Frame → State → State → Prop}
theorem sm_obj {a idx : Nat} (hlink : Cond.methodLink Y.1.cls idx Lib.objectInit ∈ sm_T) (hd : 1 ≤ d) (hw : (rest.map fun v => v.category).sum ≤ 8) (hdec : decode Y.2.1 pc = .ok (.invokespecial idx, 3)) (kk : sm_go E L Y d mc ms vs (pc + 3) lv rest m cells slots Q) : sm_go E L Y d mc ms vs pc lv (.ref a :: rest) m cells slots Q :=
  fun p e s x below meth c H locs ls hat hP hS hl => W.objInit hat.1 hat.2.1 hat.2.2.2.2.2.2.1 (hat.2.2.2.2.2.2.2.1 _ hlink) (hat.2.2.2.2.2.2.2.1 _ sm_oi1) (hat.2.2.2.2.2.2.2.1 _ sm_oi2) rfl (by rw [hat.2.2.1]; exact hl.1) rfl hdec hd (by show 2 * 0 + _ + 12 ≤ 64 * d; omega) (kk p e s x below meth c H locs ls hat hP hS hl)
theorem sm_copyI {a0 a1 n0 n1 idx : Nat} {sp dp n : Int32} (hA0 : L m.2.2 → sm_K m.2.2 a0 = 11 ∧ sm_N m.2.2 a0 = n0) (hA1 : L m.2.2 → sm_K m.2.2 a1 = 11 ∧ sm_N m.2.2 a1 = n1) (h1 : ¬ sp < 0) (h2 : ¬ dp < 0) (h3 : ¬ n < 0) (h4 : sp.toNatClampNeg + n.toNatClampNeg ≤ n0) (h5 : dp.toNatClampNeg + n.toNatClampNeg ≤ n1) (hlink : Cond.methodLink Y.1.cls idx arraycopyName ∈ sm_T) (hd : 1 ≤ d) (hw : (rest.map fun v => v.category).sum ≤ 8) (hdec : decode Y.2.1 pc = .ok (.invokestatic idx, 3))
    (kk : ∀ m1, m1 = sm_wIs m a1 (va_cpy (m.1 a0) (m.1 a1) sp.toNatClampNeg dp.toNatClampNeg n.toNatClampNeg) → sm_go E L Y d mc ms vs (pc + 3) lv rest m1 cells slots Q) : sm_go E L Y d mc ms vs pc lv (.int n :: .int dp :: .ref (sm_B E + a1) :: .int sp :: .ref (sm_B E + a0) :: rest) m cells slots Q := by
  intro p e s x below meth c H locs ls hat hP hS hl
  obtain ⟨ha0, hn0⟩ := hA0 hP.2.2.2
  obtain ⟨ha1, hn1⟩ := hA1 hP.2.2.2
  have hlt0 := hP.lt ha0 (by decide)
  have hlt1 := hP.lt ha1 (by decide)
  subst hn0
  subst hn1
  obtain ⟨hx, hb, hml, hr, hlk, hnm, hown, hts, hKK, hF, hB⟩ := id hat
  have hc0 := hP.arr hlt0 (sm_cell_I ha0)
  have hc1 := hP.arr hlt1 (sm_cell_I ha1)
  obtain ⟨-, k0, hk0, cm0, hkk0⟩ := (hKK.2 0 _ rfl).1 (sm_N m.2.2 a0) (fun j => .int (m.1 a0 j))
  obtain ⟨-, k1, hk1, cm1, hkk1⟩ := (hKK.2 0 _ rfl).1 (sm_N m.2.2 a1) (fun j => .int (m.1 a1 j))
  intro T hT X
  obtain ⟨vm', X', step⟩ := X.arraycopy hx hown (hts _ hlink) (hts _ sm_ac1) (hts _ sm_ac2) (hts _ sm_ac3) (src := sm_B E + a0) (dst := sm_B E + a1) (cs := vp_cell (E.2.2.1 0) (sm_N m.2.2 a0, .inl (m.1 a0))) (cd := vp_cell (E.2.2.1 0) (sm_N m.2.2 a1, .inl (m.1 a1))) (srcPos := sp) (destPos := dp) (n := n) (by rw [hT]; exact hc0) (by rw [hT]; exact hc1)
    (fun _ h => by cases h) (fun _ h => by cases h) (fun h => by cases h) (fun h => by cases h) hk0 hk1 hkk0 hkk1 (by simp [refKind]) h1 h2 h3
    (by rw [sm_nn sp h1, sm_nn n h3]; show ¬ _ > ((arrV (E.2.2.1 0) (sm_N m.2.2 a0) (fun j => .int (m.1 a0 j))).slots.size : Int); rw [arrV_size]; omega)
    (by rw [sm_nn dp h2, sm_nn n h3]; show ¬ _ > ((arrV (E.2.2.1 0) (sm_N m.2.2 a1) (fun j => .int (m.1 a1 j))).slots.size : Int); rw [arrV_size]; omega)
    (fun vm₁ _ i hi => by
      have e : (vp_cell (E.2.2.1 0) (sm_N m.2.2 a0, .inl (m.1 a0))).slots.getD (sp.toNatClampNeg + i) .null = .int (m.1 a0 (sp.toNatClampNeg + i)) := by
        show (arrV (E.2.2.1 0) (sm_N m.2.2 a0) (fun j => .int (m.1 a0 j))).slots.getD _ _ = _
        rw [Array.getD_eq_getD_getElem?, arrV_read _ _ (by omega)]
        rfl
      refine ⟨?_, ?_⟩
      · rw [e]
        rfl
      · rw [e]
        exact trivial)
    (g := F0 x pc ls (.int n :: .int dp :: .ref (sm_B E + a1) :: .int sp :: .ref (sm_B E + a0) :: rest)) rfl (by rw [hml]; exact hl.1) (rest := rest) rfl (by rw [hb]; exact hdec) hd (by have h9 := sm_ac4; show 2 * 0 + _ + _ ≤ 64 * d; omega)
  have e1 : copied (vp_cell (E.2.2.1 0) (sm_N m.2.2 a0, .inl (m.1 a0))) (vp_cell (E.2.2.1 0) (sm_N m.2.2 a1, .inl (m.1 a1))) sp dp n = vp_cell (E.2.2.1 0) (sm_N m.2.2 a1, .inl (va_cpy (m.1 a0) (m.1 a1) sp.toNatClampNeg dp.toNatClampNeg n.toNatClampNeg)) := va_copied (fun z => .int z) (E.2.2.1 0) (E.2.2.1 0) (m.1 a0) (m.1 a1) h4
  rw [e1] at X' step
  have hl1 : sm_B E + a1 < H.size := (Array.getElem?_eq_some_iff.mp hc1).1
  generalize hnew : vp_cell (E.2.2.1 0) (sm_N m.2.2 a1, .inl (va_cpy (m.1 a0) (m.1 a1) sp.toNatClampNeg dp.toNatClampNeg n.toNatClampNeg)) = nc at X' step
  have hheap : ((T.setVm vm').setCell (sm_B E + a1) nc).heap = H.setIfInBounds (sm_B E + a1) nc := by rw [← hT]; rfl
  have oq : ∀ q : Nat, q ≠ sm_B E + a1 → (H.setIfInBounds (sm_B E + a1) nc)[q]? = H[q]? := fun q hq => by simp [Array.getElem?_setIfInBounds, Ne.symm hq]
  have z : (H.setIfInBounds (sm_B E + a1) nc).size = H.size := by simp
  obtain ⟨t, a2, b2⟩ := kk _ rfl p e s x below meth c (H.setIfInBounds (sm_B E + a1) nc) _ ls hat (hP.up (m1 := sm_wIs m a1 (va_cpy (m.1 a0) (m.1 a1) sp.toNatClampNeg dp.toNatClampNeg n.toNatClampNeg)) hlt1 (by
      rw [sm_cell_I (show sm_K (sm_wIs m a1 (va_cpy (m.1 a0) (m.1 a1) sp.toNatClampNeg dp.toNatClampNeg n.toNatClampNeg)).2.2 a1 = 11 from ha1)]
      show (H.setIfInBounds (sm_B E + a1) nc)[sm_B E + a1]? = some (vp_cell _ _)
      rw [← hnew]
      simp [Array.getElem?_setIfInBounds, hl1, sm_wIs]) z oq hP.2.2.2 rfl rfl rfl (fun b hb => ⟨if_neg hb, rfl, rfl⟩)) ⟨by rw [z]; exact hS.1, fun q g1 g2 => by
      rw [oq q (fun e => g2 (by rw [e]; exact Nat.le_add_right _ _))]
      exact hS.2.1 q g1 g2, fun q hq => by
      rcases List.mem_append.mp hq with h | h
      · exact hS.2.2 q h
      · obtain ⟨z, -, hz⟩ := List.mem_map.mp h
        rw [← hz]
        exact Nat.le_add_right _ _⟩ hl _ hheap X'
  exact ⟨t, step t a2, b2⟩
theorem sm_copyJ {a0 a1 n0 n1 idx : Nat} {sp dp n : Int32} (hA0 : L m.2.2 → sm_K m.2.2 a0 = 12 ∧ sm_N m.2.2 a0 = n0) (hA1 : L m.2.2 → sm_K m.2.2 a1 = 12 ∧ sm_N m.2.2 a1 = n1) (h1 : ¬ sp < 0) (h2 : ¬ dp < 0) (h3 : ¬ n < 0) (h4 : sp.toNatClampNeg + n.toNatClampNeg ≤ n0) (h5 : dp.toNatClampNeg + n.toNatClampNeg ≤ n1) (hlink : Cond.methodLink Y.1.cls idx arraycopyName ∈ sm_T) (hd : 1 ≤ d) (hw : (rest.map fun v => v.category).sum ≤ 8) (hdec : decode Y.2.1 pc = .ok (.invokestatic idx, 3))
    (kk : ∀ m1, m1 = sm_wJs m a1 (va_cpy (m.2.1 a0) (m.2.1 a1) sp.toNatClampNeg dp.toNatClampNeg n.toNatClampNeg) → sm_go E L Y d mc ms vs (pc + 3) lv rest m1 cells slots Q) : sm_go E L Y d mc ms vs pc lv (.int n :: .int dp :: .ref (sm_B E + a1) :: .int sp :: .ref (sm_B E + a0) :: rest) m cells slots Q := by
  intro p e s x below meth c H locs ls hat hP hS hl
  obtain ⟨ha0, hn0⟩ := hA0 hP.2.2.2
  obtain ⟨ha1, hn1⟩ := hA1 hP.2.2.2
  have hlt0 := hP.lt ha0 (by decide)
  have hlt1 := hP.lt ha1 (by decide)
  subst hn0
  subst hn1
  obtain ⟨hx, hb, hml, hr, hlk, hnm, hown, hts, hKK, hF, hB⟩ := id hat
  have hc0 := hP.arr hlt0 (sm_cell_J ha0)
  have hc1 := hP.arr hlt1 (sm_cell_J ha1)
  obtain ⟨-, k0, hk0, cm0, hkk0⟩ := (hKK.2 1 _ rfl).1 (sm_N m.2.2 a0) (fun j => .long (m.2.1 a0 j))
  obtain ⟨-, k1, hk1, cm1, hkk1⟩ := (hKK.2 1 _ rfl).1 (sm_N m.2.2 a1) (fun j => .long (m.2.1 a1 j))
  intro T hT X
  obtain ⟨vm', X', step⟩ := X.arraycopy hx hown (hts _ hlink) (hts _ sm_ac1) (hts _ sm_ac2) (hts _ sm_ac3) (src := sm_B E + a0) (dst := sm_B E + a1) (cs := vp_cell (E.2.2.1 1) (sm_N m.2.2 a0, .inr (.inl (m.2.1 a0)))) (cd := vp_cell (E.2.2.1 1) (sm_N m.2.2 a1, .inr (.inl (m.2.1 a1)))) (srcPos := sp) (destPos := dp) (n := n) (by rw [hT]; exact hc0) (by rw [hT]; exact hc1)
    (fun _ h => by cases h) (fun _ h => by cases h) (fun h => by cases h) (fun h => by cases h) hk0 hk1 hkk0 hkk1 (by simp [refKind]) h1 h2 h3
    (by rw [sm_nn sp h1, sm_nn n h3]; show ¬ _ > ((arrV (E.2.2.1 1) (sm_N m.2.2 a0) (fun j => .long (m.2.1 a0 j))).slots.size : Int); rw [arrV_size]; omega)
    (by rw [sm_nn dp h2, sm_nn n h3]; show ¬ _ > ((arrV (E.2.2.1 1) (sm_N m.2.2 a1) (fun j => .long (m.2.1 a1 j))).slots.size : Int); rw [arrV_size]; omega)
    (fun vm₁ _ i hi => by
      have e : (vp_cell (E.2.2.1 1) (sm_N m.2.2 a0, .inr (.inl (m.2.1 a0)))).slots.getD (sp.toNatClampNeg + i) .null = .long (m.2.1 a0 (sp.toNatClampNeg + i)) := by
        show (arrV (E.2.2.1 1) (sm_N m.2.2 a0) (fun j => .long (m.2.1 a0 j))).slots.getD _ _ = _
        rw [Array.getD_eq_getD_getElem?, arrV_read _ _ (by omega)]
        rfl
      refine ⟨?_, ?_⟩
      · rw [e]
        rfl
      · rw [e]
        exact trivial)
    (g := F0 x pc ls (.int n :: .int dp :: .ref (sm_B E + a1) :: .int sp :: .ref (sm_B E + a0) :: rest)) rfl (by rw [hml]; exact hl.1) (rest := rest) rfl (by rw [hb]; exact hdec) hd (by have h9 := sm_ac4; show 2 * 0 + _ + _ ≤ 64 * d; omega)
  have e1 : copied (vp_cell (E.2.2.1 1) (sm_N m.2.2 a0, .inr (.inl (m.2.1 a0)))) (vp_cell (E.2.2.1 1) (sm_N m.2.2 a1, .inr (.inl (m.2.1 a1)))) sp dp n = vp_cell (E.2.2.1 1) (sm_N m.2.2 a1, .inr (.inl (va_cpy (m.2.1 a0) (m.2.1 a1) sp.toNatClampNeg dp.toNatClampNeg n.toNatClampNeg))) := va_copied (fun z => .long z) (E.2.2.1 1) (E.2.2.1 1) (m.2.1 a0) (m.2.1 a1) h4
  rw [e1] at X' step
  have hl1 : sm_B E + a1 < H.size := (Array.getElem?_eq_some_iff.mp hc1).1
  generalize hnew : vp_cell (E.2.2.1 1) (sm_N m.2.2 a1, .inr (.inl (va_cpy (m.2.1 a0) (m.2.1 a1) sp.toNatClampNeg dp.toNatClampNeg n.toNatClampNeg))) = nc at X' step
  have hheap : ((T.setVm vm').setCell (sm_B E + a1) nc).heap = H.setIfInBounds (sm_B E + a1) nc := by rw [← hT]; rfl
  have oq : ∀ q : Nat, q ≠ sm_B E + a1 → (H.setIfInBounds (sm_B E + a1) nc)[q]? = H[q]? := fun q hq => by simp [Array.getElem?_setIfInBounds, Ne.symm hq]
  have z : (H.setIfInBounds (sm_B E + a1) nc).size = H.size := by simp
  obtain ⟨t, a2, b2⟩ := kk _ rfl p e s x below meth c (H.setIfInBounds (sm_B E + a1) nc) _ ls hat (hP.up (m1 := sm_wJs m a1 (va_cpy (m.2.1 a0) (m.2.1 a1) sp.toNatClampNeg dp.toNatClampNeg n.toNatClampNeg)) hlt1 (by
      rw [sm_cell_J (show sm_K (sm_wJs m a1 (va_cpy (m.2.1 a0) (m.2.1 a1) sp.toNatClampNeg dp.toNatClampNeg n.toNatClampNeg)).2.2 a1 = 12 from ha1)]
      show (H.setIfInBounds (sm_B E + a1) nc)[sm_B E + a1]? = some (vp_cell _ _)
      rw [← hnew]
      simp [Array.getElem?_setIfInBounds, hl1, sm_wJs]) z oq hP.2.2.2 rfl rfl rfl (fun b hb => ⟨rfl, if_neg hb, rfl⟩)) ⟨by rw [z]; exact hS.1, fun q g1 g2 => by
      rw [oq q (fun e => g2 (by rw [e]; exact Nat.le_add_right _ _))]
      exact hS.2.1 q g1 g2, fun q hq => by
      rcases List.mem_append.mp hq with h | h
      · exact hS.2.2 q h
      · obtain ⟨z, -, hz⟩ := List.mem_map.mp h
        rw [← hz]
        exact Nat.le_add_right _ _⟩ hl _ hheap X'
  exact ⟨t, step t a2, b2⟩
theorem sm_in1 {n idx a : Nat} {As : List Value} (hm : sm_mn Y' n) (hlink : (idx, Y'.1) ∈ sm_nest) (hY : Y.1.cls = RX11) (hn : As.length = n) (hdd : d' + 1 ≤ d) (hw : (rest.map fun v => v.category).sum ≤ 8) (hf : cells + mc' ≤ mc ∧ slots + ms' ≤ ms) (hdec : decode Y.2.1 pc = .ok (.invokespecial idx, 3))
    {st : List Value} (hst : st = As.reverse ++ .ref (sm_B E + a) :: rest)
    (hc : sm_call E L Y' d' mc' ms' (.ref (sm_B E + a) :: As) m (fun r m' => sm_go E L Y d mc ms vs (pc + 3) lv (r.toList ++ rest) m' (cells + mc') (slots + ms') Q)) : sm_go E L Y d mc ms vs pc lv st m cells slots Q := by
  intro p e s x below meth c H locs ls hat hP hS hl
  subst hst
  obtain ⟨hx, hb, hml, hr, hlk, hnm, hown, hts, hKK, hF, hB⟩ := id hat
  obtain ⟨m1, m2, m3, m4, m5, m6, m7⟩ := hm
  have m1' : Cond.code Y'.1 Y'.2.1 Y'.2.2.1 Y'.2.2.2 ∈ sm_T := by rw [m2]; exact m1
  have hnw : va_Nw (.methodLinkNest Y.1.cls idx Y'.1 RX11) s := by rw [hY]; exact hF.2.2.2.2.2.2.1.2.1 _ hlink
  have cb : va_CN (sm_room d mc ms) s vs.toArray Y.1.cls idx Y'.1 RX11 Y'.2.1 Y'.2.2.1 none (Cond.code Y'.1 Y'.2.1 Y'.2.2.1 Y'.2.2.2 :: sm_T) (sm_room d' mc' ms') mc' ms' n := by
    have h := va_cnB (mc := mc') (ms := ms') (R := sm_room d mc ms) (rm := sm_room d' mc' ms') (bytes := Y'.2.1) (maxL := Y'.2.2.1) (ret := Y'.2.2.2) n hts (sm_hws m1') rfl rfl rfl hnw (hts _ m5) m6 ⟨hdd, by show 8 + (Y'.2.2.1 + 11) + 64 * d' ≤ 64 * d; omega⟩
    rw [m2] at h ⊢
    exact h
  exact sm_after (va_runIN (b := sm_B E + a) (As := As) (rest := rest) (Ts := sm_T) (nL := Y.2.2.1) ⟨hx, hb, hml, hown, hts⟩ hc ⟨cb, m3, hts _ m4⟩ ⟨sm_blind E L _ m, sm_ready hat hP hS⟩ rfl hn hl.1 rfl (lv_room hw) hdec hf) hS (fun r m' H1 locs1 hq hp hs => hq p e s x below meth c H1 locs1 ls hat hp hs hl)
theorem sm_gWords {idx : Nat} (hlink : Cond.fieldLink Y.1.cls idx RX12 "WORDS" "[I" ∈ sm_T) (hdec : decode Y.2.1 pc = .ok (.getstatic idx, 3)) (kk : sm_go E L Y d mc ms vs (pc + 3) lv (.ref E.2.2.2.2.1 :: rest) m cells slots Q) : sm_go E L Y d mc ms vs pc lv rest m cells slots Q :=
  fun p e s x below meth c H locs ls hat hP hS hl => va_gets hat.1 hat.2.1 hat.2.2.2.2.2.2.2.2.2.1.1 hS hat.2.2.2.2.2.2.1 (hat.2.2.2.2.2.2.2.1 _ hlink) (fun _ h => h) hdec (kk p e s x below meth c H locs ls hat hP hS hl)
theorem sm_iWords {i : Int32} (hin : vp_in i 42) (hdec : decode Y.2.1 pc = .ok (.iaload, 1)) (kk : sm_go E L Y d mc ms vs (pc + 1) lv (.int (sm_words.getD i.toNatClampNeg 0) :: rest) m cells slots Q) : sm_go E L Y d mc ms vs pc lv (.int i :: .ref E.2.2.2.2.1 :: rest) m cells slots Q :=
  fun p e s x below meth c H locs ls hat hP hS hl => va_ti hat.1 hat.2.1 hat.2.2.2.2.2.2.2.2.2.1.2.1 hS hin rfl hdec (kk p e s x below meth c H locs ls hat hP hS hl)
theorem sm_gCompact {idx : Nat} (hlink : Cond.fieldLink Y.1.cls idx "java/lang/String" "COMPACT_STRINGS" "Z" ∈ sm_T) (hdec : decode Y.2.1 pc = .ok (.getstatic idx, 3)) (kk : sm_go E L Y d mc ms vs (pc + 3) lv (.int 1 :: rest) m cells slots Q) : sm_go E L Y d mc ms vs pc lv rest m cells slots Q :=
  fun p e s x below meth c H locs ls hat hP hS hl => va_gets hat.1 hat.2.1 hat.2.2.2.2.2.2.2.2.2.1.2.2.1 hS hat.2.2.2.2.2.2.1 (hat.2.2.2.2.2.2.2.1 _ hlink) (fun _ h => h) hdec (kk p e s x below meth c H locs ls hat hP hS hl)
theorem sm_ldcS {idx i : Nat} (hi : i < 6) (hx : 94 + 2 * i = idx) (hY : Y.1.cls = RX9) (hdec : decode Y.2.1 pc = .ok (.ldc idx, 2)) (kk : sm_go E L Y d mc ms vs (pc + 2) lv (.ref (E.2.2.2.2.2.1 i) :: rest) m cells slots Q) : sm_go E L Y d mc ms vs pc lv rest m cells slots Q := by
  intro p e s x below meth c H locs ls hat hP hS hl
  subst hx
  exact va_ldcS hat.1 hat.2.1 (own := RX9) (by rw [← hY]; exact hat.2.2.2.2.2.2.1) (hat.2.2.2.2.2.2.2.2.2.1.2.2.2.2.2.1 i hi) hdec (kk p e s x below meth c H locs ls hat hP hS hl)
theorem sm_gCoder {idx i : Nat} (hi : i < 6) (hlink : Cond.fieldLink Y.1.cls idx "java/lang/String" "coder" "B" ∈ sm_T) (hdec : decode Y.2.1 pc = .ok (.getfield idx, 3)) (kk : sm_go E L Y d mc ms vs (pc + 3) lv (.int 0 :: rest) m cells slots Q) : sm_go E L Y d mc ms vs pc lv (.ref (E.2.2.2.2.2.1 i) :: rest) m cells slots Q :=
  fun p e s x below meth c H locs ls hat hP hS hl => vk_getf hat.1 hat.2.1 (hat.2.2.2.2.2.2.2.2.2.1.2.2.2.2.1.1 i hi).2.1 hS hat.2.2.2.2.2.2.1 (hat.2.2.2.2.2.2.2.1 _ hlink) (fun _ h => h) hdec (kk p e s x below meth c H locs ls hat hP hS hl)
theorem sm_gValue {idx i : Nat} (hi : i < 6) (hlink : Cond.fieldLink Y.1.cls idx "java/lang/String" "value" "[B" ∈ sm_T) (hdec : decode Y.2.1 pc = .ok (.getfield idx, 3)) (kk : sm_go E L Y d mc ms vs (pc + 3) lv (.ref (E.2.2.2.2.2.2.1 i) :: rest) m cells slots Q) : sm_go E L Y d mc ms vs pc lv (.ref (E.2.2.2.2.2.1 i) :: rest) m cells slots Q :=
  fun p e s x below meth c H locs ls hat hP hS hl => vk_getf hat.1 hat.2.1 (hat.2.2.2.2.2.2.2.2.2.1.2.2.2.2.1.1 i hi).2.2.1 hS hat.2.2.2.2.2.2.1 (hat.2.2.2.2.2.2.2.1 _ hlink) (fun _ h => h) hdec (kk p e s x below meth c H locs ls hat hP hS hl)
theorem sm_lenS {i : Nat} (hi : i < 6) (hdec : decode Y.2.1 pc = .ok (.arraylength, 1)) (kk : sm_go E L Y d mc ms vs (pc + 1) lv (.int (nI (sm_len.getD i 0)) :: rest) m cells slots Q) : sm_go E L Y d mc ms vs pc lv (.ref (E.2.2.2.2.2.2.1 i) :: rest) m cells slots Q :=
  fun p e s x below meth c H locs ls hat hP hS hl => va_tlen hat.1 hat.2.1 (hat.2.2.2.2.2.2.2.2.2.1.2.2.2.2.1.1 i hi).2.2.2 hS rfl hdec (kk p e s x below meth c H locs ls hat hP hS hl)
theorem sm_baldS {i : Nat} {j : Int32} (hi : i < 6) (hin : vp_in j (sm_len.getD i 0)) (hdec : decode Y.2.1 pc = .ok (.baload, 1)) (kk : sm_go E L Y d mc ms vs (pc + 1) lv (.int ((sm_byt.getD i []).getD j.toNatClampNeg 0) :: rest) m cells slots Q) : sm_go E L Y d mc ms vs pc lv (.int j :: .ref (E.2.2.2.2.2.2.1 i) :: rest) m cells slots Q :=
  fun p e s x below meth c H locs ls hat hP hS hl => va_tb hat.1 hat.2.1 (hat.2.2.2.2.2.2.2.2.2.1.2.2.2.2.1.1 i hi).2.2.2 hS hin rfl hdec (kk p e s x below meth c H locs ls hat hP hS hl)
/-- invokevirtual on one of the six texts -/
theorem sm_ivS {n idx i : Nat} {As : List Value} (hi : i < 6) (hm : sm_mi Y' "java/lang/String" n) (hlink : Cond.methodLink Y.1.cls idx Y'.1 ∈ sm_T) (hn : As.length = n) (hdd : d' + 1 ≤ d) (hw : (rest.map fun v => v.category).sum ≤ 8) (hf : cells + mc' ≤ mc ∧ slots + ms' ≤ ms) (hdec : decode Y.2.1 pc = .ok (.invokevirtual idx, 3))
    {st : List Value} (hst : st = As.reverse ++ .ref (E.2.2.2.2.2.1 i) :: rest)
    (hc : sm_call E L Y' d' mc' ms' (.ref (E.2.2.2.2.2.1 i) :: As) m (fun r m' => sm_go E L Y d mc ms vs (pc + 3) lv (r.toList ++ rest) m' (cells + mc') (slots + ms') Q)) : sm_go E L Y d mc ms vs pc lv st m cells slots Q := by
  intro p e s x below meth c H locs ls hat hP hS hl
  subst hst
  obtain ⟨hx, hb, hml, hr, hlk, hnm, hown, hts, hKK, hF, hB⟩ := id hat
  obtain ⟨m1, m2, m3, m4, m5, m6, m7⟩ := hm
  exact sm_after (va_runV (C := "java/lang/String") (As := As) (rest := rest) (Ts := sm_T) (nL := Y.2.2.1) ⟨hx, hb, hml, hown, hts⟩ hc ⟨sm_callB hts m1 (by rw [m5]; exact m4) hlink m6 m7 hdd, hts _ m2, hts _ m3⟩ ⟨sm_blind E L _ m, vk_recv hF.2.2.2.2.1 hi hS, sm_ready hat hP hS⟩ rfl hn hl.1 rfl (lv_room hw) hdec hf) hS (fun r m' H1 locs1 hq hp hs => hq p e s x below meth c H1 locs1 ls hat hp hs hl)
theorem sm_sld {i : Int32} (hin : vp_in i E.2.2.2.2.2.2.2.2.1) (hdec : decode Y.2.1 pc = .ok (.iaload, 1)) (kk : sm_go E L Y d mc ms vs (pc + 1) lv (.int (E.2.2.2.2.2.2.2.2.2 i.toNatClampNeg) :: rest) m cells slots Q) : sm_go E L Y d mc ms vs pc lv (.int i :: .ref E.2.2.2.2.2.2.2.1 :: rest) m cells slots Q :=
  fun p e s x below meth c H locs ls hat hP hS hl => va_sld hat.1 hat.2.1 hat.2.2.2.2.2.2.2.2.2.1.2.2.2.2.2.2.2.1 (Nat.lt_of_lt_of_le hat.2.2.2.2.2.2.2.2.2.1.2.2.2.2.2.2.2.2 hat.2.2.2.2.2.2.2.2.2.2) (Nat.not_le.mpr hat.2.2.2.2.2.2.2.2.2.1.2.2.2.2.2.2.2.2) hS hin hdec (kk p e s x below meth c H locs ls hat hP hS hl)
theorem sm_slen (hdec : decode Y.2.1 pc = .ok (.arraylength, 1)) (kk : sm_go E L Y d mc ms vs (pc + 1) lv (.int (nI E.2.2.2.2.2.2.2.2.1) :: rest) m cells slots Q) : sm_go E L Y d mc ms vs pc lv (.ref E.2.2.2.2.2.2.2.1 :: rest) m cells slots Q :=
  fun p e s x below meth c H locs ls hat hP hS hl => va_slen hat.1 hat.2.1 hat.2.2.2.2.2.2.2.2.2.1.2.2.2.2.2.2.2.1 (Nat.lt_of_lt_of_le hat.2.2.2.2.2.2.2.2.2.1.2.2.2.2.2.2.2.2 hat.2.2.2.2.2.2.2.2.2.2) (Nat.not_le.mpr hat.2.2.2.2.2.2.2.2.2.1.2.2.2.2.2.2.2.2) hS hdec (kk p e s x below meth c H locs ls hat hP hS hl)
end SMN
