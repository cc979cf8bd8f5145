section SMA
variable {E : sm_E} {L : sm_S → Prop} {Y : sm_Y} {d mc ms : Nat} {vs : List Value} {pc : Nat} {lv : List (Nat × Value)} {rest : List Value} {m : sm_M} {cells slots : Nat} {Q : List Frame → State → State → Prop}
theorem sm_P.arr {H : Heap} {a : Nat} {cA : ClassId} {x : vp_A} (hP : sm_P E L m H) (hlt : a < sm_top m.2.2) (h : sm_cell E m a = .inl (cA, x)) : H[sm_B E + a]? = some (vp_cell cA x) := by
  have h1 := hP.1 a _ (sm_ws_get hlt)
  rw [h] at h1
  exact h1
theorem sm_P.obj {H : Heap} {a k : Nat} (hP : sm_P E L m H) (hlt : a < sm_top m.2.2) (ha : sm_K m.2.2 a = k) (hk : k < 11) : va_at E.2.1 vwCl (sm_B E + a, .inr (k, sm_fs (sm_B E) m a (sm_ft k))) H := by
  have h1 := hP.1 a _ (sm_ws_get hlt)
  rw [sm_cell_obj ha hk] at h1
  exact h1
theorem sm_iald {a n : Nat} {i : Int32} (hA : L m.2.2 → sm_K m.2.2 a = 11 ∧ sm_N m.2.2 a = n) (hin : vp_in i n) (hdec : decode Y.2.1 pc = .ok (.iaload, 1)) (kk : sm_go E L Y d mc ms vs (pc + 1) lv (.int (m.1 a i.toNatClampNeg) :: rest) m cells slots Q) : sm_go E L Y d mc ms vs pc lv (.int i :: .ref (sm_B E + a) :: rest) m cells slots Q := by
  intro p e s x below meth c H locs ls hat hP hS hl
  obtain ⟨ha, hn⟩ := hA hP.2.2.2
  have hlt := hP.lt ha (by decide)
  subst hn
  exact va_iald hat.1 hat.2.1 hat.2.2.2.2.2.2.2.2.1 hP.1 a 0 (by rw [sm_ws_get hlt, sm_cell_I ha]) rfl hin hdec (kk p e s x below meth c H locs ls hat hP hS hl)
theorem sm_zald {a n : Nat} {i : Int32} (hA : L m.2.2 → sm_K m.2.2 a = 13 ∧ sm_N m.2.2 a = n) (hin : vp_in i n) (hdec : decode Y.2.1 pc = .ok (.baload, 1)) (kk : sm_go E L Y d mc ms vs (pc + 1) lv (.int (m.1 a i.toNatClampNeg) :: rest) m cells slots Q) : sm_go E L Y d mc ms vs pc lv (.int i :: .ref (sm_B E + a) :: rest) m cells slots Q := by
  intro p e s x below meth c H locs ls hat hP hS hl
  obtain ⟨ha, hn⟩ := hA hP.2.2.2
  have hlt := hP.lt ha (by decide)
  subst hn
  exact va_zald hat.1 hat.2.1 hat.2.2.2.2.2.2.2.2.1 hP.1 a 2 (by rw [sm_ws_get hlt, sm_cell_Z ha]) rfl hin hdec (kk p e s x below meth c H locs ls hat hP hS hl)
theorem sm_lald {a n : Nat} {i : Int32} (hA : L m.2.2 → sm_K m.2.2 a = 12 ∧ sm_N m.2.2 a = n) (hin : vp_in i n) (hdec : decode Y.2.1 pc = .ok (.laload, 1)) (kk : sm_go E L Y d mc ms vs (pc + 1) lv (.long (m.2.1 a i.toNatClampNeg) :: rest) m cells slots Q) : sm_go E L Y d mc ms vs pc lv (.int i :: .ref (sm_B E + a) :: rest) m cells slots Q := by
  intro p e s x below meth c H locs ls hat hP hS hl
  obtain ⟨ha, hn⟩ := hA hP.2.2.2
  have hlt := hP.lt ha (by decide)
  subst hn
  exact va_lald hat.1 hat.2.1 hat.2.2.2.2.2.2.2.2.1 hP.1 a 1 (by rw [sm_ws_get hlt, sm_cell_J ha]) rfl hin hdec (kk p e s x below meth c H locs ls hat hP hS hl)
theorem sm_aaldS0 {a n : Nat} {i : Int32} (hA : L m.2.2 → sm_K m.2.2 a = 14 ∧ sm_N m.2.2 a = n) (hin : vp_in i n) (hdec : decode Y.2.1 pc = .ok (.aaload, 1)) (kk : sm_go E L Y d mc ms vs (pc + 1) lv (va_rf (sm_rf (sm_B E) (m.2.2.1 a i.toNatClampNeg)) :: rest) m cells slots Q) : sm_go E L Y d mc ms vs pc lv (.int i :: .ref (sm_B E + a) :: rest) m cells slots Q := by
  intro p e s x below meth c H locs ls hat hP hS hl
  obtain ⟨ha, hn⟩ := hA hP.2.2.2
  have hlt := hP.lt ha (by decide)
  subst hn
  have hi : i.toNatClampNeg < sm_N m.2.2 a := Nat.not_le.mp fun q => hin (Or.inr q)
  have hc : H[sm_B E + a]? = some (vp_cell (E.2.2.1 3) (sm_N m.2.2 a, .inr (.inr (.inr (.inr (fun i => sm_rf (sm_B E) (m.2.2.1 a i))))))) := hP.arr hlt (sm_cell_S ha)
  exact W.aald (ty := .object RX7) hat.1 hat.2.1 hc ((hat.2.2.2.2.2.2.2.2.1.2 3 _ rfl).1 _ (fun j => va_rf (sm_rf (sm_B E) (m.2.2.1 a j)))) rfl (fun q => by cases q) (by show ¬ (i < 0 ∨ (arrV _ _ _).slots.size ≤ _); rw [arrV_size]; exact hin) (by show (arrV _ _ _).slots[_]? = _; rw [arrV_read _ _ hi]) rfl rfl hdec (kk p e s x below meth c H locs ls hat hP hS hl)
theorem sm_aaldS {a n b : Nat} {i : Int32} (hA : L m.2.2 → sm_K m.2.2 a = 14 ∧ sm_N m.2.2 a = n) (hin : vp_in i n) (hR : L m.2.2 → m.2.2.1 a i.toNatClampNeg = some b) (hdec : decode Y.2.1 pc = .ok (.aaload, 1)) (kk : sm_go E L Y d mc ms vs (pc + 1) lv (.ref (sm_B E + b) :: rest) m cells slots Q) : sm_go E L Y d mc ms vs pc lv (.int i :: .ref (sm_B E + a) :: rest) m cells slots Q := by
  intro p e s x below meth c H locs ls hat hP hS hl
  refine sm_aaldS0 hA hin hdec ?_ p e s x below meth c H locs ls hat hP hS hl
  rw [hR hP.2.2.2]
  exact kk
theorem sm_aaldG0 {a n : Nat} {i : Int32} (hA : L m.2.2 → sm_K m.2.2 a = 15 ∧ sm_N m.2.2 a = n) (hin : vp_in i n) (hdec : decode Y.2.1 pc = .ok (.aaload, 1)) (kk : sm_go E L Y d mc ms vs (pc + 1) lv (va_rf (sm_rf (sm_B E) (m.2.2.1 a i.toNatClampNeg)) :: rest) m cells slots Q) : sm_go E L Y d mc ms vs pc lv (.int i :: .ref (sm_B E + a) :: rest) m cells slots Q := by
  intro p e s x below meth c H locs ls hat hP hS hl
  obtain ⟨ha, hn⟩ := hA hP.2.2.2
  have hlt := hP.lt ha (by decide)
  subst hn
  have hi : i.toNatClampNeg < sm_N m.2.2 a := Nat.not_le.mp fun q => hin (Or.inr q)
  have hc : H[sm_B E + a]? = some (vp_cell (E.2.2.1 4) (sm_N m.2.2 a, .inr (.inr (.inr (.inr (fun i => sm_rf (sm_B E) (m.2.2.1 a i))))))) := hP.arr hlt (sm_cell_G ha)
  exact W.aald (ty := .object RX8) hat.1 hat.2.1 hc ((hat.2.2.2.2.2.2.2.2.1.2 4 _ rfl).1 _ (fun j => va_rf (sm_rf (sm_B E) (m.2.2.1 a j)))) rfl (fun q => by cases q) (by show ¬ (i < 0 ∨ (arrV _ _ _).slots.size ≤ _); rw [arrV_size]; exact hin) (by show (arrV _ _ _).slots[_]? = _; rw [arrV_read _ _ hi]) rfl rfl hdec (kk p e s x below meth c H locs ls hat hP hS hl)
theorem sm_aaldG {a n b : Nat} {i : Int32} (hA : L m.2.2 → sm_K m.2.2 a = 15 ∧ sm_N m.2.2 a = n) (hin : vp_in i n) (hR : L m.2.2 → m.2.2.1 a i.toNatClampNeg = some b) (hdec : decode Y.2.1 pc = .ok (.aaload, 1)) (kk : sm_go E L Y d mc ms vs (pc + 1) lv (.ref (sm_B E + b) :: rest) m cells slots Q) : sm_go E L Y d mc ms vs pc lv (.int i :: .ref (sm_B E + a) :: rest) m cells slots Q := by
  intro p e s x below meth c H locs ls hat hP hS hl
  refine sm_aaldG0 hA hin hdec ?_ p e s x below meth c H locs ls hat hP hS hl
  rw [hR hP.2.2.2]
  exact kk
theorem sm_aaldA0 {a n : Nat} {i : Int32} (hA : L m.2.2 → sm_K m.2.2 a = 16 ∧ sm_N m.2.2 a = n) (hin : vp_in i n) (hdec : decode Y.2.1 pc = .ok (.aaload, 1)) (kk : sm_go E L Y d mc ms vs (pc + 1) lv (va_rf (sm_rf (sm_B E) (m.2.2.1 a i.toNatClampNeg)) :: rest) m cells slots Q) : sm_go E L Y d mc ms vs pc lv (.int i :: .ref (sm_B E + a) :: rest) m cells slots Q := by
  intro p e s x below meth c H locs ls hat hP hS hl
  obtain ⟨ha, hn⟩ := hA hP.2.2.2
  have hlt := hP.lt ha (by decide)
  subst hn
  have hi : i.toNatClampNeg < sm_N m.2.2 a := Nat.not_le.mp fun q => hin (Or.inr q)
  have hc : H[sm_B E + a]? = some (vp_cell (E.2.2.1 5) (sm_N m.2.2 a, .inr (.inr (.inr (.inr (fun i => sm_rf (sm_B E) (m.2.2.1 a i))))))) := hP.arr hlt (sm_cell_A ha)
  exact W.aald (ty := .array .int) hat.1 hat.2.1 hc ((hat.2.2.2.2.2.2.2.2.1.2 5 _ rfl).1 _ (fun j => va_rf (sm_rf (sm_B E) (m.2.2.1 a j)))) rfl (fun q => by cases q) (by show ¬ (i < 0 ∨ (arrV _ _ _).slots.size ≤ _); rw [arrV_size]; exact hin) (by show (arrV _ _ _).slots[_]? = _; rw [arrV_read _ _ hi]) rfl rfl hdec (kk p e s x below meth c H locs ls hat hP hS hl)
theorem sm_aaldA {a n b : Nat} {i : Int32} (hA : L m.2.2 → sm_K m.2.2 a = 16 ∧ sm_N m.2.2 a = n) (hin : vp_in i n) (hR : L m.2.2 → m.2.2.1 a i.toNatClampNeg = some b) (hdec : decode Y.2.1 pc = .ok (.aaload, 1)) (kk : sm_go E L Y d mc ms vs (pc + 1) lv (.ref (sm_B E + b) :: rest) m cells slots Q) : sm_go E L Y d mc ms vs pc lv (.int i :: .ref (sm_B E + a) :: rest) m cells slots Q := by
  intro p e s x below meth c H locs ls hat hP hS hl
  refine sm_aaldA0 hA hin hdec ?_ p e s x below meth c H locs ls hat hP hS hl
  rw [hR hP.2.2.2]
  exact kk
theorem sm_iast {a n : Nat} {i : Int32} {v : Int32} (hA : L m.2.2 → sm_K m.2.2 a = 11 ∧ sm_N m.2.2 a = n) (hin : vp_in i n) (hdec : decode Y.2.1 pc = .ok (.iastore, 1)) (kk : ∀ m1, m1 = sm_wI m a i.toNatClampNeg v → sm_go E L Y d mc ms vs (pc + 1) lv rest m1 cells slots Q) : sm_go E L Y d mc ms vs pc lv (.int v :: .int i :: .ref (sm_B E + a) :: rest) m cells slots Q := by
  intro p e s x below meth c H locs ls hat hP hS hl
  obtain ⟨ha, hn⟩ := hA hP.2.2.2
  have hlt := hP.lt ha (by decide)
  subst hn
  have hc : H[sm_B E + a]? = some (vp_cell (E.2.2.1 0) (sm_N m.2.2 a, .inl (m.1 a))) := hP.arr hlt (sm_cell_I ha)
  refine W.iast hat.1 hat.2.1 hc ((hat.2.2.2.2.2.2.2.2.1.2 0 _ rfl).1 _ (fun j => .int (m.1 a j))) (fun q => by cases q) (by show ¬ (i < 0 ∨ (arrV _ _ _).slots.size ≤ _); rw [arrV_size]; exact hin) rfl rfl hdec fun H1 e1 z oq => ?_
  refine kk _ rfl p e s x below meth c H1 _ ls hat (hP.up (m1 := sm_wI m a i.toNatClampNeg v) hlt ?_ z oq hP.2.2.2 rfl rfl rfl (fun b hb => ⟨sm_u_ne hb, rfl, rfl⟩)) (hS.put z oq (Nat.le_add_right _ _)) hl
  rw [sm_cell_I (show sm_K (sm_wI m a i.toNatClampNeg v).2.2 a = 11 from ha)]
  show H1[sm_B E + a]? = some (vp_cell _ _)
  rw [e1, vp_cell_i, vp_cell_i, arrV_store]
  congr 2
  funext q
  by_cases hq : q = i.toNatClampNeg
  · subst hq
    simp [updV, sm_wI, sm_u]
  · simp [updV, sm_wI, sm_u, hq]
theorem sm_last {a n : Nat} {i : Int32} {v : Int64} (hA : L m.2.2 → sm_K m.2.2 a = 12 ∧ sm_N m.2.2 a = n) (hin : vp_in i n) (hdec : decode Y.2.1 pc = .ok (.lastore, 1)) (kk : ∀ m1, m1 = sm_wJ m a i.toNatClampNeg v → sm_go E L Y d mc ms vs (pc + 1) lv rest m1 cells slots Q) : sm_go E L Y d mc ms vs pc lv (.long v :: .int i :: .ref (sm_B E + a) :: rest) m cells slots Q := by
  intro p e s x below meth c H locs ls hat hP hS hl
  obtain ⟨ha, hn⟩ := hA hP.2.2.2
  have hlt := hP.lt ha (by decide)
  subst hn
  have hc : H[sm_B E + a]? = some (vp_cell (E.2.2.1 1) (sm_N m.2.2 a, .inr (.inl (m.2.1 a)))) := hP.arr hlt (sm_cell_J ha)
  refine W.last hat.1 hat.2.1 hc ((hat.2.2.2.2.2.2.2.2.1.2 1 _ rfl).1 _ (fun j => .long (m.2.1 a j))) (fun q => by cases q) (by show ¬ (i < 0 ∨ (arrV _ _ _).slots.size ≤ _); rw [arrV_size]; exact hin) rfl rfl hdec fun H1 e1 z oq => ?_
  refine kk _ rfl p e s x below meth c H1 _ ls hat (hP.up (m1 := sm_wJ m a i.toNatClampNeg v) hlt ?_ z oq hP.2.2.2 rfl rfl rfl (fun b hb => ⟨rfl, sm_u_ne hb, rfl⟩)) (hS.put z oq (Nat.le_add_right _ _)) hl
  rw [sm_cell_J (show sm_K (sm_wJ m a i.toNatClampNeg v).2.2 a = 12 from ha)]
  show H1[sm_B E + a]? = some (vp_cell _ _)
  rw [e1, vp_cell_l, vp_cell_l, arrV_store]
  congr 2
  funext q
  by_cases hq : q = i.toNatClampNeg
  · subst hq
    simp [updV, sm_wJ, sm_u]
  · simp [updV, sm_wJ, sm_u, hq]
theorem sm_zast {a n : Nat} {i : Int32} {v : Int32} (hA : L m.2.2 → sm_K m.2.2 a = 13 ∧ sm_N m.2.2 a = n) (hin : vp_in i n) (hv : v = 0 ∨ v = 1) (hdec : decode Y.2.1 pc = .ok (.bastore, 1)) (kk : ∀ m1, m1 = sm_wI m a i.toNatClampNeg v → sm_go E L Y d mc ms vs (pc + 1) lv rest m1 cells slots Q) : sm_go E L Y d mc ms vs pc lv (.int v :: .int i :: .ref (sm_B E + a) :: rest) m cells slots Q := by
  intro p e s x below meth c H locs ls hat hP hS hl
  obtain ⟨ha, hn⟩ := hA hP.2.2.2
  have hlt := hP.lt ha (by decide)
  subst hn
  have hc : H[sm_B E + a]? = some (vp_cell (E.2.2.1 2) (sm_N m.2.2 a, .inl (m.1 a))) := hP.arr hlt (sm_cell_Z ha)
  refine W.zast hat.1 hat.2.1 hc ((hat.2.2.2.2.2.2.2.2.1.2 2 _ rfl).1 _ (fun j => .int (m.1 a j))) (fun q => by cases q) (by show ¬ (i < 0 ∨ (arrV _ _ _).slots.size ≤ _); rw [arrV_size]; exact hin) rfl rfl hdec fun H1 e1 z oq => ?_
  refine kk _ rfl p e s x below meth c H1 _ ls hat (hP.up (m1 := sm_wI m a i.toNatClampNeg v) hlt ?_ z oq hP.2.2.2 rfl rfl rfl (fun b hb => ⟨sm_u_ne hb, rfl, rfl⟩)) (hS.put z oq (Nat.le_add_right _ _)) hl
  rw [sm_cell_Z (show sm_K (sm_wI m a i.toNatClampNeg v).2.2 a = 13 from ha)]
  show H1[sm_B E + a]? = some (vp_cell _ _)
  have hnv : narrow .boolean (.int v) = .int v := by rcases hv with rfl | rfl <;> rfl
  rw [e1, vp_cell_i, vp_cell_i, hnv, arrV_store]
  congr 2
  funext q
  by_cases hq : q = i.toNatClampNeg
  · subst hq
    simp [updV, sm_wI, sm_u]
  · simp [updV, sm_wI, sm_u, hq]
theorem sm_alenI {a n : Nat} (hA : L m.2.2 → sm_K m.2.2 a = 11 ∧ sm_N m.2.2 a = n) (hdec : decode Y.2.1 pc = .ok (.arraylength, 1)) (kk : sm_go E L Y d mc ms vs (pc + 1) lv (.int (nI n) :: rest) m cells slots Q) : sm_go E L Y d mc ms vs pc lv (.ref (sm_B E + a) :: rest) m cells slots Q := by
  intro p e s x below meth c H locs ls hat hP hS hl
  obtain ⟨ha, hn⟩ := hA hP.2.2.2
  have hlt := hP.lt ha (by decide)
  subst hn
  exact va_alen (x := (sm_N m.2.2 a, .inl (m.1 a))) hat.1 hat.2.1 hat.2.2.2.2.2.2.2.2.1 hP.1 a 0 (by rw [sm_ws_get hlt, sm_cell_I ha]) rfl rfl hdec (kk p e s x below meth c H locs ls hat hP hS hl)
theorem sm_alenJ {a n : Nat} (hA : L m.2.2 → sm_K m.2.2 a = 12 ∧ sm_N m.2.2 a = n) (hdec : decode Y.2.1 pc = .ok (.arraylength, 1)) (kk : sm_go E L Y d mc ms vs (pc + 1) lv (.int (nI n) :: rest) m cells slots Q) : sm_go E L Y d mc ms vs pc lv (.ref (sm_B E + a) :: rest) m cells slots Q := by
  intro p e s x below meth c H locs ls hat hP hS hl
  obtain ⟨ha, hn⟩ := hA hP.2.2.2
  have hlt := hP.lt ha (by decide)
  subst hn
  exact va_alen (x := (sm_N m.2.2 a, .inr (.inl (m.2.1 a)))) hat.1 hat.2.1 hat.2.2.2.2.2.2.2.2.1 hP.1 a 1 (by rw [sm_ws_get hlt, sm_cell_J ha]) rfl rfl hdec (kk p e s x below meth c H locs ls hat hP hS hl)
theorem sm_alenA {a n : Nat} (hA : L m.2.2 → sm_K m.2.2 a = 16 ∧ sm_N m.2.2 a = n) (hdec : decode Y.2.1 pc = .ok (.arraylength, 1)) (kk : sm_go E L Y d mc ms vs (pc + 1) lv (.int (nI n) :: rest) m cells slots Q) : sm_go E L Y d mc ms vs pc lv (.ref (sm_B E + a) :: rest) m cells slots Q := by
  intro p e s x below meth c H locs ls hat hP hS hl
  obtain ⟨ha, hn⟩ := hA hP.2.2.2
  have hlt := hP.lt ha (by decide)
  subst hn
  exact va_alen (x := (sm_N m.2.2 a, .inr (.inr (.inr (.inr (fun i => sm_rf (sm_B E) (m.2.2.1 a i))))))) hat.1 hat.2.1 hat.2.2.2.2.2.2.2.2.1 hP.1 a 5 (by rw [sm_ws_get hlt, sm_cell_A ha]) rfl rfl hdec (kk p e s x below meth c H locs ls hat hP hS hl)
theorem sm_aastS {a n b : Nat} {i : Int32} (hA : L m.2.2 → sm_K m.2.2 a = 14 ∧ sm_N m.2.2 a = n) (hin : vp_in i n) (hb : L m.2.2 → sm_K m.2.2 b = 5) (hL : L m.2.2 → L (sm_wR m a i.toNatClampNeg (some b)).2.2) (hdec : decode Y.2.1 pc = .ok (.aastore, 1)) (kk : ∀ m1, m1 = sm_wR m a i.toNatClampNeg (some b) → sm_go E L Y d mc ms vs (pc + 1) lv rest m1 cells slots Q) : sm_go E L Y d mc ms vs pc lv (.ref (sm_B E + b) :: .int i :: .ref (sm_B E + a) :: rest) m cells slots Q := by
  intro p e s x below meth c H locs ls hat hP hS hl
  obtain ⟨ha, hn⟩ := hA hP.2.2.2
  have hlt := hP.lt ha (by decide)
  subst hn
  have hkb := hb hP.2.2.2
  have hltb := hP.lt hkb (by decide)
  have hi : i.toNatClampNeg < sm_N m.2.2 a := Nat.not_le.mp fun q => hin (Or.inr q)
  have h0 : ¬ i < 0 := fun q => hin (Or.inl q)
  have hc : H[sm_B E + a]? = some (vp_cell (E.2.2.1 3) (sm_N m.2.2 a, .inr (.inr (.inr (.inr (fun i => sm_rf (sm_B E) (m.2.2.1 a i))))))) := hP.arr hlt (sm_cell_S ha)
  obtain ⟨r', hr', cellV, g1, g2, g3, -⟩ := hP.obj hltb hkb (by decide)
  have hKK := hat.2.2.2.2.2.2.2.2.1
  have hcls := (hKK.1 5 _ rfl).2
  obtain ⟨k, comp, k1, k2, k3, k4⟩ := (hKK.2 3 _ rfl).2
  have hcomp : comp = E.2.1.1 5 := Option.some.inj (k3.symm.trans hcls.1)
  subst hcomp
  obtain ⟨kC, hkC, -⟩ := id hcls.2
  refine W.aast hat.1 hat.2.1 hc (fun q h => by cases h) (fun h => by cases h) k1 k2 rfl hkC ⟨h0, by show _ < (arrV _ _ _).slots.size; rw [arrV_size]; exact hi⟩ g1 (fun q h => by rw [g3] at h; cases h) (by rw [g2]; exact hkC) (by rw [g2]; exact va_assign hcls) rfl rfl hdec fun H1 e1 z oq => ?_
  refine kk _ rfl p e s x below meth c H1 _ ls hat (hP.up (m1 := sm_wR m a i.toNatClampNeg (some b)) hlt ?_ z oq (hL hP.2.2.2) rfl rfl rfl (fun b hb => ⟨rfl, rfl, sm_u_ne hb⟩)) (hS.put z oq (Nat.le_add_right _ _)) hl
  rw [sm_cell_S (show sm_K (sm_wR m a i.toNatClampNeg (some b)).2.2 a = 14 from ha)]
  show H1[sm_B E + a]? = some (vp_cell _ _)
  rw [e1, vp_cell_q, vp_cell_q, arrV_store]
  congr 2
  funext q
  by_cases hq : q = i.toNatClampNeg
  · subst hq
    simp [updV, sm_wR, sm_u, va_rf, sm_rf]
  · simp [updV, sm_wR, sm_u, hq]
theorem sm_aastG {a n b : Nat} {i : Int32} (hA : L m.2.2 → sm_K m.2.2 a = 15 ∧ sm_N m.2.2 a = n) (hin : vp_in i n) (hb : L m.2.2 → sm_K m.2.2 b = 6) (hL : L m.2.2 → L (sm_wR m a i.toNatClampNeg (some b)).2.2) (hdec : decode Y.2.1 pc = .ok (.aastore, 1)) (kk : ∀ m1, m1 = sm_wR m a i.toNatClampNeg (some b) → sm_go E L Y d mc ms vs (pc + 1) lv rest m1 cells slots Q) : sm_go E L Y d mc ms vs pc lv (.ref (sm_B E + b) :: .int i :: .ref (sm_B E + a) :: rest) m cells slots Q := by
  intro p e s x below meth c H locs ls hat hP hS hl
  obtain ⟨ha, hn⟩ := hA hP.2.2.2
  have hlt := hP.lt ha (by decide)
  subst hn
  have hkb := hb hP.2.2.2
  have hltb := hP.lt hkb (by decide)
  have hi : i.toNatClampNeg < sm_N m.2.2 a := Nat.not_le.mp fun q => hin (Or.inr q)
  have h0 : ¬ i < 0 := fun q => hin (Or.inl q)
  have hc : H[sm_B E + a]? = some (vp_cell (E.2.2.1 4) (sm_N m.2.2 a, .inr (.inr (.inr (.inr (fun i => sm_rf (sm_B E) (m.2.2.1 a i))))))) := hP.arr hlt (sm_cell_G ha)
  obtain ⟨r', hr', cellV, g1, g2, g3, -⟩ := hP.obj hltb hkb (by decide)
  have hKK := hat.2.2.2.2.2.2.2.2.1
  have hcls := (hKK.1 6 _ rfl).2
  obtain ⟨k, comp, k1, k2, k3, k4⟩ := (hKK.2 4 _ rfl).2
  have hcomp : comp = E.2.1.1 6 := Option.some.inj (k3.symm.trans hcls.1)
  subst hcomp
  obtain ⟨kC, hkC, -⟩ := id hcls.2
  refine W.aast hat.1 hat.2.1 hc (fun q h => by cases h) (fun h => by cases h) k1 k2 rfl hkC ⟨h0, by show _ < (arrV _ _ _).slots.size; rw [arrV_size]; exact hi⟩ g1 (fun q h => by rw [g3] at h; cases h) (by rw [g2]; exact hkC) (by rw [g2]; exact va_assign hcls) rfl rfl hdec fun H1 e1 z oq => ?_
  refine kk _ rfl p e s x below meth c H1 _ ls hat (hP.up (m1 := sm_wR m a i.toNatClampNeg (some b)) hlt ?_ z oq (hL hP.2.2.2) rfl rfl rfl (fun b hb => ⟨rfl, rfl, sm_u_ne hb⟩)) (hS.put z oq (Nat.le_add_right _ _)) hl
  rw [sm_cell_G (show sm_K (sm_wR m a i.toNatClampNeg (some b)).2.2 a = 15 from ha)]
  show H1[sm_B E + a]? = some (vp_cell _ _)
  rw [e1, vp_cell_q, vp_cell_q, arrV_store]
  congr 2
  funext q
  by_cases hq : q = i.toNatClampNeg
  · subst hq
    simp [updV, sm_wR, sm_u, va_rf, sm_rf]
  · simp [updV, sm_wR, sm_u, hq]
theorem sm_aastA {a n b : Nat} {i : Int32} (hA : L m.2.2 → sm_K m.2.2 a = 16 ∧ sm_N m.2.2 a = n) (hin : vp_in i n) (hb : L m.2.2 → sm_K m.2.2 b = 11) (hL : L m.2.2 → L (sm_wR m a i.toNatClampNeg (some b)).2.2) (hdec : decode Y.2.1 pc = .ok (.aastore, 1)) (kk : ∀ m1, m1 = sm_wR m a i.toNatClampNeg (some b) → sm_go E L Y d mc ms vs (pc + 1) lv rest m1 cells slots Q) : sm_go E L Y d mc ms vs pc lv (.ref (sm_B E + b) :: .int i :: .ref (sm_B E + a) :: rest) m cells slots Q := by
  intro p e s x below meth c H locs ls hat hP hS hl
  obtain ⟨ha, hn⟩ := hA hP.2.2.2
  have hlt := hP.lt ha (by decide)
  subst hn
  have hkb := hb hP.2.2.2
  have hltb := hP.lt hkb (by decide)
  have hi : i.toNatClampNeg < sm_N m.2.2 a := Nat.not_le.mp fun q => hin (Or.inr q)
  have h0 : ¬ i < 0 := fun q => hin (Or.inl q)
  have hc : H[sm_B E + a]? = some (vp_cell (E.2.2.1 5) (sm_N m.2.2 a, .inr (.inr (.inr (.inr (fun i => sm_rf (sm_B E) (m.2.2.1 a i))))))) := hP.arr hlt (sm_cell_A ha)
  have hcb : H[sm_B E + b]? = some (vp_cell (E.2.2.1 0) (sm_N m.2.2 b, .inl (m.1 b))) := hP.arr hltb (sm_cell_I hkb)
  obtain ⟨k, k1, k2⟩ := hat.2.2.2.2.2.2.2.2.2.1.2.2.2.2.2.2.1.1
  obtain ⟨-, kC, hkC, -⟩ := (hat.2.2.2.2.2.2.2.2.1.2 0 _ rfl).1 0 (fun _ => .null)
  refine W.aast hat.1 hat.2.1 hc (fun q h => by cases h) (fun h => by cases h) k1 k2 rfl hkC ⟨h0, by show _ < (arrV _ _ _).slots.size; rw [arrV_size]; exact hi⟩ hcb (fun q h => by cases h) hkC (va_asg _ _) rfl rfl hdec fun H1 e1 z oq => ?_
  refine kk _ rfl p e s x below meth c H1 _ ls hat (hP.up (m1 := sm_wR m a i.toNatClampNeg (some b)) hlt ?_ z oq (hL hP.2.2.2) rfl rfl rfl (fun b hb => ⟨rfl, rfl, sm_u_ne hb⟩)) (hS.put z oq (Nat.le_add_right _ _)) hl
  rw [sm_cell_A (show sm_K (sm_wR m a i.toNatClampNeg (some b)).2.2 a = 16 from ha)]
  show H1[sm_B E + a]? = some (vp_cell _ _)
  rw [e1, vp_cell_q, vp_cell_q, arrV_store]
  congr 2
  funext q
  by_cases hq : q = i.toNatClampNeg
  · subst hq
    simp [updV, sm_wR, sm_u, va_rf, sm_rf]
  · simp [updV, sm_wR, sm_u, hq]
theorem sm_nw_ne {k n b : Nat} (h : b ≠ sm_top m.2.2) : (sm_nw m k n).1 b = m.1 b ∧ (sm_nw m k n).2.1 b = m.2.1 b ∧ (sm_nw m k n).2.2.1 b = m.2.2.1 b ∧ sm_K (sm_nw m k n).2.2 b = sm_K m.2.2 b ∧ sm_N (sm_nw m k n).2.2 b = sm_N m.2.2 b := by
  simp [sm_nw, h, sm_K, sm_N]
theorem sm_nw_at {k n : Nat} : (sm_nw m k n).1 (sm_top m.2.2) = (fun _ => 0) ∧ (sm_nw m k n).2.1 (sm_top m.2.2) = (fun _ => 0) ∧ (sm_nw m k n).2.2.1 (sm_top m.2.2) = (fun _ => none) ∧ sm_K (sm_nw m k n).2.2 (sm_top m.2.2) = k ∧ sm_N (sm_nw m k n).2.2 (sm_top m.2.2) = n := by
  simp [sm_nw, sm_K, sm_N]
theorem sm_P.push {H H1 : Heap} {k n : Nat} (hP : sm_P E L m H) (e : va_at E.2.1 vwCl (sm_B E + sm_top m.2.2, sm_cell E (sm_nw m k n) (sm_top m.2.2)) H1) (z : H1.size = H.size + 1) (oq : ∀ q : Nat, q < H.size → H1[q]? = H[q]?) (hL : L (sm_nw m k n).2.2) : sm_P E L (sm_nw m k n) H1 := by
  refine ⟨fun j q hj => ?_, by rw [z, hP.2.1]; rfl, fun b hb => ?_, hL⟩
  · obtain ⟨hj1, rfl⟩ := sm_ws_some hj
    have hj2 : j < sm_top m.2.2 + 1 := hj1
    by_cases hja : j = sm_top m.2.2
    · subst hja
      exact e
    · obtain ⟨o1, o2, o3, o4, o5⟩ := sm_nw_ne (m := m) (k := k) (n := n) hja
      rw [sm_cell_congr o1 o2 o3 o4 o5]
      have h9 := hP.1 j _ (sm_ws_get (by omega))
      exact h9.kept (oq _ h9.lt)
  · show b < sm_top m.2.2 + 1
    by_cases hb1 : b = sm_top m.2.2
    · omega
    · have := hP.2.2.1 b (by rw [← (sm_nw_ne (m := m) (k := k) (n := n) hb1).2.2.2.1]; exact hb)
      omega
theorem sm_S.push {H H1 : Heap} {s : State} {locs : List Loc} (hS : va_S (sm_A E) s.heap H locs) (z : H1.size = H.size + 1) (oq : ∀ q : Nat, q < H.size → H1[q]? = H[q]?) : va_S (sm_A E) s.heap H1 locs := ⟨Nat.le_trans hS.1 (by omega), fun q h1 h2 => (oq q (Nat.lt_of_lt_of_le h1 hS.1)).trans (hS.2.1 q h1 h2), hS.2.2⟩
theorem sm_new {ci idx : Nat} {C : String} {T : u_T} {N : Nat} (hci : ci < 11) (hq : vwCl[ci]? = some (C, T, N)) (hlen : (sm_ft ci).length = N) (hcl : Cond.classLink Y.1.cls idx C ∈ sm_T) (hinst : Cond.instantiable C N ∈ sm_T) (hini : Cond.initialized C ∈ sm_T) (hL : L m.2.2 → L (sm_nw m ci 0).2.2) (hc : cells + 1 ≤ mc) (hs : slots + N ≤ ms) (hdec : decode Y.2.1 pc = .ok (.new idx, 3)) (kk : ∀ m1, m1 = sm_nw m ci 0 → sm_go E L Y d mc ms vs (pc + 3) lv (.ref (sm_B E + sm_top m.2.2) :: rest) m1 (cells + 1) (slots + N) Q) : sm_go E L Y d mc ms vs pc lv rest m cells slots Q := by
  intro p e s x below meth c H locs ls hat hP hS hl
  obtain ⟨hx, hb, hml, hr, hlk, hnm, hown, hts, hKK, hF, hB⟩ := id hat
  obtain ⟨c1, ⟨ty0, c2, c4⟩, c3⟩ := sm_cls hq
  have hKn := hKK.1 ci _ hq
  refine W.newcK hx hb hown (hts _ hcl) (hts _ hinst) (hts _ hini) rfl hdec hc hs hKn.2.1 hP.2.1 fun H1 kC hkC e1 z1 o1 => ?_
  rw [← hP.2.1] at z1 o1
  refine kk _ rfl p e s x below meth c H1 _ ls hat (hP.push ?_ z1 o1 (hL hP.2.2.2)) (sm_S.push hS z1 o1) hl
  obtain ⟨n1, n2, n3, n4, n5⟩ := sm_nw_at (m := m) (k := ci) (n := 0)
  rw [sm_cell_obj n4 hci]
  refine ⟨_, hq, (u_born ty0 hts c1 hKn hkC e1 c2).to (fun j hj => ?_)⟩
  show defaultValue (ty0 j) = vp_V _ j
  rw [c4 j hj]
  have hj2 : j < (sm_ft ci).length := by rw [hlen]; exact hj
  show sm_dv _ = (sm_fs (sm_B E) (sm_nw m ci 0) (sm_top m.2.2) (sm_ft ci)).getD j Value.null
  rw [List.getD_eq_getElem?_getD (l := sm_fs _ _ _ _), sm_fs_get (List.getElem?_eq_getElem hj2), List.getD_eq_getElem?_getD, List.getElem?_eq_getElem hj2]
  simp only [Option.getD_some]
  generalize (sm_ft ci)[j] = t
  unfold sm_fv sm_dv
  rw [n1, n2, n3]
  match t with
  | 0 => rfl
  | 1 => rfl
  | 2 => rfl
  | _ + 3 => rfl
theorem sm_newI {n : Int32} {N : Nat} (harr : Cond.arrayClass .int ∈ sm_T) (hn : ¬ n < 0) (hN : n.toNatClampNeg = N) (hb2 : N * 4 ≤ 536870912) (hL : L m.2.2 → L (sm_nw m 11 N).2.2) (hc : cells + 1 ≤ mc) (hs : slots + N ≤ ms) (hdec : decode Y.2.1 pc = .ok (.newarray .int, 2)) (kk : ∀ m1, m1 = sm_nw m 11 N → sm_go E L Y d mc ms vs (pc + 2) lv (.ref (sm_B E + sm_top m.2.2) :: rest) m1 (cells + 1) (slots + N) Q) : sm_go E L Y d mc ms vs pc lv (.int n :: rest) m cells slots Q := by
  intro p e s x below meth c H locs ls hat hP hS hl
  obtain ⟨hx, hb, hml, hr, hlk, hnm, hown, hts, hKK, hF, hB⟩ := id hat
  refine va_newaK (atype := .int) hx hb (hts _ harr) rfl hdec rfl hn hN hb2 hc hs hP.2.1 fun H1 cA e1 z1 o1 hAr hNm => ?_
  have hcA : cA = E.2.2.1 0 := Option.some.inj (hNm.symm.trans (hKK.2 0 _ rfl).2)
  subst hcA
  rw [← hP.2.1] at z1 o1
  refine kk _ rfl p e s x below meth c H1 _ ls hat (hP.push ?_ z1 o1 (hL hP.2.2.2)) (sm_S.push hS z1 o1) hl
  obtain ⟨n1, n2, n3, n4, n5⟩ := sm_nw_at (m := m) (k := 11) (n := N)
  rw [sm_cell_I n4, n5, n1]
  exact e1
theorem sm_newJ {n : Int32} {N : Nat} (harr : Cond.arrayClass .long ∈ sm_T) (hn : ¬ n < 0) (hN : n.toNatClampNeg = N) (hb2 : N * 8 ≤ 536870912) (hL : L m.2.2 → L (sm_nw m 12 N).2.2) (hc : cells + 1 ≤ mc) (hs : slots + N ≤ ms) (hdec : decode Y.2.1 pc = .ok (.newarray .long, 2)) (kk : ∀ m1, m1 = sm_nw m 12 N → sm_go E L Y d mc ms vs (pc + 2) lv (.ref (sm_B E + sm_top m.2.2) :: rest) m1 (cells + 1) (slots + N) Q) : sm_go E L Y d mc ms vs pc lv (.int n :: rest) m cells slots Q := by
  intro p e s x below meth c H locs ls hat hP hS hl
  obtain ⟨hx, hb, hml, hr, hlk, hnm, hown, hts, hKK, hF, hB⟩ := id hat
  refine va_newaK (atype := .long) hx hb (hts _ harr) rfl hdec rfl hn hN hb2 hc hs hP.2.1 fun H1 cA e1 z1 o1 hAr hNm => ?_
  have hcA : cA = E.2.2.1 1 := Option.some.inj (hNm.symm.trans (hKK.2 1 _ rfl).2)
  subst hcA
  rw [← hP.2.1] at z1 o1
  refine kk _ rfl p e s x below meth c H1 _ ls hat (hP.push ?_ z1 o1 (hL hP.2.2.2)) (sm_S.push hS z1 o1) hl
  obtain ⟨n1, n2, n3, n4, n5⟩ := sm_nw_at (m := m) (k := 12) (n := N)
  rw [sm_cell_J n4, n5, n2]
  exact e1
theorem sm_newZ {n : Int32} {N : Nat} (harr : Cond.arrayClass .boolean ∈ sm_T) (hn : ¬ n < 0) (hN : n.toNatClampNeg = N) (hb2 : N * 1 ≤ 536870912) (hL : L m.2.2 → L (sm_nw m 13 N).2.2) (hc : cells + 1 ≤ mc) (hs : slots + N ≤ ms) (hdec : decode Y.2.1 pc = .ok (.newarray .boolean, 2)) (kk : ∀ m1, m1 = sm_nw m 13 N → sm_go E L Y d mc ms vs (pc + 2) lv (.ref (sm_B E + sm_top m.2.2) :: rest) m1 (cells + 1) (slots + N) Q) : sm_go E L Y d mc ms vs pc lv (.int n :: rest) m cells slots Q := by
  intro p e s x below meth c H locs ls hat hP hS hl
  obtain ⟨hx, hb, hml, hr, hlk, hnm, hown, hts, hKK, hF, hB⟩ := id hat
  refine va_newaK (atype := .boolean) hx hb (hts _ harr) rfl hdec rfl hn hN hb2 hc hs hP.2.1 fun H1 cA e1 z1 o1 hAr hNm => ?_
  have hcA : cA = E.2.2.1 2 := Option.some.inj (hNm.symm.trans (hKK.2 2 _ rfl).2)
  subst hcA
  rw [← hP.2.1] at z1 o1
  refine kk _ rfl p e s x below meth c H1 _ ls hat (hP.push ?_ z1 o1 (hL hP.2.2.2)) (sm_S.push hS z1 o1) hl
  obtain ⟨n1, n2, n3, n4, n5⟩ := sm_nw_at (m := m) (k := 13) (n := N)
  rw [sm_cell_Z n4, n5, n1]
  exact e1
theorem sm_newS {n : Int32} {N idx : Nat} (hcl : Cond.classLink Y.1.cls idx RX7 ∈ sm_T) (hn : ¬ n < 0) (hN : n.toNatClampNeg = N) (hb2 : N * 4 ≤ 536870912) (hL : L m.2.2 → L (sm_nw m 14 N).2.2) (hc : cells + 1 ≤ mc) (hs : slots + N ≤ ms) (hdec : decode Y.2.1 pc = .ok (.anewarray idx, 3)) (kk : ∀ m1, m1 = sm_nw m 14 N → sm_go E L Y d mc ms vs (pc + 3) lv (.ref (sm_B E + sm_top m.2.2) :: rest) m1 (cells + 1) (slots + N) Q) : sm_go E L Y d mc ms vs pc lv (.int n :: rest) m cells slots Q := by
  intro p e s x below meth c H locs ls hat hP hS hl
  obtain ⟨hx, hb, hml, hr, hlk, hnm, hown, hts, hKK, hF, hB⟩ := id hat
  subst hN
  refine W.anew hx hb hown (hts _ hcl) (hF.2.2.2.2.2.2.1.2.2.1) rfl hdec rfl hn hb2 hc hs fun cA kA comp f1 f2 f3 f4 => ?_
  obtain ⟨k, comp2, k1, k2, k3, k4⟩ := (hKK.2 3 _ rfl).2
  have hcA : cA = E.2.2.1 3 := Option.some.inj (f1.symm.trans k4)
  subst hcA
  generalize hH1 : H.push ({ cls := E.2.2.1 3, slots := Array.replicate n.toNatClampNeg .null, vm := .none } : Cell) = H1
  have z1 : H1.size = H.size + 1 := by rw [← hH1, Array.size_push]
  have e1 : H1[H.size]? = some (arrV (E.2.2.1 3) n.toNatClampNeg (fun _ => .null)) := by rw [← hH1, Array.getElem?_push_size, ← arrV_new]
  have o1 : ∀ q : Nat, q < H.size → H1[q]? = H[q]? := fun q hq => by rw [← hH1, Array.getElem?_push, if_neg (Nat.ne_of_lt hq)]
  have hsz := hP.2.1
  obtain ⟨n1, n2, n3, n4, n5⟩ := sm_nw_at (m := m) (k := 14) (n := n.toNatClampNeg)
  have h9 := kk _ rfl p e s x below meth c H1 locs ls hat (hP.push (by
    rw [sm_cell_S n4, n5, n3]
    show H1[_]? = some (vp_cell _ _)
    rw [vp_cell_q, ← hsz]
    exact e1) z1 o1 (hL hP.2.2.2)) (sm_S.push hS z1 o1) hl
  rw [hsz]
  exact h9
theorem sm_newG {n : Int32} {N idx : Nat} (hcl : Cond.classLink Y.1.cls idx RX8 ∈ sm_T) (hn : ¬ n < 0) (hN : n.toNatClampNeg = N) (hb2 : N * 4 ≤ 536870912) (hL : L m.2.2 → L (sm_nw m 15 N).2.2) (hc : cells + 1 ≤ mc) (hs : slots + N ≤ ms) (hdec : decode Y.2.1 pc = .ok (.anewarray idx, 3)) (kk : ∀ m1, m1 = sm_nw m 15 N → sm_go E L Y d mc ms vs (pc + 3) lv (.ref (sm_B E + sm_top m.2.2) :: rest) m1 (cells + 1) (slots + N) Q) : sm_go E L Y d mc ms vs pc lv (.int n :: rest) m cells slots Q := by
  intro p e s x below meth c H locs ls hat hP hS hl
  obtain ⟨hx, hb, hml, hr, hlk, hnm, hown, hts, hKK, hF, hB⟩ := id hat
  subst hN
  refine W.anew hx hb hown (hts _ hcl) (hF.2.2.2.2.2.2.1.2.2.2.1) rfl hdec rfl hn hb2 hc hs fun cA kA comp f1 f2 f3 f4 => ?_
  obtain ⟨k, comp2, k1, k2, k3, k4⟩ := (hKK.2 4 _ rfl).2
  have hcA : cA = E.2.2.1 4 := Option.some.inj (f1.symm.trans k4)
  subst hcA
  generalize hH1 : H.push ({ cls := E.2.2.1 4, slots := Array.replicate n.toNatClampNeg .null, vm := .none } : Cell) = H1
  have z1 : H1.size = H.size + 1 := by rw [← hH1, Array.size_push]
  have e1 : H1[H.size]? = some (arrV (E.2.2.1 4) n.toNatClampNeg (fun _ => .null)) := by rw [← hH1, Array.getElem?_push_size, ← arrV_new]
  have o1 : ∀ q : Nat, q < H.size → H1[q]? = H[q]? := fun q hq => by rw [← hH1, Array.getElem?_push, if_neg (Nat.ne_of_lt hq)]
  have hsz := hP.2.1
  obtain ⟨n1, n2, n3, n4, n5⟩ := sm_nw_at (m := m) (k := 15) (n := n.toNatClampNeg)
  have h9 := kk _ rfl p e s x below meth c H1 locs ls hat (hP.push (by
    rw [sm_cell_G n4, n5, n3]
    show H1[_]? = some (vp_cell _ _)
    rw [vp_cell_q, ← hsz]
    exact e1) z1 o1 (hL hP.2.2.2)) (sm_S.push hS z1 o1) hl
  rw [hsz]
  exact h9
theorem sm_newA {n : Int32} {N idx : Nat} (hcl : Cond.classLink Y.1.cls idx "[I" ∈ sm_T) (hn : ¬ n < 0) (hN : n.toNatClampNeg = N) (hb2 : N * 4 ≤ 536870912) (hL : L m.2.2 → L (sm_nw m 16 N).2.2) (hc : cells + 1 ≤ mc) (hs : slots + N ≤ ms) (hdec : decode Y.2.1 pc = .ok (.anewarray idx, 3)) (kk : ∀ m1, m1 = sm_nw m 16 N → sm_go E L Y d mc ms vs (pc + 3) lv (.ref (sm_B E + sm_top m.2.2) :: rest) m1 (cells + 1) (slots + N) Q) : sm_go E L Y d mc ms vs pc lv (.int n :: rest) m cells slots Q := by
  intro p e s x below meth c H locs ls hat hP hS hl
  obtain ⟨hx, hb, hml, hr, hlk, hnm, hown, hts, hKK, hF, hB⟩ := id hat
  subst hN
  have hs0 : (FieldType.array .int).toString = "[I" := by decide +kernel
  refine W.anewA (t := .int) hx hb hown (by rw [hs0]; exact hts _ hcl) (over_moved (Vm.Alike.refl s.vm) hF.2.2.2.2.2.2.1.2.2.2.2.1) rfl hdec rfl hn hb2 hc hs fun cA kA comp f1 f2 f3 f4 => ?_
  have k4 := (hKK.2 5 _ rfl).2
  have hcA : cA = E.2.2.1 5 := Option.some.inj (f1.symm.trans k4)
  subst hcA
  generalize hH1 : H.push ({ cls := E.2.2.1 5, slots := Array.replicate n.toNatClampNeg .null, vm := .none } : Cell) = H1
  have z1 : H1.size = H.size + 1 := by rw [← hH1, Array.size_push]
  have e1 : H1[H.size]? = some (arrV (E.2.2.1 5) n.toNatClampNeg (fun _ => .null)) := by rw [← hH1, Array.getElem?_push_size, ← arrV_new]
  have o1 : ∀ q : Nat, q < H.size → H1[q]? = H[q]? := fun q hq => by rw [← hH1, Array.getElem?_push, if_neg (Nat.ne_of_lt hq)]
  have hsz := hP.2.1
  obtain ⟨n1, n2, n3, n4, n5⟩ := sm_nw_at (m := m) (k := 16) (n := n.toNatClampNeg)
  have h9 := kk _ rfl p e s x below meth c H1 locs ls hat (hP.push (by
    rw [sm_cell_A n4, n5, n3]
    show H1[_]? = some (vp_cell _ _)
    rw [vp_cell_q, ← hsz]
    exact e1) z1 o1 (hL hP.2.2.2)) (sm_S.push hS z1 o1) hl
  rw [hsz]
  exact h9
end SMA
