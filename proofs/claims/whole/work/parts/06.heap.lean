theorem sm_inR (ws : List Cond) (ps : List Nat) (hp : ws = ps.filterMap (fun i => lw_tbl[i]?)) (h : ws.all goodWord = true) : ∀ w ∈ ws, w ∈ sm_T := by
  intro w hw
  have h1 := List.all_eq_true.mp h w hw
  rw [hp] at hw
  obtain ⟨i, -, hi⟩ := List.mem_filterMap.mp hw
  exact sm_in i hi h1
theorem sm_inT0 : ∀ w ∈ u_ws RX0 TX0 4, w ∈ sm_T := sm_inR _ [343, 345, 347, 349] (by decide +kernel) (by decide +kernel)
theorem sm_inT1 : ∀ w ∈ u_ws RX1 TX1 1, w ∈ sm_T := sm_inR _ [306] (by decide +kernel) (by decide +kernel)
theorem sm_inT2 : ∀ w ∈ u_ws RX2 TX2 16, w ∈ sm_T := sm_inR _ [264, 266, 268, 270, 272, 274, 276, 278, 280, 282, 284, 286, 288, 290, 292, 294] (by decide +kernel) (by decide +kernel)
theorem sm_inT3 : ∀ w ∈ u_ws RX4 TX4 5, w ∈ sm_T := sm_inR _ [189, 191, 193, 195, 197] (by decide +kernel) (by decide +kernel)
theorem sm_inT4 : ∀ w ∈ u_ws RX5 TX5 1, w ∈ sm_T := sm_inR _ [328] (by decide +kernel) (by decide +kernel)
theorem sm_inT5 : ∀ w ∈ u_ws RX7 TX7 5, w ∈ sm_T := sm_inR _ [369, 371, 373, 375, 377] (by decide +kernel) (by decide +kernel)
theorem sm_inT6 : ∀ w ∈ u_ws RX8 TX8 11, w ∈ sm_T := sm_inR _ [154, 156, 158, 160, 162, 164, 166, 168, 170, 172, 174] (by decide +kernel) (by decide +kernel)
theorem sm_inT7 : ∀ w ∈ u_ws RX9 TX9 8, w ∈ sm_T := sm_inR _ [220, 222, 224, 226, 228, 230, 232, 234] (by decide +kernel) (by decide +kernel)
theorem sm_inT8 : ∀ w ∈ u_ws RX10 TX10 1, w ∈ sm_T := sm_inR _ [317] (by decide +kernel) (by decide +kernel)
theorem sm_inT9 : ∀ w ∈ u_ws RX11 TX11 16, w ∈ sm_T := sm_inR _ [396, 398, 400, 402, 404, 406, 408, 410, 412, 414, 416, 418, 420, 422, 424, 426] (by decide +kernel) (by decide +kernel)
theorem sm_inT10 : ∀ w ∈ u_ws RX12 TX12 68, w ∈ sm_T := sm_inR _ [1227, 1229, 1231, 1233, 1235, 1237, 1239, 1241, 1243, 1245, 1247, 1249, 1251, 1253, 1255, 1257, 1259, 1261, 1263, 1265, 1267, 1269, 1271, 1273, 1275, 1277, 1279, 1281, 1283, 1285, 1287, 1289, 1291, 1293, 1295, 1297, 1299, 1301, 1303, 1305, 1307, 1309, 1311, 1313, 1315, 1317, 1319, 1321, 1323, 1325, 1327, 1329, 1331, 1333, 1335, 1337, 1339, 1341, 1343, 1345, 1347, 1349, 1351, 1353, 1355, 1357, 1359, 1361] (by decide +kernel) (by decide +kernel)
def sm_dv : Nat → Value
  | 1 => .long 0
  | 2 => .null
  | _ => .int 0
theorem sm_dvT0 : ∀ k, k < 4 → defaultValue (tyX0 k) = sm_dv ((sm_ft 0).getD k 0) := by decide +kernel
theorem sm_dvT1 : ∀ k, k < 1 → defaultValue (tyX1 k) = sm_dv ((sm_ft 1).getD k 0) := by decide +kernel
theorem sm_dvT2 : ∀ k, k < 16 → defaultValue (tyX2 k) = sm_dv ((sm_ft 2).getD k 0) := by decide +kernel
theorem sm_dvT3 : ∀ k, k < 5 → defaultValue (tyX4 k) = sm_dv ((sm_ft 3).getD k 0) := by decide +kernel
theorem sm_dvT4 : ∀ k, k < 1 → defaultValue (tyX5 k) = sm_dv ((sm_ft 4).getD k 0) := by decide +kernel
theorem sm_dvT5 : ∀ k, k < 5 → defaultValue (tyX7 k) = sm_dv ((sm_ft 5).getD k 0) := by decide +kernel
theorem sm_dvT6 : ∀ k, k < 11 → defaultValue (tyX8 k) = sm_dv ((sm_ft 6).getD k 0) := by decide +kernel
theorem sm_dvT7 : ∀ k, k < 8 → defaultValue (tyX9 k) = sm_dv ((sm_ft 7).getD k 0) := by decide +kernel
theorem sm_dvT8 : ∀ k, k < 1 → defaultValue (tyX10 k) = sm_dv ((sm_ft 8).getD k 0) := by decide +kernel
theorem sm_dvT9 : ∀ k, k < 16 → defaultValue (tyX11 k) = sm_dv ((sm_ft 9).getD k 0) := by decide +kernel
theorem sm_dvT10 : ∀ k, k < 68 → defaultValue (tyX12 k) = sm_dv ((sm_ft 10).getD k 0) := by decide +kernel
/-- what the tables say of the classes of the worlds -/
theorem sm_cls {ci : Nat} {C : String} {T : u_T} {N : Nat} (h : vwCl[ci]? = some (C, T, N)) : (∀ w ∈ u_ws C T N, w ∈ sm_T) ∧ (∃ ty : Nat → FieldType, (∀ k, k < N → parseFieldDescriptor (T k).2.2.1 = some (ty k)) ∧ ∀ k, k < N → defaultValue (ty k) = sm_dv ((sm_ft ci).getD k 0)) ∧ (∀ a, a < N → ∀ b, b < N → a ≠ b → (T a).2.1 ≠ (T b).2.1) := by
  match ci, h with
  | 0, h => cases h; exact ⟨sm_inT0, ⟨tyX0, tyX0_ok, sm_dvT0⟩, nmX0⟩
  | 1, h => cases h; exact ⟨sm_inT1, ⟨tyX1, tyX1_ok, sm_dvT1⟩, nmX1⟩
  | 2, h => cases h; exact ⟨sm_inT2, ⟨tyX2, tyX2_ok, sm_dvT2⟩, nmX2⟩
  | 3, h => cases h; exact ⟨sm_inT3, ⟨tyX4, tyX4_ok, sm_dvT3⟩, nmX4⟩
  | 4, h => cases h; exact ⟨sm_inT4, ⟨tyX5, tyX5_ok, sm_dvT4⟩, nmX5⟩
  | 5, h => cases h; exact ⟨sm_inT5, ⟨tyX7, tyX7_ok, sm_dvT5⟩, nmX7⟩
  | 6, h => cases h; exact ⟨sm_inT6, ⟨tyX8, tyX8_ok, sm_dvT6⟩, nmX8⟩
  | 7, h => cases h; exact ⟨sm_inT7, ⟨tyX9, tyX9_ok, sm_dvT7⟩, nmX9⟩
  | 8, h => cases h; exact ⟨sm_inT8, ⟨tyX10, tyX10_ok, sm_dvT8⟩, nmX10⟩
  | 9, h => cases h; exact ⟨sm_inT9, ⟨tyX11, tyX11_ok, sm_dvT9⟩, nmX11⟩
  | 10, h => cases h; exact ⟨sm_inT10, ⟨tyX12, tyX12_ok, sm_dvT10⟩, nmX12⟩
  | k + 11, h => simp [vwCl] at h
section SMH
variable {E : sm_E} {L : sm_S → Prop} {Y : sm_Y} {d mc ms : Nat} {vs : List Value} {pc : Nat} {lv : List (Nat × Value)} {rest : List Value} {m : sm_M} {cells slots : Nat} {Q : List Frame → State → State → Prop}
theorem sm_P.lt {H : Heap} {a k : Nat} (hP : sm_P E L m H) (ha : sm_K m.2.2 a = k) (hk : k < 100) : a < sm_top m.2.2 := hP.2.2.1 a (by rw [ha]; exact hk)
theorem sm_P.up {H H1 : Heap} {a : Nat} {m1 : sm_M} (hP : sm_P E L m H) (hlt : a < sm_top m.2.2) (e : va_at E.2.1 vwCl (sm_B E + a, sm_cell E m1 a) H1) (z : H1.size = H.size) (oq : ∀ q : Nat, q ≠ sm_B E + a → H1[q]? = H[q]?) (hL : L m1.2.2) (h1 : sm_K m1.2.2 = sm_K m.2.2) (h2 : sm_N m1.2.2 = sm_N m.2.2) (h3 : sm_top m1.2.2 = sm_top m.2.2) (ho : ∀ b, b ≠ a → m1.1 b = m.1 b ∧ m1.2.1 b = m.2.1 b ∧ m1.2.2.1 b = m.2.2.1 b) : sm_P E L m1 H1 := by
  refine ⟨fun k q hk => ?_, by rw [z, h3]; exact hP.2.1, fun b hb => by rw [h3]; exact hP.2.2.1 b (by rw [← h1]; exact hb), hL⟩
  obtain ⟨hk1, rfl⟩ := sm_ws_some hk
  by_cases hka : k = a
  · subst hka
    exact e
  · obtain ⟨o1, o2, o3⟩ := ho k hka
    rw [sm_cell_congr o1 o2 o3 (by rw [h1]) (by rw [h2])]
    exact (hP.1 k _ (sm_ws_get (by rw [← h3]; exact hk1))).kept (oq _ (fun h9 => hka (by have h8 : sm_B E + k = sm_B E + a := h9; omega)))
theorem sm_get0 {a k ci idx t : Nat} {C : String} {T : u_T} {N : Nat} (hK : L m.2.2 → sm_K m.2.2 a = ci) (hci : ci < 11) (hq : vwCl[ci]? = some (C, T, N)) (hk : k < N) (ht : (sm_ft ci)[k]? = some t) (hC : (T k).1 = C) (hlink : Cond.fieldLink Y.1.cls idx C (T k).2.1 (T k).2.2.1 ∈ sm_T) (hdec : decode Y.2.1 pc = .ok (.getfield idx, 3)) (kk : sm_go E L Y d mc ms vs (pc + 3) lv (sm_fv (sm_B E) m a k t :: rest) m cells slots Q) : sm_go E L Y d mc ms vs pc lv (.ref (sm_B E + a) :: rest) m cells slots Q := by
  intro p e s x below meth c H locs ls hat hP hS hl
  have ha := hK hP.2.2.2
  have hlt := hP.lt ha (by omega)
  obtain ⟨h1, -, -⟩ := sm_cls hq
  have he : (sm_ws E m)[a]? = some (sm_B E + a, .inr (ci, sm_fs (sm_B E) m a (sm_ft ci))) := by rw [sm_ws_get hlt, sm_cell_obj ha hci]
  exact va_get hat.1 hat.2.1 hat.2.2.2.2.2.2.2.1 h1 hat.2.2.2.2.2.2.1 hat.2.2.2.2.2.2.2.2.1 hP.1 a he hq k hk (hat.2.2.2.2.2.2.2.1 _ hlink) (fun _ h9 => by rw [hC] at h9; exact h9) (sm_fs_get ht) hdec (kk p e s x below meth c H locs ls hat hP hS hl)
theorem sm_getI {a k ci idx : Nat} {C : String} {T : u_T} {N : Nat} (hK : L m.2.2 → sm_K m.2.2 a = ci) (hci : ci < 11) (hq : vwCl[ci]? = some (C, T, N)) (hk : k < N) (ht : (sm_ft ci)[k]? = some 0) (hC : (T k).1 = C) (hlink : Cond.fieldLink Y.1.cls idx C (T k).2.1 (T k).2.2.1 ∈ sm_T) (hdec : decode Y.2.1 pc = .ok (.getfield idx, 3)) (kk : sm_go E L Y d mc ms vs (pc + 3) lv (.int (m.1 a k) :: rest) m cells slots Q) : sm_go E L Y d mc ms vs pc lv (.ref (sm_B E + a) :: rest) m cells slots Q := sm_get0 hK hci hq hk ht hC hlink hdec kk
theorem sm_getJ {a k ci idx : Nat} {C : String} {T : u_T} {N : Nat} (hK : L m.2.2 → sm_K m.2.2 a = ci) (hci : ci < 11) (hq : vwCl[ci]? = some (C, T, N)) (hk : k < N) (ht : (sm_ft ci)[k]? = some 1) (hC : (T k).1 = C) (hlink : Cond.fieldLink Y.1.cls idx C (T k).2.1 (T k).2.2.1 ∈ sm_T) (hdec : decode Y.2.1 pc = .ok (.getfield idx, 3)) (kk : sm_go E L Y d mc ms vs (pc + 3) lv (.long (m.2.1 a k) :: rest) m cells slots Q) : sm_go E L Y d mc ms vs pc lv (.ref (sm_B E + a) :: rest) m cells slots Q := sm_get0 hK hci hq hk ht hC hlink hdec kk
theorem sm_getR {a k ci idx b : Nat} {C : String} {T : u_T} {N : Nat} (hK : L m.2.2 → sm_K m.2.2 a = ci) (hR : L m.2.2 → m.2.2.1 a k = some b) (hci : ci < 11) (hq : vwCl[ci]? = some (C, T, N)) (hk : k < N) (ht : (sm_ft ci)[k]? = some 2) (hC : (T k).1 = C) (hlink : Cond.fieldLink Y.1.cls idx C (T k).2.1 (T k).2.2.1 ∈ sm_T) (hdec : decode Y.2.1 pc = .ok (.getfield idx, 3)) (kk : sm_go E L Y d mc ms vs (pc + 3) lv (.ref (sm_B E + b) :: rest) m cells slots Q) : sm_go E L Y d mc ms vs pc lv (.ref (sm_B E + a) :: rest) m cells slots Q := by
  intro p e s x below meth c H locs ls hat hP hS hl
  refine sm_get0 hK hci hq hk ht hC hlink hdec ?_ p e s x below meth c H locs ls hat hP hS hl
  show sm_go E L Y d mc ms vs (pc + 3) lv (va_rf (sm_rf (sm_B E) (m.2.2.1 a k)) :: rest) m cells slots Q
  rw [hR hP.2.2.2]
  exact kk
/-- a putfield, of any kind: the memory m1 differs at (a, k) alone -/
theorem sm_put0 {a k ci idx t : Nat} {C : String} {T : u_T} {N : Nat} {v : Value} {ty : FieldType} {m1 : sm_M} (hK : L m.2.2 → sm_K m.2.2 a = ci) (hci : ci < 11) (hq : vwCl[ci]? = some (C, T, N)) (hk : k < N) (ht : (sm_ft ci)[k]? = some t) (hC : (T k).1 = C) (hlink : Cond.fieldLink Y.1.cls idx C (T k).2.1 (T k).2.2.1 ∈ sm_T)
    (hfin : (T k).2.2.2 = false ∨ ((T k).2.2.2 = true ∧ Y.1.name = "<init>" ∧ C = Y.1.cls)) (hd : parseFieldDescriptor (T k).2.2.1 = some ty) (hn : narrow ty v = v) (hfit : fits ty v = true) (hL : L m.2.2 → L m1.2.2) (h1 : sm_K m1.2.2 = sm_K m.2.2) (h2 : sm_N m1.2.2 = sm_N m.2.2) (h3 : sm_top m1.2.2 = sm_top m.2.2) (ho : ∀ b, b ≠ a → m1.1 b = m.1 b ∧ m1.2.1 b = m.2.1 b ∧ m1.2.2.1 b = m.2.2.1 b) (hv : sm_fv (sm_B E) m1 a k t = v) (hj : ∀ j u, j ≠ k → (sm_ft ci)[j]? = some u → sm_fv (sm_B E) m1 a j u = sm_fv (sm_B E) m a j u)
    (hdec : decode Y.2.1 pc = .ok (.putfield idx, 3)) (kk : sm_go E L Y d mc ms vs (pc + 3) lv rest m1 cells slots Q) : sm_go E L Y d mc ms vs pc lv (v :: .ref (sm_B E + a) :: rest) m cells slots Q := by
  intro p e s x below meth c H locs ls hat hP hS hl
  have ha := hK hP.2.2.2
  have hlt := hP.lt ha (by omega)
  obtain ⟨c1, ⟨ty0, c2, -⟩, c3⟩ := sm_cls hq
  have he : (sm_ws E m)[a]? = some (sm_B E + a, .inr (ci, sm_fs (sm_B E) m a (sm_ft ci))) := by rw [sm_ws_get hlt, sm_cell_obj ha hci]
  have hlen : k < (sm_fs (sm_B E) m a (sm_ft ci)).length := by rw [sm_fs_len]; exact (List.getElem?_eq_some_iff.mp ht).1
  have key : sm_cell E m1 a = .inr (ci, (sm_fs (sm_B E) m a (sm_ft ci)).set k v) := by
    rw [sm_cell_obj (k := ci) (by rw [h1]; exact ha) hci, sm_fs_set ht hv hj]
  obtain ⟨hx, hb, hml, hr, hlk, hnm, hown, hts, hKK, hF, hB⟩ := id hat
  have hap := va_apart (own := Y.1.cls) hts c1 ty0 c2 c3 hKK hq
  obtain ⟨r, g1, cell, q1, q2, q3, q4⟩ := hP.1 a _ he
  have hr : r = (C, T, N) := Option.some.inj (g1.symm.trans hq)
  subst hr
  obtain ⟨hSS, hfc, kC, hkC, hkind⟩ := hKK.1 ci _ hq
  obtain ⟨cf, kf, fi, f, hi, hsl⟩ := hSS k hk
  have hst := (u_facts hfc hkC (u_lays hts c1 hk) hi).1
  have hlay := hts _ (c1 _ (u_in_lay hk))
  have fin : ∀ H1 : Heap, H1[sm_B E + a]? = some (cell.setSlot f.slot v) → H1.size = H.size → (∀ q, q ≠ sm_B E + a → H1[q]? = H[q]?) → W p E.1 e (sm_room d mc ms) s x vs.toArray below meth c H1 (locs ++ [⟨sm_B E + a, f.slot⟩]) cells slots (Q below s) (F0 x (pc + 3) ls rest) := by
    intro H1 e1 e2 e3
    rw [hsl] at e1
    refine kk p e s x below meth c H1 _ ls hat (hP.up hlt ?_ e2 e3 (hL hP.2.2.2) h1 h2 h3 ho) (hS.put e2 e3 (Nat.le_add_right _ _)) hl
    rw [key]
    exact ⟨_, hq, t_OB.to (V := updV (vp_V (sm_fs (sm_B E) m a (sm_ft ci))) k v) ⟨_, e1, q2, q3, t_set q4 hap hk v⟩ (fun j _ => vp_updV_set hlen v j)⟩
  rcases hfin with hfin | ⟨hfin, hin, hdecl⟩
  · unfold u_lay at hlay
    rw [if_neg (by rw [hfin]; decide)] at hlay
    have h6 := u_store hfc hkC hkind hlay hi hd hn hfit
    exact W.putK hx hb (f := f) ⟨hown, hts _ hlink, ⟨_, _, _, by rw [hC] at hi; exact hi⟩, hst⟩ (by rw [q2]; exact h6) q1 q3 (by rw [hsl]; exact k2_hasslot (q4 k hk)) rfl rfl hdec fin
  · unfold u_lay at hlay
    rw [if_pos hfin] at hlay
    have hcf : x.cls = cf := by
      obtain ⟨_, _, c', _, _, _, -, -, hf', -, -, -, hown2, -⟩ := Cond.laysFinal_spec hlay
      have e1 : c' = cf := by have := hi.symm.trans hf'; simp at this; exact this.1.symm
      rw [hC, hdecl] at hown2
      rw [← e1]; exact Option.some.inj (hown.symm.trans hown2)
    have h6 := u_fits hfc hkC hkind (Or.inr hlay) hi hd hn hfit
    exact W.putFinK hx hb hown (hts _ hlink) (by rw [hC] at hi; exact hi) hst hcf (hnm.trans hin) (by rw [q2]; exact h6) q1 q3 (by rw [hsl]; exact k2_hasslot (q4 k hk)) rfl rfl hdec fin
theorem sm_putI {a k ci idx : Nat} {C : String} {T : u_T} {N : Nat} {v : Int32} (hK : L m.2.2 → sm_K m.2.2 a = ci) (hci : ci < 11) (hq : vwCl[ci]? = some (C, T, N)) (hk : k < N) (ht : (sm_ft ci)[k]? = some 0) (hC : (T k).1 = C) (hlink : Cond.fieldLink Y.1.cls idx C (T k).2.1 (T k).2.2.1 ∈ sm_T) (hfin : (T k).2.2.2 = false) (hd : parseFieldDescriptor (T k).2.2.1 = some .int)
    (hdec : decode Y.2.1 pc = .ok (.putfield idx, 3)) (kk : ∀ m1, m1 = sm_wI m a k v → sm_go E L Y d mc ms vs (pc + 3) lv rest m1 cells slots Q) : sm_go E L Y d mc ms vs pc lv (.int v :: .ref (sm_B E + a) :: rest) m cells slots Q :=
  sm_put0 (m1 := sm_wI m a k v) hK hci hq hk ht hC hlink (Or.inl hfin) hd rfl rfl id rfl rfl rfl (fun b hb => ⟨sm_u_ne hb, rfl, rfl⟩) (by show Value.int (sm_u m.1 a k v a k) = _; simp [sm_u]) (fun j u hj _ => by
    unfold sm_fv
    split
    · rfl
    · rfl
    · show Value.int (sm_u m.1 a k v a j) = _; simp [sm_u, hj]) hdec (kk _ rfl)
theorem sm_putZ {a k ci idx : Nat} {C : String} {T : u_T} {N : Nat} {v : Int32} (hv : v = 0 ∨ v = 1) (hK : L m.2.2 → sm_K m.2.2 a = ci) (hci : ci < 11) (hq : vwCl[ci]? = some (C, T, N)) (hk : k < N) (ht : (sm_ft ci)[k]? = some 0) (hC : (T k).1 = C) (hlink : Cond.fieldLink Y.1.cls idx C (T k).2.1 (T k).2.2.1 ∈ sm_T) (hfin : (T k).2.2.2 = false) (hd : parseFieldDescriptor (T k).2.2.1 = some .boolean)
    (hdec : decode Y.2.1 pc = .ok (.putfield idx, 3)) (kk : ∀ m1, m1 = sm_wI m a k v → sm_go E L Y d mc ms vs (pc + 3) lv rest m1 cells slots Q) : sm_go E L Y d mc ms vs pc lv (.int v :: .ref (sm_B E + a) :: rest) m cells slots Q :=
  sm_put0 (m1 := sm_wI m a k v) hK hci hq hk ht hC hlink (Or.inl hfin) hd (by rcases hv with rfl | rfl <;> rfl) (by rcases hv with rfl | rfl <;> rfl) id rfl rfl rfl (fun b hb => ⟨sm_u_ne hb, rfl, rfl⟩) (by show Value.int (sm_u m.1 a k v a k) = _; simp [sm_u]) (fun j u hj _ => by
    unfold sm_fv
    split
    · rfl
    · rfl
    · show Value.int (sm_u m.1 a k v a j) = _; simp [sm_u, hj]) hdec (kk _ rfl)
theorem sm_putJ {a k ci idx : Nat} {C : String} {T : u_T} {N : Nat} {v : Int64} (hK : L m.2.2 → sm_K m.2.2 a = ci) (hci : ci < 11) (hq : vwCl[ci]? = some (C, T, N)) (hk : k < N) (ht : (sm_ft ci)[k]? = some 1) (hC : (T k).1 = C) (hlink : Cond.fieldLink Y.1.cls idx C (T k).2.1 (T k).2.2.1 ∈ sm_T) (hfin : (T k).2.2.2 = false) (hd : parseFieldDescriptor (T k).2.2.1 = some .long)
    (hdec : decode Y.2.1 pc = .ok (.putfield idx, 3)) (kk : ∀ m1, m1 = sm_wJ m a k v → sm_go E L Y d mc ms vs (pc + 3) lv rest m1 cells slots Q) : sm_go E L Y d mc ms vs pc lv (.long v :: .ref (sm_B E + a) :: rest) m cells slots Q :=
  sm_put0 (m1 := sm_wJ m a k v) hK hci hq hk ht hC hlink (Or.inl hfin) hd rfl rfl id rfl rfl rfl (fun b hb => ⟨rfl, sm_u_ne hb, rfl⟩) (by show Value.long (sm_u m.2.1 a k v a k) = _; simp [sm_u]) (fun j u hj _ => by
    unfold sm_fv
    split
    · show Value.long (sm_u m.2.1 a k v a j) = _; simp [sm_u, hj]
    · rfl
    · rfl) hdec (kk _ rfl)
/-- a final field of a constructor's own object, a reference -/
theorem sm_putR {a k ci idx b : Nat} {C : String} {T : u_T} {N : Nat} {ty : FieldType} (hty : (∃ n, ty = .object n) ∨ ∃ t, ty = .array t) (hK : L m.2.2 → sm_K m.2.2 a = ci) (hci : ci < 11) (hq : vwCl[ci]? = some (C, T, N)) (hk : k < N) (ht : (sm_ft ci)[k]? = some 2) (hC : (T k).1 = C) (hlink : Cond.fieldLink Y.1.cls idx C (T k).2.1 (T k).2.2.1 ∈ sm_T) (hfin : (T k).2.2.2 = true) (hin : Y.1.name = "<init>") (hCY : C = Y.1.cls) (hd : parseFieldDescriptor (T k).2.2.1 = some ty) (hL : L m.2.2 → L (sm_wR m a k (some b)).2.2)
    (hdec : decode Y.2.1 pc = .ok (.putfield idx, 3)) (kk : ∀ m1, m1 = sm_wR m a k (some b) → sm_go E L Y d mc ms vs (pc + 3) lv rest m1 cells slots Q) : sm_go E L Y d mc ms vs pc lv (.ref (sm_B E + b) :: .ref (sm_B E + a) :: rest) m cells slots Q :=
  sm_put0 (m1 := sm_wR m a k (some b)) hK hci hq hk ht hC hlink (Or.inr ⟨hfin, hin, hCY⟩) hd (by rcases hty with ⟨n, rfl⟩ | ⟨t, rfl⟩ <;> rfl) (by rcases hty with ⟨n, rfl⟩ | ⟨t, rfl⟩ <;> rfl) hL rfl rfl rfl (fun c hc => ⟨rfl, rfl, sm_u_ne hc⟩) (by show va_rf (sm_rf (sm_B E) (sm_u m.2.2.1 a k (some b) a k)) = _; simp [sm_u, sm_rf, va_rf]) (fun j u hj _ => by
    unfold sm_fv
    split
    · rfl
    · show va_rf (sm_rf (sm_B E) (sm_u m.2.2.1 a k (some b) a j)) = _; simp [sm_u, hj]
    · rfl) hdec (kk _ rfl)
end SMH
