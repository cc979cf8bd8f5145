theorem dX1_init_0 : decode cX1_init 0 = .ok (.aload_n 0, 1) := dk_aload_n_0 (by decide +kernel)
theorem wRX1_3 : Cond.methodLink RX1 3 Lib.objectInit ∈ sm_T := sm_in 302 (by decide +kernel) (by decide +kernel)
theorem dX1_init_1 : decode cX1_init 1 = .ok (.invokespecial 3, 3) := dk_invokespecial 3 (b1 := 0) (b2 := 3) (by decide +kernel) (by decide +kernel) (by decide +kernel) (by decide +kernel)
theorem dX1_init_4 : decode cX1_init 4 = .ok (.aload_n 0, 1) := dk_aload_n_0 (by decide +kernel)
theorem dX1_init_5 : decode cX1_init 5 = .ok (.bipush 24, 2) := dk_bipush 24 (b := 24) (by decide +kernel) (by decide +kernel) (by decide +kernel)
theorem dX1_init_7 : decode cX1_init 7 = .ok (.bipush 48, 2) := dk_bipush 48 (b := 48) (by decide +kernel) (by decide +kernel) (by decide +kernel)
theorem wRX1_11 : Cond.classLink RX1 11 "[[I" ∈ sm_T := sm_in 303 (by decide +kernel) (by decide +kernel)
theorem dX1_init_9 : decode cX1_init 9 = .ok (.multianewarray 11 2, 4) := by decide +kernel
theorem dX1_init_13 : decode cX1_init 13 = .ok (.putfield 13, 3) := dk_putfield 13 (b1 := 0) (b2 := 13) (by decide +kernel) (by decide +kernel) (by decide +kernel) (by decide +kernel)
theorem dX1_init_16 : decode cX1_init 16 = .ok (.return_, 1) := dk_return_ (by decide +kernel)
set_option maxRecDepth 20000 in
theorem vX1_init_0 {E : sm_E} {d : Nat} {a0 : Nat} {m : sm_M} {Q : sm_M → Prop} (hd : 1 ≤ d)
  (h : ∀ m_1 : sm_M, m_1 = sm_nwm m 24 48 →
   (sm_K m_1.2.2 a0 = 1) ∧ ∀ m_2 : sm_M, m_2 = sm_wR m_1 a0 0 (some (sm_top m.2.2)) →
   Q m_2) :
  sm_callV E sm_L0 mX1_init d 25 1176 [.ref (sm_B E + a0)] m Q := by
  refine sm_enter (by decide +kernel) (by simp [lg_sl, Value.category]) ?_
  refine sm_aload_n (Y := mX1_init) (pc := 0) 0 0 rfl rfl dX1_init_0 ?_
  refine sm_obj (Y := mX1_init) (pc := 1) wRX1_3 (Nat.le_trans (by decide) hd) (Nat.le_of_ble_eq_true rfl) dX1_init_1 ?_
  refine sm_aload_n (Y := mX1_init) (pc := 4) 0 0 rfl rfl dX1_init_4 ?_
  refine sm_bipush (Y := mX1_init) (pc := 5) 24 (by decide) dX1_init_5 ?_
  refine sm_bipush (Y := mX1_init) (pc := 7) 48 (by decide) dX1_init_7 ?_
  refine sm_mna (Y := mX1_init) (pc := 9) (N := 24) (K := 48) wRX1_11 wa_int (by decide) (by decide) rfl rfl (Nat.le_of_ble_eq_true rfl) (Nat.le_of_ble_eq_true rfl) (Nat.le_of_ble_eq_true rfl) (Nat.le_of_ble_eq_true rfl) dX1_init_9 (fun m_1 em_1 => ?_)
  replace h := h m_1 em_1
  obtain ⟨hn_3, h⟩ := h
  refine sm_putR (Y := mX1_init) (pc := 13) (k := 0) (b := (sm_top m.2.2)) (ty := (.array (.array .int))) (Or.inr ⟨_, rfl⟩) (fun _ => hn_3) (by decide) rfl (by decide) rfl rfl wRX1_13 rfl rfl rfl (by decide +kernel) (fun _ => trivial) dX1_init_13 (fun m_2 em_2 => ?_)
  replace h := h m_2 em_2
  refine sm_widen (k := 25) (n := 1176) (Nat.le_of_ble_eq_true rfl) (Nat.le_of_ble_eq_true rfl) ?_
  exact sm_vret (Y := mX1_init) (pc := 16) rfl rfl rfl dX1_init_16 ⟨rfl, h⟩
theorem dX10_init_0 : decode cX10_init 0 = .ok (.aload_n 0, 1) := dk_aload_n_0 (by decide +kernel)
theorem wRX10_3 : Cond.methodLink RX10 3 Lib.objectInit ∈ sm_T := sm_in 314 (by decide +kernel) (by decide +kernel)
theorem dX10_init_1 : decode cX10_init 1 = .ok (.invokespecial 3, 3) := dk_invokespecial 3 (b1 := 0) (b2 := 3) (by decide +kernel) (by decide +kernel) (by decide +kernel) (by decide +kernel)
theorem dX10_init_4 : decode cX10_init 4 = .ok (.aload_n 0, 1) := dk_aload_n_0 (by decide +kernel)
theorem dX10_init_5 : decode cX10_init 5 = .ok (.bipush 13, 2) := dk_bipush 13 (b := 13) (by decide +kernel) (by decide +kernel) (by decide +kernel)
theorem dX10_init_7 : decode cX10_init 7 = .ok (.bipush 12, 2) := dk_bipush 12 (b := 12) (by decide +kernel) (by decide +kernel) (by decide +kernel)
theorem wRX10_9 : Cond.classLink RX10 9 "[[I" ∈ sm_T := sm_in 315 (by decide +kernel) (by decide +kernel)
theorem dX10_init_9 : decode cX10_init 9 = .ok (.multianewarray 9 2, 4) := by decide +kernel
theorem dX10_init_13 : decode cX10_init 13 = .ok (.putfield 11, 3) := dk_putfield 11 (b1 := 0) (b2 := 11) (by decide +kernel) (by decide +kernel) (by decide +kernel) (by decide +kernel)
theorem dX10_init_16 : decode cX10_init 16 = .ok (.return_, 1) := dk_return_ (by decide +kernel)
set_option maxRecDepth 20000 in
theorem vX10_init_0 {E : sm_E} {d : Nat} {a0 : Nat} {m : sm_M} {Q : sm_M → Prop} (hd : 1 ≤ d)
  (h : ∀ m_1 : sm_M, m_1 = sm_nwm m 13 12 →
   (sm_K m_1.2.2 a0 = 8) ∧ ∀ m_2 : sm_M, m_2 = sm_wR m_1 a0 0 (some (sm_top m.2.2)) →
   Q m_2) :
  sm_callV E sm_L0 mX10_init d 14 169 [.ref (sm_B E + a0)] m Q := by
  refine sm_enter (by decide +kernel) (by simp [lg_sl, Value.category]) ?_
  refine sm_aload_n (Y := mX10_init) (pc := 0) 0 0 rfl rfl dX10_init_0 ?_
  refine sm_obj (Y := mX10_init) (pc := 1) wRX10_3 (Nat.le_trans (by decide) hd) (Nat.le_of_ble_eq_true rfl) dX10_init_1 ?_
  refine sm_aload_n (Y := mX10_init) (pc := 4) 0 0 rfl rfl dX10_init_4 ?_
  refine sm_bipush (Y := mX10_init) (pc := 5) 13 (by decide) dX10_init_5 ?_
  refine sm_bipush (Y := mX10_init) (pc := 7) 12 (by decide) dX10_init_7 ?_
  refine sm_mna (Y := mX10_init) (pc := 9) (N := 13) (K := 12) wRX10_9 wa_int (by decide) (by decide) rfl rfl (Nat.le_of_ble_eq_true rfl) (Nat.le_of_ble_eq_true rfl) (Nat.le_of_ble_eq_true rfl) (Nat.le_of_ble_eq_true rfl) dX10_init_9 (fun m_1 em_1 => ?_)
  replace h := h m_1 em_1
  obtain ⟨hn_3, h⟩ := h
  refine sm_putR (Y := mX10_init) (pc := 13) (k := 0) (b := (sm_top m.2.2)) (ty := (.array (.array .int))) (Or.inr ⟨_, rfl⟩) (fun _ => hn_3) (by decide) rfl (by decide) rfl rfl wRX10_11 rfl rfl rfl (by decide +kernel) (fun _ => trivial) dX10_init_13 (fun m_2 em_2 => ?_)
  replace h := h m_2 em_2
  refine sm_widen (k := 14) (n := 169) (Nat.le_of_ble_eq_true rfl) (Nat.le_of_ble_eq_true rfl) ?_
  exact sm_vret (Y := mX10_init) (pc := 16) rfl rfl rfl dX10_init_16 ⟨rfl, h⟩
