abbrev sm_L0 : sm_S → Prop := fun _ => True
abbrev mX8_init : sm_Y := (yX8_init, cX8_init, 2, none)
theorem fX8_init : sm_mn mX8_init 1 := ⟨sm_in 115 (by decide +kernel) (by decide +kernel), rfl, rfl, sm_in 114 (by decide +kernel) (by decide +kernel), sm_in 83 (by decide +kernel) (by decide +kernel), ⟨by decide +kernel, by decide +kernel, by decide +kernel⟩, by decide⟩
theorem dX8_init_0 : decode cX8_init 0 = .ok (.aload_n 0, 1) := dk_aload_n_0 (by decide +kernel)
theorem wRX8_3 : Cond.methodLink RX8 3 Lib.objectInit ∈ sm_T := sm_in 116 (by decide +kernel) (by decide +kernel)
theorem dX8_init_1 : decode cX8_init 1 = .ok (.invokespecial 3, 3) := dk_invokespecial 3 (b1 := 0) (b2 := 3) (by decide +kernel) (by decide +kernel) (by decide +kernel) (by decide +kernel)
theorem dX8_init_4 : decode cX8_init 4 = .ok (.aload_n 0, 1) := dk_aload_n_0 (by decide +kernel)
theorem dX8_init_5 : decode cX8_init 5 = .ok (.iconst 1, 1) := dk_iconst_1 (by decide +kernel)
theorem dX8_init_6 : decode cX8_init 6 = .ok (.putfield 9, 3) := dk_putfield 9 (b1 := 0) (b2 := 9) (by decide +kernel) (by decide +kernel) (by decide +kernel) (by decide +kernel)
theorem dX8_init_9 : decode cX8_init 9 = .ok (.aload_n 0, 1) := dk_aload_n_0 (by decide +kernel)
theorem dX8_init_10 : decode cX8_init 10 = .ok (.iconst 1, 1) := dk_iconst_1 (by decide +kernel)
theorem dX8_init_11 : decode cX8_init 11 = .ok (.putfield 15, 3) := dk_putfield 15 (b1 := 0) (b2 := 15) (by decide +kernel) (by decide +kernel) (by decide +kernel) (by decide +kernel)
theorem dX8_init_14 : decode cX8_init 14 = .ok (.aload_n 0, 1) := dk_aload_n_0 (by decide +kernel)
theorem dX8_init_15 : decode cX8_init 15 = .ok (.iconst 0, 1) := dk_iconst_0 (by decide +kernel)
theorem dX8_init_16 : decode cX8_init 16 = .ok (.putfield 18, 3) := dk_putfield 18 (b1 := 0) (b2 := 18) (by decide +kernel) (by decide +kernel) (by decide +kernel) (by decide +kernel)
theorem dX8_init_19 : decode cX8_init 19 = .ok (.aload_n 0, 1) := dk_aload_n_0 (by decide +kernel)
theorem dX8_init_20 : decode cX8_init 20 = .ok (.iconst 1, 1) := dk_iconst_1 (by decide +kernel)
theorem dX8_init_21 : decode cX8_init 21 = .ok (.putfield 21, 3) := dk_putfield 21 (b1 := 0) (b2 := 21) (by decide +kernel) (by decide +kernel) (by decide +kernel) (by decide +kernel)
theorem dX8_init_24 : decode cX8_init 24 = .ok (.aload_n 0, 1) := dk_aload_n_0 (by decide +kernel)
theorem dX8_init_25 : decode cX8_init 25 = .ok (.iconst 0, 1) := dk_iconst_0 (by decide +kernel)
theorem dX8_init_26 : decode cX8_init 26 = .ok (.putfield 24, 3) := dk_putfield 24 (b1 := 0) (b2 := 24) (by decide +kernel) (by decide +kernel) (by decide +kernel) (by decide +kernel)
theorem dX8_init_29 : decode cX8_init 29 = .ok (.aload_n 0, 1) := dk_aload_n_0 (by decide +kernel)
theorem dX8_init_30 : decode cX8_init 30 = .ok (.iconst 1, 1) := dk_iconst_1 (by decide +kernel)
theorem dX8_init_31 : decode cX8_init 31 = .ok (.putfield 27, 3) := dk_putfield 27 (b1 := 0) (b2 := 27) (by decide +kernel) (by decide +kernel) (by decide +kernel) (by decide +kernel)
theorem dX8_init_34 : decode cX8_init 34 = .ok (.aload_n 0, 1) := dk_aload_n_0 (by decide +kernel)
theorem dX8_init_35 : decode cX8_init 35 = .ok (.iconst 1, 1) := dk_iconst_1 (by decide +kernel)
theorem dX8_init_36 : decode cX8_init 36 = .ok (.putfield 30, 3) := dk_putfield 30 (b1 := 0) (b2 := 30) (by decide +kernel) (by decide +kernel) (by decide +kernel) (by decide +kernel)
theorem dX8_init_39 : decode cX8_init 39 = .ok (.aload_n 0, 1) := dk_aload_n_0 (by decide +kernel)
theorem dX8_init_40 : decode cX8_init 40 = .ok (.iconst 1, 1) := dk_iconst_1 (by decide +kernel)
theorem dX8_init_41 : decode cX8_init 41 = .ok (.putfield 34, 3) := dk_putfield 34 (b1 := 0) (b2 := 34) (by decide +kernel) (by decide +kernel) (by decide +kernel) (by decide +kernel)
theorem dX8_init_44 : decode cX8_init 44 = .ok (.aload_n 0, 1) := dk_aload_n_0 (by decide +kernel)
theorem dX8_init_45 : decode cX8_init 45 = .ok (.iconst 0, 1) := dk_iconst_0 (by decide +kernel)
theorem dX8_init_46 : decode cX8_init 46 = .ok (.putfield 37, 3) := dk_putfield 37 (b1 := 0) (b2 := 37) (by decide +kernel) (by decide +kernel) (by decide +kernel) (by decide +kernel)
theorem dX8_init_49 : decode cX8_init 49 = .ok (.aload_n 0, 1) := dk_aload_n_0 (by decide +kernel)
theorem dX8_init_50 : decode cX8_init 50 = .ok (.iconst 1, 1) := dk_iconst_1 (by decide +kernel)
theorem dX8_init_51 : decode cX8_init 51 = .ok (.putfield 40, 3) := dk_putfield 40 (b1 := 0) (b2 := 40) (by decide +kernel) (by decide +kernel) (by decide +kernel) (by decide +kernel)
theorem dX8_init_54 : decode cX8_init 54 = .ok (.aload_n 0, 1) := dk_aload_n_0 (by decide +kernel)
theorem dX8_init_55 : decode cX8_init 55 = .ok (.iload_n 1, 1) := dk_iload_n_1 (by decide +kernel)
theorem dX8_init_56 : decode cX8_init 56 = .ok (.iconst 1, 1) := dk_iconst_1 (by decide +kernel)
theorem wRX8_43 : Cond.methodLink RX8 43 yJ9_max_7cf53 ∈ sm_T := sm_in 117 (by decide +kernel) (by decide +kernel)
theorem dX8_init_57 : decode cX8_init 57 = .ok (.invokestatic 43, 3) := dk_invokestatic 43 (b1 := 0) (b2 := 43) (by decide +kernel) (by decide +kernel) (by decide +kernel) (by decide +kernel)
theorem wa_int : Cond.arrayClass .int ∈ sm_T := sm_in 177 (by decide +kernel) (by decide +kernel)
theorem dX8_init_60 : decode cX8_init 60 = .ok (.newarray .int, 2) := by decide +kernel
theorem dX8_init_62 : decode cX8_init 62 = .ok (.putfield 49, 3) := dk_putfield 49 (b1 := 0) (b2 := 49) (by decide +kernel) (by decide +kernel) (by decide +kernel) (by decide +kernel)
theorem dX8_init_65 : decode cX8_init 65 = .ok (.return_, 1) := dk_return_ (by decide +kernel)
set_option maxRecDepth 20000 in
theorem vX8_init_0 {E : sm_E} {d : Nat} {a0 : Nat} {x1 : Int32} {m : sm_M} {Q : sm_M → Prop} (hd : 2 ≤ d)
  (h : (sm_K m.2.2 a0 = 6) ∧ ∀ m_1 : sm_M, m_1 = sm_wI m a0 1 1 →
   (sm_K m_1.2.2 a0 = 6) ∧ ∀ m_3 : sm_M, m_3 = sm_wI m_1 a0 2 1 →
   (sm_K m_3.2.2 a0 = 6) ∧ ∀ m_5 : sm_M, m_5 = sm_wI m_3 a0 3 0 →
   (sm_K m_5.2.2 a0 = 6) ∧ ∀ m_7 : sm_M, m_7 = sm_wI m_5 a0 4 1 →
   (sm_K m_7.2.2 a0 = 6) ∧ ∀ m_9 : sm_M, m_9 = sm_wI m_7 a0 5 0 →
   (sm_K m_9.2.2 a0 = 6) ∧ ∀ m_11 : sm_M, m_11 = sm_wI m_9 a0 6 1 →
   (sm_K m_11.2.2 a0 = 6) ∧ ∀ m_13 : sm_M, m_13 = sm_wI m_11 a0 7 1 →
   (sm_K m_13.2.2 a0 = 6) ∧ ∀ m_15 : sm_M, m_15 = sm_wI m_13 a0 8 1 →
   (sm_K m_15.2.2 a0 = 6) ∧ ∀ m_17 : sm_M, m_17 = sm_wI m_15 a0 9 0 →
   (sm_K m_17.2.2 a0 = 6) ∧ ∀ m_19 : sm_M, m_19 = sm_wI m_17 a0 10 1 →
   sm_callI E sm_L0 mJ9_max_7cf53 1 0 0 [.int x1, .int 1] m_19 (fun r_21 m_22 =>
   (¬ r_21 < 0) ∧ (r_21.toNatClampNeg * 4 ≤ 536870912) ∧ ((0 + 0) + r_21.toNatClampNeg ≤ 100) ∧ ∀ m_23 : sm_M, m_23 = sm_nw m_22 11 (r_21.toNatClampNeg) →
   (sm_K m_23.2.2 a0 = 6) ∧ ∀ m_27 : sm_M, m_27 = sm_wR m_23 a0 0 (some (sm_top m_22.2.2)) →
   (((0 + 0) + (r_21.toNatClampNeg)) ≤ 100) ∧ Q m_27)) :
  sm_callV E sm_L0 mX8_init d 1 100 [.ref (sm_B E + a0), .int x1] m Q := by
  refine sm_enter (by decide +kernel) (by simp [lg_sl, Value.category]) ?_
  refine sm_aload_n (Y := mX8_init) (pc := 0) 0 0 rfl rfl dX8_init_0 ?_
  refine sm_obj (Y := mX8_init) (pc := 1) wRX8_3 (Nat.le_trans (by decide) hd) (Nat.le_of_ble_eq_true rfl) dX8_init_1 ?_
  refine sm_aload_n (Y := mX8_init) (pc := 4) 0 0 rfl rfl dX8_init_4 ?_
  refine sm_iconst (Y := mX8_init) (pc := 5) 1 (by decide) dX8_init_5 ?_
  obtain ⟨hn_2, h⟩ := h
  refine pf_RX8_9 (Y := mX8_init) (pc := 6) rfl (fun _ => hn_2) dX8_init_6 (fun m_1 em_1 => ?_)
  replace h := h m_1 em_1
  refine sm_aload_n (Y := mX8_init) (pc := 9) 0 0 rfl rfl dX8_init_9 ?_
  refine sm_iconst (Y := mX8_init) (pc := 10) 1 (by decide) dX8_init_10 ?_
  obtain ⟨hn_4, h⟩ := h
  refine pf_RX8_15 (Y := mX8_init) (pc := 11) rfl (fun _ => hn_4) dX8_init_11 (fun m_3 em_3 => ?_)
  replace h := h m_3 em_3
  refine sm_aload_n (Y := mX8_init) (pc := 14) 0 0 rfl rfl dX8_init_14 ?_
  refine sm_iconst (Y := mX8_init) (pc := 15) 0 (by decide) dX8_init_15 ?_
  obtain ⟨hn_6, h⟩ := h
  refine pf_RX8_18 (Y := mX8_init) (pc := 16) rfl (fun _ => hn_6) dX8_init_16 (fun m_5 em_5 => ?_)
  replace h := h m_5 em_5
  refine sm_aload_n (Y := mX8_init) (pc := 19) 0 0 rfl rfl dX8_init_19 ?_
  refine sm_iconst (Y := mX8_init) (pc := 20) 1 (by decide) dX8_init_20 ?_
  obtain ⟨hn_8, h⟩ := h
  refine pf_RX8_21 (Y := mX8_init) (pc := 21) rfl (fun _ => hn_8) dX8_init_21 (fun m_7 em_7 => ?_)
  replace h := h m_7 em_7
  refine sm_aload_n (Y := mX8_init) (pc := 24) 0 0 rfl rfl dX8_init_24 ?_
  refine sm_iconst (Y := mX8_init) (pc := 25) 0 (by decide) dX8_init_25 ?_
  obtain ⟨hn_10, h⟩ := h
  refine pf_RX8_24 (Y := mX8_init) (pc := 26) rfl (fun _ => hn_10) dX8_init_26 (fun m_9 em_9 => ?_)
  replace h := h m_9 em_9
  refine sm_aload_n (Y := mX8_init) (pc := 29) 0 0 rfl rfl dX8_init_29 ?_
  refine sm_iconst (Y := mX8_init) (pc := 30) 1 (by decide) dX8_init_30 ?_
  obtain ⟨hn_12, h⟩ := h
  refine pf_RX8_27 (Y := mX8_init) (pc := 31) rfl (fun _ => hn_12) dX8_init_31 (fun m_11 em_11 => ?_)
  replace h := h m_11 em_11
  refine sm_aload_n (Y := mX8_init) (pc := 34) 0 0 rfl rfl dX8_init_34 ?_
  refine sm_iconst (Y := mX8_init) (pc := 35) 1 (by decide) dX8_init_35 ?_
  obtain ⟨hn_14, h⟩ := h
  refine pf_RX8_30 (Y := mX8_init) (pc := 36) rfl (by decide) (fun _ => hn_14) dX8_init_36 (fun m_13 em_13 => ?_)
  replace h := h m_13 em_13
  refine sm_aload_n (Y := mX8_init) (pc := 39) 0 0 rfl rfl dX8_init_39 ?_
  refine sm_iconst (Y := mX8_init) (pc := 40) 1 (by decide) dX8_init_40 ?_
  obtain ⟨hn_16, h⟩ := h
  refine pf_RX8_34 (Y := mX8_init) (pc := 41) rfl (by decide) (fun _ => hn_16) dX8_init_41 (fun m_15 em_15 => ?_)
  replace h := h m_15 em_15
  refine sm_aload_n (Y := mX8_init) (pc := 44) 0 0 rfl rfl dX8_init_44 ?_
  refine sm_iconst (Y := mX8_init) (pc := 45) 0 (by decide) dX8_init_45 ?_
  obtain ⟨hn_18, h⟩ := h
  refine pf_RX8_37 (Y := mX8_init) (pc := 46) rfl (fun _ => hn_18) dX8_init_46 (fun m_17 em_17 => ?_)
  replace h := h m_17 em_17
  refine sm_aload_n (Y := mX8_init) (pc := 49) 0 0 rfl rfl dX8_init_49 ?_
  refine sm_iconst (Y := mX8_init) (pc := 50) 1 (by decide) dX8_init_50 ?_
  obtain ⟨hn_20, h⟩ := h
  refine pf_RX8_40 (Y := mX8_init) (pc := 51) rfl (fun _ => hn_20) dX8_init_51 (fun m_19 em_19 => ?_)
  replace h := h m_19 em_19
  refine sm_aload_n (Y := mX8_init) (pc := 54) 0 0 rfl rfl dX8_init_54 ?_
  refine sm_iload_n (Y := mX8_init) (pc := 55) 1 1 rfl rfl dX8_init_55 ?_
  refine sm_iconst (Y := mX8_init) (pc := 56) 1 (by decide) dX8_init_56 ?_
  refine sm_is_I (Y := mX8_init) (pc := 57) (As := [.int x1, .int 1]) fJ9_max_7cf53 wRX8_43 rfl (Nat.le_trans (by decide) hd) (Nat.le_of_ble_eq_true rfl) ⟨Nat.zero_le _, Nat.zero_le _⟩ dX8_init_57 rfl (sm_monoI h (fun r_21 m_22 h => ?_))
  obtain ⟨hn_24, h⟩ := h
  obtain ⟨hn_25, h⟩ := h
  obtain ⟨hn_26, h⟩ := h
  refine sm_newI (Y := mX8_init) (pc := 60) (N := r_21.toNatClampNeg) wa_int hn_24 rfl hn_25 (fun _ => trivial) (Nat.le_of_ble_eq_true rfl) hn_26 dX8_init_60 (fun m_23 em_23 => ?_)
  replace h := h m_23 em_23
  obtain ⟨hn_28, h⟩ := h
  refine sm_putR (Y := mX8_init) (pc := 62) (k := 0) (b := (sm_top m_22.2.2)) (ty := (.array .int)) (Or.inr ⟨_, rfl⟩) (fun _ => hn_28) (by decide) rfl (by decide) rfl rfl wRX8_49 rfl rfl rfl (by decide +kernel) (fun _ => trivial) dX8_init_62 (fun m_27 em_27 => ?_)
  replace h := h m_27 em_27
  obtain ⟨hn_29, h⟩ := h
  refine sm_widen (k := 1) (n := 100) (Nat.le_of_ble_eq_true rfl) hn_29 ?_
  exact sm_vret (Y := mX8_init) (pc := 65) rfl rfl rfl dX8_init_65 ⟨rfl, h⟩
abbrev mX4_init : sm_Y := (yX4_init, cX4_init, 1, none)
theorem fX4_init : sm_mn mX4_init 0 := ⟨sm_in 182 (by decide +kernel) (by decide +kernel), rfl, rfl, sm_in 181 (by decide +kernel) (by decide +kernel), sm_in 85 (by decide +kernel) (by decide +kernel), ⟨by decide +kernel, by decide +kernel, by decide +kernel⟩, by decide⟩
theorem dX4_init_0 : decode cX4_init 0 = .ok (.aload_n 0, 1) := dk_aload_n_0 (by decide +kernel)
theorem wRX4_3 : Cond.methodLink RX4 3 Lib.objectInit ∈ sm_T := sm_in 183 (by decide +kernel) (by decide +kernel)
theorem dX4_init_1 : decode cX4_init 1 = .ok (.invokespecial 3, 3) := dk_invokespecial 3 (b1 := 0) (b2 := 3) (by decide +kernel) (by decide +kernel) (by decide +kernel) (by decide +kernel)
theorem dX4_init_4 : decode cX4_init 4 = .ok (.aload_n 0, 1) := dk_aload_n_0 (by decide +kernel)
theorem dX4_init_5 : decode cX4_init 5 = .ok (.bipush 24, 2) := dk_bipush 24 (b := 24) (by decide +kernel) (by decide +kernel) (by decide +kernel)
theorem dX4_init_7 : decode cX4_init 7 = .ok (.newarray .int, 2) := by decide +kernel
theorem dX4_init_9 : decode cX4_init 9 = .ok (.putfield 9, 3) := dk_putfield 9 (b1 := 0) (b2 := 9) (by decide +kernel) (by decide +kernel) (by decide +kernel) (by decide +kernel)
theorem dX4_init_12 : decode cX4_init 12 = .ok (.aload_n 0, 1) := dk_aload_n_0 (by decide +kernel)
theorem dX4_init_13 : decode cX4_init 13 = .ok (.bipush 24, 2) := dk_bipush 24 (b := 24) (by decide +kernel) (by decide +kernel) (by decide +kernel)
theorem dX4_init_15 : decode cX4_init 15 = .ok (.newarray .int, 2) := by decide +kernel
theorem dX4_init_17 : decode cX4_init 17 = .ok (.putfield 15, 3) := dk_putfield 15 (b1 := 0) (b2 := 15) (by decide +kernel) (by decide +kernel) (by decide +kernel) (by decide +kernel)
theorem dX4_init_20 : decode cX4_init 20 = .ok (.aload_n 0, 1) := dk_aload_n_0 (by decide +kernel)
theorem dX4_init_21 : decode cX4_init 21 = .ok (.bipush 24, 2) := dk_bipush 24 (b := 24) (by decide +kernel) (by decide +kernel) (by decide +kernel)
theorem dX4_init_23 : decode cX4_init 23 = .ok (.newarray .int, 2) := by decide +kernel
theorem dX4_init_25 : decode cX4_init 25 = .ok (.putfield 18, 3) := dk_putfield 18 (b1 := 0) (b2 := 18) (by decide +kernel) (by decide +kernel) (by decide +kernel) (by decide +kernel)
theorem dX4_init_28 : decode cX4_init 28 = .ok (.aload_n 0, 1) := dk_aload_n_0 (by decide +kernel)
theorem dX4_init_29 : decode cX4_init 29 = .ok (.bipush 24, 2) := dk_bipush 24 (b := 24) (by decide +kernel) (by decide +kernel) (by decide +kernel)
theorem wa_boolean : Cond.arrayClass .boolean ∈ sm_T := sm_in 200 (by decide +kernel) (by decide +kernel)
theorem dX4_init_31 : decode cX4_init 31 = .ok (.newarray .boolean, 2) := by decide +kernel
theorem dX4_init_33 : decode cX4_init 33 = .ok (.putfield 21, 3) := dk_putfield 21 (b1 := 0) (b2 := 21) (by decide +kernel) (by decide +kernel) (by decide +kernel) (by decide +kernel)
theorem dX4_init_36 : decode cX4_init 36 = .ok (.return_, 1) := dk_return_ (by decide +kernel)
set_option maxRecDepth 20000 in
theorem vX4_init_0 {E : sm_E} {d : Nat} {a0 : Nat} {m : sm_M} {Q : sm_M → Prop} (hd : 1 ≤ d)
  (h : ∀ m_1 : sm_M, m_1 = sm_nw m 11 24 →
   (sm_K m_1.2.2 a0 = 3) ∧ ∀ m_2 : sm_M, m_2 = sm_wR m_1 a0 0 (some (sm_top m.2.2)) →
   ∀ m_4 : sm_M, m_4 = sm_nw m_2 11 24 →
   (sm_K m_4.2.2 a0 = 3) ∧ ∀ m_5 : sm_M, m_5 = sm_wR m_4 a0 1 (some (sm_top m_2.2.2)) →
   ∀ m_7 : sm_M, m_7 = sm_nw m_5 11 24 →
   (sm_K m_7.2.2 a0 = 3) ∧ ∀ m_8 : sm_M, m_8 = sm_wR m_7 a0 2 (some (sm_top m_5.2.2)) →
   ∀ m_10 : sm_M, m_10 = sm_nw m_8 13 24 →
   (sm_K m_10.2.2 a0 = 3) ∧ ∀ m_11 : sm_M, m_11 = sm_wR m_10 a0 3 (some (sm_top m_8.2.2)) →
   Q m_11) :
  sm_callV E sm_L0 mX4_init d 4 96 [.ref (sm_B E + a0)] m Q := by
  refine sm_enter (by decide +kernel) (by simp [lg_sl, Value.category]) ?_
  refine sm_aload_n (Y := mX4_init) (pc := 0) 0 0 rfl rfl dX4_init_0 ?_
  refine sm_obj (Y := mX4_init) (pc := 1) wRX4_3 (Nat.le_trans (by decide) hd) (Nat.le_of_ble_eq_true rfl) dX4_init_1 ?_
  refine sm_aload_n (Y := mX4_init) (pc := 4) 0 0 rfl rfl dX4_init_4 ?_
  refine sm_bipush (Y := mX4_init) (pc := 5) 24 (by decide) dX4_init_5 ?_
  refine sm_newI (Y := mX4_init) (pc := 7) (N := 24) wa_int (by decide) rfl (Nat.le_of_ble_eq_true rfl) (fun _ => trivial) (Nat.le_of_ble_eq_true rfl) (Nat.le_of_ble_eq_true rfl) dX4_init_7 (fun m_1 em_1 => ?_)
  replace h := h m_1 em_1
  obtain ⟨hn_3, h⟩ := h
  refine sm_putR (Y := mX4_init) (pc := 9) (k := 0) (b := (sm_top m.2.2)) (ty := (.array .int)) (Or.inr ⟨_, rfl⟩) (fun _ => hn_3) (by decide) rfl (by decide) rfl rfl wRX4_9 rfl rfl rfl (by decide +kernel) (fun _ => trivial) dX4_init_9 (fun m_2 em_2 => ?_)
  replace h := h m_2 em_2
  refine sm_aload_n (Y := mX4_init) (pc := 12) 0 0 rfl rfl dX4_init_12 ?_
  refine sm_bipush (Y := mX4_init) (pc := 13) 24 (by decide) dX4_init_13 ?_
  refine sm_newI (Y := mX4_init) (pc := 15) (N := 24) wa_int (by decide) rfl (Nat.le_of_ble_eq_true rfl) (fun _ => trivial) (Nat.le_of_ble_eq_true rfl) (Nat.le_of_ble_eq_true rfl) dX4_init_15 (fun m_4 em_4 => ?_)
  replace h := h m_4 em_4
  obtain ⟨hn_6, h⟩ := h
  refine sm_putR (Y := mX4_init) (pc := 17) (k := 1) (b := (sm_top m_2.2.2)) (ty := (.array .int)) (Or.inr ⟨_, rfl⟩) (fun _ => hn_6) (by decide) rfl (by decide) rfl rfl wRX4_15 rfl rfl rfl (by decide +kernel) (fun _ => trivial) dX4_init_17 (fun m_5 em_5 => ?_)
  replace h := h m_5 em_5
  refine sm_aload_n (Y := mX4_init) (pc := 20) 0 0 rfl rfl dX4_init_20 ?_
  refine sm_bipush (Y := mX4_init) (pc := 21) 24 (by decide) dX4_init_21 ?_
  refine sm_newI (Y := mX4_init) (pc := 23) (N := 24) wa_int (by decide) rfl (Nat.le_of_ble_eq_true rfl) (fun _ => trivial) (Nat.le_of_ble_eq_true rfl) (Nat.le_of_ble_eq_true rfl) dX4_init_23 (fun m_7 em_7 => ?_)
  replace h := h m_7 em_7
  obtain ⟨hn_9, h⟩ := h
  refine sm_putR (Y := mX4_init) (pc := 25) (k := 2) (b := (sm_top m_5.2.2)) (ty := (.array .int)) (Or.inr ⟨_, rfl⟩) (fun _ => hn_9) (by decide) rfl (by decide) rfl rfl wRX4_18 rfl rfl rfl (by decide +kernel) (fun _ => trivial) dX4_init_25 (fun m_8 em_8 => ?_)
  replace h := h m_8 em_8
  refine sm_aload_n (Y := mX4_init) (pc := 28) 0 0 rfl rfl dX4_init_28 ?_
  refine sm_bipush (Y := mX4_init) (pc := 29) 24 (by decide) dX4_init_29 ?_
  refine sm_newZ (Y := mX4_init) (pc := 31) (N := 24) wa_boolean (by decide) rfl (Nat.le_of_ble_eq_true rfl) (fun _ => trivial) (Nat.le_of_ble_eq_true rfl) (Nat.le_of_ble_eq_true rfl) dX4_init_31 (fun m_10 em_10 => ?_)
  replace h := h m_10 em_10
  obtain ⟨hn_12, h⟩ := h
  refine sm_putR (Y := mX4_init) (pc := 33) (k := 3) (b := (sm_top m_8.2.2)) (ty := (.array .boolean)) (Or.inr ⟨_, rfl⟩) (fun _ => hn_12) (by decide) rfl (by decide) rfl rfl wRX4_21 rfl rfl rfl (by decide +kernel) (fun _ => trivial) dX4_init_33 (fun m_11 em_11 => ?_)
  replace h := h m_11 em_11
  refine sm_widen (k := 4) (n := 96) (Nat.le_of_ble_eq_true rfl) (Nat.le_of_ble_eq_true rfl) ?_
  exact sm_vret (Y := mX4_init) (pc := 36) rfl rfl rfl dX4_init_36 ⟨rfl, h⟩
abbrev mX9_init : sm_Y := (yX9_init, cX9_init, 1, none)
theorem fX9_init : sm_mn mX9_init 0 := ⟨sm_in 205 (by decide +kernel) (by decide +kernel), rfl, rfl, sm_in 204 (by decide +kernel) (by decide +kernel), sm_in 86 (by decide +kernel) (by decide +kernel), ⟨by decide +kernel, by decide +kernel, by decide +kernel⟩, by decide⟩
theorem dX9_init_0 : decode cX9_init 0 = .ok (.aload_n 0, 1) := dk_aload_n_0 (by decide +kernel)
theorem wRX9_3 : Cond.methodLink RX9 3 Lib.objectInit ∈ sm_T := sm_in 206 (by decide +kernel) (by decide +kernel)
theorem dX9_init_1 : decode cX9_init 1 = .ok (.invokespecial 3, 3) := dk_invokespecial 3 (b1 := 0) (b2 := 3) (by decide +kernel) (by decide +kernel) (by decide +kernel) (by decide +kernel)
theorem dX9_init_4 : decode cX9_init 4 = .ok (.aload_n 0, 1) := dk_aload_n_0 (by decide +kernel)
theorem dX9_init_5 : decode cX9_init 5 = .ok (.bipush 100, 2) := dk_bipush 100 (b := 100) (by decide +kernel) (by decide +kernel) (by decide +kernel)
theorem dX9_init_7 : decode cX9_init 7 = .ok (.newarray .int, 2) := by decide +kernel
theorem dX9_init_9 : decode cX9_init 9 = .ok (.putfield 9, 3) := dk_putfield 9 (b1 := 0) (b2 := 9) (by decide +kernel) (by decide +kernel) (by decide +kernel) (by decide +kernel)
theorem dX9_init_12 : decode cX9_init 12 = .ok (.aload_n 0, 1) := dk_aload_n_0 (by decide +kernel)
theorem dX9_init_13 : decode cX9_init 13 = .ok (.bipush 100, 2) := dk_bipush 100 (b := 100) (by decide +kernel) (by decide +kernel) (by decide +kernel)
theorem dX9_init_15 : decode cX9_init 15 = .ok (.newarray .int, 2) := by decide +kernel
theorem dX9_init_17 : decode cX9_init 17 = .ok (.putfield 15, 3) := dk_putfield 15 (b1 := 0) (b2 := 15) (by decide +kernel) (by decide +kernel) (by decide +kernel) (by decide +kernel)
theorem dX9_init_20 : decode cX9_init 20 = .ok (.aload_n 0, 1) := dk_aload_n_0 (by decide +kernel)
theorem dX9_init_21 : decode cX9_init 21 = .ok (.bipush 100, 2) := dk_bipush 100 (b := 100) (by decide +kernel) (by decide +kernel) (by decide +kernel)
theorem dX9_init_23 : decode cX9_init 23 = .ok (.newarray .int, 2) := by decide +kernel
theorem dX9_init_25 : decode cX9_init 25 = .ok (.putfield 18, 3) := dk_putfield 18 (b1 := 0) (b2 := 18) (by decide +kernel) (by decide +kernel) (by decide +kernel) (by decide +kernel)
theorem dX9_init_28 : decode cX9_init 28 = .ok (.aload_n 0, 1) := dk_aload_n_0 (by decide +kernel)
theorem wi_RX8 : Cond.instantiable RX8 11 ∈ sm_T := sm_in 112 (by decide +kernel) (by decide +kernel)
theorem wj_RX8 : Cond.initialized RX8 ∈ sm_T := sm_in 83 (by decide +kernel) (by decide +kernel)
theorem wRX9_21 : Cond.classLink RX9 21 RX8 ∈ sm_T := sm_in 207 (by decide +kernel) (by decide +kernel)
theorem dX9_init_29 : decode cX9_init 29 = .ok (.new 21, 3) := dk_new 21 (b1 := 0) (b2 := 21) (by decide +kernel) (by decide +kernel) (by decide +kernel) (by decide +kernel)
theorem dX9_init_32 : decode cX9_init 32 = .ok (.dup, 1) := dk_dup (by decide +kernel)
theorem dX9_init_33 : decode cX9_init 33 = .ok (.bipush 100, 2) := dk_bipush 100 (b := 100) (by decide +kernel) (by decide +kernel) (by decide +kernel)
theorem wRX9_23 : Cond.methodLink RX9 23 yX8_init ∈ sm_T := sm_in 208 (by decide +kernel) (by decide +kernel)
theorem dX9_init_35 : decode cX9_init 35 = .ok (.invokespecial 23, 3) := dk_invokespecial 23 (b1 := 0) (b2 := 23) (by decide +kernel) (by decide +kernel) (by decide +kernel) (by decide +kernel)
theorem dX9_init_38 : decode cX9_init 38 = .ok (.putfield 26, 3) := dk_putfield 26 (b1 := 0) (b2 := 26) (by decide +kernel) (by decide +kernel) (by decide +kernel) (by decide +kernel)
theorem dX9_init_41 : decode cX9_init 41 = .ok (.aload_n 0, 1) := dk_aload_n_0 (by decide +kernel)
theorem dX9_init_42 : decode cX9_init 42 = .ok (.iconst 0, 1) := dk_iconst_0 (by decide +kernel)
theorem dX9_init_43 : decode cX9_init 43 = .ok (.putfield 30, 3) := dk_putfield 30 (b1 := 0) (b2 := 30) (by decide +kernel) (by decide +kernel) (by decide +kernel) (by decide +kernel)
theorem dX9_init_46 : decode cX9_init 46 = .ok (.aload_n 0, 1) := dk_aload_n_0 (by decide +kernel)
theorem dX9_init_47 : decode cX9_init 47 = .ok (.iconst 0, 1) := dk_iconst_0 (by decide +kernel)
theorem dX9_init_48 : decode cX9_init 48 = .ok (.putfield 34, 3) := dk_putfield 34 (b1 := 0) (b2 := 34) (by decide +kernel) (by decide +kernel) (by decide +kernel) (by decide +kernel)
theorem dX9_init_51 : decode cX9_init 51 = .ok (.aload_n 0, 1) := dk_aload_n_0 (by decide +kernel)
theorem dX9_init_52 : decode cX9_init 52 = .ok (.iconst 0, 1) := dk_iconst_0 (by decide +kernel)
theorem dX9_init_53 : decode cX9_init 53 = .ok (.putfield 37, 3) := dk_putfield 37 (b1 := 0) (b2 := 37) (by decide +kernel) (by decide +kernel) (by decide +kernel) (by decide +kernel)
theorem dX9_init_56 : decode cX9_init 56 = .ok (.aload_n 0, 1) := dk_aload_n_0 (by decide +kernel)
theorem dX9_init_57 : decode cX9_init 57 = .ok (.iconst 0, 1) := dk_iconst_0 (by decide +kernel)
theorem dX9_init_58 : decode cX9_init 58 = .ok (.putfield 40, 3) := dk_putfield 40 (b1 := 0) (b2 := 40) (by decide +kernel) (by decide +kernel) (by decide +kernel) (by decide +kernel)
theorem dX9_init_61 : decode cX9_init 61 = .ok (.return_, 1) := dk_return_ (by decide +kernel)
set_option maxRecDepth 20000 in
theorem vX9_init_0 {E : sm_E} {d : Nat} {a0 : Nat} {m : sm_M} {Q : sm_M → Prop} (hd : 3 ≤ d)
  (h : ∀ m_1 : sm_M, m_1 = sm_nw m 11 100 →
   (sm_K m_1.2.2 a0 = 7) ∧ ∀ m_2 : sm_M, m_2 = sm_wR m_1 a0 0 (some (sm_top m.2.2)) →
   ∀ m_4 : sm_M, m_4 = sm_nw m_2 11 100 →
   (sm_K m_4.2.2 a0 = 7) ∧ ∀ m_5 : sm_M, m_5 = sm_wR m_4 a0 1 (some (sm_top m_2.2.2)) →
   ∀ m_7 : sm_M, m_7 = sm_nw m_5 11 100 →
   (sm_K m_7.2.2 a0 = 7) ∧ ∀ m_8 : sm_M, m_8 = sm_wR m_7 a0 2 (some (sm_top m_5.2.2)) →
   ∀ m_10 : sm_M, m_10 = sm_nw m_8 6 0 →
   sm_callV E sm_L0 mX8_init 2 1 100 [.ref (sm_B E + (sm_top m_8.2.2)), .int 100] m_10 (fun m_11 =>
   (sm_K m_11.2.2 a0 = 7) ∧ ∀ m_12 : sm_M, m_12 = sm_wR m_11 a0 3 (some (sm_top m_8.2.2)) →
   (sm_K m_12.2.2 a0 = 7) ∧ ∀ m_14 : sm_M, m_14 = sm_wI m_12 a0 4 0 →
   (sm_K m_14.2.2 a0 = 7) ∧ ∀ m_16 : sm_M, m_16 = sm_wI m_14 a0 5 0 →
   (sm_K m_16.2.2 a0 = 7) ∧ ∀ m_18 : sm_M, m_18 = sm_wI m_16 a0 6 0 →
   (sm_K m_18.2.2 a0 = 7) ∧ ∀ m_20 : sm_M, m_20 = sm_wI m_18 a0 7 0 →
   Q m_20)) :
  sm_callV E sm_L0 mX9_init d 5 411 [.ref (sm_B E + a0)] m Q := by
  refine sm_enter (by decide +kernel) (by simp [lg_sl, Value.category]) ?_
  refine sm_aload_n (Y := mX9_init) (pc := 0) 0 0 rfl rfl dX9_init_0 ?_
  refine sm_obj (Y := mX9_init) (pc := 1) wRX9_3 (Nat.le_trans (by decide) hd) (Nat.le_of_ble_eq_true rfl) dX9_init_1 ?_
  refine sm_aload_n (Y := mX9_init) (pc := 4) 0 0 rfl rfl dX9_init_4 ?_
  refine sm_bipush (Y := mX9_init) (pc := 5) 100 (by decide) dX9_init_5 ?_
  refine sm_newI (Y := mX9_init) (pc := 7) (N := 100) wa_int (by decide) rfl (Nat.le_of_ble_eq_true rfl) (fun _ => trivial) (Nat.le_of_ble_eq_true rfl) (Nat.le_of_ble_eq_true rfl) dX9_init_7 (fun m_1 em_1 => ?_)
  replace h := h m_1 em_1
  obtain ⟨hn_3, h⟩ := h
  refine sm_putR (Y := mX9_init) (pc := 9) (k := 0) (b := (sm_top m.2.2)) (ty := (.array .int)) (Or.inr ⟨_, rfl⟩) (fun _ => hn_3) (by decide) rfl (by decide) rfl rfl wRX9_9 rfl rfl rfl (by decide +kernel) (fun _ => trivial) dX9_init_9 (fun m_2 em_2 => ?_)
  replace h := h m_2 em_2
  refine sm_aload_n (Y := mX9_init) (pc := 12) 0 0 rfl rfl dX9_init_12 ?_
  refine sm_bipush (Y := mX9_init) (pc := 13) 100 (by decide) dX9_init_13 ?_
  refine sm_newI (Y := mX9_init) (pc := 15) (N := 100) wa_int (by decide) rfl (Nat.le_of_ble_eq_true rfl) (fun _ => trivial) (Nat.le_of_ble_eq_true rfl) (Nat.le_of_ble_eq_true rfl) dX9_init_15 (fun m_4 em_4 => ?_)
  replace h := h m_4 em_4
  obtain ⟨hn_6, h⟩ := h
  refine sm_putR (Y := mX9_init) (pc := 17) (k := 1) (b := (sm_top m_2.2.2)) (ty := (.array .int)) (Or.inr ⟨_, rfl⟩) (fun _ => hn_6) (by decide) rfl (by decide) rfl rfl wRX9_15 rfl rfl rfl (by decide +kernel) (fun _ => trivial) dX9_init_17 (fun m_5 em_5 => ?_)
  replace h := h m_5 em_5
  refine sm_aload_n (Y := mX9_init) (pc := 20) 0 0 rfl rfl dX9_init_20 ?_
  refine sm_bipush (Y := mX9_init) (pc := 21) 100 (by decide) dX9_init_21 ?_
  refine sm_newI (Y := mX9_init) (pc := 23) (N := 100) wa_int (by decide) rfl (Nat.le_of_ble_eq_true rfl) (fun _ => trivial) (Nat.le_of_ble_eq_true rfl) (Nat.le_of_ble_eq_true rfl) dX9_init_23 (fun m_7 em_7 => ?_)
  replace h := h m_7 em_7
  obtain ⟨hn_9, h⟩ := h
  refine sm_putR (Y := mX9_init) (pc := 25) (k := 2) (b := (sm_top m_5.2.2)) (ty := (.array .int)) (Or.inr ⟨_, rfl⟩) (fun _ => hn_9) (by decide) rfl (by decide) rfl rfl wRX9_18 rfl rfl rfl (by decide +kernel) (fun _ => trivial) dX9_init_25 (fun m_8 em_8 => ?_)
  replace h := h m_8 em_8
  refine sm_aload_n (Y := mX9_init) (pc := 28) 0 0 rfl rfl dX9_init_28 ?_
  refine sm_new (Y := mX9_init) (pc := 29) (ci := 6) (by decide) rfl rfl wRX9_21 wi_RX8 wj_RX8 (fun _ => trivial) (Nat.le_of_ble_eq_true rfl) (Nat.le_of_ble_eq_true rfl) dX9_init_29 (fun m_10 em_10 => ?_)
  replace h := h m_10 em_10
  refine sm_dup (Y := mX9_init) (pc := 32) rfl dX9_init_32 ?_
  refine sm_bipush (Y := mX9_init) (pc := 33) 100 (by decide) dX9_init_33 ?_
  refine sm_in0_V (Y := mX9_init) (pc := 35) (As := [.int 100]) (a := (sm_top m_8.2.2)) fX8_init wRX9_23 rfl (Nat.le_trans (by decide) hd) (Nat.le_of_ble_eq_true rfl) ⟨(Nat.le_of_ble_eq_true rfl), (Nat.le_of_ble_eq_true rfl)⟩ dX9_init_35 rfl (sm_monoV h (fun m_11 h => ?_))
  obtain ⟨hn_13, h⟩ := h
  refine sm_putR (Y := mX9_init) (pc := 38) (k := 3) (b := (sm_top m_8.2.2)) (ty := (.object "StrandTangles$Tangle")) (Or.inl ⟨_, rfl⟩) (fun _ => hn_13) (by decide) rfl (by decide) rfl rfl wRX9_26 rfl rfl rfl (by decide +kernel) (fun _ => trivial) dX9_init_38 (fun m_12 em_12 => ?_)
  replace h := h m_12 em_12
  refine sm_aload_n (Y := mX9_init) (pc := 41) 0 0 rfl rfl dX9_init_41 ?_
  refine sm_iconst (Y := mX9_init) (pc := 42) 0 (by decide) dX9_init_42 ?_
  obtain ⟨hn_15, h⟩ := h
  refine pf_RX9_30 (Y := mX9_init) (pc := 43) rfl (fun _ => hn_15) dX9_init_43 (fun m_14 em_14 => ?_)
  replace h := h m_14 em_14
  refine sm_aload_n (Y := mX9_init) (pc := 46) 0 0 rfl rfl dX9_init_46 ?_
  refine sm_iconst (Y := mX9_init) (pc := 47) 0 (by decide) dX9_init_47 ?_
  obtain ⟨hn_17, h⟩ := h
  refine pf_RX9_34 (Y := mX9_init) (pc := 48) rfl (fun _ => hn_17) dX9_init_48 (fun m_16 em_16 => ?_)
  replace h := h m_16 em_16
  refine sm_aload_n (Y := mX9_init) (pc := 51) 0 0 rfl rfl dX9_init_51 ?_
  refine sm_iconst (Y := mX9_init) (pc := 52) 0 (by decide) dX9_init_52 ?_
  obtain ⟨hn_19, h⟩ := h
  refine pf_RX9_37 (Y := mX9_init) (pc := 53) rfl (fun _ => hn_19) dX9_init_53 (fun m_18 em_18 => ?_)
  replace h := h m_18 em_18
  refine sm_aload_n (Y := mX9_init) (pc := 56) 0 0 rfl rfl dX9_init_56 ?_
  refine sm_iconst (Y := mX9_init) (pc := 57) 0 (by decide) dX9_init_57 ?_
  obtain ⟨hn_21, h⟩ := h
  refine pf_RX9_40 (Y := mX9_init) (pc := 58) rfl (fun _ => hn_21) dX9_init_58 (fun m_20 em_20 => ?_)
  replace h := h m_20 em_20
  refine sm_widen (k := 5) (n := 411) (Nat.le_of_ble_eq_true rfl) (Nat.le_of_ble_eq_true rfl) ?_
  exact sm_vret (Y := mX9_init) (pc := 61) rfl rfl rfl dX9_init_61 ⟨rfl, h⟩
abbrev mX2_init : sm_Y := (yX2_init, cX2_init, 1, none)
theorem fX2_init : sm_mn mX2_init 0 := ⟨sm_in 241 (by decide +kernel) (by decide +kernel), rfl, rfl, sm_in 240 (by decide +kernel) (by decide +kernel), sm_in 87 (by decide +kernel) (by decide +kernel), ⟨by decide +kernel, by decide +kernel, by decide +kernel⟩, by decide⟩
theorem dX2_init_0 : decode cX2_init 0 = .ok (.aload_n 0, 1) := dk_aload_n_0 (by decide +kernel)
theorem wRX2_5 : Cond.methodLink RX2 5 Lib.objectInit ∈ sm_T := sm_in 242 (by decide +kernel) (by decide +kernel)
theorem dX2_init_1 : decode cX2_init 1 = .ok (.invokespecial 5, 3) := dk_invokespecial 5 (b1 := 0) (b2 := 5) (by decide +kernel) (by decide +kernel) (by decide +kernel) (by decide +kernel)
theorem dX2_init_4 : decode cX2_init 4 = .ok (.aload_n 0, 1) := dk_aload_n_0 (by decide +kernel)
theorem dX2_init_5 : decode cX2_init 5 = .ok (.bipush 48, 2) := dk_bipush 48 (b := 48) (by decide +kernel) (by decide +kernel) (by decide +kernel)
theorem dX2_init_7 : decode cX2_init 7 = .ok (.newarray .int, 2) := by decide +kernel
theorem dX2_init_9 : decode cX2_init 9 = .ok (.putfield 11, 3) := dk_putfield 11 (b1 := 0) (b2 := 11) (by decide +kernel) (by decide +kernel) (by decide +kernel) (by decide +kernel)
theorem dX2_init_12 : decode cX2_init 12 = .ok (.aload_n 0, 1) := dk_aload_n_0 (by decide +kernel)
theorem dX2_init_13 : decode cX2_init 13 = .ok (.sipush 192, 3) := dk_sipush 192 (b1 := 0) (b2 := 192) (by decide +kernel) (by decide +kernel) (by decide +kernel) (by decide +kernel)
theorem dX2_init_16 : decode cX2_init 16 = .ok (.newarray .int, 2) := by decide +kernel
theorem dX2_init_18 : decode cX2_init 18 = .ok (.putfield 15, 3) := dk_putfield 15 (b1 := 0) (b2 := 15) (by decide +kernel) (by decide +kernel) (by decide +kernel) (by decide +kernel)
theorem dX2_init_21 : decode cX2_init 21 = .ok (.aload_n 0, 1) := dk_aload_n_0 (by decide +kernel)
theorem dX2_init_22 : decode cX2_init 22 = .ok (.sipush 192, 3) := dk_sipush 192 (b1 := 0) (b2 := 192) (by decide +kernel) (by decide +kernel) (by decide +kernel) (by decide +kernel)
theorem dX2_init_25 : decode cX2_init 25 = .ok (.newarray .boolean, 2) := by decide +kernel
theorem dX2_init_27 : decode cX2_init 27 = .ok (.putfield 18, 3) := dk_putfield 18 (b1 := 0) (b2 := 18) (by decide +kernel) (by decide +kernel) (by decide +kernel) (by decide +kernel)
theorem dX2_init_30 : decode cX2_init 30 = .ok (.aload_n 0, 1) := dk_aload_n_0 (by decide +kernel)
theorem dX2_init_31 : decode cX2_init 31 = .ok (.bipush 96, 2) := dk_bipush 96 (b := 96) (by decide +kernel) (by decide +kernel) (by decide +kernel)
theorem dX2_init_33 : decode cX2_init 33 = .ok (.newarray .int, 2) := by decide +kernel
theorem dX2_init_35 : decode cX2_init 35 = .ok (.putfield 22, 3) := dk_putfield 22 (b1 := 0) (b2 := 22) (by decide +kernel) (by decide +kernel) (by decide +kernel) (by decide +kernel)
theorem dX2_init_38 : decode cX2_init 38 = .ok (.aload_n 0, 1) := dk_aload_n_0 (by decide +kernel)
theorem dX2_init_39 : decode cX2_init 39 = .ok (.bipush 24, 2) := dk_bipush 24 (b := 24) (by decide +kernel) (by decide +kernel) (by decide +kernel)
theorem dX2_init_41 : decode cX2_init 41 = .ok (.newarray .int, 2) := by decide +kernel
theorem dX2_init_43 : decode cX2_init 43 = .ok (.putfield 25, 3) := dk_putfield 25 (b1 := 0) (b2 := 25) (by decide +kernel) (by decide +kernel) (by decide +kernel) (by decide +kernel)
theorem dX2_init_46 : decode cX2_init 46 = .ok (.aload_n 0, 1) := dk_aload_n_0 (by decide +kernel)
theorem dX2_init_47 : decode cX2_init 47 = .ok (.bipush 24, 2) := dk_bipush 24 (b := 24) (by decide +kernel) (by decide +kernel) (by decide +kernel)
theorem dX2_init_49 : decode cX2_init 49 = .ok (.newarray .boolean, 2) := by decide +kernel
theorem dX2_init_51 : decode cX2_init 51 = .ok (.putfield 28, 3) := dk_putfield 28 (b1 := 0) (b2 := 28) (by decide +kernel) (by decide +kernel) (by decide +kernel) (by decide +kernel)
theorem dX2_init_54 : decode cX2_init 54 = .ok (.aload_n 0, 1) := dk_aload_n_0 (by decide +kernel)
theorem dX2_init_55 : decode cX2_init 55 = .ok (.bipush 48, 2) := dk_bipush 48 (b := 48) (by decide +kernel) (by decide +kernel) (by decide +kernel)
theorem dX2_init_57 : decode cX2_init 57 = .ok (.newarray .int, 2) := by decide +kernel
theorem dX2_init_59 : decode cX2_init 59 = .ok (.putfield 31, 3) := dk_putfield 31 (b1 := 0) (b2 := 31) (by decide +kernel) (by decide +kernel) (by decide +kernel) (by decide +kernel)
theorem dX2_init_62 : decode cX2_init 62 = .ok (.aload_n 0, 1) := dk_aload_n_0 (by decide +kernel)
theorem dX2_init_63 : decode cX2_init 63 = .ok (.bipush 49, 2) := dk_bipush 49 (b := 49) (by decide +kernel) (by decide +kernel) (by decide +kernel)
theorem dX2_init_65 : decode cX2_init 65 = .ok (.newarray .int, 2) := by decide +kernel
theorem dX2_init_67 : decode cX2_init 67 = .ok (.putfield 34, 3) := dk_putfield 34 (b1 := 0) (b2 := 34) (by decide +kernel) (by decide +kernel) (by decide +kernel) (by decide +kernel)
theorem dX2_init_70 : decode cX2_init 70 = .ok (.aload_n 0, 1) := dk_aload_n_0 (by decide +kernel)
theorem dX2_init_71 : decode cX2_init 71 = .ok (.bipush 48, 2) := dk_bipush 48 (b := 48) (by decide +kernel) (by decide +kernel) (by decide +kernel)
theorem dX2_init_73 : decode cX2_init 73 = .ok (.newarray .int, 2) := by decide +kernel
theorem dX2_init_75 : decode cX2_init 75 = .ok (.putfield 37, 3) := dk_putfield 37 (b1 := 0) (b2 := 37) (by decide +kernel) (by decide +kernel) (by decide +kernel) (by decide +kernel)
theorem dX2_init_78 : decode cX2_init 78 = .ok (.aload_n 0, 1) := dk_aload_n_0 (by decide +kernel)
theorem dX2_init_79 : decode cX2_init 79 = .ok (.bipush 48, 2) := dk_bipush 48 (b := 48) (by decide +kernel) (by decide +kernel) (by decide +kernel)
theorem dX2_init_81 : decode cX2_init 81 = .ok (.newarray .boolean, 2) := by decide +kernel
theorem dX2_init_83 : decode cX2_init 83 = .ok (.putfield 40, 3) := dk_putfield 40 (b1 := 0) (b2 := 40) (by decide +kernel) (by decide +kernel) (by decide +kernel) (by decide +kernel)
theorem dX2_init_86 : decode cX2_init 86 = .ok (.return_, 1) := dk_return_ (by decide +kernel)
set_option maxRecDepth 20000 in
theorem vX2_init_0 {E : sm_E} {d : Nat} {a0 : Nat} {m : sm_M} {Q : sm_M → Prop} (hd : 1 ≤ d)
  (h : ∀ m_1 : sm_M, m_1 = sm_nw m 11 48 →
   (sm_K m_1.2.2 a0 = 2) ∧ ∀ m_2 : sm_M, m_2 = sm_wR m_1 a0 0 (some (sm_top m.2.2)) →
   ∀ m_4 : sm_M, m_4 = sm_nw m_2 11 192 →
   (sm_K m_4.2.2 a0 = 2) ∧ ∀ m_5 : sm_M, m_5 = sm_wR m_4 a0 1 (some (sm_top m_2.2.2)) →
   ∀ m_7 : sm_M, m_7 = sm_nw m_5 13 192 →
   (sm_K m_7.2.2 a0 = 2) ∧ ∀ m_8 : sm_M, m_8 = sm_wR m_7 a0 2 (some (sm_top m_5.2.2)) →
   ∀ m_10 : sm_M, m_10 = sm_nw m_8 11 96 →
   (sm_K m_10.2.2 a0 = 2) ∧ ∀ m_11 : sm_M, m_11 = sm_wR m_10 a0 3 (some (sm_top m_8.2.2)) →
   ∀ m_13 : sm_M, m_13 = sm_nw m_11 11 24 →
   (sm_K m_13.2.2 a0 = 2) ∧ ∀ m_14 : sm_M, m_14 = sm_wR m_13 a0 4 (some (sm_top m_11.2.2)) →
   ∀ m_16 : sm_M, m_16 = sm_nw m_14 13 24 →
   (sm_K m_16.2.2 a0 = 2) ∧ ∀ m_17 : sm_M, m_17 = sm_wR m_16 a0 5 (some (sm_top m_14.2.2)) →
   ∀ m_19 : sm_M, m_19 = sm_nw m_17 11 48 →
   (sm_K m_19.2.2 a0 = 2) ∧ ∀ m_20 : sm_M, m_20 = sm_wR m_19 a0 6 (some (sm_top m_17.2.2)) →
   ∀ m_22 : sm_M, m_22 = sm_nw m_20 11 49 →
   (sm_K m_22.2.2 a0 = 2) ∧ ∀ m_23 : sm_M, m_23 = sm_wR m_22 a0 7 (some (sm_top m_20.2.2)) →
   ∀ m_25 : sm_M, m_25 = sm_nw m_23 11 48 →
   (sm_K m_25.2.2 a0 = 2) ∧ ∀ m_26 : sm_M, m_26 = sm_wR m_25 a0 8 (some (sm_top m_23.2.2)) →
   ∀ m_28 : sm_M, m_28 = sm_nw m_26 13 48 →
   (sm_K m_28.2.2 a0 = 2) ∧ ∀ m_29 : sm_M, m_29 = sm_wR m_28 a0 9 (some (sm_top m_26.2.2)) →
   Q m_29) :
  sm_callV E sm_L0 mX2_init d 10 769 [.ref (sm_B E + a0)] m Q := by
  refine sm_enter (by decide +kernel) (by simp [lg_sl, Value.category]) ?_
  refine sm_aload_n (Y := mX2_init) (pc := 0) 0 0 rfl rfl dX2_init_0 ?_
  refine sm_obj (Y := mX2_init) (pc := 1) wRX2_5 (Nat.le_trans (by decide) hd) (Nat.le_of_ble_eq_true rfl) dX2_init_1 ?_
  refine sm_aload_n (Y := mX2_init) (pc := 4) 0 0 rfl rfl dX2_init_4 ?_
  refine sm_bipush (Y := mX2_init) (pc := 5) 48 (by decide) dX2_init_5 ?_
  refine sm_newI (Y := mX2_init) (pc := 7) (N := 48) wa_int (by decide) rfl (Nat.le_of_ble_eq_true rfl) (fun _ => trivial) (Nat.le_of_ble_eq_true rfl) (Nat.le_of_ble_eq_true rfl) dX2_init_7 (fun m_1 em_1 => ?_)
  replace h := h m_1 em_1
  obtain ⟨hn_3, h⟩ := h
  refine sm_putR (Y := mX2_init) (pc := 9) (k := 0) (b := (sm_top m.2.2)) (ty := (.array .int)) (Or.inr ⟨_, rfl⟩) (fun _ => hn_3) (by decide) rfl (by decide) rfl rfl wRX2_11 rfl rfl rfl (by decide +kernel) (fun _ => trivial) dX2_init_9 (fun m_2 em_2 => ?_)
  replace h := h m_2 em_2
  refine sm_aload_n (Y := mX2_init) (pc := 12) 0 0 rfl rfl dX2_init_12 ?_
  refine sm_sipush (Y := mX2_init) (pc := 13) 192 (by decide) dX2_init_13 ?_
  refine sm_newI (Y := mX2_init) (pc := 16) (N := 192) wa_int (by decide) rfl (Nat.le_of_ble_eq_true rfl) (fun _ => trivial) (Nat.le_of_ble_eq_true rfl) (Nat.le_of_ble_eq_true rfl) dX2_init_16 (fun m_4 em_4 => ?_)
  replace h := h m_4 em_4
  obtain ⟨hn_6, h⟩ := h
  refine sm_putR (Y := mX2_init) (pc := 18) (k := 1) (b := (sm_top m_2.2.2)) (ty := (.array .int)) (Or.inr ⟨_, rfl⟩) (fun _ => hn_6) (by decide) rfl (by decide) rfl rfl wRX2_15 rfl rfl rfl (by decide +kernel) (fun _ => trivial) dX2_init_18 (fun m_5 em_5 => ?_)
  replace h := h m_5 em_5
  refine sm_aload_n (Y := mX2_init) (pc := 21) 0 0 rfl rfl dX2_init_21 ?_
  refine sm_sipush (Y := mX2_init) (pc := 22) 192 (by decide) dX2_init_22 ?_
  refine sm_newZ (Y := mX2_init) (pc := 25) (N := 192) wa_boolean (by decide) rfl (Nat.le_of_ble_eq_true rfl) (fun _ => trivial) (Nat.le_of_ble_eq_true rfl) (Nat.le_of_ble_eq_true rfl) dX2_init_25 (fun m_7 em_7 => ?_)
  replace h := h m_7 em_7
  obtain ⟨hn_9, h⟩ := h
  refine sm_putR (Y := mX2_init) (pc := 27) (k := 2) (b := (sm_top m_5.2.2)) (ty := (.array .boolean)) (Or.inr ⟨_, rfl⟩) (fun _ => hn_9) (by decide) rfl (by decide) rfl rfl wRX2_18 rfl rfl rfl (by decide +kernel) (fun _ => trivial) dX2_init_27 (fun m_8 em_8 => ?_)
  replace h := h m_8 em_8
  refine sm_aload_n (Y := mX2_init) (pc := 30) 0 0 rfl rfl dX2_init_30 ?_
  refine sm_bipush (Y := mX2_init) (pc := 31) 96 (by decide) dX2_init_31 ?_
  refine sm_newI (Y := mX2_init) (pc := 33) (N := 96) wa_int (by decide) rfl (Nat.le_of_ble_eq_true rfl) (fun _ => trivial) (Nat.le_of_ble_eq_true rfl) (Nat.le_of_ble_eq_true rfl) dX2_init_33 (fun m_10 em_10 => ?_)
  replace h := h m_10 em_10
  obtain ⟨hn_12, h⟩ := h
  refine sm_putR (Y := mX2_init) (pc := 35) (k := 3) (b := (sm_top m_8.2.2)) (ty := (.array .int)) (Or.inr ⟨_, rfl⟩) (fun _ => hn_12) (by decide) rfl (by decide) rfl rfl wRX2_22 rfl rfl rfl (by decide +kernel) (fun _ => trivial) dX2_init_35 (fun m_11 em_11 => ?_)
  replace h := h m_11 em_11
  refine sm_aload_n (Y := mX2_init) (pc := 38) 0 0 rfl rfl dX2_init_38 ?_
  refine sm_bipush (Y := mX2_init) (pc := 39) 24 (by decide) dX2_init_39 ?_
  refine sm_newI (Y := mX2_init) (pc := 41) (N := 24) wa_int (by decide) rfl (Nat.le_of_ble_eq_true rfl) (fun _ => trivial) (Nat.le_of_ble_eq_true rfl) (Nat.le_of_ble_eq_true rfl) dX2_init_41 (fun m_13 em_13 => ?_)
  replace h := h m_13 em_13
  obtain ⟨hn_15, h⟩ := h
  refine sm_putR (Y := mX2_init) (pc := 43) (k := 4) (b := (sm_top m_11.2.2)) (ty := (.array .int)) (Or.inr ⟨_, rfl⟩) (fun _ => hn_15) (by decide) rfl (by decide) rfl rfl wRX2_25 rfl rfl rfl (by decide +kernel) (fun _ => trivial) dX2_init_43 (fun m_14 em_14 => ?_)
  replace h := h m_14 em_14
  refine sm_aload_n (Y := mX2_init) (pc := 46) 0 0 rfl rfl dX2_init_46 ?_
  refine sm_bipush (Y := mX2_init) (pc := 47) 24 (by decide) dX2_init_47 ?_
  refine sm_newZ (Y := mX2_init) (pc := 49) (N := 24) wa_boolean (by decide) rfl (Nat.le_of_ble_eq_true rfl) (fun _ => trivial) (Nat.le_of_ble_eq_true rfl) (Nat.le_of_ble_eq_true rfl) dX2_init_49 (fun m_16 em_16 => ?_)
  replace h := h m_16 em_16
  obtain ⟨hn_18, h⟩ := h
  refine sm_putR (Y := mX2_init) (pc := 51) (k := 5) (b := (sm_top m_14.2.2)) (ty := (.array .boolean)) (Or.inr ⟨_, rfl⟩) (fun _ => hn_18) (by decide) rfl (by decide) rfl rfl wRX2_28 rfl rfl rfl (by decide +kernel) (fun _ => trivial) dX2_init_51 (fun m_17 em_17 => ?_)
  replace h := h m_17 em_17
  refine sm_aload_n (Y := mX2_init) (pc := 54) 0 0 rfl rfl dX2_init_54 ?_
  refine sm_bipush (Y := mX2_init) (pc := 55) 48 (by decide) dX2_init_55 ?_
  refine sm_newI (Y := mX2_init) (pc := 57) (N := 48) wa_int (by decide) rfl (Nat.le_of_ble_eq_true rfl) (fun _ => trivial) (Nat.le_of_ble_eq_true rfl) (Nat.le_of_ble_eq_true rfl) dX2_init_57 (fun m_19 em_19 => ?_)
  replace h := h m_19 em_19
  obtain ⟨hn_21, h⟩ := h
  refine sm_putR (Y := mX2_init) (pc := 59) (k := 6) (b := (sm_top m_17.2.2)) (ty := (.array .int)) (Or.inr ⟨_, rfl⟩) (fun _ => hn_21) (by decide) rfl (by decide) rfl rfl wRX2_31 rfl rfl rfl (by decide +kernel) (fun _ => trivial) dX2_init_59 (fun m_20 em_20 => ?_)
  replace h := h m_20 em_20
  refine sm_aload_n (Y := mX2_init) (pc := 62) 0 0 rfl rfl dX2_init_62 ?_
  refine sm_bipush (Y := mX2_init) (pc := 63) 49 (by decide) dX2_init_63 ?_
  refine sm_newI (Y := mX2_init) (pc := 65) (N := 49) wa_int (by decide) rfl (Nat.le_of_ble_eq_true rfl) (fun _ => trivial) (Nat.le_of_ble_eq_true rfl) (Nat.le_of_ble_eq_true rfl) dX2_init_65 (fun m_22 em_22 => ?_)
  replace h := h m_22 em_22
  obtain ⟨hn_24, h⟩ := h
  refine sm_putR (Y := mX2_init) (pc := 67) (k := 7) (b := (sm_top m_20.2.2)) (ty := (.array .int)) (Or.inr ⟨_, rfl⟩) (fun _ => hn_24) (by decide) rfl (by decide) rfl rfl wRX2_34 rfl rfl rfl (by decide +kernel) (fun _ => trivial) dX2_init_67 (fun m_23 em_23 => ?_)
  replace h := h m_23 em_23
  refine sm_aload_n (Y := mX2_init) (pc := 70) 0 0 rfl rfl dX2_init_70 ?_
  refine sm_bipush (Y := mX2_init) (pc := 71) 48 (by decide) dX2_init_71 ?_
  refine sm_newI (Y := mX2_init) (pc := 73) (N := 48) wa_int (by decide) rfl (Nat.le_of_ble_eq_true rfl) (fun _ => trivial) (Nat.le_of_ble_eq_true rfl) (Nat.le_of_ble_eq_true rfl) dX2_init_73 (fun m_25 em_25 => ?_)
  replace h := h m_25 em_25
  obtain ⟨hn_27, h⟩ := h
  refine sm_putR (Y := mX2_init) (pc := 75) (k := 8) (b := (sm_top m_23.2.2)) (ty := (.array .int)) (Or.inr ⟨_, rfl⟩) (fun _ => hn_27) (by decide) rfl (by decide) rfl rfl wRX2_37 rfl rfl rfl (by decide +kernel) (fun _ => trivial) dX2_init_75 (fun m_26 em_26 => ?_)
  replace h := h m_26 em_26
  refine sm_aload_n (Y := mX2_init) (pc := 78) 0 0 rfl rfl dX2_init_78 ?_
  refine sm_bipush (Y := mX2_init) (pc := 79) 48 (by decide) dX2_init_79 ?_
  refine sm_newZ (Y := mX2_init) (pc := 81) (N := 48) wa_boolean (by decide) rfl (Nat.le_of_ble_eq_true rfl) (fun _ => trivial) (Nat.le_of_ble_eq_true rfl) (Nat.le_of_ble_eq_true rfl) dX2_init_81 (fun m_28 em_28 => ?_)
  replace h := h m_28 em_28
  obtain ⟨hn_30, h⟩ := h
  refine sm_putR (Y := mX2_init) (pc := 83) (k := 9) (b := (sm_top m_26.2.2)) (ty := (.array .boolean)) (Or.inr ⟨_, rfl⟩) (fun _ => hn_30) (by decide) rfl (by decide) rfl rfl wRX2_40 rfl rfl rfl (by decide +kernel) (fun _ => trivial) dX2_init_83 (fun m_29 em_29 => ?_)
  replace h := h m_29 em_29
  refine sm_widen (k := 10) (n := 769) (Nat.le_of_ble_eq_true rfl) (Nat.le_of_ble_eq_true rfl) ?_
  exact sm_vret (Y := mX2_init) (pc := 86) rfl rfl rfl dX2_init_86 ⟨rfl, h⟩
abbrev mX5_init : sm_Y := (yX5_init, cX5_init, 1, none)
theorem fX5_init : sm_mn mX5_init 0 := ⟨sm_in 324 (by decide +kernel) (by decide +kernel), rfl, rfl, sm_in 323 (by decide +kernel) (by decide +kernel), sm_in 90 (by decide +kernel) (by decide +kernel), ⟨by decide +kernel, by decide +kernel, by decide +kernel⟩, by decide⟩
theorem dX5_init_0 : decode cX5_init 0 = .ok (.aload_n 0, 1) := dk_aload_n_0 (by decide +kernel)
theorem wRX5_3 : Cond.methodLink RX5 3 Lib.objectInit ∈ sm_T := sm_in 325 (by decide +kernel) (by decide +kernel)
theorem dX5_init_1 : decode cX5_init 1 = .ok (.invokespecial 3, 3) := dk_invokespecial 3 (b1 := 0) (b2 := 3) (by decide +kernel) (by decide +kernel) (by decide +kernel) (by decide +kernel)
theorem dX5_init_4 : decode cX5_init 4 = .ok (.aload_n 0, 1) := dk_aload_n_0 (by decide +kernel)
theorem dX5_init_5 : decode cX5_init 5 = .ok (.bipush 13, 2) := dk_bipush 13 (b := 13) (by decide +kernel) (by decide +kernel) (by decide +kernel)
theorem wRX5_9 : Cond.classLink RX5 9 "[I" ∈ sm_T := sm_in 326 (by decide +kernel) (by decide +kernel)
theorem dX5_init_7 : decode cX5_init 7 = .ok (.anewarray 9, 3) := dk_anewarray 9 (b1 := 0) (b2 := 9) (by decide +kernel) (by decide +kernel) (by decide +kernel) (by decide +kernel)
theorem dX5_init_10 : decode cX5_init 10 = .ok (.putfield 11, 3) := dk_putfield 11 (b1 := 0) (b2 := 11) (by decide +kernel) (by decide +kernel) (by decide +kernel) (by decide +kernel)
theorem dX5_init_13 : decode cX5_init 13 = .ok (.return_, 1) := dk_return_ (by decide +kernel)
set_option maxRecDepth 20000 in
theorem vX5_init_0 {E : sm_E} {d : Nat} {a0 : Nat} {m : sm_M} {Q : sm_M → Prop} (hd : 1 ≤ d)
  (h : ∀ m_1 : sm_M, m_1 = sm_nw m 16 13 →
   (sm_K m_1.2.2 a0 = 4) ∧ ∀ m_2 : sm_M, m_2 = sm_wR m_1 a0 0 (some (sm_top m.2.2)) →
   Q m_2) :
  sm_callV E sm_L0 mX5_init d 1 13 [.ref (sm_B E + a0)] m Q := by
  refine sm_enter (by decide +kernel) (by simp [lg_sl, Value.category]) ?_
  refine sm_aload_n (Y := mX5_init) (pc := 0) 0 0 rfl rfl dX5_init_0 ?_
  refine sm_obj (Y := mX5_init) (pc := 1) wRX5_3 (Nat.le_trans (by decide) hd) (Nat.le_of_ble_eq_true rfl) dX5_init_1 ?_
  refine sm_aload_n (Y := mX5_init) (pc := 4) 0 0 rfl rfl dX5_init_4 ?_
  refine sm_bipush (Y := mX5_init) (pc := 5) 13 (by decide) dX5_init_5 ?_
  refine sm_newA (Y := mX5_init) (pc := 7) (N := 13) wRX5_9 (by decide) rfl (Nat.le_of_ble_eq_true rfl) (fun _ => trivial) (Nat.le_of_ble_eq_true rfl) (Nat.le_of_ble_eq_true rfl) dX5_init_7 (fun m_1 em_1 => ?_)
  replace h := h m_1 em_1
  obtain ⟨hn_3, h⟩ := h
  refine sm_putR (Y := mX5_init) (pc := 10) (k := 0) (b := (sm_top m.2.2)) (ty := (.array (.array .int))) (Or.inr ⟨_, rfl⟩) (fun _ => hn_3) (by decide) rfl (by decide) rfl rfl wRX5_11 rfl rfl rfl (by decide +kernel) (fun _ => trivial) dX5_init_10 (fun m_2 em_2 => ?_)
  replace h := h m_2 em_2
  refine sm_widen (k := 1) (n := 13) (Nat.le_of_ble_eq_true rfl) (Nat.le_of_ble_eq_true rfl) ?_
  exact sm_vret (Y := mX5_init) (pc := 13) rfl rfl rfl dX5_init_13 ⟨rfl, h⟩
abbrev mX0_init : sm_Y := (yX0_init, cX0_init, 1, none)
theorem fX0_init : sm_mn mX0_init 0 := ⟨sm_in 335 (by decide +kernel) (by decide +kernel), rfl, rfl, sm_in 334 (by decide +kernel) (by decide +kernel), sm_in 91 (by decide +kernel) (by decide +kernel), ⟨by decide +kernel, by decide +kernel, by decide +kernel⟩, by decide⟩
theorem dX0_init_0 : decode cX0_init 0 = .ok (.aload_n 0, 1) := dk_aload_n_0 (by decide +kernel)
theorem wRX0_3 : Cond.methodLink RX0 3 Lib.objectInit ∈ sm_T := sm_in 336 (by decide +kernel) (by decide +kernel)
theorem dX0_init_1 : decode cX0_init 1 = .ok (.invokespecial 3, 3) := dk_invokespecial 3 (b1 := 0) (b2 := 3) (by decide +kernel) (by decide +kernel) (by decide +kernel) (by decide +kernel)
theorem dX0_init_4 : decode cX0_init 4 = .ok (.aload_n 0, 1) := dk_aload_n_0 (by decide +kernel)
theorem dX0_init_5 : decode cX0_init 5 = .ok (.bipush 40, 2) := dk_bipush 40 (b := 40) (by decide +kernel) (by decide +kernel) (by decide +kernel)
theorem wa_long : Cond.arrayClass .long ∈ sm_T := sm_in 352 (by decide +kernel) (by decide +kernel)
theorem dX0_init_7 : decode cX0_init 7 = .ok (.newarray .long, 2) := by decide +kernel
theorem dX0_init_9 : decode cX0_init 9 = .ok (.putfield 9, 3) := dk_putfield 9 (b1 := 0) (b2 := 9) (by decide +kernel) (by decide +kernel) (by decide +kernel) (by decide +kernel)
theorem dX0_init_12 : decode cX0_init 12 = .ok (.aload_n 0, 1) := dk_aload_n_0 (by decide +kernel)
theorem dX0_init_13 : decode cX0_init 13 = .ok (.bipush 40, 2) := dk_bipush 40 (b := 40) (by decide +kernel) (by decide +kernel) (by decide +kernel)
theorem dX0_init_15 : decode cX0_init 15 = .ok (.newarray .int, 2) := by decide +kernel
theorem dX0_init_17 : decode cX0_init 17 = .ok (.putfield 15, 3) := dk_putfield 15 (b1 := 0) (b2 := 15) (by decide +kernel) (by decide +kernel) (by decide +kernel) (by decide +kernel)
theorem dX0_init_20 : decode cX0_init 20 = .ok (.aload_n 0, 1) := dk_aload_n_0 (by decide +kernel)
theorem dX0_init_21 : decode cX0_init 21 = .ok (.iconst 0, 1) := dk_iconst_0 (by decide +kernel)
theorem dX0_init_22 : decode cX0_init 22 = .ok (.putfield 19, 3) := dk_putfield 19 (b1 := 0) (b2 := 19) (by decide +kernel) (by decide +kernel) (by decide +kernel) (by decide +kernel)
theorem dX0_init_25 : decode cX0_init 25 = .ok (.aload_n 0, 1) := dk_aload_n_0 (by decide +kernel)
theorem dX0_init_26 : decode cX0_init 26 = .ok (.iconst 0, 1) := dk_iconst_0 (by decide +kernel)
theorem dX0_init_27 : decode cX0_init 27 = .ok (.putfield 23, 3) := dk_putfield 23 (b1 := 0) (b2 := 23) (by decide +kernel) (by decide +kernel) (by decide +kernel) (by decide +kernel)
theorem dX0_init_30 : decode cX0_init 30 = .ok (.return_, 1) := dk_return_ (by decide +kernel)
set_option maxRecDepth 20000 in
theorem vX0_init_0 {E : sm_E} {d : Nat} {a0 : Nat} {m : sm_M} {Q : sm_M → Prop} (hd : 1 ≤ d)
  (h : ∀ m_1 : sm_M, m_1 = sm_nw m 12 40 →
   (sm_K m_1.2.2 a0 = 0) ∧ ∀ m_2 : sm_M, m_2 = sm_wR m_1 a0 0 (some (sm_top m.2.2)) →
   ∀ m_4 : sm_M, m_4 = sm_nw m_2 11 40 →
   (sm_K m_4.2.2 a0 = 0) ∧ ∀ m_5 : sm_M, m_5 = sm_wR m_4 a0 1 (some (sm_top m_2.2.2)) →
   (sm_K m_5.2.2 a0 = 0) ∧ ∀ m_7 : sm_M, m_7 = sm_wI m_5 a0 2 0 →
   (sm_K m_7.2.2 a0 = 0) ∧ ∀ m_9 : sm_M, m_9 = sm_wI m_7 a0 3 0 →
   Q m_9) :
  sm_callV E sm_L0 mX0_init d 2 80 [.ref (sm_B E + a0)] m Q := by
  refine sm_enter (by decide +kernel) (by simp [lg_sl, Value.category]) ?_
  refine sm_aload_n (Y := mX0_init) (pc := 0) 0 0 rfl rfl dX0_init_0 ?_
  refine sm_obj (Y := mX0_init) (pc := 1) wRX0_3 (Nat.le_trans (by decide) hd) (Nat.le_of_ble_eq_true rfl) dX0_init_1 ?_
  refine sm_aload_n (Y := mX0_init) (pc := 4) 0 0 rfl rfl dX0_init_4 ?_
  refine sm_bipush (Y := mX0_init) (pc := 5) 40 (by decide) dX0_init_5 ?_
  refine sm_newJ (Y := mX0_init) (pc := 7) (N := 40) wa_long (by decide) rfl (Nat.le_of_ble_eq_true rfl) (fun _ => trivial) (Nat.le_of_ble_eq_true rfl) (Nat.le_of_ble_eq_true rfl) dX0_init_7 (fun m_1 em_1 => ?_)
  replace h := h m_1 em_1
  obtain ⟨hn_3, h⟩ := h
  refine sm_putR (Y := mX0_init) (pc := 9) (k := 0) (b := (sm_top m.2.2)) (ty := (.array .long)) (Or.inr ⟨_, rfl⟩) (fun _ => hn_3) (by decide) rfl (by decide) rfl rfl wRX0_9 rfl rfl rfl (by decide +kernel) (fun _ => trivial) dX0_init_9 (fun m_2 em_2 => ?_)
  replace h := h m_2 em_2
  refine sm_aload_n (Y := mX0_init) (pc := 12) 0 0 rfl rfl dX0_init_12 ?_
  refine sm_bipush (Y := mX0_init) (pc := 13) 40 (by decide) dX0_init_13 ?_
  refine sm_newI (Y := mX0_init) (pc := 15) (N := 40) wa_int (by decide) rfl (Nat.le_of_ble_eq_true rfl) (fun _ => trivial) (Nat.le_of_ble_eq_true rfl) (Nat.le_of_ble_eq_true rfl) dX0_init_15 (fun m_4 em_4 => ?_)
  replace h := h m_4 em_4
  obtain ⟨hn_6, h⟩ := h
  refine sm_putR (Y := mX0_init) (pc := 17) (k := 1) (b := (sm_top m_2.2.2)) (ty := (.array .int)) (Or.inr ⟨_, rfl⟩) (fun _ => hn_6) (by decide) rfl (by decide) rfl rfl wRX0_15 rfl rfl rfl (by decide +kernel) (fun _ => trivial) dX0_init_17 (fun m_5 em_5 => ?_)
  replace h := h m_5 em_5
  refine sm_aload_n (Y := mX0_init) (pc := 20) 0 0 rfl rfl dX0_init_20 ?_
  refine sm_iconst (Y := mX0_init) (pc := 21) 0 (by decide) dX0_init_21 ?_
  obtain ⟨hn_8, h⟩ := h
  refine pf_RX0_19 (Y := mX0_init) (pc := 22) rfl (fun _ => hn_8) dX0_init_22 (fun m_7 em_7 => ?_)
  replace h := h m_7 em_7
  refine sm_aload_n (Y := mX0_init) (pc := 25) 0 0 rfl rfl dX0_init_25 ?_
  refine sm_iconst (Y := mX0_init) (pc := 26) 0 (by decide) dX0_init_26 ?_
  obtain ⟨hn_10, h⟩ := h
  refine pf_RX0_23 (Y := mX0_init) (pc := 27) rfl (fun _ => hn_10) dX0_init_27 (fun m_9 em_9 => ?_)
  replace h := h m_9 em_9
  refine sm_widen (k := 2) (n := 80) (Nat.le_of_ble_eq_true rfl) (Nat.le_of_ble_eq_true rfl) ?_
  exact sm_vret (Y := mX0_init) (pc := 30) rfl rfl rfl dX0_init_30 ⟨rfl, h⟩
abbrev mX7_init : sm_Y := (yX7_init, cX7_init, 1, none)
theorem fX7_init : sm_mn mX7_init 0 := ⟨sm_in 358 (by decide +kernel) (by decide +kernel), rfl, rfl, sm_in 357 (by decide +kernel) (by decide +kernel), sm_in 92 (by decide +kernel) (by decide +kernel), ⟨by decide +kernel, by decide +kernel, by decide +kernel⟩, by decide⟩
theorem dX7_init_0 : decode cX7_init 0 = .ok (.aload_n 0, 1) := dk_aload_n_0 (by decide +kernel)
theorem wRX7_3 : Cond.methodLink RX7 3 Lib.objectInit ∈ sm_T := sm_in 359 (by decide +kernel) (by decide +kernel)
theorem dX7_init_1 : decode cX7_init 1 = .ok (.invokespecial 3, 3) := dk_invokespecial 3 (b1 := 0) (b2 := 3) (by decide +kernel) (by decide +kernel) (by decide +kernel) (by decide +kernel)
theorem dX7_init_4 : decode cX7_init 4 = .ok (.aload_n 0, 1) := dk_aload_n_0 (by decide +kernel)
theorem dX7_init_5 : decode cX7_init 5 = .ok (.bipush 48, 2) := dk_bipush 48 (b := 48) (by decide +kernel) (by decide +kernel) (by decide +kernel)
theorem dX7_init_7 : decode cX7_init 7 = .ok (.newarray .long, 2) := by decide +kernel
theorem dX7_init_9 : decode cX7_init 9 = .ok (.putfield 9, 3) := dk_putfield 9 (b1 := 0) (b2 := 9) (by decide +kernel) (by decide +kernel) (by decide +kernel) (by decide +kernel)
theorem dX7_init_12 : decode cX7_init 12 = .ok (.aload_n 0, 1) := dk_aload_n_0 (by decide +kernel)
theorem dX7_init_13 : decode cX7_init 13 = .ok (.iconst 0, 1) := dk_iconst_0 (by decide +kernel)
theorem dX7_init_14 : decode cX7_init 14 = .ok (.putfield 15, 3) := dk_putfield 15 (b1 := 0) (b2 := 15) (by decide +kernel) (by decide +kernel) (by decide +kernel) (by decide +kernel)
theorem dX7_init_17 : decode cX7_init 17 = .ok (.aload_n 0, 1) := dk_aload_n_0 (by decide +kernel)
theorem dX7_init_18 : decode cX7_init 18 = .ok (.iconst 0, 1) := dk_iconst_0 (by decide +kernel)
theorem dX7_init_19 : decode cX7_init 19 = .ok (.putfield 19, 3) := dk_putfield 19 (b1 := 0) (b2 := 19) (by decide +kernel) (by decide +kernel) (by decide +kernel) (by decide +kernel)
theorem dX7_init_22 : decode cX7_init 22 = .ok (.aload_n 0, 1) := dk_aload_n_0 (by decide +kernel)
theorem dX7_init_23 : decode cX7_init 23 = .ok (.lconst 0, 1) := dk_lconst_0 (by decide +kernel)
theorem dX7_init_24 : decode cX7_init 24 = .ok (.putfield 22, 3) := dk_putfield 22 (b1 := 0) (b2 := 22) (by decide +kernel) (by decide +kernel) (by decide +kernel) (by decide +kernel)
theorem dX7_init_27 : decode cX7_init 27 = .ok (.aload_n 0, 1) := dk_aload_n_0 (by decide +kernel)
theorem dX7_init_28 : decode cX7_init 28 = .ok (.lconst 1, 1) := dk_lconst_1 (by decide +kernel)
theorem dX7_init_29 : decode cX7_init 29 = .ok (.putfield 26, 3) := dk_putfield 26 (b1 := 0) (b2 := 26) (by decide +kernel) (by decide +kernel) (by decide +kernel) (by decide +kernel)
theorem dX7_init_32 : decode cX7_init 32 = .ok (.return_, 1) := dk_return_ (by decide +kernel)
set_option maxRecDepth 20000 in
theorem vX7_init_0 {E : sm_E} {d : Nat} {a0 : Nat} {m : sm_M} {Q : sm_M → Prop} (hd : 1 ≤ d)
  (h : ∀ m_1 : sm_M, m_1 = sm_nw m 12 48 →
   (sm_K m_1.2.2 a0 = 5) ∧ ∀ m_2 : sm_M, m_2 = sm_wR m_1 a0 0 (some (sm_top m.2.2)) →
   (sm_K m_2.2.2 a0 = 5) ∧ ∀ m_4 : sm_M, m_4 = sm_wI m_2 a0 1 0 →
   (sm_K m_4.2.2 a0 = 5) ∧ ∀ m_6 : sm_M, m_6 = sm_wI m_4 a0 2 0 →
   (sm_K m_6.2.2 a0 = 5) ∧ ∀ m_8 : sm_M, m_8 = sm_wJ m_6 a0 3 0 →
   (sm_K m_8.2.2 a0 = 5) ∧ ∀ m_10 : sm_M, m_10 = sm_wJ m_8 a0 4 1 →
   Q m_10) :
  sm_callV E sm_L0 mX7_init d 1 48 [.ref (sm_B E + a0)] m Q := by
  refine sm_enter (by decide +kernel) (by simp [lg_sl, Value.category]) ?_
  refine sm_aload_n (Y := mX7_init) (pc := 0) 0 0 rfl rfl dX7_init_0 ?_
  refine sm_obj (Y := mX7_init) (pc := 1) wRX7_3 (Nat.le_trans (by decide) hd) (Nat.le_of_ble_eq_true rfl) dX7_init_1 ?_
  refine sm_aload_n (Y := mX7_init) (pc := 4) 0 0 rfl rfl dX7_init_4 ?_
  refine sm_bipush (Y := mX7_init) (pc := 5) 48 (by decide) dX7_init_5 ?_
  refine sm_newJ (Y := mX7_init) (pc := 7) (N := 48) wa_long (by decide) rfl (Nat.le_of_ble_eq_true rfl) (fun _ => trivial) (Nat.le_of_ble_eq_true rfl) (Nat.le_of_ble_eq_true rfl) dX7_init_7 (fun m_1 em_1 => ?_)
  replace h := h m_1 em_1
  obtain ⟨hn_3, h⟩ := h
  refine sm_putR (Y := mX7_init) (pc := 9) (k := 0) (b := (sm_top m.2.2)) (ty := (.array .long)) (Or.inr ⟨_, rfl⟩) (fun _ => hn_3) (by decide) rfl (by decide) rfl rfl wRX7_9 rfl rfl rfl (by decide +kernel) (fun _ => trivial) dX7_init_9 (fun m_2 em_2 => ?_)
  replace h := h m_2 em_2
  refine sm_aload_n (Y := mX7_init) (pc := 12) 0 0 rfl rfl dX7_init_12 ?_
  refine sm_iconst (Y := mX7_init) (pc := 13) 0 (by decide) dX7_init_13 ?_
  obtain ⟨hn_5, h⟩ := h
  refine pf_RX7_15 (Y := mX7_init) (pc := 14) rfl (fun _ => hn_5) dX7_init_14 (fun m_4 em_4 => ?_)
  replace h := h m_4 em_4
  refine sm_aload_n (Y := mX7_init) (pc := 17) 0 0 rfl rfl dX7_init_17 ?_
  refine sm_iconst (Y := mX7_init) (pc := 18) 0 (by decide) dX7_init_18 ?_
  obtain ⟨hn_7, h⟩ := h
  refine pf_RX7_19 (Y := mX7_init) (pc := 19) rfl (fun _ => hn_7) dX7_init_19 (fun m_6 em_6 => ?_)
  replace h := h m_6 em_6
  refine sm_aload_n (Y := mX7_init) (pc := 22) 0 0 rfl rfl dX7_init_22 ?_
  refine sm_lconst (Y := mX7_init) (pc := 23) 0 (by decide) dX7_init_23 ?_
  obtain ⟨hn_9, h⟩ := h
  refine pf_RX7_22 (Y := mX7_init) (pc := 24) rfl (fun _ => hn_9) dX7_init_24 (fun m_8 em_8 => ?_)
  replace h := h m_8 em_8
  refine sm_aload_n (Y := mX7_init) (pc := 27) 0 0 rfl rfl dX7_init_27 ?_
  refine sm_lconst (Y := mX7_init) (pc := 28) 1 (by decide) dX7_init_28 ?_
  obtain ⟨hn_11, h⟩ := h
  refine pf_RX7_26 (Y := mX7_init) (pc := 29) rfl (fun _ => hn_11) dX7_init_29 (fun m_10 em_10 => ?_)
  replace h := h m_10 em_10
  refine sm_widen (k := 1) (n := 48) (Nat.le_of_ble_eq_true rfl) (Nat.le_of_ble_eq_true rfl) ?_
  exact sm_vret (Y := mX7_init) (pc := 32) rfl rfl rfl dX7_init_32 ⟨rfl, h⟩
abbrev mX12_init : sm_Y := (yX12_init, cX12_init, 2, none)
theorem fX12_init : sm_mn mX12_init 0 := ⟨sm_in 1157 (by decide +kernel) (by decide +kernel), rfl, rfl, sm_in 1156 (by decide +kernel) (by decide +kernel), sm_in 93 (by decide +kernel) (by decide +kernel), ⟨by decide +kernel, by decide +kernel, by decide +kernel⟩, by decide⟩
def gX12_init_334 (E : sm_E) (d : Nat) (vs : List Value) (a0 : Nat) (x1 : Int32) (m : sm_M) (cc ss : Nat) (Q : sm_M → Prop) : Prop := sm_go E sm_L0 mX12_init d 39 5611 vs 334 [(0, .ref (sm_B E + a0)), (1, .int x1)] [] m cc ss (sm_Z E sm_L0 vs 39 5611 (sm_QV Q))
theorem dX12_init_334 : decode cX12_init 334 = .ok (.iload_n 1, 1) := dk_iload_n_1 (by decide +kernel)
theorem dX12_init_335 : decode cX12_init 335 = .ok (.bipush 6, 2) := dk_bipush 6 (b := 6) (by decide +kernel) (by decide +kernel) (by decide +kernel)
theorem dX12_init_337 : decode cX12_init 337 = .ok (.if_icmp .ge 16, 3) := dk_if_icmp_ge 16 (b1 := 0) (b2 := 16) (by decide +kernel) (by decide +kernel) (by decide +kernel) (by decide +kernel)
theorem dX12_init_353 : decode cX12_init 353 = .ok (.return_, 1) := dk_return_ (by decide +kernel)
theorem dX12_init_340 : decode cX12_init 340 = .ok (.aload_n 0, 1) := dk_aload_n_0 (by decide +kernel)
theorem dX12_init_341 : decode cX12_init 341 = .ok (.getfield 16, 3) := dk_getfield 16 (b1 := 0) (b2 := 16) (by decide +kernel) (by decide +kernel) (by decide +kernel) (by decide +kernel)
theorem dX12_init_344 : decode cX12_init 344 = .ok (.iload_n 1, 1) := dk_iload_n_1 (by decide +kernel)
theorem dX12_init_345 : decode cX12_init 345 = .ok (.iconst 1, 1) := dk_iconst_1 (by decide +kernel)
theorem dX12_init_346 : decode cX12_init 346 = .ok (.iastore, 1) := dk_iastore (by decide +kernel)
theorem dX12_init_347 : decode cX12_init 347 = .ok (.iinc 1 1, 3) := dk_iinc 1 1 (b1 := 1) (b2 := 1) (by decide +kernel) (by decide +kernel) (by decide +kernel) (by decide +kernel) (by decide +kernel)
theorem dX12_init_350 : decode cX12_init 350 = .ok (.goto (-16), 3) := dk_goto (-16) (b1 := 255) (b2 := 240) (by decide +kernel) (by decide +kernel) (by decide +kernel) (by decide +kernel)
set_option maxRecDepth 20000 in
theorem vX12_init_334 {E : sm_E} {d : Nat} {vs : List Value} {cc ss : Nat} {a0 : Nat} {x1 : Int32} {m : sm_M} {Q : sm_M → Prop} (hd : 1 ≤ d)
  (h : (6 ≤ x1 →
      (cc ≤ 39) ∧ (ss ≤ 5611) ∧ Q m) ∧
   (¬ 6 ≤ x1 →
      ∃ b_3 : Nat, (sm_K m.2.2 a0 = 10) ∧ (m.2.2.1 a0 2 = some b_3) ∧ ∃ n_7 : Nat, (sm_K m.2.2 b_3 = 11 ∧ sm_N m.2.2 b_3 = n_7) ∧ (vp_in x1 n_7) ∧ ∀ m_6 : sm_M, m_6 = sm_wI m b_3 x1.toNatClampNeg 1 →
      ∀ x1_10 : Int32, x1_10 = x1 + 1 →
      gX12_init_334 E d vs a0 x1_10 m_6 cc ss Q)) :
  gX12_init_334 E d vs a0 x1 m cc ss Q := by
  refine sm_iload_n (Y := mX12_init) (pc := 334) 1 1 rfl rfl dX12_init_334 ?_
  refine sm_bipush (Y := mX12_init) (pc := 335) 6 (by decide) dX12_init_335 ?_
  refine sm_icmp_ge (Y := mX12_init) (pc := 337) 353 (by decide) dX12_init_337 (fun hc => ?_) (fun hc => ?_)
  · replace h := h.1 hc
    obtain ⟨hn_1, h⟩ := h
    obtain ⟨hn_2, h⟩ := h
    refine sm_widen (k := 39) (n := 5611) hn_1 hn_2 ?_
    exact sm_vret (Y := mX12_init) (pc := 353) rfl rfl rfl dX12_init_353 ⟨rfl, h⟩
  · replace h := h.2 hc
    refine sm_aload_n (Y := mX12_init) (pc := 340) 0 0 rfl rfl dX12_init_340 ?_
    obtain ⟨b_3, h⟩ := h
    obtain ⟨hn_4, h⟩ := h
    obtain ⟨hn_5, h⟩ := h
    refine gf_RX12_16 (Y := mX12_init) (pc := 341) (b := b_3) rfl (fun _ => hn_4) (fun _ => hn_5) dX12_init_341 ?_
    refine sm_iload_n (Y := mX12_init) (pc := 344) 1 1 rfl rfl dX12_init_344 ?_
    refine sm_iconst (Y := mX12_init) (pc := 345) 1 (by decide) dX12_init_345 ?_
    obtain ⟨n_7, h⟩ := h
    obtain ⟨hn_8, h⟩ := h
    obtain ⟨hn_9, h⟩ := h
    refine sm_iast (Y := mX12_init) (pc := 346) (fun _ => hn_8) hn_9 dX12_init_346 (fun m_6 em_6 => ?_)
    replace h := h m_6 em_6
    refine sm_iinc (Y := mX12_init) (pc := 347) (fun y => [(1, .int y), (0, .ref (sm_B E + a0))]) 1 1 rfl (by decide) (fun _ => rfl) dX12_init_347 (fun x1_10 ex1_10 => ?_)
    replace h := h x1_10 ex1_10
    refine sm_goto (Y := mX12_init) (pc := 350) 334 (by decide) dX12_init_350 ?_
    refine sm_sub [1, 0] rfl ?_
    exact h
theorem dX12_init_0 : decode cX12_init 0 = .ok (.aload_n 0, 1) := dk_aload_n_0 (by decide +kernel)
theorem wRX12_1 : Cond.methodLink RX12 1 Lib.objectInit ∈ sm_T := sm_in 1158 (by decide +kernel) (by decide +kernel)
theorem dX12_init_1 : decode cX12_init 1 = .ok (.invokespecial 1, 3) := dk_invokespecial 1 (b1 := 0) (b2 := 1) (by decide +kernel) (by decide +kernel) (by decide +kernel) (by decide +kernel)
theorem dX12_init_4 : decode cX12_init 4 = .ok (.aload_n 0, 1) := dk_aload_n_0 (by decide +kernel)
theorem dX12_init_5 : decode cX12_init 5 = .ok (.bipush 7, 2) := dk_bipush 7 (b := 7) (by decide +kernel) (by decide +kernel) (by decide +kernel)
theorem dX12_init_7 : decode cX12_init 7 = .ok (.newarray .int, 2) := by decide +kernel
theorem dX12_init_9 : decode cX12_init 9 = .ok (.putfield 7, 3) := dk_putfield 7 (b1 := 0) (b2 := 7) (by decide +kernel) (by decide +kernel) (by decide +kernel) (by decide +kernel)
theorem dX12_init_12 : decode cX12_init 12 = .ok (.aload_n 0, 1) := dk_aload_n_0 (by decide +kernel)
theorem dX12_init_13 : decode cX12_init 13 = .ok (.sipush 360, 3) := dk_sipush 360 (b1 := 1) (b2 := 104) (by decide +kernel) (by decide +kernel) (by decide +kernel) (by decide +kernel)
theorem dX12_init_16 : decode cX12_init 16 = .ok (.newarray .int, 2) := by decide +kernel
theorem dX12_init_18 : decode cX12_init 18 = .ok (.putfield 13, 3) := dk_putfield 13 (b1 := 0) (b2 := 13) (by decide +kernel) (by decide +kernel) (by decide +kernel) (by decide +kernel)
theorem dX12_init_21 : decode cX12_init 21 = .ok (.aload_n 0, 1) := dk_aload_n_0 (by decide +kernel)
theorem dX12_init_22 : decode cX12_init 22 = .ok (.bipush 6, 2) := dk_bipush 6 (b := 6) (by decide +kernel) (by decide +kernel) (by decide +kernel)
theorem dX12_init_24 : decode cX12_init 24 = .ok (.newarray .int, 2) := by decide +kernel
theorem dX12_init_26 : decode cX12_init 26 = .ok (.putfield 16, 3) := dk_putfield 16 (b1 := 0) (b2 := 16) (by decide +kernel) (by decide +kernel) (by decide +kernel) (by decide +kernel)
theorem dX12_init_29 : decode cX12_init 29 = .ok (.aload_n 0, 1) := dk_aload_n_0 (by decide +kernel)
theorem dX12_init_30 : decode cX12_init 30 = .ok (.sipush 360, 3) := dk_sipush 360 (b1 := 1) (b2 := 104) (by decide +kernel) (by decide +kernel) (by decide +kernel) (by decide +kernel)
theorem dX12_init_33 : decode cX12_init 33 = .ok (.newarray .int, 2) := by decide +kernel
theorem dX12_init_35 : decode cX12_init 35 = .ok (.putfield 19, 3) := dk_putfield 19 (b1 := 0) (b2 := 19) (by decide +kernel) (by decide +kernel) (by decide +kernel) (by decide +kernel)
theorem dX12_init_38 : decode cX12_init 38 = .ok (.aload_n 0, 1) := dk_aload_n_0 (by decide +kernel)
theorem dX12_init_39 : decode cX12_init 39 = .ok (.bipush 6, 2) := dk_bipush 6 (b := 6) (by decide +kernel) (by decide +kernel) (by decide +kernel)
theorem dX12_init_41 : decode cX12_init 41 = .ok (.newarray .int, 2) := by decide +kernel
theorem dX12_init_43 : decode cX12_init 43 = .ok (.putfield 22, 3) := dk_putfield 22 (b1 := 0) (b2 := 22) (by decide +kernel) (by decide +kernel) (by decide +kernel) (by decide +kernel)
theorem dX12_init_46 : decode cX12_init 46 = .ok (.aload_n 0, 1) := dk_aload_n_0 (by decide +kernel)
theorem dX12_init_47 : decode cX12_init 47 = .ok (.sipush 200, 3) := dk_sipush 200 (b1 := 0) (b2 := 200) (by decide +kernel) (by decide +kernel) (by decide +kernel) (by decide +kernel)
theorem dX12_init_50 : decode cX12_init 50 = .ok (.newarray .int, 2) := by decide +kernel
theorem dX12_init_52 : decode cX12_init 52 = .ok (.putfield 25, 3) := dk_putfield 25 (b1 := 0) (b2 := 25) (by decide +kernel) (by decide +kernel) (by decide +kernel) (by decide +kernel)
theorem dX12_init_55 : decode cX12_init 55 = .ok (.aload_n 0, 1) := dk_aload_n_0 (by decide +kernel)
theorem dX12_init_56 : decode cX12_init 56 = .ok (.iconst 1, 1) := dk_iconst_1 (by decide +kernel)
theorem dX12_init_57 : decode cX12_init 57 = .ok (.putfield 28, 3) := dk_putfield 28 (b1 := 0) (b2 := 28) (by decide +kernel) (by decide +kernel) (by decide +kernel) (by decide +kernel)
theorem dX12_init_60 : decode cX12_init 60 = .ok (.aload_n 0, 1) := dk_aload_n_0 (by decide +kernel)
theorem dX12_init_61 : decode cX12_init 61 = .ok (.bipush 100, 2) := dk_bipush 100 (b := 100) (by decide +kernel) (by decide +kernel) (by decide +kernel)
theorem dX12_init_63 : decode cX12_init 63 = .ok (.newarray .int, 2) := by decide +kernel
theorem dX12_init_65 : decode cX12_init 65 = .ok (.putfield 32, 3) := dk_putfield 32 (b1 := 0) (b2 := 32) (by decide +kernel) (by decide +kernel) (by decide +kernel) (by decide +kernel)
theorem dX12_init_68 : decode cX12_init 68 = .ok (.aload_n 0, 1) := dk_aload_n_0 (by decide +kernel)
theorem dX12_init_69 : decode cX12_init 69 = .ok (.bipush 40, 2) := dk_bipush 40 (b := 40) (by decide +kernel) (by decide +kernel) (by decide +kernel)
theorem dX12_init_71 : decode cX12_init 71 = .ok (.newarray .int, 2) := by decide +kernel
theorem dX12_init_73 : decode cX12_init 73 = .ok (.putfield 35, 3) := dk_putfield 35 (b1 := 0) (b2 := 35) (by decide +kernel) (by decide +kernel) (by decide +kernel) (by decide +kernel)
theorem dX12_init_76 : decode cX12_init 76 = .ok (.aload_n 0, 1) := dk_aload_n_0 (by decide +kernel)
theorem dX12_init_77 : decode cX12_init 77 = .ok (.bipush 40, 2) := dk_bipush 40 (b := 40) (by decide +kernel) (by decide +kernel) (by decide +kernel)
theorem dX12_init_79 : decode cX12_init 79 = .ok (.newarray .int, 2) := by decide +kernel
theorem dX12_init_81 : decode cX12_init 81 = .ok (.putfield 38, 3) := dk_putfield 38 (b1 := 0) (b2 := 38) (by decide +kernel) (by decide +kernel) (by decide +kernel) (by decide +kernel)
theorem dX12_init_84 : decode cX12_init 84 = .ok (.aload_n 0, 1) := dk_aload_n_0 (by decide +kernel)
theorem dX12_init_85 : decode cX12_init 85 = .ok (.bipush 40, 2) := dk_bipush 40 (b := 40) (by decide +kernel) (by decide +kernel) (by decide +kernel)
theorem dX12_init_87 : decode cX12_init 87 = .ok (.newarray .int, 2) := by decide +kernel
theorem dX12_init_89 : decode cX12_init 89 = .ok (.putfield 41, 3) := dk_putfield 41 (b1 := 0) (b2 := 41) (by decide +kernel) (by decide +kernel) (by decide +kernel) (by decide +kernel)
theorem dX12_init_92 : decode cX12_init 92 = .ok (.aload_n 0, 1) := dk_aload_n_0 (by decide +kernel)
theorem dX12_init_93 : decode cX12_init 93 = .ok (.sipush 192, 3) := dk_sipush 192 (b1 := 0) (b2 := 192) (by decide +kernel) (by decide +kernel) (by decide +kernel) (by decide +kernel)
theorem dX12_init_96 : decode cX12_init 96 = .ok (.newarray .long, 2) := by decide +kernel
theorem dX12_init_98 : decode cX12_init 98 = .ok (.putfield 44, 3) := dk_putfield 44 (b1 := 0) (b2 := 44) (by decide +kernel) (by decide +kernel) (by decide +kernel) (by decide +kernel)
theorem dX12_init_101 : decode cX12_init 101 = .ok (.aload_n 0, 1) := dk_aload_n_0 (by decide +kernel)
theorem dX12_init_102 : decode cX12_init 102 = .ok (.iconst 4, 1) := dk_iconst_4 (by decide +kernel)
theorem dX12_init_103 : decode cX12_init 103 = .ok (.newarray .int, 2) := by decide +kernel
theorem dX12_init_105 : decode cX12_init 105 = .ok (.putfield 48, 3) := dk_putfield 48 (b1 := 0) (b2 := 48) (by decide +kernel) (by decide +kernel) (by decide +kernel) (by decide +kernel)
theorem dX12_init_108 : decode cX12_init 108 = .ok (.aload_n 0, 1) := dk_aload_n_0 (by decide +kernel)
theorem dX12_init_109 : decode cX12_init 109 = .ok (.iconst 4, 1) := dk_iconst_4 (by decide +kernel)
theorem dX12_init_110 : decode cX12_init 110 = .ok (.newarray .int, 2) := by decide +kernel
theorem dX12_init_112 : decode cX12_init 112 = .ok (.putfield 51, 3) := dk_putfield 51 (b1 := 0) (b2 := 51) (by decide +kernel) (by decide +kernel) (by decide +kernel) (by decide +kernel)
theorem dX12_init_115 : decode cX12_init 115 = .ok (.aload_n 0, 1) := dk_aload_n_0 (by decide +kernel)
theorem dX12_init_116 : decode cX12_init 116 = .ok (.sipush 200, 3) := dk_sipush 200 (b1 := 0) (b2 := 200) (by decide +kernel) (by decide +kernel) (by decide +kernel) (by decide +kernel)
theorem dX12_init_119 : decode cX12_init 119 = .ok (.newarray .long, 2) := by decide +kernel
theorem dX12_init_121 : decode cX12_init 121 = .ok (.putfield 54, 3) := dk_putfield 54 (b1 := 0) (b2 := 54) (by decide +kernel) (by decide +kernel) (by decide +kernel) (by decide +kernel)
theorem dX12_init_124 : decode cX12_init 124 = .ok (.aload_n 0, 1) := dk_aload_n_0 (by decide +kernel)
theorem dX12_init_125 : decode cX12_init 125 = .ok (.sipush 200, 3) := dk_sipush 200 (b1 := 0) (b2 := 200) (by decide +kernel) (by decide +kernel) (by decide +kernel) (by decide +kernel)
theorem dX12_init_128 : decode cX12_init 128 = .ok (.newarray .long, 2) := by decide +kernel
theorem dX12_init_130 : decode cX12_init 130 = .ok (.putfield 57, 3) := dk_putfield 57 (b1 := 0) (b2 := 57) (by decide +kernel) (by decide +kernel) (by decide +kernel) (by decide +kernel)
theorem dX12_init_133 : decode cX12_init 133 = .ok (.aload_n 0, 1) := dk_aload_n_0 (by decide +kernel)
theorem dX12_init_134 : decode cX12_init 134 = .ok (.sipush 200, 3) := dk_sipush 200 (b1 := 0) (b2 := 200) (by decide +kernel) (by decide +kernel) (by decide +kernel) (by decide +kernel)
theorem dX12_init_137 : decode cX12_init 137 = .ok (.newarray .boolean, 2) := by decide +kernel
theorem dX12_init_139 : decode cX12_init 139 = .ok (.putfield 60, 3) := dk_putfield 60 (b1 := 0) (b2 := 60) (by decide +kernel) (by decide +kernel) (by decide +kernel) (by decide +kernel)
theorem dX12_init_142 : decode cX12_init 142 = .ok (.aload_n 0, 1) := dk_aload_n_0 (by decide +kernel)
theorem dX12_init_143 : decode cX12_init 143 = .ok (.sipush 200, 3) := dk_sipush 200 (b1 := 0) (b2 := 200) (by decide +kernel) (by decide +kernel) (by decide +kernel) (by decide +kernel)
theorem dX12_init_146 : decode cX12_init 146 = .ok (.newarray .int, 2) := by decide +kernel
theorem dX12_init_148 : decode cX12_init 148 = .ok (.putfield 64, 3) := dk_putfield 64 (b1 := 0) (b2 := 64) (by decide +kernel) (by decide +kernel) (by decide +kernel) (by decide +kernel)
theorem dX12_init_151 : decode cX12_init 151 = .ok (.aload_n 0, 1) := dk_aload_n_0 (by decide +kernel)
theorem dX12_init_152 : decode cX12_init 152 = .ok (.bipush 64, 2) := dk_bipush 64 (b := 64) (by decide +kernel) (by decide +kernel) (by decide +kernel)
theorem dX12_init_154 : decode cX12_init 154 = .ok (.newarray .long, 2) := by decide +kernel
theorem dX12_init_156 : decode cX12_init 156 = .ok (.putfield 67, 3) := dk_putfield 67 (b1 := 0) (b2 := 67) (by decide +kernel) (by decide +kernel) (by decide +kernel) (by decide +kernel)
theorem dX12_init_159 : decode cX12_init 159 = .ok (.aload_n 0, 1) := dk_aload_n_0 (by decide +kernel)
theorem dX12_init_160 : decode cX12_init 160 = .ok (.sipush 192, 3) := dk_sipush 192 (b1 := 0) (b2 := 192) (by decide +kernel) (by decide +kernel) (by decide +kernel) (by decide +kernel)
theorem dX12_init_163 : decode cX12_init 163 = .ok (.newarray .int, 2) := by decide +kernel
theorem dX12_init_165 : decode cX12_init 165 = .ok (.putfield 70, 3) := dk_putfield 70 (b1 := 0) (b2 := 70) (by decide +kernel) (by decide +kernel) (by decide +kernel) (by decide +kernel)
theorem dX12_init_168 : decode cX12_init 168 = .ok (.aload_n 0, 1) := dk_aload_n_0 (by decide +kernel)
theorem dX12_init_169 : decode cX12_init 169 = .ok (.sipush 192, 3) := dk_sipush 192 (b1 := 0) (b2 := 192) (by decide +kernel) (by decide +kernel) (by decide +kernel) (by decide +kernel)
theorem dX12_init_172 : decode cX12_init 172 = .ok (.newarray .int, 2) := by decide +kernel
theorem dX12_init_174 : decode cX12_init 174 = .ok (.putfield 73, 3) := dk_putfield 73 (b1 := 0) (b2 := 73) (by decide +kernel) (by decide +kernel) (by decide +kernel) (by decide +kernel)
theorem dX12_init_177 : decode cX12_init 177 = .ok (.aload_n 0, 1) := dk_aload_n_0 (by decide +kernel)
theorem dX12_init_178 : decode cX12_init 178 = .ok (.bipush 24, 2) := dk_bipush 24 (b := 24) (by decide +kernel) (by decide +kernel) (by decide +kernel)
theorem dX12_init_180 : decode cX12_init 180 = .ok (.newarray .int, 2) := by decide +kernel
theorem dX12_init_182 : decode cX12_init 182 = .ok (.putfield 76, 3) := dk_putfield 76 (b1 := 0) (b2 := 76) (by decide +kernel) (by decide +kernel) (by decide +kernel) (by decide +kernel)
theorem dX12_init_185 : decode cX12_init 185 = .ok (.aload_n 0, 1) := dk_aload_n_0 (by decide +kernel)
theorem dX12_init_186 : decode cX12_init 186 = .ok (.bipush 64, 2) := dk_bipush 64 (b := 64) (by decide +kernel) (by decide +kernel) (by decide +kernel)
theorem dX12_init_188 : decode cX12_init 188 = .ok (.newarray .int, 2) := by decide +kernel
theorem dX12_init_190 : decode cX12_init 190 = .ok (.putfield 79, 3) := dk_putfield 79 (b1 := 0) (b2 := 79) (by decide +kernel) (by decide +kernel) (by decide +kernel) (by decide +kernel)
theorem dX12_init_193 : decode cX12_init 193 = .ok (.aload_n 0, 1) := dk_aload_n_0 (by decide +kernel)
theorem dX12_init_194 : decode cX12_init 194 = .ok (.bipush 64, 2) := dk_bipush 64 (b := 64) (by decide +kernel) (by decide +kernel) (by decide +kernel)
theorem dX12_init_196 : decode cX12_init 196 = .ok (.newarray .int, 2) := by decide +kernel
theorem dX12_init_198 : decode cX12_init 198 = .ok (.putfield 82, 3) := dk_putfield 82 (b1 := 0) (b2 := 82) (by decide +kernel) (by decide +kernel) (by decide +kernel) (by decide +kernel)
theorem dX12_init_201 : decode cX12_init 201 = .ok (.aload_n 0, 1) := dk_aload_n_0 (by decide +kernel)
theorem dX12_init_202 : decode cX12_init 202 = .ok (.bipush 64, 2) := dk_bipush 64 (b := 64) (by decide +kernel) (by decide +kernel) (by decide +kernel)
theorem dX12_init_204 : decode cX12_init 204 = .ok (.newarray .int, 2) := by decide +kernel
theorem dX12_init_206 : decode cX12_init 206 = .ok (.putfield 85, 3) := dk_putfield 85 (b1 := 0) (b2 := 85) (by decide +kernel) (by decide +kernel) (by decide +kernel) (by decide +kernel)
theorem dX12_init_209 : decode cX12_init 209 = .ok (.aload_n 0, 1) := dk_aload_n_0 (by decide +kernel)
theorem dX12_init_210 : decode cX12_init 210 = .ok (.bipush 64, 2) := dk_bipush 64 (b := 64) (by decide +kernel) (by decide +kernel) (by decide +kernel)
theorem dX12_init_212 : decode cX12_init 212 = .ok (.newarray .int, 2) := by decide +kernel
theorem dX12_init_214 : decode cX12_init 214 = .ok (.putfield 88, 3) := dk_putfield 88 (b1 := 0) (b2 := 88) (by decide +kernel) (by decide +kernel) (by decide +kernel) (by decide +kernel)
theorem dX12_init_217 : decode cX12_init 217 = .ok (.aload_n 0, 1) := dk_aload_n_0 (by decide +kernel)
theorem dX12_init_218 : decode cX12_init 218 = .ok (.bipush 64, 2) := dk_bipush 64 (b := 64) (by decide +kernel) (by decide +kernel) (by decide +kernel)
theorem dX12_init_220 : decode cX12_init 220 = .ok (.newarray .int, 2) := by decide +kernel
theorem dX12_init_222 : decode cX12_init 222 = .ok (.putfield 91, 3) := dk_putfield 91 (b1 := 0) (b2 := 91) (by decide +kernel) (by decide +kernel) (by decide +kernel) (by decide +kernel)
theorem dX12_init_225 : decode cX12_init 225 = .ok (.aload_n 0, 1) := dk_aload_n_0 (by decide +kernel)
theorem dX12_init_226 : decode cX12_init 226 = .ok (.bipush 48, 2) := dk_bipush 48 (b := 48) (by decide +kernel) (by decide +kernel) (by decide +kernel)
theorem dX12_init_228 : decode cX12_init 228 = .ok (.newarray .int, 2) := by decide +kernel
theorem dX12_init_230 : decode cX12_init 230 = .ok (.putfield 94, 3) := dk_putfield 94 (b1 := 0) (b2 := 94) (by decide +kernel) (by decide +kernel) (by decide +kernel) (by decide +kernel)
theorem dX12_init_233 : decode cX12_init 233 = .ok (.aload_n 0, 1) := dk_aload_n_0 (by decide +kernel)
theorem dX12_init_234 : decode cX12_init 234 = .ok (.bipush 48, 2) := dk_bipush 48 (b := 48) (by decide +kernel) (by decide +kernel) (by decide +kernel)
theorem dX12_init_236 : decode cX12_init 236 = .ok (.newarray .int, 2) := by decide +kernel
theorem dX12_init_238 : decode cX12_init 238 = .ok (.putfield 97, 3) := dk_putfield 97 (b1 := 0) (b2 := 97) (by decide +kernel) (by decide +kernel) (by decide +kernel) (by decide +kernel)
theorem dX12_init_241 : decode cX12_init 241 = .ok (.aload_n 0, 1) := dk_aload_n_0 (by decide +kernel)
theorem dX12_init_242 : decode cX12_init 242 = .ok (.bipush 48, 2) := dk_bipush 48 (b := 48) (by decide +kernel) (by decide +kernel) (by decide +kernel)
theorem dX12_init_244 : decode cX12_init 244 = .ok (.newarray .int, 2) := by decide +kernel
theorem dX12_init_246 : decode cX12_init 246 = .ok (.putfield 100, 3) := dk_putfield 100 (b1 := 0) (b2 := 100) (by decide +kernel) (by decide +kernel) (by decide +kernel) (by decide +kernel)
theorem dX12_init_249 : decode cX12_init 249 = .ok (.aload_n 0, 1) := dk_aload_n_0 (by decide +kernel)
theorem dX12_init_250 : decode cX12_init 250 = .ok (.bipush 50, 2) := dk_bipush 50 (b := 50) (by decide +kernel) (by decide +kernel) (by decide +kernel)
theorem dX12_init_252 : decode cX12_init 252 = .ok (.newarray .int, 2) := by decide +kernel
theorem dX12_init_254 : decode cX12_init 254 = .ok (.putfield 103, 3) := dk_putfield 103 (b1 := 0) (b2 := 103) (by decide +kernel) (by decide +kernel) (by decide +kernel) (by decide +kernel)
theorem dX12_init_257 : decode cX12_init 257 = .ok (.aload_n 0, 1) := dk_aload_n_0 (by decide +kernel)
theorem dX12_init_258 : decode cX12_init 258 = .ok (.sipush 192, 3) := dk_sipush 192 (b1 := 0) (b2 := 192) (by decide +kernel) (by decide +kernel) (by decide +kernel) (by decide +kernel)
theorem dX12_init_261 : decode cX12_init 261 = .ok (.newarray .boolean, 2) := by decide +kernel
theorem dX12_init_263 : decode cX12_init 263 = .ok (.putfield 106, 3) := dk_putfield 106 (b1 := 0) (b2 := 106) (by decide +kernel) (by decide +kernel) (by decide +kernel) (by decide +kernel)
theorem dX12_init_266 : decode cX12_init 266 = .ok (.aload_n 0, 1) := dk_aload_n_0 (by decide +kernel)
theorem dX12_init_267 : decode cX12_init 267 = .ok (.bipush 24, 2) := dk_bipush 24 (b := 24) (by decide +kernel) (by decide +kernel) (by decide +kernel)
theorem dX12_init_269 : decode cX12_init 269 = .ok (.newarray .int, 2) := by decide +kernel
theorem dX12_init_271 : decode cX12_init 271 = .ok (.putfield 109, 3) := dk_putfield 109 (b1 := 0) (b2 := 109) (by decide +kernel) (by decide +kernel) (by decide +kernel) (by decide +kernel)
theorem dX12_init_274 : decode cX12_init 274 = .ok (.aload_n 0, 1) := dk_aload_n_0 (by decide +kernel)
theorem dX12_init_275 : decode cX12_init 275 = .ok (.bipush 24, 2) := dk_bipush 24 (b := 24) (by decide +kernel) (by decide +kernel) (by decide +kernel)
theorem dX12_init_277 : decode cX12_init 277 = .ok (.newarray .int, 2) := by decide +kernel
theorem dX12_init_279 : decode cX12_init 279 = .ok (.putfield 112, 3) := dk_putfield 112 (b1 := 0) (b2 := 112) (by decide +kernel) (by decide +kernel) (by decide +kernel) (by decide +kernel)
theorem dX12_init_282 : decode cX12_init 282 = .ok (.aload_n 0, 1) := dk_aload_n_0 (by decide +kernel)
theorem dX12_init_283 : decode cX12_init 283 = .ok (.bipush 24, 2) := dk_bipush 24 (b := 24) (by decide +kernel) (by decide +kernel) (by decide +kernel)
theorem dX12_init_285 : decode cX12_init 285 = .ok (.newarray .int, 2) := by decide +kernel
theorem dX12_init_287 : decode cX12_init 287 = .ok (.putfield 115, 3) := dk_putfield 115 (b1 := 0) (b2 := 115) (by decide +kernel) (by decide +kernel) (by decide +kernel) (by decide +kernel)
theorem dX12_init_290 : decode cX12_init 290 = .ok (.aload_n 0, 1) := dk_aload_n_0 (by decide +kernel)
theorem dX12_init_291 : decode cX12_init 291 = .ok (.sipush 1920, 3) := dk_sipush 1920 (b1 := 7) (b2 := 128) (by decide +kernel) (by decide +kernel) (by decide +kernel) (by decide +kernel)
theorem dX12_init_294 : decode cX12_init 294 = .ok (.newarray .int, 2) := by decide +kernel
theorem dX12_init_296 : decode cX12_init 296 = .ok (.putfield 118, 3) := dk_putfield 118 (b1 := 0) (b2 := 118) (by decide +kernel) (by decide +kernel) (by decide +kernel) (by decide +kernel)
theorem dX12_init_299 : decode cX12_init 299 = .ok (.aload_n 0, 1) := dk_aload_n_0 (by decide +kernel)
theorem dX12_init_300 : decode cX12_init 300 = .ok (.sipush 160, 3) := dk_sipush 160 (b1 := 0) (b2 := 160) (by decide +kernel) (by decide +kernel) (by decide +kernel) (by decide +kernel)
theorem dX12_init_303 : decode cX12_init 303 = .ok (.newarray .long, 2) := by decide +kernel
theorem dX12_init_305 : decode cX12_init 305 = .ok (.putfield 121, 3) := dk_putfield 121 (b1 := 0) (b2 := 121) (by decide +kernel) (by decide +kernel) (by decide +kernel) (by decide +kernel)
theorem dX12_init_308 : decode cX12_init 308 = .ok (.aload_n 0, 1) := dk_aload_n_0 (by decide +kernel)
theorem dX12_init_309 : decode cX12_init 309 = .ok (.bipush 10, 2) := dk_bipush 10 (b := 10) (by decide +kernel) (by decide +kernel) (by decide +kernel)
theorem dX12_init_311 : decode cX12_init 311 = .ok (.newarray .int, 2) := by decide +kernel
theorem dX12_init_313 : decode cX12_init 313 = .ok (.putfield 124, 3) := dk_putfield 124 (b1 := 0) (b2 := 124) (by decide +kernel) (by decide +kernel) (by decide +kernel) (by decide +kernel)
theorem dX12_init_316 : decode cX12_init 316 = .ok (.aload_n 0, 1) := dk_aload_n_0 (by decide +kernel)
theorem dX12_init_317 : decode cX12_init 317 = .ok (.bipush 48, 2) := dk_bipush 48 (b := 48) (by decide +kernel) (by decide +kernel) (by decide +kernel)
theorem dX12_init_319 : decode cX12_init 319 = .ok (.newarray .long, 2) := by decide +kernel
theorem dX12_init_321 : decode cX12_init 321 = .ok (.putfield 127, 3) := dk_putfield 127 (b1 := 0) (b2 := 127) (by decide +kernel) (by decide +kernel) (by decide +kernel) (by decide +kernel)
theorem dX12_init_324 : decode cX12_init 324 = .ok (.aload_n 0, 1) := dk_aload_n_0 (by decide +kernel)
theorem dX12_init_325 : decode cX12_init 325 = .ok (.bipush 64, 2) := dk_bipush 64 (b := 64) (by decide +kernel) (by decide +kernel) (by decide +kernel)
theorem dX12_init_327 : decode cX12_init 327 = .ok (.newarray .long, 2) := by decide +kernel
theorem dX12_init_329 : decode cX12_init 329 = .ok (.putfield 130, 3) := dk_putfield 130 (b1 := 0) (b2 := 130) (by decide +kernel) (by decide +kernel) (by decide +kernel) (by decide +kernel)
theorem dX12_init_332 : decode cX12_init 332 = .ok (.iconst 0, 1) := dk_iconst_0 (by decide +kernel)
theorem dX12_init_333 : decode cX12_init 333 = .ok (.istore_n 1, 1) := dk_istore_n_1 (by decide +kernel)
set_option maxRecDepth 20000 in
theorem vX12_init_0 {E : sm_E} {d : Nat} {a0 : Nat} {m : sm_M} {Q : sm_M → Prop} (hd : 1 ≤ d)
  (h : ∀ m_1 : sm_M, m_1 = sm_nw m 11 7 →
   (sm_K m_1.2.2 a0 = 10) ∧ ∀ m_2 : sm_M, m_2 = sm_wR m_1 a0 0 (some (sm_top m.2.2)) →
   ∀ m_4 : sm_M, m_4 = sm_nw m_2 11 360 →
   (sm_K m_4.2.2 a0 = 10) ∧ ∀ m_5 : sm_M, m_5 = sm_wR m_4 a0 1 (some (sm_top m_2.2.2)) →
   ∀ m_7 : sm_M, m_7 = sm_nw m_5 11 6 →
   (sm_K m_7.2.2 a0 = 10) ∧ ∀ m_8 : sm_M, m_8 = sm_wR m_7 a0 2 (some (sm_top m_5.2.2)) →
   ∀ m_10 : sm_M, m_10 = sm_nw m_8 11 360 →
   (sm_K m_10.2.2 a0 = 10) ∧ ∀ m_11 : sm_M, m_11 = sm_wR m_10 a0 3 (some (sm_top m_8.2.2)) →
   ∀ m_13 : sm_M, m_13 = sm_nw m_11 11 6 →
   (sm_K m_13.2.2 a0 = 10) ∧ ∀ m_14 : sm_M, m_14 = sm_wR m_13 a0 4 (some (sm_top m_11.2.2)) →
   ∀ m_16 : sm_M, m_16 = sm_nw m_14 11 200 →
   (sm_K m_16.2.2 a0 = 10) ∧ ∀ m_17 : sm_M, m_17 = sm_wR m_16 a0 5 (some (sm_top m_14.2.2)) →
   (sm_K m_17.2.2 a0 = 10) ∧ ∀ m_19 : sm_M, m_19 = sm_wI m_17 a0 7 1 →
   ∀ m_21 : sm_M, m_21 = sm_nw m_19 11 100 →
   (sm_K m_21.2.2 a0 = 10) ∧ ∀ m_22 : sm_M, m_22 = sm_wR m_21 a0 10 (some (sm_top m_19.2.2)) →
   ∀ m_24 : sm_M, m_24 = sm_nw m_22 11 40 →
   (sm_K m_24.2.2 a0 = 10) ∧ ∀ m_25 : sm_M, m_25 = sm_wR m_24 a0 12 (some (sm_top m_22.2.2)) →
   ∀ m_27 : sm_M, m_27 = sm_nw m_25 11 40 →
   (sm_K m_27.2.2 a0 = 10) ∧ ∀ m_28 : sm_M, m_28 = sm_wR m_27 a0 13 (some (sm_top m_25.2.2)) →
   ∀ m_30 : sm_M, m_30 = sm_nw m_28 11 40 →
   (sm_K m_30.2.2 a0 = 10) ∧ ∀ m_31 : sm_M, m_31 = sm_wR m_30 a0 14 (some (sm_top m_28.2.2)) →
   ∀ m_33 : sm_M, m_33 = sm_nw m_31 12 192 →
   (sm_K m_33.2.2 a0 = 10) ∧ ∀ m_34 : sm_M, m_34 = sm_wR m_33 a0 16 (some (sm_top m_31.2.2)) →
   ∀ m_36 : sm_M, m_36 = sm_nw m_34 11 4 →
   (sm_K m_36.2.2 a0 = 10) ∧ ∀ m_37 : sm_M, m_37 = sm_wR m_36 a0 17 (some (sm_top m_34.2.2)) →
   ∀ m_39 : sm_M, m_39 = sm_nw m_37 11 4 →
   (sm_K m_39.2.2 a0 = 10) ∧ ∀ m_40 : sm_M, m_40 = sm_wR m_39 a0 18 (some (sm_top m_37.2.2)) →
   ∀ m_42 : sm_M, m_42 = sm_nw m_40 12 200 →
   (sm_K m_42.2.2 a0 = 10) ∧ ∀ m_43 : sm_M, m_43 = sm_wR m_42 a0 19 (some (sm_top m_40.2.2)) →
   ∀ m_45 : sm_M, m_45 = sm_nw m_43 12 200 →
   (sm_K m_45.2.2 a0 = 10) ∧ ∀ m_46 : sm_M, m_46 = sm_wR m_45 a0 20 (some (sm_top m_43.2.2)) →
   ∀ m_48 : sm_M, m_48 = sm_nw m_46 13 200 →
   (sm_K m_48.2.2 a0 = 10) ∧ ∀ m_49 : sm_M, m_49 = sm_wR m_48 a0 21 (some (sm_top m_46.2.2)) →
   ∀ m_51 : sm_M, m_51 = sm_nw m_49 11 200 →
   (sm_K m_51.2.2 a0 = 10) ∧ ∀ m_52 : sm_M, m_52 = sm_wR m_51 a0 22 (some (sm_top m_49.2.2)) →
   ∀ m_54 : sm_M, m_54 = sm_nw m_52 12 64 →
   (sm_K m_54.2.2 a0 = 10) ∧ ∀ m_55 : sm_M, m_55 = sm_wR m_54 a0 35 (some (sm_top m_52.2.2)) →
   ∀ m_57 : sm_M, m_57 = sm_nw m_55 11 192 →
   (sm_K m_57.2.2 a0 = 10) ∧ ∀ m_58 : sm_M, m_58 = sm_wR m_57 a0 37 (some (sm_top m_55.2.2)) →
   ∀ m_60 : sm_M, m_60 = sm_nw m_58 11 192 →
   (sm_K m_60.2.2 a0 = 10) ∧ ∀ m_61 : sm_M, m_61 = sm_wR m_60 a0 38 (some (sm_top m_58.2.2)) →
   ∀ m_63 : sm_M, m_63 = sm_nw m_61 11 24 →
   (sm_K m_63.2.2 a0 = 10) ∧ ∀ m_64 : sm_M, m_64 = sm_wR m_63 a0 39 (some (sm_top m_61.2.2)) →
   ∀ m_66 : sm_M, m_66 = sm_nw m_64 11 64 →
   (sm_K m_66.2.2 a0 = 10) ∧ ∀ m_67 : sm_M, m_67 = sm_wR m_66 a0 40 (some (sm_top m_64.2.2)) →
   ∀ m_69 : sm_M, m_69 = sm_nw m_67 11 64 →
   (sm_K m_69.2.2 a0 = 10) ∧ ∀ m_70 : sm_M, m_70 = sm_wR m_69 a0 41 (some (sm_top m_67.2.2)) →
   ∀ m_72 : sm_M, m_72 = sm_nw m_70 11 64 →
   (sm_K m_72.2.2 a0 = 10) ∧ ∀ m_73 : sm_M, m_73 = sm_wR m_72 a0 42 (some (sm_top m_70.2.2)) →
   ∀ m_75 : sm_M, m_75 = sm_nw m_73 11 64 →
   (sm_K m_75.2.2 a0 = 10) ∧ ∀ m_76 : sm_M, m_76 = sm_wR m_75 a0 43 (some (sm_top m_73.2.2)) →
   ∀ m_78 : sm_M, m_78 = sm_nw m_76 11 64 →
   (sm_K m_78.2.2 a0 = 10) ∧ ∀ m_79 : sm_M, m_79 = sm_wR m_78 a0 44 (some (sm_top m_76.2.2)) →
   ∀ m_81 : sm_M, m_81 = sm_nw m_79 11 48 →
   (sm_K m_81.2.2 a0 = 10) ∧ ∀ m_82 : sm_M, m_82 = sm_wR m_81 a0 47 (some (sm_top m_79.2.2)) →
   ∀ m_84 : sm_M, m_84 = sm_nw m_82 11 48 →
   (sm_K m_84.2.2 a0 = 10) ∧ ∀ m_85 : sm_M, m_85 = sm_wR m_84 a0 48 (some (sm_top m_82.2.2)) →
   ∀ m_87 : sm_M, m_87 = sm_nw m_85 11 48 →
   (sm_K m_87.2.2 a0 = 10) ∧ ∀ m_88 : sm_M, m_88 = sm_wR m_87 a0 49 (some (sm_top m_85.2.2)) →
   ∀ m_90 : sm_M, m_90 = sm_nw m_88 11 50 →
   (sm_K m_90.2.2 a0 = 10) ∧ ∀ m_91 : sm_M, m_91 = sm_wR m_90 a0 50 (some (sm_top m_88.2.2)) →
   ∀ m_93 : sm_M, m_93 = sm_nw m_91 13 192 →
   (sm_K m_93.2.2 a0 = 10) ∧ ∀ m_94 : sm_M, m_94 = sm_wR m_93 a0 51 (some (sm_top m_91.2.2)) →
   ∀ m_96 : sm_M, m_96 = sm_nw m_94 11 24 →
   (sm_K m_96.2.2 a0 = 10) ∧ ∀ m_97 : sm_M, m_97 = sm_wR m_96 a0 55 (some (sm_top m_94.2.2)) →
   ∀ m_99 : sm_M, m_99 = sm_nw m_97 11 24 →
   (sm_K m_99.2.2 a0 = 10) ∧ ∀ m_100 : sm_M, m_100 = sm_wR m_99 a0 56 (some (sm_top m_97.2.2)) →
   ∀ m_102 : sm_M, m_102 = sm_nw m_100 11 24 →
   (sm_K m_102.2.2 a0 = 10) ∧ ∀ m_103 : sm_M, m_103 = sm_wR m_102 a0 57 (some (sm_top m_100.2.2)) →
   ∀ m_105 : sm_M, m_105 = sm_nw m_103 11 1920 →
   (sm_K m_105.2.2 a0 = 10) ∧ ∀ m_106 : sm_M, m_106 = sm_wR m_105 a0 59 (some (sm_top m_103.2.2)) →
   ∀ m_108 : sm_M, m_108 = sm_nw m_106 12 160 →
   (sm_K m_108.2.2 a0 = 10) ∧ ∀ m_109 : sm_M, m_109 = sm_wR m_108 a0 62 (some (sm_top m_106.2.2)) →
   ∀ m_111 : sm_M, m_111 = sm_nw m_109 11 10 →
   (sm_K m_111.2.2 a0 = 10) ∧ ∀ m_112 : sm_M, m_112 = sm_wR m_111 a0 63 (some (sm_top m_109.2.2)) →
   ∀ m_114 : sm_M, m_114 = sm_nw m_112 12 48 →
   (sm_K m_114.2.2 a0 = 10) ∧ ∀ m_115 : sm_M, m_115 = sm_wR m_114 a0 65 (some (sm_top m_112.2.2)) →
   ∀ m_117 : sm_M, m_117 = sm_nw m_115 12 64 →
   (sm_K m_117.2.2 a0 = 10) ∧ ∀ m_118 : sm_M, m_118 = sm_wR m_117 a0 66 (some (sm_top m_115.2.2)) →
   gX12_init_334 E d ([.ref (sm_B E + a0)]) a0 0 m_118 (((((((((((((((((((((((((((((((((((((((0 + 1) + 1) + 1) + 1) + 1) + 1) + 1) + 1) + 1) + 1) + 1) + 1) + 1) + 1) + 1) + 1) + 1) + 1) + 1) + 1) + 1) + 1) + 1) + 1) + 1) + 1) + 1) + 1) + 1) + 1) + 1) + 1) + 1) + 1) + 1) + 1) + 1) + 1) + 1) (((((((((((((((((((((((((((((((((((((((0 + 7) + 360) + 6) + 360) + 6) + 200) + 100) + 40) + 40) + 40) + 192) + 4) + 4) + 200) + 200) + 200) + 200) + 64) + 192) + 192) + 24) + 64) + 64) + 64) + 64) + 64) + 48) + 48) + 48) + 50) + 192) + 24) + 24) + 24) + 1920) + 160) + 10) + 48) + 64) Q) :
  sm_callV E sm_L0 mX12_init d 39 5611 [.ref (sm_B E + a0)] m Q := by
  refine sm_enter (by decide +kernel) (by simp [lg_sl, Value.category]) ?_
  refine sm_aload_n (Y := mX12_init) (pc := 0) 0 0 rfl rfl dX12_init_0 ?_
  refine sm_obj (Y := mX12_init) (pc := 1) wRX12_1 (Nat.le_trans (by decide) hd) (Nat.le_of_ble_eq_true rfl) dX12_init_1 ?_
  refine sm_aload_n (Y := mX12_init) (pc := 4) 0 0 rfl rfl dX12_init_4 ?_
  refine sm_bipush (Y := mX12_init) (pc := 5) 7 (by decide) dX12_init_5 ?_
  refine sm_newI (Y := mX12_init) (pc := 7) (N := 7) wa_int (by decide) rfl (Nat.le_of_ble_eq_true rfl) (fun _ => trivial) (Nat.le_of_ble_eq_true rfl) (Nat.le_of_ble_eq_true rfl) dX12_init_7 (fun m_1 em_1 => ?_)
  replace h := h m_1 em_1
  obtain ⟨hn_3, h⟩ := h
  refine sm_putR (Y := mX12_init) (pc := 9) (k := 0) (b := (sm_top m.2.2)) (ty := (.array .int)) (Or.inr ⟨_, rfl⟩) (fun _ => hn_3) (by decide) rfl (by decide) rfl rfl wRX12_7 rfl rfl rfl (by decide +kernel) (fun _ => trivial) dX12_init_9 (fun m_2 em_2 => ?_)
  replace h := h m_2 em_2
  refine sm_aload_n (Y := mX12_init) (pc := 12) 0 0 rfl rfl dX12_init_12 ?_
  refine sm_sipush (Y := mX12_init) (pc := 13) 360 (by decide) dX12_init_13 ?_
  refine sm_newI (Y := mX12_init) (pc := 16) (N := 360) wa_int (by decide) rfl (Nat.le_of_ble_eq_true rfl) (fun _ => trivial) (Nat.le_of_ble_eq_true rfl) (Nat.le_of_ble_eq_true rfl) dX12_init_16 (fun m_4 em_4 => ?_)
  replace h := h m_4 em_4
  obtain ⟨hn_6, h⟩ := h
  refine sm_putR (Y := mX12_init) (pc := 18) (k := 1) (b := (sm_top m_2.2.2)) (ty := (.array .int)) (Or.inr ⟨_, rfl⟩) (fun _ => hn_6) (by decide) rfl (by decide) rfl rfl wRX12_13 rfl rfl rfl (by decide +kernel) (fun _ => trivial) dX12_init_18 (fun m_5 em_5 => ?_)
  replace h := h m_5 em_5
  refine sm_aload_n (Y := mX12_init) (pc := 21) 0 0 rfl rfl dX12_init_21 ?_
  refine sm_bipush (Y := mX12_init) (pc := 22) 6 (by decide) dX12_init_22 ?_
  refine sm_newI (Y := mX12_init) (pc := 24) (N := 6) wa_int (by decide) rfl (Nat.le_of_ble_eq_true rfl) (fun _ => trivial) (Nat.le_of_ble_eq_true rfl) (Nat.le_of_ble_eq_true rfl) dX12_init_24 (fun m_7 em_7 => ?_)
  replace h := h m_7 em_7
  obtain ⟨hn_9, h⟩ := h
  refine sm_putR (Y := mX12_init) (pc := 26) (k := 2) (b := (sm_top m_5.2.2)) (ty := (.array .int)) (Or.inr ⟨_, rfl⟩) (fun _ => hn_9) (by decide) rfl (by decide) rfl rfl wRX12_16 rfl rfl rfl (by decide +kernel) (fun _ => trivial) dX12_init_26 (fun m_8 em_8 => ?_)
  replace h := h m_8 em_8
  refine sm_aload_n (Y := mX12_init) (pc := 29) 0 0 rfl rfl dX12_init_29 ?_
  refine sm_sipush (Y := mX12_init) (pc := 30) 360 (by decide) dX12_init_30 ?_
  refine sm_newI (Y := mX12_init) (pc := 33) (N := 360) wa_int (by decide) rfl (Nat.le_of_ble_eq_true rfl) (fun _ => trivial) (Nat.le_of_ble_eq_true rfl) (Nat.le_of_ble_eq_true rfl) dX12_init_33 (fun m_10 em_10 => ?_)
  replace h := h m_10 em_10
  obtain ⟨hn_12, h⟩ := h
  refine sm_putR (Y := mX12_init) (pc := 35) (k := 3) (b := (sm_top m_8.2.2)) (ty := (.array .int)) (Or.inr ⟨_, rfl⟩) (fun _ => hn_12) (by decide) rfl (by decide) rfl rfl wRX12_19 rfl rfl rfl (by decide +kernel) (fun _ => trivial) dX12_init_35 (fun m_11 em_11 => ?_)
  replace h := h m_11 em_11
  refine sm_aload_n (Y := mX12_init) (pc := 38) 0 0 rfl rfl dX12_init_38 ?_
  refine sm_bipush (Y := mX12_init) (pc := 39) 6 (by decide) dX12_init_39 ?_
  refine sm_newI (Y := mX12_init) (pc := 41) (N := 6) wa_int (by decide) rfl (Nat.le_of_ble_eq_true rfl) (fun _ => trivial) (Nat.le_of_ble_eq_true rfl) (Nat.le_of_ble_eq_true rfl) dX12_init_41 (fun m_13 em_13 => ?_)
  replace h := h m_13 em_13
  obtain ⟨hn_15, h⟩ := h
  refine sm_putR (Y := mX12_init) (pc := 43) (k := 4) (b := (sm_top m_11.2.2)) (ty := (.array .int)) (Or.inr ⟨_, rfl⟩) (fun _ => hn_15) (by decide) rfl (by decide) rfl rfl wRX12_22 rfl rfl rfl (by decide +kernel) (fun _ => trivial) dX12_init_43 (fun m_14 em_14 => ?_)
  replace h := h m_14 em_14
  refine sm_aload_n (Y := mX12_init) (pc := 46) 0 0 rfl rfl dX12_init_46 ?_
  refine sm_sipush (Y := mX12_init) (pc := 47) 200 (by decide) dX12_init_47 ?_
  refine sm_newI (Y := mX12_init) (pc := 50) (N := 200) wa_int (by decide) rfl (Nat.le_of_ble_eq_true rfl) (fun _ => trivial) (Nat.le_of_ble_eq_true rfl) (Nat.le_of_ble_eq_true rfl) dX12_init_50 (fun m_16 em_16 => ?_)
  replace h := h m_16 em_16
  obtain ⟨hn_18, h⟩ := h
  refine sm_putR (Y := mX12_init) (pc := 52) (k := 5) (b := (sm_top m_14.2.2)) (ty := (.array .int)) (Or.inr ⟨_, rfl⟩) (fun _ => hn_18) (by decide) rfl (by decide) rfl rfl wRX12_25 rfl rfl rfl (by decide +kernel) (fun _ => trivial) dX12_init_52 (fun m_17 em_17 => ?_)
  replace h := h m_17 em_17
  refine sm_aload_n (Y := mX12_init) (pc := 55) 0 0 rfl rfl dX12_init_55 ?_
  refine sm_iconst (Y := mX12_init) (pc := 56) 1 (by decide) dX12_init_56 ?_
  obtain ⟨hn_20, h⟩ := h
  refine pf_RX12_28 (Y := mX12_init) (pc := 57) rfl (fun _ => hn_20) dX12_init_57 (fun m_19 em_19 => ?_)
  replace h := h m_19 em_19
  refine sm_aload_n (Y := mX12_init) (pc := 60) 0 0 rfl rfl dX12_init_60 ?_
  refine sm_bipush (Y := mX12_init) (pc := 61) 100 (by decide) dX12_init_61 ?_
  refine sm_newI (Y := mX12_init) (pc := 63) (N := 100) wa_int (by decide) rfl (Nat.le_of_ble_eq_true rfl) (fun _ => trivial) (Nat.le_of_ble_eq_true rfl) (Nat.le_of_ble_eq_true rfl) dX12_init_63 (fun m_21 em_21 => ?_)
  replace h := h m_21 em_21
  obtain ⟨hn_23, h⟩ := h
  refine sm_putR (Y := mX12_init) (pc := 65) (k := 10) (b := (sm_top m_19.2.2)) (ty := (.array .int)) (Or.inr ⟨_, rfl⟩) (fun _ => hn_23) (by decide) rfl (by decide) rfl rfl wRX12_32 rfl rfl rfl (by decide +kernel) (fun _ => trivial) dX12_init_65 (fun m_22 em_22 => ?_)
  replace h := h m_22 em_22
  refine sm_aload_n (Y := mX12_init) (pc := 68) 0 0 rfl rfl dX12_init_68 ?_
  refine sm_bipush (Y := mX12_init) (pc := 69) 40 (by decide) dX12_init_69 ?_
  refine sm_newI (Y := mX12_init) (pc := 71) (N := 40) wa_int (by decide) rfl (Nat.le_of_ble_eq_true rfl) (fun _ => trivial) (Nat.le_of_ble_eq_true rfl) (Nat.le_of_ble_eq_true rfl) dX12_init_71 (fun m_24 em_24 => ?_)
  replace h := h m_24 em_24
  obtain ⟨hn_26, h⟩ := h
  refine sm_putR (Y := mX12_init) (pc := 73) (k := 12) (b := (sm_top m_22.2.2)) (ty := (.array .int)) (Or.inr ⟨_, rfl⟩) (fun _ => hn_26) (by decide) rfl (by decide) rfl rfl wRX12_35 rfl rfl rfl (by decide +kernel) (fun _ => trivial) dX12_init_73 (fun m_25 em_25 => ?_)
  replace h := h m_25 em_25
  refine sm_aload_n (Y := mX12_init) (pc := 76) 0 0 rfl rfl dX12_init_76 ?_
  refine sm_bipush (Y := mX12_init) (pc := 77) 40 (by decide) dX12_init_77 ?_
  refine sm_newI (Y := mX12_init) (pc := 79) (N := 40) wa_int (by decide) rfl (Nat.le_of_ble_eq_true rfl) (fun _ => trivial) (Nat.le_of_ble_eq_true rfl) (Nat.le_of_ble_eq_true rfl) dX12_init_79 (fun m_27 em_27 => ?_)
  replace h := h m_27 em_27
  obtain ⟨hn_29, h⟩ := h
  refine sm_putR (Y := mX12_init) (pc := 81) (k := 13) (b := (sm_top m_25.2.2)) (ty := (.array .int)) (Or.inr ⟨_, rfl⟩) (fun _ => hn_29) (by decide) rfl (by decide) rfl rfl wRX12_38 rfl rfl rfl (by decide +kernel) (fun _ => trivial) dX12_init_81 (fun m_28 em_28 => ?_)
  replace h := h m_28 em_28
  refine sm_aload_n (Y := mX12_init) (pc := 84) 0 0 rfl rfl dX12_init_84 ?_
  refine sm_bipush (Y := mX12_init) (pc := 85) 40 (by decide) dX12_init_85 ?_
  refine sm_newI (Y := mX12_init) (pc := 87) (N := 40) wa_int (by decide) rfl (Nat.le_of_ble_eq_true rfl) (fun _ => trivial) (Nat.le_of_ble_eq_true rfl) (Nat.le_of_ble_eq_true rfl) dX12_init_87 (fun m_30 em_30 => ?_)
  replace h := h m_30 em_30
  obtain ⟨hn_32, h⟩ := h
  refine sm_putR (Y := mX12_init) (pc := 89) (k := 14) (b := (sm_top m_28.2.2)) (ty := (.array .int)) (Or.inr ⟨_, rfl⟩) (fun _ => hn_32) (by decide) rfl (by decide) rfl rfl wRX12_41 rfl rfl rfl (by decide +kernel) (fun _ => trivial) dX12_init_89 (fun m_31 em_31 => ?_)
  replace h := h m_31 em_31
  refine sm_aload_n (Y := mX12_init) (pc := 92) 0 0 rfl rfl dX12_init_92 ?_
  refine sm_sipush (Y := mX12_init) (pc := 93) 192 (by decide) dX12_init_93 ?_
  refine sm_newJ (Y := mX12_init) (pc := 96) (N := 192) wa_long (by decide) rfl (Nat.le_of_ble_eq_true rfl) (fun _ => trivial) (Nat.le_of_ble_eq_true rfl) (Nat.le_of_ble_eq_true rfl) dX12_init_96 (fun m_33 em_33 => ?_)
  replace h := h m_33 em_33
  obtain ⟨hn_35, h⟩ := h
  refine sm_putR (Y := mX12_init) (pc := 98) (k := 16) (b := (sm_top m_31.2.2)) (ty := (.array .long)) (Or.inr ⟨_, rfl⟩) (fun _ => hn_35) (by decide) rfl (by decide) rfl rfl wRX12_44 rfl rfl rfl (by decide +kernel) (fun _ => trivial) dX12_init_98 (fun m_34 em_34 => ?_)
  replace h := h m_34 em_34
  refine sm_aload_n (Y := mX12_init) (pc := 101) 0 0 rfl rfl dX12_init_101 ?_
  refine sm_iconst (Y := mX12_init) (pc := 102) 4 (by decide) dX12_init_102 ?_
  refine sm_newI (Y := mX12_init) (pc := 103) (N := 4) wa_int (by decide) rfl (Nat.le_of_ble_eq_true rfl) (fun _ => trivial) (Nat.le_of_ble_eq_true rfl) (Nat.le_of_ble_eq_true rfl) dX12_init_103 (fun m_36 em_36 => ?_)
  replace h := h m_36 em_36
  obtain ⟨hn_38, h⟩ := h
  refine sm_putR (Y := mX12_init) (pc := 105) (k := 17) (b := (sm_top m_34.2.2)) (ty := (.array .int)) (Or.inr ⟨_, rfl⟩) (fun _ => hn_38) (by decide) rfl (by decide) rfl rfl wRX12_48 rfl rfl rfl (by decide +kernel) (fun _ => trivial) dX12_init_105 (fun m_37 em_37 => ?_)
  replace h := h m_37 em_37
  refine sm_aload_n (Y := mX12_init) (pc := 108) 0 0 rfl rfl dX12_init_108 ?_
  refine sm_iconst (Y := mX12_init) (pc := 109) 4 (by decide) dX12_init_109 ?_
  refine sm_newI (Y := mX12_init) (pc := 110) (N := 4) wa_int (by decide) rfl (Nat.le_of_ble_eq_true rfl) (fun _ => trivial) (Nat.le_of_ble_eq_true rfl) (Nat.le_of_ble_eq_true rfl) dX12_init_110 (fun m_39 em_39 => ?_)
  replace h := h m_39 em_39
  obtain ⟨hn_41, h⟩ := h
  refine sm_putR (Y := mX12_init) (pc := 112) (k := 18) (b := (sm_top m_37.2.2)) (ty := (.array .int)) (Or.inr ⟨_, rfl⟩) (fun _ => hn_41) (by decide) rfl (by decide) rfl rfl wRX12_51 rfl rfl rfl (by decide +kernel) (fun _ => trivial) dX12_init_112 (fun m_40 em_40 => ?_)
  replace h := h m_40 em_40
  refine sm_aload_n (Y := mX12_init) (pc := 115) 0 0 rfl rfl dX12_init_115 ?_
  refine sm_sipush (Y := mX12_init) (pc := 116) 200 (by decide) dX12_init_116 ?_
  refine sm_newJ (Y := mX12_init) (pc := 119) (N := 200) wa_long (by decide) rfl (Nat.le_of_ble_eq_true rfl) (fun _ => trivial) (Nat.le_of_ble_eq_true rfl) (Nat.le_of_ble_eq_true rfl) dX12_init_119 (fun m_42 em_42 => ?_)
  replace h := h m_42 em_42
  obtain ⟨hn_44, h⟩ := h
  refine sm_putR (Y := mX12_init) (pc := 121) (k := 19) (b := (sm_top m_40.2.2)) (ty := (.array .long)) (Or.inr ⟨_, rfl⟩) (fun _ => hn_44) (by decide) rfl (by decide) rfl rfl wRX12_54 rfl rfl rfl (by decide +kernel) (fun _ => trivial) dX12_init_121 (fun m_43 em_43 => ?_)
  replace h := h m_43 em_43
  refine sm_aload_n (Y := mX12_init) (pc := 124) 0 0 rfl rfl dX12_init_124 ?_
  refine sm_sipush (Y := mX12_init) (pc := 125) 200 (by decide) dX12_init_125 ?_
  refine sm_newJ (Y := mX12_init) (pc := 128) (N := 200) wa_long (by decide) rfl (Nat.le_of_ble_eq_true rfl) (fun _ => trivial) (Nat.le_of_ble_eq_true rfl) (Nat.le_of_ble_eq_true rfl) dX12_init_128 (fun m_45 em_45 => ?_)
  replace h := h m_45 em_45
  obtain ⟨hn_47, h⟩ := h
  refine sm_putR (Y := mX12_init) (pc := 130) (k := 20) (b := (sm_top m_43.2.2)) (ty := (.array .long)) (Or.inr ⟨_, rfl⟩) (fun _ => hn_47) (by decide) rfl (by decide) rfl rfl wRX12_57 rfl rfl rfl (by decide +kernel) (fun _ => trivial) dX12_init_130 (fun m_46 em_46 => ?_)
  replace h := h m_46 em_46
  refine sm_aload_n (Y := mX12_init) (pc := 133) 0 0 rfl rfl dX12_init_133 ?_
  refine sm_sipush (Y := mX12_init) (pc := 134) 200 (by decide) dX12_init_134 ?_
  refine sm_newZ (Y := mX12_init) (pc := 137) (N := 200) wa_boolean (by decide) rfl (Nat.le_of_ble_eq_true rfl) (fun _ => trivial) (Nat.le_of_ble_eq_true rfl) (Nat.le_of_ble_eq_true rfl) dX12_init_137 (fun m_48 em_48 => ?_)
  replace h := h m_48 em_48
  obtain ⟨hn_50, h⟩ := h
  refine sm_putR (Y := mX12_init) (pc := 139) (k := 21) (b := (sm_top m_46.2.2)) (ty := (.array .boolean)) (Or.inr ⟨_, rfl⟩) (fun _ => hn_50) (by decide) rfl (by decide) rfl rfl wRX12_60 rfl rfl rfl (by decide +kernel) (fun _ => trivial) dX12_init_139 (fun m_49 em_49 => ?_)
  replace h := h m_49 em_49
  refine sm_aload_n (Y := mX12_init) (pc := 142) 0 0 rfl rfl dX12_init_142 ?_
  refine sm_sipush (Y := mX12_init) (pc := 143) 200 (by decide) dX12_init_143 ?_
  refine sm_newI (Y := mX12_init) (pc := 146) (N := 200) wa_int (by decide) rfl (Nat.le_of_ble_eq_true rfl) (fun _ => trivial) (Nat.le_of_ble_eq_true rfl) (Nat.le_of_ble_eq_true rfl) dX12_init_146 (fun m_51 em_51 => ?_)
  replace h := h m_51 em_51
  obtain ⟨hn_53, h⟩ := h
  refine sm_putR (Y := mX12_init) (pc := 148) (k := 22) (b := (sm_top m_49.2.2)) (ty := (.array .int)) (Or.inr ⟨_, rfl⟩) (fun _ => hn_53) (by decide) rfl (by decide) rfl rfl wRX12_64 rfl rfl rfl (by decide +kernel) (fun _ => trivial) dX12_init_148 (fun m_52 em_52 => ?_)
  replace h := h m_52 em_52
  refine sm_aload_n (Y := mX12_init) (pc := 151) 0 0 rfl rfl dX12_init_151 ?_
  refine sm_bipush (Y := mX12_init) (pc := 152) 64 (by decide) dX12_init_152 ?_
  refine sm_newJ (Y := mX12_init) (pc := 154) (N := 64) wa_long (by decide) rfl (Nat.le_of_ble_eq_true rfl) (fun _ => trivial) (Nat.le_of_ble_eq_true rfl) (Nat.le_of_ble_eq_true rfl) dX12_init_154 (fun m_54 em_54 => ?_)
  replace h := h m_54 em_54
  obtain ⟨hn_56, h⟩ := h
  refine sm_putR (Y := mX12_init) (pc := 156) (k := 35) (b := (sm_top m_52.2.2)) (ty := (.array .long)) (Or.inr ⟨_, rfl⟩) (fun _ => hn_56) (by decide) rfl (by decide) rfl rfl wRX12_67 rfl rfl rfl (by decide +kernel) (fun _ => trivial) dX12_init_156 (fun m_55 em_55 => ?_)
  replace h := h m_55 em_55
  refine sm_aload_n (Y := mX12_init) (pc := 159) 0 0 rfl rfl dX12_init_159 ?_
  refine sm_sipush (Y := mX12_init) (pc := 160) 192 (by decide) dX12_init_160 ?_
  refine sm_newI (Y := mX12_init) (pc := 163) (N := 192) wa_int (by decide) rfl (Nat.le_of_ble_eq_true rfl) (fun _ => trivial) (Nat.le_of_ble_eq_true rfl) (Nat.le_of_ble_eq_true rfl) dX12_init_163 (fun m_57 em_57 => ?_)
  replace h := h m_57 em_57
  obtain ⟨hn_59, h⟩ := h
  refine sm_putR (Y := mX12_init) (pc := 165) (k := 37) (b := (sm_top m_55.2.2)) (ty := (.array .int)) (Or.inr ⟨_, rfl⟩) (fun _ => hn_59) (by decide) rfl (by decide) rfl rfl wRX12_70 rfl rfl rfl (by decide +kernel) (fun _ => trivial) dX12_init_165 (fun m_58 em_58 => ?_)
  replace h := h m_58 em_58
  refine sm_aload_n (Y := mX12_init) (pc := 168) 0 0 rfl rfl dX12_init_168 ?_
  refine sm_sipush (Y := mX12_init) (pc := 169) 192 (by decide) dX12_init_169 ?_
  refine sm_newI (Y := mX12_init) (pc := 172) (N := 192) wa_int (by decide) rfl (Nat.le_of_ble_eq_true rfl) (fun _ => trivial) (Nat.le_of_ble_eq_true rfl) (Nat.le_of_ble_eq_true rfl) dX12_init_172 (fun m_60 em_60 => ?_)
  replace h := h m_60 em_60
  obtain ⟨hn_62, h⟩ := h
  refine sm_putR (Y := mX12_init) (pc := 174) (k := 38) (b := (sm_top m_58.2.2)) (ty := (.array .int)) (Or.inr ⟨_, rfl⟩) (fun _ => hn_62) (by decide) rfl (by decide) rfl rfl wRX12_73 rfl rfl rfl (by decide +kernel) (fun _ => trivial) dX12_init_174 (fun m_61 em_61 => ?_)
  replace h := h m_61 em_61
  refine sm_aload_n (Y := mX12_init) (pc := 177) 0 0 rfl rfl dX12_init_177 ?_
  refine sm_bipush (Y := mX12_init) (pc := 178) 24 (by decide) dX12_init_178 ?_
  refine sm_newI (Y := mX12_init) (pc := 180) (N := 24) wa_int (by decide) rfl (Nat.le_of_ble_eq_true rfl) (fun _ => trivial) (Nat.le_of_ble_eq_true rfl) (Nat.le_of_ble_eq_true rfl) dX12_init_180 (fun m_63 em_63 => ?_)
  replace h := h m_63 em_63
  obtain ⟨hn_65, h⟩ := h
  refine sm_putR (Y := mX12_init) (pc := 182) (k := 39) (b := (sm_top m_61.2.2)) (ty := (.array .int)) (Or.inr ⟨_, rfl⟩) (fun _ => hn_65) (by decide) rfl (by decide) rfl rfl wRX12_76 rfl rfl rfl (by decide +kernel) (fun _ => trivial) dX12_init_182 (fun m_64 em_64 => ?_)
  replace h := h m_64 em_64
  refine sm_aload_n (Y := mX12_init) (pc := 185) 0 0 rfl rfl dX12_init_185 ?_
  refine sm_bipush (Y := mX12_init) (pc := 186) 64 (by decide) dX12_init_186 ?_
  refine sm_newI (Y := mX12_init) (pc := 188) (N := 64) wa_int (by decide) rfl (Nat.le_of_ble_eq_true rfl) (fun _ => trivial) (Nat.le_of_ble_eq_true rfl) (Nat.le_of_ble_eq_true rfl) dX12_init_188 (fun m_66 em_66 => ?_)
  replace h := h m_66 em_66
  obtain ⟨hn_68, h⟩ := h
  refine sm_putR (Y := mX12_init) (pc := 190) (k := 40) (b := (sm_top m_64.2.2)) (ty := (.array .int)) (Or.inr ⟨_, rfl⟩) (fun _ => hn_68) (by decide) rfl (by decide) rfl rfl wRX12_79 rfl rfl rfl (by decide +kernel) (fun _ => trivial) dX12_init_190 (fun m_67 em_67 => ?_)
  replace h := h m_67 em_67
  refine sm_aload_n (Y := mX12_init) (pc := 193) 0 0 rfl rfl dX12_init_193 ?_
  refine sm_bipush (Y := mX12_init) (pc := 194) 64 (by decide) dX12_init_194 ?_
  refine sm_newI (Y := mX12_init) (pc := 196) (N := 64) wa_int (by decide) rfl (Nat.le_of_ble_eq_true rfl) (fun _ => trivial) (Nat.le_of_ble_eq_true rfl) (Nat.le_of_ble_eq_true rfl) dX12_init_196 (fun m_69 em_69 => ?_)
  replace h := h m_69 em_69
  obtain ⟨hn_71, h⟩ := h
  refine sm_putR (Y := mX12_init) (pc := 198) (k := 41) (b := (sm_top m_67.2.2)) (ty := (.array .int)) (Or.inr ⟨_, rfl⟩) (fun _ => hn_71) (by decide) rfl (by decide) rfl rfl wRX12_82 rfl rfl rfl (by decide +kernel) (fun _ => trivial) dX12_init_198 (fun m_70 em_70 => ?_)
  replace h := h m_70 em_70
  refine sm_aload_n (Y := mX12_init) (pc := 201) 0 0 rfl rfl dX12_init_201 ?_
  refine sm_bipush (Y := mX12_init) (pc := 202) 64 (by decide) dX12_init_202 ?_
  refine sm_newI (Y := mX12_init) (pc := 204) (N := 64) wa_int (by decide) rfl (Nat.le_of_ble_eq_true rfl) (fun _ => trivial) (Nat.le_of_ble_eq_true rfl) (Nat.le_of_ble_eq_true rfl) dX12_init_204 (fun m_72 em_72 => ?_)
  replace h := h m_72 em_72
  obtain ⟨hn_74, h⟩ := h
  refine sm_putR (Y := mX12_init) (pc := 206) (k := 42) (b := (sm_top m_70.2.2)) (ty := (.array .int)) (Or.inr ⟨_, rfl⟩) (fun _ => hn_74) (by decide) rfl (by decide) rfl rfl wRX12_85 rfl rfl rfl (by decide +kernel) (fun _ => trivial) dX12_init_206 (fun m_73 em_73 => ?_)
  replace h := h m_73 em_73
  refine sm_aload_n (Y := mX12_init) (pc := 209) 0 0 rfl rfl dX12_init_209 ?_
  refine sm_bipush (Y := mX12_init) (pc := 210) 64 (by decide) dX12_init_210 ?_
  refine sm_newI (Y := mX12_init) (pc := 212) (N := 64) wa_int (by decide) rfl (Nat.le_of_ble_eq_true rfl) (fun _ => trivial) (Nat.le_of_ble_eq_true rfl) (Nat.le_of_ble_eq_true rfl) dX12_init_212 (fun m_75 em_75 => ?_)
  replace h := h m_75 em_75
  obtain ⟨hn_77, h⟩ := h
  refine sm_putR (Y := mX12_init) (pc := 214) (k := 43) (b := (sm_top m_73.2.2)) (ty := (.array .int)) (Or.inr ⟨_, rfl⟩) (fun _ => hn_77) (by decide) rfl (by decide) rfl rfl wRX12_88 rfl rfl rfl (by decide +kernel) (fun _ => trivial) dX12_init_214 (fun m_76 em_76 => ?_)
  replace h := h m_76 em_76
  refine sm_aload_n (Y := mX12_init) (pc := 217) 0 0 rfl rfl dX12_init_217 ?_
  refine sm_bipush (Y := mX12_init) (pc := 218) 64 (by decide) dX12_init_218 ?_
  refine sm_newI (Y := mX12_init) (pc := 220) (N := 64) wa_int (by decide) rfl (Nat.le_of_ble_eq_true rfl) (fun _ => trivial) (Nat.le_of_ble_eq_true rfl) (Nat.le_of_ble_eq_true rfl) dX12_init_220 (fun m_78 em_78 => ?_)
  replace h := h m_78 em_78
  obtain ⟨hn_80, h⟩ := h
  refine sm_putR (Y := mX12_init) (pc := 222) (k := 44) (b := (sm_top m_76.2.2)) (ty := (.array .int)) (Or.inr ⟨_, rfl⟩) (fun _ => hn_80) (by decide) rfl (by decide) rfl rfl wRX12_91 rfl rfl rfl (by decide +kernel) (fun _ => trivial) dX12_init_222 (fun m_79 em_79 => ?_)
  replace h := h m_79 em_79
  refine sm_aload_n (Y := mX12_init) (pc := 225) 0 0 rfl rfl dX12_init_225 ?_
  refine sm_bipush (Y := mX12_init) (pc := 226) 48 (by decide) dX12_init_226 ?_
  refine sm_newI (Y := mX12_init) (pc := 228) (N := 48) wa_int (by decide) rfl (Nat.le_of_ble_eq_true rfl) (fun _ => trivial) (Nat.le_of_ble_eq_true rfl) (Nat.le_of_ble_eq_true rfl) dX12_init_228 (fun m_81 em_81 => ?_)
  replace h := h m_81 em_81
  obtain ⟨hn_83, h⟩ := h
  refine sm_putR (Y := mX12_init) (pc := 230) (k := 47) (b := (sm_top m_79.2.2)) (ty := (.array .int)) (Or.inr ⟨_, rfl⟩) (fun _ => hn_83) (by decide) rfl (by decide) rfl rfl wRX12_94 rfl rfl rfl (by decide +kernel) (fun _ => trivial) dX12_init_230 (fun m_82 em_82 => ?_)
  replace h := h m_82 em_82
  refine sm_aload_n (Y := mX12_init) (pc := 233) 0 0 rfl rfl dX12_init_233 ?_
  refine sm_bipush (Y := mX12_init) (pc := 234) 48 (by decide) dX12_init_234 ?_
  refine sm_newI (Y := mX12_init) (pc := 236) (N := 48) wa_int (by decide) rfl (Nat.le_of_ble_eq_true rfl) (fun _ => trivial) (Nat.le_of_ble_eq_true rfl) (Nat.le_of_ble_eq_true rfl) dX12_init_236 (fun m_84 em_84 => ?_)
  replace h := h m_84 em_84
  obtain ⟨hn_86, h⟩ := h
  refine sm_putR (Y := mX12_init) (pc := 238) (k := 48) (b := (sm_top m_82.2.2)) (ty := (.array .int)) (Or.inr ⟨_, rfl⟩) (fun _ => hn_86) (by decide) rfl (by decide) rfl rfl wRX12_97 rfl rfl rfl (by decide +kernel) (fun _ => trivial) dX12_init_238 (fun m_85 em_85 => ?_)
  replace h := h m_85 em_85
  refine sm_aload_n (Y := mX12_init) (pc := 241) 0 0 rfl rfl dX12_init_241 ?_
  refine sm_bipush (Y := mX12_init) (pc := 242) 48 (by decide) dX12_init_242 ?_
  refine sm_newI (Y := mX12_init) (pc := 244) (N := 48) wa_int (by decide) rfl (Nat.le_of_ble_eq_true rfl) (fun _ => trivial) (Nat.le_of_ble_eq_true rfl) (Nat.le_of_ble_eq_true rfl) dX12_init_244 (fun m_87 em_87 => ?_)
  replace h := h m_87 em_87
  obtain ⟨hn_89, h⟩ := h
  refine sm_putR (Y := mX12_init) (pc := 246) (k := 49) (b := (sm_top m_85.2.2)) (ty := (.array .int)) (Or.inr ⟨_, rfl⟩) (fun _ => hn_89) (by decide) rfl (by decide) rfl rfl wRX12_100 rfl rfl rfl (by decide +kernel) (fun _ => trivial) dX12_init_246 (fun m_88 em_88 => ?_)
  replace h := h m_88 em_88
  refine sm_aload_n (Y := mX12_init) (pc := 249) 0 0 rfl rfl dX12_init_249 ?_
  refine sm_bipush (Y := mX12_init) (pc := 250) 50 (by decide) dX12_init_250 ?_
  refine sm_newI (Y := mX12_init) (pc := 252) (N := 50) wa_int (by decide) rfl (Nat.le_of_ble_eq_true rfl) (fun _ => trivial) (Nat.le_of_ble_eq_true rfl) (Nat.le_of_ble_eq_true rfl) dX12_init_252 (fun m_90 em_90 => ?_)
  replace h := h m_90 em_90
  obtain ⟨hn_92, h⟩ := h
  refine sm_putR (Y := mX12_init) (pc := 254) (k := 50) (b := (sm_top m_88.2.2)) (ty := (.array .int)) (Or.inr ⟨_, rfl⟩) (fun _ => hn_92) (by decide) rfl (by decide) rfl rfl wRX12_103 rfl rfl rfl (by decide +kernel) (fun _ => trivial) dX12_init_254 (fun m_91 em_91 => ?_)
  replace h := h m_91 em_91
  refine sm_aload_n (Y := mX12_init) (pc := 257) 0 0 rfl rfl dX12_init_257 ?_
  refine sm_sipush (Y := mX12_init) (pc := 258) 192 (by decide) dX12_init_258 ?_
  refine sm_newZ (Y := mX12_init) (pc := 261) (N := 192) wa_boolean (by decide) rfl (Nat.le_of_ble_eq_true rfl) (fun _ => trivial) (Nat.le_of_ble_eq_true rfl) (Nat.le_of_ble_eq_true rfl) dX12_init_261 (fun m_93 em_93 => ?_)
  replace h := h m_93 em_93
  obtain ⟨hn_95, h⟩ := h
  refine sm_putR (Y := mX12_init) (pc := 263) (k := 51) (b := (sm_top m_91.2.2)) (ty := (.array .boolean)) (Or.inr ⟨_, rfl⟩) (fun _ => hn_95) (by decide) rfl (by decide) rfl rfl wRX12_106 rfl rfl rfl (by decide +kernel) (fun _ => trivial) dX12_init_263 (fun m_94 em_94 => ?_)
  replace h := h m_94 em_94
  refine sm_aload_n (Y := mX12_init) (pc := 266) 0 0 rfl rfl dX12_init_266 ?_
  refine sm_bipush (Y := mX12_init) (pc := 267) 24 (by decide) dX12_init_267 ?_
  refine sm_newI (Y := mX12_init) (pc := 269) (N := 24) wa_int (by decide) rfl (Nat.le_of_ble_eq_true rfl) (fun _ => trivial) (Nat.le_of_ble_eq_true rfl) (Nat.le_of_ble_eq_true rfl) dX12_init_269 (fun m_96 em_96 => ?_)
  replace h := h m_96 em_96
  obtain ⟨hn_98, h⟩ := h
  refine sm_putR (Y := mX12_init) (pc := 271) (k := 55) (b := (sm_top m_94.2.2)) (ty := (.array .int)) (Or.inr ⟨_, rfl⟩) (fun _ => hn_98) (by decide) rfl (by decide) rfl rfl wRX12_109 rfl rfl rfl (by decide +kernel) (fun _ => trivial) dX12_init_271 (fun m_97 em_97 => ?_)
  replace h := h m_97 em_97
  refine sm_aload_n (Y := mX12_init) (pc := 274) 0 0 rfl rfl dX12_init_274 ?_
  refine sm_bipush (Y := mX12_init) (pc := 275) 24 (by decide) dX12_init_275 ?_
  refine sm_newI (Y := mX12_init) (pc := 277) (N := 24) wa_int (by decide) rfl (Nat.le_of_ble_eq_true rfl) (fun _ => trivial) (Nat.le_of_ble_eq_true rfl) (Nat.le_of_ble_eq_true rfl) dX12_init_277 (fun m_99 em_99 => ?_)
  replace h := h m_99 em_99
  obtain ⟨hn_101, h⟩ := h
  refine sm_putR (Y := mX12_init) (pc := 279) (k := 56) (b := (sm_top m_97.2.2)) (ty := (.array .int)) (Or.inr ⟨_, rfl⟩) (fun _ => hn_101) (by decide) rfl (by decide) rfl rfl wRX12_112 rfl rfl rfl (by decide +kernel) (fun _ => trivial) dX12_init_279 (fun m_100 em_100 => ?_)
  replace h := h m_100 em_100
  refine sm_aload_n (Y := mX12_init) (pc := 282) 0 0 rfl rfl dX12_init_282 ?_
  refine sm_bipush (Y := mX12_init) (pc := 283) 24 (by decide) dX12_init_283 ?_
  refine sm_newI (Y := mX12_init) (pc := 285) (N := 24) wa_int (by decide) rfl (Nat.le_of_ble_eq_true rfl) (fun _ => trivial) (Nat.le_of_ble_eq_true rfl) (Nat.le_of_ble_eq_true rfl) dX12_init_285 (fun m_102 em_102 => ?_)
  replace h := h m_102 em_102
  obtain ⟨hn_104, h⟩ := h
  refine sm_putR (Y := mX12_init) (pc := 287) (k := 57) (b := (sm_top m_100.2.2)) (ty := (.array .int)) (Or.inr ⟨_, rfl⟩) (fun _ => hn_104) (by decide) rfl (by decide) rfl rfl wRX12_115 rfl rfl rfl (by decide +kernel) (fun _ => trivial) dX12_init_287 (fun m_103 em_103 => ?_)
  replace h := h m_103 em_103
  refine sm_aload_n (Y := mX12_init) (pc := 290) 0 0 rfl rfl dX12_init_290 ?_
  refine sm_sipush (Y := mX12_init) (pc := 291) 1920 (by decide) dX12_init_291 ?_
  refine sm_newI (Y := mX12_init) (pc := 294) (N := 1920) wa_int (by decide) rfl (Nat.le_of_ble_eq_true rfl) (fun _ => trivial) (Nat.le_of_ble_eq_true rfl) (Nat.le_of_ble_eq_true rfl) dX12_init_294 (fun m_105 em_105 => ?_)
  replace h := h m_105 em_105
  obtain ⟨hn_107, h⟩ := h
  refine sm_putR (Y := mX12_init) (pc := 296) (k := 59) (b := (sm_top m_103.2.2)) (ty := (.array .int)) (Or.inr ⟨_, rfl⟩) (fun _ => hn_107) (by decide) rfl (by decide) rfl rfl wRX12_118 rfl rfl rfl (by decide +kernel) (fun _ => trivial) dX12_init_296 (fun m_106 em_106 => ?_)
  replace h := h m_106 em_106
  refine sm_aload_n (Y := mX12_init) (pc := 299) 0 0 rfl rfl dX12_init_299 ?_
  refine sm_sipush (Y := mX12_init) (pc := 300) 160 (by decide) dX12_init_300 ?_
  refine sm_newJ (Y := mX12_init) (pc := 303) (N := 160) wa_long (by decide) rfl (Nat.le_of_ble_eq_true rfl) (fun _ => trivial) (Nat.le_of_ble_eq_true rfl) (Nat.le_of_ble_eq_true rfl) dX12_init_303 (fun m_108 em_108 => ?_)
  replace h := h m_108 em_108
  obtain ⟨hn_110, h⟩ := h
  refine sm_putR (Y := mX12_init) (pc := 305) (k := 62) (b := (sm_top m_106.2.2)) (ty := (.array .long)) (Or.inr ⟨_, rfl⟩) (fun _ => hn_110) (by decide) rfl (by decide) rfl rfl wRX12_121 rfl rfl rfl (by decide +kernel) (fun _ => trivial) dX12_init_305 (fun m_109 em_109 => ?_)
  replace h := h m_109 em_109
  refine sm_aload_n (Y := mX12_init) (pc := 308) 0 0 rfl rfl dX12_init_308 ?_
  refine sm_bipush (Y := mX12_init) (pc := 309) 10 (by decide) dX12_init_309 ?_
  refine sm_newI (Y := mX12_init) (pc := 311) (N := 10) wa_int (by decide) rfl (Nat.le_of_ble_eq_true rfl) (fun _ => trivial) (Nat.le_of_ble_eq_true rfl) (Nat.le_of_ble_eq_true rfl) dX12_init_311 (fun m_111 em_111 => ?_)
  replace h := h m_111 em_111
  obtain ⟨hn_113, h⟩ := h
  refine sm_putR (Y := mX12_init) (pc := 313) (k := 63) (b := (sm_top m_109.2.2)) (ty := (.array .int)) (Or.inr ⟨_, rfl⟩) (fun _ => hn_113) (by decide) rfl (by decide) rfl rfl wRX12_124 rfl rfl rfl (by decide +kernel) (fun _ => trivial) dX12_init_313 (fun m_112 em_112 => ?_)
  replace h := h m_112 em_112
  refine sm_aload_n (Y := mX12_init) (pc := 316) 0 0 rfl rfl dX12_init_316 ?_
  refine sm_bipush (Y := mX12_init) (pc := 317) 48 (by decide) dX12_init_317 ?_
  refine sm_newJ (Y := mX12_init) (pc := 319) (N := 48) wa_long (by decide) rfl (Nat.le_of_ble_eq_true rfl) (fun _ => trivial) (Nat.le_of_ble_eq_true rfl) (Nat.le_of_ble_eq_true rfl) dX12_init_319 (fun m_114 em_114 => ?_)
  replace h := h m_114 em_114
  obtain ⟨hn_116, h⟩ := h
  refine sm_putR (Y := mX12_init) (pc := 321) (k := 65) (b := (sm_top m_112.2.2)) (ty := (.array .long)) (Or.inr ⟨_, rfl⟩) (fun _ => hn_116) (by decide) rfl (by decide) rfl rfl wRX12_127 rfl rfl rfl (by decide +kernel) (fun _ => trivial) dX12_init_321 (fun m_115 em_115 => ?_)
  replace h := h m_115 em_115
  refine sm_aload_n (Y := mX12_init) (pc := 324) 0 0 rfl rfl dX12_init_324 ?_
  refine sm_bipush (Y := mX12_init) (pc := 325) 64 (by decide) dX12_init_325 ?_
  refine sm_newJ (Y := mX12_init) (pc := 327) (N := 64) wa_long (by decide) rfl (Nat.le_of_ble_eq_true rfl) (fun _ => trivial) (Nat.le_of_ble_eq_true rfl) (Nat.le_of_ble_eq_true rfl) dX12_init_327 (fun m_117 em_117 => ?_)
  replace h := h m_117 em_117
  obtain ⟨hn_119, h⟩ := h
  refine sm_putR (Y := mX12_init) (pc := 329) (k := 66) (b := (sm_top m_115.2.2)) (ty := (.array .long)) (Or.inr ⟨_, rfl⟩) (fun _ => hn_119) (by decide) rfl (by decide) rfl rfl wRX12_130 rfl rfl rfl (by decide +kernel) (fun _ => trivial) dX12_init_329 (fun m_118 em_118 => ?_)
  replace h := h m_118 em_118
  refine sm_iconst (Y := mX12_init) (pc := 332) 0 (by decide) dX12_init_332 ?_
  refine sm_istore0_n (Y := mX12_init) (pc := 333) [(1, .int 0), (0, .ref (sm_B E + a0))] 1 rfl (by decide) rfl dX12_init_333 ?_
  refine sm_sub [1, 0] rfl ?_
  exact h
abbrev mX1_init : sm_Y := (yX1_init, cX1_init, 1, none)
theorem fX1_init : sm_mn mX1_init 0 := ⟨sm_in 301 (by decide +kernel) (by decide +kernel), rfl, rfl, sm_in 300 (by decide +kernel) (by decide +kernel), sm_in 88 (by decide +kernel) (by decide +kernel), ⟨by decide +kernel, by decide +kernel, by decide +kernel⟩, by decide⟩
abbrev mX10_init : sm_Y := (yX10_init, cX10_init, 1, none)
theorem fX10_init : sm_mn mX10_init 0 := ⟨sm_in 313 (by decide +kernel) (by decide +kernel), rfl, rfl, sm_in 312 (by decide +kernel) (by decide +kernel), sm_in 89 (by decide +kernel) (by decide +kernel), ⟨by decide +kernel, by decide +kernel, by decide +kernel⟩, by decide⟩
abbrev mX11_init : sm_Y := (yX11_init, cX11_init, 2, none)
theorem fX11_init : sm_mn mX11_init 0 := ⟨sm_in 106 (by decide +kernel) (by decide +kernel), rfl, rfl, sm_in 105 (by decide +kernel) (by decide +kernel), sm_in 82 (by decide +kernel) (by decide +kernel), ⟨by decide +kernel, by decide +kernel, by decide +kernel⟩, by decide⟩
def gX11_init_200 (E : sm_E) (d : Nat) (vs : List Value) (a0 : Nat) (x1 : Int32) (m : sm_M) (cc ss : Nat) (Q : sm_M → Prop) : Prop := sm_go E sm_L0 mX11_init d 108 4481 vs 200 [(0, .ref (sm_B E + a0)), (1, .int x1)] [] m cc ss (sm_Z E sm_L0 vs 108 4481 (sm_QV Q))
def gX11_init_156 (E : sm_E) (d : Nat) (vs : List Value) (a0 : Nat) (x1 : Int32) (m : sm_M) (cc ss : Nat) (Q : sm_M → Prop) : Prop := sm_go E sm_L0 mX11_init d 108 4481 vs 156 [(0, .ref (sm_B E + a0)), (1, .int x1)] [] m cc ss (sm_Z E sm_L0 vs 108 4481 (sm_QV Q))
theorem dX11_init_200 : decode cX11_init 200 = .ok (.iload_n 1, 1) := dk_iload_n_1 (by decide +kernel)
theorem dX11_init_201 : decode cX11_init 201 = .ok (.iconst 4, 1) := dk_iconst_4 (by decide +kernel)
theorem dX11_init_202 : decode cX11_init 202 = .ok (.if_icmp .ge 22, 3) := dk_if_icmp_ge 22 (b1 := 0) (b2 := 22) (by decide +kernel) (by decide +kernel) (by decide +kernel) (by decide +kernel)
theorem dX11_init_224 : decode cX11_init 224 = .ok (.return_, 1) := dk_return_ (by decide +kernel)
theorem dX11_init_205 : decode cX11_init 205 = .ok (.aload_n 0, 1) := dk_aload_n_0 (by decide +kernel)
theorem dX11_init_206 : decode cX11_init 206 = .ok (.getfield 76, 3) := dk_getfield 76 (b1 := 0) (b2 := 76) (by decide +kernel) (by decide +kernel) (by decide +kernel) (by decide +kernel)
theorem dX11_init_209 : decode cX11_init 209 = .ok (.iload_n 1, 1) := dk_iload_n_1 (by decide +kernel)
theorem wi_RX7 : Cond.instantiable RX7 5 ∈ sm_T := sm_in 355 (by decide +kernel) (by decide +kernel)
theorem wj_RX7 : Cond.initialized RX7 ∈ sm_T := sm_in 92 (by decide +kernel) (by decide +kernel)
theorem wRX11_74 : Cond.classLink RX11 74 RX7 ∈ sm_T := sm_in 353 (by decide +kernel) (by decide +kernel)
theorem dX11_init_210 : decode cX11_init 210 = .ok (.new 74, 3) := dk_new 74 (b1 := 0) (b2 := 74) (by decide +kernel) (by decide +kernel) (by decide +kernel) (by decide +kernel)
theorem dX11_init_213 : decode cX11_init 213 = .ok (.dup, 1) := dk_dup (by decide +kernel)
theorem dX11_init_214 : decode cX11_init 214 = .ok (.invokespecial 80, 3) := dk_invokespecial 80 (b1 := 0) (b2 := 80) (by decide +kernel) (by decide +kernel) (by decide +kernel) (by decide +kernel)
theorem dX11_init_217 : decode cX11_init 217 = .ok (.aastore, 1) := dk_aastore (by decide +kernel)
theorem dX11_init_218 : decode cX11_init 218 = .ok (.iinc 1 1, 3) := dk_iinc 1 1 (b1 := 1) (b2 := 1) (by decide +kernel) (by decide +kernel) (by decide +kernel) (by decide +kernel) (by decide +kernel)
theorem dX11_init_221 : decode cX11_init 221 = .ok (.goto (-21), 3) := dk_goto (-21) (b1 := 255) (b2 := 235) (by decide +kernel) (by decide +kernel) (by decide +kernel) (by decide +kernel)
set_option maxRecDepth 20000 in
theorem vX11_init_200 {E : sm_E} {d : Nat} {vs : List Value} {cc ss : Nat} {a0 : Nat} {x1 : Int32} {m : sm_M} {Q : sm_M → Prop} (hd : 4 ≤ d)
  (h : (4 ≤ x1 →
      (cc ≤ 108) ∧ (ss ≤ 4481) ∧ Q m) ∧
   (¬ 4 ≤ x1 →
      ∃ b_3 : Nat, (sm_K m.2.2 a0 = 9) ∧ (m.2.2.1 a0 10 = some b_3) ∧ (cc + 1 ≤ 108) ∧ (ss + 5 ≤ 4481) ∧ ∀ m_6 : sm_M, m_6 = sm_nw m 5 0 →
      ((cc + 1) + 1 ≤ 108) ∧ ((ss + 5) + 48 ≤ 4481) ∧ sm_callV E sm_L0 mX7_init 1 1 48 [.ref (sm_B E + (sm_top m.2.2))] m_6 (fun m_9 =>
      ∃ n_13 : Nat, (sm_K m_9.2.2 b_3 = 14 ∧ sm_N m_9.2.2 b_3 = n_13) ∧ (vp_in x1 n_13) ∧ (sm_K m_9.2.2 (sm_top m.2.2) = 5) ∧ ∀ m_12 : sm_M, m_12 = sm_wR m_9 b_3 x1.toNatClampNeg (some (sm_top m.2.2)) →
      ∀ x1_17 : Int32, x1_17 = x1 + 1 →
      gX11_init_200 E d vs a0 x1_17 m_12 ((cc + 1) + 1) ((ss + 5) + 48) Q))) :
  gX11_init_200 E d vs a0 x1 m cc ss Q := by
  refine sm_iload_n (Y := mX11_init) (pc := 200) 1 1 rfl rfl dX11_init_200 ?_
  refine sm_iconst (Y := mX11_init) (pc := 201) 4 (by decide) dX11_init_201 ?_
  refine sm_icmp_ge (Y := mX11_init) (pc := 202) 224 (by decide) dX11_init_202 (fun hc => ?_) (fun hc => ?_)
  · replace h := h.1 hc
    obtain ⟨hn_1, h⟩ := h
    obtain ⟨hn_2, h⟩ := h
    refine sm_widen (k := 108) (n := 4481) hn_1 hn_2 ?_
    exact sm_vret (Y := mX11_init) (pc := 224) rfl rfl rfl dX11_init_224 ⟨rfl, h⟩
  · replace h := h.2 hc
    refine sm_aload_n (Y := mX11_init) (pc := 205) 0 0 rfl rfl dX11_init_205 ?_
    obtain ⟨b_3, h⟩ := h
    obtain ⟨hn_4, h⟩ := h
    obtain ⟨hn_5, h⟩ := h
    refine gf_RX11_76 (Y := mX11_init) (pc := 206) (b := b_3) rfl (fun _ => hn_4) (fun _ => hn_5) dX11_init_206 ?_
    refine sm_iload_n (Y := mX11_init) (pc := 209) 1 1 rfl rfl dX11_init_209 ?_
    obtain ⟨hn_7, h⟩ := h
    obtain ⟨hn_8, h⟩ := h
    refine sm_new (Y := mX11_init) (pc := 210) (ci := 5) (by decide) rfl rfl wRX11_74 wi_RX7 wj_RX7 (fun _ => trivial) hn_7 hn_8 dX11_init_210 (fun m_6 em_6 => ?_)
    replace h := h m_6 em_6
    refine sm_dup (Y := mX11_init) (pc := 213) rfl dX11_init_213 ?_
    obtain ⟨hn_10, h⟩ := h
    obtain ⟨hn_11, h⟩ := h
    refine sm_in1_V (Y := mX11_init) (pc := 214) (As := []) (a := (sm_top m.2.2)) fX7_init (List.mem_of_getElem? (i := 7) rfl) rfl rfl (Nat.le_trans (by decide) hd) (Nat.le_of_ble_eq_true rfl) ⟨hn_10, hn_11⟩ dX11_init_214 rfl (sm_monoV h (fun m_9 h => ?_))
    obtain ⟨n_13, h⟩ := h
    obtain ⟨hn_14, h⟩ := h
    obtain ⟨hn_15, h⟩ := h
    obtain ⟨hn_16, h⟩ := h
    refine sm_aastS (Y := mX11_init) (pc := 217) (fun _ => hn_14) hn_15 (fun _ => hn_16) (fun _ => trivial) dX11_init_217 (fun m_12 em_12 => ?_)
    replace h := h m_12 em_12
    refine sm_iinc (Y := mX11_init) (pc := 218) (fun y => [(1, .int y), (0, .ref (sm_B E + a0))]) 1 1 rfl (by decide) (fun _ => rfl) dX11_init_218 (fun x1_17 ex1_17 => ?_)
    replace h := h x1_17 ex1_17
    refine sm_goto (Y := mX11_init) (pc := 221) 200 (by decide) dX11_init_221 ?_
    refine sm_sub [1, 0] rfl ?_
    exact h
theorem dX11_init_156 : decode cX11_init 156 = .ok (.iload_n 1, 1) := dk_iload_n_1 (by decide +kernel)
theorem dX11_init_157 : decode cX11_init 157 = .ok (.bipush 6, 2) := dk_bipush 6 (b := 6) (by decide +kernel) (by decide +kernel) (by decide +kernel)
theorem dX11_init_159 : decode cX11_init 159 = .ok (.if_icmp .ge 39, 3) := dk_if_icmp_ge 39 (b1 := 0) (b2 := 39) (by decide +kernel) (by decide +kernel) (by decide +kernel) (by decide +kernel)
theorem dX11_init_198 : decode cX11_init 198 = .ok (.iconst 0, 1) := dk_iconst_0 (by decide +kernel)
theorem dX11_init_199 : decode cX11_init 199 = .ok (.istore_n 1, 1) := dk_istore_n_1 (by decide +kernel)
theorem dX11_init_162 : decode cX11_init 162 = .ok (.aload_n 0, 1) := dk_aload_n_0 (by decide +kernel)
theorem dX11_init_163 : decode cX11_init 163 = .ok (.getfield 11, 3) := dk_getfield 11 (b1 := 0) (b2 := 11) (by decide +kernel) (by decide +kernel) (by decide +kernel) (by decide +kernel)
theorem dX11_init_166 : decode cX11_init 166 = .ok (.iload_n 1, 1) := dk_iload_n_1 (by decide +kernel)
theorem wRX11_9 : Cond.classLink RX11 9 RX8 ∈ sm_T := sm_in 110 (by decide +kernel) (by decide +kernel)
theorem dX11_init_167 : decode cX11_init 167 = .ok (.new 9, 3) := dk_new 9 (b1 := 0) (b2 := 9) (by decide +kernel) (by decide +kernel) (by decide +kernel) (by decide +kernel)
theorem dX11_init_170 : decode cX11_init 170 = .ok (.dup, 1) := dk_dup (by decide +kernel)
theorem dX11_init_171 : decode cX11_init 171 = .ok (.bipush 60, 2) := dk_bipush 60 (b := 60) (by decide +kernel) (by decide +kernel) (by decide +kernel)
theorem wRX11_18 : Cond.methodLink RX11 18 yX8_init ∈ sm_T := sm_in 113 (by decide +kernel) (by decide +kernel)
theorem dX11_init_173 : decode cX11_init 173 = .ok (.invokespecial 18, 3) := dk_invokespecial 18 (b1 := 0) (b2 := 18) (by decide +kernel) (by decide +kernel) (by decide +kernel) (by decide +kernel)
theorem dX11_init_176 : decode cX11_init 176 = .ok (.aastore, 1) := dk_aastore (by decide +kernel)
theorem dX11_init_177 : decode cX11_init 177 = .ok (.aload_n 0, 1) := dk_aload_n_0 (by decide +kernel)
theorem dX11_init_178 : decode cX11_init 178 = .ok (.getfield 15, 3) := dk_getfield 15 (b1 := 0) (b2 := 15) (by decide +kernel) (by decide +kernel) (by decide +kernel) (by decide +kernel)
theorem dX11_init_181 : decode cX11_init 181 = .ok (.iload_n 1, 1) := dk_iload_n_1 (by decide +kernel)
theorem dX11_init_182 : decode cX11_init 182 = .ok (.new 9, 3) := dk_new 9 (b1 := 0) (b2 := 9) (by decide +kernel) (by decide +kernel) (by decide +kernel) (by decide +kernel)
theorem dX11_init_185 : decode cX11_init 185 = .ok (.dup, 1) := dk_dup (by decide +kernel)
theorem dX11_init_186 : decode cX11_init 186 = .ok (.bipush 60, 2) := dk_bipush 60 (b := 60) (by decide +kernel) (by decide +kernel) (by decide +kernel)
theorem dX11_init_188 : decode cX11_init 188 = .ok (.invokespecial 18, 3) := dk_invokespecial 18 (b1 := 0) (b2 := 18) (by decide +kernel) (by decide +kernel) (by decide +kernel) (by decide +kernel)
theorem dX11_init_191 : decode cX11_init 191 = .ok (.aastore, 1) := dk_aastore (by decide +kernel)
theorem dX11_init_192 : decode cX11_init 192 = .ok (.iinc 1 1, 3) := dk_iinc 1 1 (b1 := 1) (b2 := 1) (by decide +kernel) (by decide +kernel) (by decide +kernel) (by decide +kernel) (by decide +kernel)
theorem dX11_init_195 : decode cX11_init 195 = .ok (.goto (-39), 3) := dk_goto (-39) (b1 := 255) (b2 := 217) (by decide +kernel) (by decide +kernel) (by decide +kernel) (by decide +kernel)
set_option maxRecDepth 20000 in
theorem vX11_init_156 {E : sm_E} {d : Nat} {vs : List Value} {cc ss : Nat} {a0 : Nat} {x1 : Int32} {m : sm_M} {Q : sm_M → Prop} (hd : 4 ≤ d)
  (h : (6 ≤ x1 →
      gX11_init_200 E d vs a0 0 m cc ss Q) ∧
   (¬ 6 ≤ x1 →
      ∃ b_1 : Nat, (sm_K m.2.2 a0 = 9) ∧ (m.2.2.1 a0 0 = some b_1) ∧ (cc + 1 ≤ 108) ∧ (ss + 11 ≤ 4481) ∧ ∀ m_4 : sm_M, m_4 = sm_nw m 6 0 →
      ((cc + 1) + 1 ≤ 108) ∧ ((ss + 11) + 100 ≤ 4481) ∧ sm_callV E sm_L0 mX8_init 2 1 100 [.ref (sm_B E + (sm_top m.2.2)), .int 60] m_4 (fun m_7 =>
      ∃ n_11 : Nat, (sm_K m_7.2.2 b_1 = 15 ∧ sm_N m_7.2.2 b_1 = n_11) ∧ (vp_in x1 n_11) ∧ (sm_K m_7.2.2 (sm_top m.2.2) = 6) ∧ ∀ m_10 : sm_M, m_10 = sm_wR m_7 b_1 x1.toNatClampNeg (some (sm_top m.2.2)) →
      ∃ b_15 : Nat, (sm_K m_10.2.2 a0 = 9) ∧ (m_10.2.2.1 a0 1 = some b_15) ∧ (((cc + 1) + 1) + 1 ≤ 108) ∧ (((ss + 11) + 100) + 11 ≤ 4481) ∧ ∀ m_18 : sm_M, m_18 = sm_nw m_10 6 0 →
      ((((cc + 1) + 1) + 1) + 1 ≤ 108) ∧ ((((ss + 11) + 100) + 11) + 100 ≤ 4481) ∧ sm_callV E sm_L0 mX8_init 2 1 100 [.ref (sm_B E + (sm_top m_10.2.2)), .int 60] m_18 (fun m_21 =>
      ∃ n_25 : Nat, (sm_K m_21.2.2 b_15 = 15 ∧ sm_N m_21.2.2 b_15 = n_25) ∧ (vp_in x1 n_25) ∧ (sm_K m_21.2.2 (sm_top m_10.2.2) = 6) ∧ ∀ m_24 : sm_M, m_24 = sm_wR m_21 b_15 x1.toNatClampNeg (some (sm_top m_10.2.2)) →
      ∀ x1_29 : Int32, x1_29 = x1 + 1 →
      gX11_init_156 E d vs a0 x1_29 m_24 ((((cc + 1) + 1) + 1) + 1) ((((ss + 11) + 100) + 11) + 100) Q)))) :
  gX11_init_156 E d vs a0 x1 m cc ss Q := by
  refine sm_iload_n (Y := mX11_init) (pc := 156) 1 1 rfl rfl dX11_init_156 ?_
  refine sm_bipush (Y := mX11_init) (pc := 157) 6 (by decide) dX11_init_157 ?_
  refine sm_icmp_ge (Y := mX11_init) (pc := 159) 198 (by decide) dX11_init_159 (fun hc => ?_) (fun hc => ?_)
  · replace h := h.1 hc
    refine sm_iconst (Y := mX11_init) (pc := 198) 0 (by decide) dX11_init_198 ?_
    refine sm_istore0_n (Y := mX11_init) (pc := 199) [(1, .int 0), (0, .ref (sm_B E + a0))] 1 rfl (by decide) rfl dX11_init_199 ?_
    refine sm_sub [1, 0] rfl ?_
    exact h
  · replace h := h.2 hc
    refine sm_aload_n (Y := mX11_init) (pc := 162) 0 0 rfl rfl dX11_init_162 ?_
    obtain ⟨b_1, h⟩ := h
    obtain ⟨hn_2, h⟩ := h
    obtain ⟨hn_3, h⟩ := h
    refine gf_RX11_11 (Y := mX11_init) (pc := 163) (b := b_1) rfl (fun _ => hn_2) (fun _ => hn_3) dX11_init_163 ?_
    refine sm_iload_n (Y := mX11_init) (pc := 166) 1 1 rfl rfl dX11_init_166 ?_
    obtain ⟨hn_5, h⟩ := h
    obtain ⟨hn_6, h⟩ := h
    refine sm_new (Y := mX11_init) (pc := 167) (ci := 6) (by decide) rfl rfl wRX11_9 wi_RX8 wj_RX8 (fun _ => trivial) hn_5 hn_6 dX11_init_167 (fun m_4 em_4 => ?_)
    replace h := h m_4 em_4
    refine sm_dup (Y := mX11_init) (pc := 170) rfl dX11_init_170 ?_
    refine sm_bipush (Y := mX11_init) (pc := 171) 60 (by decide) dX11_init_171 ?_
    obtain ⟨hn_8, h⟩ := h
    obtain ⟨hn_9, h⟩ := h
    refine sm_in0_V (Y := mX11_init) (pc := 173) (As := [.int 60]) (a := (sm_top m.2.2)) fX8_init wRX11_18 rfl (Nat.le_trans (by decide) hd) (Nat.le_of_ble_eq_true rfl) ⟨hn_8, hn_9⟩ dX11_init_173 rfl (sm_monoV h (fun m_7 h => ?_))
    obtain ⟨n_11, h⟩ := h
    obtain ⟨hn_12, h⟩ := h
    obtain ⟨hn_13, h⟩ := h
    obtain ⟨hn_14, h⟩ := h
    refine sm_aastG (Y := mX11_init) (pc := 176) (fun _ => hn_12) hn_13 (fun _ => hn_14) (fun _ => trivial) dX11_init_176 (fun m_10 em_10 => ?_)
    replace h := h m_10 em_10
    refine sm_aload_n (Y := mX11_init) (pc := 177) 0 0 rfl rfl dX11_init_177 ?_
    obtain ⟨b_15, h⟩ := h
    obtain ⟨hn_16, h⟩ := h
    obtain ⟨hn_17, h⟩ := h
    refine gf_RX11_15 (Y := mX11_init) (pc := 178) (b := b_15) rfl (fun _ => hn_16) (fun _ => hn_17) dX11_init_178 ?_
    refine sm_iload_n (Y := mX11_init) (pc := 181) 1 1 rfl rfl dX11_init_181 ?_
    obtain ⟨hn_19, h⟩ := h
    obtain ⟨hn_20, h⟩ := h
    refine sm_new (Y := mX11_init) (pc := 182) (ci := 6) (by decide) rfl rfl wRX11_9 wi_RX8 wj_RX8 (fun _ => trivial) hn_19 hn_20 dX11_init_182 (fun m_18 em_18 => ?_)
    replace h := h m_18 em_18
    refine sm_dup (Y := mX11_init) (pc := 185) rfl dX11_init_185 ?_
    refine sm_bipush (Y := mX11_init) (pc := 186) 60 (by decide) dX11_init_186 ?_
    obtain ⟨hn_22, h⟩ := h
    obtain ⟨hn_23, h⟩ := h
    refine sm_in0_V (Y := mX11_init) (pc := 188) (As := [.int 60]) (a := (sm_top m_10.2.2)) fX8_init wRX11_18 rfl (Nat.le_trans (by decide) hd) (Nat.le_of_ble_eq_true rfl) ⟨hn_22, hn_23⟩ dX11_init_188 rfl (sm_monoV h (fun m_21 h => ?_))
    obtain ⟨n_25, h⟩ := h
    obtain ⟨hn_26, h⟩ := h
    obtain ⟨hn_27, h⟩ := h
    obtain ⟨hn_28, h⟩ := h
    refine sm_aastG (Y := mX11_init) (pc := 191) (fun _ => hn_26) hn_27 (fun _ => hn_28) (fun _ => trivial) dX11_init_191 (fun m_24 em_24 => ?_)
    replace h := h m_24 em_24
    refine sm_iinc (Y := mX11_init) (pc := 192) (fun y => [(1, .int y), (0, .ref (sm_B E + a0))]) 1 1 rfl (by decide) (fun _ => rfl) dX11_init_192 (fun x1_29 ex1_29 => ?_)
    replace h := h x1_29 ex1_29
    refine sm_goto (Y := mX11_init) (pc := 195) 156 (by decide) dX11_init_195 ?_
    refine sm_sub [1, 0] rfl ?_
    exact h
theorem dX11_init_0 : decode cX11_init 0 = .ok (.aload_n 0, 1) := dk_aload_n_0 (by decide +kernel)
theorem wRX11_1 : Cond.methodLink RX11 1 Lib.objectInit ∈ sm_T := sm_in 107 (by decide +kernel) (by decide +kernel)
theorem dX11_init_1 : decode cX11_init 1 = .ok (.invokespecial 1, 3) := dk_invokespecial 1 (b1 := 0) (b2 := 1) (by decide +kernel) (by decide +kernel) (by decide +kernel) (by decide +kernel)
theorem dX11_init_4 : decode cX11_init 4 = .ok (.aload_n 0, 1) := dk_aload_n_0 (by decide +kernel)
theorem dX11_init_5 : decode cX11_init 5 = .ok (.bipush 6, 2) := dk_bipush 6 (b := 6) (by decide +kernel) (by decide +kernel) (by decide +kernel)
theorem dX11_init_7 : decode cX11_init 7 = .ok (.anewarray 9, 3) := dk_anewarray 9 (b1 := 0) (b2 := 9) (by decide +kernel) (by decide +kernel) (by decide +kernel) (by decide +kernel)
theorem dX11_init_10 : decode cX11_init 10 = .ok (.putfield 11, 3) := dk_putfield 11 (b1 := 0) (b2 := 11) (by decide +kernel) (by decide +kernel) (by decide +kernel) (by decide +kernel)
theorem dX11_init_13 : decode cX11_init 13 = .ok (.aload_n 0, 1) := dk_aload_n_0 (by decide +kernel)
theorem dX11_init_14 : decode cX11_init 14 = .ok (.bipush 6, 2) := dk_bipush 6 (b := 6) (by decide +kernel) (by decide +kernel) (by decide +kernel)
theorem dX11_init_16 : decode cX11_init 16 = .ok (.anewarray 9, 3) := dk_anewarray 9 (b1 := 0) (b2 := 9) (by decide +kernel) (by decide +kernel) (by decide +kernel) (by decide +kernel)
theorem dX11_init_19 : decode cX11_init 19 = .ok (.putfield 15, 3) := dk_putfield 15 (b1 := 0) (b2 := 15) (by decide +kernel) (by decide +kernel) (by decide +kernel) (by decide +kernel)
theorem dX11_init_22 : decode cX11_init 22 = .ok (.aload_n 0, 1) := dk_aload_n_0 (by decide +kernel)
theorem dX11_init_23 : decode cX11_init 23 = .ok (.new 9, 3) := dk_new 9 (b1 := 0) (b2 := 9) (by decide +kernel) (by decide +kernel) (by decide +kernel) (by decide +kernel)
theorem dX11_init_26 : decode cX11_init 26 = .ok (.dup, 1) := dk_dup (by decide +kernel)
theorem dX11_init_27 : decode cX11_init 27 = .ok (.bipush 60, 2) := dk_bipush 60 (b := 60) (by decide +kernel) (by decide +kernel) (by decide +kernel)
theorem dX11_init_29 : decode cX11_init 29 = .ok (.invokespecial 18, 3) := dk_invokespecial 18 (b1 := 0) (b2 := 18) (by decide +kernel) (by decide +kernel) (by decide +kernel) (by decide +kernel)
theorem dX11_init_32 : decode cX11_init 32 = .ok (.putfield 21, 3) := dk_putfield 21 (b1 := 0) (b2 := 21) (by decide +kernel) (by decide +kernel) (by decide +kernel) (by decide +kernel)
theorem dX11_init_35 : decode cX11_init 35 = .ok (.aload_n 0, 1) := dk_aload_n_0 (by decide +kernel)
theorem wi_RX4 : Cond.instantiable RX4 5 ∈ sm_T := sm_in 179 (by decide +kernel) (by decide +kernel)
theorem wj_RX4 : Cond.initialized RX4 ∈ sm_T := sm_in 85 (by decide +kernel) (by decide +kernel)
theorem wRX11_25 : Cond.classLink RX11 25 RX4 ∈ sm_T := sm_in 178 (by decide +kernel) (by decide +kernel)
theorem dX11_init_36 : decode cX11_init 36 = .ok (.new 25, 3) := dk_new 25 (b1 := 0) (b2 := 25) (by decide +kernel) (by decide +kernel) (by decide +kernel) (by decide +kernel)
theorem dX11_init_39 : decode cX11_init 39 = .ok (.dup, 1) := dk_dup (by decide +kernel)
theorem dX11_init_40 : decode cX11_init 40 = .ok (.invokespecial 27, 3) := dk_invokespecial 27 (b1 := 0) (b2 := 27) (by decide +kernel) (by decide +kernel) (by decide +kernel) (by decide +kernel)
theorem dX11_init_43 : decode cX11_init 43 = .ok (.putfield 28, 3) := dk_putfield 28 (b1 := 0) (b2 := 28) (by decide +kernel) (by decide +kernel) (by decide +kernel) (by decide +kernel)
theorem dX11_init_46 : decode cX11_init 46 = .ok (.aload_n 0, 1) := dk_aload_n_0 (by decide +kernel)
theorem wi_RX9 : Cond.instantiable RX9 8 ∈ sm_T := sm_in 202 (by decide +kernel) (by decide +kernel)
theorem wj_RX9 : Cond.initialized RX9 ∈ sm_T := sm_in 86 (by decide +kernel) (by decide +kernel)
theorem wRX11_32 : Cond.classLink RX11 32 RX9 ∈ sm_T := sm_in 201 (by decide +kernel) (by decide +kernel)
theorem dX11_init_47 : decode cX11_init 47 = .ok (.new 32, 3) := dk_new 32 (b1 := 0) (b2 := 32) (by decide +kernel) (by decide +kernel) (by decide +kernel) (by decide +kernel)
theorem dX11_init_50 : decode cX11_init 50 = .ok (.dup, 1) := dk_dup (by decide +kernel)
theorem dX11_init_51 : decode cX11_init 51 = .ok (.invokespecial 34, 3) := dk_invokespecial 34 (b1 := 0) (b2 := 34) (by decide +kernel) (by decide +kernel) (by decide +kernel) (by decide +kernel)
theorem dX11_init_54 : decode cX11_init 54 = .ok (.putfield 35, 3) := dk_putfield 35 (b1 := 0) (b2 := 35) (by decide +kernel) (by decide +kernel) (by decide +kernel) (by decide +kernel)
theorem dX11_init_57 : decode cX11_init 57 = .ok (.aload_n 0, 1) := dk_aload_n_0 (by decide +kernel)
theorem wi_RX2 : Cond.instantiable RX2 16 ∈ sm_T := sm_in 238 (by decide +kernel) (by decide +kernel)
theorem wj_RX2 : Cond.initialized RX2 ∈ sm_T := sm_in 87 (by decide +kernel) (by decide +kernel)
theorem wRX11_39 : Cond.classLink RX11 39 RX2 ∈ sm_T := sm_in 237 (by decide +kernel) (by decide +kernel)
theorem dX11_init_58 : decode cX11_init 58 = .ok (.new 39, 3) := dk_new 39 (b1 := 0) (b2 := 39) (by decide +kernel) (by decide +kernel) (by decide +kernel) (by decide +kernel)
theorem dX11_init_61 : decode cX11_init 61 = .ok (.dup, 1) := dk_dup (by decide +kernel)
theorem dX11_init_62 : decode cX11_init 62 = .ok (.invokespecial 41, 3) := dk_invokespecial 41 (b1 := 0) (b2 := 41) (by decide +kernel) (by decide +kernel) (by decide +kernel) (by decide +kernel)
theorem dX11_init_65 : decode cX11_init 65 = .ok (.putfield 42, 3) := dk_putfield 42 (b1 := 0) (b2 := 42) (by decide +kernel) (by decide +kernel) (by decide +kernel) (by decide +kernel)
theorem dX11_init_68 : decode cX11_init 68 = .ok (.aload_n 0, 1) := dk_aload_n_0 (by decide +kernel)
theorem wi_RX1 : Cond.instantiable RX1 1 ∈ sm_T := sm_in 298 (by decide +kernel) (by decide +kernel)
theorem wj_RX1 : Cond.initialized RX1 ∈ sm_T := sm_in 88 (by decide +kernel) (by decide +kernel)
theorem wRX11_46 : Cond.classLink RX11 46 RX1 ∈ sm_T := sm_in 297 (by decide +kernel) (by decide +kernel)
theorem dX11_init_69 : decode cX11_init 69 = .ok (.new 46, 3) := dk_new 46 (b1 := 0) (b2 := 46) (by decide +kernel) (by decide +kernel) (by decide +kernel) (by decide +kernel)
theorem dX11_init_72 : decode cX11_init 72 = .ok (.dup, 1) := dk_dup (by decide +kernel)
theorem dX11_init_73 : decode cX11_init 73 = .ok (.invokespecial 48, 3) := dk_invokespecial 48 (b1 := 0) (b2 := 48) (by decide +kernel) (by decide +kernel) (by decide +kernel) (by decide +kernel)
theorem dX11_init_76 : decode cX11_init 76 = .ok (.putfield 49, 3) := dk_putfield 49 (b1 := 0) (b2 := 49) (by decide +kernel) (by decide +kernel) (by decide +kernel) (by decide +kernel)
theorem dX11_init_79 : decode cX11_init 79 = .ok (.aload_n 0, 1) := dk_aload_n_0 (by decide +kernel)
theorem wi_RX10 : Cond.instantiable RX10 1 ∈ sm_T := sm_in 310 (by decide +kernel) (by decide +kernel)
theorem wj_RX10 : Cond.initialized RX10 ∈ sm_T := sm_in 89 (by decide +kernel) (by decide +kernel)
theorem wRX11_53 : Cond.classLink RX11 53 RX10 ∈ sm_T := sm_in 309 (by decide +kernel) (by decide +kernel)
theorem dX11_init_80 : decode cX11_init 80 = .ok (.new 53, 3) := dk_new 53 (b1 := 0) (b2 := 53) (by decide +kernel) (by decide +kernel) (by decide +kernel) (by decide +kernel)
theorem dX11_init_83 : decode cX11_init 83 = .ok (.dup, 1) := dk_dup (by decide +kernel)
theorem dX11_init_84 : decode cX11_init 84 = .ok (.invokespecial 55, 3) := dk_invokespecial 55 (b1 := 0) (b2 := 55) (by decide +kernel) (by decide +kernel) (by decide +kernel) (by decide +kernel)
theorem dX11_init_87 : decode cX11_init 87 = .ok (.putfield 56, 3) := dk_putfield 56 (b1 := 0) (b2 := 56) (by decide +kernel) (by decide +kernel) (by decide +kernel) (by decide +kernel)
theorem dX11_init_90 : decode cX11_init 90 = .ok (.aload_n 0, 1) := dk_aload_n_0 (by decide +kernel)
theorem wi_RX5 : Cond.instantiable RX5 1 ∈ sm_T := sm_in 321 (by decide +kernel) (by decide +kernel)
theorem wj_RX5 : Cond.initialized RX5 ∈ sm_T := sm_in 90 (by decide +kernel) (by decide +kernel)
theorem wRX11_60 : Cond.classLink RX11 60 RX5 ∈ sm_T := sm_in 320 (by decide +kernel) (by decide +kernel)
theorem dX11_init_91 : decode cX11_init 91 = .ok (.new 60, 3) := dk_new 60 (b1 := 0) (b2 := 60) (by decide +kernel) (by decide +kernel) (by decide +kernel) (by decide +kernel)
theorem dX11_init_94 : decode cX11_init 94 = .ok (.dup, 1) := dk_dup (by decide +kernel)
theorem dX11_init_95 : decode cX11_init 95 = .ok (.invokespecial 62, 3) := dk_invokespecial 62 (b1 := 0) (b2 := 62) (by decide +kernel) (by decide +kernel) (by decide +kernel) (by decide +kernel)
theorem dX11_init_98 : decode cX11_init 98 = .ok (.putfield 63, 3) := dk_putfield 63 (b1 := 0) (b2 := 63) (by decide +kernel) (by decide +kernel) (by decide +kernel) (by decide +kernel)
theorem dX11_init_101 : decode cX11_init 101 = .ok (.aload_n 0, 1) := dk_aload_n_0 (by decide +kernel)
theorem wi_RX0 : Cond.instantiable RX0 4 ∈ sm_T := sm_in 332 (by decide +kernel) (by decide +kernel)
theorem wj_RX0 : Cond.initialized RX0 ∈ sm_T := sm_in 91 (by decide +kernel) (by decide +kernel)
theorem wRX11_67 : Cond.classLink RX11 67 RX0 ∈ sm_T := sm_in 331 (by decide +kernel) (by decide +kernel)
theorem dX11_init_102 : decode cX11_init 102 = .ok (.new 67, 3) := dk_new 67 (b1 := 0) (b2 := 67) (by decide +kernel) (by decide +kernel) (by decide +kernel) (by decide +kernel)
theorem dX11_init_105 : decode cX11_init 105 = .ok (.dup, 1) := dk_dup (by decide +kernel)
theorem dX11_init_106 : decode cX11_init 106 = .ok (.invokespecial 69, 3) := dk_invokespecial 69 (b1 := 0) (b2 := 69) (by decide +kernel) (by decide +kernel) (by decide +kernel) (by decide +kernel)
theorem dX11_init_109 : decode cX11_init 109 = .ok (.putfield 70, 3) := dk_putfield 70 (b1 := 0) (b2 := 70) (by decide +kernel) (by decide +kernel) (by decide +kernel) (by decide +kernel)
theorem dX11_init_112 : decode cX11_init 112 = .ok (.aload_n 0, 1) := dk_aload_n_0 (by decide +kernel)
theorem dX11_init_113 : decode cX11_init 113 = .ok (.iconst 4, 1) := dk_iconst_4 (by decide +kernel)
theorem dX11_init_114 : decode cX11_init 114 = .ok (.anewarray 74, 3) := dk_anewarray 74 (b1 := 0) (b2 := 74) (by decide +kernel) (by decide +kernel) (by decide +kernel) (by decide +kernel)
theorem dX11_init_117 : decode cX11_init 117 = .ok (.putfield 76, 3) := dk_putfield 76 (b1 := 0) (b2 := 76) (by decide +kernel) (by decide +kernel) (by decide +kernel) (by decide +kernel)
theorem dX11_init_120 : decode cX11_init 120 = .ok (.aload_n 0, 1) := dk_aload_n_0 (by decide +kernel)
theorem dX11_init_121 : decode cX11_init 121 = .ok (.new 74, 3) := dk_new 74 (b1 := 0) (b2 := 74) (by decide +kernel) (by decide +kernel) (by decide +kernel) (by decide +kernel)
theorem dX11_init_124 : decode cX11_init 124 = .ok (.dup, 1) := dk_dup (by decide +kernel)
theorem dX11_init_125 : decode cX11_init 125 = .ok (.invokespecial 80, 3) := dk_invokespecial 80 (b1 := 0) (b2 := 80) (by decide +kernel) (by decide +kernel) (by decide +kernel) (by decide +kernel)
theorem dX11_init_128 : decode cX11_init 128 = .ok (.putfield 81, 3) := dk_putfield 81 (b1 := 0) (b2 := 81) (by decide +kernel) (by decide +kernel) (by decide +kernel) (by decide +kernel)
theorem dX11_init_131 : decode cX11_init 131 = .ok (.aload_n 0, 1) := dk_aload_n_0 (by decide +kernel)
theorem dX11_init_132 : decode cX11_init 132 = .ok (.bipush 7, 2) := dk_bipush 7 (b := 7) (by decide +kernel) (by decide +kernel) (by decide +kernel)
theorem dX11_init_134 : decode cX11_init 134 = .ok (.newarray .int, 2) := by decide +kernel
theorem dX11_init_136 : decode cX11_init 136 = .ok (.putfield 85, 3) := dk_putfield 85 (b1 := 0) (b2 := 85) (by decide +kernel) (by decide +kernel) (by decide +kernel) (by decide +kernel)
theorem dX11_init_139 : decode cX11_init 139 = .ok (.aload_n 0, 1) := dk_aload_n_0 (by decide +kernel)
theorem dX11_init_140 : decode cX11_init 140 = .ok (.iconst 1, 1) := dk_iconst_1 (by decide +kernel)
theorem dX11_init_141 : decode cX11_init 141 = .ok (.putfield 89, 3) := dk_putfield 89 (b1 := 0) (b2 := 89) (by decide +kernel) (by decide +kernel) (by decide +kernel) (by decide +kernel)
theorem dX11_init_144 : decode cX11_init 144 = .ok (.aload_n 0, 1) := dk_aload_n_0 (by decide +kernel)
theorem dX11_init_145 : decode cX11_init 145 = .ok (.iconst 1, 1) := dk_iconst_1 (by decide +kernel)
theorem dX11_init_146 : decode cX11_init 146 = .ok (.putfield 93, 3) := dk_putfield 93 (b1 := 0) (b2 := 93) (by decide +kernel) (by decide +kernel) (by decide +kernel) (by decide +kernel)
theorem dX11_init_149 : decode cX11_init 149 = .ok (.aload_n 0, 1) := dk_aload_n_0 (by decide +kernel)
theorem dX11_init_150 : decode cX11_init 150 = .ok (.iconst 0, 1) := dk_iconst_0 (by decide +kernel)
theorem dX11_init_151 : decode cX11_init 151 = .ok (.putfield 96, 3) := dk_putfield 96 (b1 := 0) (b2 := 96) (by decide +kernel) (by decide +kernel) (by decide +kernel) (by decide +kernel)
theorem dX11_init_154 : decode cX11_init 154 = .ok (.iconst 0, 1) := dk_iconst_0 (by decide +kernel)
theorem dX11_init_155 : decode cX11_init 155 = .ok (.istore_n 1, 1) := dk_istore_n_1 (by decide +kernel)
set_option maxRecDepth 20000 in
theorem vX11_init_0 {E : sm_E} {d : Nat} {a0 : Nat} {m : sm_M} {Q : sm_M → Prop} (hd : 4 ≤ d)
  (h : ∀ m_1 : sm_M, m_1 = sm_nw m 15 6 →
   (sm_K m_1.2.2 a0 = 9) ∧ ∀ m_2 : sm_M, m_2 = sm_wR m_1 a0 0 (some (sm_top m.2.2)) →
   ∀ m_4 : sm_M, m_4 = sm_nw m_2 15 6 →
   (sm_K m_4.2.2 a0 = 9) ∧ ∀ m_5 : sm_M, m_5 = sm_wR m_4 a0 1 (some (sm_top m_2.2.2)) →
   ∀ m_7 : sm_M, m_7 = sm_nw m_5 6 0 →
   sm_callV E sm_L0 mX8_init 2 1 100 [.ref (sm_B E + (sm_top m_5.2.2)), .int 60] m_7 (fun m_8 =>
   (sm_K m_8.2.2 a0 = 9) ∧ ∀ m_9 : sm_M, m_9 = sm_wR m_8 a0 2 (some (sm_top m_5.2.2)) →
   ∀ m_11 : sm_M, m_11 = sm_nw m_9 3 0 →
   sm_callV E sm_L0 mX4_init 1 4 96 [.ref (sm_B E + (sm_top m_9.2.2))] m_11 (fun m_12 =>
   (sm_K m_12.2.2 a0 = 9) ∧ ∀ m_13 : sm_M, m_13 = sm_wR m_12 a0 3 (some (sm_top m_9.2.2)) →
   ∀ m_15 : sm_M, m_15 = sm_nw m_13 7 0 →
   sm_callV E sm_L0 mX9_init 3 5 411 [.ref (sm_B E + (sm_top m_13.2.2))] m_15 (fun m_16 =>
   (sm_K m_16.2.2 a0 = 9) ∧ ∀ m_17 : sm_M, m_17 = sm_wR m_16 a0 4 (some (sm_top m_13.2.2)) →
   ∀ m_19 : sm_M, m_19 = sm_nw m_17 2 0 →
   sm_callV E sm_L0 mX2_init 1 10 769 [.ref (sm_B E + (sm_top m_17.2.2))] m_19 (fun m_20 =>
   (sm_K m_20.2.2 a0 = 9) ∧ ∀ m_21 : sm_M, m_21 = sm_wR m_20 a0 5 (some (sm_top m_17.2.2)) →
   ∀ m_23 : sm_M, m_23 = sm_nw m_21 1 0 →
   sm_callV E sm_L0 mX1_init 1 25 1176 [.ref (sm_B E + (sm_top m_21.2.2))] m_23 (fun m_24 =>
   (sm_K m_24.2.2 a0 = 9) ∧ ∀ m_25 : sm_M, m_25 = sm_wR m_24 a0 6 (some (sm_top m_21.2.2)) →
   ∀ m_27 : sm_M, m_27 = sm_nw m_25 8 0 →
   sm_callV E sm_L0 mX10_init 1 14 169 [.ref (sm_B E + (sm_top m_25.2.2))] m_27 (fun m_28 =>
   (sm_K m_28.2.2 a0 = 9) ∧ ∀ m_29 : sm_M, m_29 = sm_wR m_28 a0 7 (some (sm_top m_25.2.2)) →
   ∀ m_31 : sm_M, m_31 = sm_nw m_29 4 0 →
   sm_callV E sm_L0 mX5_init 1 1 13 [.ref (sm_B E + (sm_top m_29.2.2))] m_31 (fun m_32 =>
   (sm_K m_32.2.2 a0 = 9) ∧ ∀ m_33 : sm_M, m_33 = sm_wR m_32 a0 8 (some (sm_top m_29.2.2)) →
   ∀ m_35 : sm_M, m_35 = sm_nw m_33 0 0 →
   sm_callV E sm_L0 mX0_init 1 2 80 [.ref (sm_B E + (sm_top m_33.2.2))] m_35 (fun m_36 =>
   (sm_K m_36.2.2 a0 = 9) ∧ ∀ m_37 : sm_M, m_37 = sm_wR m_36 a0 9 (some (sm_top m_33.2.2)) →
   ∀ m_39 : sm_M, m_39 = sm_nw m_37 14 4 →
   (sm_K m_39.2.2 a0 = 9) ∧ ∀ m_40 : sm_M, m_40 = sm_wR m_39 a0 10 (some (sm_top m_37.2.2)) →
   ∀ m_42 : sm_M, m_42 = sm_nw m_40 5 0 →
   sm_callV E sm_L0 mX7_init 1 1 48 [.ref (sm_B E + (sm_top m_40.2.2))] m_42 (fun m_43 =>
   (sm_K m_43.2.2 a0 = 9) ∧ ∀ m_44 : sm_M, m_44 = sm_wR m_43 a0 11 (some (sm_top m_40.2.2)) →
   ∀ m_46 : sm_M, m_46 = sm_nw m_44 11 7 →
   (sm_K m_46.2.2 a0 = 9) ∧ ∀ m_47 : sm_M, m_47 = sm_wR m_46 a0 12 (some (sm_top m_44.2.2)) →
   (sm_K m_47.2.2 a0 = 9) ∧ ∀ m_49 : sm_M, m_49 = sm_wI m_47 a0 13 1 →
   (sm_K m_49.2.2 a0 = 9) ∧ ∀ m_51 : sm_M, m_51 = sm_wI m_49 a0 14 1 →
   (sm_K m_51.2.2 a0 = 9) ∧ ∀ m_53 : sm_M, m_53 = sm_wI m_51 a0 15 0 →
   gX11_init_156 E d ([.ref (sm_B E + a0)]) a0 0 m_53 ((((((((((((((((((((((0 + 1) + 1) + 1) + 1) + 1) + 4) + 1) + 5) + 1) + 10) + 1) + 25) + 1) + 14) + 1) + 1) + 1) + 2) + 1) + 1) + 1) + 1) ((((((((((((((((((((((0 + 6) + 6) + 11) + 100) + 5) + 96) + 8) + 411) + 16) + 769) + 1) + 1176) + 1) + 169) + 1) + 13) + 4) + 80) + 4) + 5) + 48) + 7) Q)))))))))) :
  sm_callV E sm_L0 mX11_init d 108 4481 [.ref (sm_B E + a0)] m Q := by
  refine sm_enter (by decide +kernel) (by simp [lg_sl, Value.category]) ?_
  refine sm_aload_n (Y := mX11_init) (pc := 0) 0 0 rfl rfl dX11_init_0 ?_
  refine sm_obj (Y := mX11_init) (pc := 1) wRX11_1 (Nat.le_trans (by decide) hd) (Nat.le_of_ble_eq_true rfl) dX11_init_1 ?_
  refine sm_aload_n (Y := mX11_init) (pc := 4) 0 0 rfl rfl dX11_init_4 ?_
  refine sm_bipush (Y := mX11_init) (pc := 5) 6 (by decide) dX11_init_5 ?_
  refine sm_newG (Y := mX11_init) (pc := 7) (N := 6) wRX11_9 (by decide) rfl (Nat.le_of_ble_eq_true rfl) (fun _ => trivial) (Nat.le_of_ble_eq_true rfl) (Nat.le_of_ble_eq_true rfl) dX11_init_7 (fun m_1 em_1 => ?_)
  replace h := h m_1 em_1
  obtain ⟨hn_3, h⟩ := h
  refine sm_putR (Y := mX11_init) (pc := 10) (k := 0) (b := (sm_top m.2.2)) (ty := (.array (.object "StrandTangles$Tangle"))) (Or.inr ⟨_, rfl⟩) (fun _ => hn_3) (by decide) rfl (by decide) rfl rfl wRX11_11 rfl rfl rfl (by decide +kernel) (fun _ => trivial) dX11_init_10 (fun m_2 em_2 => ?_)
  replace h := h m_2 em_2
  refine sm_aload_n (Y := mX11_init) (pc := 13) 0 0 rfl rfl dX11_init_13 ?_
  refine sm_bipush (Y := mX11_init) (pc := 14) 6 (by decide) dX11_init_14 ?_
  refine sm_newG (Y := mX11_init) (pc := 16) (N := 6) wRX11_9 (by decide) rfl (Nat.le_of_ble_eq_true rfl) (fun _ => trivial) (Nat.le_of_ble_eq_true rfl) (Nat.le_of_ble_eq_true rfl) dX11_init_16 (fun m_4 em_4 => ?_)
  replace h := h m_4 em_4
  obtain ⟨hn_6, h⟩ := h
  refine sm_putR (Y := mX11_init) (pc := 19) (k := 1) (b := (sm_top m_2.2.2)) (ty := (.array (.object "StrandTangles$Tangle"))) (Or.inr ⟨_, rfl⟩) (fun _ => hn_6) (by decide) rfl (by decide) rfl rfl wRX11_15 rfl rfl rfl (by decide +kernel) (fun _ => trivial) dX11_init_19 (fun m_5 em_5 => ?_)
  replace h := h m_5 em_5
  refine sm_aload_n (Y := mX11_init) (pc := 22) 0 0 rfl rfl dX11_init_22 ?_
  refine sm_new (Y := mX11_init) (pc := 23) (ci := 6) (by decide) rfl rfl wRX11_9 wi_RX8 wj_RX8 (fun _ => trivial) (Nat.le_of_ble_eq_true rfl) (Nat.le_of_ble_eq_true rfl) dX11_init_23 (fun m_7 em_7 => ?_)
  replace h := h m_7 em_7
  refine sm_dup (Y := mX11_init) (pc := 26) rfl dX11_init_26 ?_
  refine sm_bipush (Y := mX11_init) (pc := 27) 60 (by decide) dX11_init_27 ?_
  refine sm_in0_V (Y := mX11_init) (pc := 29) (As := [.int 60]) (a := (sm_top m_5.2.2)) fX8_init wRX11_18 rfl (Nat.le_trans (by decide) hd) (Nat.le_of_ble_eq_true rfl) ⟨(Nat.le_of_ble_eq_true rfl), (Nat.le_of_ble_eq_true rfl)⟩ dX11_init_29 rfl (sm_monoV h (fun m_8 h => ?_))
  obtain ⟨hn_10, h⟩ := h
  refine sm_putR (Y := mX11_init) (pc := 32) (k := 2) (b := (sm_top m_5.2.2)) (ty := (.object "StrandTangles$Tangle")) (Or.inl ⟨_, rfl⟩) (fun _ => hn_10) (by decide) rfl (by decide) rfl rfl wRX11_21 rfl rfl rfl (by decide +kernel) (fun _ => trivial) dX11_init_32 (fun m_9 em_9 => ?_)
  replace h := h m_9 em_9
  refine sm_aload_n (Y := mX11_init) (pc := 35) 0 0 rfl rfl dX11_init_35 ?_
  refine sm_new (Y := mX11_init) (pc := 36) (ci := 3) (by decide) rfl rfl wRX11_25 wi_RX4 wj_RX4 (fun _ => trivial) (Nat.le_of_ble_eq_true rfl) (Nat.le_of_ble_eq_true rfl) dX11_init_36 (fun m_11 em_11 => ?_)
  replace h := h m_11 em_11
  refine sm_dup (Y := mX11_init) (pc := 39) rfl dX11_init_39 ?_
  refine sm_in1_V (Y := mX11_init) (pc := 40) (As := []) (a := (sm_top m_9.2.2)) fX4_init (List.mem_of_getElem? (i := 0) rfl) rfl rfl (Nat.le_trans (by decide) hd) (Nat.le_of_ble_eq_true rfl) ⟨(Nat.le_of_ble_eq_true rfl), (Nat.le_of_ble_eq_true rfl)⟩ dX11_init_40 rfl (sm_monoV h (fun m_12 h => ?_))
  obtain ⟨hn_14, h⟩ := h
  refine sm_putR (Y := mX11_init) (pc := 43) (k := 3) (b := (sm_top m_9.2.2)) (ty := (.object "StrandTangles$Gauge")) (Or.inl ⟨_, rfl⟩) (fun _ => hn_14) (by decide) rfl (by decide) rfl rfl wRX11_28 rfl rfl rfl (by decide +kernel) (fun _ => trivial) dX11_init_43 (fun m_13 em_13 => ?_)
  replace h := h m_13 em_13
  refine sm_aload_n (Y := mX11_init) (pc := 46) 0 0 rfl rfl dX11_init_46 ?_
  refine sm_new (Y := mX11_init) (pc := 47) (ci := 7) (by decide) rfl rfl wRX11_32 wi_RX9 wj_RX9 (fun _ => trivial) (Nat.le_of_ble_eq_true rfl) (Nat.le_of_ble_eq_true rfl) dX11_init_47 (fun m_15 em_15 => ?_)
  replace h := h m_15 em_15
  refine sm_dup (Y := mX11_init) (pc := 50) rfl dX11_init_50 ?_
  refine sm_in1_V (Y := mX11_init) (pc := 51) (As := []) (a := (sm_top m_13.2.2)) fX9_init (List.mem_of_getElem? (i := 1) rfl) rfl rfl (Nat.le_trans (by decide) hd) (Nat.le_of_ble_eq_true rfl) ⟨(Nat.le_of_ble_eq_true rfl), (Nat.le_of_ble_eq_true rfl)⟩ dX11_init_51 rfl (sm_monoV h (fun m_16 h => ?_))
  obtain ⟨hn_18, h⟩ := h
  refine sm_putR (Y := mX11_init) (pc := 54) (k := 4) (b := (sm_top m_13.2.2)) (ty := (.object "StrandTangles$Tape")) (Or.inl ⟨_, rfl⟩) (fun _ => hn_18) (by decide) rfl (by decide) rfl rfl wRX11_35 rfl rfl rfl (by decide +kernel) (fun _ => trivial) dX11_init_54 (fun m_17 em_17 => ?_)
  replace h := h m_17 em_17
  refine sm_aload_n (Y := mX11_init) (pc := 57) 0 0 rfl rfl dX11_init_57 ?_
  refine sm_new (Y := mX11_init) (pc := 58) (ci := 2) (by decide) rfl rfl wRX11_39 wi_RX2 wj_RX2 (fun _ => trivial) (Nat.le_of_ble_eq_true rfl) (Nat.le_of_ble_eq_true rfl) dX11_init_58 (fun m_19 em_19 => ?_)
  replace h := h m_19 em_19
  refine sm_dup (Y := mX11_init) (pc := 61) rfl dX11_init_61 ?_
  refine sm_in1_V (Y := mX11_init) (pc := 62) (As := []) (a := (sm_top m_17.2.2)) fX2_init (List.mem_of_getElem? (i := 2) rfl) rfl rfl (Nat.le_trans (by decide) hd) (Nat.le_of_ble_eq_true rfl) ⟨(Nat.le_of_ble_eq_true rfl), (Nat.le_of_ble_eq_true rfl)⟩ dX11_init_62 rfl (sm_monoV h (fun m_20 h => ?_))
  obtain ⟨hn_22, h⟩ := h
  refine sm_putR (Y := mX11_init) (pc := 65) (k := 5) (b := (sm_top m_17.2.2)) (ty := (.object "StrandTangles$Diagram")) (Or.inl ⟨_, rfl⟩) (fun _ => hn_22) (by decide) rfl (by decide) rfl rfl wRX11_42 rfl rfl rfl (by decide +kernel) (fun _ => trivial) dX11_init_65 (fun m_21 em_21 => ?_)
  replace h := h m_21 em_21
  refine sm_aload_n (Y := mX11_init) (pc := 68) 0 0 rfl rfl dX11_init_68 ?_
  refine sm_new (Y := mX11_init) (pc := 69) (ci := 1) (by decide) rfl rfl wRX11_46 wi_RX1 wj_RX1 (fun _ => trivial) (Nat.le_of_ble_eq_true rfl) (Nat.le_of_ble_eq_true rfl) dX11_init_69 (fun m_23 em_23 => ?_)
  replace h := h m_23 em_23
  refine sm_dup (Y := mX11_init) (pc := 72) rfl dX11_init_72 ?_
  refine sm_in1_V (Y := mX11_init) (pc := 73) (As := []) (a := (sm_top m_21.2.2)) fX1_init (List.mem_of_getElem? (i := 3) rfl) rfl rfl (Nat.le_trans (by decide) hd) (Nat.le_of_ble_eq_true rfl) ⟨(Nat.le_of_ble_eq_true rfl), (Nat.le_of_ble_eq_true rfl)⟩ dX11_init_73 rfl (sm_monoV h (fun m_24 h => ?_))
  obtain ⟨hn_26, h⟩ := h
  refine sm_putR (Y := mX11_init) (pc := 76) (k := 6) (b := (sm_top m_21.2.2)) (ty := (.object "StrandTangles$Colouring")) (Or.inl ⟨_, rfl⟩) (fun _ => hn_26) (by decide) rfl (by decide) rfl rfl wRX11_49 rfl rfl rfl (by decide +kernel) (fun _ => trivial) dX11_init_76 (fun m_25 em_25 => ?_)
  replace h := h m_25 em_25
  refine sm_aload_n (Y := mX11_init) (pc := 79) 0 0 rfl rfl dX11_init_79 ?_
  refine sm_new (Y := mX11_init) (pc := 80) (ci := 8) (by decide) rfl rfl wRX11_53 wi_RX10 wj_RX10 (fun _ => trivial) (Nat.le_of_ble_eq_true rfl) (Nat.le_of_ble_eq_true rfl) dX11_init_80 (fun m_27 em_27 => ?_)
  replace h := h m_27 em_27
  refine sm_dup (Y := mX11_init) (pc := 83) rfl dX11_init_83 ?_
  refine sm_in1_V (Y := mX11_init) (pc := 84) (As := []) (a := (sm_top m_25.2.2)) fX10_init (List.mem_of_getElem? (i := 4) rfl) rfl rfl (Nat.le_trans (by decide) hd) (Nat.le_of_ble_eq_true rfl) ⟨(Nat.le_of_ble_eq_true rfl), (Nat.le_of_ble_eq_true rfl)⟩ dX11_init_84 rfl (sm_monoV h (fun m_28 h => ?_))
  obtain ⟨hn_30, h⟩ := h
  refine sm_putR (Y := mX11_init) (pc := 87) (k := 7) (b := (sm_top m_25.2.2)) (ty := (.object "StrandTangles$Unlinking")) (Or.inl ⟨_, rfl⟩) (fun _ => hn_30) (by decide) rfl (by decide) rfl rfl wRX11_56 rfl rfl rfl (by decide +kernel) (fun _ => trivial) dX11_init_87 (fun m_29 em_29 => ?_)
  replace h := h m_29 em_29
  refine sm_aload_n (Y := mX11_init) (pc := 90) 0 0 rfl rfl dX11_init_90 ?_
  refine sm_new (Y := mX11_init) (pc := 91) (ci := 4) (by decide) rfl rfl wRX11_60 wi_RX5 wj_RX5 (fun _ => trivial) (Nat.le_of_ble_eq_true rfl) (Nat.le_of_ble_eq_true rfl) dX11_init_91 (fun m_31 em_31 => ?_)
  replace h := h m_31 em_31
  refine sm_dup (Y := mX11_init) (pc := 94) rfl dX11_init_94 ?_
  refine sm_in1_V (Y := mX11_init) (pc := 95) (As := []) (a := (sm_top m_29.2.2)) fX5_init (List.mem_of_getElem? (i := 5) rfl) rfl rfl (Nat.le_trans (by decide) hd) (Nat.le_of_ble_eq_true rfl) ⟨(Nat.le_of_ble_eq_true rfl), (Nat.le_of_ble_eq_true rfl)⟩ dX11_init_95 rfl (sm_monoV h (fun m_32 h => ?_))
  obtain ⟨hn_34, h⟩ := h
  refine sm_putR (Y := mX11_init) (pc := 98) (k := 8) (b := (sm_top m_29.2.2)) (ty := (.object "StrandTangles$Listing")) (Or.inl ⟨_, rfl⟩) (fun _ => hn_34) (by decide) rfl (by decide) rfl rfl wRX11_63 rfl rfl rfl (by decide +kernel) (fun _ => trivial) dX11_init_98 (fun m_33 em_33 => ?_)
  replace h := h m_33 em_33
  refine sm_aload_n (Y := mX11_init) (pc := 101) 0 0 rfl rfl dX11_init_101 ?_
  refine sm_new (Y := mX11_init) (pc := 102) (ci := 0) (by decide) rfl rfl wRX11_67 wi_RX0 wj_RX0 (fun _ => trivial) (Nat.le_of_ble_eq_true rfl) (Nat.le_of_ble_eq_true rfl) dX11_init_102 (fun m_35 em_35 => ?_)
  replace h := h m_35 em_35
  refine sm_dup (Y := mX11_init) (pc := 105) rfl dX11_init_105 ?_
  refine sm_in1_V (Y := mX11_init) (pc := 106) (As := []) (a := (sm_top m_33.2.2)) fX0_init (List.mem_of_getElem? (i := 6) rfl) rfl rfl (Nat.le_trans (by decide) hd) (Nat.le_of_ble_eq_true rfl) ⟨(Nat.le_of_ble_eq_true rfl), (Nat.le_of_ble_eq_true rfl)⟩ dX11_init_106 rfl (sm_monoV h (fun m_36 h => ?_))
  obtain ⟨hn_38, h⟩ := h
  refine sm_putR (Y := mX11_init) (pc := 109) (k := 9) (b := (sm_top m_33.2.2)) (ty := (.object "StrandTangles$Book")) (Or.inl ⟨_, rfl⟩) (fun _ => hn_38) (by decide) rfl (by decide) rfl rfl wRX11_70 rfl rfl rfl (by decide +kernel) (fun _ => trivial) dX11_init_109 (fun m_37 em_37 => ?_)
  replace h := h m_37 em_37
  refine sm_aload_n (Y := mX11_init) (pc := 112) 0 0 rfl rfl dX11_init_112 ?_
  refine sm_iconst (Y := mX11_init) (pc := 113) 4 (by decide) dX11_init_113 ?_
  refine sm_newS (Y := mX11_init) (pc := 114) (N := 4) wRX11_74 (by decide) rfl (Nat.le_of_ble_eq_true rfl) (fun _ => trivial) (Nat.le_of_ble_eq_true rfl) (Nat.le_of_ble_eq_true rfl) dX11_init_114 (fun m_39 em_39 => ?_)
  replace h := h m_39 em_39
  obtain ⟨hn_41, h⟩ := h
  refine sm_putR (Y := mX11_init) (pc := 117) (k := 10) (b := (sm_top m_37.2.2)) (ty := (.array (.object "StrandTangles$Sheet"))) (Or.inr ⟨_, rfl⟩) (fun _ => hn_41) (by decide) rfl (by decide) rfl rfl wRX11_76 rfl rfl rfl (by decide +kernel) (fun _ => trivial) dX11_init_117 (fun m_40 em_40 => ?_)
  replace h := h m_40 em_40
  refine sm_aload_n (Y := mX11_init) (pc := 120) 0 0 rfl rfl dX11_init_120 ?_
  refine sm_new (Y := mX11_init) (pc := 121) (ci := 5) (by decide) rfl rfl wRX11_74 wi_RX7 wj_RX7 (fun _ => trivial) (Nat.le_of_ble_eq_true rfl) (Nat.le_of_ble_eq_true rfl) dX11_init_121 (fun m_42 em_42 => ?_)
  replace h := h m_42 em_42
  refine sm_dup (Y := mX11_init) (pc := 124) rfl dX11_init_124 ?_
  refine sm_in1_V (Y := mX11_init) (pc := 125) (As := []) (a := (sm_top m_40.2.2)) fX7_init (List.mem_of_getElem? (i := 7) rfl) rfl rfl (Nat.le_trans (by decide) hd) (Nat.le_of_ble_eq_true rfl) ⟨(Nat.le_of_ble_eq_true rfl), (Nat.le_of_ble_eq_true rfl)⟩ dX11_init_125 rfl (sm_monoV h (fun m_43 h => ?_))
  obtain ⟨hn_45, h⟩ := h
  refine sm_putR (Y := mX11_init) (pc := 128) (k := 11) (b := (sm_top m_40.2.2)) (ty := (.object "StrandTangles$Sheet")) (Or.inl ⟨_, rfl⟩) (fun _ => hn_45) (by decide) rfl (by decide) rfl rfl wRX11_81 rfl rfl rfl (by decide +kernel) (fun _ => trivial) dX11_init_128 (fun m_44 em_44 => ?_)
  replace h := h m_44 em_44
  refine sm_aload_n (Y := mX11_init) (pc := 131) 0 0 rfl rfl dX11_init_131 ?_
  refine sm_bipush (Y := mX11_init) (pc := 132) 7 (by decide) dX11_init_132 ?_
  refine sm_newI (Y := mX11_init) (pc := 134) (N := 7) wa_int (by decide) rfl (Nat.le_of_ble_eq_true rfl) (fun _ => trivial) (Nat.le_of_ble_eq_true rfl) (Nat.le_of_ble_eq_true rfl) dX11_init_134 (fun m_46 em_46 => ?_)
  replace h := h m_46 em_46
  obtain ⟨hn_48, h⟩ := h
  refine sm_putR (Y := mX11_init) (pc := 136) (k := 12) (b := (sm_top m_44.2.2)) (ty := (.array .int)) (Or.inr ⟨_, rfl⟩) (fun _ => hn_48) (by decide) rfl (by decide) rfl rfl wRX11_85 rfl rfl rfl (by decide +kernel) (fun _ => trivial) dX11_init_136 (fun m_47 em_47 => ?_)
  replace h := h m_47 em_47
  refine sm_aload_n (Y := mX11_init) (pc := 139) 0 0 rfl rfl dX11_init_139 ?_
  refine sm_iconst (Y := mX11_init) (pc := 140) 1 (by decide) dX11_init_140 ?_
  obtain ⟨hn_50, h⟩ := h
  refine pf_RX11_89 (Y := mX11_init) (pc := 141) rfl (fun _ => hn_50) dX11_init_141 (fun m_49 em_49 => ?_)
  replace h := h m_49 em_49
  refine sm_aload_n (Y := mX11_init) (pc := 144) 0 0 rfl rfl dX11_init_144 ?_
  refine sm_iconst (Y := mX11_init) (pc := 145) 1 (by decide) dX11_init_145 ?_
  obtain ⟨hn_52, h⟩ := h
  refine pf_RX11_93 (Y := mX11_init) (pc := 146) rfl (fun _ => hn_52) dX11_init_146 (fun m_51 em_51 => ?_)
  replace h := h m_51 em_51
  refine sm_aload_n (Y := mX11_init) (pc := 149) 0 0 rfl rfl dX11_init_149 ?_
  refine sm_iconst (Y := mX11_init) (pc := 150) 0 (by decide) dX11_init_150 ?_
  obtain ⟨hn_54, h⟩ := h
  refine pf_RX11_96 (Y := mX11_init) (pc := 151) rfl (fun _ => hn_54) dX11_init_151 (fun m_53 em_53 => ?_)
  replace h := h m_53 em_53
  refine sm_iconst (Y := mX11_init) (pc := 154) 0 (by decide) dX11_init_154 ?_
  refine sm_istore0_n (Y := mX11_init) (pc := 155) [(1, .int 0), (0, .ref (sm_B E + a0))] 1 rfl (by decide) rfl dX11_init_155 ?_
  refine sm_sub [1, 0] rfl ?_
  exact h
