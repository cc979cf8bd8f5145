abbrev mX11_entered : sm_Y := (yX11_entered, cX11_entered, 3, (some FieldType.int))
theorem fX11_entered : sm_mi mX11_entered RX11 2 := ⟨sm_in 1049 (by decide +kernel) (by decide +kernel), sm_in 1047 (by decide +kernel) (by decide +kernel), sm_in 1048 (by decide +kernel) (by decide +kernel), sm_in 82 (by decide +kernel) (by decide +kernel), rfl, ⟨by decide +kernel, by decide +kernel, by decide +kernel⟩, by decide⟩
theorem dX11_entered_0 : decode cX11_entered 0 = .ok (.aload_n 0, 1) := dk_aload_n_0 (by decide +kernel)
theorem dX11_entered_1 : decode cX11_entered 1 = .ok (.getfield 70, 3) := dk_getfield 70 (b1 := 0) (b2 := 70) (by decide +kernel) (by decide +kernel) (by decide +kernel) (by decide +kernel)
theorem dX11_entered_4 : decode cX11_entered 4 = .ok (.iload_n 1, 1) := dk_iload_n_1 (by decide +kernel)
theorem dX11_entered_5 : decode cX11_entered 5 = .ok (.iload_n 2, 1) := dk_iload_n_2 (by decide +kernel)
theorem wRX11_331 : Cond.methodLink RX11 331 yX0_timesOf ∈ sm_T := sm_in 1050 (by decide +kernel) (by decide +kernel)
theorem dX11_entered_6 : decode cX11_entered 6 = .ok (.invokevirtual 331, 3) := dk_invokevirtual 331 (b1 := 1) (b2 := 75) (by decide +kernel) (by decide +kernel) (by decide +kernel) (by decide +kernel)
theorem dX11_entered_9 : decode cX11_entered 9 = .ok (.ireturn, 1) := dk_ireturn (by decide +kernel)
set_option maxRecDepth 20000 in
theorem vX11_entered_0 {E : sm_E} {L : sm_S → Prop} {d : Nat} {x1 : Int32} {x2 : Int32}  {m : sm_M} {Q : Int32 → sm_M → Prop} (hly : ∀ S, L S → ly S) (hd : 3 ≤ d) 
  (h : sm_callI E L mX0_timesOf 2 0 0 [.ref (sm_B E + 70), .int x1, .int x2] m (fun r_2 m_1 =>
   Q r_2 m_1)) :
  sm_callI E L mX11_entered d 0 0 [.ref (sm_B E + 0), .int x1, .int x2] m Q := by
  refine sm_enter (by decide +kernel) (by simp [lg_sl, Value.category]) ?_
  refine sm_aload_n (Y := mX11_entered) (pc := 0) 0 0 rfl rfl dX11_entered_0 ?_
  refine gf_RX11_70 (Y := mX11_entered) (pc := 1) (b := 70) rfl ((lk_0 hly) _) (lf_0_9 hly _) dX11_entered_1 ?_
  refine sm_iload_n (Y := mX11_entered) (pc := 4) 1 1 rfl rfl dX11_entered_4 ?_
  refine sm_iload_n (Y := mX11_entered) (pc := 5) 2 2 rfl rfl dX11_entered_5 ?_
  refine sm_iv_I (Y := mX11_entered) (pc := 6) (As := [.int x1, .int x2]) (a := 70) fX0_timesOf wRX11_331 (lk_70 hly) (by decide) rfl rfl rfl (Nat.le_trans (by decide) hd) (Nat.le_of_ble_eq_true rfl) ⟨Nat.le_refl _, Nat.le_refl _⟩ dX11_entered_6 rfl (sm_monoI h (fun r_2 m_1 h => ?_))
  exact sm_iret (Y := mX11_entered) (pc := 9) rfl rfl rfl dX11_entered_9 ⟨_, rfl, h⟩
abbrev mX11_sheet : sm_Y := (yX11_sheet, cX11_sheet, 5, (some FieldType.int))
theorem fX11_sheet : sm_mi mX11_sheet RX11 3 := ⟨sm_in 1057 (by decide +kernel) (by decide +kernel), sm_in 1055 (by decide +kernel) (by decide +kernel), sm_in 1056 (by decide +kernel) (by decide +kernel), sm_in 82 (by decide +kernel) (by decide +kernel), rfl, ⟨by decide +kernel, by decide +kernel, by decide +kernel⟩, by decide⟩
def gX11_sheet_33 (E : sm_E) (L : sm_S → Prop) (d : Nat) (vs : List Value) (x1 : Int32) (x2 : Int32) (x3 : Int32) (s0 : Int32) (m : sm_M) (Q : Int32 → sm_M → Prop) : Prop := sm_go E L mX11_sheet d 0 0 vs 33 [(0, .ref (sm_B E + 0)), (1, .int x1), (2, .int x2), (3, .int x3)] [.int s0] m 0 0 (sm_Z E L vs 0 0 (sm_QI Q))
theorem dX11_sheet_33 : decode cX11_sheet 33 = .ok (.istore 4, 2) := dk_istore 4 (b := 4) (by decide +kernel) (by decide +kernel) (by decide +kernel)
theorem dX11_sheet_35 : decode cX11_sheet 35 = .ok (.iload_n 1, 1) := dk_iload_n_1 (by decide +kernel)
theorem dX11_sheet_36 : decode cX11_sheet 36 = .ok (.invokestatic 254, 3) := dk_invokestatic 254 (b1 := 0) (b2 := 254) (by decide +kernel) (by decide +kernel) (by decide +kernel) (by decide +kernel)
theorem dX11_sheet_39 : decode cX11_sheet 39 = .ok (.ifCond .eq 8, 3) := dk_ifCond_eq 8 (b1 := 0) (b2 := 8) (by decide +kernel) (by decide +kernel) (by decide +kernel) (by decide +kernel)
theorem dX11_sheet_47 : decode cX11_sheet 47 = .ok (.aload_n 0, 1) := dk_aload_n_0 (by decide +kernel)
theorem dX11_sheet_48 : decode cX11_sheet 48 = .ok (.iconst 1, 1) := dk_iconst_1 (by decide +kernel)
theorem dX11_sheet_49 : decode cX11_sheet 49 = .ok (.invokevirtual 103, 3) := dk_invokevirtual 103 (b1 := 0) (b2 := 103) (by decide +kernel) (by decide +kernel) (by decide +kernel) (by decide +kernel)
theorem dX11_sheet_52 : decode cX11_sheet 52 = .ok (.ireturn, 1) := dk_ireturn (by decide +kernel)
theorem dX11_sheet_42 : decode cX11_sheet 42 = .ok (.iload 4, 2) := dk_iload 4 (b := 4) (by decide +kernel) (by decide +kernel) (by decide +kernel)
theorem dX11_sheet_44 : decode cX11_sheet 44 = .ok (.ifCond .ne 9, 3) := dk_ifCond_ne 9 (b1 := 0) (b2 := 9) (by decide +kernel) (by decide +kernel) (by decide +kernel) (by decide +kernel)
theorem dX11_sheet_53 : decode cX11_sheet 53 = .ok (.iload_n 2, 1) := dk_iload_n_2 (by decide +kernel)
theorem dX11_sheet_54 : decode cX11_sheet 54 = .ok (.ifCond .ne 16, 3) := dk_ifCond_ne 16 (b1 := 0) (b2 := 16) (by decide +kernel) (by decide +kernel) (by decide +kernel) (by decide +kernel)
theorem dX11_sheet_70 : decode cX11_sheet 70 = .ok (.iload_n 3, 1) := dk_iload_n_3 (by decide +kernel)
theorem dX11_sheet_71 : decode cX11_sheet 71 = .ok (.ifCond .ge 9, 3) := dk_ifCond_ge 9 (b1 := 0) (b2 := 9) (by decide +kernel) (by decide +kernel) (by decide +kernel) (by decide +kernel)
theorem dX11_sheet_80 : decode cX11_sheet 80 = .ok (.iload_n 3, 1) := dk_iload_n_3 (by decide +kernel)
theorem dX11_sheet_81 : decode cX11_sheet 81 = .ok (.bipush 48, 2) := dk_bipush 48 (b := 48) (by decide +kernel) (by decide +kernel) (by decide +kernel)
theorem dX11_sheet_83 : decode cX11_sheet 83 = .ok (.if_icmp .le 9, 3) := dk_if_icmp_le 9 (b1 := 0) (b2 := 9) (by decide +kernel) (by decide +kernel) (by decide +kernel) (by decide +kernel)
theorem dX11_sheet_92 : decode cX11_sheet 92 = .ok (.aload_n 0, 1) := dk_aload_n_0 (by decide +kernel)
theorem dX11_sheet_93 : decode cX11_sheet 93 = .ok (.getfield 76, 3) := dk_getfield 76 (b1 := 0) (b2 := 76) (by decide +kernel) (by decide +kernel) (by decide +kernel) (by decide +kernel)
theorem dX11_sheet_96 : decode cX11_sheet 96 = .ok (.iload_n 1, 1) := dk_iload_n_1 (by decide +kernel)
theorem dX11_sheet_97 : decode cX11_sheet 97 = .ok (.aaload, 1) := dk_aaload (by decide +kernel)
theorem dX11_sheet_98 : decode cX11_sheet 98 = .ok (.iload_n 2, 1) := dk_iload_n_2 (by decide +kernel)
theorem dX11_sheet_99 : decode cX11_sheet 99 = .ok (.iload_n 3, 1) := dk_iload_n_3 (by decide +kernel)
theorem dX11_sheet_100 : decode cX11_sheet 100 = .ok (.invokevirtual 260, 3) := dk_invokevirtual 260 (b1 := 1) (b2 := 4) (by decide +kernel) (by decide +kernel) (by decide +kernel) (by decide +kernel)
theorem dX11_sheet_103 : decode cX11_sheet 103 = .ok (.iconst 1, 1) := dk_iconst_1 (by decide +kernel)
theorem dX11_sheet_104 : decode cX11_sheet 104 = .ok (.ireturn, 1) := dk_ireturn (by decide +kernel)
theorem dX11_sheet_86 : decode cX11_sheet 86 = .ok (.aload_n 0, 1) := dk_aload_n_0 (by decide +kernel)
theorem dX11_sheet_87 : decode cX11_sheet 87 = .ok (.iconst 1, 1) := dk_iconst_1 (by decide +kernel)
theorem dX11_sheet_88 : decode cX11_sheet 88 = .ok (.invokevirtual 103, 3) := dk_invokevirtual 103 (b1 := 0) (b2 := 103) (by decide +kernel) (by decide +kernel) (by decide +kernel) (by decide +kernel)
theorem dX11_sheet_91 : decode cX11_sheet 91 = .ok (.ireturn, 1) := dk_ireturn (by decide +kernel)
theorem dX11_sheet_74 : decode cX11_sheet 74 = .ok (.aload_n 0, 1) := dk_aload_n_0 (by decide +kernel)
theorem dX11_sheet_75 : decode cX11_sheet 75 = .ok (.iconst 3, 1) := dk_iconst_3 (by decide +kernel)
theorem dX11_sheet_76 : decode cX11_sheet 76 = .ok (.invokevirtual 103, 3) := dk_invokevirtual 103 (b1 := 0) (b2 := 103) (by decide +kernel) (by decide +kernel) (by decide +kernel) (by decide +kernel)
theorem dX11_sheet_79 : decode cX11_sheet 79 = .ok (.ireturn, 1) := dk_ireturn (by decide +kernel)
theorem dX11_sheet_57 : decode cX11_sheet 57 = .ok (.aload_n 0, 1) := dk_aload_n_0 (by decide +kernel)
theorem dX11_sheet_58 : decode cX11_sheet 58 = .ok (.getfield 76, 3) := dk_getfield 76 (b1 := 0) (b2 := 76) (by decide +kernel) (by decide +kernel) (by decide +kernel) (by decide +kernel)
theorem dX11_sheet_61 : decode cX11_sheet 61 = .ok (.iload_n 1, 1) := dk_iload_n_1 (by decide +kernel)
theorem dX11_sheet_62 : decode cX11_sheet 62 = .ok (.aaload, 1) := dk_aaload (by decide +kernel)
theorem dX11_sheet_63 : decode cX11_sheet 63 = .ok (.iconst 0, 1) := dk_iconst_0 (by decide +kernel)
theorem dX11_sheet_64 : decode cX11_sheet 64 = .ok (.iconst 0, 1) := dk_iconst_0 (by decide +kernel)
theorem dX11_sheet_65 : decode cX11_sheet 65 = .ok (.invokevirtual 260, 3) := dk_invokevirtual 260 (b1 := 1) (b2 := 4) (by decide +kernel) (by decide +kernel) (by decide +kernel) (by decide +kernel)
theorem dX11_sheet_68 : decode cX11_sheet 68 = .ok (.iconst 1, 1) := dk_iconst_1 (by decide +kernel)
theorem dX11_sheet_69 : decode cX11_sheet 69 = .ok (.ireturn, 1) := dk_ireturn (by decide +kernel)
set_option maxRecDepth 20000 in
theorem vX11_sheet_33 {E : sm_E} {L : sm_S → Prop} {d : Nat} {vs : List Value} {x1 : Int32} {x2 : Int32} {x3 : Int32} {s0 : Int32}  {m : sm_M} {Q : Int32 → sm_M → Prop} (hly : ∀ S, L S → ly S) (hd : 3 ≤ d) 
  (h : sm_callI E L mX11_isSheet 1 0 0 [.int x1] m (fun r_3 m_2 =>
   (r_3 = 0 →
      sm_callI E L mX11_error 1 0 0 [.ref (sm_B E + 0), .int 1] m_2 (fun r_5 m_4 =>
      Q r_5 m_4)) ∧
   (¬ r_3 = 0 →
      (¬ s0 = 0 →
         (¬ x2 = 0 →
            (0 ≤ x3 →
               (x3 ≤ 48 →
                  (vp_in x1 4) ∧ sm_callV E L mX7_reset 2 0 0 [.ref (sm_B E + (101 + 2 * x1.toNatClampNeg)), .int x2, .int x3] m_2 (fun m_7 =>
                  Q 1 m_7)) ∧
               (¬ x3 ≤ 48 →
                  sm_callI E L mX11_error 1 0 0 [.ref (sm_B E + 0), .int 1] m_2 (fun r_9 m_8 =>
                  Q r_9 m_8))) ∧
            (¬ 0 ≤ x3 →
               sm_callI E L mX11_error 1 0 0 [.ref (sm_B E + 0), .int 3] m_2 (fun r_11 m_10 =>
               Q r_11 m_10))) ∧
         (x2 = 0 →
            (vp_in x1 4) ∧ sm_callV E L mX7_reset 2 0 0 [.ref (sm_B E + (101 + 2 * x1.toNatClampNeg)), .int 0, .int 0] m_2 (fun m_13 =>
            Q 1 m_13))) ∧
      (s0 = 0 →
         sm_callI E L mX11_error 1 0 0 [.ref (sm_B E + 0), .int 1] m_2 (fun r_15 m_14 =>
         Q r_15 m_14))))) :
  gX11_sheet_33 E L d vs x1 x2 x3 s0 m Q := by
  refine sm_istore0 (Y := mX11_sheet) (pc := 33) [(4, .int s0), (0, .ref (sm_B E + 0)), (1, .int x1), (2, .int x2), (3, .int x3)] 4 (by decide) rfl dX11_sheet_33 ?_
  refine sm_iload_n (Y := mX11_sheet) (pc := 35) 2 1 rfl rfl dX11_sheet_35 ?_
  refine sm_is_I (Y := mX11_sheet) (pc := 36) (As := [.int x1]) fX11_isSheet wRX11_254 rfl (Nat.le_trans (by decide) hd) (Nat.le_of_ble_eq_true rfl) ⟨Nat.le_refl _, Nat.le_refl _⟩ dX11_sheet_36 rfl (sm_monoI h (fun r_3 m_2 h => ?_))
  refine sm_if_eq (Y := mX11_sheet) (pc := 39) 47 (by decide) dX11_sheet_39 (fun hc => ?_) (fun hc => ?_)
  · replace h := h.1 hc
    refine sm_aload_n (Y := mX11_sheet) (pc := 47) 1 0 rfl rfl dX11_sheet_47 ?_
    refine sm_iconst (Y := mX11_sheet) (pc := 48) 1 (by decide) dX11_sheet_48 ?_
    refine sm_iv_I (Y := mX11_sheet) (pc := 49) (As := [.int 1]) (a := 0) fX11_error wRX11_103 (lk_0 hly) (by decide) rfl rfl rfl (Nat.le_trans (by decide) hd) (Nat.le_of_ble_eq_true rfl) ⟨Nat.le_refl _, Nat.le_refl _⟩ dX11_sheet_49 rfl (sm_monoI h (fun r_5 m_4 h => ?_))
    exact sm_iret (Y := mX11_sheet) (pc := 52) rfl rfl rfl dX11_sheet_52 ⟨_, rfl, h⟩
  · replace h := h.2 hc
    refine sm_iload (Y := mX11_sheet) (pc := 42) 0 4 rfl dX11_sheet_42 ?_
    refine sm_if_ne (Y := mX11_sheet) (pc := 44) 53 (by decide) dX11_sheet_44 (fun hc => ?_) (fun hc => ?_)
    · replace h := h.1 hc
      refine sm_iload_n (Y := mX11_sheet) (pc := 53) 3 2 rfl rfl dX11_sheet_53 ?_
      refine sm_if_ne (Y := mX11_sheet) (pc := 54) 70 (by decide) dX11_sheet_54 (fun hc => ?_) (fun hc => ?_)
      · replace h := h.1 hc
        refine sm_iload_n (Y := mX11_sheet) (pc := 70) 4 3 rfl rfl dX11_sheet_70 ?_
        refine sm_if_ge (Y := mX11_sheet) (pc := 71) 80 (by decide) dX11_sheet_71 (fun hc => ?_) (fun hc => ?_)
        · replace h := h.1 hc
          refine sm_iload_n (Y := mX11_sheet) (pc := 80) 4 3 rfl rfl dX11_sheet_80 ?_
          refine sm_bipush (Y := mX11_sheet) (pc := 81) 48 (by decide) dX11_sheet_81 ?_
          refine sm_icmp_le (Y := mX11_sheet) (pc := 83) 92 (by decide) dX11_sheet_83 (fun hc => ?_) (fun hc => ?_)
          · replace h := h.1 hc
            refine sm_aload_n (Y := mX11_sheet) (pc := 92) 1 0 rfl rfl dX11_sheet_92 ?_
            refine gf_RX11_76 (Y := mX11_sheet) (pc := 93) (b := 73) rfl ((lk_0 hly) _) (lf_0_10 hly _) dX11_sheet_93 ?_
            refine sm_iload_n (Y := mX11_sheet) (pc := 96) 2 1 rfl rfl dX11_sheet_96 ?_
            obtain ⟨hn_6, h⟩ := h
            refine sm_aaldS (Y := mX11_sheet) (pc := 97) (b := (101 + 2 * x1.toNatClampNeg)) (la_73 hly _) hn_6 (ly_sheetR hly (sm_inlt hn_6) _) dX11_sheet_97 ?_
            refine sm_iload_n (Y := mX11_sheet) (pc := 98) 3 2 rfl rfl dX11_sheet_98 ?_
            refine sm_iload_n (Y := mX11_sheet) (pc := 99) 4 3 rfl rfl dX11_sheet_99 ?_
            refine sm_iv_V (Y := mX11_sheet) (pc := 100) (As := [.int x2, .int x3]) (a := (101 + 2 * x1.toNatClampNeg)) fX7_reset wRX11_260 (fun S hS => ((ly_sheetT hly (sm_inlt hn_6)) S hS).1) (by decide) rfl rfl rfl (Nat.le_trans (by decide) hd) (Nat.le_of_ble_eq_true rfl) ⟨Nat.le_refl _, Nat.le_refl _⟩ dX11_sheet_100 rfl (sm_monoV h (fun m_7 h => ?_))
            refine sm_iconst (Y := mX11_sheet) (pc := 103) 1 (by decide) dX11_sheet_103 ?_
            exact sm_iret (Y := mX11_sheet) (pc := 104) rfl rfl rfl dX11_sheet_104 ⟨_, rfl, h⟩
          · replace h := h.2 hc
            refine sm_aload_n (Y := mX11_sheet) (pc := 86) 1 0 rfl rfl dX11_sheet_86 ?_
            refine sm_iconst (Y := mX11_sheet) (pc := 87) 1 (by decide) dX11_sheet_87 ?_
            refine sm_iv_I (Y := mX11_sheet) (pc := 88) (As := [.int 1]) (a := 0) fX11_error wRX11_103 (lk_0 hly) (by decide) rfl rfl rfl (Nat.le_trans (by decide) hd) (Nat.le_of_ble_eq_true rfl) ⟨Nat.le_refl _, Nat.le_refl _⟩ dX11_sheet_88 rfl (sm_monoI h (fun r_9 m_8 h => ?_))
            exact sm_iret (Y := mX11_sheet) (pc := 91) rfl rfl rfl dX11_sheet_91 ⟨_, rfl, h⟩
        · replace h := h.2 hc
          refine sm_aload_n (Y := mX11_sheet) (pc := 74) 1 0 rfl rfl dX11_sheet_74 ?_
          refine sm_iconst (Y := mX11_sheet) (pc := 75) 3 (by decide) dX11_sheet_75 ?_
          refine sm_iv_I (Y := mX11_sheet) (pc := 76) (As := [.int 3]) (a := 0) fX11_error wRX11_103 (lk_0 hly) (by decide) rfl rfl rfl (Nat.le_trans (by decide) hd) (Nat.le_of_ble_eq_true rfl) ⟨Nat.le_refl _, Nat.le_refl _⟩ dX11_sheet_76 rfl (sm_monoI h (fun r_11 m_10 h => ?_))
          exact sm_iret (Y := mX11_sheet) (pc := 79) rfl rfl rfl dX11_sheet_79 ⟨_, rfl, h⟩
      · replace h := h.2 hc
        refine sm_aload_n (Y := mX11_sheet) (pc := 57) 1 0 rfl rfl dX11_sheet_57 ?_
        refine gf_RX11_76 (Y := mX11_sheet) (pc := 58) (b := 73) rfl ((lk_0 hly) _) (lf_0_10 hly _) dX11_sheet_58 ?_
        refine sm_iload_n (Y := mX11_sheet) (pc := 61) 2 1 rfl rfl dX11_sheet_61 ?_
        obtain ⟨hn_12, h⟩ := h
        refine sm_aaldS (Y := mX11_sheet) (pc := 62) (b := (101 + 2 * x1.toNatClampNeg)) (la_73 hly _) hn_12 (ly_sheetR hly (sm_inlt hn_12) _) dX11_sheet_62 ?_
        refine sm_iconst (Y := mX11_sheet) (pc := 63) 0 (by decide) dX11_sheet_63 ?_
        refine sm_iconst (Y := mX11_sheet) (pc := 64) 0 (by decide) dX11_sheet_64 ?_
        refine sm_iv_V (Y := mX11_sheet) (pc := 65) (As := [.int 0, .int 0]) (a := (101 + 2 * x1.toNatClampNeg)) fX7_reset wRX11_260 (fun S hS => ((ly_sheetT hly (sm_inlt hn_12)) S hS).1) (by decide) rfl rfl rfl (Nat.le_trans (by decide) hd) (Nat.le_of_ble_eq_true rfl) ⟨Nat.le_refl _, Nat.le_refl _⟩ dX11_sheet_65 rfl (sm_monoV h (fun m_13 h => ?_))
        refine sm_iconst (Y := mX11_sheet) (pc := 68) 1 (by decide) dX11_sheet_68 ?_
        exact sm_iret (Y := mX11_sheet) (pc := 69) rfl rfl rfl dX11_sheet_69 ⟨_, rfl, h⟩
    · replace h := h.2 hc
      refine sm_aload_n (Y := mX11_sheet) (pc := 47) 1 0 rfl rfl dX11_sheet_47 ?_
      refine sm_iconst (Y := mX11_sheet) (pc := 48) 1 (by decide) dX11_sheet_48 ?_
      refine sm_iv_I (Y := mX11_sheet) (pc := 49) (As := [.int 1]) (a := 0) fX11_error wRX11_103 (lk_0 hly) (by decide) rfl rfl rfl (Nat.le_trans (by decide) hd) (Nat.le_of_ble_eq_true rfl) ⟨Nat.le_refl _, Nat.le_refl _⟩ dX11_sheet_49 rfl (sm_monoI h (fun r_15 m_14 h => ?_))
      exact sm_iret (Y := mX11_sheet) (pc := 52) rfl rfl rfl dX11_sheet_52 ⟨_, rfl, h⟩
theorem dX11_sheet_0 : decode cX11_sheet 0 = .ok (.iload_n 2, 1) := dk_iload_n_2 (by decide +kernel)
theorem dX11_sheet_1 : decode cX11_sheet 1 = .ok (.ifCond .eq 27, 3) := dk_ifCond_eq 27 (b1 := 0) (b2 := 27) (by decide +kernel) (by decide +kernel) (by decide +kernel) (by decide +kernel)
theorem dX11_sheet_28 : decode cX11_sheet 28 = .ok (.iconst 1, 1) := dk_iconst_1 (by decide +kernel)
theorem dX11_sheet_29 : decode cX11_sheet 29 = .ok (.goto 4, 3) := dk_goto 4 (b1 := 0) (b2 := 4) (by decide +kernel) (by decide +kernel) (by decide +kernel) (by decide +kernel)
theorem dX11_sheet_4 : decode cX11_sheet 4 = .ok (.iload_n 2, 1) := dk_iload_n_2 (by decide +kernel)
theorem dX11_sheet_5 : decode cX11_sheet 5 = .ok (.bipush 8, 2) := dk_bipush 8 (b := 8) (by decide +kernel) (by decide +kernel) (by decide +kernel)
theorem dX11_sheet_7 : decode cX11_sheet 7 = .ok (.if_icmp .eq 21, 3) := dk_if_icmp_eq 21 (b1 := 0) (b2 := 21) (by decide +kernel) (by decide +kernel) (by decide +kernel) (by decide +kernel)
theorem dX11_sheet_10 : decode cX11_sheet 10 = .ok (.iload_n 2, 1) := dk_iload_n_2 (by decide +kernel)
theorem dX11_sheet_11 : decode cX11_sheet 11 = .ok (.bipush 16, 2) := dk_bipush 16 (b := 16) (by decide +kernel) (by decide +kernel) (by decide +kernel)
theorem dX11_sheet_13 : decode cX11_sheet 13 = .ok (.if_icmp .eq 15, 3) := dk_if_icmp_eq 15 (b1 := 0) (b2 := 15) (by decide +kernel) (by decide +kernel) (by decide +kernel) (by decide +kernel)
theorem dX11_sheet_16 : decode cX11_sheet 16 = .ok (.iload_n 2, 1) := dk_iload_n_2 (by decide +kernel)
theorem dX11_sheet_17 : decode cX11_sheet 17 = .ok (.bipush 32, 2) := dk_bipush 32 (b := 32) (by decide +kernel) (by decide +kernel) (by decide +kernel)
theorem dX11_sheet_19 : decode cX11_sheet 19 = .ok (.if_icmp .eq 9, 3) := dk_if_icmp_eq 9 (b1 := 0) (b2 := 9) (by decide +kernel) (by decide +kernel) (by decide +kernel) (by decide +kernel)
theorem dX11_sheet_22 : decode cX11_sheet 22 = .ok (.iload_n 2, 1) := dk_iload_n_2 (by decide +kernel)
theorem dX11_sheet_23 : decode cX11_sheet 23 = .ok (.bipush 64, 2) := dk_bipush 64 (b := 64) (by decide +kernel) (by decide +kernel) (by decide +kernel)
theorem dX11_sheet_25 : decode cX11_sheet 25 = .ok (.if_icmp .ne 7, 3) := dk_if_icmp_ne 7 (b1 := 0) (b2 := 7) (by decide +kernel) (by decide +kernel) (by decide +kernel) (by decide +kernel)
theorem dX11_sheet_32 : decode cX11_sheet 32 = .ok (.iconst 0, 1) := dk_iconst_0 (by decide +kernel)
set_option maxRecDepth 20000 in
theorem vX11_sheet_0 {E : sm_E} {L : sm_S → Prop} {d : Nat} {x1 : Int32} {x2 : Int32} {x3 : Int32}  {m : sm_M} {Q : Int32 → sm_M → Prop}  (hd : 3 ≤ d) 
  (h : (x2 = 0 →
      gX11_sheet_33 E L d ([.ref (sm_B E + 0), .int x1, .int x2, .int x3]) x1 x2 x3 1 m Q) ∧
   (¬ x2 = 0 →
      (x2 = 8 →
         gX11_sheet_33 E L d ([.ref (sm_B E + 0), .int x1, .int x2, .int x3]) x1 x2 x3 1 m Q) ∧
      (¬ x2 = 8 →
         (x2 = 16 →
            gX11_sheet_33 E L d ([.ref (sm_B E + 0), .int x1, .int x2, .int x3]) x1 x2 x3 1 m Q) ∧
         (¬ x2 = 16 →
            (x2 = 32 →
               gX11_sheet_33 E L d ([.ref (sm_B E + 0), .int x1, .int x2, .int x3]) x1 x2 x3 1 m Q) ∧
            (¬ x2 = 32 →
               (¬ x2 = 64 →
                  gX11_sheet_33 E L d ([.ref (sm_B E + 0), .int x1, .int x2, .int x3]) x1 x2 x3 0 m Q) ∧
               (x2 = 64 →
                  gX11_sheet_33 E L d ([.ref (sm_B E + 0), .int x1, .int x2, .int x3]) x1 x2 x3 1 m Q)))))) :
  sm_callI E L mX11_sheet d 0 0 [.ref (sm_B E + 0), .int x1, .int x2, .int x3] m Q := by
  refine sm_enter (by decide +kernel) (by simp [lg_sl, Value.category]) ?_
  refine sm_iload_n (Y := mX11_sheet) (pc := 0) 2 2 rfl rfl dX11_sheet_0 ?_
  refine sm_if_eq (Y := mX11_sheet) (pc := 1) 28 (by decide) dX11_sheet_1 (fun hc => ?_) (fun hc => ?_)
  · replace h := h.1 hc
    refine sm_iconst (Y := mX11_sheet) (pc := 28) 1 (by decide) dX11_sheet_28 ?_
    refine sm_goto (Y := mX11_sheet) (pc := 29) 33 (by decide) dX11_sheet_29 ?_
    exact h
  · replace h := h.2 hc
    refine sm_iload_n (Y := mX11_sheet) (pc := 4) 2 2 rfl rfl dX11_sheet_4 ?_
    refine sm_bipush (Y := mX11_sheet) (pc := 5) 8 (by decide) dX11_sheet_5 ?_
    refine sm_icmp_eq (Y := mX11_sheet) (pc := 7) 28 (by decide) dX11_sheet_7 (fun hc => ?_) (fun hc => ?_)
    · replace h := h.1 hc
      refine sm_iconst (Y := mX11_sheet) (pc := 28) 1 (by decide) dX11_sheet_28 ?_
      refine sm_goto (Y := mX11_sheet) (pc := 29) 33 (by decide) dX11_sheet_29 ?_
      exact h
    · replace h := h.2 hc
      refine sm_iload_n (Y := mX11_sheet) (pc := 10) 2 2 rfl rfl dX11_sheet_10 ?_
      refine sm_bipush (Y := mX11_sheet) (pc := 11) 16 (by decide) dX11_sheet_11 ?_
      refine sm_icmp_eq (Y := mX11_sheet) (pc := 13) 28 (by decide) dX11_sheet_13 (fun hc => ?_) (fun hc => ?_)
      · replace h := h.1 hc
        refine sm_iconst (Y := mX11_sheet) (pc := 28) 1 (by decide) dX11_sheet_28 ?_
        refine sm_goto (Y := mX11_sheet) (pc := 29) 33 (by decide) dX11_sheet_29 ?_
        exact h
      · replace h := h.2 hc
        refine sm_iload_n (Y := mX11_sheet) (pc := 16) 2 2 rfl rfl dX11_sheet_16 ?_
        refine sm_bipush (Y := mX11_sheet) (pc := 17) 32 (by decide) dX11_sheet_17 ?_
        refine sm_icmp_eq (Y := mX11_sheet) (pc := 19) 28 (by decide) dX11_sheet_19 (fun hc => ?_) (fun hc => ?_)
        · replace h := h.1 hc
          refine sm_iconst (Y := mX11_sheet) (pc := 28) 1 (by decide) dX11_sheet_28 ?_
          refine sm_goto (Y := mX11_sheet) (pc := 29) 33 (by decide) dX11_sheet_29 ?_
          exact h
        · replace h := h.2 hc
          refine sm_iload_n (Y := mX11_sheet) (pc := 22) 2 2 rfl rfl dX11_sheet_22 ?_
          refine sm_bipush (Y := mX11_sheet) (pc := 23) 64 (by decide) dX11_sheet_23 ?_
          refine sm_icmp_ne (Y := mX11_sheet) (pc := 25) 32 (by decide) dX11_sheet_25 (fun hc => ?_) (fun hc => ?_)
          · replace h := h.1 hc
            refine sm_iconst (Y := mX11_sheet) (pc := 32) 0 (by decide) dX11_sheet_32 ?_
            exact h
          · replace h := h.2 hc
            refine sm_iconst (Y := mX11_sheet) (pc := 28) 1 (by decide) dX11_sheet_28 ?_
            refine sm_goto (Y := mX11_sheet) (pc := 29) 33 (by decide) dX11_sheet_29 ?_
            exact h
abbrev mX11_put : sm_Y := (yX11_put, cX11_put, 6, (some FieldType.int))
theorem fX11_put : sm_mi mX11_put RX11 3 := ⟨sm_in 1061 (by decide +kernel) (by decide +kernel), sm_in 1059 (by decide +kernel) (by decide +kernel), sm_in 1060 (by decide +kernel) (by decide +kernel), sm_in 82 (by decide +kernel) (by decide +kernel), rfl, ⟨by decide +kernel, by decide +kernel, by decide +kernel⟩, by decide⟩
theorem dX11_put_0 : decode cX11_put 0 = .ok (.iload_n 1, 1) := dk_iload_n_1 (by decide +kernel)
theorem dX11_put_1 : decode cX11_put 1 = .ok (.invokestatic 254, 3) := dk_invokestatic 254 (b1 := 0) (b2 := 254) (by decide +kernel) (by decide +kernel) (by decide +kernel) (by decide +kernel)
theorem dX11_put_4 : decode cX11_put 4 = .ok (.ifCond .ne 9, 3) := dk_ifCond_ne 9 (b1 := 0) (b2 := 9) (by decide +kernel) (by decide +kernel) (by decide +kernel) (by decide +kernel)
theorem dX11_put_13 : decode cX11_put 13 = .ok (.aload_n 0, 1) := dk_aload_n_0 (by decide +kernel)
theorem dX11_put_14 : decode cX11_put 14 = .ok (.getfield 76, 3) := dk_getfield 76 (b1 := 0) (b2 := 76) (by decide +kernel) (by decide +kernel) (by decide +kernel) (by decide +kernel)
theorem dX11_put_17 : decode cX11_put 17 = .ok (.iload_n 1, 1) := dk_iload_n_1 (by decide +kernel)
theorem dX11_put_18 : decode cX11_put 18 = .ok (.aaload, 1) := dk_aaload (by decide +kernel)
theorem dX11_put_19 : decode cX11_put 19 = .ok (.astore 5, 2) := dk_astore 5 (b := 5) (by decide +kernel) (by decide +kernel) (by decide +kernel)
theorem dX11_put_21 : decode cX11_put 21 = .ok (.aload 5, 2) := dk_aload 5 (b := 5) (by decide +kernel) (by decide +kernel) (by decide +kernel)
theorem wRX11_334 : Cond.methodLink RX11 334 yX7_isMissing ∈ sm_T := sm_in 1062 (by decide +kernel) (by decide +kernel)
theorem dX11_put_23 : decode cX11_put 23 = .ok (.invokevirtual 334, 3) := dk_invokevirtual 334 (b1 := 1) (b2 := 78) (by decide +kernel) (by decide +kernel) (by decide +kernel) (by decide +kernel)
theorem dX11_put_26 : decode cX11_put 26 = .ok (.ifCond .eq 9, 3) := dk_ifCond_eq 9 (b1 := 0) (b2 := 9) (by decide +kernel) (by decide +kernel) (by decide +kernel) (by decide +kernel)
theorem dX11_put_35 : decode cX11_put 35 = .ok (.aload 5, 2) := dk_aload 5 (b := 5) (by decide +kernel) (by decide +kernel) (by decide +kernel)
theorem dX11_put_37 : decode cX11_put 37 = .ok (.iload_n 2, 1) := dk_iload_n_2 (by decide +kernel)
theorem dX11_put_38 : decode cX11_put 38 = .ok (.invokevirtual 200, 3) := dk_invokevirtual 200 (b1 := 0) (b2 := 200) (by decide +kernel) (by decide +kernel) (by decide +kernel) (by decide +kernel)
theorem dX11_put_41 : decode cX11_put 41 = .ok (.ifCond .ne 9, 3) := dk_ifCond_ne 9 (b1 := 0) (b2 := 9) (by decide +kernel) (by decide +kernel) (by decide +kernel) (by decide +kernel)
theorem dX11_put_50 : decode cX11_put 50 = .ok (.aload 5, 2) := dk_aload 5 (b := 5) (by decide +kernel) (by decide +kernel) (by decide +kernel)
theorem dX11_put_52 : decode cX11_put 52 = .ok (.iload_n 2, 1) := dk_iload_n_2 (by decide +kernel)
theorem dX11_put_53 : decode cX11_put 53 = .ok (.lload_n 3, 1) := dk_lload_n_3 (by decide +kernel)
theorem dX11_put_54 : decode cX11_put 54 = .ok (.invokevirtual 267, 3) := dk_invokevirtual 267 (b1 := 1) (b2 := 11) (by decide +kernel) (by decide +kernel) (by decide +kernel) (by decide +kernel)
theorem dX11_put_57 : decode cX11_put 57 = .ok (.iconst 1, 1) := dk_iconst_1 (by decide +kernel)
theorem dX11_put_58 : decode cX11_put 58 = .ok (.ireturn, 1) := dk_ireturn (by decide +kernel)
theorem dX11_put_44 : decode cX11_put 44 = .ok (.aload_n 0, 1) := dk_aload_n_0 (by decide +kernel)
theorem dX11_put_45 : decode cX11_put 45 = .ok (.iconst 1, 1) := dk_iconst_1 (by decide +kernel)
theorem dX11_put_46 : decode cX11_put 46 = .ok (.invokevirtual 103, 3) := dk_invokevirtual 103 (b1 := 0) (b2 := 103) (by decide +kernel) (by decide +kernel) (by decide +kernel) (by decide +kernel)
theorem dX11_put_49 : decode cX11_put 49 = .ok (.ireturn, 1) := dk_ireturn (by decide +kernel)
theorem dX11_put_29 : decode cX11_put 29 = .ok (.aload_n 0, 1) := dk_aload_n_0 (by decide +kernel)
theorem dX11_put_30 : decode cX11_put 30 = .ok (.iconst 2, 1) := dk_iconst_2 (by decide +kernel)
theorem dX11_put_31 : decode cX11_put 31 = .ok (.invokevirtual 103, 3) := dk_invokevirtual 103 (b1 := 0) (b2 := 103) (by decide +kernel) (by decide +kernel) (by decide +kernel) (by decide +kernel)
theorem dX11_put_34 : decode cX11_put 34 = .ok (.ireturn, 1) := dk_ireturn (by decide +kernel)
theorem dX11_put_7 : decode cX11_put 7 = .ok (.aload_n 0, 1) := dk_aload_n_0 (by decide +kernel)
theorem dX11_put_8 : decode cX11_put 8 = .ok (.iconst 1, 1) := dk_iconst_1 (by decide +kernel)
theorem dX11_put_9 : decode cX11_put 9 = .ok (.invokevirtual 103, 3) := dk_invokevirtual 103 (b1 := 0) (b2 := 103) (by decide +kernel) (by decide +kernel) (by decide +kernel) (by decide +kernel)
theorem dX11_put_12 : decode cX11_put 12 = .ok (.ireturn, 1) := dk_ireturn (by decide +kernel)
set_option maxRecDepth 20000 in
theorem vX11_put_0 {E : sm_E} {L : sm_S → Prop} {d : Nat} {x1 : Int32} {x2 : Int32} {x3 : Int64}  {m : sm_M} {Q : Int32 → sm_M → Prop} (hly : ∀ S, L S → ly S) (hd : 3 ≤ d) 
  (h : sm_callI E L mX11_isSheet 1 0 0 [.int x1] m (fun r_2 m_1 =>
   (¬ r_2 = 0 →
      (vp_in x1 4) ∧ sm_callI E L mX7_isMissing 1 0 0 [.ref (sm_B E + (101 + 2 * x1.toNatClampNeg))] m_1 (fun r_5 m_4 =>
      (r_5 = 0 →
         sm_callI E L mX7_has 1 0 0 [.ref (sm_B E + (101 + 2 * x1.toNatClampNeg)), .int x2] m_4 (fun r_7 m_6 =>
         (¬ r_7 = 0 →
            sm_callV E L mX7_store 2 0 0 [.ref (sm_B E + (101 + 2 * x1.toNatClampNeg)), .int x2, .long x3] m_6 (fun m_8 =>
            Q 1 m_8)) ∧
         (r_7 = 0 →
            sm_callI E L mX11_error 1 0 0 [.ref (sm_B E + 0), .int 1] m_6 (fun r_10 m_9 =>
            Q r_10 m_9)))) ∧
      (¬ r_5 = 0 →
         sm_callI E L mX11_error 1 0 0 [.ref (sm_B E + 0), .int 2] m_4 (fun r_12 m_11 =>
         Q r_12 m_11)))) ∧
   (r_2 = 0 →
      sm_callI E L mX11_error 1 0 0 [.ref (sm_B E + 0), .int 1] m_1 (fun r_14 m_13 =>
      Q r_14 m_13)))) :
  sm_callI E L mX11_put d 0 0 [.ref (sm_B E + 0), .int x1, .int x2, .long x3] m Q := by
  refine sm_enter (by decide +kernel) (by simp [lg_sl, Value.category]) ?_
  refine sm_iload_n (Y := mX11_put) (pc := 0) 1 1 rfl rfl dX11_put_0 ?_
  refine sm_is_I (Y := mX11_put) (pc := 1) (As := [.int x1]) fX11_isSheet wRX11_254 rfl (Nat.le_trans (by decide) hd) (Nat.le_of_ble_eq_true rfl) ⟨Nat.le_refl _, Nat.le_refl _⟩ dX11_put_1 rfl (sm_monoI h (fun r_2 m_1 h => ?_))
  refine sm_if_ne (Y := mX11_put) (pc := 4) 13 (by decide) dX11_put_4 (fun hc => ?_) (fun hc => ?_)
  · replace h := h.1 hc
    refine sm_aload_n (Y := mX11_put) (pc := 13) 0 0 rfl rfl dX11_put_13 ?_
    refine gf_RX11_76 (Y := mX11_put) (pc := 14) (b := 73) rfl ((lk_0 hly) _) (lf_0_10 hly _) dX11_put_14 ?_
    refine sm_iload_n (Y := mX11_put) (pc := 17) 1 1 rfl rfl dX11_put_17 ?_
    obtain ⟨hn_3, h⟩ := h
    refine sm_aaldS (Y := mX11_put) (pc := 18) (b := (101 + 2 * x1.toNatClampNeg)) (la_73 hly _) hn_3 (ly_sheetR hly (sm_inlt hn_3) _) dX11_put_18 ?_
    refine sm_astore (Y := mX11_put) (pc := 19) [(5, .ref (sm_B E + (101 + 2 * x1.toNatClampNeg))), (0, .ref (sm_B E + 0)), (1, .int x1), (2, .int x2), (3, .long x3)] 5 (by decide) rfl dX11_put_19 ?_
    refine sm_aload (Y := mX11_put) (pc := 21) 0 5 rfl dX11_put_21 ?_
    refine sm_iv_I (Y := mX11_put) (pc := 23) (As := []) (a := (101 + 2 * x1.toNatClampNeg)) fX7_isMissing wRX11_334 (fun S hS => ((ly_sheetT hly (sm_inlt hn_3)) S hS).1) (by decide) rfl rfl rfl (Nat.le_trans (by decide) hd) (Nat.le_of_ble_eq_true rfl) ⟨Nat.le_refl _, Nat.le_refl _⟩ dX11_put_23 rfl (sm_monoI h (fun r_5 m_4 h => ?_))
    refine sm_if_eq (Y := mX11_put) (pc := 26) 35 (by decide) dX11_put_26 (fun hc => ?_) (fun hc => ?_)
    · replace h := h.1 hc
      refine sm_aload (Y := mX11_put) (pc := 35) 0 5 rfl dX11_put_35 ?_
      refine sm_iload_n (Y := mX11_put) (pc := 37) 3 2 rfl rfl dX11_put_37 ?_
      refine sm_iv_I (Y := mX11_put) (pc := 38) (As := [.int x2]) (a := (101 + 2 * x1.toNatClampNeg)) fX7_has wRX11_200 (fun S hS => ((ly_sheetT hly (sm_inlt hn_3)) S hS).1) (by decide) rfl rfl rfl (Nat.le_trans (by decide) hd) (Nat.le_of_ble_eq_true rfl) ⟨Nat.le_refl _, Nat.le_refl _⟩ dX11_put_38 rfl (sm_monoI h (fun r_7 m_6 h => ?_))
      refine sm_if_ne (Y := mX11_put) (pc := 41) 50 (by decide) dX11_put_41 (fun hc => ?_) (fun hc => ?_)
      · replace h := h.1 hc
        refine sm_aload (Y := mX11_put) (pc := 50) 0 5 rfl dX11_put_50 ?_
        refine sm_iload_n (Y := mX11_put) (pc := 52) 3 2 rfl rfl dX11_put_52 ?_
        refine sm_lload_n (Y := mX11_put) (pc := 53) 4 3 rfl rfl dX11_put_53 ?_
        refine sm_iv_V (Y := mX11_put) (pc := 54) (As := [.int x2, .long x3]) (a := (101 + 2 * x1.toNatClampNeg)) fX7_store wRX11_267 (fun S hS => ((ly_sheetT hly (sm_inlt hn_3)) S hS).1) (by decide) rfl rfl rfl (Nat.le_trans (by decide) hd) (Nat.le_of_ble_eq_true rfl) ⟨Nat.le_refl _, Nat.le_refl _⟩ dX11_put_54 rfl (sm_monoV h (fun m_8 h => ?_))
        refine sm_iconst (Y := mX11_put) (pc := 57) 1 (by decide) dX11_put_57 ?_
        exact sm_iret (Y := mX11_put) (pc := 58) rfl rfl rfl dX11_put_58 ⟨_, rfl, h⟩
      · replace h := h.2 hc
        refine sm_aload_n (Y := mX11_put) (pc := 44) 1 0 rfl rfl dX11_put_44 ?_
        refine sm_iconst (Y := mX11_put) (pc := 45) 1 (by decide) dX11_put_45 ?_
        refine sm_iv_I (Y := mX11_put) (pc := 46) (As := [.int 1]) (a := 0) fX11_error wRX11_103 (lk_0 hly) (by decide) rfl rfl rfl (Nat.le_trans (by decide) hd) (Nat.le_of_ble_eq_true rfl) ⟨Nat.le_refl _, Nat.le_refl _⟩ dX11_put_46 rfl (sm_monoI h (fun r_10 m_9 h => ?_))
        exact sm_iret (Y := mX11_put) (pc := 49) rfl rfl rfl dX11_put_49 ⟨_, rfl, h⟩
    · replace h := h.2 hc
      refine sm_aload_n (Y := mX11_put) (pc := 29) 1 0 rfl rfl dX11_put_29 ?_
      refine sm_iconst (Y := mX11_put) (pc := 30) 2 (by decide) dX11_put_30 ?_
      refine sm_iv_I (Y := mX11_put) (pc := 31) (As := [.int 2]) (a := 0) fX11_error wRX11_103 (lk_0 hly) (by decide) rfl rfl rfl (Nat.le_trans (by decide) hd) (Nat.le_of_ble_eq_true rfl) ⟨Nat.le_refl _, Nat.le_refl _⟩ dX11_put_31 rfl (sm_monoI h (fun r_12 m_11 h => ?_))
      exact sm_iret (Y := mX11_put) (pc := 34) rfl rfl rfl dX11_put_34 ⟨_, rfl, h⟩
  · replace h := h.2 hc
    refine sm_aload_n (Y := mX11_put) (pc := 7) 0 0 rfl rfl dX11_put_7 ?_
    refine sm_iconst (Y := mX11_put) (pc := 8) 1 (by decide) dX11_put_8 ?_
    refine sm_iv_I (Y := mX11_put) (pc := 9) (As := [.int 1]) (a := 0) fX11_error wRX11_103 (lk_0 hly) (by decide) rfl rfl rfl (Nat.le_trans (by decide) hd) (Nat.le_of_ble_eq_true rfl) ⟨Nat.le_refl _, Nat.le_refl _⟩ dX11_put_9 rfl (sm_monoI h (fun r_14 m_13 h => ?_))
    exact sm_iret (Y := mX11_put) (pc := 12) rfl rfl rfl dX11_put_12 ⟨_, rfl, h⟩
abbrev mX11_of : sm_Y := (yX11_of, cX11_of, 4, (some FieldType.long))
theorem fX11_of : sm_mi mX11_of RX11 2 := ⟨sm_in 1069 (by decide +kernel) (by decide +kernel), sm_in 1067 (by decide +kernel) (by decide +kernel), sm_in 1068 (by decide +kernel) (by decide +kernel), sm_in 82 (by decide +kernel) (by decide +kernel), rfl, ⟨by decide +kernel, by decide +kernel, by decide +kernel⟩, by decide⟩
theorem dX11_of_0 : decode cX11_of 0 = .ok (.iload_n 1, 1) := dk_iload_n_1 (by decide +kernel)
theorem dX11_of_1 : decode cX11_of 1 = .ok (.invokestatic 254, 3) := dk_invokestatic 254 (b1 := 0) (b2 := 254) (by decide +kernel) (by decide +kernel) (by decide +kernel) (by decide +kernel)
theorem dX11_of_4 : decode cX11_of 4 = .ok (.ifCond .ne 9, 3) := dk_ifCond_ne 9 (b1 := 0) (b2 := 9) (by decide +kernel) (by decide +kernel) (by decide +kernel) (by decide +kernel)
theorem dX11_of_13 : decode cX11_of 13 = .ok (.aload_n 0, 1) := dk_aload_n_0 (by decide +kernel)
theorem dX11_of_14 : decode cX11_of 14 = .ok (.getfield 76, 3) := dk_getfield 76 (b1 := 0) (b2 := 76) (by decide +kernel) (by decide +kernel) (by decide +kernel) (by decide +kernel)
theorem dX11_of_17 : decode cX11_of 17 = .ok (.iload_n 1, 1) := dk_iload_n_1 (by decide +kernel)
theorem dX11_of_18 : decode cX11_of 18 = .ok (.aaload, 1) := dk_aaload (by decide +kernel)
theorem dX11_of_19 : decode cX11_of 19 = .ok (.astore_n 3, 1) := dk_astore_n_3 (by decide +kernel)
theorem dX11_of_20 : decode cX11_of 20 = .ok (.aload_n 3, 1) := dk_aload_n_3 (by decide +kernel)
theorem dX11_of_21 : decode cX11_of 21 = .ok (.invokevirtual 334, 3) := dk_invokevirtual 334 (b1 := 1) (b2 := 78) (by decide +kernel) (by decide +kernel) (by decide +kernel) (by decide +kernel)
theorem dX11_of_24 : decode cX11_of 24 = .ok (.ifCond .eq 9, 3) := dk_ifCond_eq 9 (b1 := 0) (b2 := 9) (by decide +kernel) (by decide +kernel) (by decide +kernel) (by decide +kernel)
theorem dX11_of_33 : decode cX11_of 33 = .ok (.aload_n 3, 1) := dk_aload_n_3 (by decide +kernel)
theorem dX11_of_34 : decode cX11_of 34 = .ok (.iload_n 2, 1) := dk_iload_n_2 (by decide +kernel)
theorem dX11_of_35 : decode cX11_of 35 = .ok (.invokevirtual 200, 3) := dk_invokevirtual 200 (b1 := 0) (b2 := 200) (by decide +kernel) (by decide +kernel) (by decide +kernel) (by decide +kernel)
theorem dX11_of_38 : decode cX11_of 38 = .ok (.ifCond .ne 9, 3) := dk_ifCond_ne 9 (b1 := 0) (b2 := 9) (by decide +kernel) (by decide +kernel) (by decide +kernel) (by decide +kernel)
theorem dX11_of_47 : decode cX11_of 47 = .ok (.aload_n 3, 1) := dk_aload_n_3 (by decide +kernel)
theorem dX11_of_48 : decode cX11_of 48 = .ok (.iload_n 2, 1) := dk_iload_n_2 (by decide +kernel)
theorem dX11_of_49 : decode cX11_of 49 = .ok (.invokevirtual 203, 3) := dk_invokevirtual 203 (b1 := 0) (b2 := 203) (by decide +kernel) (by decide +kernel) (by decide +kernel) (by decide +kernel)
theorem dX11_of_52 : decode cX11_of 52 = .ok (.lreturn, 1) := dk_lreturn (by decide +kernel)
theorem dX11_of_41 : decode cX11_of 41 = .ok (.aload_n 0, 1) := dk_aload_n_0 (by decide +kernel)
theorem dX11_of_42 : decode cX11_of 42 = .ok (.iconst 1, 1) := dk_iconst_1 (by decide +kernel)
theorem wRX11_337 : Cond.methodLink RX11 337 yX11_longError ∈ sm_T := sm_in 1070 (by decide +kernel) (by decide +kernel)
abbrev mX11_longError : sm_Y := (yX11_longError, cX11_longError, 2, (some FieldType.long))
theorem fX11_longError : sm_mi mX11_longError RX11 1 := ⟨sm_in 1073 (by decide +kernel) (by decide +kernel), sm_in 1072 (by decide +kernel) (by decide +kernel), sm_in 37 (by decide +kernel) (by decide +kernel), sm_in 82 (by decide +kernel) (by decide +kernel), rfl, ⟨by decide +kernel, by decide +kernel, by decide +kernel⟩, by decide⟩
theorem dX11_of_43 : decode cX11_of 43 = .ok (.invokevirtual 337, 3) := dk_invokevirtual 337 (b1 := 1) (b2 := 81) (by decide +kernel) (by decide +kernel) (by decide +kernel) (by decide +kernel)
theorem dX11_of_46 : decode cX11_of 46 = .ok (.lreturn, 1) := dk_lreturn (by decide +kernel)
theorem dX11_of_27 : decode cX11_of 27 = .ok (.aload_n 0, 1) := dk_aload_n_0 (by decide +kernel)
theorem dX11_of_28 : decode cX11_of 28 = .ok (.iconst 2, 1) := dk_iconst_2 (by decide +kernel)
theorem dX11_of_29 : decode cX11_of 29 = .ok (.invokevirtual 337, 3) := dk_invokevirtual 337 (b1 := 1) (b2 := 81) (by decide +kernel) (by decide +kernel) (by decide +kernel) (by decide +kernel)
theorem dX11_of_32 : decode cX11_of 32 = .ok (.lreturn, 1) := dk_lreturn (by decide +kernel)
theorem dX11_of_7 : decode cX11_of 7 = .ok (.aload_n 0, 1) := dk_aload_n_0 (by decide +kernel)
theorem dX11_of_8 : decode cX11_of 8 = .ok (.iconst 1, 1) := dk_iconst_1 (by decide +kernel)
theorem dX11_of_9 : decode cX11_of 9 = .ok (.invokevirtual 337, 3) := dk_invokevirtual 337 (b1 := 1) (b2 := 81) (by decide +kernel) (by decide +kernel) (by decide +kernel) (by decide +kernel)
theorem dX11_of_12 : decode cX11_of 12 = .ok (.lreturn, 1) := dk_lreturn (by decide +kernel)
set_option maxRecDepth 20000 in
theorem vX11_of_0 {E : sm_E} {L : sm_S → Prop} {d : Nat} {x1 : Int32} {x2 : Int32}  {m : sm_M} {Q : Int64 → sm_M → Prop} (hly : ∀ S, L S → ly S) (hd : 3 ≤ d) 
  (h : sm_callI E L mX11_isSheet 1 0 0 [.int x1] m (fun r_2 m_1 =>
   (¬ r_2 = 0 →
      (vp_in x1 4) ∧ sm_callI E L mX7_isMissing 1 0 0 [.ref (sm_B E + (101 + 2 * x1.toNatClampNeg))] m_1 (fun r_5 m_4 =>
      (r_5 = 0 →
         sm_callI E L mX7_has 1 0 0 [.ref (sm_B E + (101 + 2 * x1.toNatClampNeg)), .int x2] m_4 (fun r_7 m_6 =>
         (¬ r_7 = 0 →
            sm_callJ E L mX7_at 2 0 0 [.ref (sm_B E + (101 + 2 * x1.toNatClampNeg)), .int x2] m_6 (fun r_9 m_8 =>
            Q r_9 m_8)) ∧
         (r_7 = 0 →
            sm_callJ E L mX11_longError 1 0 0 [.ref (sm_B E + 0), .int 1] m_6 (fun r_11 m_10 =>
            Q r_11 m_10)))) ∧
      (¬ r_5 = 0 →
         sm_callJ E L mX11_longError 1 0 0 [.ref (sm_B E + 0), .int 2] m_4 (fun r_13 m_12 =>
         Q r_13 m_12)))) ∧
   (r_2 = 0 →
      sm_callJ E L mX11_longError 1 0 0 [.ref (sm_B E + 0), .int 1] m_1 (fun r_15 m_14 =>
      Q r_15 m_14)))) :
  sm_callJ E L mX11_of d 0 0 [.ref (sm_B E + 0), .int x1, .int x2] m Q := by
  refine sm_enter (by decide +kernel) (by simp [lg_sl, Value.category]) ?_
  refine sm_iload_n (Y := mX11_of) (pc := 0) 1 1 rfl rfl dX11_of_0 ?_
  refine sm_is_I (Y := mX11_of) (pc := 1) (As := [.int x1]) fX11_isSheet wRX11_254 rfl (Nat.le_trans (by decide) hd) (Nat.le_of_ble_eq_true rfl) ⟨Nat.le_refl _, Nat.le_refl _⟩ dX11_of_1 rfl (sm_monoI h (fun r_2 m_1 h => ?_))
  refine sm_if_ne (Y := mX11_of) (pc := 4) 13 (by decide) dX11_of_4 (fun hc => ?_) (fun hc => ?_)
  · replace h := h.1 hc
    refine sm_aload_n (Y := mX11_of) (pc := 13) 0 0 rfl rfl dX11_of_13 ?_
    refine gf_RX11_76 (Y := mX11_of) (pc := 14) (b := 73) rfl ((lk_0 hly) _) (lf_0_10 hly _) dX11_of_14 ?_
    refine sm_iload_n (Y := mX11_of) (pc := 17) 1 1 rfl rfl dX11_of_17 ?_
    obtain ⟨hn_3, h⟩ := h
    refine sm_aaldS (Y := mX11_of) (pc := 18) (b := (101 + 2 * x1.toNatClampNeg)) (la_73 hly _) hn_3 (ly_sheetR hly (sm_inlt hn_3) _) dX11_of_18 ?_
    refine sm_astore_n (Y := mX11_of) (pc := 19) [(3, .ref (sm_B E + (101 + 2 * x1.toNatClampNeg))), (0, .ref (sm_B E + 0)), (1, .int x1), (2, .int x2)] 3 rfl (by decide) rfl dX11_of_19 ?_
    refine sm_aload_n (Y := mX11_of) (pc := 20) 0 3 rfl rfl dX11_of_20 ?_
    refine sm_iv_I (Y := mX11_of) (pc := 21) (As := []) (a := (101 + 2 * x1.toNatClampNeg)) fX7_isMissing wRX11_334 (fun S hS => ((ly_sheetT hly (sm_inlt hn_3)) S hS).1) (by decide) rfl rfl rfl (Nat.le_trans (by decide) hd) (Nat.le_of_ble_eq_true rfl) ⟨Nat.le_refl _, Nat.le_refl _⟩ dX11_of_21 rfl (sm_monoI h (fun r_5 m_4 h => ?_))
    refine sm_if_eq (Y := mX11_of) (pc := 24) 33 (by decide) dX11_of_24 (fun hc => ?_) (fun hc => ?_)
    · replace h := h.1 hc
      refine sm_aload_n (Y := mX11_of) (pc := 33) 0 3 rfl rfl dX11_of_33 ?_
      refine sm_iload_n (Y := mX11_of) (pc := 34) 3 2 rfl rfl dX11_of_34 ?_
      refine sm_iv_I (Y := mX11_of) (pc := 35) (As := [.int x2]) (a := (101 + 2 * x1.toNatClampNeg)) fX7_has wRX11_200 (fun S hS => ((ly_sheetT hly (sm_inlt hn_3)) S hS).1) (by decide) rfl rfl rfl (Nat.le_trans (by decide) hd) (Nat.le_of_ble_eq_true rfl) ⟨Nat.le_refl _, Nat.le_refl _⟩ dX11_of_35 rfl (sm_monoI h (fun r_7 m_6 h => ?_))
      refine sm_if_ne (Y := mX11_of) (pc := 38) 47 (by decide) dX11_of_38 (fun hc => ?_) (fun hc => ?_)
      · replace h := h.1 hc
        refine sm_aload_n (Y := mX11_of) (pc := 47) 0 3 rfl rfl dX11_of_47 ?_
        refine sm_iload_n (Y := mX11_of) (pc := 48) 3 2 rfl rfl dX11_of_48 ?_
        refine sm_iv_J (Y := mX11_of) (pc := 49) (As := [.int x2]) (a := (101 + 2 * x1.toNatClampNeg)) fX7_at wRX11_203 (fun S hS => ((ly_sheetT hly (sm_inlt hn_3)) S hS).1) (by decide) rfl rfl rfl (Nat.le_trans (by decide) hd) (Nat.le_of_ble_eq_true rfl) ⟨Nat.le_refl _, Nat.le_refl _⟩ dX11_of_49 rfl (sm_monoJ h (fun r_9 m_8 h => ?_))
        exact sm_lret (Y := mX11_of) (pc := 52) rfl rfl rfl dX11_of_52 ⟨_, rfl, h⟩
      · replace h := h.2 hc
        refine sm_aload_n (Y := mX11_of) (pc := 41) 1 0 rfl rfl dX11_of_41 ?_
        refine sm_iconst (Y := mX11_of) (pc := 42) 1 (by decide) dX11_of_42 ?_
        refine sm_iv_J (Y := mX11_of) (pc := 43) (As := [.int 1]) (a := 0) fX11_longError wRX11_337 (lk_0 hly) (by decide) rfl rfl rfl (Nat.le_trans (by decide) hd) (Nat.le_of_ble_eq_true rfl) ⟨Nat.le_refl _, Nat.le_refl _⟩ dX11_of_43 rfl (sm_monoJ h (fun r_11 m_10 h => ?_))
        exact sm_lret (Y := mX11_of) (pc := 46) rfl rfl rfl dX11_of_46 ⟨_, rfl, h⟩
    · replace h := h.2 hc
      refine sm_aload_n (Y := mX11_of) (pc := 27) 1 0 rfl rfl dX11_of_27 ?_
      refine sm_iconst (Y := mX11_of) (pc := 28) 2 (by decide) dX11_of_28 ?_
      refine sm_iv_J (Y := mX11_of) (pc := 29) (As := [.int 2]) (a := 0) fX11_longError wRX11_337 (lk_0 hly) (by decide) rfl rfl rfl (Nat.le_trans (by decide) hd) (Nat.le_of_ble_eq_true rfl) ⟨Nat.le_refl _, Nat.le_refl _⟩ dX11_of_29 rfl (sm_monoJ h (fun r_13 m_12 h => ?_))
      exact sm_lret (Y := mX11_of) (pc := 32) rfl rfl rfl dX11_of_32 ⟨_, rfl, h⟩
  · replace h := h.2 hc
    refine sm_aload_n (Y := mX11_of) (pc := 7) 0 0 rfl rfl dX11_of_7 ?_
    refine sm_iconst (Y := mX11_of) (pc := 8) 1 (by decide) dX11_of_8 ?_
    refine sm_iv_J (Y := mX11_of) (pc := 9) (As := [.int 1]) (a := 0) fX11_longError wRX11_337 (lk_0 hly) (by decide) rfl rfl rfl (Nat.le_trans (by decide) hd) (Nat.le_of_ble_eq_true rfl) ⟨Nat.le_refl _, Nat.le_refl _⟩ dX11_of_9 rfl (sm_monoJ h (fun r_15 m_14 h => ?_))
    exact sm_lret (Y := mX11_of) (pc := 12) rfl rfl rfl dX11_of_12 ⟨_, rfl, h⟩
abbrev mX11_shift : sm_Y := (yX11_shift, cX11_shift, 8, (some FieldType.int))
theorem fX11_shift : sm_mi mX11_shift RX11 5 := ⟨sm_in 1078 (by decide +kernel) (by decide +kernel), sm_in 1076 (by decide +kernel) (by decide +kernel), sm_in 1077 (by decide +kernel) (by decide +kernel), sm_in 82 (by decide +kernel) (by decide +kernel), rfl, ⟨by decide +kernel, by decide +kernel, by decide +kernel⟩, by decide⟩
theorem dX11_shift_0 : decode cX11_shift 0 = .ok (.iload_n 1, 1) := dk_iload_n_1 (by decide +kernel)
theorem dX11_shift_1 : decode cX11_shift 1 = .ok (.invokestatic 254, 3) := dk_invokestatic 254 (b1 := 0) (b2 := 254) (by decide +kernel) (by decide +kernel) (by decide +kernel) (by decide +kernel)
theorem dX11_shift_4 : decode cX11_shift 4 = .ok (.ifCond .eq 10, 3) := dk_ifCond_eq 10 (b1 := 0) (b2 := 10) (by decide +kernel) (by decide +kernel) (by decide +kernel) (by decide +kernel)
theorem dX11_shift_14 : decode cX11_shift 14 = .ok (.aload_n 0, 1) := dk_aload_n_0 (by decide +kernel)
theorem dX11_shift_15 : decode cX11_shift 15 = .ok (.iconst 1, 1) := dk_iconst_1 (by decide +kernel)
theorem dX11_shift_16 : decode cX11_shift 16 = .ok (.invokevirtual 103, 3) := dk_invokevirtual 103 (b1 := 0) (b2 := 103) (by decide +kernel) (by decide +kernel) (by decide +kernel) (by decide +kernel)
theorem dX11_shift_19 : decode cX11_shift 19 = .ok (.ireturn, 1) := dk_ireturn (by decide +kernel)
theorem dX11_shift_7 : decode cX11_shift 7 = .ok (.iload_n 3, 1) := dk_iload_n_3 (by decide +kernel)
theorem dX11_shift_8 : decode cX11_shift 8 = .ok (.invokestatic 254, 3) := dk_invokestatic 254 (b1 := 0) (b2 := 254) (by decide +kernel) (by decide +kernel) (by decide +kernel) (by decide +kernel)
theorem dX11_shift_11 : decode cX11_shift 11 = .ok (.ifCond .ne 9, 3) := dk_ifCond_ne 9 (b1 := 0) (b2 := 9) (by decide +kernel) (by decide +kernel) (by decide +kernel) (by decide +kernel)
theorem dX11_shift_20 : decode cX11_shift 20 = .ok (.aload_n 0, 1) := dk_aload_n_0 (by decide +kernel)
theorem dX11_shift_21 : decode cX11_shift 21 = .ok (.getfield 76, 3) := dk_getfield 76 (b1 := 0) (b2 := 76) (by decide +kernel) (by decide +kernel) (by decide +kernel) (by decide +kernel)
theorem dX11_shift_24 : decode cX11_shift 24 = .ok (.iload_n 1, 1) := dk_iload_n_1 (by decide +kernel)
theorem dX11_shift_25 : decode cX11_shift 25 = .ok (.aaload, 1) := dk_aaload (by decide +kernel)
theorem dX11_shift_26 : decode cX11_shift 26 = .ok (.astore 6, 2) := dk_astore 6 (b := 6) (by decide +kernel) (by decide +kernel) (by decide +kernel)
theorem dX11_shift_28 : decode cX11_shift 28 = .ok (.aload_n 0, 1) := dk_aload_n_0 (by decide +kernel)
theorem dX11_shift_29 : decode cX11_shift 29 = .ok (.getfield 76, 3) := dk_getfield 76 (b1 := 0) (b2 := 76) (by decide +kernel) (by decide +kernel) (by decide +kernel) (by decide +kernel)
theorem dX11_shift_32 : decode cX11_shift 32 = .ok (.iload_n 3, 1) := dk_iload_n_3 (by decide +kernel)
theorem dX11_shift_33 : decode cX11_shift 33 = .ok (.aaload, 1) := dk_aaload (by decide +kernel)
theorem dX11_shift_34 : decode cX11_shift 34 = .ok (.astore 7, 2) := dk_astore 7 (b := 7) (by decide +kernel) (by decide +kernel) (by decide +kernel)
theorem dX11_shift_36 : decode cX11_shift 36 = .ok (.aload 6, 2) := dk_aload 6 (b := 6) (by decide +kernel) (by decide +kernel) (by decide +kernel)
theorem dX11_shift_38 : decode cX11_shift 38 = .ok (.invokevirtual 334, 3) := dk_invokevirtual 334 (b1 := 1) (b2 := 78) (by decide +kernel) (by decide +kernel) (by decide +kernel) (by decide +kernel)
theorem dX11_shift_41 : decode cX11_shift 41 = .ok (.ifCond .ne 11, 3) := dk_ifCond_ne 11 (b1 := 0) (b2 := 11) (by decide +kernel) (by decide +kernel) (by decide +kernel) (by decide +kernel)
theorem dX11_shift_52 : decode cX11_shift 52 = .ok (.aload_n 0, 1) := dk_aload_n_0 (by decide +kernel)
theorem dX11_shift_53 : decode cX11_shift 53 = .ok (.iconst 2, 1) := dk_iconst_2 (by decide +kernel)
theorem dX11_shift_54 : decode cX11_shift 54 = .ok (.invokevirtual 103, 3) := dk_invokevirtual 103 (b1 := 0) (b2 := 103) (by decide +kernel) (by decide +kernel) (by decide +kernel) (by decide +kernel)
theorem dX11_shift_57 : decode cX11_shift 57 = .ok (.ireturn, 1) := dk_ireturn (by decide +kernel)
theorem dX11_shift_44 : decode cX11_shift 44 = .ok (.aload 7, 2) := dk_aload 7 (b := 7) (by decide +kernel) (by decide +kernel) (by decide +kernel)
theorem dX11_shift_46 : decode cX11_shift 46 = .ok (.invokevirtual 334, 3) := dk_invokevirtual 334 (b1 := 1) (b2 := 78) (by decide +kernel) (by decide +kernel) (by decide +kernel) (by decide +kernel)
theorem dX11_shift_49 : decode cX11_shift 49 = .ok (.ifCond .eq 9, 3) := dk_ifCond_eq 9 (b1 := 0) (b2 := 9) (by decide +kernel) (by decide +kernel) (by decide +kernel) (by decide +kernel)
theorem dX11_shift_58 : decode cX11_shift 58 = .ok (.aload 6, 2) := dk_aload 6 (b := 6) (by decide +kernel) (by decide +kernel) (by decide +kernel)
theorem dX11_shift_60 : decode cX11_shift 60 = .ok (.getfield 340, 3) := dk_getfield 340 (b1 := 1) (b2 := 84) (by decide +kernel) (by decide +kernel) (by decide +kernel) (by decide +kernel)
theorem dX11_shift_63 : decode cX11_shift 63 = .ok (.aload 7, 2) := dk_aload 7 (b := 7) (by decide +kernel) (by decide +kernel) (by decide +kernel)
theorem dX11_shift_65 : decode cX11_shift 65 = .ok (.getfield 340, 3) := dk_getfield 340 (b1 := 1) (b2 := 84) (by decide +kernel) (by decide +kernel) (by decide +kernel) (by decide +kernel)
theorem dX11_shift_68 : decode cX11_shift 68 = .ok (.if_icmp .eq 9, 3) := dk_if_icmp_eq 9 (b1 := 0) (b2 := 9) (by decide +kernel) (by decide +kernel) (by decide +kernel) (by decide +kernel)
theorem dX11_shift_77 : decode cX11_shift 77 = .ok (.aload 6, 2) := dk_aload 6 (b := 6) (by decide +kernel) (by decide +kernel) (by decide +kernel)
theorem dX11_shift_79 : decode cX11_shift 79 = .ok (.iload_n 2, 1) := dk_iload_n_2 (by decide +kernel)
theorem dX11_shift_80 : decode cX11_shift 80 = .ok (.iload 5, 2) := dk_iload 5 (b := 5) (by decide +kernel) (by decide +kernel) (by decide +kernel)
theorem wRX11_343 : Cond.methodLink RX11 343 yX7_hasRun ∈ sm_T := sm_in 1079 (by decide +kernel) (by decide +kernel)
theorem dX11_shift_82 : decode cX11_shift 82 = .ok (.invokevirtual 343, 3) := dk_invokevirtual 343 (b1 := 1) (b2 := 87) (by decide +kernel) (by decide +kernel) (by decide +kernel) (by decide +kernel)
theorem dX11_shift_85 : decode cX11_shift 85 = .ok (.ifCond .eq 15, 3) := dk_ifCond_eq 15 (b1 := 0) (b2 := 15) (by decide +kernel) (by decide +kernel) (by decide +kernel) (by decide +kernel)
theorem dX11_shift_100 : decode cX11_shift 100 = .ok (.aload_n 0, 1) := dk_aload_n_0 (by decide +kernel)
theorem dX11_shift_101 : decode cX11_shift 101 = .ok (.iconst 1, 1) := dk_iconst_1 (by decide +kernel)
theorem dX11_shift_102 : decode cX11_shift 102 = .ok (.invokevirtual 103, 3) := dk_invokevirtual 103 (b1 := 0) (b2 := 103) (by decide +kernel) (by decide +kernel) (by decide +kernel) (by decide +kernel)
theorem dX11_shift_105 : decode cX11_shift 105 = .ok (.ireturn, 1) := dk_ireturn (by decide +kernel)
theorem dX11_shift_88 : decode cX11_shift 88 = .ok (.aload 7, 2) := dk_aload 7 (b := 7) (by decide +kernel) (by decide +kernel) (by decide +kernel)
theorem dX11_shift_90 : decode cX11_shift 90 = .ok (.iload 4, 2) := dk_iload 4 (b := 4) (by decide +kernel) (by decide +kernel) (by decide +kernel)
theorem dX11_shift_92 : decode cX11_shift 92 = .ok (.iload 5, 2) := dk_iload 5 (b := 5) (by decide +kernel) (by decide +kernel) (by decide +kernel)
theorem dX11_shift_94 : decode cX11_shift 94 = .ok (.invokevirtual 343, 3) := dk_invokevirtual 343 (b1 := 1) (b2 := 87) (by decide +kernel) (by decide +kernel) (by decide +kernel) (by decide +kernel)
theorem dX11_shift_97 : decode cX11_shift 97 = .ok (.ifCond .ne 9, 3) := dk_ifCond_ne 9 (b1 := 0) (b2 := 9) (by decide +kernel) (by decide +kernel) (by decide +kernel) (by decide +kernel)
theorem dX11_shift_106 : decode cX11_shift 106 = .ok (.aload 7, 2) := dk_aload 7 (b := 7) (by decide +kernel) (by decide +kernel) (by decide +kernel)
theorem dX11_shift_108 : decode cX11_shift 108 = .ok (.aload 6, 2) := dk_aload 6 (b := 6) (by decide +kernel) (by decide +kernel) (by decide +kernel)
theorem dX11_shift_110 : decode cX11_shift 110 = .ok (.iload_n 2, 1) := dk_iload_n_2 (by decide +kernel)
theorem dX11_shift_111 : decode cX11_shift 111 = .ok (.iload 4, 2) := dk_iload 4 (b := 4) (by decide +kernel) (by decide +kernel) (by decide +kernel)
theorem dX11_shift_113 : decode cX11_shift 113 = .ok (.iload 5, 2) := dk_iload 5 (b := 5) (by decide +kernel) (by decide +kernel) (by decide +kernel)
theorem wRX11_347 : Cond.methodLink RX11 347 yX7_bring ∈ sm_T := sm_in 1083 (by decide +kernel) (by decide +kernel)
theorem dX11_shift_115 : decode cX11_shift 115 = .ok (.invokevirtual 347, 3) := dk_invokevirtual 347 (b1 := 1) (b2 := 91) (by decide +kernel) (by decide +kernel) (by decide +kernel) (by decide +kernel)
theorem dX11_shift_118 : decode cX11_shift 118 = .ok (.iload 5, 2) := dk_iload 5 (b := 5) (by decide +kernel) (by decide +kernel) (by decide +kernel)
theorem dX11_shift_120 : decode cX11_shift 120 = .ok (.ireturn, 1) := dk_ireturn (by decide +kernel)
theorem dX11_shift_71 : decode cX11_shift 71 = .ok (.aload_n 0, 1) := dk_aload_n_0 (by decide +kernel)
theorem dX11_shift_72 : decode cX11_shift 72 = .ok (.iconst 5, 1) := dk_iconst_5 (by decide +kernel)
theorem dX11_shift_73 : decode cX11_shift 73 = .ok (.invokevirtual 103, 3) := dk_invokevirtual 103 (b1 := 0) (b2 := 103) (by decide +kernel) (by decide +kernel) (by decide +kernel) (by decide +kernel)
theorem dX11_shift_76 : decode cX11_shift 76 = .ok (.ireturn, 1) := dk_ireturn (by decide +kernel)
set_option maxRecDepth 20000 in
theorem vX11_shift_0 {E : sm_E} {L : sm_S → Prop} {d : Nat} {x1 : Int32} {x2 : Int32} {x3 : Int32} {x4 : Int32} {x5 : Int32}  {m : sm_M} {Q : Int32 → sm_M → Prop} (hly : ∀ S, L S → ly S) (hd : 3 ≤ d) 
  (h : sm_callI E L mX11_isSheet 1 0 0 [.int x1] m (fun r_2 m_1 =>
   (r_2 = 0 →
      sm_callI E L mX11_error 1 0 0 [.ref (sm_B E + 0), .int 1] m_1 (fun r_4 m_3 =>
      Q r_4 m_3)) ∧
   (¬ r_2 = 0 →
      sm_callI E L mX11_isSheet 1 0 0 [.int x3] m_1 (fun r_6 m_5 =>
      (¬ r_6 = 0 →
         (vp_in x1 4) ∧ (vp_in x3 4) ∧ sm_callI E L mX7_isMissing 1 0 0 [.ref (sm_B E + (101 + 2 * x1.toNatClampNeg))] m_5 (fun r_10 m_9 =>
         (¬ r_10 = 0 →
            sm_callI E L mX11_error 1 0 0 [.ref (sm_B E + 0), .int 2] m_9 (fun r_12 m_11 =>
            Q r_12 m_11)) ∧
         (r_10 = 0 →
            sm_callI E L mX7_isMissing 1 0 0 [.ref (sm_B E + (101 + 2 * x3.toNatClampNeg))] m_9 (fun r_14 m_13 =>
            (r_14 = 0 →
               ((m_13.1 (101 + 2 * x1.toNatClampNeg) 1) = (m_13.1 (101 + 2 * x3.toNatClampNeg) 1) →
                  sm_callI E L mX7_hasRun 1 0 0 [.ref (sm_B E + (101 + 2 * x1.toNatClampNeg)), .int x2, .int x5] m_13 (fun r_16 m_15 =>
                  (r_16 = 0 →
                     sm_callI E L mX11_error 1 0 0 [.ref (sm_B E + 0), .int 1] m_15 (fun r_18 m_17 =>
                     Q r_18 m_17)) ∧
                  (¬ r_16 = 0 →
                     sm_callI E L mX7_hasRun 1 0 0 [.ref (sm_B E + (101 + 2 * x3.toNatClampNeg)), .int x4, .int x5] m_15 (fun r_20 m_19 =>
                     (¬ r_20 = 0 →
                        sm_callV E L mX7_bring 2 0 0 [.ref (sm_B E + (101 + 2 * x3.toNatClampNeg)), .ref (sm_B E + (101 + 2 * x1.toNatClampNeg)), .int x2, .int x4, .int x5] m_19 (fun m_21 =>
                        Q x5 m_21)) ∧
                     (r_20 = 0 →
                        sm_callI E L mX11_error 1 0 0 [.ref (sm_B E + 0), .int 1] m_19 (fun r_23 m_22 =>
                        Q r_23 m_22)))))) ∧
               (¬ (m_13.1 (101 + 2 * x1.toNatClampNeg) 1) = (m_13.1 (101 + 2 * x3.toNatClampNeg) 1) →
                  sm_callI E L mX11_error 1 0 0 [.ref (sm_B E + 0), .int 5] m_13 (fun r_25 m_24 =>
                  Q r_25 m_24))) ∧
            (¬ r_14 = 0 →
               sm_callI E L mX11_error 1 0 0 [.ref (sm_B E + 0), .int 2] m_13 (fun r_27 m_26 =>
               Q r_27 m_26)))))) ∧
      (r_6 = 0 →
         sm_callI E L mX11_error 1 0 0 [.ref (sm_B E + 0), .int 1] m_5 (fun r_29 m_28 =>
         Q r_29 m_28)))))) :
  sm_callI E L mX11_shift d 0 0 [.ref (sm_B E + 0), .int x1, .int x2, .int x3, .int x4, .int x5] m Q := by
  refine sm_enter (by decide +kernel) (by simp [lg_sl, Value.category]) ?_
  refine sm_iload_n (Y := mX11_shift) (pc := 0) 1 1 rfl rfl dX11_shift_0 ?_
  refine sm_is_I (Y := mX11_shift) (pc := 1) (As := [.int x1]) fX11_isSheet wRX11_254 rfl (Nat.le_trans (by decide) hd) (Nat.le_of_ble_eq_true rfl) ⟨Nat.le_refl _, Nat.le_refl _⟩ dX11_shift_1 rfl (sm_monoI h (fun r_2 m_1 h => ?_))
  refine sm_if_eq (Y := mX11_shift) (pc := 4) 14 (by decide) dX11_shift_4 (fun hc => ?_) (fun hc => ?_)
  · replace h := h.1 hc
    refine sm_aload_n (Y := mX11_shift) (pc := 14) 0 0 rfl rfl dX11_shift_14 ?_
    refine sm_iconst (Y := mX11_shift) (pc := 15) 1 (by decide) dX11_shift_15 ?_
    refine sm_iv_I (Y := mX11_shift) (pc := 16) (As := [.int 1]) (a := 0) fX11_error wRX11_103 (lk_0 hly) (by decide) rfl rfl rfl (Nat.le_trans (by decide) hd) (Nat.le_of_ble_eq_true rfl) ⟨Nat.le_refl _, Nat.le_refl _⟩ dX11_shift_16 rfl (sm_monoI h (fun r_4 m_3 h => ?_))
    exact sm_iret (Y := mX11_shift) (pc := 19) rfl rfl rfl dX11_shift_19 ⟨_, rfl, h⟩
  · replace h := h.2 hc
    refine sm_iload_n (Y := mX11_shift) (pc := 7) 3 3 rfl rfl dX11_shift_7 ?_
    refine sm_is_I (Y := mX11_shift) (pc := 8) (As := [.int x3]) fX11_isSheet wRX11_254 rfl (Nat.le_trans (by decide) hd) (Nat.le_of_ble_eq_true rfl) ⟨Nat.le_refl _, Nat.le_refl _⟩ dX11_shift_8 rfl (sm_monoI h (fun r_6 m_5 h => ?_))
    refine sm_if_ne (Y := mX11_shift) (pc := 11) 20 (by decide) dX11_shift_11 (fun hc => ?_) (fun hc => ?_)
    · replace h := h.1 hc
      refine sm_aload_n (Y := mX11_shift) (pc := 20) 0 0 rfl rfl dX11_shift_20 ?_
      refine gf_RX11_76 (Y := mX11_shift) (pc := 21) (b := 73) rfl ((lk_0 hly) _) (lf_0_10 hly _) dX11_shift_21 ?_
      refine sm_iload_n (Y := mX11_shift) (pc := 24) 1 1 rfl rfl dX11_shift_24 ?_
      obtain ⟨hn_7, h⟩ := h
      refine sm_aaldS (Y := mX11_shift) (pc := 25) (b := (101 + 2 * x1.toNatClampNeg)) (la_73 hly _) hn_7 (ly_sheetR hly (sm_inlt hn_7) _) dX11_shift_25 ?_
      refine sm_astore (Y := mX11_shift) (pc := 26) [(6, .ref (sm_B E + (101 + 2 * x1.toNatClampNeg))), (0, .ref (sm_B E + 0)), (1, .int x1), (2, .int x2), (3, .int x3), (4, .int x4), (5, .int x5)] 6 (by decide) rfl dX11_shift_26 ?_
      refine sm_aload_n (Y := mX11_shift) (pc := 28) 1 0 rfl rfl dX11_shift_28 ?_
      refine gf_RX11_76 (Y := mX11_shift) (pc := 29) (b := 73) rfl ((lk_0 hly) _) (lf_0_10 hly _) dX11_shift_29 ?_
      refine sm_iload_n (Y := mX11_shift) (pc := 32) 4 3 rfl rfl dX11_shift_32 ?_
      obtain ⟨hn_8, h⟩ := h
      refine sm_aaldS (Y := mX11_shift) (pc := 33) (b := (101 + 2 * x3.toNatClampNeg)) (la_73 hly _) hn_8 (ly_sheetR hly (sm_inlt hn_8) _) dX11_shift_33 ?_
      refine sm_astore (Y := mX11_shift) (pc := 34) [(7, .ref (sm_B E + (101 + 2 * x3.toNatClampNeg))), (6, .ref (sm_B E + (101 + 2 * x1.toNatClampNeg))), (0, .ref (sm_B E + 0)), (1, .int x1), (2, .int x2), (3, .int x3), (4, .int x4), (5, .int x5)] 7 (by decide) rfl dX11_shift_34 ?_
      refine sm_aload (Y := mX11_shift) (pc := 36) 1 6 rfl dX11_shift_36 ?_
      refine sm_iv_I (Y := mX11_shift) (pc := 38) (As := []) (a := (101 + 2 * x1.toNatClampNeg)) fX7_isMissing wRX11_334 (fun S hS => ((ly_sheetT hly (sm_inlt hn_7)) S hS).1) (by decide) rfl rfl rfl (Nat.le_trans (by decide) hd) (Nat.le_of_ble_eq_true rfl) ⟨Nat.le_refl _, Nat.le_refl _⟩ dX11_shift_38 rfl (sm_monoI h (fun r_10 m_9 h => ?_))
      refine sm_if_ne (Y := mX11_shift) (pc := 41) 52 (by decide) dX11_shift_41 (fun hc => ?_) (fun hc => ?_)
      · replace h := h.1 hc
        refine sm_aload_n (Y := mX11_shift) (pc := 52) 2 0 rfl rfl dX11_shift_52 ?_
        refine sm_iconst (Y := mX11_shift) (pc := 53) 2 (by decide) dX11_shift_53 ?_
        refine sm_iv_I (Y := mX11_shift) (pc := 54) (As := [.int 2]) (a := 0) fX11_error wRX11_103 (lk_0 hly) (by decide) rfl rfl rfl (Nat.le_trans (by decide) hd) (Nat.le_of_ble_eq_true rfl) ⟨Nat.le_refl _, Nat.le_refl _⟩ dX11_shift_54 rfl (sm_monoI h (fun r_12 m_11 h => ?_))
        exact sm_iret (Y := mX11_shift) (pc := 57) rfl rfl rfl dX11_shift_57 ⟨_, rfl, h⟩
      · replace h := h.2 hc
        refine sm_aload (Y := mX11_shift) (pc := 44) 0 7 rfl dX11_shift_44 ?_
        refine sm_iv_I (Y := mX11_shift) (pc := 46) (As := []) (a := (101 + 2 * x3.toNatClampNeg)) fX7_isMissing wRX11_334 (fun S hS => ((ly_sheetT hly (sm_inlt hn_8)) S hS).1) (by decide) rfl rfl rfl (Nat.le_trans (by decide) hd) (Nat.le_of_ble_eq_true rfl) ⟨Nat.le_refl _, Nat.le_refl _⟩ dX11_shift_46 rfl (sm_monoI h (fun r_14 m_13 h => ?_))
        refine sm_if_eq (Y := mX11_shift) (pc := 49) 58 (by decide) dX11_shift_49 (fun hc => ?_) (fun hc => ?_)
        · replace h := h.1 hc
          refine sm_aload (Y := mX11_shift) (pc := 58) 1 6 rfl dX11_shift_58 ?_
          refine gf_RX11_340 (Y := mX11_shift) (pc := 60) rfl ((fun S hS => ((ly_sheetT hly (sm_inlt hn_7)) S hS).1) _) dX11_shift_60 ?_
          refine sm_aload (Y := mX11_shift) (pc := 63) 0 7 rfl dX11_shift_63 ?_
          refine gf_RX11_340 (Y := mX11_shift) (pc := 65) rfl ((fun S hS => ((ly_sheetT hly (sm_inlt hn_8)) S hS).1) _) dX11_shift_65 ?_
          refine sm_icmp_eq (Y := mX11_shift) (pc := 68) 77 (by decide) dX11_shift_68 (fun hc => ?_) (fun hc => ?_)
          · replace h := h.1 hc
            refine sm_aload (Y := mX11_shift) (pc := 77) 1 6 rfl dX11_shift_77 ?_
            refine sm_iload_n (Y := mX11_shift) (pc := 79) 4 2 rfl rfl dX11_shift_79 ?_
            refine sm_iload (Y := mX11_shift) (pc := 80) 7 5 rfl dX11_shift_80 ?_
            refine sm_iv_I (Y := mX11_shift) (pc := 82) (As := [.int x2, .int x5]) (a := (101 + 2 * x1.toNatClampNeg)) fX7_hasRun wRX11_343 (fun S hS => ((ly_sheetT hly (sm_inlt hn_7)) S hS).1) (by decide) rfl rfl rfl (Nat.le_trans (by decide) hd) (Nat.le_of_ble_eq_true rfl) ⟨Nat.le_refl _, Nat.le_refl _⟩ dX11_shift_82 rfl (sm_monoI h (fun r_16 m_15 h => ?_))
            refine sm_if_eq (Y := mX11_shift) (pc := 85) 100 (by decide) dX11_shift_85 (fun hc => ?_) (fun hc => ?_)
            · replace h := h.1 hc
              refine sm_aload_n (Y := mX11_shift) (pc := 100) 2 0 rfl rfl dX11_shift_100 ?_
              refine sm_iconst (Y := mX11_shift) (pc := 101) 1 (by decide) dX11_shift_101 ?_
              refine sm_iv_I (Y := mX11_shift) (pc := 102) (As := [.int 1]) (a := 0) fX11_error wRX11_103 (lk_0 hly) (by decide) rfl rfl rfl (Nat.le_trans (by decide) hd) (Nat.le_of_ble_eq_true rfl) ⟨Nat.le_refl _, Nat.le_refl _⟩ dX11_shift_102 rfl (sm_monoI h (fun r_18 m_17 h => ?_))
              exact sm_iret (Y := mX11_shift) (pc := 105) rfl rfl rfl dX11_shift_105 ⟨_, rfl, h⟩
            · replace h := h.2 hc
              refine sm_aload (Y := mX11_shift) (pc := 88) 0 7 rfl dX11_shift_88 ?_
              refine sm_iload (Y := mX11_shift) (pc := 90) 6 4 rfl dX11_shift_90 ?_
              refine sm_iload (Y := mX11_shift) (pc := 92) 7 5 rfl dX11_shift_92 ?_
              refine sm_iv_I (Y := mX11_shift) (pc := 94) (As := [.int x4, .int x5]) (a := (101 + 2 * x3.toNatClampNeg)) fX7_hasRun wRX11_343 (fun S hS => ((ly_sheetT hly (sm_inlt hn_8)) S hS).1) (by decide) rfl rfl rfl (Nat.le_trans (by decide) hd) (Nat.le_of_ble_eq_true rfl) ⟨Nat.le_refl _, Nat.le_refl _⟩ dX11_shift_94 rfl (sm_monoI h (fun r_20 m_19 h => ?_))
              refine sm_if_ne (Y := mX11_shift) (pc := 97) 106 (by decide) dX11_shift_97 (fun hc => ?_) (fun hc => ?_)
              · replace h := h.1 hc
                refine sm_aload (Y := mX11_shift) (pc := 106) 0 7 rfl dX11_shift_106 ?_
                refine sm_aload (Y := mX11_shift) (pc := 108) 1 6 rfl dX11_shift_108 ?_
                refine sm_iload_n (Y := mX11_shift) (pc := 110) 4 2 rfl rfl dX11_shift_110 ?_
                refine sm_iload (Y := mX11_shift) (pc := 111) 6 4 rfl dX11_shift_111 ?_
                refine sm_iload (Y := mX11_shift) (pc := 113) 7 5 rfl dX11_shift_113 ?_
                refine sm_iv_V (Y := mX11_shift) (pc := 115) (As := [.ref (sm_B E + (101 + 2 * x1.toNatClampNeg)), .int x2, .int x4, .int x5]) (a := (101 + 2 * x3.toNatClampNeg)) fX7_bring wRX11_347 (fun S hS => ((ly_sheetT hly (sm_inlt hn_8)) S hS).1) (by decide) rfl rfl rfl (Nat.le_trans (by decide) hd) (Nat.le_of_ble_eq_true rfl) ⟨Nat.le_refl _, Nat.le_refl _⟩ dX11_shift_115 rfl (sm_monoV h (fun m_21 h => ?_))
                refine sm_iload (Y := mX11_shift) (pc := 118) 7 5 rfl dX11_shift_118 ?_
                exact sm_iret (Y := mX11_shift) (pc := 120) rfl rfl rfl dX11_shift_120 ⟨_, rfl, h⟩
              · replace h := h.2 hc
                refine sm_aload_n (Y := mX11_shift) (pc := 100) 2 0 rfl rfl dX11_shift_100 ?_
                refine sm_iconst (Y := mX11_shift) (pc := 101) 1 (by decide) dX11_shift_101 ?_
                refine sm_iv_I (Y := mX11_shift) (pc := 102) (As := [.int 1]) (a := 0) fX11_error wRX11_103 (lk_0 hly) (by decide) rfl rfl rfl (Nat.le_trans (by decide) hd) (Nat.le_of_ble_eq_true rfl) ⟨Nat.le_refl _, Nat.le_refl _⟩ dX11_shift_102 rfl (sm_monoI h (fun r_23 m_22 h => ?_))
                exact sm_iret (Y := mX11_shift) (pc := 105) rfl rfl rfl dX11_shift_105 ⟨_, rfl, h⟩
          · replace h := h.2 hc
            refine sm_aload_n (Y := mX11_shift) (pc := 71) 2 0 rfl rfl dX11_shift_71 ?_
            refine sm_iconst (Y := mX11_shift) (pc := 72) 5 (by decide) dX11_shift_72 ?_
            refine sm_iv_I (Y := mX11_shift) (pc := 73) (As := [.int 5]) (a := 0) fX11_error wRX11_103 (lk_0 hly) (by decide) rfl rfl rfl (Nat.le_trans (by decide) hd) (Nat.le_of_ble_eq_true rfl) ⟨Nat.le_refl _, Nat.le_refl _⟩ dX11_shift_73 rfl (sm_monoI h (fun r_25 m_24 h => ?_))
            exact sm_iret (Y := mX11_shift) (pc := 76) rfl rfl rfl dX11_shift_76 ⟨_, rfl, h⟩
        · replace h := h.2 hc
          refine sm_aload_n (Y := mX11_shift) (pc := 52) 2 0 rfl rfl dX11_shift_52 ?_
          refine sm_iconst (Y := mX11_shift) (pc := 53) 2 (by decide) dX11_shift_53 ?_
          refine sm_iv_I (Y := mX11_shift) (pc := 54) (As := [.int 2]) (a := 0) fX11_error wRX11_103 (lk_0 hly) (by decide) rfl rfl rfl (Nat.le_trans (by decide) hd) (Nat.le_of_ble_eq_true rfl) ⟨Nat.le_refl _, Nat.le_refl _⟩ dX11_shift_54 rfl (sm_monoI h (fun r_27 m_26 h => ?_))
          exact sm_iret (Y := mX11_shift) (pc := 57) rfl rfl rfl dX11_shift_57 ⟨_, rfl, h⟩
    · replace h := h.2 hc
      refine sm_aload_n (Y := mX11_shift) (pc := 14) 0 0 rfl rfl dX11_shift_14 ?_
      refine sm_iconst (Y := mX11_shift) (pc := 15) 1 (by decide) dX11_shift_15 ?_
      refine sm_iv_I (Y := mX11_shift) (pc := 16) (As := [.int 1]) (a := 0) fX11_error wRX11_103 (lk_0 hly) (by decide) rfl rfl rfl (Nat.le_trans (by decide) hd) (Nat.le_of_ble_eq_true rfl) ⟨Nat.le_refl _, Nat.le_refl _⟩ dX11_shift_16 rfl (sm_monoI h (fun r_29 m_28 h => ?_))
      exact sm_iret (Y := mX11_shift) (pc := 19) rfl rfl rfl dX11_shift_19 ⟨_, rfl, h⟩
abbrev mX11_terms : sm_Y := (yX11_terms, cX11_terms, 10, (some FieldType.int))
theorem fX11_terms : sm_mi mX11_terms RX11 4 := ⟨sm_in 1092 (by decide +kernel) (by decide +kernel), sm_in 1090 (by decide +kernel) (by decide +kernel), sm_in 1091 (by decide +kernel) (by decide +kernel), sm_in 82 (by decide +kernel) (by decide +kernel), rfl, ⟨by decide +kernel, by decide +kernel, by decide +kernel⟩, by decide⟩
def gX11_terms_111 (E : sm_E) (L : sm_S → Prop) (d : Nat) (vs : List Value) (x1 : Int32) (x4 : Int32) (x6 : Int32) (x7 : Int32) (m : sm_M) (Q : Int32 → sm_M → Prop) : Prop := sm_go E L mX11_terms d 0 0 vs 111 [(0, .ref (sm_B E + 0)), (1, .int x1), (4, .int x4), (6, .int x6), (7, .int x7)] [] m 0 0 (sm_Z E L vs 0 0 (sm_QI Q))
def gX11_terms_92 (E : sm_E) (L : sm_S → Prop) (d : Nat) (vs : List Value) (x1 : Int32) (x4 : Int32) (x6 : Int32) (x7 : Int32) (s0 : Int32) (m : sm_M) (Q : Int32 → sm_M → Prop) : Prop := sm_go E L mX11_terms d 0 0 vs 92 [(0, .ref (sm_B E + 0)), (1, .int x1), (4, .int x4), (6, .int x6), (7, .int x7)] [.int s0] m 0 0 (sm_Z E L vs 0 0 (sm_QI Q))
def gX11_terms_65 (E : sm_E) (L : sm_S → Prop) (d : Nat) (vs : List Value) (x1 : Int32) (x3 : Int32) (x4 : Int32) (x5 : Int32) (s0 : Int32) (m : sm_M) (Q : Int32 → sm_M → Prop) : Prop := sm_go E L mX11_terms d 0 0 vs 65 [(0, .ref (sm_B E + 0)), (1, .int x1), (3, .int x3), (4, .int x4), (5, .int x5)] [.int s0] m 0 0 (sm_Z E L vs 0 0 (sm_QI Q))
theorem dX11_terms_111 : decode cX11_terms 111 = .ok (.aload_n 0, 1) := dk_aload_n_0 (by decide +kernel)
theorem dX11_terms_112 : decode cX11_terms 112 = .ok (.getfield 81, 3) := dk_getfield 81 (b1 := 0) (b2 := 81) (by decide +kernel) (by decide +kernel) (by decide +kernel) (by decide +kernel)
theorem dX11_terms_115 : decode cX11_terms 115 = .ok (.iload 6, 2) := dk_iload 6 (b := 6) (by decide +kernel) (by decide +kernel) (by decide +kernel)
theorem dX11_terms_117 : decode cX11_terms 117 = .ok (.iload 7, 2) := dk_iload 7 (b := 7) (by decide +kernel) (by decide +kernel) (by decide +kernel)
theorem dX11_terms_119 : decode cX11_terms 119 = .ok (.iload 4, 2) := dk_iload 4 (b := 4) (by decide +kernel) (by decide +kernel) (by decide +kernel)
theorem dX11_terms_121 : decode cX11_terms 121 = .ok (.invokevirtual 196, 3) := dk_invokevirtual 196 (b1 := 0) (b2 := 196) (by decide +kernel) (by decide +kernel) (by decide +kernel) (by decide +kernel)
theorem dX11_terms_124 : decode cX11_terms 124 = .ok (.ifCond .ne 9, 3) := dk_ifCond_ne 9 (b1 := 0) (b2 := 9) (by decide +kernel) (by decide +kernel) (by decide +kernel) (by decide +kernel)
theorem dX11_terms_133 : decode cX11_terms 133 = .ok (.aload_n 0, 1) := dk_aload_n_0 (by decide +kernel)
theorem dX11_terms_134 : decode cX11_terms 134 = .ok (.getfield 76, 3) := dk_getfield 76 (b1 := 0) (b2 := 76) (by decide +kernel) (by decide +kernel) (by decide +kernel) (by decide +kernel)
theorem dX11_terms_137 : decode cX11_terms 137 = .ok (.iload_n 1, 1) := dk_iload_n_1 (by decide +kernel)
theorem dX11_terms_138 : decode cX11_terms 138 = .ok (.aaload, 1) := dk_aaload (by decide +kernel)
theorem dX11_terms_139 : decode cX11_terms 139 = .ok (.astore 9, 2) := dk_astore 9 (b := 9) (by decide +kernel) (by decide +kernel) (by decide +kernel)
theorem dX11_terms_141 : decode cX11_terms 141 = .ok (.aload 9, 2) := dk_aload 9 (b := 9) (by decide +kernel) (by decide +kernel) (by decide +kernel)
theorem dX11_terms_143 : decode cX11_terms 143 = .ok (.bipush 64, 2) := dk_bipush 64 (b := 64) (by decide +kernel) (by decide +kernel) (by decide +kernel)
theorem dX11_terms_145 : decode cX11_terms 145 = .ok (.aload_n 0, 1) := dk_aload_n_0 (by decide +kernel)
theorem dX11_terms_146 : decode cX11_terms 146 = .ok (.getfield 81, 3) := dk_getfield 81 (b1 := 0) (b2 := 81) (by decide +kernel) (by decide +kernel) (by decide +kernel) (by decide +kernel)
theorem dX11_terms_149 : decode cX11_terms 149 = .ok (.getfield 199, 3) := dk_getfield 199 (b1 := 0) (b2 := 199) (by decide +kernel) (by decide +kernel) (by decide +kernel) (by decide +kernel)
theorem dX11_terms_152 : decode cX11_terms 152 = .ok (.invokevirtual 260, 3) := dk_invokevirtual 260 (b1 := 1) (b2 := 4) (by decide +kernel) (by decide +kernel) (by decide +kernel) (by decide +kernel)
theorem dX11_terms_155 : decode cX11_terms 155 = .ok (.aload 9, 2) := dk_aload 9 (b := 9) (by decide +kernel) (by decide +kernel) (by decide +kernel)
theorem dX11_terms_157 : decode cX11_terms 157 = .ok (.aload_n 0, 1) := dk_aload_n_0 (by decide +kernel)
theorem dX11_terms_158 : decode cX11_terms 158 = .ok (.getfield 81, 3) := dk_getfield 81 (b1 := 0) (b2 := 81) (by decide +kernel) (by decide +kernel) (by decide +kernel) (by decide +kernel)
theorem dX11_terms_161 : decode cX11_terms 161 = .ok (.iconst 0, 1) := dk_iconst_0 (by decide +kernel)
theorem dX11_terms_162 : decode cX11_terms 162 = .ok (.iconst 0, 1) := dk_iconst_0 (by decide +kernel)
theorem dX11_terms_163 : decode cX11_terms 163 = .ok (.aload_n 0, 1) := dk_aload_n_0 (by decide +kernel)
theorem dX11_terms_164 : decode cX11_terms 164 = .ok (.getfield 81, 3) := dk_getfield 81 (b1 := 0) (b2 := 81) (by decide +kernel) (by decide +kernel) (by decide +kernel) (by decide +kernel)
theorem dX11_terms_167 : decode cX11_terms 167 = .ok (.getfield 199, 3) := dk_getfield 199 (b1 := 0) (b2 := 199) (by decide +kernel) (by decide +kernel) (by decide +kernel) (by decide +kernel)
theorem dX11_terms_170 : decode cX11_terms 170 = .ok (.invokevirtual 347, 3) := dk_invokevirtual 347 (b1 := 1) (b2 := 91) (by decide +kernel) (by decide +kernel) (by decide +kernel) (by decide +kernel)
theorem dX11_terms_173 : decode cX11_terms 173 = .ok (.aload 9, 2) := dk_aload 9 (b := 9) (by decide +kernel) (by decide +kernel) (by decide +kernel)
theorem dX11_terms_175 : decode cX11_terms 175 = .ok (.getfield 199, 3) := dk_getfield 199 (b1 := 0) (b2 := 199) (by decide +kernel) (by decide +kernel) (by decide +kernel) (by decide +kernel)
theorem dX11_terms_178 : decode cX11_terms 178 = .ok (.ireturn, 1) := dk_ireturn (by decide +kernel)
theorem dX11_terms_127 : decode cX11_terms 127 = .ok (.aload_n 0, 1) := dk_aload_n_0 (by decide +kernel)
theorem dX11_terms_128 : decode cX11_terms 128 = .ok (.iconst 4, 1) := dk_iconst_4 (by decide +kernel)
theorem dX11_terms_129 : decode cX11_terms 129 = .ok (.invokevirtual 103, 3) := dk_invokevirtual 103 (b1 := 0) (b2 := 103) (by decide +kernel) (by decide +kernel) (by decide +kernel) (by decide +kernel)
theorem dX11_terms_132 : decode cX11_terms 132 = .ok (.ireturn, 1) := dk_ireturn (by decide +kernel)
set_option maxRecDepth 20000 in
theorem vX11_terms_111 {E : sm_E} {L : sm_S → Prop} {d : Nat} {vs : List Value} {x1 : Int32} {x4 : Int32} {x6 : Int32} {x7 : Int32}  {m : sm_M} {Q : Int32 → sm_M → Prop} (hly : ∀ S, L S → ly S) (hd : 4 ≤ d) 
  (h : sm_callI E L mX7_expand 3 0 0 [.ref (sm_B E + 74), .int x6, .int x7, .int x4] m (fun r_2 m_1 =>
   (¬ r_2 = 0 →
      (vp_in x1 4) ∧ sm_callV E L mX7_reset 2 0 0 [.ref (sm_B E + (101 + 2 * x1.toNatClampNeg)), .int 64, .int (m_1.1 74 2)] m_1 (fun m_4 =>
      sm_callV E L mX7_bring 2 0 0 [.ref (sm_B E + (101 + 2 * x1.toNatClampNeg)), .ref (sm_B E + 74), .int 0, .int 0, .int (m_4.1 74 2)] m_4 (fun m_5 =>
      Q (m_5.1 (101 + 2 * x1.toNatClampNeg) 2) m_5))) ∧
   (r_2 = 0 →
      sm_callI E L mX11_error 1 0 0 [.ref (sm_B E + 0), .int 4] m_1 (fun r_7 m_6 =>
      Q r_7 m_6)))) :
  gX11_terms_111 E L d vs x1 x4 x6 x7 m Q := by
  refine sm_aload_n (Y := mX11_terms) (pc := 111) 0 0 rfl rfl dX11_terms_111 ?_
  refine gf_RX11_81 (Y := mX11_terms) (pc := 112) (b := 74) rfl ((lk_0 hly) _) (lf_0_11 hly _) dX11_terms_112 ?_
  refine sm_iload (Y := mX11_terms) (pc := 115) 3 6 rfl dX11_terms_115 ?_
  refine sm_iload (Y := mX11_terms) (pc := 117) 4 7 rfl dX11_terms_117 ?_
  refine sm_iload (Y := mX11_terms) (pc := 119) 2 4 rfl dX11_terms_119 ?_
  refine sm_iv_I (Y := mX11_terms) (pc := 121) (As := [.int x6, .int x7, .int x4]) (a := 74) fX7_expand wRX11_196 (lk_74 hly) (by decide) rfl rfl rfl (Nat.le_trans (by decide) hd) (Nat.le_of_ble_eq_true rfl) ⟨Nat.le_refl _, Nat.le_refl _⟩ dX11_terms_121 rfl (sm_monoI h (fun r_2 m_1 h => ?_))
  refine sm_if_ne (Y := mX11_terms) (pc := 124) 133 (by decide) dX11_terms_124 (fun hc => ?_) (fun hc => ?_)
  · replace h := h.1 hc
    refine sm_aload_n (Y := mX11_terms) (pc := 133) 0 0 rfl rfl dX11_terms_133 ?_
    refine gf_RX11_76 (Y := mX11_terms) (pc := 134) (b := 73) rfl ((lk_0 hly) _) (lf_0_10 hly _) dX11_terms_134 ?_
    refine sm_iload_n (Y := mX11_terms) (pc := 137) 1 1 rfl rfl dX11_terms_137 ?_
    obtain ⟨hn_3, h⟩ := h
    refine sm_aaldS (Y := mX11_terms) (pc := 138) (b := (101 + 2 * x1.toNatClampNeg)) (la_73 hly _) hn_3 (ly_sheetR hly (sm_inlt hn_3) _) dX11_terms_138 ?_
    refine sm_astore (Y := mX11_terms) (pc := 139) [(9, .ref (sm_B E + (101 + 2 * x1.toNatClampNeg))), (0, .ref (sm_B E + 0)), (1, .int x1), (4, .int x4), (6, .int x6), (7, .int x7)] 9 (by decide) rfl dX11_terms_139 ?_
    refine sm_aload (Y := mX11_terms) (pc := 141) 0 9 rfl dX11_terms_141 ?_
    refine sm_bipush (Y := mX11_terms) (pc := 143) 64 (by decide) dX11_terms_143 ?_
    refine sm_aload_n (Y := mX11_terms) (pc := 145) 1 0 rfl rfl dX11_terms_145 ?_
    refine gf_RX11_81 (Y := mX11_terms) (pc := 146) (b := 74) rfl ((lk_0 hly) _) (lf_0_11 hly _) dX11_terms_146 ?_
    refine gf_RX11_199 (Y := mX11_terms) (pc := 149) rfl ((lk_74 hly) _) dX11_terms_149 ?_
    refine sm_iv_V (Y := mX11_terms) (pc := 152) (As := [.int 64, .int (m_1.1 74 2)]) (a := (101 + 2 * x1.toNatClampNeg)) fX7_reset wRX11_260 (fun S hS => ((ly_sheetT hly (sm_inlt hn_3)) S hS).1) (by decide) rfl rfl rfl (Nat.le_trans (by decide) hd) (Nat.le_of_ble_eq_true rfl) ⟨Nat.le_refl _, Nat.le_refl _⟩ dX11_terms_152 rfl (sm_monoV h (fun m_4 h => ?_))
    refine sm_aload (Y := mX11_terms) (pc := 155) 0 9 rfl dX11_terms_155 ?_
    refine sm_aload_n (Y := mX11_terms) (pc := 157) 1 0 rfl rfl dX11_terms_157 ?_
    refine gf_RX11_81 (Y := mX11_terms) (pc := 158) (b := 74) rfl ((lk_0 hly) _) (lf_0_11 hly _) dX11_terms_158 ?_
    refine sm_iconst (Y := mX11_terms) (pc := 161) 0 (by decide) dX11_terms_161 ?_
    refine sm_iconst (Y := mX11_terms) (pc := 162) 0 (by decide) dX11_terms_162 ?_
    refine sm_aload_n (Y := mX11_terms) (pc := 163) 1 0 rfl rfl dX11_terms_163 ?_
    refine gf_RX11_81 (Y := mX11_terms) (pc := 164) (b := 74) rfl ((lk_0 hly) _) (lf_0_11 hly _) dX11_terms_164 ?_
    refine gf_RX11_199 (Y := mX11_terms) (pc := 167) rfl ((lk_74 hly) _) dX11_terms_167 ?_
    refine sm_iv_V (Y := mX11_terms) (pc := 170) (As := [.ref (sm_B E + 74), .int 0, .int 0, .int (m_4.1 74 2)]) (a := (101 + 2 * x1.toNatClampNeg)) fX7_bring wRX11_347 (fun S hS => ((ly_sheetT hly (sm_inlt hn_3)) S hS).1) (by decide) rfl rfl rfl (Nat.le_trans (by decide) hd) (Nat.le_of_ble_eq_true rfl) ⟨Nat.le_refl _, Nat.le_refl _⟩ dX11_terms_170 rfl (sm_monoV h (fun m_5 h => ?_))
    refine sm_aload (Y := mX11_terms) (pc := 173) 0 9 rfl dX11_terms_173 ?_
    refine gf_RX11_199 (Y := mX11_terms) (pc := 175) rfl ((fun S hS => ((ly_sheetT hly (sm_inlt hn_3)) S hS).1) _) dX11_terms_175 ?_
    exact sm_iret (Y := mX11_terms) (pc := 178) rfl rfl rfl dX11_terms_178 ⟨_, rfl, h⟩
  · replace h := h.2 hc
    refine sm_aload_n (Y := mX11_terms) (pc := 127) 0 0 rfl rfl dX11_terms_127 ?_
    refine sm_iconst (Y := mX11_terms) (pc := 128) 4 (by decide) dX11_terms_128 ?_
    refine sm_iv_I (Y := mX11_terms) (pc := 129) (As := [.int 4]) (a := 0) fX11_error wRX11_103 (lk_0 hly) (by decide) rfl rfl rfl (Nat.le_trans (by decide) hd) (Nat.le_of_ble_eq_true rfl) ⟨Nat.le_refl _, Nat.le_refl _⟩ dX11_terms_129 rfl (sm_monoI h (fun r_7 m_6 h => ?_))
    exact sm_iret (Y := mX11_terms) (pc := 132) rfl rfl rfl dX11_terms_132 ⟨_, rfl, h⟩
theorem dX11_terms_92 : decode cX11_terms 92 = .ok (.istore 8, 2) := dk_istore 8 (b := 8) (by decide +kernel) (by decide +kernel) (by decide +kernel)
theorem dX11_terms_94 : decode cX11_terms 94 = .ok (.iload 4, 2) := dk_iload 4 (b := 4) (by decide +kernel) (by decide +kernel) (by decide +kernel)
theorem dX11_terms_96 : decode cX11_terms 96 = .ok (.iconst 2, 1) := dk_iconst_2 (by decide +kernel)
theorem dX11_terms_97 : decode cX11_terms 97 = .ok (.if_icmp .ne 14, 3) := dk_if_icmp_ne 14 (b1 := 0) (b2 := 14) (by decide +kernel) (by decide +kernel) (by decide +kernel) (by decide +kernel)
theorem dX11_terms_100 : decode cX11_terms 100 = .ok (.iload 8, 2) := dk_iload 8 (b := 8) (by decide +kernel) (by decide +kernel) (by decide +kernel)
theorem dX11_terms_102 : decode cX11_terms 102 = .ok (.ifCond .eq 9, 3) := dk_ifCond_eq 9 (b1 := 0) (b2 := 9) (by decide +kernel) (by decide +kernel) (by decide +kernel) (by decide +kernel)
theorem dX11_terms_105 : decode cX11_terms 105 = .ok (.aload_n 0, 1) := dk_aload_n_0 (by decide +kernel)
theorem dX11_terms_106 : decode cX11_terms 106 = .ok (.iconst 3, 1) := dk_iconst_3 (by decide +kernel)
theorem dX11_terms_107 : decode cX11_terms 107 = .ok (.invokevirtual 103, 3) := dk_invokevirtual 103 (b1 := 0) (b2 := 103) (by decide +kernel) (by decide +kernel) (by decide +kernel) (by decide +kernel)
theorem dX11_terms_110 : decode cX11_terms 110 = .ok (.ireturn, 1) := dk_ireturn (by decide +kernel)
set_option maxRecDepth 20000 in
theorem vX11_terms_92 {E : sm_E} {L : sm_S → Prop} {d : Nat} {vs : List Value} {x1 : Int32} {x4 : Int32} {x6 : Int32} {x7 : Int32} {s0 : Int32}  {m : sm_M} {Q : Int32 → sm_M → Prop} (hly : ∀ S, L S → ly S) (hd : 4 ≤ d) 
  (h : (¬ x4 = 2 →
      gX11_terms_111 E L d vs x1 x4 x6 x7 m Q) ∧
   (x4 = 2 →
      (s0 = 0 →
         gX11_terms_111 E L d vs x1 x4 x6 x7 m Q) ∧
      (¬ s0 = 0 →
         sm_callI E L mX11_error 1 0 0 [.ref (sm_B E + 0), .int 3] m (fun r_3 m_2 =>
         Q r_3 m_2)))) :
  gX11_terms_92 E L d vs x1 x4 x6 x7 s0 m Q := by
  refine sm_istore0 (Y := mX11_terms) (pc := 92) [(8, .int s0), (0, .ref (sm_B E + 0)), (1, .int x1), (4, .int x4), (6, .int x6), (7, .int x7)] 8 (by decide) rfl dX11_terms_92 ?_
  refine sm_iload (Y := mX11_terms) (pc := 94) 3 4 rfl dX11_terms_94 ?_
  refine sm_iconst (Y := mX11_terms) (pc := 96) 2 (by decide) dX11_terms_96 ?_
  refine sm_icmp_ne (Y := mX11_terms) (pc := 97) 111 (by decide) dX11_terms_97 (fun hc => ?_) (fun hc => ?_)
  · replace h := h.1 hc
    refine sm_sub [1, 2, 3, 4, 5] rfl ?_
    exact h
  · replace h := h.2 hc
    refine sm_iload (Y := mX11_terms) (pc := 100) 0 8 rfl dX11_terms_100 ?_
    refine sm_if_eq (Y := mX11_terms) (pc := 102) 111 (by decide) dX11_terms_102 (fun hc => ?_) (fun hc => ?_)
    · replace h := h.1 hc
      refine sm_sub [1, 2, 3, 4, 5] rfl ?_
      exact h
    · replace h := h.2 hc
      refine sm_aload_n (Y := mX11_terms) (pc := 105) 1 0 rfl rfl dX11_terms_105 ?_
      refine sm_iconst (Y := mX11_terms) (pc := 106) 3 (by decide) dX11_terms_106 ?_
      refine sm_iv_I (Y := mX11_terms) (pc := 107) (As := [.int 3]) (a := 0) fX11_error wRX11_103 (lk_0 hly) (by decide) rfl rfl rfl (Nat.le_trans (by decide) hd) (Nat.le_of_ble_eq_true rfl) ⟨Nat.le_refl _, Nat.le_refl _⟩ dX11_terms_107 rfl (sm_monoI h (fun r_3 m_2 h => ?_))
      exact sm_iret (Y := mX11_terms) (pc := 110) rfl rfl rfl dX11_terms_110 ⟨_, rfl, h⟩
theorem dX11_terms_65 : decode cX11_terms 65 = .ok (.istore 6, 2) := dk_istore 6 (b := 6) (by decide +kernel) (by decide +kernel) (by decide +kernel)
theorem dX11_terms_67 : decode cX11_terms 67 = .ok (.iload_n 3, 1) := dk_iload_n_3 (by decide +kernel)
theorem dX11_terms_68 : decode cX11_terms 68 = .ok (.invokestatic 217, 3) := dk_invokestatic 217 (b1 := 0) (b2 := 217) (by decide +kernel) (by decide +kernel) (by decide +kernel) (by decide +kernel)
theorem dX11_terms_71 : decode cX11_terms 71 = .ok (.iload 5, 2) := dk_iload 5 (b := 5) (by decide +kernel) (by decide +kernel) (by decide +kernel)
theorem dX11_terms_73 : decode cX11_terms 73 = .ok (.idiv, 1) := dk_idiv (by decide +kernel)
theorem dX11_terms_74 : decode cX11_terms 74 = .ok (.istore 7, 2) := dk_istore 7 (b := 7) (by decide +kernel) (by decide +kernel) (by decide +kernel)
theorem dX11_terms_76 : decode cX11_terms 76 = .ok (.iload 6, 2) := dk_iload 6 (b := 6) (by decide +kernel) (by decide +kernel) (by decide +kernel)
theorem dX11_terms_78 : decode cX11_terms 78 = .ok (.iload 7, 2) := dk_iload 7 (b := 7) (by decide +kernel) (by decide +kernel) (by decide +kernel)
theorem dX11_terms_80 : decode cX11_terms 80 = .ok (.iand, 1) := dk_iand (by decide +kernel)
theorem dX11_terms_81 : decode cX11_terms 81 = .ok (.iconst 1, 1) := dk_iconst_1 (by decide +kernel)
theorem dX11_terms_82 : decode cX11_terms 82 = .ok (.iand, 1) := dk_iand (by decide +kernel)
theorem dX11_terms_83 : decode cX11_terms 83 = .ok (.iconst 1, 1) := dk_iconst_1 (by decide +kernel)
theorem dX11_terms_84 : decode cX11_terms 84 = .ok (.if_icmp .ne 7, 3) := dk_if_icmp_ne 7 (b1 := 0) (b2 := 7) (by decide +kernel) (by decide +kernel) (by decide +kernel) (by decide +kernel)
theorem dX11_terms_91 : decode cX11_terms 91 = .ok (.iconst 0, 1) := dk_iconst_0 (by decide +kernel)
theorem dX11_terms_87 : decode cX11_terms 87 = .ok (.iconst 1, 1) := dk_iconst_1 (by decide +kernel)
theorem dX11_terms_88 : decode cX11_terms 88 = .ok (.goto 4, 3) := dk_goto 4 (b1 := 0) (b2 := 4) (by decide +kernel) (by decide +kernel) (by decide +kernel) (by decide +kernel)
set_option maxRecDepth 20000 in
theorem vX11_terms_65 {E : sm_E} {L : sm_S → Prop} {d : Nat} {vs : List Value} {x1 : Int32} {x3 : Int32} {x4 : Int32} {x5 : Int32} {s0 : Int32}  {m : sm_M} {Q : Int32 → sm_M → Prop}  (hd : 4 ≤ d) 
  (h : sm_callI E L mJ9_abs_0f7a4 1 0 0 [.int x3] m (fun r_3 m_2 =>
   (¬ x5 = 0) ∧ ∀ x7_5 : Int32, x7_5 = r_3 / x5 →
   (¬ ((s0 &&& x7_5) &&& 1) = 1 →
      gX11_terms_92 E L d vs x1 x4 s0 x7_5 0 m_2 Q) ∧
   (((s0 &&& x7_5) &&& 1) = 1 →
      gX11_terms_92 E L d vs x1 x4 s0 x7_5 1 m_2 Q))) :
  gX11_terms_65 E L d vs x1 x3 x4 x5 s0 m Q := by
  refine sm_istore0 (Y := mX11_terms) (pc := 65) [(6, .int s0), (0, .ref (sm_B E + 0)), (1, .int x1), (3, .int x3), (4, .int x4), (5, .int x5)] 6 (by decide) rfl dX11_terms_65 ?_
  refine sm_iload_n (Y := mX11_terms) (pc := 67) 3 3 rfl rfl dX11_terms_67 ?_
  refine sm_is_I (Y := mX11_terms) (pc := 68) (As := [.int x3]) fJ9_abs_0f7a4 wRX11_217 rfl (Nat.le_trans (by decide) hd) (Nat.le_of_ble_eq_true rfl) ⟨Nat.le_refl _, Nat.le_refl _⟩ dX11_terms_68 rfl (sm_monoI h (fun r_3 m_2 h => ?_))
  refine sm_iload (Y := mX11_terms) (pc := 71) 5 5 rfl dX11_terms_71 ?_
  obtain ⟨hn_4, h⟩ := h
  refine sm_idiv (Y := mX11_terms) (pc := 73) hn_4 dX11_terms_73 ?_
  refine sm_istore (Y := mX11_terms) (pc := 74) (fun y => [(7, .int y), (6, .int s0), (0, .ref (sm_B E + 0)), (1, .int x1), (3, .int x3), (4, .int x4), (5, .int x5)]) 7 (by decide) (fun _ => rfl) dX11_terms_74 (fun x7_5 ex7_5 => ?_)
  replace h := h x7_5 ex7_5
  refine sm_iload (Y := mX11_terms) (pc := 76) 1 6 rfl dX11_terms_76 ?_
  refine sm_iload (Y := mX11_terms) (pc := 78) 0 7 rfl dX11_terms_78 ?_
  refine sm_iand (Y := mX11_terms) (pc := 80) dX11_terms_80 ?_
  refine sm_iconst (Y := mX11_terms) (pc := 81) 1 (by decide) dX11_terms_81 ?_
  refine sm_iand (Y := mX11_terms) (pc := 82) dX11_terms_82 ?_
  refine sm_iconst (Y := mX11_terms) (pc := 83) 1 (by decide) dX11_terms_83 ?_
  refine sm_icmp_ne (Y := mX11_terms) (pc := 84) 91 (by decide) dX11_terms_84 (fun hc => ?_) (fun hc => ?_)
  · replace h := h.1 hc
    refine sm_iconst (Y := mX11_terms) (pc := 91) 0 (by decide) dX11_terms_91 ?_
    refine sm_sub [2, 3, 5, 1, 0] rfl ?_
    exact h
  · replace h := h.2 hc
    refine sm_iconst (Y := mX11_terms) (pc := 87) 1 (by decide) dX11_terms_87 ?_
    refine sm_goto (Y := mX11_terms) (pc := 88) 92 (by decide) dX11_terms_88 ?_
    refine sm_sub [2, 3, 5, 1, 0] rfl ?_
    exact h
theorem dX11_terms_0 : decode cX11_terms 0 = .ok (.iload_n 1, 1) := dk_iload_n_1 (by decide +kernel)
theorem dX11_terms_1 : decode cX11_terms 1 = .ok (.invokestatic 254, 3) := dk_invokestatic 254 (b1 := 0) (b2 := 254) (by decide +kernel) (by decide +kernel) (by decide +kernel) (by decide +kernel)
theorem dX11_terms_4 : decode cX11_terms 4 = .ok (.ifCond .eq 32, 3) := dk_ifCond_eq 32 (b1 := 0) (b2 := 32) (by decide +kernel) (by decide +kernel) (by decide +kernel) (by decide +kernel)
theorem dX11_terms_36 : decode cX11_terms 36 = .ok (.aload_n 0, 1) := dk_aload_n_0 (by decide +kernel)
theorem dX11_terms_37 : decode cX11_terms 37 = .ok (.iconst 1, 1) := dk_iconst_1 (by decide +kernel)
theorem dX11_terms_38 : decode cX11_terms 38 = .ok (.invokevirtual 103, 3) := dk_invokevirtual 103 (b1 := 0) (b2 := 103) (by decide +kernel) (by decide +kernel) (by decide +kernel) (by decide +kernel)
theorem dX11_terms_41 : decode cX11_terms 41 = .ok (.ireturn, 1) := dk_ireturn (by decide +kernel)
theorem dX11_terms_7 : decode cX11_terms 7 = .ok (.iload_n 2, 1) := dk_iload_n_2 (by decide +kernel)
theorem wRX11_351 : Cond.methodLink RX11 351 yX11_isWhole ∈ sm_T := sm_in 1093 (by decide +kernel) (by decide +kernel)
abbrev mX11_isWhole : sm_Y := (yX11_isWhole, cX11_isWhole, 1, (some FieldType.boolean))
theorem fX11_isWhole : sm_mt mX11_isWhole 1 := ⟨sm_in 1095 (by decide +kernel) (by decide +kernel), sm_in 1094 (by decide +kernel) (by decide +kernel), sm_in 82 (by decide +kernel) (by decide +kernel), ⟨by decide +kernel, by decide +kernel, by decide +kernel⟩, by decide⟩
theorem dX11_terms_8 : decode cX11_terms 8 = .ok (.invokestatic 351, 3) := dk_invokestatic 351 (b1 := 1) (b2 := 95) (by decide +kernel) (by decide +kernel) (by decide +kernel) (by decide +kernel)
theorem dX11_terms_11 : decode cX11_terms 11 = .ok (.ifCond .eq 25, 3) := dk_ifCond_eq 25 (b1 := 0) (b2 := 25) (by decide +kernel) (by decide +kernel) (by decide +kernel) (by decide +kernel)
theorem dX11_terms_14 : decode cX11_terms 14 = .ok (.iload_n 3, 1) := dk_iload_n_3 (by decide +kernel)
theorem dX11_terms_15 : decode cX11_terms 15 = .ok (.invokestatic 351, 3) := dk_invokestatic 351 (b1 := 1) (b2 := 95) (by decide +kernel) (by decide +kernel) (by decide +kernel) (by decide +kernel)
theorem dX11_terms_18 : decode cX11_terms 18 = .ok (.ifCond .eq 18, 3) := dk_ifCond_eq 18 (b1 := 0) (b2 := 18) (by decide +kernel) (by decide +kernel) (by decide +kernel) (by decide +kernel)
theorem dX11_terms_21 : decode cX11_terms 21 = .ok (.iload_n 3, 1) := dk_iload_n_3 (by decide +kernel)
theorem dX11_terms_22 : decode cX11_terms 22 = .ok (.ifCond .eq 14, 3) := dk_ifCond_eq 14 (b1 := 0) (b2 := 14) (by decide +kernel) (by decide +kernel) (by decide +kernel) (by decide +kernel)
theorem dX11_terms_25 : decode cX11_terms 25 = .ok (.iload 4, 2) := dk_iload 4 (b := 4) (by decide +kernel) (by decide +kernel) (by decide +kernel)
theorem dX11_terms_27 : decode cX11_terms 27 = .ok (.ifCond .lt 9, 3) := dk_ifCond_lt 9 (b1 := 0) (b2 := 9) (by decide +kernel) (by decide +kernel) (by decide +kernel) (by decide +kernel)
theorem dX11_terms_30 : decode cX11_terms 30 = .ok (.iload 4, 2) := dk_iload 4 (b := 4) (by decide +kernel) (by decide +kernel) (by decide +kernel)
theorem dX11_terms_32 : decode cX11_terms 32 = .ok (.iconst 3, 1) := dk_iconst_3 (by decide +kernel)
theorem dX11_terms_33 : decode cX11_terms 33 = .ok (.if_icmp .le 9, 3) := dk_if_icmp_le 9 (b1 := 0) (b2 := 9) (by decide +kernel) (by decide +kernel) (by decide +kernel) (by decide +kernel)
theorem dX11_terms_42 : decode cX11_terms 42 = .ok (.iload_n 2, 1) := dk_iload_n_2 (by decide +kernel)
theorem dX11_terms_43 : decode cX11_terms 43 = .ok (.iload_n 3, 1) := dk_iload_n_3 (by decide +kernel)
theorem wRX11_354 : Cond.methodLink RX11 354 yX3_divisorOf ∈ sm_T := sm_in 1098 (by decide +kernel) (by decide +kernel)
theorem dX11_terms_44 : decode cX11_terms 44 = .ok (.invokestatic 354, 3) := dk_invokestatic 354 (b1 := 1) (b2 := 98) (by decide +kernel) (by decide +kernel) (by decide +kernel) (by decide +kernel)
theorem dX11_terms_47 : decode cX11_terms 47 = .ok (.istore 5, 2) := dk_istore 5 (b := 5) (by decide +kernel) (by decide +kernel) (by decide +kernel)
theorem dX11_terms_49 : decode cX11_terms 49 = .ok (.iload_n 3, 1) := dk_iload_n_3 (by decide +kernel)
theorem dX11_terms_50 : decode cX11_terms 50 = .ok (.ifCond .ge 11, 3) := dk_ifCond_ge 11 (b1 := 0) (b2 := 11) (by decide +kernel) (by decide +kernel) (by decide +kernel) (by decide +kernel)
theorem dX11_terms_61 : decode cX11_terms 61 = .ok (.iload_n 2, 1) := dk_iload_n_2 (by decide +kernel)
theorem dX11_terms_62 : decode cX11_terms 62 = .ok (.iload 5, 2) := dk_iload 5 (b := 5) (by decide +kernel) (by decide +kernel) (by decide +kernel)
theorem dX11_terms_64 : decode cX11_terms 64 = .ok (.idiv, 1) := dk_idiv (by decide +kernel)
theorem dX11_terms_53 : decode cX11_terms 53 = .ok (.iload_n 2, 1) := dk_iload_n_2 (by decide +kernel)
theorem dX11_terms_54 : decode cX11_terms 54 = .ok (.ineg, 1) := dk_ineg (by decide +kernel)
theorem dX11_terms_55 : decode cX11_terms 55 = .ok (.iload 5, 2) := dk_iload 5 (b := 5) (by decide +kernel) (by decide +kernel) (by decide +kernel)
theorem dX11_terms_57 : decode cX11_terms 57 = .ok (.idiv, 1) := dk_idiv (by decide +kernel)
theorem dX11_terms_58 : decode cX11_terms 58 = .ok (.goto 7, 3) := dk_goto 7 (b1 := 0) (b2 := 7) (by decide +kernel) (by decide +kernel) (by decide +kernel) (by decide +kernel)
set_option maxRecDepth 20000 in
theorem vX11_terms_0 {E : sm_E} {L : sm_S → Prop} {d : Nat} {x1 : Int32} {x2 : Int32} {x3 : Int32} {x4 : Int32}  {m : sm_M} {Q : Int32 → sm_M → Prop} (hly : ∀ S, L S → ly S) (hd : 4 ≤ d) 
  (h : sm_callI E L mX11_isSheet 1 0 0 [.int x1] m (fun r_2 m_1 =>
   (r_2 = 0 →
      sm_callI E L mX11_error 1 0 0 [.ref (sm_B E + 0), .int 1] m_1 (fun r_4 m_3 =>
      Q r_4 m_3)) ∧
   (¬ r_2 = 0 →
      sm_callI E L mX11_isWhole 1 0 0 [.int x2] m_1 (fun r_6 m_5 =>
      (r_6 = 0 →
         sm_callI E L mX11_error 1 0 0 [.ref (sm_B E + 0), .int 1] m_5 (fun r_8 m_7 =>
         Q r_8 m_7)) ∧
      (¬ r_6 = 0 →
         sm_callI E L mX11_isWhole 1 0 0 [.int x3] m_5 (fun r_10 m_9 =>
         (r_10 = 0 →
            sm_callI E L mX11_error 1 0 0 [.ref (sm_B E + 0), .int 1] m_9 (fun r_12 m_11 =>
            Q r_12 m_11)) ∧
         (¬ r_10 = 0 →
            (x3 = 0 →
               sm_callI E L mX11_error 1 0 0 [.ref (sm_B E + 0), .int 1] m_9 (fun r_14 m_13 =>
               Q r_14 m_13)) ∧
            (¬ x3 = 0 →
               (x4 < 0 →
                  sm_callI E L mX11_error 1 0 0 [.ref (sm_B E + 0), .int 1] m_9 (fun r_16 m_15 =>
                  Q r_16 m_15)) ∧
               (¬ x4 < 0 →
                  (x4 ≤ 3 →
                     sm_callI E L mX3_divisorOf 2 0 0 [.int x2, .int x3] m_9 (fun r_18 m_17 =>
                     (0 ≤ x3 →
                        (¬ r_18 = 0) ∧ gX11_terms_65 E L d ([.ref (sm_B E + 0), .int x1, .int x2, .int x3, .int x4]) x1 x3 x4 r_18 (x2 / r_18) m_17 Q) ∧
                     (¬ 0 ≤ x3 →
                        (¬ r_18 = 0) ∧ gX11_terms_65 E L d ([.ref (sm_B E + 0), .int x1, .int x2, .int x3, .int x4]) x1 x3 x4 r_18 ((-x2) / r_18) m_17 Q))) ∧
                  (¬ x4 ≤ 3 →
                     sm_callI E L mX11_error 1 0 0 [.ref (sm_B E + 0), .int 1] m_9 (fun r_23 m_22 =>
                     Q r_23 m_22))))))))))) :
  sm_callI E L mX11_terms d 0 0 [.ref (sm_B E + 0), .int x1, .int x2, .int x3, .int x4] m Q := by
  refine sm_enter (by decide +kernel) (by simp [lg_sl, Value.category]) ?_
  refine sm_iload_n (Y := mX11_terms) (pc := 0) 1 1 rfl rfl dX11_terms_0 ?_
  refine sm_is_I (Y := mX11_terms) (pc := 1) (As := [.int x1]) fX11_isSheet wRX11_254 rfl (Nat.le_trans (by decide) hd) (Nat.le_of_ble_eq_true rfl) ⟨Nat.le_refl _, Nat.le_refl _⟩ dX11_terms_1 rfl (sm_monoI h (fun r_2 m_1 h => ?_))
  refine sm_if_eq (Y := mX11_terms) (pc := 4) 36 (by decide) dX11_terms_4 (fun hc => ?_) (fun hc => ?_)
  · replace h := h.1 hc
    refine sm_aload_n (Y := mX11_terms) (pc := 36) 0 0 rfl rfl dX11_terms_36 ?_
    refine sm_iconst (Y := mX11_terms) (pc := 37) 1 (by decide) dX11_terms_37 ?_
    refine sm_iv_I (Y := mX11_terms) (pc := 38) (As := [.int 1]) (a := 0) fX11_error wRX11_103 (lk_0 hly) (by decide) rfl rfl rfl (Nat.le_trans (by decide) hd) (Nat.le_of_ble_eq_true rfl) ⟨Nat.le_refl _, Nat.le_refl _⟩ dX11_terms_38 rfl (sm_monoI h (fun r_4 m_3 h => ?_))
    exact sm_iret (Y := mX11_terms) (pc := 41) rfl rfl rfl dX11_terms_41 ⟨_, rfl, h⟩
  · replace h := h.2 hc
    refine sm_iload_n (Y := mX11_terms) (pc := 7) 2 2 rfl rfl dX11_terms_7 ?_
    refine sm_is_I (Y := mX11_terms) (pc := 8) (As := [.int x2]) fX11_isWhole wRX11_351 rfl (Nat.le_trans (by decide) hd) (Nat.le_of_ble_eq_true rfl) ⟨Nat.le_refl _, Nat.le_refl _⟩ dX11_terms_8 rfl (sm_monoI h (fun r_6 m_5 h => ?_))
    refine sm_if_eq (Y := mX11_terms) (pc := 11) 36 (by decide) dX11_terms_11 (fun hc => ?_) (fun hc => ?_)
    · replace h := h.1 hc
      refine sm_aload_n (Y := mX11_terms) (pc := 36) 0 0 rfl rfl dX11_terms_36 ?_
      refine sm_iconst (Y := mX11_terms) (pc := 37) 1 (by decide) dX11_terms_37 ?_
      refine sm_iv_I (Y := mX11_terms) (pc := 38) (As := [.int 1]) (a := 0) fX11_error wRX11_103 (lk_0 hly) (by decide) rfl rfl rfl (Nat.le_trans (by decide) hd) (Nat.le_of_ble_eq_true rfl) ⟨Nat.le_refl _, Nat.le_refl _⟩ dX11_terms_38 rfl (sm_monoI h (fun r_8 m_7 h => ?_))
      exact sm_iret (Y := mX11_terms) (pc := 41) rfl rfl rfl dX11_terms_41 ⟨_, rfl, h⟩
    · replace h := h.2 hc
      refine sm_iload_n (Y := mX11_terms) (pc := 14) 3 3 rfl rfl dX11_terms_14 ?_
      refine sm_is_I (Y := mX11_terms) (pc := 15) (As := [.int x3]) fX11_isWhole wRX11_351 rfl (Nat.le_trans (by decide) hd) (Nat.le_of_ble_eq_true rfl) ⟨Nat.le_refl _, Nat.le_refl _⟩ dX11_terms_15 rfl (sm_monoI h (fun r_10 m_9 h => ?_))
      refine sm_if_eq (Y := mX11_terms) (pc := 18) 36 (by decide) dX11_terms_18 (fun hc => ?_) (fun hc => ?_)
      · replace h := h.1 hc
        refine sm_aload_n (Y := mX11_terms) (pc := 36) 0 0 rfl rfl dX11_terms_36 ?_
        refine sm_iconst (Y := mX11_terms) (pc := 37) 1 (by decide) dX11_terms_37 ?_
        refine sm_iv_I (Y := mX11_terms) (pc := 38) (As := [.int 1]) (a := 0) fX11_error wRX11_103 (lk_0 hly) (by decide) rfl rfl rfl (Nat.le_trans (by decide) hd) (Nat.le_of_ble_eq_true rfl) ⟨Nat.le_refl _, Nat.le_refl _⟩ dX11_terms_38 rfl (sm_monoI h (fun r_12 m_11 h => ?_))
        exact sm_iret (Y := mX11_terms) (pc := 41) rfl rfl rfl dX11_terms_41 ⟨_, rfl, h⟩
      · replace h := h.2 hc
        refine sm_iload_n (Y := mX11_terms) (pc := 21) 3 3 rfl rfl dX11_terms_21 ?_
        refine sm_if_eq (Y := mX11_terms) (pc := 22) 36 (by decide) dX11_terms_22 (fun hc => ?_) (fun hc => ?_)
        · replace h := h.1 hc
          refine sm_aload_n (Y := mX11_terms) (pc := 36) 0 0 rfl rfl dX11_terms_36 ?_
          refine sm_iconst (Y := mX11_terms) (pc := 37) 1 (by decide) dX11_terms_37 ?_
          refine sm_iv_I (Y := mX11_terms) (pc := 38) (As := [.int 1]) (a := 0) fX11_error wRX11_103 (lk_0 hly) (by decide) rfl rfl rfl (Nat.le_trans (by decide) hd) (Nat.le_of_ble_eq_true rfl) ⟨Nat.le_refl _, Nat.le_refl _⟩ dX11_terms_38 rfl (sm_monoI h (fun r_14 m_13 h => ?_))
          exact sm_iret (Y := mX11_terms) (pc := 41) rfl rfl rfl dX11_terms_41 ⟨_, rfl, h⟩
        · replace h := h.2 hc
          refine sm_iload (Y := mX11_terms) (pc := 25) 4 4 rfl dX11_terms_25 ?_
          refine sm_if_lt (Y := mX11_terms) (pc := 27) 36 (by decide) dX11_terms_27 (fun hc => ?_) (fun hc => ?_)
          · replace h := h.1 hc
            refine sm_aload_n (Y := mX11_terms) (pc := 36) 0 0 rfl rfl dX11_terms_36 ?_
            refine sm_iconst (Y := mX11_terms) (pc := 37) 1 (by decide) dX11_terms_37 ?_
            refine sm_iv_I (Y := mX11_terms) (pc := 38) (As := [.int 1]) (a := 0) fX11_error wRX11_103 (lk_0 hly) (by decide) rfl rfl rfl (Nat.le_trans (by decide) hd) (Nat.le_of_ble_eq_true rfl) ⟨Nat.le_refl _, Nat.le_refl _⟩ dX11_terms_38 rfl (sm_monoI h (fun r_16 m_15 h => ?_))
            exact sm_iret (Y := mX11_terms) (pc := 41) rfl rfl rfl dX11_terms_41 ⟨_, rfl, h⟩
          · replace h := h.2 hc
            refine sm_iload (Y := mX11_terms) (pc := 30) 4 4 rfl dX11_terms_30 ?_
            refine sm_iconst (Y := mX11_terms) (pc := 32) 3 (by decide) dX11_terms_32 ?_
            refine sm_icmp_le (Y := mX11_terms) (pc := 33) 42 (by decide) dX11_terms_33 (fun hc => ?_) (fun hc => ?_)
            · replace h := h.1 hc
              refine sm_iload_n (Y := mX11_terms) (pc := 42) 2 2 rfl rfl dX11_terms_42 ?_
              refine sm_iload_n (Y := mX11_terms) (pc := 43) 3 3 rfl rfl dX11_terms_43 ?_
              refine sm_is_I (Y := mX11_terms) (pc := 44) (As := [.int x2, .int x3]) fX3_divisorOf wRX11_354 rfl (Nat.le_trans (by decide) hd) (Nat.le_of_ble_eq_true rfl) ⟨Nat.le_refl _, Nat.le_refl _⟩ dX11_terms_44 rfl (sm_monoI h (fun r_18 m_17 h => ?_))
              refine sm_istore0 (Y := mX11_terms) (pc := 47) [(5, .int r_18), (0, .ref (sm_B E + 0)), (1, .int x1), (2, .int x2), (3, .int x3), (4, .int x4)] 5 (by decide) rfl dX11_terms_47 ?_
              refine sm_iload_n (Y := mX11_terms) (pc := 49) 4 3 rfl rfl dX11_terms_49 ?_
              refine sm_if_ge (Y := mX11_terms) (pc := 50) 61 (by decide) dX11_terms_50 (fun hc => ?_) (fun hc => ?_)
              · replace h := h.1 hc
                refine sm_iload_n (Y := mX11_terms) (pc := 61) 3 2 rfl rfl dX11_terms_61 ?_
                refine sm_iload (Y := mX11_terms) (pc := 62) 0 5 rfl dX11_terms_62 ?_
                obtain ⟨hn_20, h⟩ := h
                refine sm_idiv (Y := mX11_terms) (pc := 64) hn_20 dX11_terms_64 ?_
                refine sm_sub [1, 2, 4, 5, 0] rfl ?_
                exact h
              · replace h := h.2 hc
                refine sm_iload_n (Y := mX11_terms) (pc := 53) 3 2 rfl rfl dX11_terms_53 ?_
                refine sm_ineg (Y := mX11_terms) (pc := 54) dX11_terms_54 ?_
                refine sm_iload (Y := mX11_terms) (pc := 55) 0 5 rfl dX11_terms_55 ?_
                obtain ⟨hn_21, h⟩ := h
                refine sm_idiv (Y := mX11_terms) (pc := 57) hn_21 dX11_terms_57 ?_
                refine sm_goto (Y := mX11_terms) (pc := 58) 65 (by decide) dX11_terms_58 ?_
                refine sm_sub [1, 2, 4, 5, 0] rfl ?_
                exact h
            · replace h := h.2 hc
              refine sm_aload_n (Y := mX11_terms) (pc := 36) 0 0 rfl rfl dX11_terms_36 ?_
              refine sm_iconst (Y := mX11_terms) (pc := 37) 1 (by decide) dX11_terms_37 ?_
              refine sm_iv_I (Y := mX11_terms) (pc := 38) (As := [.int 1]) (a := 0) fX11_error wRX11_103 (lk_0 hly) (by decide) rfl rfl rfl (Nat.le_trans (by decide) hd) (Nat.le_of_ble_eq_true rfl) ⟨Nat.le_refl _, Nat.le_refl _⟩ dX11_terms_38 rfl (sm_monoI h (fun r_23 m_22 h => ?_))
              exact sm_iret (Y := mX11_terms) (pc := 41) rfl rfl rfl dX11_terms_41 ⟨_, rfl, h⟩
abbrev mX11_value : sm_Y := (yX11_value, cX11_value, 5, (some FieldType.long))
theorem fX11_value : sm_mi mX11_value RX11 3 := ⟨sm_in 1102 (by decide +kernel) (by decide +kernel), sm_in 1100 (by decide +kernel) (by decide +kernel), sm_in 1101 (by decide +kernel) (by decide +kernel), sm_in 82 (by decide +kernel) (by decide +kernel), rfl, ⟨by decide +kernel, by decide +kernel, by decide +kernel⟩, by decide⟩
def gX11_value_68 (E : sm_E) (L : sm_S → Prop) (d : Nat) (vs : List Value) (x3 : Int32) (a4 : Nat) (b0 : Nat) (s1 : Int32) (m : sm_M) (Q : Int64 → sm_M → Prop) : Prop := sm_go E L mX11_value d 0 0 vs 68 [(0, .ref (sm_B E + 0)), (3, .int x3), (4, .ref (sm_B E + a4))] [.int s1, .ref (sm_B E + b0)] m 0 0 (sm_Z E L vs 0 0 (sm_QJ Q))
theorem wRX11_357 : Cond.methodLink RX11 357 yX7_workOut ∈ sm_T := sm_in 1103 (by decide +kernel) (by decide +kernel)
theorem dX11_value_68 : decode cX11_value 68 = .ok (.invokevirtual 357, 3) := dk_invokevirtual 357 (b1 := 1) (b2 := 101) (by decide +kernel) (by decide +kernel) (by decide +kernel) (by decide +kernel)
theorem dX11_value_71 : decode cX11_value 71 = .ok (.ifCond .ne 10, 3) := dk_ifCond_ne 10 (b1 := 0) (b2 := 10) (by decide +kernel) (by decide +kernel) (by decide +kernel) (by decide +kernel)
theorem dX11_value_81 : decode cX11_value 81 = .ok (.iload_n 3, 1) := dk_iload_n_3 (by decide +kernel)
theorem dX11_value_82 : decode cX11_value 82 = .ok (.ifCond .ne 11, 3) := dk_ifCond_ne 11 (b1 := 0) (b2 := 11) (by decide +kernel) (by decide +kernel) (by decide +kernel) (by decide +kernel)
theorem dX11_value_93 : decode cX11_value 93 = .ok (.aload 4, 2) := dk_aload 4 (b := 4) (by decide +kernel) (by decide +kernel) (by decide +kernel)
theorem dX11_value_95 : decode cX11_value 95 = .ok (.getfield 363, 3) := dk_getfield 363 (b1 := 1) (b2 := 107) (by decide +kernel) (by decide +kernel) (by decide +kernel) (by decide +kernel)
theorem dX11_value_98 : decode cX11_value 98 = .ok (.lreturn, 1) := dk_lreturn (by decide +kernel)
theorem dX11_value_85 : decode cX11_value 85 = .ok (.aload 4, 2) := dk_aload 4 (b := 4) (by decide +kernel) (by decide +kernel) (by decide +kernel)
theorem dX11_value_87 : decode cX11_value 87 = .ok (.getfield 360, 3) := dk_getfield 360 (b1 := 1) (b2 := 104) (by decide +kernel) (by decide +kernel) (by decide +kernel) (by decide +kernel)
theorem dX11_value_90 : decode cX11_value 90 = .ok (.goto 8, 3) := dk_goto 8 (b1 := 0) (b2 := 8) (by decide +kernel) (by decide +kernel) (by decide +kernel) (by decide +kernel)
theorem dX11_value_74 : decode cX11_value 74 = .ok (.aload_n 0, 1) := dk_aload_n_0 (by decide +kernel)
theorem dX11_value_75 : decode cX11_value 75 = .ok (.bipush 6, 2) := dk_bipush 6 (b := 6) (by decide +kernel) (by decide +kernel) (by decide +kernel)
theorem dX11_value_77 : decode cX11_value 77 = .ok (.invokevirtual 337, 3) := dk_invokevirtual 337 (b1 := 1) (b2 := 81) (by decide +kernel) (by decide +kernel) (by decide +kernel) (by decide +kernel)
theorem dX11_value_80 : decode cX11_value 80 = .ok (.lreturn, 1) := dk_lreturn (by decide +kernel)
set_option maxRecDepth 20000 in
theorem vX11_value_68 {E : sm_E} {L : sm_S → Prop} {d : Nat} {vs : List Value} {x3 : Int32} {a4 : Nat} {b0 : Nat} {s1 : Int32}  {m : sm_M} {Q : Int64 → sm_M → Prop} (hly : ∀ S, L S → ly S) (hd : 3 ≤ d) (hTa4 : sm_she L a4) (hTb0 : sm_she L b0)
  (h : sm_callI E L mX7_workOut 2 0 0 [.ref (sm_B E + b0), .int s1] m (fun r_2 m_1 =>
   (¬ r_2 = 0 →
      (¬ x3 = 0 →
         Q (m_1.2.1 a4 4) m_1) ∧
      (x3 = 0 →
         Q (m_1.2.1 a4 3) m_1)) ∧
   (r_2 = 0 →
      sm_callJ E L mX11_longError 1 0 0 [.ref (sm_B E + 0), .int 6] m_1 (fun r_4 m_3 =>
      Q r_4 m_3)))) :
  gX11_value_68 E L d vs x3 a4 b0 s1 m Q := by
  refine sm_iv_I (Y := mX11_value) (pc := 68) (As := [.int s1]) (a := b0) fX7_workOut wRX11_357 (fun S hS => (hTb0 S hS).1) (by decide) rfl rfl rfl (Nat.le_trans (by decide) hd) (Nat.le_of_ble_eq_true rfl) ⟨Nat.le_refl _, Nat.le_refl _⟩ dX11_value_68 rfl (sm_monoI h (fun r_2 m_1 h => ?_))
  refine sm_if_ne (Y := mX11_value) (pc := 71) 81 (by decide) dX11_value_71 (fun hc => ?_) (fun hc => ?_)
  · replace h := h.1 hc
    refine sm_iload_n (Y := mX11_value) (pc := 81) 1 3 rfl rfl dX11_value_81 ?_
    refine sm_if_ne (Y := mX11_value) (pc := 82) 93 (by decide) dX11_value_82 (fun hc => ?_) (fun hc => ?_)
    · replace h := h.1 hc
      refine sm_aload (Y := mX11_value) (pc := 93) 2 4 rfl dX11_value_93 ?_
      refine gf_RX11_363 (Y := mX11_value) (pc := 95) rfl ((fun S hS => (hTa4 S hS).1) _) dX11_value_95 ?_
      exact sm_lret (Y := mX11_value) (pc := 98) rfl rfl rfl dX11_value_98 ⟨_, rfl, h⟩
    · replace h := h.2 hc
      refine sm_aload (Y := mX11_value) (pc := 85) 2 4 rfl dX11_value_85 ?_
      refine gf_RX11_360 (Y := mX11_value) (pc := 87) rfl ((fun S hS => (hTa4 S hS).1) _) dX11_value_87 ?_
      refine sm_goto (Y := mX11_value) (pc := 90) 98 (by decide) dX11_value_90 ?_
      exact sm_lret (Y := mX11_value) (pc := 98) rfl rfl rfl dX11_value_98 ⟨_, rfl, h⟩
  · replace h := h.2 hc
    refine sm_aload_n (Y := mX11_value) (pc := 74) 0 0 rfl rfl dX11_value_74 ?_
    refine sm_bipush (Y := mX11_value) (pc := 75) 6 (by decide) dX11_value_75 ?_
    refine sm_iv_J (Y := mX11_value) (pc := 77) (As := [.int 6]) (a := 0) fX11_longError wRX11_337 (lk_0 hly) (by decide) rfl rfl rfl (Nat.le_trans (by decide) hd) (Nat.le_of_ble_eq_true rfl) ⟨Nat.le_refl _, Nat.le_refl _⟩ dX11_value_77 rfl (sm_monoJ h (fun r_4 m_3 h => ?_))
    exact sm_lret (Y := mX11_value) (pc := 80) rfl rfl rfl dX11_value_80 ⟨_, rfl, h⟩
theorem dX11_value_0 : decode cX11_value 0 = .ok (.iload_n 1, 1) := dk_iload_n_1 (by decide +kernel)
theorem dX11_value_1 : decode cX11_value 1 = .ok (.invokestatic 254, 3) := dk_invokestatic 254 (b1 := 0) (b2 := 254) (by decide +kernel) (by decide +kernel) (by decide +kernel) (by decide +kernel)
theorem dX11_value_4 : decode cX11_value 4 = .ok (.ifCond .eq 17, 3) := dk_ifCond_eq 17 (b1 := 0) (b2 := 17) (by decide +kernel) (by decide +kernel) (by decide +kernel) (by decide +kernel)
theorem dX11_value_21 : decode cX11_value 21 = .ok (.aload_n 0, 1) := dk_aload_n_0 (by decide +kernel)
theorem dX11_value_22 : decode cX11_value 22 = .ok (.iconst 1, 1) := dk_iconst_1 (by decide +kernel)
theorem dX11_value_23 : decode cX11_value 23 = .ok (.invokevirtual 337, 3) := dk_invokevirtual 337 (b1 := 1) (b2 := 81) (by decide +kernel) (by decide +kernel) (by decide +kernel) (by decide +kernel)
theorem dX11_value_26 : decode cX11_value 26 = .ok (.lreturn, 1) := dk_lreturn (by decide +kernel)
theorem dX11_value_7 : decode cX11_value 7 = .ok (.iload_n 2, 1) := dk_iload_n_2 (by decide +kernel)
theorem dX11_value_8 : decode cX11_value 8 = .ok (.invokestatic 148, 3) := dk_invokestatic 148 (b1 := 0) (b2 := 148) (by decide +kernel) (by decide +kernel) (by decide +kernel) (by decide +kernel)
theorem dX11_value_11 : decode cX11_value 11 = .ok (.ifCond .eq 10, 3) := dk_ifCond_eq 10 (b1 := 0) (b2 := 10) (by decide +kernel) (by decide +kernel) (by decide +kernel) (by decide +kernel)
theorem dX11_value_14 : decode cX11_value 14 = .ok (.iload_n 3, 1) := dk_iload_n_3 (by decide +kernel)
theorem dX11_value_15 : decode cX11_value 15 = .ok (.invokestatic 148, 3) := dk_invokestatic 148 (b1 := 0) (b2 := 148) (by decide +kernel) (by decide +kernel) (by decide +kernel) (by decide +kernel)
theorem dX11_value_18 : decode cX11_value 18 = .ok (.ifCond .ne 9, 3) := dk_ifCond_ne 9 (b1 := 0) (b2 := 9) (by decide +kernel) (by decide +kernel) (by decide +kernel) (by decide +kernel)
theorem dX11_value_27 : decode cX11_value 27 = .ok (.aload_n 0, 1) := dk_aload_n_0 (by decide +kernel)
theorem dX11_value_28 : decode cX11_value 28 = .ok (.getfield 76, 3) := dk_getfield 76 (b1 := 0) (b2 := 76) (by decide +kernel) (by decide +kernel) (by decide +kernel) (by decide +kernel)
theorem dX11_value_31 : decode cX11_value 31 = .ok (.iload_n 1, 1) := dk_iload_n_1 (by decide +kernel)
theorem dX11_value_32 : decode cX11_value 32 = .ok (.aaload, 1) := dk_aaload (by decide +kernel)
theorem dX11_value_33 : decode cX11_value 33 = .ok (.astore 4, 2) := dk_astore 4 (b := 4) (by decide +kernel) (by decide +kernel) (by decide +kernel)
theorem dX11_value_35 : decode cX11_value 35 = .ok (.aload 4, 2) := dk_aload 4 (b := 4) (by decide +kernel) (by decide +kernel) (by decide +kernel)
theorem dX11_value_37 : decode cX11_value 37 = .ok (.invokevirtual 334, 3) := dk_invokevirtual 334 (b1 := 1) (b2 := 78) (by decide +kernel) (by decide +kernel) (by decide +kernel) (by decide +kernel)
theorem dX11_value_40 : decode cX11_value 40 = .ok (.ifCond .ne 11, 3) := dk_ifCond_ne 11 (b1 := 0) (b2 := 11) (by decide +kernel) (by decide +kernel) (by decide +kernel) (by decide +kernel)
theorem dX11_value_51 : decode cX11_value 51 = .ok (.aload_n 0, 1) := dk_aload_n_0 (by decide +kernel)
theorem dX11_value_52 : decode cX11_value 52 = .ok (.iconst 2, 1) := dk_iconst_2 (by decide +kernel)
theorem dX11_value_53 : decode cX11_value 53 = .ok (.invokevirtual 337, 3) := dk_invokevirtual 337 (b1 := 1) (b2 := 81) (by decide +kernel) (by decide +kernel) (by decide +kernel) (by decide +kernel)
theorem dX11_value_56 : decode cX11_value 56 = .ok (.lreturn, 1) := dk_lreturn (by decide +kernel)
theorem dX11_value_43 : decode cX11_value 43 = .ok (.aload 4, 2) := dk_aload 4 (b := 4) (by decide +kernel) (by decide +kernel) (by decide +kernel)
theorem dX11_value_45 : decode cX11_value 45 = .ok (.getfield 199, 3) := dk_getfield 199 (b1 := 0) (b2 := 199) (by decide +kernel) (by decide +kernel) (by decide +kernel) (by decide +kernel)
theorem dX11_value_48 : decode cX11_value 48 = .ok (.ifCond .ne 9, 3) := dk_ifCond_ne 9 (b1 := 0) (b2 := 9) (by decide +kernel) (by decide +kernel) (by decide +kernel) (by decide +kernel)
theorem dX11_value_57 : decode cX11_value 57 = .ok (.aload 4, 2) := dk_aload 4 (b := 4) (by decide +kernel) (by decide +kernel) (by decide +kernel)
theorem dX11_value_59 : decode cX11_value 59 = .ok (.iload_n 2, 1) := dk_iload_n_2 (by decide +kernel)
theorem dX11_value_60 : decode cX11_value 60 = .ok (.ifCond .ne 7, 3) := dk_ifCond_ne 7 (b1 := 0) (b2 := 7) (by decide +kernel) (by decide +kernel) (by decide +kernel) (by decide +kernel)
theorem dX11_value_67 : decode cX11_value 67 = .ok (.iconst (-1), 1) := dk_iconst_m1 (by decide +kernel)
theorem dX11_value_63 : decode cX11_value 63 = .ok (.iconst 1, 1) := dk_iconst_1 (by decide +kernel)
theorem dX11_value_64 : decode cX11_value 64 = .ok (.goto 4, 3) := dk_goto 4 (b1 := 0) (b2 := 4) (by decide +kernel) (by decide +kernel) (by decide +kernel) (by decide +kernel)
set_option maxRecDepth 20000 in
theorem vX11_value_0 {E : sm_E} {L : sm_S → Prop} {d : Nat} {x1 : Int32} {x2 : Int32} {x3 : Int32}  {m : sm_M} {Q : Int64 → sm_M → Prop} (hly : ∀ S, L S → ly S) (hd : 3 ≤ d) 
  (h : sm_callI E L mX11_isSheet 1 0 0 [.int x1] m (fun r_2 m_1 =>
   (r_2 = 0 →
      sm_callJ E L mX11_longError 1 0 0 [.ref (sm_B E + 0), .int 1] m_1 (fun r_4 m_3 =>
      Q r_4 m_3)) ∧
   (¬ r_2 = 0 →
      sm_callI E L mX11_isChoice 1 0 0 [.int x2] m_1 (fun r_6 m_5 =>
      (r_6 = 0 →
         sm_callJ E L mX11_longError 1 0 0 [.ref (sm_B E + 0), .int 1] m_5 (fun r_8 m_7 =>
         Q r_8 m_7)) ∧
      (¬ r_6 = 0 →
         sm_callI E L mX11_isChoice 1 0 0 [.int x3] m_5 (fun r_10 m_9 =>
         (¬ r_10 = 0 →
            (vp_in x1 4) ∧ sm_callI E L mX7_isMissing 1 0 0 [.ref (sm_B E + (101 + 2 * x1.toNatClampNeg))] m_9 (fun r_13 m_12 =>
            (¬ r_13 = 0 →
               sm_callJ E L mX11_longError 1 0 0 [.ref (sm_B E + 0), .int 2] m_12 (fun r_15 m_14 =>
               Q r_15 m_14)) ∧
            (r_13 = 0 →
               (¬ (m_12.1 (101 + 2 * x1.toNatClampNeg) 2) = 0 →
                  (¬ x2 = 0 →
                     gX11_value_68 E L d ([.ref (sm_B E + 0), .int x1, .int x2, .int x3]) x3 (101 + 2 * x1.toNatClampNeg) (101 + 2 * x1.toNatClampNeg) (-1) m_12 Q) ∧
                  (x2 = 0 →
                     gX11_value_68 E L d ([.ref (sm_B E + 0), .int x1, .int x2, .int x3]) x3 (101 + 2 * x1.toNatClampNeg) (101 + 2 * x1.toNatClampNeg) 1 m_12 Q)) ∧
               ((m_12.1 (101 + 2 * x1.toNatClampNeg) 2) = 0 →
                  sm_callJ E L mX11_longError 1 0 0 [.ref (sm_B E + 0), .int 2] m_12 (fun r_17 m_16 =>
                  Q r_17 m_16))))) ∧
         (r_10 = 0 →
            sm_callJ E L mX11_longError 1 0 0 [.ref (sm_B E + 0), .int 1] m_9 (fun r_19 m_18 =>
            Q r_19 m_18)))))))) :
  sm_callJ E L mX11_value d 0 0 [.ref (sm_B E + 0), .int x1, .int x2, .int x3] m Q := by
  refine sm_enter (by decide +kernel) (by simp [lg_sl, Value.category]) ?_
  refine sm_iload_n (Y := mX11_value) (pc := 0) 1 1 rfl rfl dX11_value_0 ?_
  refine sm_is_I (Y := mX11_value) (pc := 1) (As := [.int x1]) fX11_isSheet wRX11_254 rfl (Nat.le_trans (by decide) hd) (Nat.le_of_ble_eq_true rfl) ⟨Nat.le_refl _, Nat.le_refl _⟩ dX11_value_1 rfl (sm_monoI h (fun r_2 m_1 h => ?_))
  refine sm_if_eq (Y := mX11_value) (pc := 4) 21 (by decide) dX11_value_4 (fun hc => ?_) (fun hc => ?_)
  · replace h := h.1 hc
    refine sm_aload_n (Y := mX11_value) (pc := 21) 0 0 rfl rfl dX11_value_21 ?_
    refine sm_iconst (Y := mX11_value) (pc := 22) 1 (by decide) dX11_value_22 ?_
    refine sm_iv_J (Y := mX11_value) (pc := 23) (As := [.int 1]) (a := 0) fX11_longError wRX11_337 (lk_0 hly) (by decide) rfl rfl rfl (Nat.le_trans (by decide) hd) (Nat.le_of_ble_eq_true rfl) ⟨Nat.le_refl _, Nat.le_refl _⟩ dX11_value_23 rfl (sm_monoJ h (fun r_4 m_3 h => ?_))
    exact sm_lret (Y := mX11_value) (pc := 26) rfl rfl rfl dX11_value_26 ⟨_, rfl, h⟩
  · replace h := h.2 hc
    refine sm_iload_n (Y := mX11_value) (pc := 7) 2 2 rfl rfl dX11_value_7 ?_
    refine sm_is_I (Y := mX11_value) (pc := 8) (As := [.int x2]) fX11_isChoice wRX11_148 rfl (Nat.le_trans (by decide) hd) (Nat.le_of_ble_eq_true rfl) ⟨Nat.le_refl _, Nat.le_refl _⟩ dX11_value_8 rfl (sm_monoI h (fun r_6 m_5 h => ?_))
    refine sm_if_eq (Y := mX11_value) (pc := 11) 21 (by decide) dX11_value_11 (fun hc => ?_) (fun hc => ?_)
    · replace h := h.1 hc
      refine sm_aload_n (Y := mX11_value) (pc := 21) 0 0 rfl rfl dX11_value_21 ?_
      refine sm_iconst (Y := mX11_value) (pc := 22) 1 (by decide) dX11_value_22 ?_
      refine sm_iv_J (Y := mX11_value) (pc := 23) (As := [.int 1]) (a := 0) fX11_longError wRX11_337 (lk_0 hly) (by decide) rfl rfl rfl (Nat.le_trans (by decide) hd) (Nat.le_of_ble_eq_true rfl) ⟨Nat.le_refl _, Nat.le_refl _⟩ dX11_value_23 rfl (sm_monoJ h (fun r_8 m_7 h => ?_))
      exact sm_lret (Y := mX11_value) (pc := 26) rfl rfl rfl dX11_value_26 ⟨_, rfl, h⟩
    · replace h := h.2 hc
      refine sm_iload_n (Y := mX11_value) (pc := 14) 3 3 rfl rfl dX11_value_14 ?_
      refine sm_is_I (Y := mX11_value) (pc := 15) (As := [.int x3]) fX11_isChoice wRX11_148 rfl (Nat.le_trans (by decide) hd) (Nat.le_of_ble_eq_true rfl) ⟨Nat.le_refl _, Nat.le_refl _⟩ dX11_value_15 rfl (sm_monoI h (fun r_10 m_9 h => ?_))
      refine sm_if_ne (Y := mX11_value) (pc := 18) 27 (by decide) dX11_value_18 (fun hc => ?_) (fun hc => ?_)
      · replace h := h.1 hc
        refine sm_aload_n (Y := mX11_value) (pc := 27) 0 0 rfl rfl dX11_value_27 ?_
        refine gf_RX11_76 (Y := mX11_value) (pc := 28) (b := 73) rfl ((lk_0 hly) _) (lf_0_10 hly _) dX11_value_28 ?_
        refine sm_iload_n (Y := mX11_value) (pc := 31) 1 1 rfl rfl dX11_value_31 ?_
        obtain ⟨hn_11, h⟩ := h
        refine sm_aaldS (Y := mX11_value) (pc := 32) (b := (101 + 2 * x1.toNatClampNeg)) (la_73 hly _) hn_11 (ly_sheetR hly (sm_inlt hn_11) _) dX11_value_32 ?_
        refine sm_astore (Y := mX11_value) (pc := 33) [(4, .ref (sm_B E + (101 + 2 * x1.toNatClampNeg))), (0, .ref (sm_B E + 0)), (1, .int x1), (2, .int x2), (3, .int x3)] 4 (by decide) rfl dX11_value_33 ?_
        refine sm_aload (Y := mX11_value) (pc := 35) 0 4 rfl dX11_value_35 ?_
        refine sm_iv_I (Y := mX11_value) (pc := 37) (As := []) (a := (101 + 2 * x1.toNatClampNeg)) fX7_isMissing wRX11_334 (fun S hS => ((ly_sheetT hly (sm_inlt hn_11)) S hS).1) (by decide) rfl rfl rfl (Nat.le_trans (by decide) hd) (Nat.le_of_ble_eq_true rfl) ⟨Nat.le_refl _, Nat.le_refl _⟩ dX11_value_37 rfl (sm_monoI h (fun r_13 m_12 h => ?_))
        refine sm_if_ne (Y := mX11_value) (pc := 40) 51 (by decide) dX11_value_40 (fun hc => ?_) (fun hc => ?_)
        · replace h := h.1 hc
          refine sm_aload_n (Y := mX11_value) (pc := 51) 1 0 rfl rfl dX11_value_51 ?_
          refine sm_iconst (Y := mX11_value) (pc := 52) 2 (by decide) dX11_value_52 ?_
          refine sm_iv_J (Y := mX11_value) (pc := 53) (As := [.int 2]) (a := 0) fX11_longError wRX11_337 (lk_0 hly) (by decide) rfl rfl rfl (Nat.le_trans (by decide) hd) (Nat.le_of_ble_eq_true rfl) ⟨Nat.le_refl _, Nat.le_refl _⟩ dX11_value_53 rfl (sm_monoJ h (fun r_15 m_14 h => ?_))
          exact sm_lret (Y := mX11_value) (pc := 56) rfl rfl rfl dX11_value_56 ⟨_, rfl, h⟩
        · replace h := h.2 hc
          refine sm_aload (Y := mX11_value) (pc := 43) 0 4 rfl dX11_value_43 ?_
          refine gf_RX11_199 (Y := mX11_value) (pc := 45) rfl ((fun S hS => ((ly_sheetT hly (sm_inlt hn_11)) S hS).1) _) dX11_value_45 ?_
          refine sm_if_ne (Y := mX11_value) (pc := 48) 57 (by decide) dX11_value_48 (fun hc => ?_) (fun hc => ?_)
          · replace h := h.1 hc
            refine sm_aload (Y := mX11_value) (pc := 57) 0 4 rfl dX11_value_57 ?_
            refine sm_iload_n (Y := mX11_value) (pc := 59) 3 2 rfl rfl dX11_value_59 ?_
            refine sm_if_ne (Y := mX11_value) (pc := 60) 67 (by decide) dX11_value_60 (fun hc => ?_) (fun hc => ?_)
            · replace h := h.1 hc
              refine sm_iconst (Y := mX11_value) (pc := 67) (-1) (by decide) dX11_value_67 ?_
              refine sm_sub [1, 4, 0] rfl ?_
              exact h
            · replace h := h.2 hc
              refine sm_iconst (Y := mX11_value) (pc := 63) 1 (by decide) dX11_value_63 ?_
              refine sm_goto (Y := mX11_value) (pc := 64) 68 (by decide) dX11_value_64 ?_
              refine sm_sub [1, 4, 0] rfl ?_
              exact h
          · replace h := h.2 hc
            refine sm_aload_n (Y := mX11_value) (pc := 51) 1 0 rfl rfl dX11_value_51 ?_
            refine sm_iconst (Y := mX11_value) (pc := 52) 2 (by decide) dX11_value_52 ?_
            refine sm_iv_J (Y := mX11_value) (pc := 53) (As := [.int 2]) (a := 0) fX11_longError wRX11_337 (lk_0 hly) (by decide) rfl rfl rfl (Nat.le_trans (by decide) hd) (Nat.le_of_ble_eq_true rfl) ⟨Nat.le_refl _, Nat.le_refl _⟩ dX11_value_53 rfl (sm_monoJ h (fun r_17 m_16 h => ?_))
            exact sm_lret (Y := mX11_value) (pc := 56) rfl rfl rfl dX11_value_56 ⟨_, rfl, h⟩
      · replace h := h.2 hc
        refine sm_aload_n (Y := mX11_value) (pc := 21) 0 0 rfl rfl dX11_value_21 ?_
        refine sm_iconst (Y := mX11_value) (pc := 22) 1 (by decide) dX11_value_22 ?_
        refine sm_iv_J (Y := mX11_value) (pc := 23) (As := [.int 1]) (a := 0) fX11_longError wRX11_337 (lk_0 hly) (by decide) rfl rfl rfl (Nat.le_trans (by decide) hd) (Nat.le_of_ble_eq_true rfl) ⟨Nat.le_refl _, Nat.le_refl _⟩ dX11_value_23 rfl (sm_monoJ h (fun r_19 m_18 h => ?_))
        exact sm_lret (Y := mX11_value) (pc := 26) rfl rfl rfl dX11_value_26 ⟨_, rfl, h⟩
abbrev mX11_judge : sm_Y := (yX11_judge, cX11_judge, 5, (some FieldType.int))
theorem fX11_judge : sm_mi mX11_judge RX11 2 := ⟨sm_in 1115 (by decide +kernel) (by decide +kernel), sm_in 1113 (by decide +kernel) (by decide +kernel), sm_in 1114 (by decide +kernel) (by decide +kernel), sm_in 82 (by decide +kernel) (by decide +kernel), rfl, ⟨by decide +kernel, by decide +kernel, by decide +kernel⟩, by decide⟩
theorem dX11_judge_0 : decode cX11_judge 0 = .ok (.iload_n 1, 1) := dk_iload_n_1 (by decide +kernel)
theorem dX11_judge_1 : decode cX11_judge 1 = .ok (.invokestatic 254, 3) := dk_invokestatic 254 (b1 := 0) (b2 := 254) (by decide +kernel) (by decide +kernel) (by decide +kernel) (by decide +kernel)
theorem dX11_judge_4 : decode cX11_judge 4 = .ok (.ifCond .eq 10, 3) := dk_ifCond_eq 10 (b1 := 0) (b2 := 10) (by decide +kernel) (by decide +kernel) (by decide +kernel) (by decide +kernel)
theorem dX11_judge_14 : decode cX11_judge 14 = .ok (.aload_n 0, 1) := dk_aload_n_0 (by decide +kernel)
theorem dX11_judge_15 : decode cX11_judge 15 = .ok (.iconst 1, 1) := dk_iconst_1 (by decide +kernel)
theorem dX11_judge_16 : decode cX11_judge 16 = .ok (.invokevirtual 103, 3) := dk_invokevirtual 103 (b1 := 0) (b2 := 103) (by decide +kernel) (by decide +kernel) (by decide +kernel) (by decide +kernel)
theorem dX11_judge_19 : decode cX11_judge 19 = .ok (.ireturn, 1) := dk_ireturn (by decide +kernel)
theorem dX11_judge_7 : decode cX11_judge 7 = .ok (.iload_n 2, 1) := dk_iload_n_2 (by decide +kernel)
theorem dX11_judge_8 : decode cX11_judge 8 = .ok (.invokestatic 99, 3) := dk_invokestatic 99 (b1 := 0) (b2 := 99) (by decide +kernel) (by decide +kernel) (by decide +kernel) (by decide +kernel)
theorem dX11_judge_11 : decode cX11_judge 11 = .ok (.ifCond .ne 9, 3) := dk_ifCond_ne 9 (b1 := 0) (b2 := 9) (by decide +kernel) (by decide +kernel) (by decide +kernel) (by decide +kernel)
theorem dX11_judge_20 : decode cX11_judge 20 = .ok (.aload_n 0, 1) := dk_aload_n_0 (by decide +kernel)
theorem dX11_judge_21 : decode cX11_judge 21 = .ok (.getfield 76, 3) := dk_getfield 76 (b1 := 0) (b2 := 76) (by decide +kernel) (by decide +kernel) (by decide +kernel) (by decide +kernel)
theorem dX11_judge_24 : decode cX11_judge 24 = .ok (.iload_n 1, 1) := dk_iload_n_1 (by decide +kernel)
theorem dX11_judge_25 : decode cX11_judge 25 = .ok (.aaload, 1) := dk_aaload (by decide +kernel)
theorem dX11_judge_26 : decode cX11_judge 26 = .ok (.astore_n 3, 1) := dk_astore_n_3 (by decide +kernel)
theorem dX11_judge_27 : decode cX11_judge 27 = .ok (.aload_n 0, 1) := dk_aload_n_0 (by decide +kernel)
theorem dX11_judge_28 : decode cX11_judge 28 = .ok (.getfield 11, 3) := dk_getfield 11 (b1 := 0) (b2 := 11) (by decide +kernel) (by decide +kernel) (by decide +kernel) (by decide +kernel)
theorem dX11_judge_31 : decode cX11_judge 31 = .ok (.iload_n 2, 1) := dk_iload_n_2 (by decide +kernel)
theorem dX11_judge_32 : decode cX11_judge 32 = .ok (.aaload, 1) := dk_aaload (by decide +kernel)
theorem dX11_judge_33 : decode cX11_judge 33 = .ok (.astore 4, 2) := dk_astore 4 (b := 4) (by decide +kernel) (by decide +kernel) (by decide +kernel)
theorem dX11_judge_35 : decode cX11_judge 35 = .ok (.aload_n 3, 1) := dk_aload_n_3 (by decide +kernel)
theorem dX11_judge_36 : decode cX11_judge 36 = .ok (.invokevirtual 334, 3) := dk_invokevirtual 334 (b1 := 1) (b2 := 78) (by decide +kernel) (by decide +kernel) (by decide +kernel) (by decide +kernel)
theorem dX11_judge_39 : decode cX11_judge 39 = .ok (.ifCond .ne 11, 3) := dk_ifCond_ne 11 (b1 := 0) (b2 := 11) (by decide +kernel) (by decide +kernel) (by decide +kernel) (by decide +kernel)
theorem dX11_judge_50 : decode cX11_judge 50 = .ok (.aload_n 0, 1) := dk_aload_n_0 (by decide +kernel)
theorem dX11_judge_51 : decode cX11_judge 51 = .ok (.iconst 2, 1) := dk_iconst_2 (by decide +kernel)
theorem dX11_judge_52 : decode cX11_judge 52 = .ok (.invokevirtual 103, 3) := dk_invokevirtual 103 (b1 := 0) (b2 := 103) (by decide +kernel) (by decide +kernel) (by decide +kernel) (by decide +kernel)
theorem dX11_judge_55 : decode cX11_judge 55 = .ok (.ireturn, 1) := dk_ireturn (by decide +kernel)
theorem dX11_judge_42 : decode cX11_judge 42 = .ok (.aload 4, 2) := dk_aload 4 (b := 4) (by decide +kernel) (by decide +kernel) (by decide +kernel)
theorem dX11_judge_44 : decode cX11_judge 44 = .ok (.getfield 107, 3) := dk_getfield 107 (b1 := 0) (b2 := 107) (by decide +kernel) (by decide +kernel) (by decide +kernel) (by decide +kernel)
theorem dX11_judge_47 : decode cX11_judge 47 = .ok (.ifCond .ne 9, 3) := dk_ifCond_ne 9 (b1 := 0) (b2 := 9) (by decide +kernel) (by decide +kernel) (by decide +kernel) (by decide +kernel)
theorem dX11_judge_56 : decode cX11_judge 56 = .ok (.aload_n 0, 1) := dk_aload_n_0 (by decide +kernel)
theorem dX11_judge_57 : decode cX11_judge 57 = .ok (.getfield 81, 3) := dk_getfield 81 (b1 := 0) (b2 := 81) (by decide +kernel) (by decide +kernel) (by decide +kernel) (by decide +kernel)
theorem dX11_judge_60 : decode cX11_judge 60 = .ok (.aload 4, 2) := dk_aload 4 (b := 4) (by decide +kernel) (by decide +kernel) (by decide +kernel)
theorem dX11_judge_62 : decode cX11_judge 62 = .ok (.getfield 132, 3) := dk_getfield 132 (b1 := 0) (b2 := 132) (by decide +kernel) (by decide +kernel) (by decide +kernel) (by decide +kernel)
theorem dX11_judge_65 : decode cX11_judge 65 = .ok (.aload 4, 2) := dk_aload 4 (b := 4) (by decide +kernel) (by decide +kernel) (by decide +kernel)
theorem dX11_judge_67 : decode cX11_judge 67 = .ok (.getfield 135, 3) := dk_getfield 135 (b1 := 0) (b2 := 135) (by decide +kernel) (by decide +kernel) (by decide +kernel) (by decide +kernel)
theorem dX11_judge_70 : decode cX11_judge 70 = .ok (.iconst 3, 1) := dk_iconst_3 (by decide +kernel)
theorem dX11_judge_71 : decode cX11_judge 71 = .ok (.invokevirtual 196, 3) := dk_invokevirtual 196 (b1 := 0) (b2 := 196) (by decide +kernel) (by decide +kernel) (by decide +kernel) (by decide +kernel)
theorem dX11_judge_74 : decode cX11_judge 74 = .ok (.pop, 1) := dk_pop (by decide +kernel)
theorem dX11_judge_75 : decode cX11_judge 75 = .ok (.aload_n 3, 1) := dk_aload_n_3 (by decide +kernel)
theorem dX11_judge_76 : decode cX11_judge 76 = .ok (.aload_n 0, 1) := dk_aload_n_0 (by decide +kernel)
theorem dX11_judge_77 : decode cX11_judge 77 = .ok (.getfield 81, 3) := dk_getfield 81 (b1 := 0) (b2 := 81) (by decide +kernel) (by decide +kernel) (by decide +kernel) (by decide +kernel)
theorem wRX11_365 : Cond.methodLink RX11 365 yX7_firstUnlike ∈ sm_T := sm_in 1116 (by decide +kernel) (by decide +kernel)
theorem dX11_judge_80 : decode cX11_judge 80 = .ok (.invokevirtual 365, 3) := dk_invokevirtual 365 (b1 := 1) (b2 := 109) (by decide +kernel) (by decide +kernel) (by decide +kernel) (by decide +kernel)
theorem dX11_judge_83 : decode cX11_judge 83 = .ok (.ireturn, 1) := dk_ireturn (by decide +kernel)
set_option maxRecDepth 20000 in
theorem vX11_judge_0 {E : sm_E} {L : sm_S → Prop} {d : Nat} {x1 : Int32} {x2 : Int32}  {m : sm_M} {Q : Int32 → sm_M → Prop} (hly : ∀ S, L S → ly S) (hd : 4 ≤ d) 
  (h : sm_callI E L mX11_isSheet 1 0 0 [.int x1] m (fun r_2 m_1 =>
   (r_2 = 0 →
      sm_callI E L mX11_error 1 0 0 [.ref (sm_B E + 0), .int 1] m_1 (fun r_4 m_3 =>
      Q r_4 m_3)) ∧
   (¬ r_2 = 0 →
      sm_callI E L mX11_isSlot 1 0 0 [.int x2] m_1 (fun r_6 m_5 =>
      (¬ r_6 = 0 →
         (vp_in x1 4) ∧ (vp_in x2 6) ∧ sm_callI E L mX7_isMissing 1 0 0 [.ref (sm_B E + (101 + 2 * x1.toNatClampNeg))] m_5 (fun r_10 m_9 =>
         (¬ r_10 = 0 →
            sm_callI E L mX11_error 1 0 0 [.ref (sm_B E + 0), .int 2] m_9 (fun r_12 m_11 =>
            Q r_12 m_11)) ∧
         (r_10 = 0 →
            (¬ (m_9.1 (77 + 4 * x2.toNatClampNeg) 8) = 0 →
               sm_callI E L mX7_expand 3 0 0 [.ref (sm_B E + 74), .int (m_9.1 (77 + 4 * x2.toNatClampNeg) 9), .int (m_9.1 (77 + 4 * x2.toNatClampNeg) 10), .int 3] m_9 (fun r_14 m_13 =>
               sm_callI E L mX7_firstUnlike 2 0 0 [.ref (sm_B E + (101 + 2 * x1.toNatClampNeg)), .ref (sm_B E + 74)] m_13 (fun r_16 m_15 =>
               Q r_16 m_15))) ∧
            ((m_9.1 (77 + 4 * x2.toNatClampNeg) 8) = 0 →
               sm_callI E L mX11_error 1 0 0 [.ref (sm_B E + 0), .int 2] m_9 (fun r_18 m_17 =>
               Q r_18 m_17))))) ∧
      (r_6 = 0 →
         sm_callI E L mX11_error 1 0 0 [.ref (sm_B E + 0), .int 1] m_5 (fun r_20 m_19 =>
         Q r_20 m_19)))))) :
  sm_callI E L mX11_judge d 0 0 [.ref (sm_B E + 0), .int x1, .int x2] m Q := by
  refine sm_enter (by decide +kernel) (by simp [lg_sl, Value.category]) ?_
  refine sm_iload_n (Y := mX11_judge) (pc := 0) 1 1 rfl rfl dX11_judge_0 ?_
  refine sm_is_I (Y := mX11_judge) (pc := 1) (As := [.int x1]) fX11_isSheet wRX11_254 rfl (Nat.le_trans (by decide) hd) (Nat.le_of_ble_eq_true rfl) ⟨Nat.le_refl _, Nat.le_refl _⟩ dX11_judge_1 rfl (sm_monoI h (fun r_2 m_1 h => ?_))
  refine sm_if_eq (Y := mX11_judge) (pc := 4) 14 (by decide) dX11_judge_4 (fun hc => ?_) (fun hc => ?_)
  · replace h := h.1 hc
    refine sm_aload_n (Y := mX11_judge) (pc := 14) 0 0 rfl rfl dX11_judge_14 ?_
    refine sm_iconst (Y := mX11_judge) (pc := 15) 1 (by decide) dX11_judge_15 ?_
    refine sm_iv_I (Y := mX11_judge) (pc := 16) (As := [.int 1]) (a := 0) fX11_error wRX11_103 (lk_0 hly) (by decide) rfl rfl rfl (Nat.le_trans (by decide) hd) (Nat.le_of_ble_eq_true rfl) ⟨Nat.le_refl _, Nat.le_refl _⟩ dX11_judge_16 rfl (sm_monoI h (fun r_4 m_3 h => ?_))
    exact sm_iret (Y := mX11_judge) (pc := 19) rfl rfl rfl dX11_judge_19 ⟨_, rfl, h⟩
  · replace h := h.2 hc
    refine sm_iload_n (Y := mX11_judge) (pc := 7) 2 2 rfl rfl dX11_judge_7 ?_
    refine sm_is_I (Y := mX11_judge) (pc := 8) (As := [.int x2]) fX11_isSlot wRX11_99 rfl (Nat.le_trans (by decide) hd) (Nat.le_of_ble_eq_true rfl) ⟨Nat.le_refl _, Nat.le_refl _⟩ dX11_judge_8 rfl (sm_monoI h (fun r_6 m_5 h => ?_))
    refine sm_if_ne (Y := mX11_judge) (pc := 11) 20 (by decide) dX11_judge_11 (fun hc => ?_) (fun hc => ?_)
    · replace h := h.1 hc
      refine sm_aload_n (Y := mX11_judge) (pc := 20) 0 0 rfl rfl dX11_judge_20 ?_
      refine gf_RX11_76 (Y := mX11_judge) (pc := 21) (b := 73) rfl ((lk_0 hly) _) (lf_0_10 hly _) dX11_judge_21 ?_
      refine sm_iload_n (Y := mX11_judge) (pc := 24) 1 1 rfl rfl dX11_judge_24 ?_
      obtain ⟨hn_7, h⟩ := h
      refine sm_aaldS (Y := mX11_judge) (pc := 25) (b := (101 + 2 * x1.toNatClampNeg)) (la_73 hly _) hn_7 (ly_sheetR hly (sm_inlt hn_7) _) dX11_judge_25 ?_
      refine sm_astore_n (Y := mX11_judge) (pc := 26) [(3, .ref (sm_B E + (101 + 2 * x1.toNatClampNeg))), (0, .ref (sm_B E + 0)), (1, .int x1), (2, .int x2)] 3 rfl (by decide) rfl dX11_judge_26 ?_
      refine sm_aload_n (Y := mX11_judge) (pc := 27) 1 0 rfl rfl dX11_judge_27 ?_
      refine gf_RX11_11 (Y := mX11_judge) (pc := 28) (b := 1) rfl ((lk_0 hly) _) (lf_0_0 hly _) dX11_judge_28 ?_
      refine sm_iload_n (Y := mX11_judge) (pc := 31) 3 2 rfl rfl dX11_judge_31 ?_
      obtain ⟨hn_8, h⟩ := h
      refine sm_aaldG (Y := mX11_judge) (pc := 32) (b := (77 + 4 * x2.toNatClampNeg)) (la_1 hly _) hn_8 (ly_slotR hly (sm_inlt hn_8) _) dX11_judge_32 ?_
      refine sm_astore (Y := mX11_judge) (pc := 33) [(4, .ref (sm_B E + (77 + 4 * x2.toNatClampNeg))), (3, .ref (sm_B E + (101 + 2 * x1.toNatClampNeg))), (0, .ref (sm_B E + 0)), (1, .int x1), (2, .int x2)] 4 (by decide) rfl dX11_judge_33 ?_
      refine sm_aload_n (Y := mX11_judge) (pc := 35) 1 3 rfl rfl dX11_judge_35 ?_
      refine sm_iv_I (Y := mX11_judge) (pc := 36) (As := []) (a := (101 + 2 * x1.toNatClampNeg)) fX7_isMissing wRX11_334 (fun S hS => ((ly_sheetT hly (sm_inlt hn_7)) S hS).1) (by decide) rfl rfl rfl (Nat.le_trans (by decide) hd) (Nat.le_of_ble_eq_true rfl) ⟨Nat.le_refl _, Nat.le_refl _⟩ dX11_judge_36 rfl (sm_monoI h (fun r_10 m_9 h => ?_))
      refine sm_if_ne (Y := mX11_judge) (pc := 39) 50 (by decide) dX11_judge_39 (fun hc => ?_) (fun hc => ?_)
      · replace h := h.1 hc
        refine sm_aload_n (Y := mX11_judge) (pc := 50) 2 0 rfl rfl dX11_judge_50 ?_
        refine sm_iconst (Y := mX11_judge) (pc := 51) 2 (by decide) dX11_judge_51 ?_
        refine sm_iv_I (Y := mX11_judge) (pc := 52) (As := [.int 2]) (a := 0) fX11_error wRX11_103 (lk_0 hly) (by decide) rfl rfl rfl (Nat.le_trans (by decide) hd) (Nat.le_of_ble_eq_true rfl) ⟨Nat.le_refl _, Nat.le_refl _⟩ dX11_judge_52 rfl (sm_monoI h (fun r_12 m_11 h => ?_))
        exact sm_iret (Y := mX11_judge) (pc := 55) rfl rfl rfl dX11_judge_55 ⟨_, rfl, h⟩
      · replace h := h.2 hc
        refine sm_aload (Y := mX11_judge) (pc := 42) 0 4 rfl dX11_judge_42 ?_
        refine gf_RX11_107 (Y := mX11_judge) (pc := 44) rfl ((fun S hS => ((ly_slotT hly (sm_inlt hn_8)) S hS).1) _) dX11_judge_44 ?_
        refine sm_if_ne (Y := mX11_judge) (pc := 47) 56 (by decide) dX11_judge_47 (fun hc => ?_) (fun hc => ?_)
        · replace h := h.1 hc
          refine sm_aload_n (Y := mX11_judge) (pc := 56) 2 0 rfl rfl dX11_judge_56 ?_
          refine gf_RX11_81 (Y := mX11_judge) (pc := 57) (b := 74) rfl ((lk_0 hly) _) (lf_0_11 hly _) dX11_judge_57 ?_
          refine sm_aload (Y := mX11_judge) (pc := 60) 0 4 rfl dX11_judge_60 ?_
          refine gf_RX11_132 (Y := mX11_judge) (pc := 62) rfl ((fun S hS => ((ly_slotT hly (sm_inlt hn_8)) S hS).1) _) dX11_judge_62 ?_
          refine sm_aload (Y := mX11_judge) (pc := 65) 0 4 rfl dX11_judge_65 ?_
          refine gf_RX11_135 (Y := mX11_judge) (pc := 67) rfl ((fun S hS => ((ly_slotT hly (sm_inlt hn_8)) S hS).1) _) dX11_judge_67 ?_
          refine sm_iconst (Y := mX11_judge) (pc := 70) 3 (by decide) dX11_judge_70 ?_
          refine sm_iv_I (Y := mX11_judge) (pc := 71) (As := [.int (m_9.1 (77 + 4 * x2.toNatClampNeg) 9), .int (m_9.1 (77 + 4 * x2.toNatClampNeg) 10), .int 3]) (a := 74) fX7_expand wRX11_196 (lk_74 hly) (by decide) rfl rfl rfl (Nat.le_trans (by decide) hd) (Nat.le_of_ble_eq_true rfl) ⟨Nat.le_refl _, Nat.le_refl _⟩ dX11_judge_71 rfl (sm_monoI h (fun r_14 m_13 h => ?_))
          refine sm_pop (Y := mX11_judge) (pc := 74) rfl dX11_judge_74 ?_
          refine sm_aload_n (Y := mX11_judge) (pc := 75) 1 3 rfl rfl dX11_judge_75 ?_
          refine sm_aload_n (Y := mX11_judge) (pc := 76) 2 0 rfl rfl dX11_judge_76 ?_
          refine gf_RX11_81 (Y := mX11_judge) (pc := 77) (b := 74) rfl ((lk_0 hly) _) (lf_0_11 hly _) dX11_judge_77 ?_
          refine sm_iv_I (Y := mX11_judge) (pc := 80) (As := [.ref (sm_B E + 74)]) (a := (101 + 2 * x1.toNatClampNeg)) fX7_firstUnlike wRX11_365 (fun S hS => ((ly_sheetT hly (sm_inlt hn_7)) S hS).1) (by decide) rfl rfl rfl (Nat.le_trans (by decide) hd) (Nat.le_of_ble_eq_true rfl) ⟨Nat.le_refl _, Nat.le_refl _⟩ dX11_judge_80 rfl (sm_monoI h (fun r_16 m_15 h => ?_))
          exact sm_iret (Y := mX11_judge) (pc := 83) rfl rfl rfl dX11_judge_83 ⟨_, rfl, h⟩
        · replace h := h.2 hc
          refine sm_aload_n (Y := mX11_judge) (pc := 50) 2 0 rfl rfl dX11_judge_50 ?_
          refine sm_iconst (Y := mX11_judge) (pc := 51) 2 (by decide) dX11_judge_51 ?_
          refine sm_iv_I (Y := mX11_judge) (pc := 52) (As := [.int 2]) (a := 0) fX11_error wRX11_103 (lk_0 hly) (by decide) rfl rfl rfl (Nat.le_trans (by decide) hd) (Nat.le_of_ble_eq_true rfl) ⟨Nat.le_refl _, Nat.le_refl _⟩ dX11_judge_52 rfl (sm_monoI h (fun r_18 m_17 h => ?_))
          exact sm_iret (Y := mX11_judge) (pc := 55) rfl rfl rfl dX11_judge_55 ⟨_, rfl, h⟩
    · replace h := h.2 hc
      refine sm_aload_n (Y := mX11_judge) (pc := 14) 0 0 rfl rfl dX11_judge_14 ?_
      refine sm_iconst (Y := mX11_judge) (pc := 15) 1 (by decide) dX11_judge_15 ?_
      refine sm_iv_I (Y := mX11_judge) (pc := 16) (As := [.int 1]) (a := 0) fX11_error wRX11_103 (lk_0 hly) (by decide) rfl rfl rfl (Nat.le_trans (by decide) hd) (Nat.le_of_ble_eq_true rfl) ⟨Nat.le_refl _, Nat.le_refl _⟩ dX11_judge_16 rfl (sm_monoI h (fun r_20 m_19 h => ?_))
      exact sm_iret (Y := mX11_judge) (pc := 19) rfl rfl rfl dX11_judge_19 ⟨_, rfl, h⟩
abbrev mX11_seed : sm_Y := (yX11_seed, cX11_seed, 3, (some FieldType.int))
theorem fX11_seed : sm_mi mX11_seed RX11 1 := ⟨sm_in 1123 (by decide +kernel) (by decide +kernel), sm_in 1121 (by decide +kernel) (by decide +kernel), sm_in 1122 (by decide +kernel) (by decide +kernel), sm_in 82 (by decide +kernel) (by decide +kernel), rfl, ⟨by decide +kernel, by decide +kernel, by decide +kernel⟩, by decide⟩
theorem dX11_seed_0 : decode cX11_seed 0 = .ok (.aload_n 0, 1) := dk_aload_n_0 (by decide +kernel)
theorem dX11_seed_1 : decode cX11_seed 1 = .ok (.getfield 89, 3) := dk_getfield 89 (b1 := 0) (b2 := 89) (by decide +kernel) (by decide +kernel) (by decide +kernel) (by decide +kernel)
theorem dX11_seed_4 : decode cX11_seed 4 = .ok (.istore_n 2, 1) := dk_istore_n_2 (by decide +kernel)
theorem dX11_seed_5 : decode cX11_seed 5 = .ok (.aload_n 0, 1) := dk_aload_n_0 (by decide +kernel)
theorem dX11_seed_6 : decode cX11_seed 6 = .ok (.iload_n 1, 1) := dk_iload_n_1 (by decide +kernel)
theorem dX11_seed_7 : decode cX11_seed 7 = .ok (.putfield 89, 3) := dk_putfield 89 (b1 := 0) (b2 := 89) (by decide +kernel) (by decide +kernel) (by decide +kernel) (by decide +kernel)
theorem dX11_seed_10 : decode cX11_seed 10 = .ok (.iload_n 2, 1) := dk_iload_n_2 (by decide +kernel)
theorem dX11_seed_11 : decode cX11_seed 11 = .ok (.ireturn, 1) := dk_ireturn (by decide +kernel)
set_option maxRecDepth 20000 in
theorem vX11_seed_0 {E : sm_E} {L : sm_S → Prop} {d : Nat} {x1 : Int32}  {m : sm_M} {Q : Int32 → sm_M → Prop} (hly : ∀ S, L S → ly S) (hd : 1 ≤ d) 
  (h : ∀ x2_1 : Int32, x2_1 = m.1 0 13 →
   ∀ m_2 : sm_M, m_2 = sm_wI m 0 13 x1 →
   Q x2_1 m_2) :
  sm_callI E L mX11_seed d 0 0 [.ref (sm_B E + 0), .int x1] m Q := by
  refine sm_enter (by decide +kernel) (by simp [lg_sl, Value.category]) ?_
  refine sm_aload_n (Y := mX11_seed) (pc := 0) 0 0 rfl rfl dX11_seed_0 ?_
  refine gf_RX11_89 (Y := mX11_seed) (pc := 1) rfl ((lk_0 hly) _) dX11_seed_1 ?_
  refine sm_istore_n (Y := mX11_seed) (pc := 4) (fun y => [(2, .int y), (0, .ref (sm_B E + 0)), (1, .int x1)]) 2 rfl (by decide) (fun _ => rfl) dX11_seed_4 (fun x2_1 ex2_1 => ?_)
  replace h := h x2_1 ex2_1
  refine sm_aload_n (Y := mX11_seed) (pc := 5) 1 0 rfl rfl dX11_seed_5 ?_
  refine sm_iload_n (Y := mX11_seed) (pc := 6) 2 1 rfl rfl dX11_seed_6 ?_
  refine pf_RX11_89 (Y := mX11_seed) (pc := 7) rfl ((lk_0 hly) _) dX11_seed_7 (fun m_2 em_2 => ?_)
  replace h := h m_2 em_2
  refine sm_iload_n (Y := mX11_seed) (pc := 10) 0 2 rfl rfl dX11_seed_10 ?_
  exact sm_iret (Y := mX11_seed) (pc := 11) rfl rfl rfl dX11_seed_11 ⟨_, rfl, h⟩
abbrev mX11_loose : sm_Y := (yX11_loose, cX11_loose, 6, (some FieldType.int))
theorem fX11_loose : sm_mi mX11_loose RX11 2 := ⟨sm_in 1127 (by decide +kernel) (by decide +kernel), sm_in 1125 (by decide +kernel) (by decide +kernel), sm_in 1126 (by decide +kernel) (by decide +kernel), sm_in 82 (by decide +kernel) (by decide +kernel), rfl, ⟨by decide +kernel, by decide +kernel, by decide +kernel⟩, by decide⟩
def gX11_loose_37 (E : sm_E) (L : sm_S → Prop) (d : Nat) (vs : List Value) (x2 : Int32) (a3 : Nat) (x4 : Int32) (x5 : Int32) (m : sm_M) (Q : Int32 → sm_M → Prop) : Prop := sm_go E L mX11_loose d 0 0 vs 37 [(0, .ref (sm_B E + 0)), (2, .int x2), (3, .ref (sm_B E + a3)), (4, .int x4), (5, .int x5)] [] m 0 0 (sm_Z E L vs 0 0 (sm_QI Q))
theorem dX11_loose_37 : decode cX11_loose 37 = .ok (.iload 5, 2) := dk_iload 5 (b := 5) (by decide +kernel) (by decide +kernel) (by decide +kernel)
theorem dX11_loose_39 : decode cX11_loose 39 = .ok (.iload_n 2, 1) := dk_iload_n_2 (by decide +kernel)
theorem dX11_loose_40 : decode cX11_loose 40 = .ok (.if_icmp .ge 45, 3) := dk_if_icmp_ge 45 (b1 := 0) (b2 := 45) (by decide +kernel) (by decide +kernel) (by decide +kernel) (by decide +kernel)
theorem dX11_loose_85 : decode cX11_loose 85 = .ok (.aload_n 0, 1) := dk_aload_n_0 (by decide +kernel)
theorem dX11_loose_86 : decode cX11_loose 86 = .ok (.getfield 28, 3) := dk_getfield 28 (b1 := 0) (b2 := 28) (by decide +kernel) (by decide +kernel) (by decide +kernel) (by decide +kernel)
theorem dX11_loose_89 : decode cX11_loose 89 = .ok (.aload_n 3, 1) := dk_aload_n_3 (by decide +kernel)
theorem dX11_loose_90 : decode cX11_loose 90 = .ok (.invokevirtual 144, 3) := dk_invokevirtual 144 (b1 := 0) (b2 := 144) (by decide +kernel) (by decide +kernel) (by decide +kernel) (by decide +kernel)
theorem dX11_loose_93 : decode cX11_loose 93 = .ok (.iload 4, 2) := dk_iload 4 (b := 4) (by decide +kernel) (by decide +kernel) (by decide +kernel)
theorem dX11_loose_95 : decode cX11_loose 95 = .ok (.ireturn, 1) := dk_ireturn (by decide +kernel)
theorem dX11_loose_43 : decode cX11_loose 43 = .ok (.aload_n 0, 1) := dk_aload_n_0 (by decide +kernel)
theorem dX11_loose_44 : decode cX11_loose 44 = .ok (.aload_n 0, 1) := dk_aload_n_0 (by decide +kernel)
theorem dX11_loose_45 : decode cX11_loose 45 = .ok (.getfield 89, 3) := dk_getfield 89 (b1 := 0) (b2 := 89) (by decide +kernel) (by decide +kernel) (by decide +kernel) (by decide +kernel)
theorem wRX11_369 : Cond.constant RX11 369 1103515245 ∈ sm_T := sm_in 1128 (by decide +kernel) (by decide +kernel)
theorem dX11_loose_48 : decode cX11_loose 48 = .ok (.ldc_w 369, 3) := dk_ldc_w 369 (b1 := 1) (b2 := 113) (by decide +kernel) (by decide +kernel) (by decide +kernel) (by decide +kernel)
theorem dX11_loose_51 : decode cX11_loose 51 = .ok (.imul, 1) := dk_imul (by decide +kernel)
theorem dX11_loose_52 : decode cX11_loose 52 = .ok (.sipush 12345, 3) := dk_sipush 12345 (b1 := 48) (b2 := 57) (by decide +kernel) (by decide +kernel) (by decide +kernel) (by decide +kernel)
theorem dX11_loose_55 : decode cX11_loose 55 = .ok (.iadd, 1) := dk_iadd (by decide +kernel)
theorem dX11_loose_56 : decode cX11_loose 56 = .ok (.putfield 89, 3) := dk_putfield 89 (b1 := 0) (b2 := 89) (by decide +kernel) (by decide +kernel) (by decide +kernel) (by decide +kernel)
theorem dX11_loose_59 : decode cX11_loose 59 = .ok (.aload_n 3, 1) := dk_aload_n_3 (by decide +kernel)
theorem dX11_loose_60 : decode cX11_loose 60 = .ok (.aload_n 0, 1) := dk_aload_n_0 (by decide +kernel)
theorem dX11_loose_61 : decode cX11_loose 61 = .ok (.getfield 89, 3) := dk_getfield 89 (b1 := 0) (b2 := 89) (by decide +kernel) (by decide +kernel) (by decide +kernel) (by decide +kernel)
theorem dX11_loose_64 : decode cX11_loose 64 = .ok (.bipush 8, 2) := dk_bipush 8 (b := 8) (by decide +kernel) (by decide +kernel) (by decide +kernel)
theorem dX11_loose_66 : decode cX11_loose 66 = .ok (.iushr, 1) := dk_iushr (by decide +kernel)
theorem dX11_loose_67 : decode cX11_loose 67 = .ok (.bipush 6, 2) := dk_bipush 6 (b := 6) (by decide +kernel) (by decide +kernel) (by decide +kernel)
theorem dX11_loose_69 : decode cX11_loose 69 = .ok (.irem, 1) := dk_irem (by decide +kernel)
theorem dX11_loose_70 : decode cX11_loose 70 = .ok (.invokevirtual 165, 3) := dk_invokevirtual 165 (b1 := 0) (b2 := 165) (by decide +kernel) (by decide +kernel) (by decide +kernel) (by decide +kernel)
theorem dX11_loose_73 : decode cX11_loose 73 = .ok (.ifCond .eq 6, 3) := dk_ifCond_eq 6 (b1 := 0) (b2 := 6) (by decide +kernel) (by decide +kernel) (by decide +kernel) (by decide +kernel)
theorem dX11_loose_79 : decode cX11_loose 79 = .ok (.iinc 5 1, 3) := dk_iinc 5 1 (b1 := 5) (b2 := 1) (by decide +kernel) (by decide +kernel) (by decide +kernel) (by decide +kernel) (by decide +kernel)
theorem dX11_loose_82 : decode cX11_loose 82 = .ok (.goto (-45), 3) := dk_goto (-45) (b1 := 255) (b2 := 211) (by decide +kernel) (by decide +kernel) (by decide +kernel) (by decide +kernel)
theorem dX11_loose_76 : decode cX11_loose 76 = .ok (.iinc 4 1, 3) := dk_iinc 4 1 (b1 := 4) (b2 := 1) (by decide +kernel) (by decide +kernel) (by decide +kernel) (by decide +kernel) (by decide +kernel)
set_option maxRecDepth 20000 in
theorem vX11_loose_37 {E : sm_E} {L : sm_S → Prop} {d : Nat} {vs : List Value} {x2 : Int32} {a3 : Nat} {x4 : Int32} {x5 : Int32} {na3 : Nat} {m : sm_M} {Q : Int32 → sm_M → Prop} (hly : ∀ S, L S → ly S) (hd : 5 ≤ d) (hTa3 : sm_tan L a3 na3)
  (h : (x2 ≤ x5 →
      sm_callV E L mX4_measure 4 0 0 [.ref (sm_B E + 5), .ref (sm_B E + a3)] m (fun m_1 =>
      Q x4 m_1)) ∧
   (¬ x2 ≤ x5 →
      ∀ m_2 : sm_M, m_2 = sm_wI m 0 13 (((m.1 0 13) * 1103515245) + 12345) →
      sm_callI E L mX8_advance 3 0 0 [.ref (sm_B E + a3), .int (sm_rem (sm_ushr (m_2.1 0 13) 8) 6)] m_2 (fun r_4 m_3 =>
      (r_4 = 0 →
         ∀ x5_5 : Int32, x5_5 = x5 + 1 →
         gX11_loose_37 E L d vs x2 a3 x4 x5_5 m_3 Q) ∧
      (¬ r_4 = 0 →
         ∀ x4_6 : Int32, x4_6 = x4 + 1 →
         ∀ x5_7 : Int32, x5_7 = x5 + 1 →
         gX11_loose_37 E L d vs x2 a3 x4_6 x5_7 m_3 Q)))) :
  gX11_loose_37 E L d vs x2 a3 x4 x5 m Q := by
  refine sm_iload (Y := mX11_loose) (pc := 37) 4 5 rfl dX11_loose_37 ?_
  refine sm_iload_n (Y := mX11_loose) (pc := 39) 1 2 rfl rfl dX11_loose_39 ?_
  refine sm_icmp_ge (Y := mX11_loose) (pc := 40) 85 (by decide) dX11_loose_40 (fun hc => ?_) (fun hc => ?_)
  · replace h := h.1 hc
    refine sm_aload_n (Y := mX11_loose) (pc := 85) 0 0 rfl rfl dX11_loose_85 ?_
    refine gf_RX11_28 (Y := mX11_loose) (pc := 86) (b := 5) rfl ((lk_0 hly) _) (lf_0_3 hly _) dX11_loose_86 ?_
    refine sm_aload_n (Y := mX11_loose) (pc := 89) 2 3 rfl rfl dX11_loose_89 ?_
    refine sm_iv_V (Y := mX11_loose) (pc := 90) (As := [.ref (sm_B E + a3)]) (a := 5) fX4_measure wRX11_144 (lk_5 hly) (by decide) rfl rfl rfl (Nat.le_trans (by decide) hd) (Nat.le_of_ble_eq_true rfl) ⟨Nat.le_refl _, Nat.le_refl _⟩ dX11_loose_90 rfl (sm_monoV h (fun m_1 h => ?_))
    refine sm_iload (Y := mX11_loose) (pc := 93) 3 4 rfl dX11_loose_93 ?_
    exact sm_iret (Y := mX11_loose) (pc := 95) rfl rfl rfl dX11_loose_95 ⟨_, rfl, h⟩
  · replace h := h.2 hc
    refine sm_aload_n (Y := mX11_loose) (pc := 43) 0 0 rfl rfl dX11_loose_43 ?_
    refine sm_aload_n (Y := mX11_loose) (pc := 44) 0 0 rfl rfl dX11_loose_44 ?_
    refine gf_RX11_89 (Y := mX11_loose) (pc := 45) rfl ((lk_0 hly) _) dX11_loose_45 ?_
    refine sm_ldc_w (Y := mX11_loose) (pc := 48) 1103515245 wRX11_369 dX11_loose_48 ?_
    refine sm_imul (Y := mX11_loose) (pc := 51) dX11_loose_51 ?_
    refine sm_sipush (Y := mX11_loose) (pc := 52) 12345 (by decide) dX11_loose_52 ?_
    refine sm_iadd (Y := mX11_loose) (pc := 55) dX11_loose_55 ?_
    refine pf_RX11_89 (Y := mX11_loose) (pc := 56) rfl ((lk_0 hly) _) dX11_loose_56 (fun m_2 em_2 => ?_)
    replace h := h m_2 em_2
    refine sm_aload_n (Y := mX11_loose) (pc := 59) 2 3 rfl rfl dX11_loose_59 ?_
    refine sm_aload_n (Y := mX11_loose) (pc := 60) 0 0 rfl rfl dX11_loose_60 ?_
    refine gf_RX11_89 (Y := mX11_loose) (pc := 61) rfl ((lk_0 hly) _) dX11_loose_61 ?_
    refine sm_bipush (Y := mX11_loose) (pc := 64) 8 (by decide) dX11_loose_64 ?_
    refine sm_iushr (Y := mX11_loose) (pc := 66) dX11_loose_66 ?_
    refine sm_bipush (Y := mX11_loose) (pc := 67) 6 (by decide) dX11_loose_67 ?_
    refine sm_irem (Y := mX11_loose) (pc := 69) (by decide) dX11_loose_69 ?_
    refine sm_iv_I (Y := mX11_loose) (pc := 70) (As := [.int (sm_rem (sm_ushr (m_2.1 0 13) 8) 6)]) (a := a3) fX8_advance wRX11_165 (fun S hS => (hTa3 S hS).1) (by decide) rfl rfl rfl (Nat.le_trans (by decide) hd) (Nat.le_of_ble_eq_true rfl) ⟨Nat.le_refl _, Nat.le_refl _⟩ dX11_loose_70 rfl (sm_monoI h (fun r_4 m_3 h => ?_))
    refine sm_if_eq (Y := mX11_loose) (pc := 73) 79 (by decide) dX11_loose_73 (fun hc => ?_) (fun hc => ?_)
    · replace h := h.1 hc
      refine sm_iinc (Y := mX11_loose) (pc := 79) (fun y => [(5, .int y), (0, .ref (sm_B E + 0)), (2, .int x2), (3, .ref (sm_B E + a3)), (4, .int x4)]) 4 5 rfl (by decide) (fun _ => rfl) dX11_loose_79 (fun x5_5 ex5_5 => ?_)
      replace h := h x5_5 ex5_5
      refine sm_goto (Y := mX11_loose) (pc := 82) 37 (by decide) dX11_loose_82 ?_
      refine sm_sub [1, 2, 3, 4, 0] rfl ?_
      exact h
    · replace h := h.2 hc
      refine sm_iinc (Y := mX11_loose) (pc := 76) (fun y => [(4, .int y), (0, .ref (sm_B E + 0)), (2, .int x2), (3, .ref (sm_B E + a3)), (5, .int x5)]) 3 4 rfl (by decide) (fun _ => rfl) dX11_loose_76 (fun x4_6 ex4_6 => ?_)
      replace h := h x4_6 ex4_6
      refine sm_iinc (Y := mX11_loose) (pc := 79) (fun y => [(5, .int y), (4, .int x4_6), (0, .ref (sm_B E + 0)), (2, .int x2), (3, .ref (sm_B E + a3))]) 4 5 rfl (by decide) (fun _ => rfl) dX11_loose_79 (fun x5_7 ex5_7 => ?_)
      replace h := h x5_7 ex5_7
      refine sm_goto (Y := mX11_loose) (pc := 82) 37 (by decide) dX11_loose_82 ?_
      refine sm_sub [2, 3, 4, 1, 0] rfl ?_
      exact h
theorem dX11_loose_0 : decode cX11_loose 0 = .ok (.iload_n 1, 1) := dk_iload_n_1 (by decide +kernel)
theorem dX11_loose_1 : decode cX11_loose 1 = .ok (.invokestatic 99, 3) := dk_invokestatic 99 (b1 := 0) (b2 := 99) (by decide +kernel) (by decide +kernel) (by decide +kernel) (by decide +kernel)
theorem dX11_loose_4 : decode cX11_loose 4 = .ok (.ifCond .eq 14, 3) := dk_ifCond_eq 14 (b1 := 0) (b2 := 14) (by decide +kernel) (by decide +kernel) (by decide +kernel) (by decide +kernel)
theorem dX11_loose_18 : decode cX11_loose 18 = .ok (.aload_n 0, 1) := dk_aload_n_0 (by decide +kernel)
theorem dX11_loose_19 : decode cX11_loose 19 = .ok (.iconst 1, 1) := dk_iconst_1 (by decide +kernel)
theorem dX11_loose_20 : decode cX11_loose 20 = .ok (.invokevirtual 103, 3) := dk_invokevirtual 103 (b1 := 0) (b2 := 103) (by decide +kernel) (by decide +kernel) (by decide +kernel) (by decide +kernel)
theorem dX11_loose_23 : decode cX11_loose 23 = .ok (.ireturn, 1) := dk_ireturn (by decide +kernel)
theorem dX11_loose_7 : decode cX11_loose 7 = .ok (.iload_n 2, 1) := dk_iload_n_2 (by decide +kernel)
theorem dX11_loose_8 : decode cX11_loose 8 = .ok (.iconst 1, 1) := dk_iconst_1 (by decide +kernel)
theorem dX11_loose_9 : decode cX11_loose 9 = .ok (.if_icmp .lt 9, 3) := dk_if_icmp_lt 9 (b1 := 0) (b2 := 9) (by decide +kernel) (by decide +kernel) (by decide +kernel) (by decide +kernel)
theorem dX11_loose_12 : decode cX11_loose 12 = .ok (.iload_n 2, 1) := dk_iload_n_2 (by decide +kernel)
theorem dX11_loose_13 : decode cX11_loose 13 = .ok (.bipush 20, 2) := dk_bipush 20 (b := 20) (by decide +kernel) (by decide +kernel) (by decide +kernel)
theorem dX11_loose_15 : decode cX11_loose 15 = .ok (.if_icmp .le 9, 3) := dk_if_icmp_le 9 (b1 := 0) (b2 := 9) (by decide +kernel) (by decide +kernel) (by decide +kernel) (by decide +kernel)
theorem dX11_loose_24 : decode cX11_loose 24 = .ok (.aload_n 0, 1) := dk_aload_n_0 (by decide +kernel)
theorem dX11_loose_25 : decode cX11_loose 25 = .ok (.getfield 11, 3) := dk_getfield 11 (b1 := 0) (b2 := 11) (by decide +kernel) (by decide +kernel) (by decide +kernel) (by decide +kernel)
theorem dX11_loose_28 : decode cX11_loose 28 = .ok (.iload_n 1, 1) := dk_iload_n_1 (by decide +kernel)
theorem dX11_loose_29 : decode cX11_loose 29 = .ok (.aaload, 1) := dk_aaload (by decide +kernel)
theorem dX11_loose_30 : decode cX11_loose 30 = .ok (.astore_n 3, 1) := dk_astore_n_3 (by decide +kernel)
theorem dX11_loose_31 : decode cX11_loose 31 = .ok (.iconst 0, 1) := dk_iconst_0 (by decide +kernel)
theorem dX11_loose_32 : decode cX11_loose 32 = .ok (.istore 4, 2) := dk_istore 4 (b := 4) (by decide +kernel) (by decide +kernel) (by decide +kernel)
theorem dX11_loose_34 : decode cX11_loose 34 = .ok (.iconst 0, 1) := dk_iconst_0 (by decide +kernel)
theorem dX11_loose_35 : decode cX11_loose 35 = .ok (.istore 5, 2) := dk_istore 5 (b := 5) (by decide +kernel) (by decide +kernel) (by decide +kernel)
set_option maxRecDepth 20000 in
theorem vX11_loose_0 {E : sm_E} {L : sm_S → Prop} {d : Nat} {x1 : Int32} {x2 : Int32}  {m : sm_M} {Q : Int32 → sm_M → Prop} (hly : ∀ S, L S → ly S) (hd : 5 ≤ d) 
  (h : sm_callI E L mX11_isSlot 1 0 0 [.int x1] m (fun r_2 m_1 =>
   (r_2 = 0 →
      sm_callI E L mX11_error 1 0 0 [.ref (sm_B E + 0), .int 1] m_1 (fun r_4 m_3 =>
      Q r_4 m_3)) ∧
   (¬ r_2 = 0 →
      (x2 < 1 →
         sm_callI E L mX11_error 1 0 0 [.ref (sm_B E + 0), .int 1] m_1 (fun r_6 m_5 =>
         Q r_6 m_5)) ∧
      (¬ x2 < 1 →
         (x2 ≤ 20 →
            (vp_in x1 6) ∧ gX11_loose_37 E L d ([.ref (sm_B E + 0), .int x1, .int x2]) x2 (77 + 4 * x1.toNatClampNeg) 0 0 m_1 Q) ∧
         (¬ x2 ≤ 20 →
            sm_callI E L mX11_error 1 0 0 [.ref (sm_B E + 0), .int 1] m_1 (fun r_11 m_10 =>
            Q r_11 m_10)))))) :
  sm_callI E L mX11_loose d 0 0 [.ref (sm_B E + 0), .int x1, .int x2] m Q := by
  refine sm_enter (by decide +kernel) (by simp [lg_sl, Value.category]) ?_
  refine sm_iload_n (Y := mX11_loose) (pc := 0) 1 1 rfl rfl dX11_loose_0 ?_
  refine sm_is_I (Y := mX11_loose) (pc := 1) (As := [.int x1]) fX11_isSlot wRX11_99 rfl (Nat.le_trans (by decide) hd) (Nat.le_of_ble_eq_true rfl) ⟨Nat.le_refl _, Nat.le_refl _⟩ dX11_loose_1 rfl (sm_monoI h (fun r_2 m_1 h => ?_))
  refine sm_if_eq (Y := mX11_loose) (pc := 4) 18 (by decide) dX11_loose_4 (fun hc => ?_) (fun hc => ?_)
  · replace h := h.1 hc
    refine sm_aload_n (Y := mX11_loose) (pc := 18) 0 0 rfl rfl dX11_loose_18 ?_
    refine sm_iconst (Y := mX11_loose) (pc := 19) 1 (by decide) dX11_loose_19 ?_
    refine sm_iv_I (Y := mX11_loose) (pc := 20) (As := [.int 1]) (a := 0) fX11_error wRX11_103 (lk_0 hly) (by decide) rfl rfl rfl (Nat.le_trans (by decide) hd) (Nat.le_of_ble_eq_true rfl) ⟨Nat.le_refl _, Nat.le_refl _⟩ dX11_loose_20 rfl (sm_monoI h (fun r_4 m_3 h => ?_))
    exact sm_iret (Y := mX11_loose) (pc := 23) rfl rfl rfl dX11_loose_23 ⟨_, rfl, h⟩
  · replace h := h.2 hc
    refine sm_iload_n (Y := mX11_loose) (pc := 7) 2 2 rfl rfl dX11_loose_7 ?_
    refine sm_iconst (Y := mX11_loose) (pc := 8) 1 (by decide) dX11_loose_8 ?_
    refine sm_icmp_lt (Y := mX11_loose) (pc := 9) 18 (by decide) dX11_loose_9 (fun hc => ?_) (fun hc => ?_)
    · replace h := h.1 hc
      refine sm_aload_n (Y := mX11_loose) (pc := 18) 0 0 rfl rfl dX11_loose_18 ?_
      refine sm_iconst (Y := mX11_loose) (pc := 19) 1 (by decide) dX11_loose_19 ?_
      refine sm_iv_I (Y := mX11_loose) (pc := 20) (As := [.int 1]) (a := 0) fX11_error wRX11_103 (lk_0 hly) (by decide) rfl rfl rfl (Nat.le_trans (by decide) hd) (Nat.le_of_ble_eq_true rfl) ⟨Nat.le_refl _, Nat.le_refl _⟩ dX11_loose_20 rfl (sm_monoI h (fun r_6 m_5 h => ?_))
      exact sm_iret (Y := mX11_loose) (pc := 23) rfl rfl rfl dX11_loose_23 ⟨_, rfl, h⟩
    · replace h := h.2 hc
      refine sm_iload_n (Y := mX11_loose) (pc := 12) 2 2 rfl rfl dX11_loose_12 ?_
      refine sm_bipush (Y := mX11_loose) (pc := 13) 20 (by decide) dX11_loose_13 ?_
      refine sm_icmp_le (Y := mX11_loose) (pc := 15) 24 (by decide) dX11_loose_15 (fun hc => ?_) (fun hc => ?_)
      · replace h := h.1 hc
        refine sm_aload_n (Y := mX11_loose) (pc := 24) 0 0 rfl rfl dX11_loose_24 ?_
        refine gf_RX11_11 (Y := mX11_loose) (pc := 25) (b := 1) rfl ((lk_0 hly) _) (lf_0_0 hly _) dX11_loose_25 ?_
        refine sm_iload_n (Y := mX11_loose) (pc := 28) 1 1 rfl rfl dX11_loose_28 ?_
        obtain ⟨hn_7, h⟩ := h
        refine sm_aaldG (Y := mX11_loose) (pc := 29) (b := (77 + 4 * x1.toNatClampNeg)) (la_1 hly _) hn_7 (ly_slotR hly (sm_inlt hn_7) _) dX11_loose_29 ?_
        refine sm_astore_n (Y := mX11_loose) (pc := 30) [(3, .ref (sm_B E + (77 + 4 * x1.toNatClampNeg))), (0, .ref (sm_B E + 0)), (1, .int x1), (2, .int x2)] 3 rfl (by decide) rfl dX11_loose_30 ?_
        refine sm_iconst (Y := mX11_loose) (pc := 31) 0 (by decide) dX11_loose_31 ?_
        refine sm_istore0 (Y := mX11_loose) (pc := 32) [(4, .int 0), (3, .ref (sm_B E + (77 + 4 * x1.toNatClampNeg))), (0, .ref (sm_B E + 0)), (1, .int x1), (2, .int x2)] 4 (by decide) rfl dX11_loose_32 ?_
        refine sm_iconst (Y := mX11_loose) (pc := 34) 0 (by decide) dX11_loose_34 ?_
        refine sm_istore0 (Y := mX11_loose) (pc := 35) [(5, .int 0), (4, .int 0), (3, .ref (sm_B E + (77 + 4 * x1.toNatClampNeg))), (0, .ref (sm_B E + 0)), (1, .int x1), (2, .int x2)] 5 (by decide) rfl dX11_loose_35 ?_
        refine sm_sub [3, 5, 2, 1, 0] rfl ?_
        exact h
      · replace h := h.2 hc
        refine sm_aload_n (Y := mX11_loose) (pc := 18) 0 0 rfl rfl dX11_loose_18 ?_
        refine sm_iconst (Y := mX11_loose) (pc := 19) 1 (by decide) dX11_loose_19 ?_
        refine sm_iv_I (Y := mX11_loose) (pc := 20) (As := [.int 1]) (a := 0) fX11_error wRX11_103 (lk_0 hly) (by decide) rfl rfl rfl (Nat.le_trans (by decide) hd) (Nat.le_of_ble_eq_true rfl) ⟨Nat.le_refl _, Nat.le_refl _⟩ dX11_loose_20 rfl (sm_monoI h (fun r_11 m_10 h => ?_))
        exact sm_iret (Y := mX11_loose) (pc := 23) rfl rfl rfl dX11_loose_23 ⟨_, rfl, h⟩
abbrev mX11_image : sm_Y := (yX11_image, cX11_image, 2, (some FieldType.int))
theorem fX11_image : sm_mi mX11_image RX11 0 := ⟨sm_in 1132 (by decide +kernel) (by decide +kernel), sm_in 1130 (by decide +kernel) (by decide +kernel), sm_in 1131 (by decide +kernel) (by decide +kernel), sm_in 82 (by decide +kernel) (by decide +kernel), rfl, ⟨by decide +kernel, by decide +kernel, by decide +kernel⟩, by decide⟩
def gX11_image_2 (E : sm_E) (L : sm_S → Prop) (d : Nat) (vs : List Value) (x1 : Int32) (m : sm_M) (Q : Int32 → sm_M → Prop) : Prop := sm_go E L mX11_image d 0 0 vs 2 [(0, .ref (sm_B E + 0)), (1, .int x1)] [] m 0 0 (sm_Z E L vs 0 0 (sm_QI Q))
theorem dX11_image_2 : decode cX11_image 2 = .ok (.iload_n 1, 1) := dk_iload_n_1 (by decide +kernel)
theorem dX11_image_3 : decode cX11_image 3 = .ok (.bipush 6, 2) := dk_bipush 6 (b := 6) (by decide +kernel) (by decide +kernel) (by decide +kernel)
theorem dX11_image_5 : decode cX11_image 5 = .ok (.if_icmp .ge 24, 3) := dk_if_icmp_ge 24 (b1 := 0) (b2 := 24) (by decide +kernel) (by decide +kernel) (by decide +kernel) (by decide +kernel)
theorem dX11_image_29 : decode cX11_image 29 = .ok (.aload_n 0, 1) := dk_aload_n_0 (by decide +kernel)
theorem dX11_image_30 : decode cX11_image 30 = .ok (.aload_n 0, 1) := dk_aload_n_0 (by decide +kernel)
theorem dX11_image_31 : decode cX11_image 31 = .ok (.getfield 89, 3) := dk_getfield 89 (b1 := 0) (b2 := 89) (by decide +kernel) (by decide +kernel) (by decide +kernel) (by decide +kernel)
theorem dX11_image_34 : decode cX11_image 34 = .ok (.putfield 93, 3) := dk_putfield 93 (b1 := 0) (b2 := 93) (by decide +kernel) (by decide +kernel) (by decide +kernel) (by decide +kernel)
theorem dX11_image_37 : decode cX11_image 37 = .ok (.aload_n 0, 1) := dk_aload_n_0 (by decide +kernel)
theorem dX11_image_38 : decode cX11_image 38 = .ok (.dup, 1) := dk_dup (by decide +kernel)
theorem dX11_image_39 : decode cX11_image 39 = .ok (.getfield 96, 3) := dk_getfield 96 (b1 := 0) (b2 := 96) (by decide +kernel) (by decide +kernel) (by decide +kernel) (by decide +kernel)
theorem dX11_image_42 : decode cX11_image 42 = .ok (.iconst 1, 1) := dk_iconst_1 (by decide +kernel)
theorem dX11_image_43 : decode cX11_image 43 = .ok (.iadd, 1) := dk_iadd (by decide +kernel)
theorem dX11_image_44 : decode cX11_image 44 = .ok (.putfield 96, 3) := dk_putfield 96 (b1 := 0) (b2 := 96) (by decide +kernel) (by decide +kernel) (by decide +kernel) (by decide +kernel)
theorem dX11_image_47 : decode cX11_image 47 = .ok (.aload_n 0, 1) := dk_aload_n_0 (by decide +kernel)
theorem dX11_image_48 : decode cX11_image 48 = .ok (.getfield 96, 3) := dk_getfield 96 (b1 := 0) (b2 := 96) (by decide +kernel) (by decide +kernel) (by decide +kernel) (by decide +kernel)
theorem dX11_image_51 : decode cX11_image 51 = .ok (.ireturn, 1) := dk_ireturn (by decide +kernel)
theorem dX11_image_8 : decode cX11_image 8 = .ok (.aload_n 0, 1) := dk_aload_n_0 (by decide +kernel)
theorem dX11_image_9 : decode cX11_image 9 = .ok (.getfield 15, 3) := dk_getfield 15 (b1 := 0) (b2 := 15) (by decide +kernel) (by decide +kernel) (by decide +kernel) (by decide +kernel)
theorem dX11_image_12 : decode cX11_image 12 = .ok (.iload_n 1, 1) := dk_iload_n_1 (by decide +kernel)
theorem dX11_image_13 : decode cX11_image 13 = .ok (.aaload, 1) := dk_aaload (by decide +kernel)
theorem dX11_image_14 : decode cX11_image 14 = .ok (.aload_n 0, 1) := dk_aload_n_0 (by decide +kernel)
theorem dX11_image_15 : decode cX11_image 15 = .ok (.getfield 11, 3) := dk_getfield 11 (b1 := 0) (b2 := 11) (by decide +kernel) (by decide +kernel) (by decide +kernel) (by decide +kernel)
theorem dX11_image_18 : decode cX11_image 18 = .ok (.iload_n 1, 1) := dk_iload_n_1 (by decide +kernel)
theorem dX11_image_19 : decode cX11_image 19 = .ok (.aaload, 1) := dk_aaload (by decide +kernel)
theorem dX11_image_20 : decode cX11_image 20 = .ok (.invokevirtual 155, 3) := dk_invokevirtual 155 (b1 := 0) (b2 := 155) (by decide +kernel) (by decide +kernel) (by decide +kernel) (by decide +kernel)
theorem dX11_image_23 : decode cX11_image 23 = .ok (.iinc 1 1, 3) := dk_iinc 1 1 (b1 := 1) (b2 := 1) (by decide +kernel) (by decide +kernel) (by decide +kernel) (by decide +kernel) (by decide +kernel)
theorem dX11_image_26 : decode cX11_image 26 = .ok (.goto (-24), 3) := dk_goto (-24) (b1 := 255) (b2 := 232) (by decide +kernel) (by decide +kernel) (by decide +kernel) (by decide +kernel)
set_option maxRecDepth 20000 in
theorem vX11_image_2 {E : sm_E} {L : sm_S → Prop} {d : Nat} {vs : List Value} {x1 : Int32}  {m : sm_M} {Q : Int32 → sm_M → Prop} (hly : ∀ S, L S → ly S) (hd : 2 ≤ d) 
  (h : (6 ≤ x1 →
      ∀ m_1 : sm_M, m_1 = sm_wI m 0 14 (m.1 0 13) →
      ∀ m_2 : sm_M, m_2 = sm_wI m_1 0 15 ((m_1.1 0 15) + 1) →
      Q (m_2.1 0 15) m_2) ∧
   (¬ 6 ≤ x1 →
      (vp_in x1 6) ∧ (vp_in x1 6) ∧ sm_callV E L mX8_copy 1 0 0 [.ref (sm_B E + (79 + 4 * x1.toNatClampNeg)), .ref (sm_B E + (77 + 4 * x1.toNatClampNeg))] m (fun m_5 =>
      ∀ x1_6 : Int32, x1_6 = x1 + 1 →
      gX11_image_2 E L d vs x1_6 m_5 Q))) :
  gX11_image_2 E L d vs x1 m Q := by
  refine sm_iload_n (Y := mX11_image) (pc := 2) 1 1 rfl rfl dX11_image_2 ?_
  refine sm_bipush (Y := mX11_image) (pc := 3) 6 (by decide) dX11_image_3 ?_
  refine sm_icmp_ge (Y := mX11_image) (pc := 5) 29 (by decide) dX11_image_5 (fun hc => ?_) (fun hc => ?_)
  · replace h := h.1 hc
    refine sm_aload_n (Y := mX11_image) (pc := 29) 0 0 rfl rfl dX11_image_29 ?_
    refine sm_aload_n (Y := mX11_image) (pc := 30) 0 0 rfl rfl dX11_image_30 ?_
    refine gf_RX11_89 (Y := mX11_image) (pc := 31) rfl ((lk_0 hly) _) dX11_image_31 ?_
    refine pf_RX11_93 (Y := mX11_image) (pc := 34) rfl ((lk_0 hly) _) dX11_image_34 (fun m_1 em_1 => ?_)
    replace h := h m_1 em_1
    refine sm_aload_n (Y := mX11_image) (pc := 37) 0 0 rfl rfl dX11_image_37 ?_
    refine sm_dup (Y := mX11_image) (pc := 38) rfl dX11_image_38 ?_
    refine gf_RX11_96 (Y := mX11_image) (pc := 39) rfl ((lk_0 hly) _) dX11_image_39 ?_
    refine sm_iconst (Y := mX11_image) (pc := 42) 1 (by decide) dX11_image_42 ?_
    refine sm_iadd (Y := mX11_image) (pc := 43) dX11_image_43 ?_
    refine pf_RX11_96 (Y := mX11_image) (pc := 44) rfl ((lk_0 hly) _) dX11_image_44 (fun m_2 em_2 => ?_)
    replace h := h m_2 em_2
    refine sm_aload_n (Y := mX11_image) (pc := 47) 0 0 rfl rfl dX11_image_47 ?_
    refine gf_RX11_96 (Y := mX11_image) (pc := 48) rfl ((lk_0 hly) _) dX11_image_48 ?_
    exact sm_iret (Y := mX11_image) (pc := 51) rfl rfl rfl dX11_image_51 ⟨_, rfl, h⟩
  · replace h := h.2 hc
    refine sm_aload_n (Y := mX11_image) (pc := 8) 0 0 rfl rfl dX11_image_8 ?_
    refine gf_RX11_15 (Y := mX11_image) (pc := 9) (b := 2) rfl ((lk_0 hly) _) (lf_0_1 hly _) dX11_image_9 ?_
    refine sm_iload_n (Y := mX11_image) (pc := 12) 1 1 rfl rfl dX11_image_12 ?_
    obtain ⟨hn_3, h⟩ := h
    refine sm_aaldG (Y := mX11_image) (pc := 13) (b := (79 + 4 * x1.toNatClampNeg)) (la_2 hly _) hn_3 (ly_keptR hly (sm_inlt hn_3) _) dX11_image_13 ?_
    refine sm_aload_n (Y := mX11_image) (pc := 14) 0 0 rfl rfl dX11_image_14 ?_
    refine gf_RX11_11 (Y := mX11_image) (pc := 15) (b := 1) rfl ((lk_0 hly) _) (lf_0_0 hly _) dX11_image_15 ?_
    refine sm_iload_n (Y := mX11_image) (pc := 18) 1 1 rfl rfl dX11_image_18 ?_
    obtain ⟨hn_4, h⟩ := h
    refine sm_aaldG (Y := mX11_image) (pc := 19) (b := (77 + 4 * x1.toNatClampNeg)) (la_1 hly _) hn_4 (ly_slotR hly (sm_inlt hn_4) _) dX11_image_19 ?_
    refine sm_iv_V (Y := mX11_image) (pc := 20) (As := [.ref (sm_B E + (77 + 4 * x1.toNatClampNeg))]) (a := (79 + 4 * x1.toNatClampNeg)) fX8_copy wRX11_155 (fun S hS => ((ly_keptT hly (sm_inlt hn_3)) S hS).1) (by decide) rfl rfl rfl (Nat.le_trans (by decide) hd) (Nat.le_of_ble_eq_true rfl) ⟨Nat.le_refl _, Nat.le_refl _⟩ dX11_image_20 rfl (sm_monoV h (fun m_5 h => ?_))
    refine sm_iinc (Y := mX11_image) (pc := 23) (fun y => [(1, .int y), (0, .ref (sm_B E + 0))]) 1 1 rfl (by decide) (fun _ => rfl) dX11_image_23 (fun x1_6 ex1_6 => ?_)
    replace h := h x1_6 ex1_6
    refine sm_goto (Y := mX11_image) (pc := 26) 2 (by decide) dX11_image_26 ?_
    refine sm_sub [1, 0] rfl ?_
    exact h
theorem dX11_image_0 : decode cX11_image 0 = .ok (.iconst 0, 1) := dk_iconst_0 (by decide +kernel)
theorem dX11_image_1 : decode cX11_image 1 = .ok (.istore_n 1, 1) := dk_istore_n_1 (by decide +kernel)
set_option maxRecDepth 20000 in
theorem vX11_image_0 {E : sm_E} {L : sm_S → Prop} {d : Nat}   {m : sm_M} {Q : Int32 → sm_M → Prop}  (hd : 2 ≤ d) 
  (h : gX11_image_2 E L d ([.ref (sm_B E + 0)]) 0 m Q) :
  sm_callI E L mX11_image d 0 0 [.ref (sm_B E + 0)] m Q := by
  refine sm_enter (by decide +kernel) (by simp [lg_sl, Value.category]) ?_
  refine sm_iconst (Y := mX11_image) (pc := 0) 0 (by decide) dX11_image_0 ?_
  refine sm_istore0_n (Y := mX11_image) (pc := 1) [(1, .int 0), (0, .ref (sm_B E + 0))] 1 rfl (by decide) rfl dX11_image_1 ?_
  refine sm_sub [1, 0] rfl ?_
  exact h
abbrev mX11_restore : sm_Y := (yX11_restore, cX11_restore, 2, (some FieldType.int))
theorem fX11_restore : sm_mi mX11_restore RX11 0 := ⟨sm_in 1136 (by decide +kernel) (by decide +kernel), sm_in 1134 (by decide +kernel) (by decide +kernel), sm_in 1135 (by decide +kernel) (by decide +kernel), sm_in 82 (by decide +kernel) (by decide +kernel), rfl, ⟨by decide +kernel, by decide +kernel, by decide +kernel⟩, by decide⟩
def gX11_restore_15 (E : sm_E) (L : sm_S → Prop) (d : Nat) (vs : List Value) (x1 : Int32) (m : sm_M) (Q : Int32 → sm_M → Prop) : Prop := sm_go E L mX11_restore d 0 0 vs 15 [(0, .ref (sm_B E + 0)), (1, .int x1)] [] m 0 0 (sm_Z E L vs 0 0 (sm_QI Q))
theorem dX11_restore_15 : decode cX11_restore 15 = .ok (.iload_n 1, 1) := dk_iload_n_1 (by decide +kernel)
theorem dX11_restore_16 : decode cX11_restore 16 = .ok (.bipush 6, 2) := dk_bipush 6 (b := 6) (by decide +kernel) (by decide +kernel) (by decide +kernel)
theorem dX11_restore_18 : decode cX11_restore 18 = .ok (.if_icmp .ge 24, 3) := dk_if_icmp_ge 24 (b1 := 0) (b2 := 24) (by decide +kernel) (by decide +kernel) (by decide +kernel) (by decide +kernel)
theorem dX11_restore_42 : decode cX11_restore 42 = .ok (.aload_n 0, 1) := dk_aload_n_0 (by decide +kernel)
theorem dX11_restore_43 : decode cX11_restore 43 = .ok (.aload_n 0, 1) := dk_aload_n_0 (by decide +kernel)
theorem dX11_restore_44 : decode cX11_restore 44 = .ok (.getfield 93, 3) := dk_getfield 93 (b1 := 0) (b2 := 93) (by decide +kernel) (by decide +kernel) (by decide +kernel) (by decide +kernel)
theorem dX11_restore_47 : decode cX11_restore 47 = .ok (.putfield 89, 3) := dk_putfield 89 (b1 := 0) (b2 := 89) (by decide +kernel) (by decide +kernel) (by decide +kernel) (by decide +kernel)
theorem dX11_restore_50 : decode cX11_restore 50 = .ok (.aload_n 0, 1) := dk_aload_n_0 (by decide +kernel)
theorem wRX11_370 : Cond.methodLink RX11 370 yX11_allCrossings ∈ sm_T := sm_in 1137 (by decide +kernel) (by decide +kernel)
abbrev mX11_allCrossings : sm_Y := (yX11_allCrossings, cX11_allCrossings, 3, (some FieldType.int))
theorem fX11_allCrossings : sm_mi mX11_allCrossings RX11 0 := ⟨sm_in 1140 (by decide +kernel) (by decide +kernel), sm_in 1139 (by decide +kernel) (by decide +kernel), sm_in 38 (by decide +kernel) (by decide +kernel), sm_in 82 (by decide +kernel) (by decide +kernel), rfl, ⟨by decide +kernel, by decide +kernel, by decide +kernel⟩, by decide⟩
theorem dX11_restore_51 : decode cX11_restore 51 = .ok (.invokevirtual 370, 3) := dk_invokevirtual 370 (b1 := 1) (b2 := 114) (by decide +kernel) (by decide +kernel) (by decide +kernel) (by decide +kernel)
theorem dX11_restore_54 : decode cX11_restore 54 = .ok (.ireturn, 1) := dk_ireturn (by decide +kernel)
theorem dX11_restore_21 : decode cX11_restore 21 = .ok (.aload_n 0, 1) := dk_aload_n_0 (by decide +kernel)
theorem dX11_restore_22 : decode cX11_restore 22 = .ok (.getfield 11, 3) := dk_getfield 11 (b1 := 0) (b2 := 11) (by decide +kernel) (by decide +kernel) (by decide +kernel) (by decide +kernel)
theorem dX11_restore_25 : decode cX11_restore 25 = .ok (.iload_n 1, 1) := dk_iload_n_1 (by decide +kernel)
theorem dX11_restore_26 : decode cX11_restore 26 = .ok (.aaload, 1) := dk_aaload (by decide +kernel)
theorem dX11_restore_27 : decode cX11_restore 27 = .ok (.aload_n 0, 1) := dk_aload_n_0 (by decide +kernel)
theorem dX11_restore_28 : decode cX11_restore 28 = .ok (.getfield 15, 3) := dk_getfield 15 (b1 := 0) (b2 := 15) (by decide +kernel) (by decide +kernel) (by decide +kernel) (by decide +kernel)
theorem dX11_restore_31 : decode cX11_restore 31 = .ok (.iload_n 1, 1) := dk_iload_n_1 (by decide +kernel)
theorem dX11_restore_32 : decode cX11_restore 32 = .ok (.aaload, 1) := dk_aaload (by decide +kernel)
theorem dX11_restore_33 : decode cX11_restore 33 = .ok (.invokevirtual 155, 3) := dk_invokevirtual 155 (b1 := 0) (b2 := 155) (by decide +kernel) (by decide +kernel) (by decide +kernel) (by decide +kernel)
theorem dX11_restore_36 : decode cX11_restore 36 = .ok (.iinc 1 1, 3) := dk_iinc 1 1 (b1 := 1) (b2 := 1) (by decide +kernel) (by decide +kernel) (by decide +kernel) (by decide +kernel) (by decide +kernel)
theorem dX11_restore_39 : decode cX11_restore 39 = .ok (.goto (-24), 3) := dk_goto (-24) (b1 := 255) (b2 := 232) (by decide +kernel) (by decide +kernel) (by decide +kernel) (by decide +kernel)
set_option maxRecDepth 20000 in
theorem vX11_restore_15 {E : sm_E} {L : sm_S → Prop} {d : Nat} {vs : List Value} {x1 : Int32}  {m : sm_M} {Q : Int32 → sm_M → Prop} (hly : ∀ S, L S → ly S) (hd : 2 ≤ d) 
  (h : (6 ≤ x1 →
      ∀ m_1 : sm_M, m_1 = sm_wI m 0 13 (m.1 0 14) →
      sm_callI E L mX11_allCrossings 1 0 0 [.ref (sm_B E + 0)] m_1 (fun r_3 m_2 =>
      Q r_3 m_2)) ∧
   (¬ 6 ≤ x1 →
      (vp_in x1 6) ∧ (vp_in x1 6) ∧ sm_callV E L mX8_copy 1 0 0 [.ref (sm_B E + (77 + 4 * x1.toNatClampNeg)), .ref (sm_B E + (79 + 4 * x1.toNatClampNeg))] m (fun m_6 =>
      ∀ x1_7 : Int32, x1_7 = x1 + 1 →
      gX11_restore_15 E L d vs x1_7 m_6 Q))) :
  gX11_restore_15 E L d vs x1 m Q := by
  refine sm_iload_n (Y := mX11_restore) (pc := 15) 1 1 rfl rfl dX11_restore_15 ?_
  refine sm_bipush (Y := mX11_restore) (pc := 16) 6 (by decide) dX11_restore_16 ?_
  refine sm_icmp_ge (Y := mX11_restore) (pc := 18) 42 (by decide) dX11_restore_18 (fun hc => ?_) (fun hc => ?_)
  · replace h := h.1 hc
    refine sm_aload_n (Y := mX11_restore) (pc := 42) 0 0 rfl rfl dX11_restore_42 ?_
    refine sm_aload_n (Y := mX11_restore) (pc := 43) 0 0 rfl rfl dX11_restore_43 ?_
    refine gf_RX11_93 (Y := mX11_restore) (pc := 44) rfl ((lk_0 hly) _) dX11_restore_44 ?_
    refine pf_RX11_89 (Y := mX11_restore) (pc := 47) rfl ((lk_0 hly) _) dX11_restore_47 (fun m_1 em_1 => ?_)
    replace h := h m_1 em_1
    refine sm_aload_n (Y := mX11_restore) (pc := 50) 0 0 rfl rfl dX11_restore_50 ?_
    refine sm_iv_I (Y := mX11_restore) (pc := 51) (As := []) (a := 0) fX11_allCrossings wRX11_370 (lk_0 hly) (by decide) rfl rfl rfl (Nat.le_trans (by decide) hd) (Nat.le_of_ble_eq_true rfl) ⟨Nat.le_refl _, Nat.le_refl _⟩ dX11_restore_51 rfl (sm_monoI h (fun r_3 m_2 h => ?_))
    exact sm_iret (Y := mX11_restore) (pc := 54) rfl rfl rfl dX11_restore_54 ⟨_, rfl, h⟩
  · replace h := h.2 hc
    refine sm_aload_n (Y := mX11_restore) (pc := 21) 0 0 rfl rfl dX11_restore_21 ?_
    refine gf_RX11_11 (Y := mX11_restore) (pc := 22) (b := 1) rfl ((lk_0 hly) _) (lf_0_0 hly _) dX11_restore_22 ?_
    refine sm_iload_n (Y := mX11_restore) (pc := 25) 1 1 rfl rfl dX11_restore_25 ?_
    obtain ⟨hn_4, h⟩ := h
    refine sm_aaldG (Y := mX11_restore) (pc := 26) (b := (77 + 4 * x1.toNatClampNeg)) (la_1 hly _) hn_4 (ly_slotR hly (sm_inlt hn_4) _) dX11_restore_26 ?_
    refine sm_aload_n (Y := mX11_restore) (pc := 27) 0 0 rfl rfl dX11_restore_27 ?_
    refine gf_RX11_15 (Y := mX11_restore) (pc := 28) (b := 2) rfl ((lk_0 hly) _) (lf_0_1 hly _) dX11_restore_28 ?_
    refine sm_iload_n (Y := mX11_restore) (pc := 31) 1 1 rfl rfl dX11_restore_31 ?_
    obtain ⟨hn_5, h⟩ := h
    refine sm_aaldG (Y := mX11_restore) (pc := 32) (b := (79 + 4 * x1.toNatClampNeg)) (la_2 hly _) hn_5 (ly_keptR hly (sm_inlt hn_5) _) dX11_restore_32 ?_
    refine sm_iv_V (Y := mX11_restore) (pc := 33) (As := [.ref (sm_B E + (79 + 4 * x1.toNatClampNeg))]) (a := (77 + 4 * x1.toNatClampNeg)) fX8_copy wRX11_155 (fun S hS => ((ly_slotT hly (sm_inlt hn_4)) S hS).1) (by decide) rfl rfl rfl (Nat.le_trans (by decide) hd) (Nat.le_of_ble_eq_true rfl) ⟨Nat.le_refl _, Nat.le_refl _⟩ dX11_restore_33 rfl (sm_monoV h (fun m_6 h => ?_))
    refine sm_iinc (Y := mX11_restore) (pc := 36) (fun y => [(1, .int y), (0, .ref (sm_B E + 0))]) 1 1 rfl (by decide) (fun _ => rfl) dX11_restore_36 (fun x1_7 ex1_7 => ?_)
    replace h := h x1_7 ex1_7
    refine sm_goto (Y := mX11_restore) (pc := 39) 15 (by decide) dX11_restore_39 ?_
    refine sm_sub [1, 0] rfl ?_
    exact h
theorem dX11_restore_0 : decode cX11_restore 0 = .ok (.aload_n 0, 1) := dk_aload_n_0 (by decide +kernel)
theorem dX11_restore_1 : decode cX11_restore 1 = .ok (.getfield 96, 3) := dk_getfield 96 (b1 := 0) (b2 := 96) (by decide +kernel) (by decide +kernel) (by decide +kernel) (by decide +kernel)
theorem dX11_restore_4 : decode cX11_restore 4 = .ok (.ifCond .ne 9, 3) := dk_ifCond_ne 9 (b1 := 0) (b2 := 9) (by decide +kernel) (by decide +kernel) (by decide +kernel) (by decide +kernel)
theorem dX11_restore_13 : decode cX11_restore 13 = .ok (.iconst 0, 1) := dk_iconst_0 (by decide +kernel)
theorem dX11_restore_14 : decode cX11_restore 14 = .ok (.istore_n 1, 1) := dk_istore_n_1 (by decide +kernel)
theorem dX11_restore_7 : decode cX11_restore 7 = .ok (.aload_n 0, 1) := dk_aload_n_0 (by decide +kernel)
theorem dX11_restore_8 : decode cX11_restore 8 = .ok (.iconst 2, 1) := dk_iconst_2 (by decide +kernel)
theorem dX11_restore_9 : decode cX11_restore 9 = .ok (.invokevirtual 103, 3) := dk_invokevirtual 103 (b1 := 0) (b2 := 103) (by decide +kernel) (by decide +kernel) (by decide +kernel) (by decide +kernel)
theorem dX11_restore_12 : decode cX11_restore 12 = .ok (.ireturn, 1) := dk_ireturn (by decide +kernel)
set_option maxRecDepth 20000 in
theorem vX11_restore_0 {E : sm_E} {L : sm_S → Prop} {d : Nat}   {m : sm_M} {Q : Int32 → sm_M → Prop} (hly : ∀ S, L S → ly S) (hd : 2 ≤ d) 
  (h : (¬ (m.1 0 15) = 0 →
      gX11_restore_15 E L d ([.ref (sm_B E + 0)]) 0 m Q) ∧
   ((m.1 0 15) = 0 →
      sm_callI E L mX11_error 1 0 0 [.ref (sm_B E + 0), .int 2] m (fun r_3 m_2 =>
      Q r_3 m_2))) :
  sm_callI E L mX11_restore d 0 0 [.ref (sm_B E + 0)] m Q := by
  refine sm_enter (by decide +kernel) (by simp [lg_sl, Value.category]) ?_
  refine sm_aload_n (Y := mX11_restore) (pc := 0) 0 0 rfl rfl dX11_restore_0 ?_
  refine gf_RX11_96 (Y := mX11_restore) (pc := 1) rfl ((lk_0 hly) _) dX11_restore_1 ?_
  refine sm_if_ne (Y := mX11_restore) (pc := 4) 13 (by decide) dX11_restore_4 (fun hc => ?_) (fun hc => ?_)
  · replace h := h.1 hc
    refine sm_iconst (Y := mX11_restore) (pc := 13) 0 (by decide) dX11_restore_13 ?_
    refine sm_istore0_n (Y := mX11_restore) (pc := 14) [(1, .int 0), (0, .ref (sm_B E + 0))] 1 rfl (by decide) rfl dX11_restore_14 ?_
    refine sm_sub [1, 0] rfl ?_
    exact h
  · replace h := h.2 hc
    refine sm_aload_n (Y := mX11_restore) (pc := 7) 0 0 rfl rfl dX11_restore_7 ?_
    refine sm_iconst (Y := mX11_restore) (pc := 8) 2 (by decide) dX11_restore_8 ?_
    refine sm_iv_I (Y := mX11_restore) (pc := 9) (As := [.int 2]) (a := 0) fX11_error wRX11_103 (lk_0 hly) (by decide) rfl rfl rfl (Nat.le_trans (by decide) hd) (Nat.le_of_ble_eq_true rfl) ⟨Nat.le_refl _, Nat.le_refl _⟩ dX11_restore_9 rfl (sm_monoI h (fun r_3 m_2 h => ?_))
    exact sm_iret (Y := mX11_restore) (pc := 12) rfl rfl rfl dX11_restore_12 ⟨_, rfl, h⟩
abbrev mX11_count : sm_Y := (yX11_count, cX11_count, 2, (some FieldType.int))
theorem fX11_count : sm_mi mX11_count RX11 1 := ⟨sm_in 1144 (by decide +kernel) (by decide +kernel), sm_in 1142 (by decide +kernel) (by decide +kernel), sm_in 1143 (by decide +kernel) (by decide +kernel), sm_in 82 (by decide +kernel) (by decide +kernel), rfl, ⟨by decide +kernel, by decide +kernel, by decide +kernel⟩, by decide⟩
theorem dX11_count_0 : decode cX11_count 0 = .ok (.iload_n 1, 1) := dk_iload_n_1 (by decide +kernel)
theorem dX11_count_1 : decode cX11_count 1 = .ok (.tableswitch 78 0 5 #[39, 44, 49, 57, 65, 73], 39) := by decide +kernel
theorem dX11_count_40 : decode cX11_count 40 = .ok (.aload_n 0, 1) := dk_aload_n_0 (by decide +kernel)
theorem dX11_count_41 : decode cX11_count 41 = .ok (.invokevirtual 370, 3) := dk_invokevirtual 370 (b1 := 1) (b2 := 114) (by decide +kernel) (by decide +kernel) (by decide +kernel) (by decide +kernel)
theorem dX11_count_44 : decode cX11_count 44 = .ok (.ireturn, 1) := dk_ireturn (by decide +kernel)
theorem dX11_count_45 : decode cX11_count 45 = .ok (.aload_n 0, 1) := dk_aload_n_0 (by decide +kernel)
theorem wRX11_373 : Cond.methodLink RX11 373 yX11_allRational ∈ sm_T := sm_in 1145 (by decide +kernel) (by decide +kernel)
abbrev mX11_allRational : sm_Y := (yX11_allRational, cX11_allRational, 3, (some FieldType.int))
theorem fX11_allRational : sm_mi mX11_allRational RX11 0 := ⟨sm_in 1148 (by decide +kernel) (by decide +kernel), sm_in 1147 (by decide +kernel) (by decide +kernel), sm_in 39 (by decide +kernel) (by decide +kernel), sm_in 82 (by decide +kernel) (by decide +kernel), rfl, ⟨by decide +kernel, by decide +kernel, by decide +kernel⟩, by decide⟩
theorem dX11_count_46 : decode cX11_count 46 = .ok (.invokevirtual 373, 3) := dk_invokevirtual 373 (b1 := 1) (b2 := 117) (by decide +kernel) (by decide +kernel) (by decide +kernel) (by decide +kernel)
theorem dX11_count_49 : decode cX11_count 49 = .ok (.ireturn, 1) := dk_ireturn (by decide +kernel)
theorem dX11_count_50 : decode cX11_count 50 = .ok (.aload_n 0, 1) := dk_aload_n_0 (by decide +kernel)
theorem dX11_count_51 : decode cX11_count 51 = .ok (.getfield 35, 3) := dk_getfield 35 (b1 := 0) (b2 := 35) (by decide +kernel) (by decide +kernel) (by decide +kernel) (by decide +kernel)
theorem dX11_count_54 : decode cX11_count 54 = .ok (.getfield 173, 3) := dk_getfield 173 (b1 := 0) (b2 := 173) (by decide +kernel) (by decide +kernel) (by decide +kernel) (by decide +kernel)
theorem dX11_count_57 : decode cX11_count 57 = .ok (.ireturn, 1) := dk_ireturn (by decide +kernel)
theorem dX11_count_58 : decode cX11_count 58 = .ok (.aload_n 0, 1) := dk_aload_n_0 (by decide +kernel)
theorem dX11_count_59 : decode cX11_count 59 = .ok (.getfield 70, 3) := dk_getfield 70 (b1 := 0) (b2 := 70) (by decide +kernel) (by decide +kernel) (by decide +kernel) (by decide +kernel)
theorem dX11_count_62 : decode cX11_count 62 = .ok (.getfield 376, 3) := dk_getfield 376 (b1 := 1) (b2 := 120) (by decide +kernel) (by decide +kernel) (by decide +kernel) (by decide +kernel)
theorem dX11_count_65 : decode cX11_count 65 = .ok (.ireturn, 1) := dk_ireturn (by decide +kernel)
theorem dX11_count_66 : decode cX11_count 66 = .ok (.aload_n 0, 1) := dk_aload_n_0 (by decide +kernel)
theorem dX11_count_67 : decode cX11_count 67 = .ok (.getfield 70, 3) := dk_getfield 70 (b1 := 0) (b2 := 70) (by decide +kernel) (by decide +kernel) (by decide +kernel) (by decide +kernel)
theorem dX11_count_70 : decode cX11_count 70 = .ok (.getfield 377, 3) := dk_getfield 377 (b1 := 1) (b2 := 121) (by decide +kernel) (by decide +kernel) (by decide +kernel) (by decide +kernel)
theorem dX11_count_73 : decode cX11_count 73 = .ok (.ireturn, 1) := dk_ireturn (by decide +kernel)
theorem dX11_count_74 : decode cX11_count 74 = .ok (.aload_n 0, 1) := dk_aload_n_0 (by decide +kernel)
theorem dX11_count_75 : decode cX11_count 75 = .ok (.getfield 89, 3) := dk_getfield 89 (b1 := 0) (b2 := 89) (by decide +kernel) (by decide +kernel) (by decide +kernel) (by decide +kernel)
theorem dX11_count_78 : decode cX11_count 78 = .ok (.ireturn, 1) := dk_ireturn (by decide +kernel)
theorem dX11_count_79 : decode cX11_count 79 = .ok (.aload_n 0, 1) := dk_aload_n_0 (by decide +kernel)
theorem dX11_count_80 : decode cX11_count 80 = .ok (.iconst 1, 1) := dk_iconst_1 (by decide +kernel)
theorem dX11_count_81 : decode cX11_count 81 = .ok (.invokevirtual 103, 3) := dk_invokevirtual 103 (b1 := 0) (b2 := 103) (by decide +kernel) (by decide +kernel) (by decide +kernel) (by decide +kernel)
theorem dX11_count_84 : decode cX11_count 84 = .ok (.ireturn, 1) := dk_ireturn (by decide +kernel)
set_option maxRecDepth 20000 in
theorem vX11_count_0 {E : sm_E} {L : sm_S → Prop} {d : Nat} {x1 : Int32}  {m : sm_M} {Q : Int32 → sm_M → Prop} (hly : ∀ S, L S → ly S) (hd : 2 ≤ d) 
  (h : (x1 = 0 →
      sm_callI E L mX11_allCrossings 1 0 0 [.ref (sm_B E + 0)] m (fun r_2 m_1 =>
      Q r_2 m_1)) ∧
   (x1 = 1 →
      sm_callI E L mX11_allRational 1 0 0 [.ref (sm_B E + 0)] m (fun r_4 m_3 =>
      Q r_4 m_3)) ∧
   (x1 = 2 →
      Q (m.1 10 4) m) ∧
   (x1 = 3 →
      Q (m.1 70 2) m) ∧
   (x1 = 4 →
      Q (m.1 70 3) m) ∧
   (x1 = 5 →
      Q (m.1 0 13) m) ∧
   ((¬ x1 = 0 ∧ ¬ x1 = 1 ∧ ¬ x1 = 2 ∧ ¬ x1 = 3 ∧ ¬ x1 = 4 ∧ ¬ x1 = 5) →
      sm_callI E L mX11_error 1 0 0 [.ref (sm_B E + 0), .int 1] m (fun r_6 m_5 =>
   Q r_6 m_5))) :
  sm_callI E L mX11_count d 0 0 [.ref (sm_B E + 0), .int x1] m Q := by
  refine sm_enter (by decide +kernel) (by simp [lg_sl, Value.category]) ?_
  refine sm_iload_n (Y := mX11_count) (pc := 0) 1 1 rfl rfl dX11_count_0 ?_
  by_cases hs1_0 : x1 = 0
  · refine sm_tableIn (Y := mX11_count) (pc := 1) 40 (by rw [hs1_0]; decide) (by rw [hs1_0]; decide) (by first | (rw [hs1_0]; done) | (rw [hs1_0]; rfl)) (by decide) dX11_count_1 ?_
    replace h := h.1 hs1_0
    refine sm_aload_n (Y := mX11_count) (pc := 40) 0 0 rfl rfl dX11_count_40 ?_
    refine sm_iv_I (Y := mX11_count) (pc := 41) (As := []) (a := 0) fX11_allCrossings wRX11_370 (lk_0 hly) (by decide) rfl rfl rfl (Nat.le_trans (by decide) hd) (Nat.le_of_ble_eq_true rfl) ⟨Nat.le_refl _, Nat.le_refl _⟩ dX11_count_41 rfl (sm_monoI h (fun r_2 m_1 h => ?_))
    exact sm_iret (Y := mX11_count) (pc := 44) rfl rfl rfl dX11_count_44 ⟨_, rfl, h⟩
  replace h := h.2
  by_cases hs1_1 : x1 = 1
  · refine sm_tableIn (Y := mX11_count) (pc := 1) 45 (by rw [hs1_1]; decide) (by rw [hs1_1]; decide) (by first | (rw [hs1_1]; done) | (rw [hs1_1]; rfl)) (by decide) dX11_count_1 ?_
    replace h := h.1 hs1_1
    refine sm_aload_n (Y := mX11_count) (pc := 45) 0 0 rfl rfl dX11_count_45 ?_
    refine sm_iv_I (Y := mX11_count) (pc := 46) (As := []) (a := 0) fX11_allRational wRX11_373 (lk_0 hly) (by decide) rfl rfl rfl (Nat.le_trans (by decide) hd) (Nat.le_of_ble_eq_true rfl) ⟨Nat.le_refl _, Nat.le_refl _⟩ dX11_count_46 rfl (sm_monoI h (fun r_4 m_3 h => ?_))
    exact sm_iret (Y := mX11_count) (pc := 49) rfl rfl rfl dX11_count_49 ⟨_, rfl, h⟩
  replace h := h.2
  by_cases hs1_2 : x1 = 2
  · refine sm_tableIn (Y := mX11_count) (pc := 1) 50 (by rw [hs1_2]; decide) (by rw [hs1_2]; decide) (by first | (rw [hs1_2]; done) | (rw [hs1_2]; rfl)) (by decide) dX11_count_1 ?_
    replace h := h.1 hs1_2
    refine sm_aload_n (Y := mX11_count) (pc := 50) 0 0 rfl rfl dX11_count_50 ?_
    refine gf_RX11_35 (Y := mX11_count) (pc := 51) (b := 10) rfl ((lk_0 hly) _) (lf_0_4 hly _) dX11_count_51 ?_
    refine gf_RX11_173 (Y := mX11_count) (pc := 54) rfl ((lk_10 hly) _) dX11_count_54 ?_
    exact sm_iret (Y := mX11_count) (pc := 57) rfl rfl rfl dX11_count_57 ⟨_, rfl, h⟩
  replace h := h.2
  by_cases hs1_3 : x1 = 3
  · refine sm_tableIn (Y := mX11_count) (pc := 1) 58 (by rw [hs1_3]; decide) (by rw [hs1_3]; decide) (by first | (rw [hs1_3]; done) | (rw [hs1_3]; rfl)) (by decide) dX11_count_1 ?_
    replace h := h.1 hs1_3
    refine sm_aload_n (Y := mX11_count) (pc := 58) 0 0 rfl rfl dX11_count_58 ?_
    refine gf_RX11_70 (Y := mX11_count) (pc := 59) (b := 70) rfl ((lk_0 hly) _) (lf_0_9 hly _) dX11_count_59 ?_
    refine gf_RX11_376 (Y := mX11_count) (pc := 62) rfl ((lk_70 hly) _) dX11_count_62 ?_
    exact sm_iret (Y := mX11_count) (pc := 65) rfl rfl rfl dX11_count_65 ⟨_, rfl, h⟩
  replace h := h.2
  by_cases hs1_4 : x1 = 4
  · refine sm_tableIn (Y := mX11_count) (pc := 1) 66 (by rw [hs1_4]; decide) (by rw [hs1_4]; decide) (by first | (rw [hs1_4]; done) | (rw [hs1_4]; rfl)) (by decide) dX11_count_1 ?_
    replace h := h.1 hs1_4
    refine sm_aload_n (Y := mX11_count) (pc := 66) 0 0 rfl rfl dX11_count_66 ?_
    refine gf_RX11_70 (Y := mX11_count) (pc := 67) (b := 70) rfl ((lk_0 hly) _) (lf_0_9 hly _) dX11_count_67 ?_
    refine gf_RX11_377 (Y := mX11_count) (pc := 70) rfl ((lk_70 hly) _) dX11_count_70 ?_
    exact sm_iret (Y := mX11_count) (pc := 73) rfl rfl rfl dX11_count_73 ⟨_, rfl, h⟩
  replace h := h.2
  by_cases hs1_5 : x1 = 5
  · refine sm_tableIn (Y := mX11_count) (pc := 1) 74 (by rw [hs1_5]; decide) (by rw [hs1_5]; decide) (by first | (rw [hs1_5]; done) | (rw [hs1_5]; rfl)) (by decide) dX11_count_1 ?_
    replace h := h.1 hs1_5
    refine sm_aload_n (Y := mX11_count) (pc := 74) 0 0 rfl rfl dX11_count_74 ?_
    refine gf_RX11_89 (Y := mX11_count) (pc := 75) rfl ((lk_0 hly) _) dX11_count_75 ?_
    exact sm_iret (Y := mX11_count) (pc := 78) rfl rfl rfl dX11_count_78 ⟨_, rfl, h⟩
  replace h := h.2
  refine sm_tableOut (Y := mX11_count) (pc := 1) 79 (sm_tout (lo := 0) 6 (fun j hj => by
      match j, hj with
      | 0, _ => exact lv_neT hs1_0 (by decide)
      | 1, _ => exact lv_neT hs1_1 (by decide)
      | 2, _ => exact lv_neT hs1_2 (by decide)
      | 3, _ => exact lv_neT hs1_3 (by decide)
      | 4, _ => exact lv_neT hs1_4 (by decide)
      | 5, _ => exact lv_neT hs1_5 (by decide)
      | j + 6, hj => exact absurd hj (by omega))) (by decide) dX11_count_1 ?_
  replace h := h ⟨hs1_0, hs1_1, hs1_2, hs1_3, hs1_4, hs1_5⟩
  refine sm_aload_n (Y := mX11_count) (pc := 79) 0 0 rfl rfl dX11_count_79 ?_
  refine sm_iconst (Y := mX11_count) (pc := 80) 1 (by decide) dX11_count_80 ?_
  refine sm_iv_I (Y := mX11_count) (pc := 81) (As := [.int 1]) (a := 0) fX11_error wRX11_103 (lk_0 hly) (by decide) rfl rfl rfl (Nat.le_trans (by decide) hd) (Nat.le_of_ble_eq_true rfl) ⟨Nat.le_refl _, Nat.le_refl _⟩ dX11_count_81 rfl (sm_monoI h (fun r_6 m_5 h => ?_))
  exact sm_iret (Y := mX11_count) (pc := 84) rfl rfl rfl dX11_count_84 ⟨_, rfl, h⟩
abbrev mX11_told : sm_Y := (yX11_told, cX11_told, 2, (some FieldType.int))
theorem fX11_told : sm_mi mX11_told RX11 1 := ⟨sm_in 1152 (by decide +kernel) (by decide +kernel), sm_in 1150 (by decide +kernel) (by decide +kernel), sm_in 1151 (by decide +kernel) (by decide +kernel), sm_in 82 (by decide +kernel) (by decide +kernel), rfl, ⟨by decide +kernel, by decide +kernel, by decide +kernel⟩, by decide⟩
theorem dX11_told_0 : decode cX11_told 0 = .ok (.iload_n 1, 1) := dk_iload_n_1 (by decide +kernel)
theorem dX11_told_1 : decode cX11_told 1 = .ok (.iconst 1, 1) := dk_iconst_1 (by decide +kernel)
theorem dX11_told_2 : decode cX11_told 2 = .ok (.if_icmp .lt 9, 3) := dk_if_icmp_lt 9 (b1 := 0) (b2 := 9) (by decide +kernel) (by decide +kernel) (by decide +kernel) (by decide +kernel)
theorem dX11_told_11 : decode cX11_told 11 = .ok (.aload_n 0, 1) := dk_aload_n_0 (by decide +kernel)
theorem dX11_told_12 : decode cX11_told 12 = .ok (.iconst 1, 1) := dk_iconst_1 (by decide +kernel)
theorem dX11_told_13 : decode cX11_told 13 = .ok (.invokevirtual 103, 3) := dk_invokevirtual 103 (b1 := 0) (b2 := 103) (by decide +kernel) (by decide +kernel) (by decide +kernel) (by decide +kernel)
theorem dX11_told_16 : decode cX11_told 16 = .ok (.ireturn, 1) := dk_ireturn (by decide +kernel)
theorem dX11_told_5 : decode cX11_told 5 = .ok (.iload_n 1, 1) := dk_iload_n_1 (by decide +kernel)
theorem dX11_told_6 : decode cX11_told 6 = .ok (.bipush 6, 2) := dk_bipush 6 (b := 6) (by decide +kernel) (by decide +kernel) (by decide +kernel)
theorem dX11_told_8 : decode cX11_told 8 = .ok (.if_icmp .le 9, 3) := dk_if_icmp_le 9 (b1 := 0) (b2 := 9) (by decide +kernel) (by decide +kernel) (by decide +kernel) (by decide +kernel)
theorem dX11_told_17 : decode cX11_told 17 = .ok (.aload_n 0, 1) := dk_aload_n_0 (by decide +kernel)
theorem dX11_told_18 : decode cX11_told 18 = .ok (.getfield 85, 3) := dk_getfield 85 (b1 := 0) (b2 := 85) (by decide +kernel) (by decide +kernel) (by decide +kernel) (by decide +kernel)
theorem dX11_told_21 : decode cX11_told 21 = .ok (.iload_n 1, 1) := dk_iload_n_1 (by decide +kernel)
theorem dX11_told_22 : decode cX11_told 22 = .ok (.iaload, 1) := dk_iaload (by decide +kernel)
theorem dX11_told_23 : decode cX11_told 23 = .ok (.ireturn, 1) := dk_ireturn (by decide +kernel)
set_option maxRecDepth 20000 in
theorem vX11_told_0 {E : sm_E} {L : sm_S → Prop} {d : Nat} {x1 : Int32}  {m : sm_M} {Q : Int32 → sm_M → Prop} (hly : ∀ S, L S → ly S) (hd : 2 ≤ d) 
  (h : (x1 < 1 →
      sm_callI E L mX11_error 1 0 0 [.ref (sm_B E + 0), .int 1] m (fun r_2 m_1 =>
      Q r_2 m_1)) ∧
   (¬ x1 < 1 →
      (x1 ≤ 6 →
         (vp_in x1 7) ∧ Q (m.1 76 x1.toNatClampNeg) m) ∧
      (¬ x1 ≤ 6 →
         sm_callI E L mX11_error 1 0 0 [.ref (sm_B E + 0), .int 1] m (fun r_5 m_4 =>
         Q r_5 m_4)))) :
  sm_callI E L mX11_told d 0 0 [.ref (sm_B E + 0), .int x1] m Q := by
  refine sm_enter (by decide +kernel) (by simp [lg_sl, Value.category]) ?_
  refine sm_iload_n (Y := mX11_told) (pc := 0) 1 1 rfl rfl dX11_told_0 ?_
  refine sm_iconst (Y := mX11_told) (pc := 1) 1 (by decide) dX11_told_1 ?_
  refine sm_icmp_lt (Y := mX11_told) (pc := 2) 11 (by decide) dX11_told_2 (fun hc => ?_) (fun hc => ?_)
  · replace h := h.1 hc
    refine sm_aload_n (Y := mX11_told) (pc := 11) 0 0 rfl rfl dX11_told_11 ?_
    refine sm_iconst (Y := mX11_told) (pc := 12) 1 (by decide) dX11_told_12 ?_
    refine sm_iv_I (Y := mX11_told) (pc := 13) (As := [.int 1]) (a := 0) fX11_error wRX11_103 (lk_0 hly) (by decide) rfl rfl rfl (Nat.le_trans (by decide) hd) (Nat.le_of_ble_eq_true rfl) ⟨Nat.le_refl _, Nat.le_refl _⟩ dX11_told_13 rfl (sm_monoI h (fun r_2 m_1 h => ?_))
    exact sm_iret (Y := mX11_told) (pc := 16) rfl rfl rfl dX11_told_16 ⟨_, rfl, h⟩
  · replace h := h.2 hc
    refine sm_iload_n (Y := mX11_told) (pc := 5) 1 1 rfl rfl dX11_told_5 ?_
    refine sm_bipush (Y := mX11_told) (pc := 6) 6 (by decide) dX11_told_6 ?_
    refine sm_icmp_le (Y := mX11_told) (pc := 8) 17 (by decide) dX11_told_8 (fun hc => ?_) (fun hc => ?_)
    · replace h := h.1 hc
      refine sm_aload_n (Y := mX11_told) (pc := 17) 0 0 rfl rfl dX11_told_17 ?_
      refine gf_RX11_85 (Y := mX11_told) (pc := 18) (b := 76) rfl ((lk_0 hly) _) (lf_0_12 hly _) dX11_told_18 ?_
      refine sm_iload_n (Y := mX11_told) (pc := 21) 1 1 rfl rfl dX11_told_21 ?_
      obtain ⟨hn_3, h⟩ := h
      refine sm_iald (Y := mX11_told) (pc := 22) (la_76 hly _) hn_3 dX11_told_22 ?_
      exact sm_iret (Y := mX11_told) (pc := 23) rfl rfl rfl dX11_told_23 ⟨_, rfl, h⟩
    · replace h := h.2 hc
      refine sm_aload_n (Y := mX11_told) (pc := 11) 0 0 rfl rfl dX11_told_11 ?_
      refine sm_iconst (Y := mX11_told) (pc := 12) 1 (by decide) dX11_told_12 ?_
      refine sm_iv_I (Y := mX11_told) (pc := 13) (As := [.int 1]) (a := 0) fX11_error wRX11_103 (lk_0 hly) (by decide) rfl rfl rfl (Nat.le_trans (by decide) hd) (Nat.le_of_ble_eq_true rfl) ⟨Nat.le_refl _, Nat.le_refl _⟩ dX11_told_13 rfl (sm_monoI h (fun r_5 m_4 h => ?_))
      exact sm_iret (Y := mX11_told) (pc := 16) rfl rfl rfl dX11_told_16 ⟨_, rfl, h⟩
theorem dX11_error_0 : decode cX11_error 0 = .ok (.aload_n 0, 1) := dk_aload_n_0 (by decide +kernel)
theorem dX11_error_1 : decode cX11_error 1 = .ok (.getfield 85, 3) := dk_getfield 85 (b1 := 0) (b2 := 85) (by decide +kernel) (by decide +kernel) (by decide +kernel) (by decide +kernel)
theorem dX11_error_4 : decode cX11_error 4 = .ok (.iload_n 1, 1) := dk_iload_n_1 (by decide +kernel)
theorem dX11_error_5 : decode cX11_error 5 = .ok (.dup2, 1) := dk_dup2 (by decide +kernel)
theorem dX11_error_6 : decode cX11_error 6 = .ok (.iaload, 1) := dk_iaload (by decide +kernel)
theorem dX11_error_7 : decode cX11_error 7 = .ok (.iconst 1, 1) := dk_iconst_1 (by decide +kernel)
theorem dX11_error_8 : decode cX11_error 8 = .ok (.iadd, 1) := dk_iadd (by decide +kernel)
theorem dX11_error_9 : decode cX11_error 9 = .ok (.iastore, 1) := dk_iastore (by decide +kernel)
theorem wRX11_380 : Cond.constant RX11 380 (-1000000000) ∈ sm_T := sm_in 440 (by decide +kernel) (by decide +kernel)
theorem dX11_error_10 : decode cX11_error 10 = .ok (.ldc_w 380, 3) := dk_ldc_w 380 (b1 := 1) (b2 := 124) (by decide +kernel) (by decide +kernel) (by decide +kernel) (by decide +kernel)
theorem dX11_error_13 : decode cX11_error 13 = .ok (.iload_n 1, 1) := dk_iload_n_1 (by decide +kernel)
theorem dX11_error_14 : decode cX11_error 14 = .ok (.isub, 1) := dk_isub (by decide +kernel)
theorem dX11_error_15 : decode cX11_error 15 = .ok (.ireturn, 1) := dk_ireturn (by decide +kernel)
set_option maxRecDepth 20000 in
theorem vX11_error_0 {E : sm_E} {L : sm_S → Prop} {d : Nat} {x1 : Int32}  {m : sm_M} {Q : Int32 → sm_M → Prop} (hly : ∀ S, L S → ly S) (hd : 1 ≤ d) 
  (h : (vp_in x1 7) ∧ (vp_in x1 7) ∧ ∀ m_2 : sm_M, m_2 = sm_wI m 76 x1.toNatClampNeg ((m.1 76 x1.toNatClampNeg) + 1) →
   Q ((-1000000000 : Int32) - x1) m_2) :
  sm_callI E L mX11_error d 0 0 [.ref (sm_B E + 0), .int x1] m Q := by
  refine sm_enter (by decide +kernel) (by simp [lg_sl, Value.category]) ?_
  refine sm_aload_n (Y := mX11_error) (pc := 0) 0 0 rfl rfl dX11_error_0 ?_
  refine gf_RX11_85 (Y := mX11_error) (pc := 1) (b := 76) rfl ((lk_0 hly) _) (lf_0_12 hly _) dX11_error_1 ?_
  refine sm_iload_n (Y := mX11_error) (pc := 4) 1 1 rfl rfl dX11_error_4 ?_
  refine sm_dup2_11 (Y := mX11_error) (pc := 5) rfl rfl dX11_error_5 ?_
  obtain ⟨hn_1, h⟩ := h
  refine sm_iald (Y := mX11_error) (pc := 6) (la_76 hly _) hn_1 dX11_error_6 ?_
  refine sm_iconst (Y := mX11_error) (pc := 7) 1 (by decide) dX11_error_7 ?_
  refine sm_iadd (Y := mX11_error) (pc := 8) dX11_error_8 ?_
  obtain ⟨hn_3, h⟩ := h
  refine sm_iast (Y := mX11_error) (pc := 9) (la_76 hly _) hn_3 dX11_error_9 (fun m_2 em_2 => ?_)
  replace h := h m_2 em_2
  refine sm_ldc_w (Y := mX11_error) (pc := 10) (-1000000000) wRX11_380 dX11_error_10 ?_
  refine sm_iload_n (Y := mX11_error) (pc := 13) 1 1 rfl rfl dX11_error_13 ?_
  refine sm_isub (Y := mX11_error) (pc := 14) dX11_error_14 ?_
  exact sm_iret (Y := mX11_error) (pc := 15) rfl rfl rfl dX11_error_15 ⟨_, rfl, h⟩
theorem dX11_longError_0 : decode cX11_longError 0 = .ok (.aload_n 0, 1) := dk_aload_n_0 (by decide +kernel)
theorem dX11_longError_1 : decode cX11_longError 1 = .ok (.getfield 85, 3) := dk_getfield 85 (b1 := 0) (b2 := 85) (by decide +kernel) (by decide +kernel) (by decide +kernel) (by decide +kernel)
theorem dX11_longError_4 : decode cX11_longError 4 = .ok (.iload_n 1, 1) := dk_iload_n_1 (by decide +kernel)
theorem dX11_longError_5 : decode cX11_longError 5 = .ok (.dup2, 1) := dk_dup2 (by decide +kernel)
theorem dX11_longError_6 : decode cX11_longError 6 = .ok (.iaload, 1) := dk_iaload (by decide +kernel)
theorem dX11_longError_7 : decode cX11_longError 7 = .ok (.iconst 1, 1) := dk_iconst_1 (by decide +kernel)
theorem dX11_longError_8 : decode cX11_longError 8 = .ok (.iadd, 1) := dk_iadd (by decide +kernel)
theorem dX11_longError_9 : decode cX11_longError 9 = .ok (.iastore, 1) := dk_iastore (by decide +kernel)
theorem wRX11_381 : Cond.constantLong RX11 381 (-9000000000000000000) ∈ sm_T := sm_in 1074 (by decide +kernel) (by decide +kernel)
theorem dX11_longError_10 : decode cX11_longError 10 = .ok (.ldc2_w 381, 3) := dk_ldc2_w 381 (b1 := 1) (b2 := 125) (by decide +kernel) (by decide +kernel) (by decide +kernel) (by decide +kernel)
theorem dX11_longError_13 : decode cX11_longError 13 = .ok (.iload_n 1, 1) := dk_iload_n_1 (by decide +kernel)
theorem dX11_longError_14 : decode cX11_longError 14 = .ok (.i2l, 1) := dk_i2l (by decide +kernel)
theorem dX11_longError_15 : decode cX11_longError 15 = .ok (.lsub, 1) := dk_lsub (by decide +kernel)
theorem dX11_longError_16 : decode cX11_longError 16 = .ok (.lreturn, 1) := dk_lreturn (by decide +kernel)
set_option maxRecDepth 20000 in
theorem vX11_longError_0 {E : sm_E} {L : sm_S → Prop} {d : Nat} {x1 : Int32}  {m : sm_M} {Q : Int64 → sm_M → Prop} (hly : ∀ S, L S → ly S) (hd : 1 ≤ d) 
  (h : (vp_in x1 7) ∧ (vp_in x1 7) ∧ ∀ m_2 : sm_M, m_2 = sm_wI m 76 x1.toNatClampNeg ((m.1 76 x1.toNatClampNeg) + 1) →
   Q ((-9000000000000000000 : Int64) - (x1.toInt64)) m_2) :
  sm_callJ E L mX11_longError d 0 0 [.ref (sm_B E + 0), .int x1] m Q := by
  refine sm_enter (by decide +kernel) (by simp [lg_sl, Value.category]) ?_
  refine sm_aload_n (Y := mX11_longError) (pc := 0) 0 0 rfl rfl dX11_longError_0 ?_
  refine gf_RX11_85 (Y := mX11_longError) (pc := 1) (b := 76) rfl ((lk_0 hly) _) (lf_0_12 hly _) dX11_longError_1 ?_
  refine sm_iload_n (Y := mX11_longError) (pc := 4) 1 1 rfl rfl dX11_longError_4 ?_
  refine sm_dup2_11 (Y := mX11_longError) (pc := 5) rfl rfl dX11_longError_5 ?_
  obtain ⟨hn_1, h⟩ := h
  refine sm_iald (Y := mX11_longError) (pc := 6) (la_76 hly _) hn_1 dX11_longError_6 ?_
  refine sm_iconst (Y := mX11_longError) (pc := 7) 1 (by decide) dX11_longError_7 ?_
  refine sm_iadd (Y := mX11_longError) (pc := 8) dX11_longError_8 ?_
  obtain ⟨hn_3, h⟩ := h
  refine sm_iast (Y := mX11_longError) (pc := 9) (la_76 hly _) hn_3 dX11_longError_9 (fun m_2 em_2 => ?_)
  replace h := h m_2 em_2
  refine sm_ldc2_w (Y := mX11_longError) (pc := 10) (-9000000000000000000) wRX11_381 dX11_longError_10 ?_
  refine sm_iload_n (Y := mX11_longError) (pc := 13) 1 1 rfl rfl dX11_longError_13 ?_
  refine sm_i2l (Y := mX11_longError) (pc := 14) dX11_longError_14 ?_
  refine sm_lsub (Y := mX11_longError) (pc := 15) dX11_longError_15 ?_
  exact sm_lret (Y := mX11_longError) (pc := 16) rfl rfl rfl dX11_longError_16 ⟨_, rfl, h⟩
theorem dX11_isSlot_0 : decode cX11_isSlot 0 = .ok (.iload_n 0, 1) := dk_iload_n_0 (by decide +kernel)
theorem dX11_isSlot_1 : decode cX11_isSlot 1 = .ok (.ifCond .lt 13, 3) := dk_ifCond_lt 13 (b1 := 0) (b2 := 13) (by decide +kernel) (by decide +kernel) (by decide +kernel) (by decide +kernel)
theorem dX11_isSlot_14 : decode cX11_isSlot 14 = .ok (.iconst 0, 1) := dk_iconst_0 (by decide +kernel)
theorem dX11_isSlot_15 : decode cX11_isSlot 15 = .ok (.ireturn, 1) := dk_ireturn (by decide +kernel)
theorem dX11_isSlot_4 : decode cX11_isSlot 4 = .ok (.iload_n 0, 1) := dk_iload_n_0 (by decide +kernel)
theorem dX11_isSlot_5 : decode cX11_isSlot 5 = .ok (.bipush 6, 2) := dk_bipush 6 (b := 6) (by decide +kernel) (by decide +kernel) (by decide +kernel)
theorem dX11_isSlot_7 : decode cX11_isSlot 7 = .ok (.if_icmp .ge 7, 3) := dk_if_icmp_ge 7 (b1 := 0) (b2 := 7) (by decide +kernel) (by decide +kernel) (by decide +kernel) (by decide +kernel)
theorem dX11_isSlot_10 : decode cX11_isSlot 10 = .ok (.iconst 1, 1) := dk_iconst_1 (by decide +kernel)
theorem dX11_isSlot_11 : decode cX11_isSlot 11 = .ok (.goto 4, 3) := dk_goto 4 (b1 := 0) (b2 := 4) (by decide +kernel) (by decide +kernel) (by decide +kernel) (by decide +kernel)
set_option maxRecDepth 20000 in
theorem vX11_isSlot_0 {E : sm_E} {L : sm_S → Prop} {d : Nat} {x0 : Int32}  {m : sm_M} {Q : Int32 → sm_M → Prop}  (hd : 1 ≤ d) 
  (h : (x0 < 0 →
      Q 0 m) ∧
   (¬ x0 < 0 →
      (6 ≤ x0 →
         Q 0 m) ∧
      (¬ 6 ≤ x0 →
         Q 1 m))) :
  sm_callI E L mX11_isSlot d 0 0 [.int x0] m Q := by
  refine sm_enter (by decide +kernel) (by simp [lg_sl, Value.category]) ?_
  refine sm_iload_n (Y := mX11_isSlot) (pc := 0) 0 0 rfl rfl dX11_isSlot_0 ?_
  refine sm_if_lt (Y := mX11_isSlot) (pc := 1) 14 (by decide) dX11_isSlot_1 (fun hc => ?_) (fun hc => ?_)
  · replace h := h.1 hc
    refine sm_iconst (Y := mX11_isSlot) (pc := 14) 0 (by decide) dX11_isSlot_14 ?_
    exact sm_zret (Y := mX11_isSlot) (pc := 15) rfl (by decide) rfl rfl dX11_isSlot_15 ⟨_, rfl, h⟩
  · replace h := h.2 hc
    refine sm_iload_n (Y := mX11_isSlot) (pc := 4) 0 0 rfl rfl dX11_isSlot_4 ?_
    refine sm_bipush (Y := mX11_isSlot) (pc := 5) 6 (by decide) dX11_isSlot_5 ?_
    refine sm_icmp_ge (Y := mX11_isSlot) (pc := 7) 14 (by decide) dX11_isSlot_7 (fun hc => ?_) (fun hc => ?_)
    · replace h := h.1 hc
      refine sm_iconst (Y := mX11_isSlot) (pc := 14) 0 (by decide) dX11_isSlot_14 ?_
      exact sm_zret (Y := mX11_isSlot) (pc := 15) rfl (by decide) rfl rfl dX11_isSlot_15 ⟨_, rfl, h⟩
    · replace h := h.2 hc
      refine sm_iconst (Y := mX11_isSlot) (pc := 10) 1 (by decide) dX11_isSlot_10 ?_
      refine sm_goto (Y := mX11_isSlot) (pc := 11) 15 (by decide) dX11_isSlot_11 ?_
      exact sm_zret (Y := mX11_isSlot) (pc := 15) rfl (by decide) rfl rfl dX11_isSlot_15 ⟨_, rfl, h⟩
theorem dX11_isSheet_0 : decode cX11_isSheet 0 = .ok (.iload_n 0, 1) := dk_iload_n_0 (by decide +kernel)
theorem dX11_isSheet_1 : decode cX11_isSheet 1 = .ok (.ifCond .lt 12, 3) := dk_ifCond_lt 12 (b1 := 0) (b2 := 12) (by decide +kernel) (by decide +kernel) (by decide +kernel) (by decide +kernel)
theorem dX11_isSheet_13 : decode cX11_isSheet 13 = .ok (.iconst 0, 1) := dk_iconst_0 (by decide +kernel)
theorem dX11_isSheet_14 : decode cX11_isSheet 14 = .ok (.ireturn, 1) := dk_ireturn (by decide +kernel)
theorem dX11_isSheet_4 : decode cX11_isSheet 4 = .ok (.iload_n 0, 1) := dk_iload_n_0 (by decide +kernel)
theorem dX11_isSheet_5 : decode cX11_isSheet 5 = .ok (.iconst 4, 1) := dk_iconst_4 (by decide +kernel)
theorem dX11_isSheet_6 : decode cX11_isSheet 6 = .ok (.if_icmp .ge 7, 3) := dk_if_icmp_ge 7 (b1 := 0) (b2 := 7) (by decide +kernel) (by decide +kernel) (by decide +kernel) (by decide +kernel)
theorem dX11_isSheet_9 : decode cX11_isSheet 9 = .ok (.iconst 1, 1) := dk_iconst_1 (by decide +kernel)
theorem dX11_isSheet_10 : decode cX11_isSheet 10 = .ok (.goto 4, 3) := dk_goto 4 (b1 := 0) (b2 := 4) (by decide +kernel) (by decide +kernel) (by decide +kernel) (by decide +kernel)
set_option maxRecDepth 20000 in
theorem vX11_isSheet_0 {E : sm_E} {L : sm_S → Prop} {d : Nat} {x0 : Int32}  {m : sm_M} {Q : Int32 → sm_M → Prop}  (hd : 1 ≤ d) 
  (h : (x0 < 0 →
      Q 0 m) ∧
   (¬ x0 < 0 →
      (4 ≤ x0 →
         Q 0 m) ∧
      (¬ 4 ≤ x0 →
         Q 1 m))) :
  sm_callI E L mX11_isSheet d 0 0 [.int x0] m Q := by
  refine sm_enter (by decide +kernel) (by simp [lg_sl, Value.category]) ?_
  refine sm_iload_n (Y := mX11_isSheet) (pc := 0) 0 0 rfl rfl dX11_isSheet_0 ?_
  refine sm_if_lt (Y := mX11_isSheet) (pc := 1) 13 (by decide) dX11_isSheet_1 (fun hc => ?_) (fun hc => ?_)
  · replace h := h.1 hc
    refine sm_iconst (Y := mX11_isSheet) (pc := 13) 0 (by decide) dX11_isSheet_13 ?_
    exact sm_zret (Y := mX11_isSheet) (pc := 14) rfl (by decide) rfl rfl dX11_isSheet_14 ⟨_, rfl, h⟩
  · replace h := h.2 hc
    refine sm_iload_n (Y := mX11_isSheet) (pc := 4) 0 0 rfl rfl dX11_isSheet_4 ?_
    refine sm_iconst (Y := mX11_isSheet) (pc := 5) 4 (by decide) dX11_isSheet_5 ?_
    refine sm_icmp_ge (Y := mX11_isSheet) (pc := 6) 13 (by decide) dX11_isSheet_6 (fun hc => ?_) (fun hc => ?_)
    · replace h := h.1 hc
      refine sm_iconst (Y := mX11_isSheet) (pc := 13) 0 (by decide) dX11_isSheet_13 ?_
      exact sm_zret (Y := mX11_isSheet) (pc := 14) rfl (by decide) rfl rfl dX11_isSheet_14 ⟨_, rfl, h⟩
    · replace h := h.2 hc
      refine sm_iconst (Y := mX11_isSheet) (pc := 9) 1 (by decide) dX11_isSheet_9 ?_
      refine sm_goto (Y := mX11_isSheet) (pc := 10) 14 (by decide) dX11_isSheet_10 ?_
      exact sm_zret (Y := mX11_isSheet) (pc := 14) rfl (by decide) rfl rfl dX11_isSheet_14 ⟨_, rfl, h⟩
theorem dX11_isChoice_0 : decode cX11_isChoice 0 = .ok (.iload_n 0, 1) := dk_iload_n_0 (by decide +kernel)
theorem dX11_isChoice_1 : decode cX11_isChoice 1 = .ok (.ifCond .eq 8, 3) := dk_ifCond_eq 8 (b1 := 0) (b2 := 8) (by decide +kernel) (by decide +kernel) (by decide +kernel) (by decide +kernel)
theorem dX11_isChoice_9 : decode cX11_isChoice 9 = .ok (.iconst 1, 1) := dk_iconst_1 (by decide +kernel)
theorem dX11_isChoice_10 : decode cX11_isChoice 10 = .ok (.goto 4, 3) := dk_goto 4 (b1 := 0) (b2 := 4) (by decide +kernel) (by decide +kernel) (by decide +kernel) (by decide +kernel)
theorem dX11_isChoice_14 : decode cX11_isChoice 14 = .ok (.ireturn, 1) := dk_ireturn (by decide +kernel)
theorem dX11_isChoice_4 : decode cX11_isChoice 4 = .ok (.iload_n 0, 1) := dk_iload_n_0 (by decide +kernel)
theorem dX11_isChoice_5 : decode cX11_isChoice 5 = .ok (.iconst 1, 1) := dk_iconst_1 (by decide +kernel)
theorem dX11_isChoice_6 : decode cX11_isChoice 6 = .ok (.if_icmp .ne 7, 3) := dk_if_icmp_ne 7 (b1 := 0) (b2 := 7) (by decide +kernel) (by decide +kernel) (by decide +kernel) (by decide +kernel)
theorem dX11_isChoice_13 : decode cX11_isChoice 13 = .ok (.iconst 0, 1) := dk_iconst_0 (by decide +kernel)
set_option maxRecDepth 20000 in
theorem vX11_isChoice_0 {E : sm_E} {L : sm_S → Prop} {d : Nat} {x0 : Int32}  {m : sm_M} {Q : Int32 → sm_M → Prop}  (hd : 1 ≤ d) 
  (h : (x0 = 0 →
      Q 1 m) ∧
   (¬ x0 = 0 →
      (¬ x0 = 1 →
         Q 0 m) ∧
      (x0 = 1 →
         Q 1 m))) :
  sm_callI E L mX11_isChoice d 0 0 [.int x0] m Q := by
  refine sm_enter (by decide +kernel) (by simp [lg_sl, Value.category]) ?_
  refine sm_iload_n (Y := mX11_isChoice) (pc := 0) 0 0 rfl rfl dX11_isChoice_0 ?_
  refine sm_if_eq (Y := mX11_isChoice) (pc := 1) 9 (by decide) dX11_isChoice_1 (fun hc => ?_) (fun hc => ?_)
  · replace h := h.1 hc
    refine sm_iconst (Y := mX11_isChoice) (pc := 9) 1 (by decide) dX11_isChoice_9 ?_
    refine sm_goto (Y := mX11_isChoice) (pc := 10) 14 (by decide) dX11_isChoice_10 ?_
    exact sm_zret (Y := mX11_isChoice) (pc := 14) rfl (by decide) rfl rfl dX11_isChoice_14 ⟨_, rfl, h⟩
  · replace h := h.2 hc
    refine sm_iload_n (Y := mX11_isChoice) (pc := 4) 0 0 rfl rfl dX11_isChoice_4 ?_
    refine sm_iconst (Y := mX11_isChoice) (pc := 5) 1 (by decide) dX11_isChoice_5 ?_
    refine sm_icmp_ne (Y := mX11_isChoice) (pc := 6) 13 (by decide) dX11_isChoice_6 (fun hc => ?_) (fun hc => ?_)
    · replace h := h.1 hc
      refine sm_iconst (Y := mX11_isChoice) (pc := 13) 0 (by decide) dX11_isChoice_13 ?_
      exact sm_zret (Y := mX11_isChoice) (pc := 14) rfl (by decide) rfl rfl dX11_isChoice_14 ⟨_, rfl, h⟩
    · replace h := h.2 hc
      refine sm_iconst (Y := mX11_isChoice) (pc := 9) 1 (by decide) dX11_isChoice_9 ?_
      refine sm_goto (Y := mX11_isChoice) (pc := 10) 14 (by decide) dX11_isChoice_10 ?_
      exact sm_zret (Y := mX11_isChoice) (pc := 14) rfl (by decide) rfl rfl dX11_isChoice_14 ⟨_, rfl, h⟩
theorem dX11_isWhole_0 : decode cX11_isWhole 0 = .ok (.iload_n 0, 1) := dk_iload_n_0 (by decide +kernel)
theorem wRX11_383 : Cond.constant RX11 383 (-999999999) ∈ sm_T := sm_in 1096 (by decide +kernel) (by decide +kernel)
theorem dX11_isWhole_1 : decode cX11_isWhole 1 = .ok (.ldc_w 383, 3) := dk_ldc_w 383 (b1 := 1) (b2 := 127) (by decide +kernel) (by decide +kernel) (by decide +kernel) (by decide +kernel)
theorem dX11_isWhole_4 : decode cX11_isWhole 4 = .ok (.if_icmp .lt 14, 3) := dk_if_icmp_lt 14 (b1 := 0) (b2 := 14) (by decide +kernel) (by decide +kernel) (by decide +kernel) (by decide +kernel)
theorem dX11_isWhole_18 : decode cX11_isWhole 18 = .ok (.iconst 0, 1) := dk_iconst_0 (by decide +kernel)
theorem dX11_isWhole_19 : decode cX11_isWhole 19 = .ok (.ireturn, 1) := dk_ireturn (by decide +kernel)
theorem dX11_isWhole_7 : decode cX11_isWhole 7 = .ok (.iload_n 0, 1) := dk_iload_n_0 (by decide +kernel)
theorem wRX11_384 : Cond.constant RX11 384 999999999 ∈ sm_T := sm_in 1097 (by decide +kernel) (by decide +kernel)
theorem dX11_isWhole_8 : decode cX11_isWhole 8 = .ok (.ldc_w 384, 3) := dk_ldc_w 384 (b1 := 1) (b2 := 128) (by decide +kernel) (by decide +kernel) (by decide +kernel) (by decide +kernel)
theorem dX11_isWhole_11 : decode cX11_isWhole 11 = .ok (.if_icmp .gt 7, 3) := dk_if_icmp_gt 7 (b1 := 0) (b2 := 7) (by decide +kernel) (by decide +kernel) (by decide +kernel) (by decide +kernel)
theorem dX11_isWhole_14 : decode cX11_isWhole 14 = .ok (.iconst 1, 1) := dk_iconst_1 (by decide +kernel)
theorem dX11_isWhole_15 : decode cX11_isWhole 15 = .ok (.goto 4, 3) := dk_goto 4 (b1 := 0) (b2 := 4) (by decide +kernel) (by decide +kernel) (by decide +kernel) (by decide +kernel)
set_option maxRecDepth 20000 in
theorem vX11_isWhole_0 {E : sm_E} {L : sm_S → Prop} {d : Nat} {x0 : Int32}  {m : sm_M} {Q : Int32 → sm_M → Prop}  (hd : 1 ≤ d) 
  (h : (x0 < (-999999999) →
      Q 0 m) ∧
   (¬ x0 < (-999999999) →
      (999999999 < x0 →
         Q 0 m) ∧
      (¬ 999999999 < x0 →
         Q 1 m))) :
  sm_callI E L mX11_isWhole d 0 0 [.int x0] m Q := by
  refine sm_enter (by decide +kernel) (by simp [lg_sl, Value.category]) ?_
  refine sm_iload_n (Y := mX11_isWhole) (pc := 0) 0 0 rfl rfl dX11_isWhole_0 ?_
  refine sm_ldc_w (Y := mX11_isWhole) (pc := 1) (-999999999) wRX11_383 dX11_isWhole_1 ?_
  refine sm_icmp_lt (Y := mX11_isWhole) (pc := 4) 18 (by decide) dX11_isWhole_4 (fun hc => ?_) (fun hc => ?_)
  · replace h := h.1 hc
    refine sm_iconst (Y := mX11_isWhole) (pc := 18) 0 (by decide) dX11_isWhole_18 ?_
    exact sm_zret (Y := mX11_isWhole) (pc := 19) rfl (by decide) rfl rfl dX11_isWhole_19 ⟨_, rfl, h⟩
  · replace h := h.2 hc
    refine sm_iload_n (Y := mX11_isWhole) (pc := 7) 0 0 rfl rfl dX11_isWhole_7 ?_
    refine sm_ldc_w (Y := mX11_isWhole) (pc := 8) 999999999 wRX11_384 dX11_isWhole_8 ?_
    refine sm_icmp_gt (Y := mX11_isWhole) (pc := 11) 18 (by decide) dX11_isWhole_11 (fun hc => ?_) (fun hc => ?_)
    · replace h := h.1 hc
      refine sm_iconst (Y := mX11_isWhole) (pc := 18) 0 (by decide) dX11_isWhole_18 ?_
      exact sm_zret (Y := mX11_isWhole) (pc := 19) rfl (by decide) rfl rfl dX11_isWhole_19 ⟨_, rfl, h⟩
    · replace h := h.2 hc
      refine sm_iconst (Y := mX11_isWhole) (pc := 14) 1 (by decide) dX11_isWhole_14 ?_
      refine sm_goto (Y := mX11_isWhole) (pc := 15) 19 (by decide) dX11_isWhole_15 ?_
      exact sm_zret (Y := mX11_isWhole) (pc := 19) rfl (by decide) rfl rfl dX11_isWhole_19 ⟨_, rfl, h⟩
theorem dX11_settle_0 : decode cX11_settle 0 = .ok (.aload_n 0, 1) := dk_aload_n_0 (by decide +kernel)
theorem dX11_settle_1 : decode cX11_settle 1 = .ok (.getfield 28, 3) := dk_getfield 28 (b1 := 0) (b2 := 28) (by decide +kernel) (by decide +kernel) (by decide +kernel) (by decide +kernel)
theorem dX11_settle_4 : decode cX11_settle 4 = .ok (.aload_n 1, 1) := dk_aload_n_1 (by decide +kernel)
theorem dX11_settle_5 : decode cX11_settle 5 = .ok (.invokevirtual 144, 3) := dk_invokevirtual 144 (b1 := 0) (b2 := 144) (by decide +kernel) (by decide +kernel) (by decide +kernel) (by decide +kernel)
theorem dX11_settle_8 : decode cX11_settle 8 = .ok (.aload_n 0, 1) := dk_aload_n_0 (by decide +kernel)
theorem dX11_settle_9 : decode cX11_settle 9 = .ok (.getfield 11, 3) := dk_getfield 11 (b1 := 0) (b2 := 11) (by decide +kernel) (by decide +kernel) (by decide +kernel) (by decide +kernel)
theorem dX11_settle_12 : decode cX11_settle 12 = .ok (.iload_n 2, 1) := dk_iload_n_2 (by decide +kernel)
theorem dX11_settle_13 : decode cX11_settle 13 = .ok (.aaload, 1) := dk_aaload (by decide +kernel)
theorem dX11_settle_14 : decode cX11_settle 14 = .ok (.aload_n 1, 1) := dk_aload_n_1 (by decide +kernel)
theorem dX11_settle_15 : decode cX11_settle 15 = .ok (.invokevirtual 155, 3) := dk_invokevirtual 155 (b1 := 0) (b2 := 155) (by decide +kernel) (by decide +kernel) (by decide +kernel) (by decide +kernel)
theorem dX11_settle_18 : decode cX11_settle 18 = .ok (.aload_n 1, 1) := dk_aload_n_1 (by decide +kernel)
theorem dX11_settle_19 : decode cX11_settle 19 = .ok (.getfield 114, 3) := dk_getfield 114 (b1 := 0) (b2 := 114) (by decide +kernel) (by decide +kernel) (by decide +kernel) (by decide +kernel)
theorem dX11_settle_22 : decode cX11_settle 22 = .ok (.ireturn, 1) := dk_ireturn (by decide +kernel)
set_option maxRecDepth 20000 in
theorem vX11_settle_0 {E : sm_E} {L : sm_S → Prop} {d : Nat} {a1 : Nat} {x2 : Int32} {na1 : Nat} {m : sm_M} {Q : Int32 → sm_M → Prop} (hly : ∀ S, L S → ly S) (hd : 5 ≤ d) (hTa1 : sm_tan L a1 na1)
  (h : sm_callV E L mX4_measure 4 0 0 [.ref (sm_B E + 5), .ref (sm_B E + a1)] m (fun m_1 =>
   (vp_in x2 6) ∧ sm_callV E L mX8_copy 1 0 0 [.ref (sm_B E + (77 + 4 * x2.toNatClampNeg)), .ref (sm_B E + a1)] m_1 (fun m_3 =>
   Q (m_3.1 a1 3) m_3))) :
  sm_callI E L mX11_settle d 0 0 [.ref (sm_B E + 0), .ref (sm_B E + a1), .int x2] m Q := by
  refine sm_enter (by decide +kernel) (by simp [lg_sl, Value.category]) ?_
  refine sm_aload_n (Y := mX11_settle) (pc := 0) 0 0 rfl rfl dX11_settle_0 ?_
  refine gf_RX11_28 (Y := mX11_settle) (pc := 1) (b := 5) rfl ((lk_0 hly) _) (lf_0_3 hly _) dX11_settle_1 ?_
  refine sm_aload_n (Y := mX11_settle) (pc := 4) 1 1 rfl rfl dX11_settle_4 ?_
  refine sm_iv_V (Y := mX11_settle) (pc := 5) (As := [.ref (sm_B E + a1)]) (a := 5) fX4_measure wRX11_144 (lk_5 hly) (by decide) rfl rfl rfl (Nat.le_trans (by decide) hd) (Nat.le_of_ble_eq_true rfl) ⟨Nat.le_refl _, Nat.le_refl _⟩ dX11_settle_5 rfl (sm_monoV h (fun m_1 h => ?_))
  refine sm_aload_n (Y := mX11_settle) (pc := 8) 0 0 rfl rfl dX11_settle_8 ?_
  refine gf_RX11_11 (Y := mX11_settle) (pc := 9) (b := 1) rfl ((lk_0 hly) _) (lf_0_0 hly _) dX11_settle_9 ?_
  refine sm_iload_n (Y := mX11_settle) (pc := 12) 2 2 rfl rfl dX11_settle_12 ?_
  obtain ⟨hn_2, h⟩ := h
  refine sm_aaldG (Y := mX11_settle) (pc := 13) (b := (77 + 4 * x2.toNatClampNeg)) (la_1 hly _) hn_2 (ly_slotR hly (sm_inlt hn_2) _) dX11_settle_13 ?_
  refine sm_aload_n (Y := mX11_settle) (pc := 14) 1 1 rfl rfl dX11_settle_14 ?_
  refine sm_iv_V (Y := mX11_settle) (pc := 15) (As := [.ref (sm_B E + a1)]) (a := (77 + 4 * x2.toNatClampNeg)) fX8_copy wRX11_155 (fun S hS => ((ly_slotT hly (sm_inlt hn_2)) S hS).1) (by decide) rfl rfl rfl (Nat.le_trans (by decide) hd) (Nat.le_of_ble_eq_true rfl) ⟨Nat.le_refl _, Nat.le_refl _⟩ dX11_settle_15 rfl (sm_monoV h (fun m_3 h => ?_))
  refine sm_aload_n (Y := mX11_settle) (pc := 18) 1 1 rfl rfl dX11_settle_18 ?_
  refine gf_RX11_114 (Y := mX11_settle) (pc := 19) rfl ((fun S hS => (hTa1 S hS).1) _) dX11_settle_19 ?_
  exact sm_iret (Y := mX11_settle) (pc := 22) rfl rfl rfl dX11_settle_22 ⟨_, rfl, h⟩
theorem dX11_nameOf_0 : decode cX11_nameOf 0 = .ok (.iload_n 1, 1) := dk_iload_n_1 (by decide +kernel)
theorem dX11_nameOf_1 : decode cX11_nameOf 1 = .ok (.ifCond .ne 15, 3) := dk_ifCond_ne 15 (b1 := 0) (b2 := 15) (by decide +kernel) (by decide +kernel) (by decide +kernel) (by decide +kernel)
theorem dX11_nameOf_16 : decode cX11_nameOf 16 = .ok (.aload_n 0, 1) := dk_aload_n_0 (by decide +kernel)
theorem dX11_nameOf_17 : decode cX11_nameOf 17 = .ok (.getfield 135, 3) := dk_getfield 135 (b1 := 0) (b2 := 135) (by decide +kernel) (by decide +kernel) (by decide +kernel) (by decide +kernel)
theorem dX11_nameOf_20 : decode cX11_nameOf 20 = .ok (.ineg, 1) := dk_ineg (by decide +kernel)
theorem dX11_nameOf_21 : decode cX11_nameOf 21 = .ok (.aload_n 0, 1) := dk_aload_n_0 (by decide +kernel)
theorem dX11_nameOf_22 : decode cX11_nameOf 22 = .ok (.getfield 132, 3) := dk_getfield 132 (b1 := 0) (b2 := 132) (by decide +kernel) (by decide +kernel) (by decide +kernel) (by decide +kernel)
theorem wRX11_385 : Cond.methodLink RX11 385 yX6_named ∈ sm_T := sm_in 901 (by decide +kernel) (by decide +kernel)
theorem dX11_nameOf_25 : decode cX11_nameOf 25 = .ok (.invokestatic 385, 3) := dk_invokestatic 385 (b1 := 1) (b2 := 129) (by decide +kernel) (by decide +kernel) (by decide +kernel) (by decide +kernel)
theorem dX11_nameOf_28 : decode cX11_nameOf 28 = .ok (.lreturn, 1) := dk_lreturn (by decide +kernel)
theorem dX11_nameOf_4 : decode cX11_nameOf 4 = .ok (.aload_n 0, 1) := dk_aload_n_0 (by decide +kernel)
theorem dX11_nameOf_5 : decode cX11_nameOf 5 = .ok (.getfield 132, 3) := dk_getfield 132 (b1 := 0) (b2 := 132) (by decide +kernel) (by decide +kernel) (by decide +kernel) (by decide +kernel)
theorem dX11_nameOf_8 : decode cX11_nameOf 8 = .ok (.aload_n 0, 1) := dk_aload_n_0 (by decide +kernel)
theorem dX11_nameOf_9 : decode cX11_nameOf 9 = .ok (.getfield 135, 3) := dk_getfield 135 (b1 := 0) (b2 := 135) (by decide +kernel) (by decide +kernel) (by decide +kernel) (by decide +kernel)
theorem dX11_nameOf_12 : decode cX11_nameOf 12 = .ok (.invokestatic 385, 3) := dk_invokestatic 385 (b1 := 1) (b2 := 129) (by decide +kernel) (by decide +kernel) (by decide +kernel) (by decide +kernel)
theorem dX11_nameOf_15 : decode cX11_nameOf 15 = .ok (.lreturn, 1) := dk_lreturn (by decide +kernel)
set_option maxRecDepth 20000 in
theorem vX11_nameOf_0 {E : sm_E} {L : sm_S → Prop} {d : Nat} {a0 : Nat} {x1 : Int32} {na0 : Nat} {m : sm_M} {Q : Int64 → sm_M → Prop}  (hd : 3 ≤ d) (hTa0 : sm_tan L a0 na0)
  (h : (¬ x1 = 0 →
      sm_callJ E L mX6_named 2 0 0 [.int (-(m.1 a0 10)), .int (m.1 a0 9)] m (fun r_2 m_1 =>
      Q r_2 m_1)) ∧
   (x1 = 0 →
      sm_callJ E L mX6_named 2 0 0 [.int (m.1 a0 9), .int (m.1 a0 10)] m (fun r_4 m_3 =>
      Q r_4 m_3))) :
  sm_callJ E L mX11_nameOf d 0 0 [.ref (sm_B E + a0), .int x1] m Q := by
  refine sm_enter (by decide +kernel) (by simp [lg_sl, Value.category]) ?_
  refine sm_iload_n (Y := mX11_nameOf) (pc := 0) 1 1 rfl rfl dX11_nameOf_0 ?_
  refine sm_if_ne (Y := mX11_nameOf) (pc := 1) 16 (by decide) dX11_nameOf_1 (fun hc => ?_) (fun hc => ?_)
  · replace h := h.1 hc
    refine sm_aload_n (Y := mX11_nameOf) (pc := 16) 0 0 rfl rfl dX11_nameOf_16 ?_
    refine gf_RX11_135 (Y := mX11_nameOf) (pc := 17) rfl ((fun S hS => (hTa0 S hS).1) _) dX11_nameOf_17 ?_
    refine sm_ineg (Y := mX11_nameOf) (pc := 20) dX11_nameOf_20 ?_
    refine sm_aload_n (Y := mX11_nameOf) (pc := 21) 0 0 rfl rfl dX11_nameOf_21 ?_
    refine gf_RX11_132 (Y := mX11_nameOf) (pc := 22) rfl ((fun S hS => (hTa0 S hS).1) _) dX11_nameOf_22 ?_
    refine sm_is_J (Y := mX11_nameOf) (pc := 25) (As := [.int (-(m.1 a0 10)), .int (m.1 a0 9)]) fX6_named wRX11_385 rfl (Nat.le_trans (by decide) hd) (Nat.le_of_ble_eq_true rfl) ⟨Nat.le_refl _, Nat.le_refl _⟩ dX11_nameOf_25 rfl (sm_monoJ h (fun r_2 m_1 h => ?_))
    exact sm_lret (Y := mX11_nameOf) (pc := 28) rfl rfl rfl dX11_nameOf_28 ⟨_, rfl, h⟩
  · replace h := h.2 hc
    refine sm_aload_n (Y := mX11_nameOf) (pc := 4) 0 0 rfl rfl dX11_nameOf_4 ?_
    refine gf_RX11_132 (Y := mX11_nameOf) (pc := 5) rfl ((fun S hS => (hTa0 S hS).1) _) dX11_nameOf_5 ?_
    refine sm_aload_n (Y := mX11_nameOf) (pc := 8) 0 0 rfl rfl dX11_nameOf_8 ?_
    refine gf_RX11_135 (Y := mX11_nameOf) (pc := 9) rfl ((fun S hS => (hTa0 S hS).1) _) dX11_nameOf_9 ?_
    refine sm_is_J (Y := mX11_nameOf) (pc := 12) (As := [.int (m.1 a0 9), .int (m.1 a0 10)]) fX6_named wRX11_385 rfl (Nat.le_trans (by decide) hd) (Nat.le_of_ble_eq_true rfl) ⟨Nat.le_refl _, Nat.le_refl _⟩ dX11_nameOf_12 rfl (sm_monoJ h (fun r_4 m_3 h => ?_))
    exact sm_lret (Y := mX11_nameOf) (pc := 15) rfl rfl rfl dX11_nameOf_15 ⟨_, rfl, h⟩
def gX11_allCrossings_4 (E : sm_E) (L : sm_S → Prop) (d : Nat) (vs : List Value) (x1 : Int32) (x2 : Int32) (m : sm_M) (Q : Int32 → sm_M → Prop) : Prop := sm_go E L mX11_allCrossings d 0 0 vs 4 [(0, .ref (sm_B E + 0)), (1, .int x1), (2, .int x2)] [] m 0 0 (sm_Z E L vs 0 0 (sm_QI Q))
theorem dX11_allCrossings_4 : decode cX11_allCrossings 4 = .ok (.iload_n 2, 1) := dk_iload_n_2 (by decide +kernel)
theorem dX11_allCrossings_5 : decode cX11_allCrossings 5 = .ok (.bipush 6, 2) := dk_bipush 6 (b := 6) (by decide +kernel) (by decide +kernel) (by decide +kernel)
theorem dX11_allCrossings_7 : decode cX11_allCrossings 7 = .ok (.if_icmp .ge 21, 3) := dk_if_icmp_ge 21 (b1 := 0) (b2 := 21) (by decide +kernel) (by decide +kernel) (by decide +kernel) (by decide +kernel)
theorem dX11_allCrossings_28 : decode cX11_allCrossings 28 = .ok (.iload_n 1, 1) := dk_iload_n_1 (by decide +kernel)
theorem dX11_allCrossings_29 : decode cX11_allCrossings 29 = .ok (.ireturn, 1) := dk_ireturn (by decide +kernel)
theorem dX11_allCrossings_10 : decode cX11_allCrossings 10 = .ok (.iload_n 1, 1) := dk_iload_n_1 (by decide +kernel)
theorem dX11_allCrossings_11 : decode cX11_allCrossings 11 = .ok (.aload_n 0, 1) := dk_aload_n_0 (by decide +kernel)
theorem dX11_allCrossings_12 : decode cX11_allCrossings 12 = .ok (.getfield 11, 3) := dk_getfield 11 (b1 := 0) (b2 := 11) (by decide +kernel) (by decide +kernel) (by decide +kernel) (by decide +kernel)
theorem dX11_allCrossings_15 : decode cX11_allCrossings 15 = .ok (.iload_n 2, 1) := dk_iload_n_2 (by decide +kernel)
theorem dX11_allCrossings_16 : decode cX11_allCrossings 16 = .ok (.aaload, 1) := dk_aaload (by decide +kernel)
theorem dX11_allCrossings_17 : decode cX11_allCrossings 17 = .ok (.getfield 114, 3) := dk_getfield 114 (b1 := 0) (b2 := 114) (by decide +kernel) (by decide +kernel) (by decide +kernel) (by decide +kernel)
theorem dX11_allCrossings_20 : decode cX11_allCrossings 20 = .ok (.iadd, 1) := dk_iadd (by decide +kernel)
theorem dX11_allCrossings_21 : decode cX11_allCrossings 21 = .ok (.istore_n 1, 1) := dk_istore_n_1 (by decide +kernel)
theorem dX11_allCrossings_22 : decode cX11_allCrossings 22 = .ok (.iinc 2 1, 3) := dk_iinc 2 1 (b1 := 2) (b2 := 1) (by decide +kernel) (by decide +kernel) (by decide +kernel) (by decide +kernel) (by decide +kernel)
theorem dX11_allCrossings_25 : decode cX11_allCrossings 25 = .ok (.goto (-21), 3) := dk_goto (-21) (b1 := 255) (b2 := 235) (by decide +kernel) (by decide +kernel) (by decide +kernel) (by decide +kernel)
set_option maxRecDepth 20000 in
theorem vX11_allCrossings_4 {E : sm_E} {L : sm_S → Prop} {d : Nat} {vs : List Value} {x1 : Int32} {x2 : Int32}  {m : sm_M} {Q : Int32 → sm_M → Prop} (hly : ∀ S, L S → ly S) (hd : 1 ≤ d) 
  (h : (6 ≤ x2 →
      Q x1 m) ∧
   (¬ 6 ≤ x2 →
      (vp_in x2 6) ∧ ∀ x1_2 : Int32, x1_2 = x1 + (m.1 (77 + 4 * x2.toNatClampNeg) 3) →
      ∀ x2_3 : Int32, x2_3 = x2 + 1 →
      gX11_allCrossings_4 E L d vs x1_2 x2_3 m Q)) :
  gX11_allCrossings_4 E L d vs x1 x2 m Q := by
  refine sm_iload_n (Y := mX11_allCrossings) (pc := 4) 2 2 rfl rfl dX11_allCrossings_4 ?_
  refine sm_bipush (Y := mX11_allCrossings) (pc := 5) 6 (by decide) dX11_allCrossings_5 ?_
  refine sm_icmp_ge (Y := mX11_allCrossings) (pc := 7) 28 (by decide) dX11_allCrossings_7 (fun hc => ?_) (fun hc => ?_)
  · replace h := h.1 hc
    refine sm_iload_n (Y := mX11_allCrossings) (pc := 28) 1 1 rfl rfl dX11_allCrossings_28 ?_
    exact sm_iret (Y := mX11_allCrossings) (pc := 29) rfl rfl rfl dX11_allCrossings_29 ⟨_, rfl, h⟩
  · replace h := h.2 hc
    refine sm_iload_n (Y := mX11_allCrossings) (pc := 10) 1 1 rfl rfl dX11_allCrossings_10 ?_
    refine sm_aload_n (Y := mX11_allCrossings) (pc := 11) 0 0 rfl rfl dX11_allCrossings_11 ?_
    refine gf_RX11_11 (Y := mX11_allCrossings) (pc := 12) (b := 1) rfl ((lk_0 hly) _) (lf_0_0 hly _) dX11_allCrossings_12 ?_
    refine sm_iload_n (Y := mX11_allCrossings) (pc := 15) 2 2 rfl rfl dX11_allCrossings_15 ?_
    obtain ⟨hn_1, h⟩ := h
    refine sm_aaldG (Y := mX11_allCrossings) (pc := 16) (b := (77 + 4 * x2.toNatClampNeg)) (la_1 hly _) hn_1 (ly_slotR hly (sm_inlt hn_1) _) dX11_allCrossings_16 ?_
    refine gf_RX11_114 (Y := mX11_allCrossings) (pc := 17) rfl ((fun S hS => ((ly_slotT hly (sm_inlt hn_1)) S hS).1) _) dX11_allCrossings_17 ?_
    refine sm_iadd (Y := mX11_allCrossings) (pc := 20) dX11_allCrossings_20 ?_
    refine sm_istore_n (Y := mX11_allCrossings) (pc := 21) (fun y => [(1, .int y), (0, .ref (sm_B E + 0)), (2, .int x2)]) 1 rfl (by decide) (fun _ => rfl) dX11_allCrossings_21 (fun x1_2 ex1_2 => ?_)
    replace h := h x1_2 ex1_2
    refine sm_iinc (Y := mX11_allCrossings) (pc := 22) (fun y => [(2, .int y), (1, .int x1_2), (0, .ref (sm_B E + 0))]) 2 2 rfl (by decide) (fun _ => rfl) dX11_allCrossings_22 (fun x2_3 ex2_3 => ?_)
    replace h := h x2_3 ex2_3
    refine sm_goto (Y := mX11_allCrossings) (pc := 25) 4 (by decide) dX11_allCrossings_25 ?_
    refine sm_sub [2, 1, 0] rfl ?_
    exact h
theorem dX11_allCrossings_0 : decode cX11_allCrossings 0 = .ok (.iconst 0, 1) := dk_iconst_0 (by decide +kernel)
theorem dX11_allCrossings_1 : decode cX11_allCrossings 1 = .ok (.istore_n 1, 1) := dk_istore_n_1 (by decide +kernel)
theorem dX11_allCrossings_2 : decode cX11_allCrossings 2 = .ok (.iconst 0, 1) := dk_iconst_0 (by decide +kernel)
theorem dX11_allCrossings_3 : decode cX11_allCrossings 3 = .ok (.istore_n 2, 1) := dk_istore_n_2 (by decide +kernel)
set_option maxRecDepth 20000 in
theorem vX11_allCrossings_0 {E : sm_E} {L : sm_S → Prop} {d : Nat}   {m : sm_M} {Q : Int32 → sm_M → Prop}  (hd : 1 ≤ d) 
  (h : gX11_allCrossings_4 E L d ([.ref (sm_B E + 0)]) 0 0 m Q) :
  sm_callI E L mX11_allCrossings d 0 0 [.ref (sm_B E + 0)] m Q := by
  refine sm_enter (by decide +kernel) (by simp [lg_sl, Value.category]) ?_
  refine sm_iconst (Y := mX11_allCrossings) (pc := 0) 0 (by decide) dX11_allCrossings_0 ?_
  refine sm_istore0_n (Y := mX11_allCrossings) (pc := 1) [(1, .int 0), (0, .ref (sm_B E + 0))] 1 rfl (by decide) rfl dX11_allCrossings_1 ?_
  refine sm_iconst (Y := mX11_allCrossings) (pc := 2) 0 (by decide) dX11_allCrossings_2 ?_
  refine sm_istore0_n (Y := mX11_allCrossings) (pc := 3) [(2, .int 0), (1, .int 0), (0, .ref (sm_B E + 0))] 2 rfl (by decide) rfl dX11_allCrossings_3 ?_
  refine sm_sub [2, 1, 0] rfl ?_
  exact h
def gX11_allRational_4 (E : sm_E) (L : sm_S → Prop) (d : Nat) (vs : List Value) (x1 : Int32) (x2 : Int32) (m : sm_M) (Q : Int32 → sm_M → Prop) : Prop := sm_go E L mX11_allRational d 0 0 vs 4 [(0, .ref (sm_B E + 0)), (1, .int x1), (2, .int x2)] [] m 0 0 (sm_Z E L vs 0 0 (sm_QI Q))
theorem dX11_allRational_4 : decode cX11_allRational 4 = .ok (.iload_n 2, 1) := dk_iload_n_2 (by decide +kernel)
theorem dX11_allRational_5 : decode cX11_allRational 5 = .ok (.bipush 6, 2) := dk_bipush 6 (b := 6) (by decide +kernel) (by decide +kernel) (by decide +kernel)
theorem dX11_allRational_7 : decode cX11_allRational 7 = .ok (.if_icmp .ge 24, 3) := dk_if_icmp_ge 24 (b1 := 0) (b2 := 24) (by decide +kernel) (by decide +kernel) (by decide +kernel) (by decide +kernel)
theorem dX11_allRational_31 : decode cX11_allRational 31 = .ok (.iload_n 1, 1) := dk_iload_n_1 (by decide +kernel)
theorem dX11_allRational_32 : decode cX11_allRational 32 = .ok (.ireturn, 1) := dk_ireturn (by decide +kernel)
theorem dX11_allRational_10 : decode cX11_allRational 10 = .ok (.aload_n 0, 1) := dk_aload_n_0 (by decide +kernel)
theorem dX11_allRational_11 : decode cX11_allRational 11 = .ok (.getfield 11, 3) := dk_getfield 11 (b1 := 0) (b2 := 11) (by decide +kernel) (by decide +kernel) (by decide +kernel) (by decide +kernel)
theorem dX11_allRational_14 : decode cX11_allRational 14 = .ok (.iload_n 2, 1) := dk_iload_n_2 (by decide +kernel)
theorem dX11_allRational_15 : decode cX11_allRational 15 = .ok (.aaload, 1) := dk_aaload (by decide +kernel)
theorem dX11_allRational_16 : decode cX11_allRational 16 = .ok (.getfield 129, 3) := dk_getfield 129 (b1 := 0) (b2 := 129) (by decide +kernel) (by decide +kernel) (by decide +kernel) (by decide +kernel)
theorem dX11_allRational_19 : decode cX11_allRational 19 = .ok (.ifCond .eq 6, 3) := dk_ifCond_eq 6 (b1 := 0) (b2 := 6) (by decide +kernel) (by decide +kernel) (by decide +kernel) (by decide +kernel)
theorem dX11_allRational_25 : decode cX11_allRational 25 = .ok (.iinc 2 1, 3) := dk_iinc 2 1 (b1 := 2) (b2 := 1) (by decide +kernel) (by decide +kernel) (by decide +kernel) (by decide +kernel) (by decide +kernel)
theorem dX11_allRational_28 : decode cX11_allRational 28 = .ok (.goto (-24), 3) := dk_goto (-24) (b1 := 255) (b2 := 232) (by decide +kernel) (by decide +kernel) (by decide +kernel) (by decide +kernel)
theorem dX11_allRational_22 : decode cX11_allRational 22 = .ok (.iinc 1 1, 3) := dk_iinc 1 1 (b1 := 1) (b2 := 1) (by decide +kernel) (by decide +kernel) (by decide +kernel) (by decide +kernel) (by decide +kernel)
set_option maxRecDepth 20000 in
theorem vX11_allRational_4 {E : sm_E} {L : sm_S → Prop} {d : Nat} {vs : List Value} {x1 : Int32} {x2 : Int32}  {m : sm_M} {Q : Int32 → sm_M → Prop} (hly : ∀ S, L S → ly S) (hd : 1 ≤ d) 
  (h : (6 ≤ x2 →
      Q x1 m) ∧
   (¬ 6 ≤ x2 →
      (vp_in x2 6) ∧ ((m.1 (77 + 4 * x2.toNatClampNeg) 7) = 0 →
         ∀ x2_2 : Int32, x2_2 = x2 + 1 →
         gX11_allRational_4 E L d vs x1 x2_2 m Q) ∧
      (¬ (m.1 (77 + 4 * x2.toNatClampNeg) 7) = 0 →
         ∀ x1_3 : Int32, x1_3 = x1 + 1 →
         ∀ x2_4 : Int32, x2_4 = x2 + 1 →
         gX11_allRational_4 E L d vs x1_3 x2_4 m Q))) :
  gX11_allRational_4 E L d vs x1 x2 m Q := by
  refine sm_iload_n (Y := mX11_allRational) (pc := 4) 2 2 rfl rfl dX11_allRational_4 ?_
  refine sm_bipush (Y := mX11_allRational) (pc := 5) 6 (by decide) dX11_allRational_5 ?_
  refine sm_icmp_ge (Y := mX11_allRational) (pc := 7) 31 (by decide) dX11_allRational_7 (fun hc => ?_) (fun hc => ?_)
  · replace h := h.1 hc
    refine sm_iload_n (Y := mX11_allRational) (pc := 31) 1 1 rfl rfl dX11_allRational_31 ?_
    exact sm_iret (Y := mX11_allRational) (pc := 32) rfl rfl rfl dX11_allRational_32 ⟨_, rfl, h⟩
  · replace h := h.2 hc
    refine sm_aload_n (Y := mX11_allRational) (pc := 10) 0 0 rfl rfl dX11_allRational_10 ?_
    refine gf_RX11_11 (Y := mX11_allRational) (pc := 11) (b := 1) rfl ((lk_0 hly) _) (lf_0_0 hly _) dX11_allRational_11 ?_
    refine sm_iload_n (Y := mX11_allRational) (pc := 14) 2 2 rfl rfl dX11_allRational_14 ?_
    obtain ⟨hn_1, h⟩ := h
    refine sm_aaldG (Y := mX11_allRational) (pc := 15) (b := (77 + 4 * x2.toNatClampNeg)) (la_1 hly _) hn_1 (ly_slotR hly (sm_inlt hn_1) _) dX11_allRational_15 ?_
    refine gf_RX11_129 (Y := mX11_allRational) (pc := 16) rfl ((fun S hS => ((ly_slotT hly (sm_inlt hn_1)) S hS).1) _) dX11_allRational_16 ?_
    refine sm_if_eq (Y := mX11_allRational) (pc := 19) 25 (by decide) dX11_allRational_19 (fun hc => ?_) (fun hc => ?_)
    · replace h := h.1 hc
      refine sm_iinc (Y := mX11_allRational) (pc := 25) (fun y => [(2, .int y), (0, .ref (sm_B E + 0)), (1, .int x1)]) 2 2 rfl (by decide) (fun _ => rfl) dX11_allRational_25 (fun x2_2 ex2_2 => ?_)
      replace h := h x2_2 ex2_2
      refine sm_goto (Y := mX11_allRational) (pc := 28) 4 (by decide) dX11_allRational_28 ?_
      refine sm_sub [1, 2, 0] rfl ?_
      exact h
    · replace h := h.2 hc
      refine sm_iinc (Y := mX11_allRational) (pc := 22) (fun y => [(1, .int y), (0, .ref (sm_B E + 0)), (2, .int x2)]) 1 1 rfl (by decide) (fun _ => rfl) dX11_allRational_22 (fun x1_3 ex1_3 => ?_)
      replace h := h x1_3 ex1_3
      refine sm_iinc (Y := mX11_allRational) (pc := 25) (fun y => [(2, .int y), (1, .int x1_3), (0, .ref (sm_B E + 0))]) 2 2 rfl (by decide) (fun _ => rfl) dX11_allRational_25 (fun x2_4 ex2_4 => ?_)
      replace h := h x2_4 ex2_4
      refine sm_goto (Y := mX11_allRational) (pc := 28) 4 (by decide) dX11_allRational_28 ?_
      refine sm_sub [2, 1, 0] rfl ?_
      exact h
theorem dX11_allRational_0 : decode cX11_allRational 0 = .ok (.iconst 0, 1) := dk_iconst_0 (by decide +kernel)
theorem dX11_allRational_1 : decode cX11_allRational 1 = .ok (.istore_n 1, 1) := dk_istore_n_1 (by decide +kernel)
theorem dX11_allRational_2 : decode cX11_allRational 2 = .ok (.iconst 0, 1) := dk_iconst_0 (by decide +kernel)
theorem dX11_allRational_3 : decode cX11_allRational 3 = .ok (.istore_n 2, 1) := dk_istore_n_2 (by decide +kernel)
set_option maxRecDepth 20000 in
theorem vX11_allRational_0 {E : sm_E} {L : sm_S → Prop} {d : Nat}   {m : sm_M} {Q : Int32 → sm_M → Prop}  (hd : 1 ≤ d) 
  (h : gX11_allRational_4 E L d ([.ref (sm_B E + 0)]) 0 0 m Q) :
  sm_callI E L mX11_allRational d 0 0 [.ref (sm_B E + 0)] m Q := by
  refine sm_enter (by decide +kernel) (by simp [lg_sl, Value.category]) ?_
  refine sm_iconst (Y := mX11_allRational) (pc := 0) 0 (by decide) dX11_allRational_0 ?_
  refine sm_istore0_n (Y := mX11_allRational) (pc := 1) [(1, .int 0), (0, .ref (sm_B E + 0))] 1 rfl (by decide) rfl dX11_allRational_1 ?_
  refine sm_iconst (Y := mX11_allRational) (pc := 2) 0 (by decide) dX11_allRational_2 ?_
  refine sm_istore0_n (Y := mX11_allRational) (pc := 3) [(2, .int 0), (1, .int 0), (0, .ref (sm_B E + 0))] 2 rfl (by decide) rfl dX11_allRational_3 ?_
  refine sm_sub [2, 1, 0] rfl ?_
  exact h
