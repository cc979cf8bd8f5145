abbrev mX2_draw : sm_Y := (yX2_draw, cX2_draw, 4, none)
theorem fX2_draw : sm_mi mX2_draw RX2 2 := ⟨sm_in 729 (by decide +kernel) (by decide +kernel), sm_in 727 (by decide +kernel) (by decide +kernel), sm_in 728 (by decide +kernel) (by decide +kernel), sm_in 87 (by decide +kernel) (by decide +kernel), rfl, ⟨by decide +kernel, by decide +kernel, by decide +kernel⟩, by decide⟩
def gX2_draw_17 (E : sm_E) (L : sm_S → Prop) (d : Nat) (vs : List Value) (a1 : Nat) (x2 : Int32) (x3 : Int32) (m : sm_M) (Q : sm_M → Prop) : Prop := sm_go E L mX2_draw d 0 0 vs 17 [(0, .ref (sm_B E + 16)), (1, .ref (sm_B E + a1)), (2, .int x2), (3, .int x3)] [] m 0 0 (sm_Z E L vs 0 0 (sm_QV Q))
theorem dX2_draw_17 : decode cX2_draw 17 = .ok (.iload_n 3, 1) := dk_iload_n_3 (by decide +kernel)
theorem dX2_draw_18 : decode cX2_draw 18 = .ok (.aload_n 1, 1) := dk_aload_n_1 (by decide +kernel)
theorem dX2_draw_19 : decode cX2_draw 19 = .ok (.getfield 53, 3) := dk_getfield 53 (b1 := 0) (b2 := 53) (by decide +kernel) (by decide +kernel) (by decide +kernel) (by decide +kernel)
theorem dX2_draw_22 : decode cX2_draw 22 = .ok (.if_icmp .ge 19, 3) := dk_if_icmp_ge 19 (b1 := 0) (b2 := 19) (by decide +kernel) (by decide +kernel) (by decide +kernel) (by decide +kernel)
theorem dX2_draw_41 : decode cX2_draw 41 = .ok (.iload_n 2, 1) := dk_iload_n_2 (by decide +kernel)
theorem dX2_draw_42 : decode cX2_draw 42 = .ok (.ifCond .ne 38, 3) := dk_ifCond_ne 38 (b1 := 0) (b2 := 38) (by decide +kernel) (by decide +kernel) (by decide +kernel) (by decide +kernel)
theorem dX2_draw_80 : decode cX2_draw 80 = .ok (.aload_n 0, 1) := dk_aload_n_0 (by decide +kernel)
theorem dX2_draw_81 : decode cX2_draw 81 = .ok (.aload_n 0, 1) := dk_aload_n_0 (by decide +kernel)
theorem dX2_draw_82 : decode cX2_draw 82 = .ok (.getfield 22, 3) := dk_getfield 22 (b1 := 0) (b2 := 22) (by decide +kernel) (by decide +kernel) (by decide +kernel) (by decide +kernel)
theorem dX2_draw_85 : decode cX2_draw 85 = .ok (.iconst 0, 1) := dk_iconst_0 (by decide +kernel)
theorem dX2_draw_86 : decode cX2_draw 86 = .ok (.iaload, 1) := dk_iaload (by decide +kernel)
theorem dX2_draw_87 : decode cX2_draw 87 = .ok (.aload_n 0, 1) := dk_aload_n_0 (by decide +kernel)
theorem dX2_draw_88 : decode cX2_draw 88 = .ok (.getfield 22, 3) := dk_getfield 22 (b1 := 0) (b2 := 22) (by decide +kernel) (by decide +kernel) (by decide +kernel) (by decide +kernel)
theorem dX2_draw_91 : decode cX2_draw 91 = .ok (.iconst 2, 1) := dk_iconst_2 (by decide +kernel)
theorem dX2_draw_92 : decode cX2_draw 92 = .ok (.iaload, 1) := dk_iaload (by decide +kernel)
theorem wRX2_65 : Cond.methodLink RX2 65 yX2_tie ∈ sm_T := sm_in 743 (by decide +kernel) (by decide +kernel)
abbrev mX2_tie : sm_Y := (yX2_tie, cX2_tie, 3, none)
theorem fX2_tie : sm_mi mX2_tie RX2 2 := ⟨sm_in 746 (by decide +kernel) (by decide +kernel), sm_in 745 (by decide +kernel) (by decide +kernel), sm_in 18 (by decide +kernel) (by decide +kernel), sm_in 87 (by decide +kernel) (by decide +kernel), rfl, ⟨by decide +kernel, by decide +kernel, by decide +kernel⟩, by decide⟩
theorem dX2_draw_93 : decode cX2_draw 93 = .ok (.invokevirtual 65, 3) := dk_invokevirtual 65 (b1 := 0) (b2 := 65) (by decide +kernel) (by decide +kernel) (by decide +kernel) (by decide +kernel)
theorem dX2_draw_96 : decode cX2_draw 96 = .ok (.aload_n 0, 1) := dk_aload_n_0 (by decide +kernel)
theorem dX2_draw_97 : decode cX2_draw 97 = .ok (.aload_n 0, 1) := dk_aload_n_0 (by decide +kernel)
theorem dX2_draw_98 : decode cX2_draw 98 = .ok (.getfield 22, 3) := dk_getfield 22 (b1 := 0) (b2 := 22) (by decide +kernel) (by decide +kernel) (by decide +kernel) (by decide +kernel)
theorem dX2_draw_101 : decode cX2_draw 101 = .ok (.iconst 1, 1) := dk_iconst_1 (by decide +kernel)
theorem dX2_draw_102 : decode cX2_draw 102 = .ok (.iaload, 1) := dk_iaload (by decide +kernel)
theorem dX2_draw_103 : decode cX2_draw 103 = .ok (.aload_n 0, 1) := dk_aload_n_0 (by decide +kernel)
theorem dX2_draw_104 : decode cX2_draw 104 = .ok (.getfield 22, 3) := dk_getfield 22 (b1 := 0) (b2 := 22) (by decide +kernel) (by decide +kernel) (by decide +kernel) (by decide +kernel)
theorem dX2_draw_107 : decode cX2_draw 107 = .ok (.iconst 3, 1) := dk_iconst_3 (by decide +kernel)
theorem dX2_draw_108 : decode cX2_draw 108 = .ok (.iaload, 1) := dk_iaload (by decide +kernel)
theorem dX2_draw_109 : decode cX2_draw 109 = .ok (.invokevirtual 65, 3) := dk_invokevirtual 65 (b1 := 0) (b2 := 65) (by decide +kernel) (by decide +kernel) (by decide +kernel) (by decide +kernel)
theorem dX2_draw_112 : decode cX2_draw 112 = .ok (.aload_n 0, 1) := dk_aload_n_0 (by decide +kernel)
theorem wRX2_69 : Cond.methodLink RX2 69 yX2_walkAll ∈ sm_T := sm_in 763 (by decide +kernel) (by decide +kernel)
abbrev mX2_walkAll : sm_Y := (yX2_walkAll, cX2_walkAll, 4, none)
theorem fX2_walkAll : sm_mi mX2_walkAll RX2 0 := ⟨sm_in 766 (by decide +kernel) (by decide +kernel), sm_in 765 (by decide +kernel) (by decide +kernel), sm_in 23 (by decide +kernel) (by decide +kernel), sm_in 87 (by decide +kernel) (by decide +kernel), rfl, ⟨by decide +kernel, by decide +kernel, by decide +kernel⟩, by decide⟩
theorem dX2_draw_113 : decode cX2_draw 113 = .ok (.invokevirtual 69, 3) := dk_invokevirtual 69 (b1 := 0) (b2 := 69) (by decide +kernel) (by decide +kernel) (by decide +kernel) (by decide +kernel)
theorem dX2_draw_116 : decode cX2_draw 116 = .ok (.return_, 1) := dk_return_ (by decide +kernel)
theorem dX2_draw_45 : decode cX2_draw 45 = .ok (.aload_n 0, 1) := dk_aload_n_0 (by decide +kernel)
theorem dX2_draw_46 : decode cX2_draw 46 = .ok (.aload_n 0, 1) := dk_aload_n_0 (by decide +kernel)
theorem dX2_draw_47 : decode cX2_draw 47 = .ok (.getfield 22, 3) := dk_getfield 22 (b1 := 0) (b2 := 22) (by decide +kernel) (by decide +kernel) (by decide +kernel) (by decide +kernel)
theorem dX2_draw_50 : decode cX2_draw 50 = .ok (.iconst 0, 1) := dk_iconst_0 (by decide +kernel)
theorem dX2_draw_51 : decode cX2_draw 51 = .ok (.iaload, 1) := dk_iaload (by decide +kernel)
theorem dX2_draw_52 : decode cX2_draw 52 = .ok (.aload_n 0, 1) := dk_aload_n_0 (by decide +kernel)
theorem dX2_draw_53 : decode cX2_draw 53 = .ok (.getfield 22, 3) := dk_getfield 22 (b1 := 0) (b2 := 22) (by decide +kernel) (by decide +kernel) (by decide +kernel) (by decide +kernel)
theorem dX2_draw_56 : decode cX2_draw 56 = .ok (.iconst 1, 1) := dk_iconst_1 (by decide +kernel)
theorem dX2_draw_57 : decode cX2_draw 57 = .ok (.iaload, 1) := dk_iaload (by decide +kernel)
theorem dX2_draw_58 : decode cX2_draw 58 = .ok (.invokevirtual 65, 3) := dk_invokevirtual 65 (b1 := 0) (b2 := 65) (by decide +kernel) (by decide +kernel) (by decide +kernel) (by decide +kernel)
theorem dX2_draw_61 : decode cX2_draw 61 = .ok (.aload_n 0, 1) := dk_aload_n_0 (by decide +kernel)
theorem dX2_draw_62 : decode cX2_draw 62 = .ok (.aload_n 0, 1) := dk_aload_n_0 (by decide +kernel)
theorem dX2_draw_63 : decode cX2_draw 63 = .ok (.getfield 22, 3) := dk_getfield 22 (b1 := 0) (b2 := 22) (by decide +kernel) (by decide +kernel) (by decide +kernel) (by decide +kernel)
theorem dX2_draw_66 : decode cX2_draw 66 = .ok (.iconst 2, 1) := dk_iconst_2 (by decide +kernel)
theorem dX2_draw_67 : decode cX2_draw 67 = .ok (.iaload, 1) := dk_iaload (by decide +kernel)
theorem dX2_draw_68 : decode cX2_draw 68 = .ok (.aload_n 0, 1) := dk_aload_n_0 (by decide +kernel)
theorem dX2_draw_69 : decode cX2_draw 69 = .ok (.getfield 22, 3) := dk_getfield 22 (b1 := 0) (b2 := 22) (by decide +kernel) (by decide +kernel) (by decide +kernel) (by decide +kernel)
theorem dX2_draw_72 : decode cX2_draw 72 = .ok (.iconst 3, 1) := dk_iconst_3 (by decide +kernel)
theorem dX2_draw_73 : decode cX2_draw 73 = .ok (.iaload, 1) := dk_iaload (by decide +kernel)
theorem dX2_draw_74 : decode cX2_draw 74 = .ok (.invokevirtual 65, 3) := dk_invokevirtual 65 (b1 := 0) (b2 := 65) (by decide +kernel) (by decide +kernel) (by decide +kernel) (by decide +kernel)
theorem dX2_draw_77 : decode cX2_draw 77 = .ok (.goto 35, 3) := dk_goto 35 (b1 := 0) (b2 := 35) (by decide +kernel) (by decide +kernel) (by decide +kernel) (by decide +kernel)
theorem dX2_draw_25 : decode cX2_draw 25 = .ok (.aload_n 0, 1) := dk_aload_n_0 (by decide +kernel)
theorem dX2_draw_26 : decode cX2_draw 26 = .ok (.aload_n 1, 1) := dk_aload_n_1 (by decide +kernel)
theorem dX2_draw_27 : decode cX2_draw 27 = .ok (.getfield 58, 3) := dk_getfield 58 (b1 := 0) (b2 := 58) (by decide +kernel) (by decide +kernel) (by decide +kernel) (by decide +kernel)
theorem dX2_draw_30 : decode cX2_draw 30 = .ok (.iload_n 3, 1) := dk_iload_n_3 (by decide +kernel)
theorem dX2_draw_31 : decode cX2_draw 31 = .ok (.iaload, 1) := dk_iaload (by decide +kernel)
theorem wRX2_61 : Cond.methodLink RX2 61 yX2_place ∈ sm_T := sm_in 730 (by decide +kernel) (by decide +kernel)
abbrev mX2_place : sm_Y := (yX2_place, cX2_place, 2, none)
theorem fX2_place : sm_mi mX2_place RX2 1 := ⟨sm_in 733 (by decide +kernel) (by decide +kernel), sm_in 732 (by decide +kernel) (by decide +kernel), sm_in 15 (by decide +kernel) (by decide +kernel), sm_in 87 (by decide +kernel) (by decide +kernel), rfl, ⟨by decide +kernel, by decide +kernel, by decide +kernel⟩, by decide⟩
theorem dX2_draw_32 : decode cX2_draw 32 = .ok (.invokevirtual 61, 3) := dk_invokevirtual 61 (b1 := 0) (b2 := 61) (by decide +kernel) (by decide +kernel) (by decide +kernel) (by decide +kernel)
theorem dX2_draw_35 : decode cX2_draw 35 = .ok (.iinc 3 1, 3) := dk_iinc 3 1 (b1 := 3) (b2 := 1) (by decide +kernel) (by decide +kernel) (by decide +kernel) (by decide +kernel) (by decide +kernel)
theorem dX2_draw_38 : decode cX2_draw 38 = .ok (.goto (-21), 3) := dk_goto (-21) (b1 := 255) (b2 := 235) (by decide +kernel) (by decide +kernel) (by decide +kernel) (by decide +kernel)
set_option maxRecDepth 20000 in
theorem vX2_draw_17 {E : sm_E} {L : sm_S → Prop} {d : Nat} {vs : List Value} {a1 : Nat} {x2 : Int32} {x3 : Int32} {na1 : Nat} {m : sm_M} {Q : sm_M → Prop} (hly : ∀ S, L S → ly S) (hd : 5 ≤ d) (hTa1 : sm_tan L a1 na1)
  (h : ((m.1 a1 1) ≤ x3 →
      (¬ x2 = 0 →
         sm_callV E L mX2_tie 1 0 0 [.ref (sm_B E + 16), .int (m.1 20 (0 : Int32).toNatClampNeg), .int (m.1 20 (2 : Int32).toNatClampNeg)] m (fun m_1 =>
         sm_callV E L mX2_tie 1 0 0 [.ref (sm_B E + 16), .int (m_1.1 20 (1 : Int32).toNatClampNeg), .int (m_1.1 20 (3 : Int32).toNatClampNeg)] m_1 (fun m_2 =>
         sm_callV E L mX2_walkAll 4 0 0 [.ref (sm_B E + 16)] m_2 (fun m_3 =>
         Q m_3)))) ∧
      (x2 = 0 →
         sm_callV E L mX2_tie 1 0 0 [.ref (sm_B E + 16), .int (m.1 20 (0 : Int32).toNatClampNeg), .int (m.1 20 (1 : Int32).toNatClampNeg)] m (fun m_4 =>
         sm_callV E L mX2_tie 1 0 0 [.ref (sm_B E + 16), .int (m_4.1 20 (2 : Int32).toNatClampNeg), .int (m_4.1 20 (3 : Int32).toNatClampNeg)] m_4 (fun m_5 =>
         sm_callV E L mX2_walkAll 4 0 0 [.ref (sm_B E + 16)] m_5 (fun m_6 =>
         Q m_6))))) ∧
   (¬ (m.1 a1 1) ≤ x3 →
      (vp_in x3 na1) ∧ sm_callV E L mX2_place 3 0 0 [.ref (sm_B E + 16), .int (m.1 (a1 + 1) x3.toNatClampNeg)] m (fun m_8 =>
      ∀ x3_9 : Int32, x3_9 = x3 + 1 →
      gX2_draw_17 E L d vs a1 x2 x3_9 m_8 Q))) :
  gX2_draw_17 E L d vs a1 x2 x3 m Q := by
  refine sm_iload_n (Y := mX2_draw) (pc := 17) 3 3 rfl rfl dX2_draw_17 ?_
  refine sm_aload_n (Y := mX2_draw) (pc := 18) 1 1 rfl rfl dX2_draw_18 ?_
  refine gf_RX2_53 (Y := mX2_draw) (pc := 19) rfl ((fun S hS => (hTa1 S hS).1) _) dX2_draw_19 ?_
  refine sm_icmp_ge (Y := mX2_draw) (pc := 22) 41 (by decide) dX2_draw_22 (fun hc => ?_) (fun hc => ?_)
  · replace h := h.1 hc
    refine sm_iload_n (Y := mX2_draw) (pc := 41) 2 2 rfl rfl dX2_draw_41 ?_
    refine sm_if_ne (Y := mX2_draw) (pc := 42) 80 (by decide) dX2_draw_42 (fun hc => ?_) (fun hc => ?_)
    · replace h := h.1 hc
      refine sm_aload_n (Y := mX2_draw) (pc := 80) 0 0 rfl rfl dX2_draw_80 ?_
      refine sm_aload_n (Y := mX2_draw) (pc := 81) 0 0 rfl rfl dX2_draw_81 ?_
      refine gf_RX2_22 (Y := mX2_draw) (pc := 82) (b := 20) rfl ((lk_16 hly) _) (lf_16_3 hly _) dX2_draw_82 ?_
      refine sm_iconst (Y := mX2_draw) (pc := 85) 0 (by decide) dX2_draw_85 ?_
      refine sm_iald (Y := mX2_draw) (pc := 86) (la_20 hly _) (sm_lin (by decide)) dX2_draw_86 ?_
      refine sm_aload_n (Y := mX2_draw) (pc := 87) 0 0 rfl rfl dX2_draw_87 ?_
      refine gf_RX2_22 (Y := mX2_draw) (pc := 88) (b := 20) rfl ((lk_16 hly) _) (lf_16_3 hly _) dX2_draw_88 ?_
      refine sm_iconst (Y := mX2_draw) (pc := 91) 2 (by decide) dX2_draw_91 ?_
      refine sm_iald (Y := mX2_draw) (pc := 92) (la_20 hly _) (sm_lin (by decide)) dX2_draw_92 ?_
      refine sm_iv_V (Y := mX2_draw) (pc := 93) (As := [.int (m.1 20 (0 : Int32).toNatClampNeg), .int (m.1 20 (2 : Int32).toNatClampNeg)]) (a := 16) fX2_tie wRX2_65 (lk_16 hly) (by decide) rfl rfl rfl (Nat.le_trans (by decide) hd) (Nat.le_of_ble_eq_true rfl) ⟨Nat.le_refl _, Nat.le_refl _⟩ dX2_draw_93 rfl (sm_monoV h (fun m_1 h => ?_))
      refine sm_aload_n (Y := mX2_draw) (pc := 96) 0 0 rfl rfl dX2_draw_96 ?_
      refine sm_aload_n (Y := mX2_draw) (pc := 97) 0 0 rfl rfl dX2_draw_97 ?_
      refine gf_RX2_22 (Y := mX2_draw) (pc := 98) (b := 20) rfl ((lk_16 hly) _) (lf_16_3 hly _) dX2_draw_98 ?_
      refine sm_iconst (Y := mX2_draw) (pc := 101) 1 (by decide) dX2_draw_101 ?_
      refine sm_iald (Y := mX2_draw) (pc := 102) (la_20 hly _) (sm_lin (by decide)) dX2_draw_102 ?_
      refine sm_aload_n (Y := mX2_draw) (pc := 103) 0 0 rfl rfl dX2_draw_103 ?_
      refine gf_RX2_22 (Y := mX2_draw) (pc := 104) (b := 20) rfl ((lk_16 hly) _) (lf_16_3 hly _) dX2_draw_104 ?_
      refine sm_iconst (Y := mX2_draw) (pc := 107) 3 (by decide) dX2_draw_107 ?_
      refine sm_iald (Y := mX2_draw) (pc := 108) (la_20 hly _) (sm_lin (by decide)) dX2_draw_108 ?_
      refine sm_iv_V (Y := mX2_draw) (pc := 109) (As := [.int (m_1.1 20 (1 : Int32).toNatClampNeg), .int (m_1.1 20 (3 : Int32).toNatClampNeg)]) (a := 16) fX2_tie wRX2_65 (lk_16 hly) (by decide) rfl rfl rfl (Nat.le_trans (by decide) hd) (Nat.le_of_ble_eq_true rfl) ⟨Nat.le_refl _, Nat.le_refl _⟩ dX2_draw_109 rfl (sm_monoV h (fun m_2 h => ?_))
      refine sm_aload_n (Y := mX2_draw) (pc := 112) 0 0 rfl rfl dX2_draw_112 ?_
      refine sm_iv_V (Y := mX2_draw) (pc := 113) (As := []) (a := 16) fX2_walkAll wRX2_69 (lk_16 hly) (by decide) rfl rfl rfl (Nat.le_trans (by decide) hd) (Nat.le_of_ble_eq_true rfl) ⟨Nat.le_refl _, Nat.le_refl _⟩ dX2_draw_113 rfl (sm_monoV h (fun m_3 h => ?_))
      exact sm_vret (Y := mX2_draw) (pc := 116) rfl rfl rfl dX2_draw_116 ⟨rfl, h⟩
    · replace h := h.2 hc
      refine sm_aload_n (Y := mX2_draw) (pc := 45) 0 0 rfl rfl dX2_draw_45 ?_
      refine sm_aload_n (Y := mX2_draw) (pc := 46) 0 0 rfl rfl dX2_draw_46 ?_
      refine gf_RX2_22 (Y := mX2_draw) (pc := 47) (b := 20) rfl ((lk_16 hly) _) (lf_16_3 hly _) dX2_draw_47 ?_
      refine sm_iconst (Y := mX2_draw) (pc := 50) 0 (by decide) dX2_draw_50 ?_
      refine sm_iald (Y := mX2_draw) (pc := 51) (la_20 hly _) (sm_lin (by decide)) dX2_draw_51 ?_
      refine sm_aload_n (Y := mX2_draw) (pc := 52) 0 0 rfl rfl dX2_draw_52 ?_
      refine gf_RX2_22 (Y := mX2_draw) (pc := 53) (b := 20) rfl ((lk_16 hly) _) (lf_16_3 hly _) dX2_draw_53 ?_
      refine sm_iconst (Y := mX2_draw) (pc := 56) 1 (by decide) dX2_draw_56 ?_
      refine sm_iald (Y := mX2_draw) (pc := 57) (la_20 hly _) (sm_lin (by decide)) dX2_draw_57 ?_
      refine sm_iv_V (Y := mX2_draw) (pc := 58) (As := [.int (m.1 20 (0 : Int32).toNatClampNeg), .int (m.1 20 (1 : Int32).toNatClampNeg)]) (a := 16) fX2_tie wRX2_65 (lk_16 hly) (by decide) rfl rfl rfl (Nat.le_trans (by decide) hd) (Nat.le_of_ble_eq_true rfl) ⟨Nat.le_refl _, Nat.le_refl _⟩ dX2_draw_58 rfl (sm_monoV h (fun m_4 h => ?_))
      refine sm_aload_n (Y := mX2_draw) (pc := 61) 0 0 rfl rfl dX2_draw_61 ?_
      refine sm_aload_n (Y := mX2_draw) (pc := 62) 0 0 rfl rfl dX2_draw_62 ?_
      refine gf_RX2_22 (Y := mX2_draw) (pc := 63) (b := 20) rfl ((lk_16 hly) _) (lf_16_3 hly _) dX2_draw_63 ?_
      refine sm_iconst (Y := mX2_draw) (pc := 66) 2 (by decide) dX2_draw_66 ?_
      refine sm_iald (Y := mX2_draw) (pc := 67) (la_20 hly _) (sm_lin (by decide)) dX2_draw_67 ?_
      refine sm_aload_n (Y := mX2_draw) (pc := 68) 0 0 rfl rfl dX2_draw_68 ?_
      refine gf_RX2_22 (Y := mX2_draw) (pc := 69) (b := 20) rfl ((lk_16 hly) _) (lf_16_3 hly _) dX2_draw_69 ?_
      refine sm_iconst (Y := mX2_draw) (pc := 72) 3 (by decide) dX2_draw_72 ?_
      refine sm_iald (Y := mX2_draw) (pc := 73) (la_20 hly _) (sm_lin (by decide)) dX2_draw_73 ?_
      refine sm_iv_V (Y := mX2_draw) (pc := 74) (As := [.int (m_4.1 20 (2 : Int32).toNatClampNeg), .int (m_4.1 20 (3 : Int32).toNatClampNeg)]) (a := 16) fX2_tie wRX2_65 (lk_16 hly) (by decide) rfl rfl rfl (Nat.le_trans (by decide) hd) (Nat.le_of_ble_eq_true rfl) ⟨Nat.le_refl _, Nat.le_refl _⟩ dX2_draw_74 rfl (sm_monoV h (fun m_5 h => ?_))
      refine sm_goto (Y := mX2_draw) (pc := 77) 112 (by decide) dX2_draw_77 ?_
      refine sm_aload_n (Y := mX2_draw) (pc := 112) 0 0 rfl rfl dX2_draw_112 ?_
      refine sm_iv_V (Y := mX2_draw) (pc := 113) (As := []) (a := 16) fX2_walkAll wRX2_69 (lk_16 hly) (by decide) rfl rfl rfl (Nat.le_trans (by decide) hd) (Nat.le_of_ble_eq_true rfl) ⟨Nat.le_refl _, Nat.le_refl _⟩ dX2_draw_113 rfl (sm_monoV h (fun m_6 h => ?_))
      exact sm_vret (Y := mX2_draw) (pc := 116) rfl rfl rfl dX2_draw_116 ⟨rfl, h⟩
  · replace h := h.2 hc
    refine sm_aload_n (Y := mX2_draw) (pc := 25) 0 0 rfl rfl dX2_draw_25 ?_
    refine sm_aload_n (Y := mX2_draw) (pc := 26) 1 1 rfl rfl dX2_draw_26 ?_
    refine gf_RX2_58 (Y := mX2_draw) (pc := 27) (b := a1 + 1) rfl ((fun S hS => (hTa1 S hS).1) _) (fun hS => (hTa1 _ hS).2.1) dX2_draw_27 ?_
    refine sm_iload_n (Y := mX2_draw) (pc := 30) 3 3 rfl rfl dX2_draw_30 ?_
    obtain ⟨hn_7, h⟩ := h
    refine sm_iald (Y := mX2_draw) (pc := 31) (fun hS => (hTa1 _ hS).2.2) hn_7 dX2_draw_31 ?_
    refine sm_iv_V (Y := mX2_draw) (pc := 32) (As := [.int (m.1 (a1 + 1) x3.toNatClampNeg)]) (a := 16) fX2_place wRX2_61 (lk_16 hly) (by decide) rfl rfl rfl (Nat.le_trans (by decide) hd) (Nat.le_of_ble_eq_true rfl) ⟨Nat.le_refl _, Nat.le_refl _⟩ dX2_draw_32 rfl (sm_monoV h (fun m_8 h => ?_))
    refine sm_iinc (Y := mX2_draw) (pc := 35) (fun y => [(3, .int y), (0, .ref (sm_B E + 16)), (1, .ref (sm_B E + a1)), (2, .int x2)]) 3 3 rfl (by decide) (fun _ => rfl) dX2_draw_35 (fun x3_9 ex3_9 => ?_)
    replace h := h x3_9 ex3_9
    refine sm_goto (Y := mX2_draw) (pc := 38) 17 (by decide) dX2_draw_38 ?_
    refine sm_sub [1, 2, 3, 0] rfl ?_
    exact h
theorem dX2_draw_0 : decode cX2_draw 0 = .ok (.aload_n 0, 1) := dk_aload_n_0 (by decide +kernel)
theorem dX2_draw_1 : decode cX2_draw 1 = .ok (.iconst 0, 1) := dk_iconst_0 (by decide +kernel)
theorem dX2_draw_2 : decode cX2_draw 2 = .ok (.putfield 43, 3) := dk_putfield 43 (b1 := 0) (b2 := 43) (by decide +kernel) (by decide +kernel) (by decide +kernel) (by decide +kernel)
theorem dX2_draw_5 : decode cX2_draw 5 = .ok (.aload_n 0, 1) := dk_aload_n_0 (by decide +kernel)
theorem dX2_draw_6 : decode cX2_draw 6 = .ok (.iconst 0, 1) := dk_iconst_0 (by decide +kernel)
theorem dX2_draw_7 : decode cX2_draw 7 = .ok (.putfield 47, 3) := dk_putfield 47 (b1 := 0) (b2 := 47) (by decide +kernel) (by decide +kernel) (by decide +kernel) (by decide +kernel)
theorem dX2_draw_10 : decode cX2_draw 10 = .ok (.aload_n 0, 1) := dk_aload_n_0 (by decide +kernel)
theorem dX2_draw_11 : decode cX2_draw 11 = .ok (.iconst 0, 1) := dk_iconst_0 (by decide +kernel)
theorem dX2_draw_12 : decode cX2_draw 12 = .ok (.putfield 50, 3) := dk_putfield 50 (b1 := 0) (b2 := 50) (by decide +kernel) (by decide +kernel) (by decide +kernel) (by decide +kernel)
theorem dX2_draw_15 : decode cX2_draw 15 = .ok (.iconst 0, 1) := dk_iconst_0 (by decide +kernel)
theorem dX2_draw_16 : decode cX2_draw 16 = .ok (.istore_n 3, 1) := dk_istore_n_3 (by decide +kernel)
set_option maxRecDepth 20000 in
theorem vX2_draw_0 {E : sm_E} {L : sm_S → Prop} {d : Nat} {a1 : Nat} {x2 : Int32} {na1 : Nat} {m : sm_M} {Q : sm_M → Prop} (hly : ∀ S, L S → ly S) (hd : 5 ≤ d) (hTa1 : sm_tan L a1 na1)
  (h : ∀ m_1 : sm_M, m_1 = sm_wI m 16 10 0 →
   ∀ m_2 : sm_M, m_2 = sm_wI m_1 16 13 0 →
   ∀ m_3 : sm_M, m_3 = sm_wI m_2 16 14 0 →
   gX2_draw_17 E L d ([.ref (sm_B E + 16), .ref (sm_B E + a1), .int x2]) a1 x2 0 m_3 Q) :
  sm_callV E L mX2_draw d 0 0 [.ref (sm_B E + 16), .ref (sm_B E + a1), .int x2] m Q := by
  refine sm_enter (by decide +kernel) (by simp [lg_sl, Value.category]) ?_
  refine sm_aload_n (Y := mX2_draw) (pc := 0) 0 0 rfl rfl dX2_draw_0 ?_
  refine sm_iconst (Y := mX2_draw) (pc := 1) 0 (by decide) dX2_draw_1 ?_
  refine pf_RX2_43 (Y := mX2_draw) (pc := 2) rfl ((lk_16 hly) _) dX2_draw_2 (fun m_1 em_1 => ?_)
  replace h := h m_1 em_1
  refine sm_aload_n (Y := mX2_draw) (pc := 5) 0 0 rfl rfl dX2_draw_5 ?_
  refine sm_iconst (Y := mX2_draw) (pc := 6) 0 (by decide) dX2_draw_6 ?_
  refine pf_RX2_47 (Y := mX2_draw) (pc := 7) rfl ((lk_16 hly) _) dX2_draw_7 (fun m_2 em_2 => ?_)
  replace h := h m_2 em_2
  refine sm_aload_n (Y := mX2_draw) (pc := 10) 0 0 rfl rfl dX2_draw_10 ?_
  refine sm_iconst (Y := mX2_draw) (pc := 11) 0 (by decide) dX2_draw_11 ?_
  refine pf_RX2_50 (Y := mX2_draw) (pc := 12) rfl ((lk_16 hly) _) dX2_draw_12 (fun m_3 em_3 => ?_)
  replace h := h m_3 em_3
  refine sm_iconst (Y := mX2_draw) (pc := 15) 0 (by decide) dX2_draw_15 ?_
  refine sm_istore0_n (Y := mX2_draw) (pc := 16) [(3, .int 0), (0, .ref (sm_B E + 16)), (1, .ref (sm_B E + a1)), (2, .int x2)] 3 rfl (by decide) rfl dX2_draw_16 ?_
  refine sm_sub [1, 2, 3, 0] rfl ?_
  exact h
theorem dX2_place_0 : decode cX2_place 0 = .ok (.iload_n 1, 1) := dk_iload_n_1 (by decide +kernel)
theorem dX2_place_1 : decode cX2_place 1 = .ok (.bipush 10, 2) := dk_bipush 10 (b := 10) (by decide +kernel) (by decide +kernel) (by decide +kernel)
theorem dX2_place_3 : decode cX2_place 3 = .ok (.if_icmp .gt 11, 3) := dk_if_icmp_gt 11 (b1 := 0) (b2 := 11) (by decide +kernel) (by decide +kernel) (by decide +kernel) (by decide +kernel)
theorem dX2_place_14 : decode cX2_place 14 = .ok (.iload_n 1, 1) := dk_iload_n_1 (by decide +kernel)
theorem dX2_place_15 : decode cX2_place 15 = .ok (.bipush 11, 2) := dk_bipush 11 (b := 11) (by decide +kernel) (by decide +kernel) (by decide +kernel)
theorem dX2_place_17 : decode cX2_place 17 = .ok (.if_icmp .ne 10, 3) := dk_if_icmp_ne 10 (b1 := 0) (b2 := 10) (by decide +kernel) (by decide +kernel) (by decide +kernel) (by decide +kernel)
theorem dX2_place_27 : decode cX2_place 27 = .ok (.iload_n 1, 1) := dk_iload_n_1 (by decide +kernel)
theorem dX2_place_28 : decode cX2_place 28 = .ok (.bipush 12, 2) := dk_bipush 12 (b := 12) (by decide +kernel) (by decide +kernel) (by decide +kernel)
theorem dX2_place_30 : decode cX2_place 30 = .ok (.if_icmp .ne 10, 3) := dk_if_icmp_ne 10 (b1 := 0) (b2 := 10) (by decide +kernel) (by decide +kernel) (by decide +kernel) (by decide +kernel)
theorem dX2_place_40 : decode cX2_place 40 = .ok (.iload_n 1, 1) := dk_iload_n_1 (by decide +kernel)
theorem dX2_place_41 : decode cX2_place 41 = .ok (.bipush 13, 2) := dk_bipush 13 (b := 13) (by decide +kernel) (by decide +kernel) (by decide +kernel)
theorem dX2_place_43 : decode cX2_place 43 = .ok (.if_icmp .ne 10, 3) := dk_if_icmp_ne 10 (b1 := 0) (b2 := 10) (by decide +kernel) (by decide +kernel) (by decide +kernel) (by decide +kernel)
theorem dX2_place_53 : decode cX2_place 53 = .ok (.aload_n 0, 1) := dk_aload_n_0 (by decide +kernel)
theorem wRX2_84 : Cond.methodLink RX2 84 yX2_flipCrossings ∈ sm_T := sm_in 759 (by decide +kernel) (by decide +kernel)
abbrev mX2_flipCrossings : sm_Y := (yX2_flipCrossings, cX2_flipCrossings, 2, none)
theorem fX2_flipCrossings : sm_mi mX2_flipCrossings RX2 0 := ⟨sm_in 762 (by decide +kernel) (by decide +kernel), sm_in 761 (by decide +kernel) (by decide +kernel), sm_in 22 (by decide +kernel) (by decide +kernel), sm_in 87 (by decide +kernel) (by decide +kernel), rfl, ⟨by decide +kernel, by decide +kernel, by decide +kernel⟩, by decide⟩
theorem dX2_place_54 : decode cX2_place 54 = .ok (.invokevirtual 84, 3) := dk_invokevirtual 84 (b1 := 0) (b2 := 84) (by decide +kernel) (by decide +kernel) (by decide +kernel) (by decide +kernel)
theorem dX2_place_57 : decode cX2_place 57 = .ok (.return_, 1) := dk_return_ (by decide +kernel)
theorem dX2_place_46 : decode cX2_place 46 = .ok (.aload_n 0, 1) := dk_aload_n_0 (by decide +kernel)
theorem wRX2_81 : Cond.methodLink RX2 81 yX2_turnEnds ∈ sm_T := sm_in 755 (by decide +kernel) (by decide +kernel)
abbrev mX2_turnEnds : sm_Y := (yX2_turnEnds, cX2_turnEnds, 3, none)
theorem fX2_turnEnds : sm_mi mX2_turnEnds RX2 0 := ⟨sm_in 758 (by decide +kernel) (by decide +kernel), sm_in 757 (by decide +kernel) (by decide +kernel), sm_in 21 (by decide +kernel) (by decide +kernel), sm_in 87 (by decide +kernel) (by decide +kernel), rfl, ⟨by decide +kernel, by decide +kernel, by decide +kernel⟩, by decide⟩
theorem dX2_place_47 : decode cX2_place 47 = .ok (.invokevirtual 81, 3) := dk_invokevirtual 81 (b1 := 0) (b2 := 81) (by decide +kernel) (by decide +kernel) (by decide +kernel) (by decide +kernel)
theorem dX2_place_50 : decode cX2_place 50 = .ok (.goto 7, 3) := dk_goto 7 (b1 := 0) (b2 := 7) (by decide +kernel) (by decide +kernel) (by decide +kernel) (by decide +kernel)
theorem dX2_place_33 : decode cX2_place 33 = .ok (.aload_n 0, 1) := dk_aload_n_0 (by decide +kernel)
theorem wRX2_78 : Cond.methodLink RX2 78 yX2_placeBelow ∈ sm_T := sm_in 751 (by decide +kernel) (by decide +kernel)
abbrev mX2_placeBelow : sm_Y := (yX2_placeBelow, cX2_placeBelow, 3, none)
theorem fX2_placeBelow : sm_mi mX2_placeBelow RX2 0 := ⟨sm_in 754 (by decide +kernel) (by decide +kernel), sm_in 753 (by decide +kernel) (by decide +kernel), sm_in 20 (by decide +kernel) (by decide +kernel), sm_in 87 (by decide +kernel) (by decide +kernel), rfl, ⟨by decide +kernel, by decide +kernel, by decide +kernel⟩, by decide⟩
theorem dX2_place_34 : decode cX2_place 34 = .ok (.invokevirtual 78, 3) := dk_invokevirtual 78 (b1 := 0) (b2 := 78) (by decide +kernel) (by decide +kernel) (by decide +kernel) (by decide +kernel)
theorem dX2_place_37 : decode cX2_place 37 = .ok (.goto 20, 3) := dk_goto 20 (b1 := 0) (b2 := 20) (by decide +kernel) (by decide +kernel) (by decide +kernel) (by decide +kernel)
theorem dX2_place_20 : decode cX2_place 20 = .ok (.aload_n 0, 1) := dk_aload_n_0 (by decide +kernel)
theorem wRX2_75 : Cond.methodLink RX2 75 yX2_placeBeside ∈ sm_T := sm_in 747 (by decide +kernel) (by decide +kernel)
abbrev mX2_placeBeside : sm_Y := (yX2_placeBeside, cX2_placeBeside, 3, none)
theorem fX2_placeBeside : sm_mi mX2_placeBeside RX2 0 := ⟨sm_in 750 (by decide +kernel) (by decide +kernel), sm_in 749 (by decide +kernel) (by decide +kernel), sm_in 19 (by decide +kernel) (by decide +kernel), sm_in 87 (by decide +kernel) (by decide +kernel), rfl, ⟨by decide +kernel, by decide +kernel, by decide +kernel⟩, by decide⟩
theorem dX2_place_21 : decode cX2_place 21 = .ok (.invokevirtual 75, 3) := dk_invokevirtual 75 (b1 := 0) (b2 := 75) (by decide +kernel) (by decide +kernel) (by decide +kernel) (by decide +kernel)
theorem dX2_place_24 : decode cX2_place 24 = .ok (.goto 33, 3) := dk_goto 33 (b1 := 0) (b2 := 33) (by decide +kernel) (by decide +kernel) (by decide +kernel) (by decide +kernel)
theorem dX2_place_6 : decode cX2_place 6 = .ok (.aload_n 0, 1) := dk_aload_n_0 (by decide +kernel)
theorem dX2_place_7 : decode cX2_place 7 = .ok (.iload_n 1, 1) := dk_iload_n_1 (by decide +kernel)
theorem wRX2_72 : Cond.methodLink RX2 72 yX2_placeLeaf ∈ sm_T := sm_in 734 (by decide +kernel) (by decide +kernel)
abbrev mX2_placeLeaf : sm_Y := (yX2_placeLeaf, cX2_placeLeaf, 4, none)
theorem fX2_placeLeaf : sm_mi mX2_placeLeaf RX2 1 := ⟨sm_in 737 (by decide +kernel) (by decide +kernel), sm_in 736 (by decide +kernel) (by decide +kernel), sm_in 16 (by decide +kernel) (by decide +kernel), sm_in 87 (by decide +kernel) (by decide +kernel), rfl, ⟨by decide +kernel, by decide +kernel, by decide +kernel⟩, by decide⟩
theorem dX2_place_8 : decode cX2_place 8 = .ok (.invokevirtual 72, 3) := dk_invokevirtual 72 (b1 := 0) (b2 := 72) (by decide +kernel) (by decide +kernel) (by decide +kernel) (by decide +kernel)
theorem dX2_place_11 : decode cX2_place 11 = .ok (.goto 46, 3) := dk_goto 46 (b1 := 0) (b2 := 46) (by decide +kernel) (by decide +kernel) (by decide +kernel) (by decide +kernel)
set_option maxRecDepth 20000 in
theorem vX2_place_0 {E : sm_E} {L : sm_S → Prop} {d : Nat} {x1 : Int32}  {m : sm_M} {Q : sm_M → Prop} (hly : ∀ S, L S → ly S) (hd : 3 ≤ d) 
  (h : (10 < x1 →
      (¬ x1 = 11 →
         (¬ x1 = 12 →
            (¬ x1 = 13 →
               sm_callV E L mX2_flipCrossings 1 0 0 [.ref (sm_B E + 16)] m (fun m_1 =>
               Q m_1)) ∧
            (x1 = 13 →
               sm_callV E L mX2_turnEnds 1 0 0 [.ref (sm_B E + 16)] m (fun m_2 =>
               Q m_2))) ∧
         (x1 = 12 →
            sm_callV E L mX2_placeBelow 2 0 0 [.ref (sm_B E + 16)] m (fun m_3 =>
            Q m_3))) ∧
      (x1 = 11 →
         sm_callV E L mX2_placeBeside 2 0 0 [.ref (sm_B E + 16)] m (fun m_4 =>
         Q m_4))) ∧
   (¬ 10 < x1 →
      sm_callV E L mX2_placeLeaf 2 0 0 [.ref (sm_B E + 16), .int x1] m (fun m_5 =>
      Q m_5))) :
  sm_callV E L mX2_place d 0 0 [.ref (sm_B E + 16), .int x1] m Q := by
  refine sm_enter (by decide +kernel) (by simp [lg_sl, Value.category]) ?_
  refine sm_iload_n (Y := mX2_place) (pc := 0) 1 1 rfl rfl dX2_place_0 ?_
  refine sm_bipush (Y := mX2_place) (pc := 1) 10 (by decide) dX2_place_1 ?_
  refine sm_icmp_gt (Y := mX2_place) (pc := 3) 14 (by decide) dX2_place_3 (fun hc => ?_) (fun hc => ?_)
  · replace h := h.1 hc
    refine sm_iload_n (Y := mX2_place) (pc := 14) 1 1 rfl rfl dX2_place_14 ?_
    refine sm_bipush (Y := mX2_place) (pc := 15) 11 (by decide) dX2_place_15 ?_
    refine sm_icmp_ne (Y := mX2_place) (pc := 17) 27 (by decide) dX2_place_17 (fun hc => ?_) (fun hc => ?_)
    · replace h := h.1 hc
      refine sm_iload_n (Y := mX2_place) (pc := 27) 1 1 rfl rfl dX2_place_27 ?_
      refine sm_bipush (Y := mX2_place) (pc := 28) 12 (by decide) dX2_place_28 ?_
      refine sm_icmp_ne (Y := mX2_place) (pc := 30) 40 (by decide) dX2_place_30 (fun hc => ?_) (fun hc => ?_)
      · replace h := h.1 hc
        refine sm_iload_n (Y := mX2_place) (pc := 40) 1 1 rfl rfl dX2_place_40 ?_
        refine sm_bipush (Y := mX2_place) (pc := 41) 13 (by decide) dX2_place_41 ?_
        refine sm_icmp_ne (Y := mX2_place) (pc := 43) 53 (by decide) dX2_place_43 (fun hc => ?_) (fun hc => ?_)
        · replace h := h.1 hc
          refine sm_aload_n (Y := mX2_place) (pc := 53) 0 0 rfl rfl dX2_place_53 ?_
          refine sm_iv_V (Y := mX2_place) (pc := 54) (As := []) (a := 16) fX2_flipCrossings wRX2_84 (lk_16 hly) (by decide) rfl rfl rfl (Nat.le_trans (by decide) hd) (Nat.le_of_ble_eq_true rfl) ⟨Nat.le_refl _, Nat.le_refl _⟩ dX2_place_54 rfl (sm_monoV h (fun m_1 h => ?_))
          exact sm_vret (Y := mX2_place) (pc := 57) rfl rfl rfl dX2_place_57 ⟨rfl, h⟩
        · replace h := h.2 hc
          refine sm_aload_n (Y := mX2_place) (pc := 46) 0 0 rfl rfl dX2_place_46 ?_
          refine sm_iv_V (Y := mX2_place) (pc := 47) (As := []) (a := 16) fX2_turnEnds wRX2_81 (lk_16 hly) (by decide) rfl rfl rfl (Nat.le_trans (by decide) hd) (Nat.le_of_ble_eq_true rfl) ⟨Nat.le_refl _, Nat.le_refl _⟩ dX2_place_47 rfl (sm_monoV h (fun m_2 h => ?_))
          refine sm_goto (Y := mX2_place) (pc := 50) 57 (by decide) dX2_place_50 ?_
          exact sm_vret (Y := mX2_place) (pc := 57) rfl rfl rfl dX2_place_57 ⟨rfl, h⟩
      · replace h := h.2 hc
        refine sm_aload_n (Y := mX2_place) (pc := 33) 0 0 rfl rfl dX2_place_33 ?_
        refine sm_iv_V (Y := mX2_place) (pc := 34) (As := []) (a := 16) fX2_placeBelow wRX2_78 (lk_16 hly) (by decide) rfl rfl rfl (Nat.le_trans (by decide) hd) (Nat.le_of_ble_eq_true rfl) ⟨Nat.le_refl _, Nat.le_refl _⟩ dX2_place_34 rfl (sm_monoV h (fun m_3 h => ?_))
        refine sm_goto (Y := mX2_place) (pc := 37) 57 (by decide) dX2_place_37 ?_
        exact sm_vret (Y := mX2_place) (pc := 57) rfl rfl rfl dX2_place_57 ⟨rfl, h⟩
    · replace h := h.2 hc
      refine sm_aload_n (Y := mX2_place) (pc := 20) 0 0 rfl rfl dX2_place_20 ?_
      refine sm_iv_V (Y := mX2_place) (pc := 21) (As := []) (a := 16) fX2_placeBeside wRX2_75 (lk_16 hly) (by decide) rfl rfl rfl (Nat.le_trans (by decide) hd) (Nat.le_of_ble_eq_true rfl) ⟨Nat.le_refl _, Nat.le_refl _⟩ dX2_place_21 rfl (sm_monoV h (fun m_4 h => ?_))
      refine sm_goto (Y := mX2_place) (pc := 24) 57 (by decide) dX2_place_24 ?_
      exact sm_vret (Y := mX2_place) (pc := 57) rfl rfl rfl dX2_place_57 ⟨rfl, h⟩
  · replace h := h.2 hc
    refine sm_aload_n (Y := mX2_place) (pc := 6) 0 0 rfl rfl dX2_place_6 ?_
    refine sm_iload_n (Y := mX2_place) (pc := 7) 1 1 rfl rfl dX2_place_7 ?_
    refine sm_iv_V (Y := mX2_place) (pc := 8) (As := [.int x1]) (a := 16) fX2_placeLeaf wRX2_72 (lk_16 hly) (by decide) rfl rfl rfl (Nat.le_trans (by decide) hd) (Nat.le_of_ble_eq_true rfl) ⟨Nat.le_refl _, Nat.le_refl _⟩ dX2_place_8 rfl (sm_monoV h (fun m_5 h => ?_))
    refine sm_goto (Y := mX2_place) (pc := 11) 57 (by decide) dX2_place_11 ?_
    exact sm_vret (Y := mX2_place) (pc := 57) rfl rfl rfl dX2_place_57 ⟨rfl, h⟩
def gX2_placeLeaf_203 (E : sm_E) (L : sm_S → Prop) (d : Nat) (vs : List Value) (x2 : Int32) (m : sm_M) (Q : sm_M → Prop) : Prop := sm_go E L mX2_placeLeaf d 0 0 vs 203 [(0, .ref (sm_B E + 16)), (2, .int x2)] [] m 0 0 (sm_Z E L vs 0 0 (sm_QV Q))
def gX2_placeLeaf_138 (E : sm_E) (L : sm_S → Prop) (d : Nat) (vs : List Value) (x1 : Int32) (x2 : Int32) (x3 : Int32) (s1 : Int32) (s2 : Int32) (m : sm_M) (Q : sm_M → Prop) : Prop := sm_go E L mX2_placeLeaf d 0 0 vs 138 [(0, .ref (sm_B E + 16)), (1, .int x1), (2, .int x2), (3, .int x3)] [.int s2, .int s1, .ref (sm_B E + 22)] m 0 0 (sm_Z E L vs 0 0 (sm_QV Q))
def gX2_placeLeaf_94 (E : sm_E) (L : sm_S → Prop) (d : Nat) (vs : List Value) (x1 : Int32) (x2 : Int32) (x3 : Int32) (m : sm_M) (Q : sm_M → Prop) : Prop := sm_go E L mX2_placeLeaf d 0 0 vs 94 [(0, .ref (sm_B E + 16)), (1, .int x1), (2, .int x2), (3, .int x3)] [] m 0 0 (sm_Z E L vs 0 0 (sm_QV Q))
def gX2_placeLeaf_67 (E : sm_E) (L : sm_S → Prop) (d : Nat) (vs : List Value) (x2 : Int32) (s1 : Int32) (s2 : Int32) (m : sm_M) (Q : sm_M → Prop) : Prop := sm_go E L mX2_placeLeaf d 0 0 vs 67 [(0, .ref (sm_B E + 16)), (2, .int x2)] [.int s2, .int s1, .ref (sm_B E + 17)] m 0 0 (sm_Z E L vs 0 0 (sm_QV Q))
def gX2_placeLeaf_45 (E : sm_E) (L : sm_S → Prop) (d : Nat) (vs : List Value) (x1 : Int32) (m : sm_M) (Q : sm_M → Prop) : Prop := sm_go E L mX2_placeLeaf d 0 0 vs 45 [(0, .ref (sm_B E + 16)), (1, .int x1)] [] m 0 0 (sm_Z E L vs 0 0 (sm_QV Q))
theorem dX2_placeLeaf_203 : decode cX2_placeLeaf 203 = .ok (.aload_n 0, 1) := dk_aload_n_0 (by decide +kernel)
theorem dX2_placeLeaf_204 : decode cX2_placeLeaf 204 = .ok (.iload_n 2, 1) := dk_iload_n_2 (by decide +kernel)
theorem dX2_placeLeaf_205 : decode cX2_placeLeaf 205 = .ok (.aload_n 0, 1) := dk_aload_n_0 (by decide +kernel)
theorem dX2_placeLeaf_206 : decode cX2_placeLeaf 206 = .ok (.getfield 43, 3) := dk_getfield 43 (b1 := 0) (b2 := 43) (by decide +kernel) (by decide +kernel) (by decide +kernel) (by decide +kernel)
theorem dX2_placeLeaf_209 : decode cX2_placeLeaf 209 = .ok (.iconst 1, 1) := dk_iconst_1 (by decide +kernel)
theorem dX2_placeLeaf_210 : decode cX2_placeLeaf 210 = .ok (.isub, 1) := dk_isub (by decide +kernel)
theorem wRX2_87 : Cond.methodLink RX2 87 yX2_setEnds ∈ sm_T := sm_in 738 (by decide +kernel) (by decide +kernel)
abbrev mX2_setEnds : sm_Y := (yX2_setEnds, cX2_setEnds, 4, none)
theorem fX2_setEnds : sm_mi mX2_setEnds RX2 2 := ⟨sm_in 741 (by decide +kernel) (by decide +kernel), sm_in 740 (by decide +kernel) (by decide +kernel), sm_in 17 (by decide +kernel) (by decide +kernel), sm_in 87 (by decide +kernel) (by decide +kernel), rfl, ⟨by decide +kernel, by decide +kernel, by decide +kernel⟩, by decide⟩
theorem dX2_placeLeaf_211 : decode cX2_placeLeaf 211 = .ok (.invokevirtual 87, 3) := dk_invokevirtual 87 (b1 := 0) (b2 := 87) (by decide +kernel) (by decide +kernel) (by decide +kernel) (by decide +kernel)
theorem dX2_placeLeaf_214 : decode cX2_placeLeaf 214 = .ok (.aload_n 0, 1) := dk_aload_n_0 (by decide +kernel)
theorem dX2_placeLeaf_215 : decode cX2_placeLeaf 215 = .ok (.dup, 1) := dk_dup (by decide +kernel)
theorem dX2_placeLeaf_216 : decode cX2_placeLeaf 216 = .ok (.getfield 50, 3) := dk_getfield 50 (b1 := 0) (b2 := 50) (by decide +kernel) (by decide +kernel) (by decide +kernel) (by decide +kernel)
theorem dX2_placeLeaf_219 : decode cX2_placeLeaf 219 = .ok (.iconst 1, 1) := dk_iconst_1 (by decide +kernel)
theorem dX2_placeLeaf_220 : decode cX2_placeLeaf 220 = .ok (.iadd, 1) := dk_iadd (by decide +kernel)
theorem dX2_placeLeaf_221 : decode cX2_placeLeaf 221 = .ok (.putfield 50, 3) := dk_putfield 50 (b1 := 0) (b2 := 50) (by decide +kernel) (by decide +kernel) (by decide +kernel) (by decide +kernel)
theorem dX2_placeLeaf_224 : decode cX2_placeLeaf 224 = .ok (.return_, 1) := dk_return_ (by decide +kernel)
set_option maxRecDepth 20000 in
theorem vX2_placeLeaf_203 {E : sm_E} {L : sm_S → Prop} {d : Nat} {vs : List Value} {x2 : Int32}  {m : sm_M} {Q : sm_M → Prop} (hly : ∀ S, L S → ly S) (hd : 2 ≤ d) 
  (h : sm_callV E L mX2_setEnds 1 0 0 [.ref (sm_B E + 16), .int x2, .int ((m.1 16 10) - 1)] m (fun m_1 =>
   ∀ m_2 : sm_M, m_2 = sm_wI m_1 16 14 ((m_1.1 16 14) + 1) →
   Q m_2)) :
  gX2_placeLeaf_203 E L d vs x2 m Q := by
  refine sm_aload_n (Y := mX2_placeLeaf) (pc := 203) 0 0 rfl rfl dX2_placeLeaf_203 ?_
  refine sm_iload_n (Y := mX2_placeLeaf) (pc := 204) 1 2 rfl rfl dX2_placeLeaf_204 ?_
  refine sm_aload_n (Y := mX2_placeLeaf) (pc := 205) 0 0 rfl rfl dX2_placeLeaf_205 ?_
  refine gf_RX2_43 (Y := mX2_placeLeaf) (pc := 206) rfl ((lk_16 hly) _) dX2_placeLeaf_206 ?_
  refine sm_iconst (Y := mX2_placeLeaf) (pc := 209) 1 (by decide) dX2_placeLeaf_209 ?_
  refine sm_isub (Y := mX2_placeLeaf) (pc := 210) dX2_placeLeaf_210 ?_
  refine sm_iv_V (Y := mX2_placeLeaf) (pc := 211) (As := [.int x2, .int ((m.1 16 10) - 1)]) (a := 16) fX2_setEnds wRX2_87 (lk_16 hly) (by decide) rfl rfl rfl (Nat.le_trans (by decide) hd) (Nat.le_of_ble_eq_true rfl) ⟨Nat.le_refl _, Nat.le_refl _⟩ dX2_placeLeaf_211 rfl (sm_monoV h (fun m_1 h => ?_))
  refine sm_aload_n (Y := mX2_placeLeaf) (pc := 214) 0 0 rfl rfl dX2_placeLeaf_214 ?_
  refine sm_dup (Y := mX2_placeLeaf) (pc := 215) rfl dX2_placeLeaf_215 ?_
  refine gf_RX2_50 (Y := mX2_placeLeaf) (pc := 216) rfl ((lk_16 hly) _) dX2_placeLeaf_216 ?_
  refine sm_iconst (Y := mX2_placeLeaf) (pc := 219) 1 (by decide) dX2_placeLeaf_219 ?_
  refine sm_iadd (Y := mX2_placeLeaf) (pc := 220) dX2_placeLeaf_220 ?_
  refine pf_RX2_50 (Y := mX2_placeLeaf) (pc := 221) rfl ((lk_16 hly) _) dX2_placeLeaf_221 (fun m_2 em_2 => ?_)
  replace h := h m_2 em_2
  exact sm_vret (Y := mX2_placeLeaf) (pc := 224) rfl rfl rfl dX2_placeLeaf_224 ⟨rfl, h⟩
theorem dX2_placeLeaf_138 : decode cX2_placeLeaf 138 = .ok (.bastore, 1) := dk_bastore (by decide +kernel)
theorem dX2_placeLeaf_139 : decode cX2_placeLeaf 139 = .ok (.iload_n 3, 1) := dk_iload_n_3 (by decide +kernel)
theorem dX2_placeLeaf_140 : decode cX2_placeLeaf 140 = .ok (.ifCond .le 47, 3) := dk_ifCond_le 47 (b1 := 0) (b2 := 47) (by decide +kernel) (by decide +kernel) (by decide +kernel) (by decide +kernel)
theorem dX2_placeLeaf_187 : decode cX2_placeLeaf 187 = .ok (.aload_n 0, 1) := dk_aload_n_0 (by decide +kernel)
theorem dX2_placeLeaf_188 : decode cX2_placeLeaf 188 = .ok (.dup, 1) := dk_dup (by decide +kernel)
theorem dX2_placeLeaf_189 : decode cX2_placeLeaf 189 = .ok (.getfield 43, 3) := dk_getfield 43 (b1 := 0) (b2 := 43) (by decide +kernel) (by decide +kernel) (by decide +kernel) (by decide +kernel)
theorem dX2_placeLeaf_192 : decode cX2_placeLeaf 192 = .ok (.iconst 1, 1) := dk_iconst_1 (by decide +kernel)
theorem dX2_placeLeaf_193 : decode cX2_placeLeaf 193 = .ok (.iadd, 1) := dk_iadd (by decide +kernel)
theorem dX2_placeLeaf_194 : decode cX2_placeLeaf 194 = .ok (.putfield 43, 3) := dk_putfield 43 (b1 := 0) (b2 := 43) (by decide +kernel) (by decide +kernel) (by decide +kernel) (by decide +kernel)
theorem dX2_placeLeaf_197 : decode cX2_placeLeaf 197 = .ok (.iinc 3 1, 3) := dk_iinc 3 1 (b1 := 3) (b2 := 1) (by decide +kernel) (by decide +kernel) (by decide +kernel) (by decide +kernel) (by decide +kernel)
theorem dX2_placeLeaf_200 : decode cX2_placeLeaf 200 = .ok (.goto (-106), 3) := dk_goto (-106) (b1 := 255) (b2 := 150) (by decide +kernel) (by decide +kernel) (by decide +kernel) (by decide +kernel)
theorem dX2_placeLeaf_143 : decode cX2_placeLeaf 143 = .ok (.aload_n 0, 1) := dk_aload_n_0 (by decide +kernel)
theorem dX2_placeLeaf_144 : decode cX2_placeLeaf 144 = .ok (.iconst 4, 1) := dk_iconst_4 (by decide +kernel)
theorem dX2_placeLeaf_145 : decode cX2_placeLeaf 145 = .ok (.aload_n 0, 1) := dk_aload_n_0 (by decide +kernel)
theorem dX2_placeLeaf_146 : decode cX2_placeLeaf 146 = .ok (.getfield 43, 3) := dk_getfield 43 (b1 := 0) (b2 := 43) (by decide +kernel) (by decide +kernel) (by decide +kernel) (by decide +kernel)
theorem dX2_placeLeaf_149 : decode cX2_placeLeaf 149 = .ok (.imul, 1) := dk_imul (by decide +kernel)
theorem dX2_placeLeaf_150 : decode cX2_placeLeaf 150 = .ok (.iconst 4, 1) := dk_iconst_4 (by decide +kernel)
theorem dX2_placeLeaf_151 : decode cX2_placeLeaf 151 = .ok (.isub, 1) := dk_isub (by decide +kernel)
theorem dX2_placeLeaf_152 : decode cX2_placeLeaf 152 = .ok (.iconst 1, 1) := dk_iconst_1 (by decide +kernel)
theorem dX2_placeLeaf_153 : decode cX2_placeLeaf 153 = .ok (.iadd, 1) := dk_iadd (by decide +kernel)
theorem dX2_placeLeaf_154 : decode cX2_placeLeaf 154 = .ok (.iconst 4, 1) := dk_iconst_4 (by decide +kernel)
theorem dX2_placeLeaf_155 : decode cX2_placeLeaf 155 = .ok (.aload_n 0, 1) := dk_aload_n_0 (by decide +kernel)
theorem dX2_placeLeaf_156 : decode cX2_placeLeaf 156 = .ok (.getfield 43, 3) := dk_getfield 43 (b1 := 0) (b2 := 43) (by decide +kernel) (by decide +kernel) (by decide +kernel) (by decide +kernel)
theorem dX2_placeLeaf_159 : decode cX2_placeLeaf 159 = .ok (.imul, 1) := dk_imul (by decide +kernel)
theorem dX2_placeLeaf_160 : decode cX2_placeLeaf 160 = .ok (.iconst 0, 1) := dk_iconst_0 (by decide +kernel)
theorem dX2_placeLeaf_161 : decode cX2_placeLeaf 161 = .ok (.iadd, 1) := dk_iadd (by decide +kernel)
theorem dX2_placeLeaf_162 : decode cX2_placeLeaf 162 = .ok (.invokevirtual 65, 3) := dk_invokevirtual 65 (b1 := 0) (b2 := 65) (by decide +kernel) (by decide +kernel) (by decide +kernel) (by decide +kernel)
theorem dX2_placeLeaf_165 : decode cX2_placeLeaf 165 = .ok (.aload_n 0, 1) := dk_aload_n_0 (by decide +kernel)
theorem dX2_placeLeaf_166 : decode cX2_placeLeaf 166 = .ok (.iconst 4, 1) := dk_iconst_4 (by decide +kernel)
theorem dX2_placeLeaf_167 : decode cX2_placeLeaf 167 = .ok (.aload_n 0, 1) := dk_aload_n_0 (by decide +kernel)
theorem dX2_placeLeaf_168 : decode cX2_placeLeaf 168 = .ok (.getfield 43, 3) := dk_getfield 43 (b1 := 0) (b2 := 43) (by decide +kernel) (by decide +kernel) (by decide +kernel) (by decide +kernel)
theorem dX2_placeLeaf_171 : decode cX2_placeLeaf 171 = .ok (.imul, 1) := dk_imul (by decide +kernel)
theorem dX2_placeLeaf_172 : decode cX2_placeLeaf 172 = .ok (.iconst 4, 1) := dk_iconst_4 (by decide +kernel)
theorem dX2_placeLeaf_173 : decode cX2_placeLeaf 173 = .ok (.isub, 1) := dk_isub (by decide +kernel)
theorem dX2_placeLeaf_174 : decode cX2_placeLeaf 174 = .ok (.iconst 3, 1) := dk_iconst_3 (by decide +kernel)
theorem dX2_placeLeaf_175 : decode cX2_placeLeaf 175 = .ok (.iadd, 1) := dk_iadd (by decide +kernel)
theorem dX2_placeLeaf_176 : decode cX2_placeLeaf 176 = .ok (.iconst 4, 1) := dk_iconst_4 (by decide +kernel)
theorem dX2_placeLeaf_177 : decode cX2_placeLeaf 177 = .ok (.aload_n 0, 1) := dk_aload_n_0 (by decide +kernel)
theorem dX2_placeLeaf_178 : decode cX2_placeLeaf 178 = .ok (.getfield 43, 3) := dk_getfield 43 (b1 := 0) (b2 := 43) (by decide +kernel) (by decide +kernel) (by decide +kernel) (by decide +kernel)
theorem dX2_placeLeaf_181 : decode cX2_placeLeaf 181 = .ok (.imul, 1) := dk_imul (by decide +kernel)
theorem dX2_placeLeaf_182 : decode cX2_placeLeaf 182 = .ok (.iconst 2, 1) := dk_iconst_2 (by decide +kernel)
theorem dX2_placeLeaf_183 : decode cX2_placeLeaf 183 = .ok (.iadd, 1) := dk_iadd (by decide +kernel)
theorem dX2_placeLeaf_184 : decode cX2_placeLeaf 184 = .ok (.invokevirtual 65, 3) := dk_invokevirtual 65 (b1 := 0) (b2 := 65) (by decide +kernel) (by decide +kernel) (by decide +kernel) (by decide +kernel)
set_option maxRecDepth 20000 in
theorem vX2_placeLeaf_138 {E : sm_E} {L : sm_S → Prop} {d : Nat} {vs : List Value} {x1 : Int32} {x2 : Int32} {x3 : Int32} {s1 : Int32} {s2 : Int32}  {m : sm_M} {Q : sm_M → Prop} (hly : ∀ S, L S → ly S) (hd : 2 ≤ d) 
  (h : (vp_in s1 24) ∧ (s2 = 0 ∨ s2 = 1) ∧ ∀ m_1 : sm_M, m_1 = sm_wI m 22 s1.toNatClampNeg s2 →
   (x3 ≤ 0 →
      ∀ m_4 : sm_M, m_4 = sm_wI m_1 16 10 ((m_1.1 16 10) + 1) →
      ∀ x3_5 : Int32, x3_5 = x3 + 1 →
      gX2_placeLeaf_94 E L d vs x1 x2 x3_5 m_4 Q) ∧
   (¬ x3 ≤ 0 →
      sm_callV E L mX2_tie 1 0 0 [.ref (sm_B E + 16), .int ((((4 : Int32) * (m_1.1 16 10)) - 4) + 1), .int (((4 : Int32) * (m_1.1 16 10)) + 0)] m_1 (fun m_6 =>
      sm_callV E L mX2_tie 1 0 0 [.ref (sm_B E + 16), .int ((((4 : Int32) * (m_6.1 16 10)) - 4) + 3), .int (((4 : Int32) * (m_6.1 16 10)) + 2)] m_6 (fun m_7 =>
      ∀ m_8 : sm_M, m_8 = sm_wI m_7 16 10 ((m_7.1 16 10) + 1) →
      ∀ x3_9 : Int32, x3_9 = x3 + 1 →
      gX2_placeLeaf_94 E L d vs x1 x2 x3_9 m_8 Q)))) :
  gX2_placeLeaf_138 E L d vs x1 x2 x3 s1 s2 m Q := by
  obtain ⟨hn_2, h⟩ := h
  obtain ⟨hn_3, h⟩ := h
  refine sm_zast (Y := mX2_placeLeaf) (pc := 138) (la_22 hly _) hn_2 hn_3 dX2_placeLeaf_138 (fun m_1 em_1 => ?_)
  replace h := h m_1 em_1
  refine sm_iload_n (Y := mX2_placeLeaf) (pc := 139) 3 3 rfl rfl dX2_placeLeaf_139 ?_
  refine sm_if_le (Y := mX2_placeLeaf) (pc := 140) 187 (by decide) dX2_placeLeaf_140 (fun hc => ?_) (fun hc => ?_)
  · replace h := h.1 hc
    refine sm_aload_n (Y := mX2_placeLeaf) (pc := 187) 0 0 rfl rfl dX2_placeLeaf_187 ?_
    refine sm_dup (Y := mX2_placeLeaf) (pc := 188) rfl dX2_placeLeaf_188 ?_
    refine gf_RX2_43 (Y := mX2_placeLeaf) (pc := 189) rfl ((lk_16 hly) _) dX2_placeLeaf_189 ?_
    refine sm_iconst (Y := mX2_placeLeaf) (pc := 192) 1 (by decide) dX2_placeLeaf_192 ?_
    refine sm_iadd (Y := mX2_placeLeaf) (pc := 193) dX2_placeLeaf_193 ?_
    refine pf_RX2_43 (Y := mX2_placeLeaf) (pc := 194) rfl ((lk_16 hly) _) dX2_placeLeaf_194 (fun m_4 em_4 => ?_)
    replace h := h m_4 em_4
    refine sm_iinc (Y := mX2_placeLeaf) (pc := 197) (fun y => [(3, .int y), (0, .ref (sm_B E + 16)), (1, .int x1), (2, .int x2)]) 3 3 rfl (by decide) (fun _ => rfl) dX2_placeLeaf_197 (fun x3_5 ex3_5 => ?_)
    replace h := h x3_5 ex3_5
    refine sm_goto (Y := mX2_placeLeaf) (pc := 200) 94 (by decide) dX2_placeLeaf_200 ?_
    refine sm_sub [1, 2, 3, 0] rfl ?_
    exact h
  · replace h := h.2 hc
    refine sm_aload_n (Y := mX2_placeLeaf) (pc := 143) 0 0 rfl rfl dX2_placeLeaf_143 ?_
    refine sm_iconst (Y := mX2_placeLeaf) (pc := 144) 4 (by decide) dX2_placeLeaf_144 ?_
    refine sm_aload_n (Y := mX2_placeLeaf) (pc := 145) 0 0 rfl rfl dX2_placeLeaf_145 ?_
    refine gf_RX2_43 (Y := mX2_placeLeaf) (pc := 146) rfl ((lk_16 hly) _) dX2_placeLeaf_146 ?_
    refine sm_imul (Y := mX2_placeLeaf) (pc := 149) dX2_placeLeaf_149 ?_
    refine sm_iconst (Y := mX2_placeLeaf) (pc := 150) 4 (by decide) dX2_placeLeaf_150 ?_
    refine sm_isub (Y := mX2_placeLeaf) (pc := 151) dX2_placeLeaf_151 ?_
    refine sm_iconst (Y := mX2_placeLeaf) (pc := 152) 1 (by decide) dX2_placeLeaf_152 ?_
    refine sm_iadd (Y := mX2_placeLeaf) (pc := 153) dX2_placeLeaf_153 ?_
    refine sm_iconst (Y := mX2_placeLeaf) (pc := 154) 4 (by decide) dX2_placeLeaf_154 ?_
    refine sm_aload_n (Y := mX2_placeLeaf) (pc := 155) 0 0 rfl rfl dX2_placeLeaf_155 ?_
    refine gf_RX2_43 (Y := mX2_placeLeaf) (pc := 156) rfl ((lk_16 hly) _) dX2_placeLeaf_156 ?_
    refine sm_imul (Y := mX2_placeLeaf) (pc := 159) dX2_placeLeaf_159 ?_
    refine sm_iconst (Y := mX2_placeLeaf) (pc := 160) 0 (by decide) dX2_placeLeaf_160 ?_
    refine sm_iadd (Y := mX2_placeLeaf) (pc := 161) dX2_placeLeaf_161 ?_
    refine sm_iv_V (Y := mX2_placeLeaf) (pc := 162) (As := [.int ((((4 : Int32) * (m_1.1 16 10)) - 4) + 1), .int (((4 : Int32) * (m_1.1 16 10)) + 0)]) (a := 16) fX2_tie wRX2_65 (lk_16 hly) (by decide) rfl rfl rfl (Nat.le_trans (by decide) hd) (Nat.le_of_ble_eq_true rfl) ⟨Nat.le_refl _, Nat.le_refl _⟩ dX2_placeLeaf_162 rfl (sm_monoV h (fun m_6 h => ?_))
    refine sm_aload_n (Y := mX2_placeLeaf) (pc := 165) 0 0 rfl rfl dX2_placeLeaf_165 ?_
    refine sm_iconst (Y := mX2_placeLeaf) (pc := 166) 4 (by decide) dX2_placeLeaf_166 ?_
    refine sm_aload_n (Y := mX2_placeLeaf) (pc := 167) 0 0 rfl rfl dX2_placeLeaf_167 ?_
    refine gf_RX2_43 (Y := mX2_placeLeaf) (pc := 168) rfl ((lk_16 hly) _) dX2_placeLeaf_168 ?_
    refine sm_imul (Y := mX2_placeLeaf) (pc := 171) dX2_placeLeaf_171 ?_
    refine sm_iconst (Y := mX2_placeLeaf) (pc := 172) 4 (by decide) dX2_placeLeaf_172 ?_
    refine sm_isub (Y := mX2_placeLeaf) (pc := 173) dX2_placeLeaf_173 ?_
    refine sm_iconst (Y := mX2_placeLeaf) (pc := 174) 3 (by decide) dX2_placeLeaf_174 ?_
    refine sm_iadd (Y := mX2_placeLeaf) (pc := 175) dX2_placeLeaf_175 ?_
    refine sm_iconst (Y := mX2_placeLeaf) (pc := 176) 4 (by decide) dX2_placeLeaf_176 ?_
    refine sm_aload_n (Y := mX2_placeLeaf) (pc := 177) 0 0 rfl rfl dX2_placeLeaf_177 ?_
    refine gf_RX2_43 (Y := mX2_placeLeaf) (pc := 178) rfl ((lk_16 hly) _) dX2_placeLeaf_178 ?_
    refine sm_imul (Y := mX2_placeLeaf) (pc := 181) dX2_placeLeaf_181 ?_
    refine sm_iconst (Y := mX2_placeLeaf) (pc := 182) 2 (by decide) dX2_placeLeaf_182 ?_
    refine sm_iadd (Y := mX2_placeLeaf) (pc := 183) dX2_placeLeaf_183 ?_
    refine sm_iv_V (Y := mX2_placeLeaf) (pc := 184) (As := [.int ((((4 : Int32) * (m_6.1 16 10)) - 4) + 3), .int (((4 : Int32) * (m_6.1 16 10)) + 2)]) (a := 16) fX2_tie wRX2_65 (lk_16 hly) (by decide) rfl rfl rfl (Nat.le_trans (by decide) hd) (Nat.le_of_ble_eq_true rfl) ⟨Nat.le_refl _, Nat.le_refl _⟩ dX2_placeLeaf_184 rfl (sm_monoV h (fun m_7 h => ?_))
    refine sm_aload_n (Y := mX2_placeLeaf) (pc := 187) 0 0 rfl rfl dX2_placeLeaf_187 ?_
    refine sm_dup (Y := mX2_placeLeaf) (pc := 188) rfl dX2_placeLeaf_188 ?_
    refine gf_RX2_43 (Y := mX2_placeLeaf) (pc := 189) rfl ((lk_16 hly) _) dX2_placeLeaf_189 ?_
    refine sm_iconst (Y := mX2_placeLeaf) (pc := 192) 1 (by decide) dX2_placeLeaf_192 ?_
    refine sm_iadd (Y := mX2_placeLeaf) (pc := 193) dX2_placeLeaf_193 ?_
    refine pf_RX2_43 (Y := mX2_placeLeaf) (pc := 194) rfl ((lk_16 hly) _) dX2_placeLeaf_194 (fun m_8 em_8 => ?_)
    replace h := h m_8 em_8
    refine sm_iinc (Y := mX2_placeLeaf) (pc := 197) (fun y => [(3, .int y), (0, .ref (sm_B E + 16)), (1, .int x1), (2, .int x2)]) 3 3 rfl (by decide) (fun _ => rfl) dX2_placeLeaf_197 (fun x3_9 ex3_9 => ?_)
    replace h := h x3_9 ex3_9
    refine sm_goto (Y := mX2_placeLeaf) (pc := 200) 94 (by decide) dX2_placeLeaf_200 ?_
    refine sm_sub [1, 2, 3, 0] rfl ?_
    exact h
theorem dX2_placeLeaf_94 : decode cX2_placeLeaf 94 = .ok (.iload_n 3, 1) := dk_iload_n_3 (by decide +kernel)
theorem dX2_placeLeaf_95 : decode cX2_placeLeaf 95 = .ok (.iload_n 1, 1) := dk_iload_n_1 (by decide +kernel)
theorem wRX2_90 : Cond.methodLink RX2 90 yJ9_abs_0f7a4 ∈ sm_T := sm_in 742 (by decide +kernel) (by decide +kernel)
theorem dX2_placeLeaf_96 : decode cX2_placeLeaf 96 = .ok (.invokestatic 90, 3) := dk_invokestatic 90 (b1 := 0) (b2 := 90) (by decide +kernel) (by decide +kernel) (by decide +kernel) (by decide +kernel)
theorem dX2_placeLeaf_99 : decode cX2_placeLeaf 99 = .ok (.if_icmp .ge 104, 3) := dk_if_icmp_ge 104 (b1 := 0) (b2 := 104) (by decide +kernel) (by decide +kernel) (by decide +kernel) (by decide +kernel)
theorem dX2_placeLeaf_102 : decode cX2_placeLeaf 102 = .ok (.aload_n 0, 1) := dk_aload_n_0 (by decide +kernel)
theorem dX2_placeLeaf_103 : decode cX2_placeLeaf 103 = .ok (.getfield 43, 3) := dk_getfield 43 (b1 := 0) (b2 := 43) (by decide +kernel) (by decide +kernel) (by decide +kernel) (by decide +kernel)
theorem dX2_placeLeaf_106 : decode cX2_placeLeaf 106 = .ok (.bipush 24, 2) := dk_bipush 24 (b := 24) (by decide +kernel) (by decide +kernel) (by decide +kernel)
theorem dX2_placeLeaf_108 : decode cX2_placeLeaf 108 = .ok (.if_icmp .ge 95, 3) := dk_if_icmp_ge 95 (b1 := 0) (b2 := 95) (by decide +kernel) (by decide +kernel) (by decide +kernel) (by decide +kernel)
theorem dX2_placeLeaf_111 : decode cX2_placeLeaf 111 = .ok (.aload_n 0, 1) := dk_aload_n_0 (by decide +kernel)
theorem dX2_placeLeaf_112 : decode cX2_placeLeaf 112 = .ok (.getfield 11, 3) := dk_getfield 11 (b1 := 0) (b2 := 11) (by decide +kernel) (by decide +kernel) (by decide +kernel) (by decide +kernel)
theorem dX2_placeLeaf_115 : decode cX2_placeLeaf 115 = .ok (.aload_n 0, 1) := dk_aload_n_0 (by decide +kernel)
theorem dX2_placeLeaf_116 : decode cX2_placeLeaf 116 = .ok (.getfield 43, 3) := dk_getfield 43 (b1 := 0) (b2 := 43) (by decide +kernel) (by decide +kernel) (by decide +kernel) (by decide +kernel)
theorem dX2_placeLeaf_119 : decode cX2_placeLeaf 119 = .ok (.iconst 3, 1) := dk_iconst_3 (by decide +kernel)
theorem dX2_placeLeaf_120 : decode cX2_placeLeaf 120 = .ok (.iastore, 1) := dk_iastore (by decide +kernel)
theorem dX2_placeLeaf_121 : decode cX2_placeLeaf 121 = .ok (.aload_n 0, 1) := dk_aload_n_0 (by decide +kernel)
theorem dX2_placeLeaf_122 : decode cX2_placeLeaf 122 = .ok (.getfield 28, 3) := dk_getfield 28 (b1 := 0) (b2 := 28) (by decide +kernel) (by decide +kernel) (by decide +kernel) (by decide +kernel)
theorem dX2_placeLeaf_125 : decode cX2_placeLeaf 125 = .ok (.aload_n 0, 1) := dk_aload_n_0 (by decide +kernel)
theorem dX2_placeLeaf_126 : decode cX2_placeLeaf 126 = .ok (.getfield 43, 3) := dk_getfield 43 (b1 := 0) (b2 := 43) (by decide +kernel) (by decide +kernel) (by decide +kernel) (by decide +kernel)
theorem dX2_placeLeaf_129 : decode cX2_placeLeaf 129 = .ok (.iload_n 1, 1) := dk_iload_n_1 (by decide +kernel)
theorem dX2_placeLeaf_130 : decode cX2_placeLeaf 130 = .ok (.ifCond .le 7, 3) := dk_ifCond_le 7 (b1 := 0) (b2 := 7) (by decide +kernel) (by decide +kernel) (by decide +kernel) (by decide +kernel)
theorem dX2_placeLeaf_137 : decode cX2_placeLeaf 137 = .ok (.iconst 0, 1) := dk_iconst_0 (by decide +kernel)
theorem dX2_placeLeaf_133 : decode cX2_placeLeaf 133 = .ok (.iconst 1, 1) := dk_iconst_1 (by decide +kernel)
theorem dX2_placeLeaf_134 : decode cX2_placeLeaf 134 = .ok (.goto 4, 3) := dk_goto 4 (b1 := 0) (b2 := 4) (by decide +kernel) (by decide +kernel) (by decide +kernel) (by decide +kernel)
set_option maxRecDepth 20000 in
theorem vX2_placeLeaf_94 {E : sm_E} {L : sm_S → Prop} {d : Nat} {vs : List Value} {x1 : Int32} {x2 : Int32} {x3 : Int32}  {m : sm_M} {Q : sm_M → Prop} (hly : ∀ S, L S → ly S) (hd : 2 ≤ d) 
  (h : sm_callI E L mJ9_abs_0f7a4 1 0 0 [.int x1] m (fun r_2 m_1 =>
   (r_2 ≤ x3 →
      gX2_placeLeaf_203 E L d vs x2 m_1 Q) ∧
   (¬ r_2 ≤ x3 →
      (24 ≤ (m_1.1 16 10) →
         gX2_placeLeaf_203 E L d vs x2 m_1 Q) ∧
      (¬ 24 ≤ (m_1.1 16 10) →
         (vp_in (m_1.1 16 10) 48) ∧ ∀ m_3 : sm_M, m_3 = sm_wI m_1 17 (m_1.1 16 10).toNatClampNeg 3 →
         (x1 ≤ 0 →
            gX2_placeLeaf_138 E L d vs x1 x2 x3 (m_3.1 16 10) 0 m_3 Q) ∧
         (¬ x1 ≤ 0 →
            gX2_placeLeaf_138 E L d vs x1 x2 x3 (m_3.1 16 10) 1 m_3 Q))))) :
  gX2_placeLeaf_94 E L d vs x1 x2 x3 m Q := by
  refine sm_iload_n (Y := mX2_placeLeaf) (pc := 94) 3 3 rfl rfl dX2_placeLeaf_94 ?_
  refine sm_iload_n (Y := mX2_placeLeaf) (pc := 95) 1 1 rfl rfl dX2_placeLeaf_95 ?_
  refine sm_is_I (Y := mX2_placeLeaf) (pc := 96) (As := [.int x1]) fJ9_abs_0f7a4 wRX2_90 rfl (Nat.le_trans (by decide) hd) (Nat.le_of_ble_eq_true rfl) ⟨Nat.le_refl _, Nat.le_refl _⟩ dX2_placeLeaf_96 rfl (sm_monoI h (fun r_2 m_1 h => ?_))
  refine sm_icmp_ge (Y := mX2_placeLeaf) (pc := 99) 203 (by decide) dX2_placeLeaf_99 (fun hc => ?_) (fun hc => ?_)
  · replace h := h.1 hc
    refine sm_sub [0, 2] rfl ?_
    exact h
  · replace h := h.2 hc
    refine sm_aload_n (Y := mX2_placeLeaf) (pc := 102) 0 0 rfl rfl dX2_placeLeaf_102 ?_
    refine gf_RX2_43 (Y := mX2_placeLeaf) (pc := 103) rfl ((lk_16 hly) _) dX2_placeLeaf_103 ?_
    refine sm_bipush (Y := mX2_placeLeaf) (pc := 106) 24 (by decide) dX2_placeLeaf_106 ?_
    refine sm_icmp_ge (Y := mX2_placeLeaf) (pc := 108) 203 (by decide) dX2_placeLeaf_108 (fun hc => ?_) (fun hc => ?_)
    · replace h := h.1 hc
      refine sm_sub [0, 2] rfl ?_
      exact h
    · replace h := h.2 hc
      refine sm_aload_n (Y := mX2_placeLeaf) (pc := 111) 0 0 rfl rfl dX2_placeLeaf_111 ?_
      refine gf_RX2_11 (Y := mX2_placeLeaf) (pc := 112) (b := 17) rfl ((lk_16 hly) _) (lf_16_0 hly _) dX2_placeLeaf_112 ?_
      refine sm_aload_n (Y := mX2_placeLeaf) (pc := 115) 0 0 rfl rfl dX2_placeLeaf_115 ?_
      refine gf_RX2_43 (Y := mX2_placeLeaf) (pc := 116) rfl ((lk_16 hly) _) dX2_placeLeaf_116 ?_
      refine sm_iconst (Y := mX2_placeLeaf) (pc := 119) 3 (by decide) dX2_placeLeaf_119 ?_
      obtain ⟨hn_4, h⟩ := h
      refine sm_iast (Y := mX2_placeLeaf) (pc := 120) (la_17 hly _) hn_4 dX2_placeLeaf_120 (fun m_3 em_3 => ?_)
      replace h := h m_3 em_3
      refine sm_aload_n (Y := mX2_placeLeaf) (pc := 121) 0 0 rfl rfl dX2_placeLeaf_121 ?_
      refine gf_RX2_28 (Y := mX2_placeLeaf) (pc := 122) (b := 22) rfl ((lk_16 hly) _) (lf_16_5 hly _) dX2_placeLeaf_122 ?_
      refine sm_aload_n (Y := mX2_placeLeaf) (pc := 125) 0 0 rfl rfl dX2_placeLeaf_125 ?_
      refine gf_RX2_43 (Y := mX2_placeLeaf) (pc := 126) rfl ((lk_16 hly) _) dX2_placeLeaf_126 ?_
      refine sm_iload_n (Y := mX2_placeLeaf) (pc := 129) 1 1 rfl rfl dX2_placeLeaf_129 ?_
      refine sm_if_le (Y := mX2_placeLeaf) (pc := 130) 137 (by decide) dX2_placeLeaf_130 (fun hc => ?_) (fun hc => ?_)
      · replace h := h.1 hc
        refine sm_iconst (Y := mX2_placeLeaf) (pc := 137) 0 (by decide) dX2_placeLeaf_137 ?_
        exact h
      · replace h := h.2 hc
        refine sm_iconst (Y := mX2_placeLeaf) (pc := 133) 1 (by decide) dX2_placeLeaf_133 ?_
        refine sm_goto (Y := mX2_placeLeaf) (pc := 134) 138 (by decide) dX2_placeLeaf_134 ?_
        exact h
theorem dX2_placeLeaf_67 : decode cX2_placeLeaf 67 = .ok (.iastore, 1) := dk_iastore (by decide +kernel)
theorem dX2_placeLeaf_68 : decode cX2_placeLeaf 68 = .ok (.aload_n 0, 1) := dk_aload_n_0 (by decide +kernel)
theorem dX2_placeLeaf_69 : decode cX2_placeLeaf 69 = .ok (.iload_n 2, 1) := dk_iload_n_2 (by decide +kernel)
theorem dX2_placeLeaf_70 : decode cX2_placeLeaf 70 = .ok (.iload_n 2, 1) := dk_iload_n_2 (by decide +kernel)
theorem dX2_placeLeaf_71 : decode cX2_placeLeaf 71 = .ok (.invokevirtual 87, 3) := dk_invokevirtual 87 (b1 := 0) (b2 := 87) (by decide +kernel) (by decide +kernel) (by decide +kernel) (by decide +kernel)
theorem dX2_placeLeaf_74 : decode cX2_placeLeaf 74 = .ok (.aload_n 0, 1) := dk_aload_n_0 (by decide +kernel)
theorem dX2_placeLeaf_75 : decode cX2_placeLeaf 75 = .ok (.dup, 1) := dk_dup (by decide +kernel)
theorem dX2_placeLeaf_76 : decode cX2_placeLeaf 76 = .ok (.getfield 47, 3) := dk_getfield 47 (b1 := 0) (b2 := 47) (by decide +kernel) (by decide +kernel) (by decide +kernel) (by decide +kernel)
theorem dX2_placeLeaf_79 : decode cX2_placeLeaf 79 = .ok (.iconst 1, 1) := dk_iconst_1 (by decide +kernel)
theorem dX2_placeLeaf_80 : decode cX2_placeLeaf 80 = .ok (.iadd, 1) := dk_iadd (by decide +kernel)
theorem dX2_placeLeaf_81 : decode cX2_placeLeaf 81 = .ok (.putfield 47, 3) := dk_putfield 47 (b1 := 0) (b2 := 47) (by decide +kernel) (by decide +kernel) (by decide +kernel) (by decide +kernel)
theorem dX2_placeLeaf_84 : decode cX2_placeLeaf 84 = .ok (.goto 130, 3) := dk_goto 130 (b1 := 0) (b2 := 130) (by decide +kernel) (by decide +kernel) (by decide +kernel) (by decide +kernel)
set_option maxRecDepth 20000 in
theorem vX2_placeLeaf_67 {E : sm_E} {L : sm_S → Prop} {d : Nat} {vs : List Value} {x2 : Int32} {s1 : Int32} {s2 : Int32}  {m : sm_M} {Q : sm_M → Prop} (hly : ∀ S, L S → ly S) (hd : 2 ≤ d) 
  (h : (vp_in s1 48) ∧ ∀ m_1 : sm_M, m_1 = sm_wI m 17 s1.toNatClampNeg s2 →
   sm_callV E L mX2_setEnds 1 0 0 [.ref (sm_B E + 16), .int x2, .int x2] m_1 (fun m_3 =>
   ∀ m_4 : sm_M, m_4 = sm_wI m_3 16 13 ((m_3.1 16 13) + 1) →
   ∀ m_5 : sm_M, m_5 = sm_wI m_4 16 14 ((m_4.1 16 14) + 1) →
   Q m_5)) :
  gX2_placeLeaf_67 E L d vs x2 s1 s2 m Q := by
  obtain ⟨hn_2, h⟩ := h
  refine sm_iast (Y := mX2_placeLeaf) (pc := 67) (la_17 hly _) hn_2 dX2_placeLeaf_67 (fun m_1 em_1 => ?_)
  replace h := h m_1 em_1
  refine sm_aload_n (Y := mX2_placeLeaf) (pc := 68) 0 0 rfl rfl dX2_placeLeaf_68 ?_
  refine sm_iload_n (Y := mX2_placeLeaf) (pc := 69) 1 2 rfl rfl dX2_placeLeaf_69 ?_
  refine sm_iload_n (Y := mX2_placeLeaf) (pc := 70) 1 2 rfl rfl dX2_placeLeaf_70 ?_
  refine sm_iv_V (Y := mX2_placeLeaf) (pc := 71) (As := [.int x2, .int x2]) (a := 16) fX2_setEnds wRX2_87 (lk_16 hly) (by decide) rfl rfl rfl (Nat.le_trans (by decide) hd) (Nat.le_of_ble_eq_true rfl) ⟨Nat.le_refl _, Nat.le_refl _⟩ dX2_placeLeaf_71 rfl (sm_monoV h (fun m_3 h => ?_))
  refine sm_aload_n (Y := mX2_placeLeaf) (pc := 74) 0 0 rfl rfl dX2_placeLeaf_74 ?_
  refine sm_dup (Y := mX2_placeLeaf) (pc := 75) rfl dX2_placeLeaf_75 ?_
  refine gf_RX2_47 (Y := mX2_placeLeaf) (pc := 76) rfl ((lk_16 hly) _) dX2_placeLeaf_76 ?_
  refine sm_iconst (Y := mX2_placeLeaf) (pc := 79) 1 (by decide) dX2_placeLeaf_79 ?_
  refine sm_iadd (Y := mX2_placeLeaf) (pc := 80) dX2_placeLeaf_80 ?_
  refine pf_RX2_47 (Y := mX2_placeLeaf) (pc := 81) rfl ((lk_16 hly) _) dX2_placeLeaf_81 (fun m_4 em_4 => ?_)
  replace h := h m_4 em_4
  refine sm_goto (Y := mX2_placeLeaf) (pc := 84) 214 (by decide) dX2_placeLeaf_84 ?_
  refine sm_aload_n (Y := mX2_placeLeaf) (pc := 214) 0 0 rfl rfl dX2_placeLeaf_214 ?_
  refine sm_dup (Y := mX2_placeLeaf) (pc := 215) rfl dX2_placeLeaf_215 ?_
  refine gf_RX2_50 (Y := mX2_placeLeaf) (pc := 216) rfl ((lk_16 hly) _) dX2_placeLeaf_216 ?_
  refine sm_iconst (Y := mX2_placeLeaf) (pc := 219) 1 (by decide) dX2_placeLeaf_219 ?_
  refine sm_iadd (Y := mX2_placeLeaf) (pc := 220) dX2_placeLeaf_220 ?_
  refine pf_RX2_50 (Y := mX2_placeLeaf) (pc := 221) rfl ((lk_16 hly) _) dX2_placeLeaf_221 (fun m_5 em_5 => ?_)
  replace h := h m_5 em_5
  exact sm_vret (Y := mX2_placeLeaf) (pc := 224) rfl rfl rfl dX2_placeLeaf_224 ⟨rfl, h⟩
theorem dX2_placeLeaf_45 : decode cX2_placeLeaf 45 = .ok (.bipush 24, 2) := dk_bipush 24 (b := 24) (by decide +kernel) (by decide +kernel) (by decide +kernel)
theorem dX2_placeLeaf_47 : decode cX2_placeLeaf 47 = .ok (.aload_n 0, 1) := dk_aload_n_0 (by decide +kernel)
theorem dX2_placeLeaf_48 : decode cX2_placeLeaf 48 = .ok (.getfield 47, 3) := dk_getfield 47 (b1 := 0) (b2 := 47) (by decide +kernel) (by decide +kernel) (by decide +kernel) (by decide +kernel)
theorem dX2_placeLeaf_51 : decode cX2_placeLeaf 51 = .ok (.iadd, 1) := dk_iadd (by decide +kernel)
theorem dX2_placeLeaf_52 : decode cX2_placeLeaf 52 = .ok (.istore_n 2, 1) := dk_istore_n_2 (by decide +kernel)
theorem dX2_placeLeaf_53 : decode cX2_placeLeaf 53 = .ok (.aload_n 0, 1) := dk_aload_n_0 (by decide +kernel)
theorem dX2_placeLeaf_54 : decode cX2_placeLeaf 54 = .ok (.getfield 11, 3) := dk_getfield 11 (b1 := 0) (b2 := 11) (by decide +kernel) (by decide +kernel) (by decide +kernel) (by decide +kernel)
theorem dX2_placeLeaf_57 : decode cX2_placeLeaf 57 = .ok (.iload_n 2, 1) := dk_iload_n_2 (by decide +kernel)
theorem dX2_placeLeaf_58 : decode cX2_placeLeaf 58 = .ok (.iload_n 1, 1) := dk_iload_n_1 (by decide +kernel)
theorem dX2_placeLeaf_59 : decode cX2_placeLeaf 59 = .ok (.ifCond .ne 7, 3) := dk_ifCond_ne 7 (b1 := 0) (b2 := 7) (by decide +kernel) (by decide +kernel) (by decide +kernel) (by decide +kernel)
theorem dX2_placeLeaf_66 : decode cX2_placeLeaf 66 = .ok (.iconst 2, 1) := dk_iconst_2 (by decide +kernel)
theorem dX2_placeLeaf_62 : decode cX2_placeLeaf 62 = .ok (.iconst 1, 1) := dk_iconst_1 (by decide +kernel)
theorem dX2_placeLeaf_63 : decode cX2_placeLeaf 63 = .ok (.goto 4, 3) := dk_goto 4 (b1 := 0) (b2 := 4) (by decide +kernel) (by decide +kernel) (by decide +kernel) (by decide +kernel)
set_option maxRecDepth 20000 in
theorem vX2_placeLeaf_45 {E : sm_E} {L : sm_S → Prop} {d : Nat} {vs : List Value} {x1 : Int32}  {m : sm_M} {Q : sm_M → Prop} (hly : ∀ S, L S → ly S) (hd : 2 ≤ d) 
  (h : ∀ x2_1 : Int32, x2_1 = (24 : Int32) + (m.1 16 13) →
   (¬ x1 = 0 →
      gX2_placeLeaf_67 E L d vs x2_1 x2_1 2 m Q) ∧
   (x1 = 0 →
      gX2_placeLeaf_67 E L d vs x2_1 x2_1 1 m Q)) :
  gX2_placeLeaf_45 E L d vs x1 m Q := by
  refine sm_bipush (Y := mX2_placeLeaf) (pc := 45) 24 (by decide) dX2_placeLeaf_45 ?_
  refine sm_aload_n (Y := mX2_placeLeaf) (pc := 47) 0 0 rfl rfl dX2_placeLeaf_47 ?_
  refine gf_RX2_47 (Y := mX2_placeLeaf) (pc := 48) rfl ((lk_16 hly) _) dX2_placeLeaf_48 ?_
  refine sm_iadd (Y := mX2_placeLeaf) (pc := 51) dX2_placeLeaf_51 ?_
  refine sm_istore_n (Y := mX2_placeLeaf) (pc := 52) (fun y => [(2, .int y), (0, .ref (sm_B E + 16)), (1, .int x1)]) 2 rfl (by decide) (fun _ => rfl) dX2_placeLeaf_52 (fun x2_1 ex2_1 => ?_)
  replace h := h x2_1 ex2_1
  refine sm_aload_n (Y := mX2_placeLeaf) (pc := 53) 1 0 rfl rfl dX2_placeLeaf_53 ?_
  refine gf_RX2_11 (Y := mX2_placeLeaf) (pc := 54) (b := 17) rfl ((lk_16 hly) _) (lf_16_0 hly _) dX2_placeLeaf_54 ?_
  refine sm_iload_n (Y := mX2_placeLeaf) (pc := 57) 0 2 rfl rfl dX2_placeLeaf_57 ?_
  refine sm_iload_n (Y := mX2_placeLeaf) (pc := 58) 2 1 rfl rfl dX2_placeLeaf_58 ?_
  refine sm_if_ne (Y := mX2_placeLeaf) (pc := 59) 66 (by decide) dX2_placeLeaf_59 (fun hc => ?_) (fun hc => ?_)
  · replace h := h.1 hc
    refine sm_iconst (Y := mX2_placeLeaf) (pc := 66) 2 (by decide) dX2_placeLeaf_66 ?_
    refine sm_sub [1, 0] rfl ?_
    exact h
  · replace h := h.2 hc
    refine sm_iconst (Y := mX2_placeLeaf) (pc := 62) 1 (by decide) dX2_placeLeaf_62 ?_
    refine sm_goto (Y := mX2_placeLeaf) (pc := 63) 67 (by decide) dX2_placeLeaf_63 ?_
    refine sm_sub [1, 0] rfl ?_
    exact h
theorem dX2_placeLeaf_0 : decode cX2_placeLeaf 0 = .ok (.aload_n 0, 1) := dk_aload_n_0 (by decide +kernel)
theorem dX2_placeLeaf_1 : decode cX2_placeLeaf 1 = .ok (.getfield 50, 3) := dk_getfield 50 (b1 := 0) (b2 := 50) (by decide +kernel) (by decide +kernel) (by decide +kernel) (by decide +kernel)
theorem dX2_placeLeaf_4 : decode cX2_placeLeaf 4 = .ok (.aload_n 0, 1) := dk_aload_n_0 (by decide +kernel)
theorem dX2_placeLeaf_5 : decode cX2_placeLeaf 5 = .ok (.getfield 25, 3) := dk_getfield 25 (b1 := 0) (b2 := 25) (by decide +kernel) (by decide +kernel) (by decide +kernel) (by decide +kernel)
theorem dX2_placeLeaf_8 : decode cX2_placeLeaf 8 = .ok (.arraylength, 1) := dk_arraylength (by decide +kernel)
theorem dX2_placeLeaf_9 : decode cX2_placeLeaf 9 = .ok (.if_icmp .ge 12, 3) := dk_if_icmp_ge 12 (b1 := 0) (b2 := 12) (by decide +kernel) (by decide +kernel) (by decide +kernel) (by decide +kernel)
theorem dX2_placeLeaf_21 : decode cX2_placeLeaf 21 = .ok (.return_, 1) := dk_return_ (by decide +kernel)
theorem dX2_placeLeaf_12 : decode cX2_placeLeaf 12 = .ok (.aload_n 0, 1) := dk_aload_n_0 (by decide +kernel)
theorem dX2_placeLeaf_13 : decode cX2_placeLeaf 13 = .ok (.getfield 47, 3) := dk_getfield 47 (b1 := 0) (b2 := 47) (by decide +kernel) (by decide +kernel) (by decide +kernel) (by decide +kernel)
theorem dX2_placeLeaf_16 : decode cX2_placeLeaf 16 = .ok (.bipush 24, 2) := dk_bipush 24 (b := 24) (by decide +kernel) (by decide +kernel) (by decide +kernel)
theorem dX2_placeLeaf_18 : decode cX2_placeLeaf 18 = .ok (.if_icmp .lt 4, 3) := dk_if_icmp_lt 4 (b1 := 0) (b2 := 4) (by decide +kernel) (by decide +kernel) (by decide +kernel) (by decide +kernel)
theorem dX2_placeLeaf_22 : decode cX2_placeLeaf 22 = .ok (.aload_n 0, 1) := dk_aload_n_0 (by decide +kernel)
theorem dX2_placeLeaf_23 : decode cX2_placeLeaf 23 = .ok (.getfield 25, 3) := dk_getfield 25 (b1 := 0) (b2 := 25) (by decide +kernel) (by decide +kernel) (by decide +kernel) (by decide +kernel)
theorem dX2_placeLeaf_26 : decode cX2_placeLeaf 26 = .ok (.aload_n 0, 1) := dk_aload_n_0 (by decide +kernel)
theorem dX2_placeLeaf_27 : decode cX2_placeLeaf 27 = .ok (.getfield 50, 3) := dk_getfield 50 (b1 := 0) (b2 := 50) (by decide +kernel) (by decide +kernel) (by decide +kernel) (by decide +kernel)
theorem dX2_placeLeaf_30 : decode cX2_placeLeaf 30 = .ok (.aload_n 0, 1) := dk_aload_n_0 (by decide +kernel)
theorem dX2_placeLeaf_31 : decode cX2_placeLeaf 31 = .ok (.getfield 43, 3) := dk_getfield 43 (b1 := 0) (b2 := 43) (by decide +kernel) (by decide +kernel) (by decide +kernel) (by decide +kernel)
theorem dX2_placeLeaf_34 : decode cX2_placeLeaf 34 = .ok (.iastore, 1) := dk_iastore (by decide +kernel)
theorem dX2_placeLeaf_35 : decode cX2_placeLeaf 35 = .ok (.iload_n 1, 1) := dk_iload_n_1 (by decide +kernel)
theorem dX2_placeLeaf_36 : decode cX2_placeLeaf 36 = .ok (.ifCond .eq 9, 3) := dk_ifCond_eq 9 (b1 := 0) (b2 := 9) (by decide +kernel) (by decide +kernel) (by decide +kernel) (by decide +kernel)
theorem dX2_placeLeaf_39 : decode cX2_placeLeaf 39 = .ok (.iload_n 1, 1) := dk_iload_n_1 (by decide +kernel)
theorem dX2_placeLeaf_40 : decode cX2_placeLeaf 40 = .ok (.bipush 10, 2) := dk_bipush 10 (b := 10) (by decide +kernel) (by decide +kernel) (by decide +kernel)
theorem dX2_placeLeaf_42 : decode cX2_placeLeaf 42 = .ok (.if_icmp .ne 45, 3) := dk_if_icmp_ne 45 (b1 := 0) (b2 := 45) (by decide +kernel) (by decide +kernel) (by decide +kernel) (by decide +kernel)
theorem dX2_placeLeaf_87 : decode cX2_placeLeaf 87 = .ok (.aload_n 0, 1) := dk_aload_n_0 (by decide +kernel)
theorem dX2_placeLeaf_88 : decode cX2_placeLeaf 88 = .ok (.getfield 43, 3) := dk_getfield 43 (b1 := 0) (b2 := 43) (by decide +kernel) (by decide +kernel) (by decide +kernel) (by decide +kernel)
theorem dX2_placeLeaf_91 : decode cX2_placeLeaf 91 = .ok (.istore_n 2, 1) := dk_istore_n_2 (by decide +kernel)
theorem dX2_placeLeaf_92 : decode cX2_placeLeaf 92 = .ok (.iconst 0, 1) := dk_iconst_0 (by decide +kernel)
theorem dX2_placeLeaf_93 : decode cX2_placeLeaf 93 = .ok (.istore_n 3, 1) := dk_istore_n_3 (by decide +kernel)
set_option maxRecDepth 20000 in
theorem vX2_placeLeaf_0 {E : sm_E} {L : sm_S → Prop} {d : Nat} {x1 : Int32}  {m : sm_M} {Q : sm_M → Prop} (hly : ∀ S, L S → ly S) (hd : 2 ≤ d) 
  (h : ((nI 24) ≤ (m.1 16 14) →
      Q m) ∧
   (¬ (nI 24) ≤ (m.1 16 14) →
      ((m.1 16 13) < 24 →
         (vp_in (m.1 16 14) 24) ∧ ∀ m_1 : sm_M, m_1 = sm_wI m 21 (m.1 16 14).toNatClampNeg (m.1 16 10) →
         (x1 = 0 →
            gX2_placeLeaf_45 E L d ([.ref (sm_B E + 16), .int x1]) x1 m_1 Q) ∧
         (¬ x1 = 0 →
            (¬ x1 = 10 →
               ∀ x2_3 : Int32, x2_3 = m_1.1 16 10 →
               gX2_placeLeaf_94 E L d ([.ref (sm_B E + 16), .int x1]) x1 x2_3 0 m_1 Q) ∧
            (x1 = 10 →
               gX2_placeLeaf_45 E L d ([.ref (sm_B E + 16), .int x1]) x1 m_1 Q))) ∧
      (¬ (m.1 16 13) < 24 →
         Q m))) :
  sm_callV E L mX2_placeLeaf d 0 0 [.ref (sm_B E + 16), .int x1] m Q := by
  refine sm_enter (by decide +kernel) (by simp [lg_sl, Value.category]) ?_
  refine sm_aload_n (Y := mX2_placeLeaf) (pc := 0) 0 0 rfl rfl dX2_placeLeaf_0 ?_
  refine gf_RX2_50 (Y := mX2_placeLeaf) (pc := 1) rfl ((lk_16 hly) _) dX2_placeLeaf_1 ?_
  refine sm_aload_n (Y := mX2_placeLeaf) (pc := 4) 0 0 rfl rfl dX2_placeLeaf_4 ?_
  refine gf_RX2_25 (Y := mX2_placeLeaf) (pc := 5) (b := 21) rfl ((lk_16 hly) _) (lf_16_4 hly _) dX2_placeLeaf_5 ?_
  refine sm_alenI (Y := mX2_placeLeaf) (pc := 8) (la_21 hly _) dX2_placeLeaf_8 ?_
  refine sm_icmp_ge (Y := mX2_placeLeaf) (pc := 9) 21 (by decide) dX2_placeLeaf_9 (fun hc => ?_) (fun hc => ?_)
  · replace h := h.1 hc
    exact sm_vret (Y := mX2_placeLeaf) (pc := 21) rfl rfl rfl dX2_placeLeaf_21 ⟨rfl, h⟩
  · replace h := h.2 hc
    refine sm_aload_n (Y := mX2_placeLeaf) (pc := 12) 0 0 rfl rfl dX2_placeLeaf_12 ?_
    refine gf_RX2_47 (Y := mX2_placeLeaf) (pc := 13) rfl ((lk_16 hly) _) dX2_placeLeaf_13 ?_
    refine sm_bipush (Y := mX2_placeLeaf) (pc := 16) 24 (by decide) dX2_placeLeaf_16 ?_
    refine sm_icmp_lt (Y := mX2_placeLeaf) (pc := 18) 22 (by decide) dX2_placeLeaf_18 (fun hc => ?_) (fun hc => ?_)
    · replace h := h.1 hc
      refine sm_aload_n (Y := mX2_placeLeaf) (pc := 22) 0 0 rfl rfl dX2_placeLeaf_22 ?_
      refine gf_RX2_25 (Y := mX2_placeLeaf) (pc := 23) (b := 21) rfl ((lk_16 hly) _) (lf_16_4 hly _) dX2_placeLeaf_23 ?_
      refine sm_aload_n (Y := mX2_placeLeaf) (pc := 26) 0 0 rfl rfl dX2_placeLeaf_26 ?_
      refine gf_RX2_50 (Y := mX2_placeLeaf) (pc := 27) rfl ((lk_16 hly) _) dX2_placeLeaf_27 ?_
      refine sm_aload_n (Y := mX2_placeLeaf) (pc := 30) 0 0 rfl rfl dX2_placeLeaf_30 ?_
      refine gf_RX2_43 (Y := mX2_placeLeaf) (pc := 31) rfl ((lk_16 hly) _) dX2_placeLeaf_31 ?_
      obtain ⟨hn_2, h⟩ := h
      refine sm_iast (Y := mX2_placeLeaf) (pc := 34) (la_21 hly _) hn_2 dX2_placeLeaf_34 (fun m_1 em_1 => ?_)
      replace h := h m_1 em_1
      refine sm_iload_n (Y := mX2_placeLeaf) (pc := 35) 1 1 rfl rfl dX2_placeLeaf_35 ?_
      refine sm_if_eq (Y := mX2_placeLeaf) (pc := 36) 45 (by decide) dX2_placeLeaf_36 (fun hc => ?_) (fun hc => ?_)
      · replace h := h.1 hc
        exact h
      · replace h := h.2 hc
        refine sm_iload_n (Y := mX2_placeLeaf) (pc := 39) 1 1 rfl rfl dX2_placeLeaf_39 ?_
        refine sm_bipush (Y := mX2_placeLeaf) (pc := 40) 10 (by decide) dX2_placeLeaf_40 ?_
        refine sm_icmp_ne (Y := mX2_placeLeaf) (pc := 42) 87 (by decide) dX2_placeLeaf_42 (fun hc => ?_) (fun hc => ?_)
        · replace h := h.1 hc
          refine sm_aload_n (Y := mX2_placeLeaf) (pc := 87) 0 0 rfl rfl dX2_placeLeaf_87 ?_
          refine gf_RX2_43 (Y := mX2_placeLeaf) (pc := 88) rfl ((lk_16 hly) _) dX2_placeLeaf_88 ?_
          refine sm_istore_n (Y := mX2_placeLeaf) (pc := 91) (fun y => [(2, .int y), (0, .ref (sm_B E + 16)), (1, .int x1)]) 2 rfl (by decide) (fun _ => rfl) dX2_placeLeaf_91 (fun x2_3 ex2_3 => ?_)
          replace h := h x2_3 ex2_3
          refine sm_iconst (Y := mX2_placeLeaf) (pc := 92) 0 (by decide) dX2_placeLeaf_92 ?_
          refine sm_istore0_n (Y := mX2_placeLeaf) (pc := 93) [(3, .int 0), (2, .int x2_3), (0, .ref (sm_B E + 16)), (1, .int x1)] 3 rfl (by decide) rfl dX2_placeLeaf_93 ?_
          refine sm_sub [2, 3, 1, 0] rfl ?_
          exact h
        · replace h := h.2 hc
          exact h
    · replace h := h.2 hc
      exact sm_vret (Y := mX2_placeLeaf) (pc := 21) rfl rfl rfl dX2_placeLeaf_21 ⟨rfl, h⟩
theorem dX2_setEnds_0 : decode cX2_setEnds 0 = .ok (.iconst 4, 1) := dk_iconst_4 (by decide +kernel)
theorem dX2_setEnds_1 : decode cX2_setEnds 1 = .ok (.aload_n 0, 1) := dk_aload_n_0 (by decide +kernel)
theorem dX2_setEnds_2 : decode cX2_setEnds 2 = .ok (.getfield 50, 3) := dk_getfield 50 (b1 := 0) (b2 := 50) (by decide +kernel) (by decide +kernel) (by decide +kernel) (by decide +kernel)
theorem dX2_setEnds_5 : decode cX2_setEnds 5 = .ok (.imul, 1) := dk_imul (by decide +kernel)
theorem dX2_setEnds_6 : decode cX2_setEnds 6 = .ok (.istore_n 3, 1) := dk_istore_n_3 (by decide +kernel)
theorem dX2_setEnds_7 : decode cX2_setEnds 7 = .ok (.aload_n 0, 1) := dk_aload_n_0 (by decide +kernel)
theorem dX2_setEnds_8 : decode cX2_setEnds 8 = .ok (.getfield 22, 3) := dk_getfield 22 (b1 := 0) (b2 := 22) (by decide +kernel) (by decide +kernel) (by decide +kernel) (by decide +kernel)
theorem dX2_setEnds_11 : decode cX2_setEnds 11 = .ok (.iload_n 3, 1) := dk_iload_n_3 (by decide +kernel)
theorem dX2_setEnds_12 : decode cX2_setEnds 12 = .ok (.iconst 0, 1) := dk_iconst_0 (by decide +kernel)
theorem dX2_setEnds_13 : decode cX2_setEnds 13 = .ok (.iadd, 1) := dk_iadd (by decide +kernel)
theorem dX2_setEnds_14 : decode cX2_setEnds 14 = .ok (.iconst 4, 1) := dk_iconst_4 (by decide +kernel)
theorem dX2_setEnds_15 : decode cX2_setEnds 15 = .ok (.iload_n 1, 1) := dk_iload_n_1 (by decide +kernel)
theorem dX2_setEnds_16 : decode cX2_setEnds 16 = .ok (.imul, 1) := dk_imul (by decide +kernel)
theorem dX2_setEnds_17 : decode cX2_setEnds 17 = .ok (.iconst 0, 1) := dk_iconst_0 (by decide +kernel)
theorem dX2_setEnds_18 : decode cX2_setEnds 18 = .ok (.iadd, 1) := dk_iadd (by decide +kernel)
theorem dX2_setEnds_19 : decode cX2_setEnds 19 = .ok (.iastore, 1) := dk_iastore (by decide +kernel)
theorem dX2_setEnds_20 : decode cX2_setEnds 20 = .ok (.aload_n 0, 1) := dk_aload_n_0 (by decide +kernel)
theorem dX2_setEnds_21 : decode cX2_setEnds 21 = .ok (.getfield 22, 3) := dk_getfield 22 (b1 := 0) (b2 := 22) (by decide +kernel) (by decide +kernel) (by decide +kernel) (by decide +kernel)
theorem dX2_setEnds_24 : decode cX2_setEnds 24 = .ok (.iload_n 3, 1) := dk_iload_n_3 (by decide +kernel)
theorem dX2_setEnds_25 : decode cX2_setEnds 25 = .ok (.iconst 2, 1) := dk_iconst_2 (by decide +kernel)
theorem dX2_setEnds_26 : decode cX2_setEnds 26 = .ok (.iadd, 1) := dk_iadd (by decide +kernel)
theorem dX2_setEnds_27 : decode cX2_setEnds 27 = .ok (.iconst 4, 1) := dk_iconst_4 (by decide +kernel)
theorem dX2_setEnds_28 : decode cX2_setEnds 28 = .ok (.iload_n 1, 1) := dk_iload_n_1 (by decide +kernel)
theorem dX2_setEnds_29 : decode cX2_setEnds 29 = .ok (.imul, 1) := dk_imul (by decide +kernel)
theorem dX2_setEnds_30 : decode cX2_setEnds 30 = .ok (.iconst 2, 1) := dk_iconst_2 (by decide +kernel)
theorem dX2_setEnds_31 : decode cX2_setEnds 31 = .ok (.iadd, 1) := dk_iadd (by decide +kernel)
theorem dX2_setEnds_32 : decode cX2_setEnds 32 = .ok (.iastore, 1) := dk_iastore (by decide +kernel)
theorem dX2_setEnds_33 : decode cX2_setEnds 33 = .ok (.aload_n 0, 1) := dk_aload_n_0 (by decide +kernel)
theorem dX2_setEnds_34 : decode cX2_setEnds 34 = .ok (.getfield 22, 3) := dk_getfield 22 (b1 := 0) (b2 := 22) (by decide +kernel) (by decide +kernel) (by decide +kernel) (by decide +kernel)
theorem dX2_setEnds_37 : decode cX2_setEnds 37 = .ok (.iload_n 3, 1) := dk_iload_n_3 (by decide +kernel)
theorem dX2_setEnds_38 : decode cX2_setEnds 38 = .ok (.iconst 1, 1) := dk_iconst_1 (by decide +kernel)
theorem dX2_setEnds_39 : decode cX2_setEnds 39 = .ok (.iadd, 1) := dk_iadd (by decide +kernel)
theorem dX2_setEnds_40 : decode cX2_setEnds 40 = .ok (.iconst 4, 1) := dk_iconst_4 (by decide +kernel)
theorem dX2_setEnds_41 : decode cX2_setEnds 41 = .ok (.iload_n 2, 1) := dk_iload_n_2 (by decide +kernel)
theorem dX2_setEnds_42 : decode cX2_setEnds 42 = .ok (.imul, 1) := dk_imul (by decide +kernel)
theorem dX2_setEnds_43 : decode cX2_setEnds 43 = .ok (.iconst 1, 1) := dk_iconst_1 (by decide +kernel)
theorem dX2_setEnds_44 : decode cX2_setEnds 44 = .ok (.iadd, 1) := dk_iadd (by decide +kernel)
theorem dX2_setEnds_45 : decode cX2_setEnds 45 = .ok (.iastore, 1) := dk_iastore (by decide +kernel)
theorem dX2_setEnds_46 : decode cX2_setEnds 46 = .ok (.aload_n 0, 1) := dk_aload_n_0 (by decide +kernel)
theorem dX2_setEnds_47 : decode cX2_setEnds 47 = .ok (.getfield 22, 3) := dk_getfield 22 (b1 := 0) (b2 := 22) (by decide +kernel) (by decide +kernel) (by decide +kernel) (by decide +kernel)
theorem dX2_setEnds_50 : decode cX2_setEnds 50 = .ok (.iload_n 3, 1) := dk_iload_n_3 (by decide +kernel)
theorem dX2_setEnds_51 : decode cX2_setEnds 51 = .ok (.iconst 3, 1) := dk_iconst_3 (by decide +kernel)
theorem dX2_setEnds_52 : decode cX2_setEnds 52 = .ok (.iadd, 1) := dk_iadd (by decide +kernel)
theorem dX2_setEnds_53 : decode cX2_setEnds 53 = .ok (.iconst 4, 1) := dk_iconst_4 (by decide +kernel)
theorem dX2_setEnds_54 : decode cX2_setEnds 54 = .ok (.iload_n 2, 1) := dk_iload_n_2 (by decide +kernel)
theorem dX2_setEnds_55 : decode cX2_setEnds 55 = .ok (.imul, 1) := dk_imul (by decide +kernel)
theorem dX2_setEnds_56 : decode cX2_setEnds 56 = .ok (.iconst 3, 1) := dk_iconst_3 (by decide +kernel)
theorem dX2_setEnds_57 : decode cX2_setEnds 57 = .ok (.iadd, 1) := dk_iadd (by decide +kernel)
theorem dX2_setEnds_58 : decode cX2_setEnds 58 = .ok (.iastore, 1) := dk_iastore (by decide +kernel)
theorem dX2_setEnds_59 : decode cX2_setEnds 59 = .ok (.return_, 1) := dk_return_ (by decide +kernel)
set_option maxRecDepth 20000 in
theorem vX2_setEnds_0 {E : sm_E} {L : sm_S → Prop} {d : Nat} {x1 : Int32} {x2 : Int32}  {m : sm_M} {Q : sm_M → Prop} (hly : ∀ S, L S → ly S) (hd : 1 ≤ d) 
  (h : ∀ x3_1 : Int32, x3_1 = (4 : Int32) * (m.1 16 14) →
   (vp_in (x3_1 + 0) 96) ∧ ∀ m_2 : sm_M, m_2 = sm_wI m 20 (x3_1 + 0).toNatClampNeg (((4 : Int32) * x1) + 0) →
   (vp_in (x3_1 + 2) 96) ∧ ∀ m_4 : sm_M, m_4 = sm_wI m_2 20 (x3_1 + 2).toNatClampNeg (((4 : Int32) * x1) + 2) →
   (vp_in (x3_1 + 1) 96) ∧ ∀ m_6 : sm_M, m_6 = sm_wI m_4 20 (x3_1 + 1).toNatClampNeg (((4 : Int32) * x2) + 1) →
   (vp_in (x3_1 + 3) 96) ∧ ∀ m_8 : sm_M, m_8 = sm_wI m_6 20 (x3_1 + 3).toNatClampNeg (((4 : Int32) * x2) + 3) →
   Q m_8) :
  sm_callV E L mX2_setEnds d 0 0 [.ref (sm_B E + 16), .int x1, .int x2] m Q := by
  refine sm_enter (by decide +kernel) (by simp [lg_sl, Value.category]) ?_
  refine sm_iconst (Y := mX2_setEnds) (pc := 0) 4 (by decide) dX2_setEnds_0 ?_
  refine sm_aload_n (Y := mX2_setEnds) (pc := 1) 0 0 rfl rfl dX2_setEnds_1 ?_
  refine gf_RX2_50 (Y := mX2_setEnds) (pc := 2) rfl ((lk_16 hly) _) dX2_setEnds_2 ?_
  refine sm_imul (Y := mX2_setEnds) (pc := 5) dX2_setEnds_5 ?_
  refine sm_istore_n (Y := mX2_setEnds) (pc := 6) (fun y => [(3, .int y), (0, .ref (sm_B E + 16)), (1, .int x1), (2, .int x2)]) 3 rfl (by decide) (fun _ => rfl) dX2_setEnds_6 (fun x3_1 ex3_1 => ?_)
  replace h := h x3_1 ex3_1
  refine sm_aload_n (Y := mX2_setEnds) (pc := 7) 1 0 rfl rfl dX2_setEnds_7 ?_
  refine gf_RX2_22 (Y := mX2_setEnds) (pc := 8) (b := 20) rfl ((lk_16 hly) _) (lf_16_3 hly _) dX2_setEnds_8 ?_
  refine sm_iload_n (Y := mX2_setEnds) (pc := 11) 0 3 rfl rfl dX2_setEnds_11 ?_
  refine sm_iconst (Y := mX2_setEnds) (pc := 12) 0 (by decide) dX2_setEnds_12 ?_
  refine sm_iadd (Y := mX2_setEnds) (pc := 13) dX2_setEnds_13 ?_
  refine sm_iconst (Y := mX2_setEnds) (pc := 14) 4 (by decide) dX2_setEnds_14 ?_
  refine sm_iload_n (Y := mX2_setEnds) (pc := 15) 2 1 rfl rfl dX2_setEnds_15 ?_
  refine sm_imul (Y := mX2_setEnds) (pc := 16) dX2_setEnds_16 ?_
  refine sm_iconst (Y := mX2_setEnds) (pc := 17) 0 (by decide) dX2_setEnds_17 ?_
  refine sm_iadd (Y := mX2_setEnds) (pc := 18) dX2_setEnds_18 ?_
  obtain ⟨hn_3, h⟩ := h
  refine sm_iast (Y := mX2_setEnds) (pc := 19) (la_20 hly _) hn_3 dX2_setEnds_19 (fun m_2 em_2 => ?_)
  replace h := h m_2 em_2
  refine sm_aload_n (Y := mX2_setEnds) (pc := 20) 1 0 rfl rfl dX2_setEnds_20 ?_
  refine gf_RX2_22 (Y := mX2_setEnds) (pc := 21) (b := 20) rfl ((lk_16 hly) _) (lf_16_3 hly _) dX2_setEnds_21 ?_
  refine sm_iload_n (Y := mX2_setEnds) (pc := 24) 0 3 rfl rfl dX2_setEnds_24 ?_
  refine sm_iconst (Y := mX2_setEnds) (pc := 25) 2 (by decide) dX2_setEnds_25 ?_
  refine sm_iadd (Y := mX2_setEnds) (pc := 26) dX2_setEnds_26 ?_
  refine sm_iconst (Y := mX2_setEnds) (pc := 27) 4 (by decide) dX2_setEnds_27 ?_
  refine sm_iload_n (Y := mX2_setEnds) (pc := 28) 2 1 rfl rfl dX2_setEnds_28 ?_
  refine sm_imul (Y := mX2_setEnds) (pc := 29) dX2_setEnds_29 ?_
  refine sm_iconst (Y := mX2_setEnds) (pc := 30) 2 (by decide) dX2_setEnds_30 ?_
  refine sm_iadd (Y := mX2_setEnds) (pc := 31) dX2_setEnds_31 ?_
  obtain ⟨hn_5, h⟩ := h
  refine sm_iast (Y := mX2_setEnds) (pc := 32) (la_20 hly _) hn_5 dX2_setEnds_32 (fun m_4 em_4 => ?_)
  replace h := h m_4 em_4
  refine sm_aload_n (Y := mX2_setEnds) (pc := 33) 1 0 rfl rfl dX2_setEnds_33 ?_
  refine gf_RX2_22 (Y := mX2_setEnds) (pc := 34) (b := 20) rfl ((lk_16 hly) _) (lf_16_3 hly _) dX2_setEnds_34 ?_
  refine sm_iload_n (Y := mX2_setEnds) (pc := 37) 0 3 rfl rfl dX2_setEnds_37 ?_
  refine sm_iconst (Y := mX2_setEnds) (pc := 38) 1 (by decide) dX2_setEnds_38 ?_
  refine sm_iadd (Y := mX2_setEnds) (pc := 39) dX2_setEnds_39 ?_
  refine sm_iconst (Y := mX2_setEnds) (pc := 40) 4 (by decide) dX2_setEnds_40 ?_
  refine sm_iload_n (Y := mX2_setEnds) (pc := 41) 3 2 rfl rfl dX2_setEnds_41 ?_
  refine sm_imul (Y := mX2_setEnds) (pc := 42) dX2_setEnds_42 ?_
  refine sm_iconst (Y := mX2_setEnds) (pc := 43) 1 (by decide) dX2_setEnds_43 ?_
  refine sm_iadd (Y := mX2_setEnds) (pc := 44) dX2_setEnds_44 ?_
  obtain ⟨hn_7, h⟩ := h
  refine sm_iast (Y := mX2_setEnds) (pc := 45) (la_20 hly _) hn_7 dX2_setEnds_45 (fun m_6 em_6 => ?_)
  replace h := h m_6 em_6
  refine sm_aload_n (Y := mX2_setEnds) (pc := 46) 1 0 rfl rfl dX2_setEnds_46 ?_
  refine gf_RX2_22 (Y := mX2_setEnds) (pc := 47) (b := 20) rfl ((lk_16 hly) _) (lf_16_3 hly _) dX2_setEnds_47 ?_
  refine sm_iload_n (Y := mX2_setEnds) (pc := 50) 0 3 rfl rfl dX2_setEnds_50 ?_
  refine sm_iconst (Y := mX2_setEnds) (pc := 51) 3 (by decide) dX2_setEnds_51 ?_
  refine sm_iadd (Y := mX2_setEnds) (pc := 52) dX2_setEnds_52 ?_
  refine sm_iconst (Y := mX2_setEnds) (pc := 53) 4 (by decide) dX2_setEnds_53 ?_
  refine sm_iload_n (Y := mX2_setEnds) (pc := 54) 3 2 rfl rfl dX2_setEnds_54 ?_
  refine sm_imul (Y := mX2_setEnds) (pc := 55) dX2_setEnds_55 ?_
  refine sm_iconst (Y := mX2_setEnds) (pc := 56) 3 (by decide) dX2_setEnds_56 ?_
  refine sm_iadd (Y := mX2_setEnds) (pc := 57) dX2_setEnds_57 ?_
  obtain ⟨hn_9, h⟩ := h
  refine sm_iast (Y := mX2_setEnds) (pc := 58) (la_20 hly _) hn_9 dX2_setEnds_58 (fun m_8 em_8 => ?_)
  replace h := h m_8 em_8
  exact sm_vret (Y := mX2_setEnds) (pc := 59) rfl rfl rfl dX2_setEnds_59 ⟨rfl, h⟩
theorem dX2_tie_0 : decode cX2_tie 0 = .ok (.aload_n 0, 1) := dk_aload_n_0 (by decide +kernel)
theorem dX2_tie_1 : decode cX2_tie 1 = .ok (.getfield 15, 3) := dk_getfield 15 (b1 := 0) (b2 := 15) (by decide +kernel) (by decide +kernel) (by decide +kernel) (by decide +kernel)
theorem dX2_tie_4 : decode cX2_tie 4 = .ok (.iload_n 1, 1) := dk_iload_n_1 (by decide +kernel)
theorem dX2_tie_5 : decode cX2_tie 5 = .ok (.iload_n 2, 1) := dk_iload_n_2 (by decide +kernel)
theorem dX2_tie_6 : decode cX2_tie 6 = .ok (.iastore, 1) := dk_iastore (by decide +kernel)
theorem dX2_tie_7 : decode cX2_tie 7 = .ok (.aload_n 0, 1) := dk_aload_n_0 (by decide +kernel)
theorem dX2_tie_8 : decode cX2_tie 8 = .ok (.getfield 15, 3) := dk_getfield 15 (b1 := 0) (b2 := 15) (by decide +kernel) (by decide +kernel) (by decide +kernel) (by decide +kernel)
theorem dX2_tie_11 : decode cX2_tie 11 = .ok (.iload_n 2, 1) := dk_iload_n_2 (by decide +kernel)
theorem dX2_tie_12 : decode cX2_tie 12 = .ok (.iload_n 1, 1) := dk_iload_n_1 (by decide +kernel)
theorem dX2_tie_13 : decode cX2_tie 13 = .ok (.iastore, 1) := dk_iastore (by decide +kernel)
theorem dX2_tie_14 : decode cX2_tie 14 = .ok (.return_, 1) := dk_return_ (by decide +kernel)
set_option maxRecDepth 20000 in
theorem vX2_tie_0 {E : sm_E} {L : sm_S → Prop} {d : Nat} {x1 : Int32} {x2 : Int32}  {m : sm_M} {Q : sm_M → Prop} (hly : ∀ S, L S → ly S) (hd : 1 ≤ d) 
  (h : (vp_in x1 192) ∧ ∀ m_1 : sm_M, m_1 = sm_wI m 18 x1.toNatClampNeg x2 →
   (vp_in x2 192) ∧ ∀ m_3 : sm_M, m_3 = sm_wI m_1 18 x2.toNatClampNeg x1 →
   Q m_3) :
  sm_callV E L mX2_tie d 0 0 [.ref (sm_B E + 16), .int x1, .int x2] m Q := by
  refine sm_enter (by decide +kernel) (by simp [lg_sl, Value.category]) ?_
  refine sm_aload_n (Y := mX2_tie) (pc := 0) 0 0 rfl rfl dX2_tie_0 ?_
  refine gf_RX2_15 (Y := mX2_tie) (pc := 1) (b := 18) rfl ((lk_16 hly) _) (lf_16_1 hly _) dX2_tie_1 ?_
  refine sm_iload_n (Y := mX2_tie) (pc := 4) 1 1 rfl rfl dX2_tie_4 ?_
  refine sm_iload_n (Y := mX2_tie) (pc := 5) 2 2 rfl rfl dX2_tie_5 ?_
  obtain ⟨hn_2, h⟩ := h
  refine sm_iast (Y := mX2_tie) (pc := 6) (la_18 hly _) hn_2 dX2_tie_6 (fun m_1 em_1 => ?_)
  replace h := h m_1 em_1
  refine sm_aload_n (Y := mX2_tie) (pc := 7) 0 0 rfl rfl dX2_tie_7 ?_
  refine gf_RX2_15 (Y := mX2_tie) (pc := 8) (b := 18) rfl ((lk_16 hly) _) (lf_16_1 hly _) dX2_tie_8 ?_
  refine sm_iload_n (Y := mX2_tie) (pc := 11) 2 2 rfl rfl dX2_tie_11 ?_
  refine sm_iload_n (Y := mX2_tie) (pc := 12) 1 1 rfl rfl dX2_tie_12 ?_
  obtain ⟨hn_4, h⟩ := h
  refine sm_iast (Y := mX2_tie) (pc := 13) (la_18 hly _) hn_4 dX2_tie_13 (fun m_3 em_3 => ?_)
  replace h := h m_3 em_3
  exact sm_vret (Y := mX2_tie) (pc := 14) rfl rfl rfl dX2_tie_14 ⟨rfl, h⟩
theorem dX2_placeBeside_0 : decode cX2_placeBeside 0 = .ok (.aload_n 0, 1) := dk_aload_n_0 (by decide +kernel)
theorem dX2_placeBeside_1 : decode cX2_placeBeside 1 = .ok (.getfield 50, 3) := dk_getfield 50 (b1 := 0) (b2 := 50) (by decide +kernel) (by decide +kernel) (by decide +kernel) (by decide +kernel)
theorem dX2_placeBeside_4 : decode cX2_placeBeside 4 = .ok (.iconst 2, 1) := dk_iconst_2 (by decide +kernel)
theorem dX2_placeBeside_5 : decode cX2_placeBeside 5 = .ok (.if_icmp .ge 4, 3) := dk_if_icmp_ge 4 (b1 := 0) (b2 := 4) (by decide +kernel) (by decide +kernel) (by decide +kernel) (by decide +kernel)
theorem dX2_placeBeside_9 : decode cX2_placeBeside 9 = .ok (.iconst 4, 1) := dk_iconst_4 (by decide +kernel)
theorem dX2_placeBeside_10 : decode cX2_placeBeside 10 = .ok (.aload_n 0, 1) := dk_aload_n_0 (by decide +kernel)
theorem dX2_placeBeside_11 : decode cX2_placeBeside 11 = .ok (.getfield 50, 3) := dk_getfield 50 (b1 := 0) (b2 := 50) (by decide +kernel) (by decide +kernel) (by decide +kernel) (by decide +kernel)
theorem dX2_placeBeside_14 : decode cX2_placeBeside 14 = .ok (.iconst 2, 1) := dk_iconst_2 (by decide +kernel)
theorem dX2_placeBeside_15 : decode cX2_placeBeside 15 = .ok (.isub, 1) := dk_isub (by decide +kernel)
theorem dX2_placeBeside_16 : decode cX2_placeBeside 16 = .ok (.imul, 1) := dk_imul (by decide +kernel)
theorem dX2_placeBeside_17 : decode cX2_placeBeside 17 = .ok (.istore_n 1, 1) := dk_istore_n_1 (by decide +kernel)
theorem dX2_placeBeside_18 : decode cX2_placeBeside 18 = .ok (.iload_n 1, 1) := dk_iload_n_1 (by decide +kernel)
theorem dX2_placeBeside_19 : decode cX2_placeBeside 19 = .ok (.iconst 4, 1) := dk_iconst_4 (by decide +kernel)
theorem dX2_placeBeside_20 : decode cX2_placeBeside 20 = .ok (.iadd, 1) := dk_iadd (by decide +kernel)
theorem dX2_placeBeside_21 : decode cX2_placeBeside 21 = .ok (.istore_n 2, 1) := dk_istore_n_2 (by decide +kernel)
theorem dX2_placeBeside_22 : decode cX2_placeBeside 22 = .ok (.aload_n 0, 1) := dk_aload_n_0 (by decide +kernel)
theorem dX2_placeBeside_23 : decode cX2_placeBeside 23 = .ok (.aload_n 0, 1) := dk_aload_n_0 (by decide +kernel)
theorem dX2_placeBeside_24 : decode cX2_placeBeside 24 = .ok (.getfield 22, 3) := dk_getfield 22 (b1 := 0) (b2 := 22) (by decide +kernel) (by decide +kernel) (by decide +kernel) (by decide +kernel)
theorem dX2_placeBeside_27 : decode cX2_placeBeside 27 = .ok (.iload_n 1, 1) := dk_iload_n_1 (by decide +kernel)
theorem dX2_placeBeside_28 : decode cX2_placeBeside 28 = .ok (.iconst 1, 1) := dk_iconst_1 (by decide +kernel)
theorem dX2_placeBeside_29 : decode cX2_placeBeside 29 = .ok (.iadd, 1) := dk_iadd (by decide +kernel)
theorem dX2_placeBeside_30 : decode cX2_placeBeside 30 = .ok (.iaload, 1) := dk_iaload (by decide +kernel)
theorem dX2_placeBeside_31 : decode cX2_placeBeside 31 = .ok (.aload_n 0, 1) := dk_aload_n_0 (by decide +kernel)
theorem dX2_placeBeside_32 : decode cX2_placeBeside 32 = .ok (.getfield 22, 3) := dk_getfield 22 (b1 := 0) (b2 := 22) (by decide +kernel) (by decide +kernel) (by decide +kernel) (by decide +kernel)
theorem dX2_placeBeside_35 : decode cX2_placeBeside 35 = .ok (.iload_n 2, 1) := dk_iload_n_2 (by decide +kernel)
theorem dX2_placeBeside_36 : decode cX2_placeBeside 36 = .ok (.iconst 0, 1) := dk_iconst_0 (by decide +kernel)
theorem dX2_placeBeside_37 : decode cX2_placeBeside 37 = .ok (.iadd, 1) := dk_iadd (by decide +kernel)
theorem dX2_placeBeside_38 : decode cX2_placeBeside 38 = .ok (.iaload, 1) := dk_iaload (by decide +kernel)
theorem dX2_placeBeside_39 : decode cX2_placeBeside 39 = .ok (.invokevirtual 65, 3) := dk_invokevirtual 65 (b1 := 0) (b2 := 65) (by decide +kernel) (by decide +kernel) (by decide +kernel) (by decide +kernel)
theorem dX2_placeBeside_42 : decode cX2_placeBeside 42 = .ok (.aload_n 0, 1) := dk_aload_n_0 (by decide +kernel)
theorem dX2_placeBeside_43 : decode cX2_placeBeside 43 = .ok (.aload_n 0, 1) := dk_aload_n_0 (by decide +kernel)
theorem dX2_placeBeside_44 : decode cX2_placeBeside 44 = .ok (.getfield 22, 3) := dk_getfield 22 (b1 := 0) (b2 := 22) (by decide +kernel) (by decide +kernel) (by decide +kernel) (by decide +kernel)
theorem dX2_placeBeside_47 : decode cX2_placeBeside 47 = .ok (.iload_n 1, 1) := dk_iload_n_1 (by decide +kernel)
theorem dX2_placeBeside_48 : decode cX2_placeBeside 48 = .ok (.iconst 3, 1) := dk_iconst_3 (by decide +kernel)
theorem dX2_placeBeside_49 : decode cX2_placeBeside 49 = .ok (.iadd, 1) := dk_iadd (by decide +kernel)
theorem dX2_placeBeside_50 : decode cX2_placeBeside 50 = .ok (.iaload, 1) := dk_iaload (by decide +kernel)
theorem dX2_placeBeside_51 : decode cX2_placeBeside 51 = .ok (.aload_n 0, 1) := dk_aload_n_0 (by decide +kernel)
theorem dX2_placeBeside_52 : decode cX2_placeBeside 52 = .ok (.getfield 22, 3) := dk_getfield 22 (b1 := 0) (b2 := 22) (by decide +kernel) (by decide +kernel) (by decide +kernel) (by decide +kernel)
theorem dX2_placeBeside_55 : decode cX2_placeBeside 55 = .ok (.iload_n 2, 1) := dk_iload_n_2 (by decide +kernel)
theorem dX2_placeBeside_56 : decode cX2_placeBeside 56 = .ok (.iconst 2, 1) := dk_iconst_2 (by decide +kernel)
theorem dX2_placeBeside_57 : decode cX2_placeBeside 57 = .ok (.iadd, 1) := dk_iadd (by decide +kernel)
theorem dX2_placeBeside_58 : decode cX2_placeBeside 58 = .ok (.iaload, 1) := dk_iaload (by decide +kernel)
theorem dX2_placeBeside_59 : decode cX2_placeBeside 59 = .ok (.invokevirtual 65, 3) := dk_invokevirtual 65 (b1 := 0) (b2 := 65) (by decide +kernel) (by decide +kernel) (by decide +kernel) (by decide +kernel)
theorem dX2_placeBeside_62 : decode cX2_placeBeside 62 = .ok (.aload_n 0, 1) := dk_aload_n_0 (by decide +kernel)
theorem dX2_placeBeside_63 : decode cX2_placeBeside 63 = .ok (.getfield 22, 3) := dk_getfield 22 (b1 := 0) (b2 := 22) (by decide +kernel) (by decide +kernel) (by decide +kernel) (by decide +kernel)
theorem dX2_placeBeside_66 : decode cX2_placeBeside 66 = .ok (.iload_n 1, 1) := dk_iload_n_1 (by decide +kernel)
theorem dX2_placeBeside_67 : decode cX2_placeBeside 67 = .ok (.iconst 1, 1) := dk_iconst_1 (by decide +kernel)
theorem dX2_placeBeside_68 : decode cX2_placeBeside 68 = .ok (.iadd, 1) := dk_iadd (by decide +kernel)
theorem dX2_placeBeside_69 : decode cX2_placeBeside 69 = .ok (.aload_n 0, 1) := dk_aload_n_0 (by decide +kernel)
theorem dX2_placeBeside_70 : decode cX2_placeBeside 70 = .ok (.getfield 22, 3) := dk_getfield 22 (b1 := 0) (b2 := 22) (by decide +kernel) (by decide +kernel) (by decide +kernel) (by decide +kernel)
theorem dX2_placeBeside_73 : decode cX2_placeBeside 73 = .ok (.iload_n 2, 1) := dk_iload_n_2 (by decide +kernel)
theorem dX2_placeBeside_74 : decode cX2_placeBeside 74 = .ok (.iconst 1, 1) := dk_iconst_1 (by decide +kernel)
theorem dX2_placeBeside_75 : decode cX2_placeBeside 75 = .ok (.iadd, 1) := dk_iadd (by decide +kernel)
theorem dX2_placeBeside_76 : decode cX2_placeBeside 76 = .ok (.iaload, 1) := dk_iaload (by decide +kernel)
theorem dX2_placeBeside_77 : decode cX2_placeBeside 77 = .ok (.iastore, 1) := dk_iastore (by decide +kernel)
theorem dX2_placeBeside_78 : decode cX2_placeBeside 78 = .ok (.aload_n 0, 1) := dk_aload_n_0 (by decide +kernel)
theorem dX2_placeBeside_79 : decode cX2_placeBeside 79 = .ok (.getfield 22, 3) := dk_getfield 22 (b1 := 0) (b2 := 22) (by decide +kernel) (by decide +kernel) (by decide +kernel) (by decide +kernel)
theorem dX2_placeBeside_82 : decode cX2_placeBeside 82 = .ok (.iload_n 1, 1) := dk_iload_n_1 (by decide +kernel)
theorem dX2_placeBeside_83 : decode cX2_placeBeside 83 = .ok (.iconst 3, 1) := dk_iconst_3 (by decide +kernel)
theorem dX2_placeBeside_84 : decode cX2_placeBeside 84 = .ok (.iadd, 1) := dk_iadd (by decide +kernel)
theorem dX2_placeBeside_85 : decode cX2_placeBeside 85 = .ok (.aload_n 0, 1) := dk_aload_n_0 (by decide +kernel)
theorem dX2_placeBeside_86 : decode cX2_placeBeside 86 = .ok (.getfield 22, 3) := dk_getfield 22 (b1 := 0) (b2 := 22) (by decide +kernel) (by decide +kernel) (by decide +kernel) (by decide +kernel)
theorem dX2_placeBeside_89 : decode cX2_placeBeside 89 = .ok (.iload_n 2, 1) := dk_iload_n_2 (by decide +kernel)
theorem dX2_placeBeside_90 : decode cX2_placeBeside 90 = .ok (.iconst 3, 1) := dk_iconst_3 (by decide +kernel)
theorem dX2_placeBeside_91 : decode cX2_placeBeside 91 = .ok (.iadd, 1) := dk_iadd (by decide +kernel)
theorem dX2_placeBeside_92 : decode cX2_placeBeside 92 = .ok (.iaload, 1) := dk_iaload (by decide +kernel)
theorem dX2_placeBeside_93 : decode cX2_placeBeside 93 = .ok (.iastore, 1) := dk_iastore (by decide +kernel)
theorem dX2_placeBeside_94 : decode cX2_placeBeside 94 = .ok (.aload_n 0, 1) := dk_aload_n_0 (by decide +kernel)
theorem dX2_placeBeside_95 : decode cX2_placeBeside 95 = .ok (.dup, 1) := dk_dup (by decide +kernel)
theorem dX2_placeBeside_96 : decode cX2_placeBeside 96 = .ok (.getfield 50, 3) := dk_getfield 50 (b1 := 0) (b2 := 50) (by decide +kernel) (by decide +kernel) (by decide +kernel) (by decide +kernel)
theorem dX2_placeBeside_99 : decode cX2_placeBeside 99 = .ok (.iconst 1, 1) := dk_iconst_1 (by decide +kernel)
theorem dX2_placeBeside_100 : decode cX2_placeBeside 100 = .ok (.isub, 1) := dk_isub (by decide +kernel)
theorem dX2_placeBeside_101 : decode cX2_placeBeside 101 = .ok (.putfield 50, 3) := dk_putfield 50 (b1 := 0) (b2 := 50) (by decide +kernel) (by decide +kernel) (by decide +kernel) (by decide +kernel)
theorem dX2_placeBeside_104 : decode cX2_placeBeside 104 = .ok (.return_, 1) := dk_return_ (by decide +kernel)
theorem dX2_placeBeside_8 : decode cX2_placeBeside 8 = .ok (.return_, 1) := dk_return_ (by decide +kernel)
set_option maxRecDepth 20000 in
theorem vX2_placeBeside_0 {E : sm_E} {L : sm_S → Prop} {d : Nat}   {m : sm_M} {Q : sm_M → Prop} (hly : ∀ S, L S → ly S) (hd : 2 ≤ d) 
  (h : (2 ≤ (m.1 16 14) →
      ∀ x1_1 : Int32, x1_1 = (4 : Int32) * ((m.1 16 14) - 2) →
      ∀ x2_2 : Int32, x2_2 = x1_1 + 4 →
      (vp_in (x1_1 + 1) 96) ∧ (vp_in (x2_2 + 0) 96) ∧ sm_callV E L mX2_tie 1 0 0 [.ref (sm_B E + 16), .int (m.1 20 (x1_1 + 1).toNatClampNeg), .int (m.1 20 (x2_2 + 0).toNatClampNeg)] m (fun m_5 =>
      (vp_in (x1_1 + 3) 96) ∧ (vp_in (x2_2 + 2) 96) ∧ sm_callV E L mX2_tie 1 0 0 [.ref (sm_B E + 16), .int (m_5.1 20 (x1_1 + 3).toNatClampNeg), .int (m_5.1 20 (x2_2 + 2).toNatClampNeg)] m_5 (fun m_8 =>
      (vp_in (x2_2 + 1) 96) ∧ (vp_in (x1_1 + 1) 96) ∧ ∀ m_10 : sm_M, m_10 = sm_wI m_8 20 (x1_1 + 1).toNatClampNeg (m_8.1 20 (x2_2 + 1).toNatClampNeg) →
      (vp_in (x2_2 + 3) 96) ∧ (vp_in (x1_1 + 3) 96) ∧ ∀ m_13 : sm_M, m_13 = sm_wI m_10 20 (x1_1 + 3).toNatClampNeg (m_10.1 20 (x2_2 + 3).toNatClampNeg) →
      ∀ m_15 : sm_M, m_15 = sm_wI m_13 16 14 ((m_13.1 16 14) - 1) →
      Q m_15))) ∧
   (¬ 2 ≤ (m.1 16 14) →
      Q m)) :
  sm_callV E L mX2_placeBeside d 0 0 [.ref (sm_B E + 16)] m Q := by
  refine sm_enter (by decide +kernel) (by simp [lg_sl, Value.category]) ?_
  refine sm_aload_n (Y := mX2_placeBeside) (pc := 0) 0 0 rfl rfl dX2_placeBeside_0 ?_
  refine gf_RX2_50 (Y := mX2_placeBeside) (pc := 1) rfl ((lk_16 hly) _) dX2_placeBeside_1 ?_
  refine sm_iconst (Y := mX2_placeBeside) (pc := 4) 2 (by decide) dX2_placeBeside_4 ?_
  refine sm_icmp_ge (Y := mX2_placeBeside) (pc := 5) 9 (by decide) dX2_placeBeside_5 (fun hc => ?_) (fun hc => ?_)
  · replace h := h.1 hc
    refine sm_iconst (Y := mX2_placeBeside) (pc := 9) 4 (by decide) dX2_placeBeside_9 ?_
    refine sm_aload_n (Y := mX2_placeBeside) (pc := 10) 0 0 rfl rfl dX2_placeBeside_10 ?_
    refine gf_RX2_50 (Y := mX2_placeBeside) (pc := 11) rfl ((lk_16 hly) _) dX2_placeBeside_11 ?_
    refine sm_iconst (Y := mX2_placeBeside) (pc := 14) 2 (by decide) dX2_placeBeside_14 ?_
    refine sm_isub (Y := mX2_placeBeside) (pc := 15) dX2_placeBeside_15 ?_
    refine sm_imul (Y := mX2_placeBeside) (pc := 16) dX2_placeBeside_16 ?_
    refine sm_istore_n (Y := mX2_placeBeside) (pc := 17) (fun y => [(1, .int y), (0, .ref (sm_B E + 16))]) 1 rfl (by decide) (fun _ => rfl) dX2_placeBeside_17 (fun x1_1 ex1_1 => ?_)
    replace h := h x1_1 ex1_1
    refine sm_iload_n (Y := mX2_placeBeside) (pc := 18) 0 1 rfl rfl dX2_placeBeside_18 ?_
    refine sm_iconst (Y := mX2_placeBeside) (pc := 19) 4 (by decide) dX2_placeBeside_19 ?_
    refine sm_iadd (Y := mX2_placeBeside) (pc := 20) dX2_placeBeside_20 ?_
    refine sm_istore_n (Y := mX2_placeBeside) (pc := 21) (fun y => [(2, .int y), (1, .int x1_1), (0, .ref (sm_B E + 16))]) 2 rfl (by decide) (fun _ => rfl) dX2_placeBeside_21 (fun x2_2 ex2_2 => ?_)
    replace h := h x2_2 ex2_2
    refine sm_aload_n (Y := mX2_placeBeside) (pc := 22) 2 0 rfl rfl dX2_placeBeside_22 ?_
    refine sm_aload_n (Y := mX2_placeBeside) (pc := 23) 2 0 rfl rfl dX2_placeBeside_23 ?_
    refine gf_RX2_22 (Y := mX2_placeBeside) (pc := 24) (b := 20) rfl ((lk_16 hly) _) (lf_16_3 hly _) dX2_placeBeside_24 ?_
    refine sm_iload_n (Y := mX2_placeBeside) (pc := 27) 1 1 rfl rfl dX2_placeBeside_27 ?_
    refine sm_iconst (Y := mX2_placeBeside) (pc := 28) 1 (by decide) dX2_placeBeside_28 ?_
    refine sm_iadd (Y := mX2_placeBeside) (pc := 29) dX2_placeBeside_29 ?_
    obtain ⟨hn_3, h⟩ := h
    refine sm_iald (Y := mX2_placeBeside) (pc := 30) (la_20 hly _) hn_3 dX2_placeBeside_30 ?_
    refine sm_aload_n (Y := mX2_placeBeside) (pc := 31) 2 0 rfl rfl dX2_placeBeside_31 ?_
    refine gf_RX2_22 (Y := mX2_placeBeside) (pc := 32) (b := 20) rfl ((lk_16 hly) _) (lf_16_3 hly _) dX2_placeBeside_32 ?_
    refine sm_iload_n (Y := mX2_placeBeside) (pc := 35) 0 2 rfl rfl dX2_placeBeside_35 ?_
    refine sm_iconst (Y := mX2_placeBeside) (pc := 36) 0 (by decide) dX2_placeBeside_36 ?_
    refine sm_iadd (Y := mX2_placeBeside) (pc := 37) dX2_placeBeside_37 ?_
    obtain ⟨hn_4, h⟩ := h
    refine sm_iald (Y := mX2_placeBeside) (pc := 38) (la_20 hly _) hn_4 dX2_placeBeside_38 ?_
    refine sm_iv_V (Y := mX2_placeBeside) (pc := 39) (As := [.int (m.1 20 (x1_1 + 1).toNatClampNeg), .int (m.1 20 (x2_2 + 0).toNatClampNeg)]) (a := 16) fX2_tie wRX2_65 (lk_16 hly) (by decide) rfl rfl rfl (Nat.le_trans (by decide) hd) (Nat.le_of_ble_eq_true rfl) ⟨Nat.le_refl _, Nat.le_refl _⟩ dX2_placeBeside_39 rfl (sm_monoV h (fun m_5 h => ?_))
    refine sm_aload_n (Y := mX2_placeBeside) (pc := 42) 2 0 rfl rfl dX2_placeBeside_42 ?_
    refine sm_aload_n (Y := mX2_placeBeside) (pc := 43) 2 0 rfl rfl dX2_placeBeside_43 ?_
    refine gf_RX2_22 (Y := mX2_placeBeside) (pc := 44) (b := 20) rfl ((lk_16 hly) _) (lf_16_3 hly _) dX2_placeBeside_44 ?_
    refine sm_iload_n (Y := mX2_placeBeside) (pc := 47) 1 1 rfl rfl dX2_placeBeside_47 ?_
    refine sm_iconst (Y := mX2_placeBeside) (pc := 48) 3 (by decide) dX2_placeBeside_48 ?_
    refine sm_iadd (Y := mX2_placeBeside) (pc := 49) dX2_placeBeside_49 ?_
    obtain ⟨hn_6, h⟩ := h
    refine sm_iald (Y := mX2_placeBeside) (pc := 50) (la_20 hly _) hn_6 dX2_placeBeside_50 ?_
    refine sm_aload_n (Y := mX2_placeBeside) (pc := 51) 2 0 rfl rfl dX2_placeBeside_51 ?_
    refine gf_RX2_22 (Y := mX2_placeBeside) (pc := 52) (b := 20) rfl ((lk_16 hly) _) (lf_16_3 hly _) dX2_placeBeside_52 ?_
    refine sm_iload_n (Y := mX2_placeBeside) (pc := 55) 0 2 rfl rfl dX2_placeBeside_55 ?_
    refine sm_iconst (Y := mX2_placeBeside) (pc := 56) 2 (by decide) dX2_placeBeside_56 ?_
    refine sm_iadd (Y := mX2_placeBeside) (pc := 57) dX2_placeBeside_57 ?_
    obtain ⟨hn_7, h⟩ := h
    refine sm_iald (Y := mX2_placeBeside) (pc := 58) (la_20 hly _) hn_7 dX2_placeBeside_58 ?_
    refine sm_iv_V (Y := mX2_placeBeside) (pc := 59) (As := [.int (m_5.1 20 (x1_1 + 3).toNatClampNeg), .int (m_5.1 20 (x2_2 + 2).toNatClampNeg)]) (a := 16) fX2_tie wRX2_65 (lk_16 hly) (by decide) rfl rfl rfl (Nat.le_trans (by decide) hd) (Nat.le_of_ble_eq_true rfl) ⟨Nat.le_refl _, Nat.le_refl _⟩ dX2_placeBeside_59 rfl (sm_monoV h (fun m_8 h => ?_))
    refine sm_aload_n (Y := mX2_placeBeside) (pc := 62) 2 0 rfl rfl dX2_placeBeside_62 ?_
    refine gf_RX2_22 (Y := mX2_placeBeside) (pc := 63) (b := 20) rfl ((lk_16 hly) _) (lf_16_3 hly _) dX2_placeBeside_63 ?_
    refine sm_iload_n (Y := mX2_placeBeside) (pc := 66) 1 1 rfl rfl dX2_placeBeside_66 ?_
    refine sm_iconst (Y := mX2_placeBeside) (pc := 67) 1 (by decide) dX2_placeBeside_67 ?_
    refine sm_iadd (Y := mX2_placeBeside) (pc := 68) dX2_placeBeside_68 ?_
    refine sm_aload_n (Y := mX2_placeBeside) (pc := 69) 2 0 rfl rfl dX2_placeBeside_69 ?_
    refine gf_RX2_22 (Y := mX2_placeBeside) (pc := 70) (b := 20) rfl ((lk_16 hly) _) (lf_16_3 hly _) dX2_placeBeside_70 ?_
    refine sm_iload_n (Y := mX2_placeBeside) (pc := 73) 0 2 rfl rfl dX2_placeBeside_73 ?_
    refine sm_iconst (Y := mX2_placeBeside) (pc := 74) 1 (by decide) dX2_placeBeside_74 ?_
    refine sm_iadd (Y := mX2_placeBeside) (pc := 75) dX2_placeBeside_75 ?_
    obtain ⟨hn_9, h⟩ := h
    refine sm_iald (Y := mX2_placeBeside) (pc := 76) (la_20 hly _) hn_9 dX2_placeBeside_76 ?_
    obtain ⟨hn_11, h⟩ := h
    refine sm_iast (Y := mX2_placeBeside) (pc := 77) (la_20 hly _) hn_11 dX2_placeBeside_77 (fun m_10 em_10 => ?_)
    replace h := h m_10 em_10
    refine sm_aload_n (Y := mX2_placeBeside) (pc := 78) 2 0 rfl rfl dX2_placeBeside_78 ?_
    refine gf_RX2_22 (Y := mX2_placeBeside) (pc := 79) (b := 20) rfl ((lk_16 hly) _) (lf_16_3 hly _) dX2_placeBeside_79 ?_
    refine sm_iload_n (Y := mX2_placeBeside) (pc := 82) 1 1 rfl rfl dX2_placeBeside_82 ?_
    refine sm_iconst (Y := mX2_placeBeside) (pc := 83) 3 (by decide) dX2_placeBeside_83 ?_
    refine sm_iadd (Y := mX2_placeBeside) (pc := 84) dX2_placeBeside_84 ?_
    refine sm_aload_n (Y := mX2_placeBeside) (pc := 85) 2 0 rfl rfl dX2_placeBeside_85 ?_
    refine gf_RX2_22 (Y := mX2_placeBeside) (pc := 86) (b := 20) rfl ((lk_16 hly) _) (lf_16_3 hly _) dX2_placeBeside_86 ?_
    refine sm_iload_n (Y := mX2_placeBeside) (pc := 89) 0 2 rfl rfl dX2_placeBeside_89 ?_
    refine sm_iconst (Y := mX2_placeBeside) (pc := 90) 3 (by decide) dX2_placeBeside_90 ?_
    refine sm_iadd (Y := mX2_placeBeside) (pc := 91) dX2_placeBeside_91 ?_
    obtain ⟨hn_12, h⟩ := h
    refine sm_iald (Y := mX2_placeBeside) (pc := 92) (la_20 hly _) hn_12 dX2_placeBeside_92 ?_
    obtain ⟨hn_14, h⟩ := h
    refine sm_iast (Y := mX2_placeBeside) (pc := 93) (la_20 hly _) hn_14 dX2_placeBeside_93 (fun m_13 em_13 => ?_)
    replace h := h m_13 em_13
    refine sm_aload_n (Y := mX2_placeBeside) (pc := 94) 2 0 rfl rfl dX2_placeBeside_94 ?_
    refine sm_dup (Y := mX2_placeBeside) (pc := 95) rfl dX2_placeBeside_95 ?_
    refine gf_RX2_50 (Y := mX2_placeBeside) (pc := 96) rfl ((lk_16 hly) _) dX2_placeBeside_96 ?_
    refine sm_iconst (Y := mX2_placeBeside) (pc := 99) 1 (by decide) dX2_placeBeside_99 ?_
    refine sm_isub (Y := mX2_placeBeside) (pc := 100) dX2_placeBeside_100 ?_
    refine pf_RX2_50 (Y := mX2_placeBeside) (pc := 101) rfl ((lk_16 hly) _) dX2_placeBeside_101 (fun m_15 em_15 => ?_)
    replace h := h m_15 em_15
    exact sm_vret (Y := mX2_placeBeside) (pc := 104) rfl rfl rfl dX2_placeBeside_104 ⟨rfl, h⟩
  · replace h := h.2 hc
    exact sm_vret (Y := mX2_placeBeside) (pc := 8) rfl rfl rfl dX2_placeBeside_8 ⟨rfl, h⟩
theorem dX2_placeBelow_0 : decode cX2_placeBelow 0 = .ok (.aload_n 0, 1) := dk_aload_n_0 (by decide +kernel)
theorem dX2_placeBelow_1 : decode cX2_placeBelow 1 = .ok (.getfield 50, 3) := dk_getfield 50 (b1 := 0) (b2 := 50) (by decide +kernel) (by decide +kernel) (by decide +kernel) (by decide +kernel)
theorem dX2_placeBelow_4 : decode cX2_placeBelow 4 = .ok (.iconst 2, 1) := dk_iconst_2 (by decide +kernel)
theorem dX2_placeBelow_5 : decode cX2_placeBelow 5 = .ok (.if_icmp .ge 4, 3) := dk_if_icmp_ge 4 (b1 := 0) (b2 := 4) (by decide +kernel) (by decide +kernel) (by decide +kernel) (by decide +kernel)
theorem dX2_placeBelow_9 : decode cX2_placeBelow 9 = .ok (.iconst 4, 1) := dk_iconst_4 (by decide +kernel)
theorem dX2_placeBelow_10 : decode cX2_placeBelow 10 = .ok (.aload_n 0, 1) := dk_aload_n_0 (by decide +kernel)
theorem dX2_placeBelow_11 : decode cX2_placeBelow 11 = .ok (.getfield 50, 3) := dk_getfield 50 (b1 := 0) (b2 := 50) (by decide +kernel) (by decide +kernel) (by decide +kernel) (by decide +kernel)
theorem dX2_placeBelow_14 : decode cX2_placeBelow 14 = .ok (.iconst 2, 1) := dk_iconst_2 (by decide +kernel)
theorem dX2_placeBelow_15 : decode cX2_placeBelow 15 = .ok (.isub, 1) := dk_isub (by decide +kernel)
theorem dX2_placeBelow_16 : decode cX2_placeBelow 16 = .ok (.imul, 1) := dk_imul (by decide +kernel)
theorem dX2_placeBelow_17 : decode cX2_placeBelow 17 = .ok (.istore_n 1, 1) := dk_istore_n_1 (by decide +kernel)
theorem dX2_placeBelow_18 : decode cX2_placeBelow 18 = .ok (.iload_n 1, 1) := dk_iload_n_1 (by decide +kernel)
theorem dX2_placeBelow_19 : decode cX2_placeBelow 19 = .ok (.iconst 4, 1) := dk_iconst_4 (by decide +kernel)
theorem dX2_placeBelow_20 : decode cX2_placeBelow 20 = .ok (.iadd, 1) := dk_iadd (by decide +kernel)
theorem dX2_placeBelow_21 : decode cX2_placeBelow 21 = .ok (.istore_n 2, 1) := dk_istore_n_2 (by decide +kernel)
theorem dX2_placeBelow_22 : decode cX2_placeBelow 22 = .ok (.aload_n 0, 1) := dk_aload_n_0 (by decide +kernel)
theorem dX2_placeBelow_23 : decode cX2_placeBelow 23 = .ok (.aload_n 0, 1) := dk_aload_n_0 (by decide +kernel)
theorem dX2_placeBelow_24 : decode cX2_placeBelow 24 = .ok (.getfield 22, 3) := dk_getfield 22 (b1 := 0) (b2 := 22) (by decide +kernel) (by decide +kernel) (by decide +kernel) (by decide +kernel)
theorem dX2_placeBelow_27 : decode cX2_placeBelow 27 = .ok (.iload_n 1, 1) := dk_iload_n_1 (by decide +kernel)
theorem dX2_placeBelow_28 : decode cX2_placeBelow 28 = .ok (.iconst 2, 1) := dk_iconst_2 (by decide +kernel)
theorem dX2_placeBelow_29 : decode cX2_placeBelow 29 = .ok (.iadd, 1) := dk_iadd (by decide +kernel)
theorem dX2_placeBelow_30 : decode cX2_placeBelow 30 = .ok (.iaload, 1) := dk_iaload (by decide +kernel)
theorem dX2_placeBelow_31 : decode cX2_placeBelow 31 = .ok (.aload_n 0, 1) := dk_aload_n_0 (by decide +kernel)
theorem dX2_placeBelow_32 : decode cX2_placeBelow 32 = .ok (.getfield 22, 3) := dk_getfield 22 (b1 := 0) (b2 := 22) (by decide +kernel) (by decide +kernel) (by decide +kernel) (by decide +kernel)
theorem dX2_placeBelow_35 : decode cX2_placeBelow 35 = .ok (.iload_n 2, 1) := dk_iload_n_2 (by decide +kernel)
theorem dX2_placeBelow_36 : decode cX2_placeBelow 36 = .ok (.iconst 0, 1) := dk_iconst_0 (by decide +kernel)
theorem dX2_placeBelow_37 : decode cX2_placeBelow 37 = .ok (.iadd, 1) := dk_iadd (by decide +kernel)
theorem dX2_placeBelow_38 : decode cX2_placeBelow 38 = .ok (.iaload, 1) := dk_iaload (by decide +kernel)
theorem dX2_placeBelow_39 : decode cX2_placeBelow 39 = .ok (.invokevirtual 65, 3) := dk_invokevirtual 65 (b1 := 0) (b2 := 65) (by decide +kernel) (by decide +kernel) (by decide +kernel) (by decide +kernel)
theorem dX2_placeBelow_42 : decode cX2_placeBelow 42 = .ok (.aload_n 0, 1) := dk_aload_n_0 (by decide +kernel)
theorem dX2_placeBelow_43 : decode cX2_placeBelow 43 = .ok (.aload_n 0, 1) := dk_aload_n_0 (by decide +kernel)
theorem dX2_placeBelow_44 : decode cX2_placeBelow 44 = .ok (.getfield 22, 3) := dk_getfield 22 (b1 := 0) (b2 := 22) (by decide +kernel) (by decide +kernel) (by decide +kernel) (by decide +kernel)
theorem dX2_placeBelow_47 : decode cX2_placeBelow 47 = .ok (.iload_n 1, 1) := dk_iload_n_1 (by decide +kernel)
theorem dX2_placeBelow_48 : decode cX2_placeBelow 48 = .ok (.iconst 3, 1) := dk_iconst_3 (by decide +kernel)
theorem dX2_placeBelow_49 : decode cX2_placeBelow 49 = .ok (.iadd, 1) := dk_iadd (by decide +kernel)
theorem dX2_placeBelow_50 : decode cX2_placeBelow 50 = .ok (.iaload, 1) := dk_iaload (by decide +kernel)
theorem dX2_placeBelow_51 : decode cX2_placeBelow 51 = .ok (.aload_n 0, 1) := dk_aload_n_0 (by decide +kernel)
theorem dX2_placeBelow_52 : decode cX2_placeBelow 52 = .ok (.getfield 22, 3) := dk_getfield 22 (b1 := 0) (b2 := 22) (by decide +kernel) (by decide +kernel) (by decide +kernel) (by decide +kernel)
theorem dX2_placeBelow_55 : decode cX2_placeBelow 55 = .ok (.iload_n 2, 1) := dk_iload_n_2 (by decide +kernel)
theorem dX2_placeBelow_56 : decode cX2_placeBelow 56 = .ok (.iconst 1, 1) := dk_iconst_1 (by decide +kernel)
theorem dX2_placeBelow_57 : decode cX2_placeBelow 57 = .ok (.iadd, 1) := dk_iadd (by decide +kernel)
theorem dX2_placeBelow_58 : decode cX2_placeBelow 58 = .ok (.iaload, 1) := dk_iaload (by decide +kernel)
theorem dX2_placeBelow_59 : decode cX2_placeBelow 59 = .ok (.invokevirtual 65, 3) := dk_invokevirtual 65 (b1 := 0) (b2 := 65) (by decide +kernel) (by decide +kernel) (by decide +kernel) (by decide +kernel)
theorem dX2_placeBelow_62 : decode cX2_placeBelow 62 = .ok (.aload_n 0, 1) := dk_aload_n_0 (by decide +kernel)
theorem dX2_placeBelow_63 : decode cX2_placeBelow 63 = .ok (.getfield 22, 3) := dk_getfield 22 (b1 := 0) (b2 := 22) (by decide +kernel) (by decide +kernel) (by decide +kernel) (by decide +kernel)
theorem dX2_placeBelow_66 : decode cX2_placeBelow 66 = .ok (.iload_n 1, 1) := dk_iload_n_1 (by decide +kernel)
theorem dX2_placeBelow_67 : decode cX2_placeBelow 67 = .ok (.iconst 2, 1) := dk_iconst_2 (by decide +kernel)
theorem dX2_placeBelow_68 : decode cX2_placeBelow 68 = .ok (.iadd, 1) := dk_iadd (by decide +kernel)
theorem dX2_placeBelow_69 : decode cX2_placeBelow 69 = .ok (.aload_n 0, 1) := dk_aload_n_0 (by decide +kernel)
theorem dX2_placeBelow_70 : decode cX2_placeBelow 70 = .ok (.getfield 22, 3) := dk_getfield 22 (b1 := 0) (b2 := 22) (by decide +kernel) (by decide +kernel) (by decide +kernel) (by decide +kernel)
theorem dX2_placeBelow_73 : decode cX2_placeBelow 73 = .ok (.iload_n 2, 1) := dk_iload_n_2 (by decide +kernel)
theorem dX2_placeBelow_74 : decode cX2_placeBelow 74 = .ok (.iconst 2, 1) := dk_iconst_2 (by decide +kernel)
theorem dX2_placeBelow_75 : decode cX2_placeBelow 75 = .ok (.iadd, 1) := dk_iadd (by decide +kernel)
theorem dX2_placeBelow_76 : decode cX2_placeBelow 76 = .ok (.iaload, 1) := dk_iaload (by decide +kernel)
theorem dX2_placeBelow_77 : decode cX2_placeBelow 77 = .ok (.iastore, 1) := dk_iastore (by decide +kernel)
theorem dX2_placeBelow_78 : decode cX2_placeBelow 78 = .ok (.aload_n 0, 1) := dk_aload_n_0 (by decide +kernel)
theorem dX2_placeBelow_79 : decode cX2_placeBelow 79 = .ok (.getfield 22, 3) := dk_getfield 22 (b1 := 0) (b2 := 22) (by decide +kernel) (by decide +kernel) (by decide +kernel) (by decide +kernel)
theorem dX2_placeBelow_82 : decode cX2_placeBelow 82 = .ok (.iload_n 1, 1) := dk_iload_n_1 (by decide +kernel)
theorem dX2_placeBelow_83 : decode cX2_placeBelow 83 = .ok (.iconst 3, 1) := dk_iconst_3 (by decide +kernel)
theorem dX2_placeBelow_84 : decode cX2_placeBelow 84 = .ok (.iadd, 1) := dk_iadd (by decide +kernel)
theorem dX2_placeBelow_85 : decode cX2_placeBelow 85 = .ok (.aload_n 0, 1) := dk_aload_n_0 (by decide +kernel)
theorem dX2_placeBelow_86 : decode cX2_placeBelow 86 = .ok (.getfield 22, 3) := dk_getfield 22 (b1 := 0) (b2 := 22) (by decide +kernel) (by decide +kernel) (by decide +kernel) (by decide +kernel)
theorem dX2_placeBelow_89 : decode cX2_placeBelow 89 = .ok (.iload_n 2, 1) := dk_iload_n_2 (by decide +kernel)
theorem dX2_placeBelow_90 : decode cX2_placeBelow 90 = .ok (.iconst 3, 1) := dk_iconst_3 (by decide +kernel)
theorem dX2_placeBelow_91 : decode cX2_placeBelow 91 = .ok (.iadd, 1) := dk_iadd (by decide +kernel)
theorem dX2_placeBelow_92 : decode cX2_placeBelow 92 = .ok (.iaload, 1) := dk_iaload (by decide +kernel)
theorem dX2_placeBelow_93 : decode cX2_placeBelow 93 = .ok (.iastore, 1) := dk_iastore (by decide +kernel)
theorem dX2_placeBelow_94 : decode cX2_placeBelow 94 = .ok (.aload_n 0, 1) := dk_aload_n_0 (by decide +kernel)
theorem dX2_placeBelow_95 : decode cX2_placeBelow 95 = .ok (.dup, 1) := dk_dup (by decide +kernel)
theorem dX2_placeBelow_96 : decode cX2_placeBelow 96 = .ok (.getfield 50, 3) := dk_getfield 50 (b1 := 0) (b2 := 50) (by decide +kernel) (by decide +kernel) (by decide +kernel) (by decide +kernel)
theorem dX2_placeBelow_99 : decode cX2_placeBelow 99 = .ok (.iconst 1, 1) := dk_iconst_1 (by decide +kernel)
theorem dX2_placeBelow_100 : decode cX2_placeBelow 100 = .ok (.isub, 1) := dk_isub (by decide +kernel)
theorem dX2_placeBelow_101 : decode cX2_placeBelow 101 = .ok (.putfield 50, 3) := dk_putfield 50 (b1 := 0) (b2 := 50) (by decide +kernel) (by decide +kernel) (by decide +kernel) (by decide +kernel)
theorem dX2_placeBelow_104 : decode cX2_placeBelow 104 = .ok (.return_, 1) := dk_return_ (by decide +kernel)
theorem dX2_placeBelow_8 : decode cX2_placeBelow 8 = .ok (.return_, 1) := dk_return_ (by decide +kernel)
set_option maxRecDepth 20000 in
theorem vX2_placeBelow_0 {E : sm_E} {L : sm_S → Prop} {d : Nat}   {m : sm_M} {Q : sm_M → Prop} (hly : ∀ S, L S → ly S) (hd : 2 ≤ d) 
  (h : (2 ≤ (m.1 16 14) →
      ∀ x1_1 : Int32, x1_1 = (4 : Int32) * ((m.1 16 14) - 2) →
      ∀ x2_2 : Int32, x2_2 = x1_1 + 4 →
      (vp_in (x1_1 + 2) 96) ∧ (vp_in (x2_2 + 0) 96) ∧ sm_callV E L mX2_tie 1 0 0 [.ref (sm_B E + 16), .int (m.1 20 (x1_1 + 2).toNatClampNeg), .int (m.1 20 (x2_2 + 0).toNatClampNeg)] m (fun m_5 =>
      (vp_in (x1_1 + 3) 96) ∧ (vp_in (x2_2 + 1) 96) ∧ sm_callV E L mX2_tie 1 0 0 [.ref (sm_B E + 16), .int (m_5.1 20 (x1_1 + 3).toNatClampNeg), .int (m_5.1 20 (x2_2 + 1).toNatClampNeg)] m_5 (fun m_8 =>
      (vp_in (x2_2 + 2) 96) ∧ (vp_in (x1_1 + 2) 96) ∧ ∀ m_10 : sm_M, m_10 = sm_wI m_8 20 (x1_1 + 2).toNatClampNeg (m_8.1 20 (x2_2 + 2).toNatClampNeg) →
      (vp_in (x2_2 + 3) 96) ∧ (vp_in (x1_1 + 3) 96) ∧ ∀ m_13 : sm_M, m_13 = sm_wI m_10 20 (x1_1 + 3).toNatClampNeg (m_10.1 20 (x2_2 + 3).toNatClampNeg) →
      ∀ m_15 : sm_M, m_15 = sm_wI m_13 16 14 ((m_13.1 16 14) - 1) →
      Q m_15))) ∧
   (¬ 2 ≤ (m.1 16 14) →
      Q m)) :
  sm_callV E L mX2_placeBelow d 0 0 [.ref (sm_B E + 16)] m Q := by
  refine sm_enter (by decide +kernel) (by simp [lg_sl, Value.category]) ?_
  refine sm_aload_n (Y := mX2_placeBelow) (pc := 0) 0 0 rfl rfl dX2_placeBelow_0 ?_
  refine gf_RX2_50 (Y := mX2_placeBelow) (pc := 1) rfl ((lk_16 hly) _) dX2_placeBelow_1 ?_
  refine sm_iconst (Y := mX2_placeBelow) (pc := 4) 2 (by decide) dX2_placeBelow_4 ?_
  refine sm_icmp_ge (Y := mX2_placeBelow) (pc := 5) 9 (by decide) dX2_placeBelow_5 (fun hc => ?_) (fun hc => ?_)
  · replace h := h.1 hc
    refine sm_iconst (Y := mX2_placeBelow) (pc := 9) 4 (by decide) dX2_placeBelow_9 ?_
    refine sm_aload_n (Y := mX2_placeBelow) (pc := 10) 0 0 rfl rfl dX2_placeBelow_10 ?_
    refine gf_RX2_50 (Y := mX2_placeBelow) (pc := 11) rfl ((lk_16 hly) _) dX2_placeBelow_11 ?_
    refine sm_iconst (Y := mX2_placeBelow) (pc := 14) 2 (by decide) dX2_placeBelow_14 ?_
    refine sm_isub (Y := mX2_placeBelow) (pc := 15) dX2_placeBelow_15 ?_
    refine sm_imul (Y := mX2_placeBelow) (pc := 16) dX2_placeBelow_16 ?_
    refine sm_istore_n (Y := mX2_placeBelow) (pc := 17) (fun y => [(1, .int y), (0, .ref (sm_B E + 16))]) 1 rfl (by decide) (fun _ => rfl) dX2_placeBelow_17 (fun x1_1 ex1_1 => ?_)
    replace h := h x1_1 ex1_1
    refine sm_iload_n (Y := mX2_placeBelow) (pc := 18) 0 1 rfl rfl dX2_placeBelow_18 ?_
    refine sm_iconst (Y := mX2_placeBelow) (pc := 19) 4 (by decide) dX2_placeBelow_19 ?_
    refine sm_iadd (Y := mX2_placeBelow) (pc := 20) dX2_placeBelow_20 ?_
    refine sm_istore_n (Y := mX2_placeBelow) (pc := 21) (fun y => [(2, .int y), (1, .int x1_1), (0, .ref (sm_B E + 16))]) 2 rfl (by decide) (fun _ => rfl) dX2_placeBelow_21 (fun x2_2 ex2_2 => ?_)
    replace h := h x2_2 ex2_2
    refine sm_aload_n (Y := mX2_placeBelow) (pc := 22) 2 0 rfl rfl dX2_placeBelow_22 ?_
    refine sm_aload_n (Y := mX2_placeBelow) (pc := 23) 2 0 rfl rfl dX2_placeBelow_23 ?_
    refine gf_RX2_22 (Y := mX2_placeBelow) (pc := 24) (b := 20) rfl ((lk_16 hly) _) (lf_16_3 hly _) dX2_placeBelow_24 ?_
    refine sm_iload_n (Y := mX2_placeBelow) (pc := 27) 1 1 rfl rfl dX2_placeBelow_27 ?_
    refine sm_iconst (Y := mX2_placeBelow) (pc := 28) 2 (by decide) dX2_placeBelow_28 ?_
    refine sm_iadd (Y := mX2_placeBelow) (pc := 29) dX2_placeBelow_29 ?_
    obtain ⟨hn_3, h⟩ := h
    refine sm_iald (Y := mX2_placeBelow) (pc := 30) (la_20 hly _) hn_3 dX2_placeBelow_30 ?_
    refine sm_aload_n (Y := mX2_placeBelow) (pc := 31) 2 0 rfl rfl dX2_placeBelow_31 ?_
    refine gf_RX2_22 (Y := mX2_placeBelow) (pc := 32) (b := 20) rfl ((lk_16 hly) _) (lf_16_3 hly _) dX2_placeBelow_32 ?_
    refine sm_iload_n (Y := mX2_placeBelow) (pc := 35) 0 2 rfl rfl dX2_placeBelow_35 ?_
    refine sm_iconst (Y := mX2_placeBelow) (pc := 36) 0 (by decide) dX2_placeBelow_36 ?_
    refine sm_iadd (Y := mX2_placeBelow) (pc := 37) dX2_placeBelow_37 ?_
    obtain ⟨hn_4, h⟩ := h
    refine sm_iald (Y := mX2_placeBelow) (pc := 38) (la_20 hly _) hn_4 dX2_placeBelow_38 ?_
    refine sm_iv_V (Y := mX2_placeBelow) (pc := 39) (As := [.int (m.1 20 (x1_1 + 2).toNatClampNeg), .int (m.1 20 (x2_2 + 0).toNatClampNeg)]) (a := 16) fX2_tie wRX2_65 (lk_16 hly) (by decide) rfl rfl rfl (Nat.le_trans (by decide) hd) (Nat.le_of_ble_eq_true rfl) ⟨Nat.le_refl _, Nat.le_refl _⟩ dX2_placeBelow_39 rfl (sm_monoV h (fun m_5 h => ?_))
    refine sm_aload_n (Y := mX2_placeBelow) (pc := 42) 2 0 rfl rfl dX2_placeBelow_42 ?_
    refine sm_aload_n (Y := mX2_placeBelow) (pc := 43) 2 0 rfl rfl dX2_placeBelow_43 ?_
    refine gf_RX2_22 (Y := mX2_placeBelow) (pc := 44) (b := 20) rfl ((lk_16 hly) _) (lf_16_3 hly _) dX2_placeBelow_44 ?_
    refine sm_iload_n (Y := mX2_placeBelow) (pc := 47) 1 1 rfl rfl dX2_placeBelow_47 ?_
    refine sm_iconst (Y := mX2_placeBelow) (pc := 48) 3 (by decide) dX2_placeBelow_48 ?_
    refine sm_iadd (Y := mX2_placeBelow) (pc := 49) dX2_placeBelow_49 ?_
    obtain ⟨hn_6, h⟩ := h
    refine sm_iald (Y := mX2_placeBelow) (pc := 50) (la_20 hly _) hn_6 dX2_placeBelow_50 ?_
    refine sm_aload_n (Y := mX2_placeBelow) (pc := 51) 2 0 rfl rfl dX2_placeBelow_51 ?_
    refine gf_RX2_22 (Y := mX2_placeBelow) (pc := 52) (b := 20) rfl ((lk_16 hly) _) (lf_16_3 hly _) dX2_placeBelow_52 ?_
    refine sm_iload_n (Y := mX2_placeBelow) (pc := 55) 0 2 rfl rfl dX2_placeBelow_55 ?_
    refine sm_iconst (Y := mX2_placeBelow) (pc := 56) 1 (by decide) dX2_placeBelow_56 ?_
    refine sm_iadd (Y := mX2_placeBelow) (pc := 57) dX2_placeBelow_57 ?_
    obtain ⟨hn_7, h⟩ := h
    refine sm_iald (Y := mX2_placeBelow) (pc := 58) (la_20 hly _) hn_7 dX2_placeBelow_58 ?_
    refine sm_iv_V (Y := mX2_placeBelow) (pc := 59) (As := [.int (m_5.1 20 (x1_1 + 3).toNatClampNeg), .int (m_5.1 20 (x2_2 + 1).toNatClampNeg)]) (a := 16) fX2_tie wRX2_65 (lk_16 hly) (by decide) rfl rfl rfl (Nat.le_trans (by decide) hd) (Nat.le_of_ble_eq_true rfl) ⟨Nat.le_refl _, Nat.le_refl _⟩ dX2_placeBelow_59 rfl (sm_monoV h (fun m_8 h => ?_))
    refine sm_aload_n (Y := mX2_placeBelow) (pc := 62) 2 0 rfl rfl dX2_placeBelow_62 ?_
    refine gf_RX2_22 (Y := mX2_placeBelow) (pc := 63) (b := 20) rfl ((lk_16 hly) _) (lf_16_3 hly _) dX2_placeBelow_63 ?_
    refine sm_iload_n (Y := mX2_placeBelow) (pc := 66) 1 1 rfl rfl dX2_placeBelow_66 ?_
    refine sm_iconst (Y := mX2_placeBelow) (pc := 67) 2 (by decide) dX2_placeBelow_67 ?_
    refine sm_iadd (Y := mX2_placeBelow) (pc := 68) dX2_placeBelow_68 ?_
    refine sm_aload_n (Y := mX2_placeBelow) (pc := 69) 2 0 rfl rfl dX2_placeBelow_69 ?_
    refine gf_RX2_22 (Y := mX2_placeBelow) (pc := 70) (b := 20) rfl ((lk_16 hly) _) (lf_16_3 hly _) dX2_placeBelow_70 ?_
    refine sm_iload_n (Y := mX2_placeBelow) (pc := 73) 0 2 rfl rfl dX2_placeBelow_73 ?_
    refine sm_iconst (Y := mX2_placeBelow) (pc := 74) 2 (by decide) dX2_placeBelow_74 ?_
    refine sm_iadd (Y := mX2_placeBelow) (pc := 75) dX2_placeBelow_75 ?_
    obtain ⟨hn_9, h⟩ := h
    refine sm_iald (Y := mX2_placeBelow) (pc := 76) (la_20 hly _) hn_9 dX2_placeBelow_76 ?_
    obtain ⟨hn_11, h⟩ := h
    refine sm_iast (Y := mX2_placeBelow) (pc := 77) (la_20 hly _) hn_11 dX2_placeBelow_77 (fun m_10 em_10 => ?_)
    replace h := h m_10 em_10
    refine sm_aload_n (Y := mX2_placeBelow) (pc := 78) 2 0 rfl rfl dX2_placeBelow_78 ?_
    refine gf_RX2_22 (Y := mX2_placeBelow) (pc := 79) (b := 20) rfl ((lk_16 hly) _) (lf_16_3 hly _) dX2_placeBelow_79 ?_
    refine sm_iload_n (Y := mX2_placeBelow) (pc := 82) 1 1 rfl rfl dX2_placeBelow_82 ?_
    refine sm_iconst (Y := mX2_placeBelow) (pc := 83) 3 (by decide) dX2_placeBelow_83 ?_
    refine sm_iadd (Y := mX2_placeBelow) (pc := 84) dX2_placeBelow_84 ?_
    refine sm_aload_n (Y := mX2_placeBelow) (pc := 85) 2 0 rfl rfl dX2_placeBelow_85 ?_
    refine gf_RX2_22 (Y := mX2_placeBelow) (pc := 86) (b := 20) rfl ((lk_16 hly) _) (lf_16_3 hly _) dX2_placeBelow_86 ?_
    refine sm_iload_n (Y := mX2_placeBelow) (pc := 89) 0 2 rfl rfl dX2_placeBelow_89 ?_
    refine sm_iconst (Y := mX2_placeBelow) (pc := 90) 3 (by decide) dX2_placeBelow_90 ?_
    refine sm_iadd (Y := mX2_placeBelow) (pc := 91) dX2_placeBelow_91 ?_
    obtain ⟨hn_12, h⟩ := h
    refine sm_iald (Y := mX2_placeBelow) (pc := 92) (la_20 hly _) hn_12 dX2_placeBelow_92 ?_
    obtain ⟨hn_14, h⟩ := h
    refine sm_iast (Y := mX2_placeBelow) (pc := 93) (la_20 hly _) hn_14 dX2_placeBelow_93 (fun m_13 em_13 => ?_)
    replace h := h m_13 em_13
    refine sm_aload_n (Y := mX2_placeBelow) (pc := 94) 2 0 rfl rfl dX2_placeBelow_94 ?_
    refine sm_dup (Y := mX2_placeBelow) (pc := 95) rfl dX2_placeBelow_95 ?_
    refine gf_RX2_50 (Y := mX2_placeBelow) (pc := 96) rfl ((lk_16 hly) _) dX2_placeBelow_96 ?_
    refine sm_iconst (Y := mX2_placeBelow) (pc := 99) 1 (by decide) dX2_placeBelow_99 ?_
    refine sm_isub (Y := mX2_placeBelow) (pc := 100) dX2_placeBelow_100 ?_
    refine pf_RX2_50 (Y := mX2_placeBelow) (pc := 101) rfl ((lk_16 hly) _) dX2_placeBelow_101 (fun m_15 em_15 => ?_)
    replace h := h m_15 em_15
    exact sm_vret (Y := mX2_placeBelow) (pc := 104) rfl rfl rfl dX2_placeBelow_104 ⟨rfl, h⟩
  · replace h := h.2 hc
    exact sm_vret (Y := mX2_placeBelow) (pc := 8) rfl rfl rfl dX2_placeBelow_8 ⟨rfl, h⟩
theorem dX2_turnEnds_0 : decode cX2_turnEnds 0 = .ok (.aload_n 0, 1) := dk_aload_n_0 (by decide +kernel)
theorem dX2_turnEnds_1 : decode cX2_turnEnds 1 = .ok (.getfield 50, 3) := dk_getfield 50 (b1 := 0) (b2 := 50) (by decide +kernel) (by decide +kernel) (by decide +kernel) (by decide +kernel)
theorem dX2_turnEnds_4 : decode cX2_turnEnds 4 = .ok (.iconst 1, 1) := dk_iconst_1 (by decide +kernel)
theorem dX2_turnEnds_5 : decode cX2_turnEnds 5 = .ok (.if_icmp .ge 4, 3) := dk_if_icmp_ge 4 (b1 := 0) (b2 := 4) (by decide +kernel) (by decide +kernel) (by decide +kernel) (by decide +kernel)
theorem dX2_turnEnds_9 : decode cX2_turnEnds 9 = .ok (.iconst 4, 1) := dk_iconst_4 (by decide +kernel)
theorem dX2_turnEnds_10 : decode cX2_turnEnds 10 = .ok (.aload_n 0, 1) := dk_aload_n_0 (by decide +kernel)
theorem dX2_turnEnds_11 : decode cX2_turnEnds 11 = .ok (.getfield 50, 3) := dk_getfield 50 (b1 := 0) (b2 := 50) (by decide +kernel) (by decide +kernel) (by decide +kernel) (by decide +kernel)
theorem dX2_turnEnds_14 : decode cX2_turnEnds 14 = .ok (.iconst 1, 1) := dk_iconst_1 (by decide +kernel)
theorem dX2_turnEnds_15 : decode cX2_turnEnds 15 = .ok (.isub, 1) := dk_isub (by decide +kernel)
theorem dX2_turnEnds_16 : decode cX2_turnEnds 16 = .ok (.imul, 1) := dk_imul (by decide +kernel)
theorem dX2_turnEnds_17 : decode cX2_turnEnds 17 = .ok (.istore_n 1, 1) := dk_istore_n_1 (by decide +kernel)
theorem dX2_turnEnds_18 : decode cX2_turnEnds 18 = .ok (.aload_n 0, 1) := dk_aload_n_0 (by decide +kernel)
theorem dX2_turnEnds_19 : decode cX2_turnEnds 19 = .ok (.getfield 22, 3) := dk_getfield 22 (b1 := 0) (b2 := 22) (by decide +kernel) (by decide +kernel) (by decide +kernel) (by decide +kernel)
theorem dX2_turnEnds_22 : decode cX2_turnEnds 22 = .ok (.iload_n 1, 1) := dk_iload_n_1 (by decide +kernel)
theorem dX2_turnEnds_23 : decode cX2_turnEnds 23 = .ok (.iconst 0, 1) := dk_iconst_0 (by decide +kernel)
theorem dX2_turnEnds_24 : decode cX2_turnEnds 24 = .ok (.iadd, 1) := dk_iadd (by decide +kernel)
theorem dX2_turnEnds_25 : decode cX2_turnEnds 25 = .ok (.iaload, 1) := dk_iaload (by decide +kernel)
theorem dX2_turnEnds_26 : decode cX2_turnEnds 26 = .ok (.istore_n 2, 1) := dk_istore_n_2 (by decide +kernel)
theorem dX2_turnEnds_27 : decode cX2_turnEnds 27 = .ok (.aload_n 0, 1) := dk_aload_n_0 (by decide +kernel)
theorem dX2_turnEnds_28 : decode cX2_turnEnds 28 = .ok (.getfield 22, 3) := dk_getfield 22 (b1 := 0) (b2 := 22) (by decide +kernel) (by decide +kernel) (by decide +kernel) (by decide +kernel)
theorem dX2_turnEnds_31 : decode cX2_turnEnds 31 = .ok (.iload_n 1, 1) := dk_iload_n_1 (by decide +kernel)
theorem dX2_turnEnds_32 : decode cX2_turnEnds 32 = .ok (.iconst 0, 1) := dk_iconst_0 (by decide +kernel)
theorem dX2_turnEnds_33 : decode cX2_turnEnds 33 = .ok (.iadd, 1) := dk_iadd (by decide +kernel)
theorem dX2_turnEnds_34 : decode cX2_turnEnds 34 = .ok (.aload_n 0, 1) := dk_aload_n_0 (by decide +kernel)
theorem dX2_turnEnds_35 : decode cX2_turnEnds 35 = .ok (.getfield 22, 3) := dk_getfield 22 (b1 := 0) (b2 := 22) (by decide +kernel) (by decide +kernel) (by decide +kernel) (by decide +kernel)
theorem dX2_turnEnds_38 : decode cX2_turnEnds 38 = .ok (.iload_n 1, 1) := dk_iload_n_1 (by decide +kernel)
theorem dX2_turnEnds_39 : decode cX2_turnEnds 39 = .ok (.iconst 1, 1) := dk_iconst_1 (by decide +kernel)
theorem dX2_turnEnds_40 : decode cX2_turnEnds 40 = .ok (.iadd, 1) := dk_iadd (by decide +kernel)
theorem dX2_turnEnds_41 : decode cX2_turnEnds 41 = .ok (.iaload, 1) := dk_iaload (by decide +kernel)
theorem dX2_turnEnds_42 : decode cX2_turnEnds 42 = .ok (.iastore, 1) := dk_iastore (by decide +kernel)
theorem dX2_turnEnds_43 : decode cX2_turnEnds 43 = .ok (.aload_n 0, 1) := dk_aload_n_0 (by decide +kernel)
theorem dX2_turnEnds_44 : decode cX2_turnEnds 44 = .ok (.getfield 22, 3) := dk_getfield 22 (b1 := 0) (b2 := 22) (by decide +kernel) (by decide +kernel) (by decide +kernel) (by decide +kernel)
theorem dX2_turnEnds_47 : decode cX2_turnEnds 47 = .ok (.iload_n 1, 1) := dk_iload_n_1 (by decide +kernel)
theorem dX2_turnEnds_48 : decode cX2_turnEnds 48 = .ok (.iconst 1, 1) := dk_iconst_1 (by decide +kernel)
theorem dX2_turnEnds_49 : decode cX2_turnEnds 49 = .ok (.iadd, 1) := dk_iadd (by decide +kernel)
theorem dX2_turnEnds_50 : decode cX2_turnEnds 50 = .ok (.aload_n 0, 1) := dk_aload_n_0 (by decide +kernel)
theorem dX2_turnEnds_51 : decode cX2_turnEnds 51 = .ok (.getfield 22, 3) := dk_getfield 22 (b1 := 0) (b2 := 22) (by decide +kernel) (by decide +kernel) (by decide +kernel) (by decide +kernel)
theorem dX2_turnEnds_54 : decode cX2_turnEnds 54 = .ok (.iload_n 1, 1) := dk_iload_n_1 (by decide +kernel)
theorem dX2_turnEnds_55 : decode cX2_turnEnds 55 = .ok (.iconst 3, 1) := dk_iconst_3 (by decide +kernel)
theorem dX2_turnEnds_56 : decode cX2_turnEnds 56 = .ok (.iadd, 1) := dk_iadd (by decide +kernel)
theorem dX2_turnEnds_57 : decode cX2_turnEnds 57 = .ok (.iaload, 1) := dk_iaload (by decide +kernel)
theorem dX2_turnEnds_58 : decode cX2_turnEnds 58 = .ok (.iastore, 1) := dk_iastore (by decide +kernel)
theorem dX2_turnEnds_59 : decode cX2_turnEnds 59 = .ok (.aload_n 0, 1) := dk_aload_n_0 (by decide +kernel)
theorem dX2_turnEnds_60 : decode cX2_turnEnds 60 = .ok (.getfield 22, 3) := dk_getfield 22 (b1 := 0) (b2 := 22) (by decide +kernel) (by decide +kernel) (by decide +kernel) (by decide +kernel)
theorem dX2_turnEnds_63 : decode cX2_turnEnds 63 = .ok (.iload_n 1, 1) := dk_iload_n_1 (by decide +kernel)
theorem dX2_turnEnds_64 : decode cX2_turnEnds 64 = .ok (.iconst 3, 1) := dk_iconst_3 (by decide +kernel)
theorem dX2_turnEnds_65 : decode cX2_turnEnds 65 = .ok (.iadd, 1) := dk_iadd (by decide +kernel)
theorem dX2_turnEnds_66 : decode cX2_turnEnds 66 = .ok (.aload_n 0, 1) := dk_aload_n_0 (by decide +kernel)
theorem dX2_turnEnds_67 : decode cX2_turnEnds 67 = .ok (.getfield 22, 3) := dk_getfield 22 (b1 := 0) (b2 := 22) (by decide +kernel) (by decide +kernel) (by decide +kernel) (by decide +kernel)
theorem dX2_turnEnds_70 : decode cX2_turnEnds 70 = .ok (.iload_n 1, 1) := dk_iload_n_1 (by decide +kernel)
theorem dX2_turnEnds_71 : decode cX2_turnEnds 71 = .ok (.iconst 2, 1) := dk_iconst_2 (by decide +kernel)
theorem dX2_turnEnds_72 : decode cX2_turnEnds 72 = .ok (.iadd, 1) := dk_iadd (by decide +kernel)
theorem dX2_turnEnds_73 : decode cX2_turnEnds 73 = .ok (.iaload, 1) := dk_iaload (by decide +kernel)
theorem dX2_turnEnds_74 : decode cX2_turnEnds 74 = .ok (.iastore, 1) := dk_iastore (by decide +kernel)
theorem dX2_turnEnds_75 : decode cX2_turnEnds 75 = .ok (.aload_n 0, 1) := dk_aload_n_0 (by decide +kernel)
theorem dX2_turnEnds_76 : decode cX2_turnEnds 76 = .ok (.getfield 22, 3) := dk_getfield 22 (b1 := 0) (b2 := 22) (by decide +kernel) (by decide +kernel) (by decide +kernel) (by decide +kernel)
theorem dX2_turnEnds_79 : decode cX2_turnEnds 79 = .ok (.iload_n 1, 1) := dk_iload_n_1 (by decide +kernel)
theorem dX2_turnEnds_80 : decode cX2_turnEnds 80 = .ok (.iconst 2, 1) := dk_iconst_2 (by decide +kernel)
theorem dX2_turnEnds_81 : decode cX2_turnEnds 81 = .ok (.iadd, 1) := dk_iadd (by decide +kernel)
theorem dX2_turnEnds_82 : decode cX2_turnEnds 82 = .ok (.iload_n 2, 1) := dk_iload_n_2 (by decide +kernel)
theorem dX2_turnEnds_83 : decode cX2_turnEnds 83 = .ok (.iastore, 1) := dk_iastore (by decide +kernel)
theorem dX2_turnEnds_84 : decode cX2_turnEnds 84 = .ok (.return_, 1) := dk_return_ (by decide +kernel)
theorem dX2_turnEnds_8 : decode cX2_turnEnds 8 = .ok (.return_, 1) := dk_return_ (by decide +kernel)
set_option maxRecDepth 20000 in
theorem vX2_turnEnds_0 {E : sm_E} {L : sm_S → Prop} {d : Nat}   {m : sm_M} {Q : sm_M → Prop} (hly : ∀ S, L S → ly S) (hd : 1 ≤ d) 
  (h : (1 ≤ (m.1 16 14) →
      ∀ x1_1 : Int32, x1_1 = (4 : Int32) * ((m.1 16 14) - 1) →
      (vp_in (x1_1 + 0) 96) ∧ ∀ x2_3 : Int32, x2_3 = m.1 20 (x1_1 + 0).toNatClampNeg →
      (vp_in (x1_1 + 1) 96) ∧ (vp_in (x1_1 + 0) 96) ∧ ∀ m_5 : sm_M, m_5 = sm_wI m 20 (x1_1 + 0).toNatClampNeg (m.1 20 (x1_1 + 1).toNatClampNeg) →
      (vp_in (x1_1 + 3) 96) ∧ (vp_in (x1_1 + 1) 96) ∧ ∀ m_8 : sm_M, m_8 = sm_wI m_5 20 (x1_1 + 1).toNatClampNeg (m_5.1 20 (x1_1 + 3).toNatClampNeg) →
      (vp_in (x1_1 + 2) 96) ∧ (vp_in (x1_1 + 3) 96) ∧ ∀ m_11 : sm_M, m_11 = sm_wI m_8 20 (x1_1 + 3).toNatClampNeg (m_8.1 20 (x1_1 + 2).toNatClampNeg) →
      (vp_in (x1_1 + 2) 96) ∧ ∀ m_13 : sm_M, m_13 = sm_wI m_11 20 (x1_1 + 2).toNatClampNeg x2_3 →
      Q m_13) ∧
   (¬ 1 ≤ (m.1 16 14) →
      Q m)) :
  sm_callV E L mX2_turnEnds d 0 0 [.ref (sm_B E + 16)] m Q := by
  refine sm_enter (by decide +kernel) (by simp [lg_sl, Value.category]) ?_
  refine sm_aload_n (Y := mX2_turnEnds) (pc := 0) 0 0 rfl rfl dX2_turnEnds_0 ?_
  refine gf_RX2_50 (Y := mX2_turnEnds) (pc := 1) rfl ((lk_16 hly) _) dX2_turnEnds_1 ?_
  refine sm_iconst (Y := mX2_turnEnds) (pc := 4) 1 (by decide) dX2_turnEnds_4 ?_
  refine sm_icmp_ge (Y := mX2_turnEnds) (pc := 5) 9 (by decide) dX2_turnEnds_5 (fun hc => ?_) (fun hc => ?_)
  · replace h := h.1 hc
    refine sm_iconst (Y := mX2_turnEnds) (pc := 9) 4 (by decide) dX2_turnEnds_9 ?_
    refine sm_aload_n (Y := mX2_turnEnds) (pc := 10) 0 0 rfl rfl dX2_turnEnds_10 ?_
    refine gf_RX2_50 (Y := mX2_turnEnds) (pc := 11) rfl ((lk_16 hly) _) dX2_turnEnds_11 ?_
    refine sm_iconst (Y := mX2_turnEnds) (pc := 14) 1 (by decide) dX2_turnEnds_14 ?_
    refine sm_isub (Y := mX2_turnEnds) (pc := 15) dX2_turnEnds_15 ?_
    refine sm_imul (Y := mX2_turnEnds) (pc := 16) dX2_turnEnds_16 ?_
    refine sm_istore_n (Y := mX2_turnEnds) (pc := 17) (fun y => [(1, .int y), (0, .ref (sm_B E + 16))]) 1 rfl (by decide) (fun _ => rfl) dX2_turnEnds_17 (fun x1_1 ex1_1 => ?_)
    replace h := h x1_1 ex1_1
    refine sm_aload_n (Y := mX2_turnEnds) (pc := 18) 1 0 rfl rfl dX2_turnEnds_18 ?_
    refine gf_RX2_22 (Y := mX2_turnEnds) (pc := 19) (b := 20) rfl ((lk_16 hly) _) (lf_16_3 hly _) dX2_turnEnds_19 ?_
    refine sm_iload_n (Y := mX2_turnEnds) (pc := 22) 0 1 rfl rfl dX2_turnEnds_22 ?_
    refine sm_iconst (Y := mX2_turnEnds) (pc := 23) 0 (by decide) dX2_turnEnds_23 ?_
    refine sm_iadd (Y := mX2_turnEnds) (pc := 24) dX2_turnEnds_24 ?_
    obtain ⟨hn_2, h⟩ := h
    refine sm_iald (Y := mX2_turnEnds) (pc := 25) (la_20 hly _) hn_2 dX2_turnEnds_25 ?_
    refine sm_istore_n (Y := mX2_turnEnds) (pc := 26) (fun y => [(2, .int y), (1, .int x1_1), (0, .ref (sm_B E + 16))]) 2 rfl (by decide) (fun _ => rfl) dX2_turnEnds_26 (fun x2_3 ex2_3 => ?_)
    replace h := h x2_3 ex2_3
    refine sm_aload_n (Y := mX2_turnEnds) (pc := 27) 2 0 rfl rfl dX2_turnEnds_27 ?_
    refine gf_RX2_22 (Y := mX2_turnEnds) (pc := 28) (b := 20) rfl ((lk_16 hly) _) (lf_16_3 hly _) dX2_turnEnds_28 ?_
    refine sm_iload_n (Y := mX2_turnEnds) (pc := 31) 1 1 rfl rfl dX2_turnEnds_31 ?_
    refine sm_iconst (Y := mX2_turnEnds) (pc := 32) 0 (by decide) dX2_turnEnds_32 ?_
    refine sm_iadd (Y := mX2_turnEnds) (pc := 33) dX2_turnEnds_33 ?_
    refine sm_aload_n (Y := mX2_turnEnds) (pc := 34) 2 0 rfl rfl dX2_turnEnds_34 ?_
    refine gf_RX2_22 (Y := mX2_turnEnds) (pc := 35) (b := 20) rfl ((lk_16 hly) _) (lf_16_3 hly _) dX2_turnEnds_35 ?_
    refine sm_iload_n (Y := mX2_turnEnds) (pc := 38) 1 1 rfl rfl dX2_turnEnds_38 ?_
    refine sm_iconst (Y := mX2_turnEnds) (pc := 39) 1 (by decide) dX2_turnEnds_39 ?_
    refine sm_iadd (Y := mX2_turnEnds) (pc := 40) dX2_turnEnds_40 ?_
    obtain ⟨hn_4, h⟩ := h
    refine sm_iald (Y := mX2_turnEnds) (pc := 41) (la_20 hly _) hn_4 dX2_turnEnds_41 ?_
    obtain ⟨hn_6, h⟩ := h
    refine sm_iast (Y := mX2_turnEnds) (pc := 42) (la_20 hly _) hn_6 dX2_turnEnds_42 (fun m_5 em_5 => ?_)
    replace h := h m_5 em_5
    refine sm_aload_n (Y := mX2_turnEnds) (pc := 43) 2 0 rfl rfl dX2_turnEnds_43 ?_
    refine gf_RX2_22 (Y := mX2_turnEnds) (pc := 44) (b := 20) rfl ((lk_16 hly) _) (lf_16_3 hly _) dX2_turnEnds_44 ?_
    refine sm_iload_n (Y := mX2_turnEnds) (pc := 47) 1 1 rfl rfl dX2_turnEnds_47 ?_
    refine sm_iconst (Y := mX2_turnEnds) (pc := 48) 1 (by decide) dX2_turnEnds_48 ?_
    refine sm_iadd (Y := mX2_turnEnds) (pc := 49) dX2_turnEnds_49 ?_
    refine sm_aload_n (Y := mX2_turnEnds) (pc := 50) 2 0 rfl rfl dX2_turnEnds_50 ?_
    refine gf_RX2_22 (Y := mX2_turnEnds) (pc := 51) (b := 20) rfl ((lk_16 hly) _) (lf_16_3 hly _) dX2_turnEnds_51 ?_
    refine sm_iload_n (Y := mX2_turnEnds) (pc := 54) 1 1 rfl rfl dX2_turnEnds_54 ?_
    refine sm_iconst (Y := mX2_turnEnds) (pc := 55) 3 (by decide) dX2_turnEnds_55 ?_
    refine sm_iadd (Y := mX2_turnEnds) (pc := 56) dX2_turnEnds_56 ?_
    obtain ⟨hn_7, h⟩ := h
    refine sm_iald (Y := mX2_turnEnds) (pc := 57) (la_20 hly _) hn_7 dX2_turnEnds_57 ?_
    obtain ⟨hn_9, h⟩ := h
    refine sm_iast (Y := mX2_turnEnds) (pc := 58) (la_20 hly _) hn_9 dX2_turnEnds_58 (fun m_8 em_8 => ?_)
    replace h := h m_8 em_8
    refine sm_aload_n (Y := mX2_turnEnds) (pc := 59) 2 0 rfl rfl dX2_turnEnds_59 ?_
    refine gf_RX2_22 (Y := mX2_turnEnds) (pc := 60) (b := 20) rfl ((lk_16 hly) _) (lf_16_3 hly _) dX2_turnEnds_60 ?_
    refine sm_iload_n (Y := mX2_turnEnds) (pc := 63) 1 1 rfl rfl dX2_turnEnds_63 ?_
    refine sm_iconst (Y := mX2_turnEnds) (pc := 64) 3 (by decide) dX2_turnEnds_64 ?_
    refine sm_iadd (Y := mX2_turnEnds) (pc := 65) dX2_turnEnds_65 ?_
    refine sm_aload_n (Y := mX2_turnEnds) (pc := 66) 2 0 rfl rfl dX2_turnEnds_66 ?_
    refine gf_RX2_22 (Y := mX2_turnEnds) (pc := 67) (b := 20) rfl ((lk_16 hly) _) (lf_16_3 hly _) dX2_turnEnds_67 ?_
    refine sm_iload_n (Y := mX2_turnEnds) (pc := 70) 1 1 rfl rfl dX2_turnEnds_70 ?_
    refine sm_iconst (Y := mX2_turnEnds) (pc := 71) 2 (by decide) dX2_turnEnds_71 ?_
    refine sm_iadd (Y := mX2_turnEnds) (pc := 72) dX2_turnEnds_72 ?_
    obtain ⟨hn_10, h⟩ := h
    refine sm_iald (Y := mX2_turnEnds) (pc := 73) (la_20 hly _) hn_10 dX2_turnEnds_73 ?_
    obtain ⟨hn_12, h⟩ := h
    refine sm_iast (Y := mX2_turnEnds) (pc := 74) (la_20 hly _) hn_12 dX2_turnEnds_74 (fun m_11 em_11 => ?_)
    replace h := h m_11 em_11
    refine sm_aload_n (Y := mX2_turnEnds) (pc := 75) 2 0 rfl rfl dX2_turnEnds_75 ?_
    refine gf_RX2_22 (Y := mX2_turnEnds) (pc := 76) (b := 20) rfl ((lk_16 hly) _) (lf_16_3 hly _) dX2_turnEnds_76 ?_
    refine sm_iload_n (Y := mX2_turnEnds) (pc := 79) 1 1 rfl rfl dX2_turnEnds_79 ?_
    refine sm_iconst (Y := mX2_turnEnds) (pc := 80) 2 (by decide) dX2_turnEnds_80 ?_
    refine sm_iadd (Y := mX2_turnEnds) (pc := 81) dX2_turnEnds_81 ?_
    refine sm_iload_n (Y := mX2_turnEnds) (pc := 82) 0 2 rfl rfl dX2_turnEnds_82 ?_
    obtain ⟨hn_14, h⟩ := h
    refine sm_iast (Y := mX2_turnEnds) (pc := 83) (la_20 hly _) hn_14 dX2_turnEnds_83 (fun m_13 em_13 => ?_)
    replace h := h m_13 em_13
    exact sm_vret (Y := mX2_turnEnds) (pc := 84) rfl rfl rfl dX2_turnEnds_84 ⟨rfl, h⟩
  · replace h := h.2 hc
    exact sm_vret (Y := mX2_turnEnds) (pc := 8) rfl rfl rfl dX2_turnEnds_8 ⟨rfl, h⟩
def gX2_flipCrossings_21 (E : sm_E) (L : sm_S → Prop) (d : Nat) (vs : List Value) (x1 : Int32) (m : sm_M) (Q : sm_M → Prop) : Prop := sm_go E L mX2_flipCrossings d 0 0 vs 21 [(0, .ref (sm_B E + 16)), (1, .int x1)] [] m 0 0 (sm_Z E L vs 0 0 (sm_QV Q))
theorem dX2_flipCrossings_21 : decode cX2_flipCrossings 21 = .ok (.iload_n 1, 1) := dk_iload_n_1 (by decide +kernel)
theorem dX2_flipCrossings_22 : decode cX2_flipCrossings 22 = .ok (.aload_n 0, 1) := dk_aload_n_0 (by decide +kernel)
theorem dX2_flipCrossings_23 : decode cX2_flipCrossings 23 = .ok (.getfield 43, 3) := dk_getfield 43 (b1 := 0) (b2 := 43) (by decide +kernel) (by decide +kernel) (by decide +kernel) (by decide +kernel)
theorem dX2_flipCrossings_26 : decode cX2_flipCrossings 26 = .ok (.if_icmp .ge 29, 3) := dk_if_icmp_ge 29 (b1 := 0) (b2 := 29) (by decide +kernel) (by decide +kernel) (by decide +kernel) (by decide +kernel)
theorem dX2_flipCrossings_55 : decode cX2_flipCrossings 55 = .ok (.return_, 1) := dk_return_ (by decide +kernel)
theorem dX2_flipCrossings_29 : decode cX2_flipCrossings 29 = .ok (.aload_n 0, 1) := dk_aload_n_0 (by decide +kernel)
theorem dX2_flipCrossings_30 : decode cX2_flipCrossings 30 = .ok (.getfield 28, 3) := dk_getfield 28 (b1 := 0) (b2 := 28) (by decide +kernel) (by decide +kernel) (by decide +kernel) (by decide +kernel)
theorem dX2_flipCrossings_33 : decode cX2_flipCrossings 33 = .ok (.iload_n 1, 1) := dk_iload_n_1 (by decide +kernel)
theorem dX2_flipCrossings_34 : decode cX2_flipCrossings 34 = .ok (.aload_n 0, 1) := dk_aload_n_0 (by decide +kernel)
theorem dX2_flipCrossings_35 : decode cX2_flipCrossings 35 = .ok (.getfield 28, 3) := dk_getfield 28 (b1 := 0) (b2 := 28) (by decide +kernel) (by decide +kernel) (by decide +kernel) (by decide +kernel)
theorem dX2_flipCrossings_38 : decode cX2_flipCrossings 38 = .ok (.iload_n 1, 1) := dk_iload_n_1 (by decide +kernel)
theorem dX2_flipCrossings_39 : decode cX2_flipCrossings 39 = .ok (.baload, 1) := dk_baload (by decide +kernel)
theorem dX2_flipCrossings_40 : decode cX2_flipCrossings 40 = .ok (.ifCond .ne 7, 3) := dk_ifCond_ne 7 (b1 := 0) (b2 := 7) (by decide +kernel) (by decide +kernel) (by decide +kernel) (by decide +kernel)
theorem dX2_flipCrossings_47 : decode cX2_flipCrossings 47 = .ok (.iconst 0, 1) := dk_iconst_0 (by decide +kernel)
theorem dX2_flipCrossings_48 : decode cX2_flipCrossings 48 = .ok (.bastore, 1) := dk_bastore (by decide +kernel)
theorem dX2_flipCrossings_49 : decode cX2_flipCrossings 49 = .ok (.iinc 1 1, 3) := dk_iinc 1 1 (b1 := 1) (b2 := 1) (by decide +kernel) (by decide +kernel) (by decide +kernel) (by decide +kernel) (by decide +kernel)
theorem dX2_flipCrossings_52 : decode cX2_flipCrossings 52 = .ok (.goto (-31), 3) := dk_goto (-31) (b1 := 255) (b2 := 225) (by decide +kernel) (by decide +kernel) (by decide +kernel) (by decide +kernel)
theorem dX2_flipCrossings_43 : decode cX2_flipCrossings 43 = .ok (.iconst 1, 1) := dk_iconst_1 (by decide +kernel)
theorem dX2_flipCrossings_44 : decode cX2_flipCrossings 44 = .ok (.goto 4, 3) := dk_goto 4 (b1 := 0) (b2 := 4) (by decide +kernel) (by decide +kernel) (by decide +kernel) (by decide +kernel)
set_option maxRecDepth 20000 in
theorem vX2_flipCrossings_21 {E : sm_E} {L : sm_S → Prop} {d : Nat} {vs : List Value} {x1 : Int32}  {m : sm_M} {Q : sm_M → Prop} (hly : ∀ S, L S → ly S) (hd : 1 ≤ d) 
  (h : ((m.1 16 10) ≤ x1 →
      Q m) ∧
   (¬ (m.1 16 10) ≤ x1 →
      (vp_in x1 24) ∧ (¬ (m.1 22 x1.toNatClampNeg) = 0 →
         (vp_in x1 24) ∧ ∀ m_2 : sm_M, m_2 = sm_wI m 22 x1.toNatClampNeg 0 →
         ∀ x1_4 : Int32, x1_4 = x1 + 1 →
         gX2_flipCrossings_21 E L d vs x1_4 m_2 Q) ∧
      ((m.1 22 x1.toNatClampNeg) = 0 →
         (vp_in x1 24) ∧ ∀ m_5 : sm_M, m_5 = sm_wI m 22 x1.toNatClampNeg 1 →
         ∀ x1_7 : Int32, x1_7 = x1 + 1 →
         gX2_flipCrossings_21 E L d vs x1_7 m_5 Q))) :
  gX2_flipCrossings_21 E L d vs x1 m Q := by
  refine sm_iload_n (Y := mX2_flipCrossings) (pc := 21) 1 1 rfl rfl dX2_flipCrossings_21 ?_
  refine sm_aload_n (Y := mX2_flipCrossings) (pc := 22) 0 0 rfl rfl dX2_flipCrossings_22 ?_
  refine gf_RX2_43 (Y := mX2_flipCrossings) (pc := 23) rfl ((lk_16 hly) _) dX2_flipCrossings_23 ?_
  refine sm_icmp_ge (Y := mX2_flipCrossings) (pc := 26) 55 (by decide) dX2_flipCrossings_26 (fun hc => ?_) (fun hc => ?_)
  · replace h := h.1 hc
    exact sm_vret (Y := mX2_flipCrossings) (pc := 55) rfl rfl rfl dX2_flipCrossings_55 ⟨rfl, h⟩
  · replace h := h.2 hc
    refine sm_aload_n (Y := mX2_flipCrossings) (pc := 29) 0 0 rfl rfl dX2_flipCrossings_29 ?_
    refine gf_RX2_28 (Y := mX2_flipCrossings) (pc := 30) (b := 22) rfl ((lk_16 hly) _) (lf_16_5 hly _) dX2_flipCrossings_30 ?_
    refine sm_iload_n (Y := mX2_flipCrossings) (pc := 33) 1 1 rfl rfl dX2_flipCrossings_33 ?_
    refine sm_aload_n (Y := mX2_flipCrossings) (pc := 34) 0 0 rfl rfl dX2_flipCrossings_34 ?_
    refine gf_RX2_28 (Y := mX2_flipCrossings) (pc := 35) (b := 22) rfl ((lk_16 hly) _) (lf_16_5 hly _) dX2_flipCrossings_35 ?_
    refine sm_iload_n (Y := mX2_flipCrossings) (pc := 38) 1 1 rfl rfl dX2_flipCrossings_38 ?_
    obtain ⟨hn_1, h⟩ := h
    refine sm_zald (Y := mX2_flipCrossings) (pc := 39) (la_22 hly _) hn_1 dX2_flipCrossings_39 ?_
    refine sm_if_ne (Y := mX2_flipCrossings) (pc := 40) 47 (by decide) dX2_flipCrossings_40 (fun hc => ?_) (fun hc => ?_)
    · replace h := h.1 hc
      refine sm_iconst (Y := mX2_flipCrossings) (pc := 47) 0 (by decide) dX2_flipCrossings_47 ?_
      obtain ⟨hn_3, h⟩ := h
      refine sm_zast (Y := mX2_flipCrossings) (pc := 48) (la_22 hly _) hn_3 (by decide) dX2_flipCrossings_48 (fun m_2 em_2 => ?_)
      replace h := h m_2 em_2
      refine sm_iinc (Y := mX2_flipCrossings) (pc := 49) (fun y => [(1, .int y), (0, .ref (sm_B E + 16))]) 1 1 rfl (by decide) (fun _ => rfl) dX2_flipCrossings_49 (fun x1_4 ex1_4 => ?_)
      replace h := h x1_4 ex1_4
      refine sm_goto (Y := mX2_flipCrossings) (pc := 52) 21 (by decide) dX2_flipCrossings_52 ?_
      refine sm_sub [1, 0] rfl ?_
      exact h
    · replace h := h.2 hc
      refine sm_iconst (Y := mX2_flipCrossings) (pc := 43) 1 (by decide) dX2_flipCrossings_43 ?_
      refine sm_goto (Y := mX2_flipCrossings) (pc := 44) 48 (by decide) dX2_flipCrossings_44 ?_
      obtain ⟨hn_6, h⟩ := h
      refine sm_zast (Y := mX2_flipCrossings) (pc := 48) (la_22 hly _) hn_6 (by decide) dX2_flipCrossings_48 (fun m_5 em_5 => ?_)
      replace h := h m_5 em_5
      refine sm_iinc (Y := mX2_flipCrossings) (pc := 49) (fun y => [(1, .int y), (0, .ref (sm_B E + 16))]) 1 1 rfl (by decide) (fun _ => rfl) dX2_flipCrossings_49 (fun x1_7 ex1_7 => ?_)
      replace h := h x1_7 ex1_7
      refine sm_goto (Y := mX2_flipCrossings) (pc := 52) 21 (by decide) dX2_flipCrossings_52 ?_
      refine sm_sub [1, 0] rfl ?_
      exact h
theorem dX2_flipCrossings_0 : decode cX2_flipCrossings 0 = .ok (.aload_n 0, 1) := dk_aload_n_0 (by decide +kernel)
theorem dX2_flipCrossings_1 : decode cX2_flipCrossings 1 = .ok (.getfield 50, 3) := dk_getfield 50 (b1 := 0) (b2 := 50) (by decide +kernel) (by decide +kernel) (by decide +kernel) (by decide +kernel)
theorem dX2_flipCrossings_4 : decode cX2_flipCrossings 4 = .ok (.iconst 1, 1) := dk_iconst_1 (by decide +kernel)
theorem dX2_flipCrossings_5 : decode cX2_flipCrossings 5 = .ok (.if_icmp .ge 4, 3) := dk_if_icmp_ge 4 (b1 := 0) (b2 := 4) (by decide +kernel) (by decide +kernel) (by decide +kernel) (by decide +kernel)
theorem dX2_flipCrossings_9 : decode cX2_flipCrossings 9 = .ok (.aload_n 0, 1) := dk_aload_n_0 (by decide +kernel)
theorem dX2_flipCrossings_10 : decode cX2_flipCrossings 10 = .ok (.getfield 25, 3) := dk_getfield 25 (b1 := 0) (b2 := 25) (by decide +kernel) (by decide +kernel) (by decide +kernel) (by decide +kernel)
theorem dX2_flipCrossings_13 : decode cX2_flipCrossings 13 = .ok (.aload_n 0, 1) := dk_aload_n_0 (by decide +kernel)
theorem dX2_flipCrossings_14 : decode cX2_flipCrossings 14 = .ok (.getfield 50, 3) := dk_getfield 50 (b1 := 0) (b2 := 50) (by decide +kernel) (by decide +kernel) (by decide +kernel) (by decide +kernel)
theorem dX2_flipCrossings_17 : decode cX2_flipCrossings 17 = .ok (.iconst 1, 1) := dk_iconst_1 (by decide +kernel)
theorem dX2_flipCrossings_18 : decode cX2_flipCrossings 18 = .ok (.isub, 1) := dk_isub (by decide +kernel)
theorem dX2_flipCrossings_19 : decode cX2_flipCrossings 19 = .ok (.iaload, 1) := dk_iaload (by decide +kernel)
theorem dX2_flipCrossings_20 : decode cX2_flipCrossings 20 = .ok (.istore_n 1, 1) := dk_istore_n_1 (by decide +kernel)
theorem dX2_flipCrossings_8 : decode cX2_flipCrossings 8 = .ok (.return_, 1) := dk_return_ (by decide +kernel)
set_option maxRecDepth 20000 in
theorem vX2_flipCrossings_0 {E : sm_E} {L : sm_S → Prop} {d : Nat}   {m : sm_M} {Q : sm_M → Prop} (hly : ∀ S, L S → ly S) (hd : 1 ≤ d) 
  (h : (1 ≤ (m.1 16 14) →
      (vp_in ((m.1 16 14) - 1) 24) ∧ ∀ x1_2 : Int32, x1_2 = m.1 21 ((m.1 16 14) - 1).toNatClampNeg →
      gX2_flipCrossings_21 E L d ([.ref (sm_B E + 16)]) x1_2 m Q) ∧
   (¬ 1 ≤ (m.1 16 14) →
      Q m)) :
  sm_callV E L mX2_flipCrossings d 0 0 [.ref (sm_B E + 16)] m Q := by
  refine sm_enter (by decide +kernel) (by simp [lg_sl, Value.category]) ?_
  refine sm_aload_n (Y := mX2_flipCrossings) (pc := 0) 0 0 rfl rfl dX2_flipCrossings_0 ?_
  refine gf_RX2_50 (Y := mX2_flipCrossings) (pc := 1) rfl ((lk_16 hly) _) dX2_flipCrossings_1 ?_
  refine sm_iconst (Y := mX2_flipCrossings) (pc := 4) 1 (by decide) dX2_flipCrossings_4 ?_
  refine sm_icmp_ge (Y := mX2_flipCrossings) (pc := 5) 9 (by decide) dX2_flipCrossings_5 (fun hc => ?_) (fun hc => ?_)
  · replace h := h.1 hc
    refine sm_aload_n (Y := mX2_flipCrossings) (pc := 9) 0 0 rfl rfl dX2_flipCrossings_9 ?_
    refine gf_RX2_25 (Y := mX2_flipCrossings) (pc := 10) (b := 21) rfl ((lk_16 hly) _) (lf_16_4 hly _) dX2_flipCrossings_10 ?_
    refine sm_aload_n (Y := mX2_flipCrossings) (pc := 13) 0 0 rfl rfl dX2_flipCrossings_13 ?_
    refine gf_RX2_50 (Y := mX2_flipCrossings) (pc := 14) rfl ((lk_16 hly) _) dX2_flipCrossings_14 ?_
    refine sm_iconst (Y := mX2_flipCrossings) (pc := 17) 1 (by decide) dX2_flipCrossings_17 ?_
    refine sm_isub (Y := mX2_flipCrossings) (pc := 18) dX2_flipCrossings_18 ?_
    obtain ⟨hn_1, h⟩ := h
    refine sm_iald (Y := mX2_flipCrossings) (pc := 19) (la_21 hly _) hn_1 dX2_flipCrossings_19 ?_
    refine sm_istore_n (Y := mX2_flipCrossings) (pc := 20) (fun y => [(1, .int y), (0, .ref (sm_B E + 16))]) 1 rfl (by decide) (fun _ => rfl) dX2_flipCrossings_20 (fun x1_2 ex1_2 => ?_)
    replace h := h x1_2 ex1_2
    refine sm_sub [1, 0] rfl ?_
    exact h
  · replace h := h.2 hc
    exact sm_vret (Y := mX2_flipCrossings) (pc := 8) rfl rfl rfl dX2_flipCrossings_8 ⟨rfl, h⟩
def gX2_walkAll_117 (E : sm_E) (L : sm_S → Prop) (d : Nat) (vs : List Value) (x1 : Int32) (m : sm_M) (Q : sm_M → Prop) : Prop := sm_go E L mX2_walkAll d 0 0 vs 117 [(0, .ref (sm_B E + 16)), (1, .int x1)] [] m 0 0 (sm_Z E L vs 0 0 (sm_QV Q))
def gX2_walkAll_83 (E : sm_E) (L : sm_S → Prop) (d : Nat) (vs : List Value) (x1 : Int32) (x2 : Int32) (s0 : Int32) (s1 : Int32) (m : sm_M) (Q : sm_M → Prop) : Prop := sm_go E L mX2_walkAll d 0 0 vs 83 [(0, .ref (sm_B E + 16)), (1, .int x1), (2, .int x2)] [.int s1, .int s0] m 0 0 (sm_Z E L vs 0 0 (sm_QV Q))
def gX2_walkAll_64 (E : sm_E) (L : sm_S → Prop) (d : Nat) (vs : List Value) (x1 : Int32) (s0 : Int32) (s1 : Int32) (m : sm_M) (Q : sm_M → Prop) : Prop := sm_go E L mX2_walkAll d 0 0 vs 64 [(0, .ref (sm_B E + 16)), (1, .int x1)] [.int s1, .int s0] m 0 0 (sm_Z E L vs 0 0 (sm_QV Q))
def gX2_walkAll_39 (E : sm_E) (L : sm_S → Prop) (d : Nat) (vs : List Value) (x1 : Int32) (m : sm_M) (Q : sm_M → Prop) : Prop := sm_go E L mX2_walkAll d 0 0 vs 39 [(0, .ref (sm_B E + 16)), (1, .int x1)] [] m 0 0 (sm_Z E L vs 0 0 (sm_QV Q))
def gX2_walkAll_2 (E : sm_E) (L : sm_S → Prop) (d : Nat) (vs : List Value) (x1 : Int32) (m : sm_M) (Q : sm_M → Prop) : Prop := sm_go E L mX2_walkAll d 0 0 vs 2 [(0, .ref (sm_B E + 16)), (1, .int x1)] [] m 0 0 (sm_Z E L vs 0 0 (sm_QV Q))
theorem dX2_walkAll_117 : decode cX2_walkAll 117 = .ok (.iload_n 1, 1) := dk_iload_n_1 (by decide +kernel)
theorem dX2_walkAll_118 : decode cX2_walkAll 118 = .ok (.iconst 4, 1) := dk_iconst_4 (by decide +kernel)
theorem dX2_walkAll_119 : decode cX2_walkAll 119 = .ok (.bipush 24, 2) := dk_bipush 24 (b := 24) (by decide +kernel) (by decide +kernel) (by decide +kernel)
theorem dX2_walkAll_121 : decode cX2_walkAll 121 = .ok (.aload_n 0, 1) := dk_aload_n_0 (by decide +kernel)
theorem dX2_walkAll_122 : decode cX2_walkAll 122 = .ok (.getfield 47, 3) := dk_getfield 47 (b1 := 0) (b2 := 47) (by decide +kernel) (by decide +kernel) (by decide +kernel) (by decide +kernel)
theorem dX2_walkAll_125 : decode cX2_walkAll 125 = .ok (.iadd, 1) := dk_iadd (by decide +kernel)
theorem dX2_walkAll_126 : decode cX2_walkAll 126 = .ok (.imul, 1) := dk_imul (by decide +kernel)
theorem dX2_walkAll_127 : decode cX2_walkAll 127 = .ok (.if_icmp .ge 33, 3) := dk_if_icmp_ge 33 (b1 := 0) (b2 := 33) (by decide +kernel) (by decide +kernel) (by decide +kernel) (by decide +kernel)
theorem dX2_walkAll_160 : decode cX2_walkAll 160 = .ok (.return_, 1) := dk_return_ (by decide +kernel)
theorem dX2_walkAll_130 : decode cX2_walkAll 130 = .ok (.aload_n 0, 1) := dk_aload_n_0 (by decide +kernel)
theorem dX2_walkAll_131 : decode cX2_walkAll 131 = .ok (.getfield 18, 3) := dk_getfield 18 (b1 := 0) (b2 := 18) (by decide +kernel) (by decide +kernel) (by decide +kernel) (by decide +kernel)
theorem dX2_walkAll_134 : decode cX2_walkAll 134 = .ok (.iload_n 1, 1) := dk_iload_n_1 (by decide +kernel)
theorem dX2_walkAll_135 : decode cX2_walkAll 135 = .ok (.baload, 1) := dk_baload (by decide +kernel)
theorem dX2_walkAll_136 : decode cX2_walkAll 136 = .ok (.ifCond .ne 18, 3) := dk_ifCond_ne 18 (b1 := 0) (b2 := 18) (by decide +kernel) (by decide +kernel) (by decide +kernel) (by decide +kernel)
theorem dX2_walkAll_154 : decode cX2_walkAll 154 = .ok (.iinc 1 1, 3) := dk_iinc 1 1 (b1 := 1) (b2 := 1) (by decide +kernel) (by decide +kernel) (by decide +kernel) (by decide +kernel) (by decide +kernel)
theorem dX2_walkAll_157 : decode cX2_walkAll 157 = .ok (.goto (-40), 3) := dk_goto (-40) (b1 := 255) (b2 := 216) (by decide +kernel) (by decide +kernel) (by decide +kernel) (by decide +kernel)
theorem dX2_walkAll_139 : decode cX2_walkAll 139 = .ok (.aload_n 0, 1) := dk_aload_n_0 (by decide +kernel)
theorem dX2_walkAll_140 : decode cX2_walkAll 140 = .ok (.iload_n 1, 1) := dk_iload_n_1 (by decide +kernel)
theorem wRX2_108 : Cond.methodLink RX2 108 yX2_walk ∈ sm_T := sm_in 771 (by decide +kernel) (by decide +kernel)
abbrev mX2_walk : sm_Y := (yX2_walk, cX2_walk, 5, none)
theorem fX2_walk : sm_mi mX2_walk RX2 1 := ⟨sm_in 774 (by decide +kernel) (by decide +kernel), sm_in 773 (by decide +kernel) (by decide +kernel), sm_in 25 (by decide +kernel) (by decide +kernel), sm_in 87 (by decide +kernel) (by decide +kernel), rfl, ⟨by decide +kernel, by decide +kernel, by decide +kernel⟩, by decide⟩
theorem dX2_walkAll_141 : decode cX2_walkAll 141 = .ok (.invokevirtual 108, 3) := dk_invokevirtual 108 (b1 := 0) (b2 := 108) (by decide +kernel) (by decide +kernel) (by decide +kernel) (by decide +kernel)
theorem dX2_walkAll_144 : decode cX2_walkAll 144 = .ok (.aload_n 0, 1) := dk_aload_n_0 (by decide +kernel)
theorem dX2_walkAll_145 : decode cX2_walkAll 145 = .ok (.dup, 1) := dk_dup (by decide +kernel)
theorem dX2_walkAll_146 : decode cX2_walkAll 146 = .ok (.getfield 99, 3) := dk_getfield 99 (b1 := 0) (b2 := 99) (by decide +kernel) (by decide +kernel) (by decide +kernel) (by decide +kernel)
theorem dX2_walkAll_149 : decode cX2_walkAll 149 = .ok (.iconst 1, 1) := dk_iconst_1 (by decide +kernel)
theorem dX2_walkAll_150 : decode cX2_walkAll 150 = .ok (.iadd, 1) := dk_iadd (by decide +kernel)
theorem dX2_walkAll_151 : decode cX2_walkAll 151 = .ok (.putfield 99, 3) := dk_putfield 99 (b1 := 0) (b2 := 99) (by decide +kernel) (by decide +kernel) (by decide +kernel) (by decide +kernel)
set_option maxRecDepth 20000 in
theorem vX2_walkAll_117 {E : sm_E} {L : sm_S → Prop} {d : Nat} {vs : List Value} {x1 : Int32}  {m : sm_M} {Q : sm_M → Prop} (hly : ∀ S, L S → ly S) (hd : 4 ≤ d) 
  (h : (((4 : Int32) * ((24 : Int32) + (m.1 16 13))) ≤ x1 →
      Q m) ∧
   (¬ ((4 : Int32) * ((24 : Int32) + (m.1 16 13))) ≤ x1 →
      (vp_in x1 192) ∧ (¬ (m.1 19 x1.toNatClampNeg) = 0 →
         ∀ x1_2 : Int32, x1_2 = x1 + 1 →
         gX2_walkAll_117 E L d vs x1_2 m Q) ∧
      ((m.1 19 x1.toNatClampNeg) = 0 →
         sm_callV E L mX2_walk 2 0 0 [.ref (sm_B E + 16), .int x1] m (fun m_3 =>
         ∀ m_4 : sm_M, m_4 = sm_wI m_3 16 12 ((m_3.1 16 12) + 1) →
         ∀ x1_5 : Int32, x1_5 = x1 + 1 →
         gX2_walkAll_117 E L d vs x1_5 m_4 Q)))) :
  gX2_walkAll_117 E L d vs x1 m Q := by
  refine sm_iload_n (Y := mX2_walkAll) (pc := 117) 1 1 rfl rfl dX2_walkAll_117 ?_
  refine sm_iconst (Y := mX2_walkAll) (pc := 118) 4 (by decide) dX2_walkAll_118 ?_
  refine sm_bipush (Y := mX2_walkAll) (pc := 119) 24 (by decide) dX2_walkAll_119 ?_
  refine sm_aload_n (Y := mX2_walkAll) (pc := 121) 0 0 rfl rfl dX2_walkAll_121 ?_
  refine gf_RX2_47 (Y := mX2_walkAll) (pc := 122) rfl ((lk_16 hly) _) dX2_walkAll_122 ?_
  refine sm_iadd (Y := mX2_walkAll) (pc := 125) dX2_walkAll_125 ?_
  refine sm_imul (Y := mX2_walkAll) (pc := 126) dX2_walkAll_126 ?_
  refine sm_icmp_ge (Y := mX2_walkAll) (pc := 127) 160 (by decide) dX2_walkAll_127 (fun hc => ?_) (fun hc => ?_)
  · replace h := h.1 hc
    exact sm_vret (Y := mX2_walkAll) (pc := 160) rfl rfl rfl dX2_walkAll_160 ⟨rfl, h⟩
  · replace h := h.2 hc
    refine sm_aload_n (Y := mX2_walkAll) (pc := 130) 0 0 rfl rfl dX2_walkAll_130 ?_
    refine gf_RX2_18 (Y := mX2_walkAll) (pc := 131) (b := 19) rfl ((lk_16 hly) _) (lf_16_2 hly _) dX2_walkAll_131 ?_
    refine sm_iload_n (Y := mX2_walkAll) (pc := 134) 1 1 rfl rfl dX2_walkAll_134 ?_
    obtain ⟨hn_1, h⟩ := h
    refine sm_zald (Y := mX2_walkAll) (pc := 135) (la_19 hly _) hn_1 dX2_walkAll_135 ?_
    refine sm_if_ne (Y := mX2_walkAll) (pc := 136) 154 (by decide) dX2_walkAll_136 (fun hc => ?_) (fun hc => ?_)
    · replace h := h.1 hc
      refine sm_iinc (Y := mX2_walkAll) (pc := 154) (fun y => [(1, .int y), (0, .ref (sm_B E + 16))]) 1 1 rfl (by decide) (fun _ => rfl) dX2_walkAll_154 (fun x1_2 ex1_2 => ?_)
      replace h := h x1_2 ex1_2
      refine sm_goto (Y := mX2_walkAll) (pc := 157) 117 (by decide) dX2_walkAll_157 ?_
      refine sm_sub [1, 0] rfl ?_
      exact h
    · replace h := h.2 hc
      refine sm_aload_n (Y := mX2_walkAll) (pc := 139) 0 0 rfl rfl dX2_walkAll_139 ?_
      refine sm_iload_n (Y := mX2_walkAll) (pc := 140) 1 1 rfl rfl dX2_walkAll_140 ?_
      refine sm_iv_V (Y := mX2_walkAll) (pc := 141) (As := [.int x1]) (a := 16) fX2_walk wRX2_108 (lk_16 hly) (by decide) rfl rfl rfl (Nat.le_trans (by decide) hd) (Nat.le_of_ble_eq_true rfl) ⟨Nat.le_refl _, Nat.le_refl _⟩ dX2_walkAll_141 rfl (sm_monoV h (fun m_3 h => ?_))
      refine sm_aload_n (Y := mX2_walkAll) (pc := 144) 0 0 rfl rfl dX2_walkAll_144 ?_
      refine sm_dup (Y := mX2_walkAll) (pc := 145) rfl dX2_walkAll_145 ?_
      refine gf_RX2_99 (Y := mX2_walkAll) (pc := 146) rfl ((lk_16 hly) _) dX2_walkAll_146 ?_
      refine sm_iconst (Y := mX2_walkAll) (pc := 149) 1 (by decide) dX2_walkAll_149 ?_
      refine sm_iadd (Y := mX2_walkAll) (pc := 150) dX2_walkAll_150 ?_
      refine pf_RX2_99 (Y := mX2_walkAll) (pc := 151) rfl ((lk_16 hly) _) dX2_walkAll_151 (fun m_4 em_4 => ?_)
      replace h := h m_4 em_4
      refine sm_iinc (Y := mX2_walkAll) (pc := 154) (fun y => [(1, .int y), (0, .ref (sm_B E + 16))]) 1 1 rfl (by decide) (fun _ => rfl) dX2_walkAll_154 (fun x1_5 ex1_5 => ?_)
      replace h := h x1_5 ex1_5
      refine sm_goto (Y := mX2_walkAll) (pc := 157) 117 (by decide) dX2_walkAll_157 ?_
      refine sm_sub [1, 0] rfl ?_
      exact h
theorem dX2_walkAll_83 : decode cX2_walkAll 83 = .ok (.iadd, 1) := dk_iadd (by decide +kernel)
theorem dX2_walkAll_84 : decode cX2_walkAll 84 = .ok (.istore_n 3, 1) := dk_istore_n_3 (by decide +kernel)
theorem dX2_walkAll_85 : decode cX2_walkAll 85 = .ok (.aload_n 0, 1) := dk_aload_n_0 (by decide +kernel)
theorem dX2_walkAll_86 : decode cX2_walkAll 86 = .ok (.iload_n 2, 1) := dk_iload_n_2 (by decide +kernel)
theorem wRX2_105 : Cond.methodLink RX2 105 yX2_beginAt ∈ sm_T := sm_in 767 (by decide +kernel) (by decide +kernel)
abbrev mX2_beginAt : sm_Y := (yX2_beginAt, cX2_beginAt, 2, none)
theorem fX2_beginAt : sm_mi mX2_beginAt RX2 1 := ⟨sm_in 770 (by decide +kernel) (by decide +kernel), sm_in 769 (by decide +kernel) (by decide +kernel), sm_in 24 (by decide +kernel) (by decide +kernel), sm_in 87 (by decide +kernel) (by decide +kernel), rfl, ⟨by decide +kernel, by decide +kernel, by decide +kernel⟩, by decide⟩
theorem dX2_walkAll_87 : decode cX2_walkAll 87 = .ok (.invokevirtual 105, 3) := dk_invokevirtual 105 (b1 := 0) (b2 := 105) (by decide +kernel) (by decide +kernel) (by decide +kernel) (by decide +kernel)
theorem dX2_walkAll_90 : decode cX2_walkAll 90 = .ok (.aload_n 0, 1) := dk_aload_n_0 (by decide +kernel)
theorem dX2_walkAll_91 : decode cX2_walkAll 91 = .ok (.iload_n 3, 1) := dk_iload_n_3 (by decide +kernel)
theorem dX2_walkAll_92 : decode cX2_walkAll 92 = .ok (.invokevirtual 105, 3) := dk_invokevirtual 105 (b1 := 0) (b2 := 105) (by decide +kernel) (by decide +kernel) (by decide +kernel) (by decide +kernel)
theorem dX2_walkAll_95 : decode cX2_walkAll 95 = .ok (.iinc 1 1, 3) := dk_iinc 1 1 (b1 := 1) (b2 := 1) (by decide +kernel) (by decide +kernel) (by decide +kernel) (by decide +kernel) (by decide +kernel)
theorem dX2_walkAll_98 : decode cX2_walkAll 98 = .ok (.goto (-59), 3) := dk_goto (-59) (b1 := 255) (b2 := 197) (by decide +kernel) (by decide +kernel) (by decide +kernel) (by decide +kernel)
set_option maxRecDepth 20000 in
theorem vX2_walkAll_83 {E : sm_E} {L : sm_S → Prop} {d : Nat} {vs : List Value} {x1 : Int32} {x2 : Int32} {s0 : Int32} {s1 : Int32}  {m : sm_M} {Q : sm_M → Prop} (hly : ∀ S, L S → ly S) (hd : 4 ≤ d) 
  (h : ∀ x3_1 : Int32, x3_1 = s0 + s1 →
   sm_callV E L mX2_beginAt 3 0 0 [.ref (sm_B E + 16), .int x2] m (fun m_2 =>
   sm_callV E L mX2_beginAt 3 0 0 [.ref (sm_B E + 16), .int x3_1] m_2 (fun m_3 =>
   ∀ x1_4 : Int32, x1_4 = x1 + 1 →
   gX2_walkAll_39 E L d vs x1_4 m_3 Q))) :
  gX2_walkAll_83 E L d vs x1 x2 s0 s1 m Q := by
  refine sm_iadd (Y := mX2_walkAll) (pc := 83) dX2_walkAll_83 ?_
  refine sm_istore_n (Y := mX2_walkAll) (pc := 84) (fun y => [(3, .int y), (0, .ref (sm_B E + 16)), (1, .int x1), (2, .int x2)]) 3 rfl (by decide) (fun _ => rfl) dX2_walkAll_84 (fun x3_1 ex3_1 => ?_)
  replace h := h x3_1 ex3_1
  refine sm_aload_n (Y := mX2_walkAll) (pc := 85) 1 0 rfl rfl dX2_walkAll_85 ?_
  refine sm_iload_n (Y := mX2_walkAll) (pc := 86) 3 2 rfl rfl dX2_walkAll_86 ?_
  refine sm_iv_V (Y := mX2_walkAll) (pc := 87) (As := [.int x2]) (a := 16) fX2_beginAt wRX2_105 (lk_16 hly) (by decide) rfl rfl rfl (Nat.le_trans (by decide) hd) (Nat.le_of_ble_eq_true rfl) ⟨Nat.le_refl _, Nat.le_refl _⟩ dX2_walkAll_87 rfl (sm_monoV h (fun m_2 h => ?_))
  refine sm_aload_n (Y := mX2_walkAll) (pc := 90) 1 0 rfl rfl dX2_walkAll_90 ?_
  refine sm_iload_n (Y := mX2_walkAll) (pc := 91) 0 3 rfl rfl dX2_walkAll_91 ?_
  refine sm_iv_V (Y := mX2_walkAll) (pc := 92) (As := [.int x3_1]) (a := 16) fX2_beginAt wRX2_105 (lk_16 hly) (by decide) rfl rfl rfl (Nat.le_trans (by decide) hd) (Nat.le_of_ble_eq_true rfl) ⟨Nat.le_refl _, Nat.le_refl _⟩ dX2_walkAll_92 rfl (sm_monoV h (fun m_3 h => ?_))
  refine sm_iinc (Y := mX2_walkAll) (pc := 95) (fun y => [(1, .int y), (3, .int x3_1), (0, .ref (sm_B E + 16)), (2, .int x2)]) 2 1 rfl (by decide) (fun _ => rfl) dX2_walkAll_95 (fun x1_4 ex1_4 => ?_)
  replace h := h x1_4 ex1_4
  refine sm_goto (Y := mX2_walkAll) (pc := 98) 39 (by decide) dX2_walkAll_98 ?_
  refine sm_sub [2, 0] rfl ?_
  exact h
theorem dX2_walkAll_64 : decode cX2_walkAll 64 = .ok (.iadd, 1) := dk_iadd (by decide +kernel)
theorem dX2_walkAll_65 : decode cX2_walkAll 65 = .ok (.istore_n 2, 1) := dk_istore_n_2 (by decide +kernel)
theorem dX2_walkAll_66 : decode cX2_walkAll 66 = .ok (.iconst 4, 1) := dk_iconst_4 (by decide +kernel)
theorem dX2_walkAll_67 : decode cX2_walkAll 67 = .ok (.iload_n 1, 1) := dk_iload_n_1 (by decide +kernel)
theorem dX2_walkAll_68 : decode cX2_walkAll 68 = .ok (.imul, 1) := dk_imul (by decide +kernel)
theorem dX2_walkAll_69 : decode cX2_walkAll 69 = .ok (.aload_n 0, 1) := dk_aload_n_0 (by decide +kernel)
theorem dX2_walkAll_70 : decode cX2_walkAll 70 = .ok (.getfield 28, 3) := dk_getfield 28 (b1 := 0) (b2 := 28) (by decide +kernel) (by decide +kernel) (by decide +kernel) (by decide +kernel)
theorem dX2_walkAll_73 : decode cX2_walkAll 73 = .ok (.iload_n 1, 1) := dk_iload_n_1 (by decide +kernel)
theorem dX2_walkAll_74 : decode cX2_walkAll 74 = .ok (.baload, 1) := dk_baload (by decide +kernel)
theorem dX2_walkAll_75 : decode cX2_walkAll 75 = .ok (.ifCond .eq 7, 3) := dk_ifCond_eq 7 (b1 := 0) (b2 := 7) (by decide +kernel) (by decide +kernel) (by decide +kernel) (by decide +kernel)
theorem dX2_walkAll_82 : decode cX2_walkAll 82 = .ok (.iconst 0, 1) := dk_iconst_0 (by decide +kernel)
theorem dX2_walkAll_78 : decode cX2_walkAll 78 = .ok (.iconst 2, 1) := dk_iconst_2 (by decide +kernel)
theorem dX2_walkAll_79 : decode cX2_walkAll 79 = .ok (.goto 4, 3) := dk_goto 4 (b1 := 0) (b2 := 4) (by decide +kernel) (by decide +kernel) (by decide +kernel) (by decide +kernel)
set_option maxRecDepth 20000 in
theorem vX2_walkAll_64 {E : sm_E} {L : sm_S → Prop} {d : Nat} {vs : List Value} {x1 : Int32} {s0 : Int32} {s1 : Int32}  {m : sm_M} {Q : sm_M → Prop} (hly : ∀ S, L S → ly S) (hd : 4 ≤ d) 
  (h : ∀ x2_1 : Int32, x2_1 = s0 + s1 →
   (vp_in x1 24) ∧ ((m.1 22 x1.toNatClampNeg) = 0 →
      gX2_walkAll_83 E L d vs x1 x2_1 ((4 : Int32) * x1) 0 m Q) ∧
   (¬ (m.1 22 x1.toNatClampNeg) = 0 →
      gX2_walkAll_83 E L d vs x1 x2_1 ((4 : Int32) * x1) 2 m Q)) :
  gX2_walkAll_64 E L d vs x1 s0 s1 m Q := by
  refine sm_iadd (Y := mX2_walkAll) (pc := 64) dX2_walkAll_64 ?_
  refine sm_istore_n (Y := mX2_walkAll) (pc := 65) (fun y => [(2, .int y), (0, .ref (sm_B E + 16)), (1, .int x1)]) 2 rfl (by decide) (fun _ => rfl) dX2_walkAll_65 (fun x2_1 ex2_1 => ?_)
  replace h := h x2_1 ex2_1
  refine sm_iconst (Y := mX2_walkAll) (pc := 66) 4 (by decide) dX2_walkAll_66 ?_
  refine sm_iload_n (Y := mX2_walkAll) (pc := 67) 2 1 rfl rfl dX2_walkAll_67 ?_
  refine sm_imul (Y := mX2_walkAll) (pc := 68) dX2_walkAll_68 ?_
  refine sm_aload_n (Y := mX2_walkAll) (pc := 69) 1 0 rfl rfl dX2_walkAll_69 ?_
  refine gf_RX2_28 (Y := mX2_walkAll) (pc := 70) (b := 22) rfl ((lk_16 hly) _) (lf_16_5 hly _) dX2_walkAll_70 ?_
  refine sm_iload_n (Y := mX2_walkAll) (pc := 73) 2 1 rfl rfl dX2_walkAll_73 ?_
  obtain ⟨hn_2, h⟩ := h
  refine sm_zald (Y := mX2_walkAll) (pc := 74) (la_22 hly _) hn_2 dX2_walkAll_74 ?_
  refine sm_if_eq (Y := mX2_walkAll) (pc := 75) 82 (by decide) dX2_walkAll_75 (fun hc => ?_) (fun hc => ?_)
  · replace h := h.1 hc
    refine sm_iconst (Y := mX2_walkAll) (pc := 82) 0 (by decide) dX2_walkAll_82 ?_
    refine sm_sub [1, 2, 0] rfl ?_
    exact h
  · replace h := h.2 hc
    refine sm_iconst (Y := mX2_walkAll) (pc := 78) 2 (by decide) dX2_walkAll_78 ?_
    refine sm_goto (Y := mX2_walkAll) (pc := 79) 83 (by decide) dX2_walkAll_79 ?_
    refine sm_sub [1, 2, 0] rfl ?_
    exact h
theorem dX2_walkAll_39 : decode cX2_walkAll 39 = .ok (.iload_n 1, 1) := dk_iload_n_1 (by decide +kernel)
theorem dX2_walkAll_40 : decode cX2_walkAll 40 = .ok (.aload_n 0, 1) := dk_aload_n_0 (by decide +kernel)
theorem dX2_walkAll_41 : decode cX2_walkAll 41 = .ok (.getfield 43, 3) := dk_getfield 43 (b1 := 0) (b2 := 43) (by decide +kernel) (by decide +kernel) (by decide +kernel) (by decide +kernel)
theorem dX2_walkAll_44 : decode cX2_walkAll 44 = .ok (.if_icmp .ge 57, 3) := dk_if_icmp_ge 57 (b1 := 0) (b2 := 57) (by decide +kernel) (by decide +kernel) (by decide +kernel) (by decide +kernel)
theorem dX2_walkAll_101 : decode cX2_walkAll 101 = .ok (.aload_n 0, 1) := dk_aload_n_0 (by decide +kernel)
theorem dX2_walkAll_102 : decode cX2_walkAll 102 = .ok (.getfield 34, 3) := dk_getfield 34 (b1 := 0) (b2 := 34) (by decide +kernel) (by decide +kernel) (by decide +kernel) (by decide +kernel)
theorem dX2_walkAll_105 : decode cX2_walkAll 105 = .ok (.aload_n 0, 1) := dk_aload_n_0 (by decide +kernel)
theorem dX2_walkAll_106 : decode cX2_walkAll 106 = .ok (.getfield 96, 3) := dk_getfield 96 (b1 := 0) (b2 := 96) (by decide +kernel) (by decide +kernel) (by decide +kernel) (by decide +kernel)
theorem dX2_walkAll_109 : decode cX2_walkAll 109 = .ok (.aload_n 0, 1) := dk_aload_n_0 (by decide +kernel)
theorem dX2_walkAll_110 : decode cX2_walkAll 110 = .ok (.getfield 102, 3) := dk_getfield 102 (b1 := 0) (b2 := 102) (by decide +kernel) (by decide +kernel) (by decide +kernel) (by decide +kernel)
theorem dX2_walkAll_113 : decode cX2_walkAll 113 = .ok (.iastore, 1) := dk_iastore (by decide +kernel)
theorem dX2_walkAll_114 : decode cX2_walkAll 114 = .ok (.bipush 96, 2) := dk_bipush 96 (b := 96) (by decide +kernel) (by decide +kernel) (by decide +kernel)
theorem dX2_walkAll_116 : decode cX2_walkAll 116 = .ok (.istore_n 1, 1) := dk_istore_n_1 (by decide +kernel)
theorem dX2_walkAll_47 : decode cX2_walkAll 47 = .ok (.iconst 4, 1) := dk_iconst_4 (by decide +kernel)
theorem dX2_walkAll_48 : decode cX2_walkAll 48 = .ok (.iload_n 1, 1) := dk_iload_n_1 (by decide +kernel)
theorem dX2_walkAll_49 : decode cX2_walkAll 49 = .ok (.imul, 1) := dk_imul (by decide +kernel)
theorem dX2_walkAll_50 : decode cX2_walkAll 50 = .ok (.aload_n 0, 1) := dk_aload_n_0 (by decide +kernel)
theorem dX2_walkAll_51 : decode cX2_walkAll 51 = .ok (.getfield 28, 3) := dk_getfield 28 (b1 := 0) (b2 := 28) (by decide +kernel) (by decide +kernel) (by decide +kernel) (by decide +kernel)
theorem dX2_walkAll_54 : decode cX2_walkAll 54 = .ok (.iload_n 1, 1) := dk_iload_n_1 (by decide +kernel)
theorem dX2_walkAll_55 : decode cX2_walkAll 55 = .ok (.baload, 1) := dk_baload (by decide +kernel)
theorem dX2_walkAll_56 : decode cX2_walkAll 56 = .ok (.ifCond .eq 7, 3) := dk_ifCond_eq 7 (b1 := 0) (b2 := 7) (by decide +kernel) (by decide +kernel) (by decide +kernel) (by decide +kernel)
theorem dX2_walkAll_63 : decode cX2_walkAll 63 = .ok (.iconst 2, 1) := dk_iconst_2 (by decide +kernel)
theorem dX2_walkAll_59 : decode cX2_walkAll 59 = .ok (.iconst 0, 1) := dk_iconst_0 (by decide +kernel)
theorem dX2_walkAll_60 : decode cX2_walkAll 60 = .ok (.goto 4, 3) := dk_goto 4 (b1 := 0) (b2 := 4) (by decide +kernel) (by decide +kernel) (by decide +kernel) (by decide +kernel)
set_option maxRecDepth 20000 in
theorem vX2_walkAll_39 {E : sm_E} {L : sm_S → Prop} {d : Nat} {vs : List Value} {x1 : Int32}  {m : sm_M} {Q : sm_M → Prop} (hly : ∀ S, L S → ly S) (hd : 4 ≤ d) 
  (h : ((m.1 16 10) ≤ x1 →
      (vp_in (m.1 16 11) 49) ∧ ∀ m_1 : sm_M, m_1 = sm_wI m 24 (m.1 16 11).toNatClampNeg (m.1 16 15) →
      gX2_walkAll_117 E L d vs 96 m_1 Q) ∧
   (¬ (m.1 16 10) ≤ x1 →
      (vp_in x1 24) ∧ ((m.1 22 x1.toNatClampNeg) = 0 →
         gX2_walkAll_64 E L d vs x1 ((4 : Int32) * x1) 2 m Q) ∧
      (¬ (m.1 22 x1.toNatClampNeg) = 0 →
         gX2_walkAll_64 E L d vs x1 ((4 : Int32) * x1) 0 m Q))) :
  gX2_walkAll_39 E L d vs x1 m Q := by
  refine sm_iload_n (Y := mX2_walkAll) (pc := 39) 1 1 rfl rfl dX2_walkAll_39 ?_
  refine sm_aload_n (Y := mX2_walkAll) (pc := 40) 0 0 rfl rfl dX2_walkAll_40 ?_
  refine gf_RX2_43 (Y := mX2_walkAll) (pc := 41) rfl ((lk_16 hly) _) dX2_walkAll_41 ?_
  refine sm_icmp_ge (Y := mX2_walkAll) (pc := 44) 101 (by decide) dX2_walkAll_44 (fun hc => ?_) (fun hc => ?_)
  · replace h := h.1 hc
    refine sm_aload_n (Y := mX2_walkAll) (pc := 101) 0 0 rfl rfl dX2_walkAll_101 ?_
    refine gf_RX2_34 (Y := mX2_walkAll) (pc := 102) (b := 24) rfl ((lk_16 hly) _) (lf_16_7 hly _) dX2_walkAll_102 ?_
    refine sm_aload_n (Y := mX2_walkAll) (pc := 105) 0 0 rfl rfl dX2_walkAll_105 ?_
    refine gf_RX2_96 (Y := mX2_walkAll) (pc := 106) rfl ((lk_16 hly) _) dX2_walkAll_106 ?_
    refine sm_aload_n (Y := mX2_walkAll) (pc := 109) 0 0 rfl rfl dX2_walkAll_109 ?_
    refine gf_RX2_102 (Y := mX2_walkAll) (pc := 110) rfl ((lk_16 hly) _) dX2_walkAll_110 ?_
    obtain ⟨hn_2, h⟩ := h
    refine sm_iast (Y := mX2_walkAll) (pc := 113) (la_24 hly _) hn_2 dX2_walkAll_113 (fun m_1 em_1 => ?_)
    replace h := h m_1 em_1
    refine sm_bipush (Y := mX2_walkAll) (pc := 114) 96 (by decide) dX2_walkAll_114 ?_
    refine sm_istore0_n (Y := mX2_walkAll) (pc := 116) [(1, .int 96), (0, .ref (sm_B E + 16))] 1 rfl (by decide) rfl dX2_walkAll_116 ?_
    refine sm_sub [1, 0] rfl ?_
    exact h
  · replace h := h.2 hc
    refine sm_iconst (Y := mX2_walkAll) (pc := 47) 4 (by decide) dX2_walkAll_47 ?_
    refine sm_iload_n (Y := mX2_walkAll) (pc := 48) 1 1 rfl rfl dX2_walkAll_48 ?_
    refine sm_imul (Y := mX2_walkAll) (pc := 49) dX2_walkAll_49 ?_
    refine sm_aload_n (Y := mX2_walkAll) (pc := 50) 0 0 rfl rfl dX2_walkAll_50 ?_
    refine gf_RX2_28 (Y := mX2_walkAll) (pc := 51) (b := 22) rfl ((lk_16 hly) _) (lf_16_5 hly _) dX2_walkAll_51 ?_
    refine sm_iload_n (Y := mX2_walkAll) (pc := 54) 1 1 rfl rfl dX2_walkAll_54 ?_
    obtain ⟨hn_4, h⟩ := h
    refine sm_zald (Y := mX2_walkAll) (pc := 55) (la_22 hly _) hn_4 dX2_walkAll_55 ?_
    refine sm_if_eq (Y := mX2_walkAll) (pc := 56) 63 (by decide) dX2_walkAll_56 (fun hc => ?_) (fun hc => ?_)
    · replace h := h.1 hc
      refine sm_iconst (Y := mX2_walkAll) (pc := 63) 2 (by decide) dX2_walkAll_63 ?_
      exact h
    · replace h := h.2 hc
      refine sm_iconst (Y := mX2_walkAll) (pc := 59) 0 (by decide) dX2_walkAll_59 ?_
      refine sm_goto (Y := mX2_walkAll) (pc := 60) 64 (by decide) dX2_walkAll_60 ?_
      exact h
theorem dX2_walkAll_2 : decode cX2_walkAll 2 = .ok (.iload_n 1, 1) := dk_iload_n_1 (by decide +kernel)
theorem dX2_walkAll_3 : decode cX2_walkAll 3 = .ok (.sipush 192, 3) := dk_sipush 192 (b1 := 0) (b2 := 192) (by decide +kernel) (by decide +kernel) (by decide +kernel) (by decide +kernel)
theorem dX2_walkAll_6 : decode cX2_walkAll 6 = .ok (.if_icmp .ge 16, 3) := dk_if_icmp_ge 16 (b1 := 0) (b2 := 16) (by decide +kernel) (by decide +kernel) (by decide +kernel) (by decide +kernel)
theorem dX2_walkAll_22 : decode cX2_walkAll 22 = .ok (.aload_n 0, 1) := dk_aload_n_0 (by decide +kernel)
theorem dX2_walkAll_23 : decode cX2_walkAll 23 = .ok (.iconst 0, 1) := dk_iconst_0 (by decide +kernel)
theorem dX2_walkAll_24 : decode cX2_walkAll 24 = .ok (.putfield 96, 3) := dk_putfield 96 (b1 := 0) (b2 := 96) (by decide +kernel) (by decide +kernel) (by decide +kernel) (by decide +kernel)
theorem dX2_walkAll_27 : decode cX2_walkAll 27 = .ok (.aload_n 0, 1) := dk_aload_n_0 (by decide +kernel)
theorem dX2_walkAll_28 : decode cX2_walkAll 28 = .ok (.iconst 0, 1) := dk_iconst_0 (by decide +kernel)
theorem dX2_walkAll_29 : decode cX2_walkAll 29 = .ok (.putfield 99, 3) := dk_putfield 99 (b1 := 0) (b2 := 99) (by decide +kernel) (by decide +kernel) (by decide +kernel) (by decide +kernel)
theorem dX2_walkAll_32 : decode cX2_walkAll 32 = .ok (.aload_n 0, 1) := dk_aload_n_0 (by decide +kernel)
theorem dX2_walkAll_33 : decode cX2_walkAll 33 = .ok (.iconst 0, 1) := dk_iconst_0 (by decide +kernel)
theorem dX2_walkAll_34 : decode cX2_walkAll 34 = .ok (.putfield 102, 3) := dk_putfield 102 (b1 := 0) (b2 := 102) (by decide +kernel) (by decide +kernel) (by decide +kernel) (by decide +kernel)
theorem dX2_walkAll_37 : decode cX2_walkAll 37 = .ok (.iconst 0, 1) := dk_iconst_0 (by decide +kernel)
theorem dX2_walkAll_38 : decode cX2_walkAll 38 = .ok (.istore_n 1, 1) := dk_istore_n_1 (by decide +kernel)
theorem dX2_walkAll_9 : decode cX2_walkAll 9 = .ok (.aload_n 0, 1) := dk_aload_n_0 (by decide +kernel)
theorem dX2_walkAll_10 : decode cX2_walkAll 10 = .ok (.getfield 18, 3) := dk_getfield 18 (b1 := 0) (b2 := 18) (by decide +kernel) (by decide +kernel) (by decide +kernel) (by decide +kernel)
theorem dX2_walkAll_13 : decode cX2_walkAll 13 = .ok (.iload_n 1, 1) := dk_iload_n_1 (by decide +kernel)
theorem dX2_walkAll_14 : decode cX2_walkAll 14 = .ok (.iconst 0, 1) := dk_iconst_0 (by decide +kernel)
theorem dX2_walkAll_15 : decode cX2_walkAll 15 = .ok (.bastore, 1) := dk_bastore (by decide +kernel)
theorem dX2_walkAll_16 : decode cX2_walkAll 16 = .ok (.iinc 1 1, 3) := dk_iinc 1 1 (b1 := 1) (b2 := 1) (by decide +kernel) (by decide +kernel) (by decide +kernel) (by decide +kernel) (by decide +kernel)
theorem dX2_walkAll_19 : decode cX2_walkAll 19 = .ok (.goto (-17), 3) := dk_goto (-17) (b1 := 255) (b2 := 239) (by decide +kernel) (by decide +kernel) (by decide +kernel) (by decide +kernel)
set_option maxRecDepth 20000 in
theorem vX2_walkAll_2 {E : sm_E} {L : sm_S → Prop} {d : Nat} {vs : List Value} {x1 : Int32}  {m : sm_M} {Q : sm_M → Prop} (hly : ∀ S, L S → ly S) (hd : 4 ≤ d) 
  (h : (192 ≤ x1 →
      ∀ m_1 : sm_M, m_1 = sm_wI m 16 11 0 →
      ∀ m_2 : sm_M, m_2 = sm_wI m_1 16 12 0 →
      ∀ m_3 : sm_M, m_3 = sm_wI m_2 16 15 0 →
      gX2_walkAll_39 E L d vs 0 m_3 Q) ∧
   (¬ 192 ≤ x1 →
      (vp_in x1 192) ∧ ∀ m_5 : sm_M, m_5 = sm_wI m 19 x1.toNatClampNeg 0 →
      ∀ x1_7 : Int32, x1_7 = x1 + 1 →
      gX2_walkAll_2 E L d vs x1_7 m_5 Q)) :
  gX2_walkAll_2 E L d vs x1 m Q := by
  refine sm_iload_n (Y := mX2_walkAll) (pc := 2) 1 1 rfl rfl dX2_walkAll_2 ?_
  refine sm_sipush (Y := mX2_walkAll) (pc := 3) 192 (by decide) dX2_walkAll_3 ?_
  refine sm_icmp_ge (Y := mX2_walkAll) (pc := 6) 22 (by decide) dX2_walkAll_6 (fun hc => ?_) (fun hc => ?_)
  · replace h := h.1 hc
    refine sm_aload_n (Y := mX2_walkAll) (pc := 22) 0 0 rfl rfl dX2_walkAll_22 ?_
    refine sm_iconst (Y := mX2_walkAll) (pc := 23) 0 (by decide) dX2_walkAll_23 ?_
    refine pf_RX2_96 (Y := mX2_walkAll) (pc := 24) rfl ((lk_16 hly) _) dX2_walkAll_24 (fun m_1 em_1 => ?_)
    replace h := h m_1 em_1
    refine sm_aload_n (Y := mX2_walkAll) (pc := 27) 0 0 rfl rfl dX2_walkAll_27 ?_
    refine sm_iconst (Y := mX2_walkAll) (pc := 28) 0 (by decide) dX2_walkAll_28 ?_
    refine pf_RX2_99 (Y := mX2_walkAll) (pc := 29) rfl ((lk_16 hly) _) dX2_walkAll_29 (fun m_2 em_2 => ?_)
    replace h := h m_2 em_2
    refine sm_aload_n (Y := mX2_walkAll) (pc := 32) 0 0 rfl rfl dX2_walkAll_32 ?_
    refine sm_iconst (Y := mX2_walkAll) (pc := 33) 0 (by decide) dX2_walkAll_33 ?_
    refine pf_RX2_102 (Y := mX2_walkAll) (pc := 34) rfl ((lk_16 hly) _) dX2_walkAll_34 (fun m_3 em_3 => ?_)
    replace h := h m_3 em_3
    refine sm_iconst (Y := mX2_walkAll) (pc := 37) 0 (by decide) dX2_walkAll_37 ?_
    refine sm_istore0_n (Y := mX2_walkAll) (pc := 38) [(1, .int 0), (0, .ref (sm_B E + 16))] 1 rfl (by decide) rfl dX2_walkAll_38 ?_
    refine sm_sub [1, 0] rfl ?_
    exact h
  · replace h := h.2 hc
    refine sm_aload_n (Y := mX2_walkAll) (pc := 9) 0 0 rfl rfl dX2_walkAll_9 ?_
    refine gf_RX2_18 (Y := mX2_walkAll) (pc := 10) (b := 19) rfl ((lk_16 hly) _) (lf_16_2 hly _) dX2_walkAll_10 ?_
    refine sm_iload_n (Y := mX2_walkAll) (pc := 13) 1 1 rfl rfl dX2_walkAll_13 ?_
    refine sm_iconst (Y := mX2_walkAll) (pc := 14) 0 (by decide) dX2_walkAll_14 ?_
    obtain ⟨hn_6, h⟩ := h
    refine sm_zast (Y := mX2_walkAll) (pc := 15) (la_19 hly _) hn_6 (by decide) dX2_walkAll_15 (fun m_5 em_5 => ?_)
    replace h := h m_5 em_5
    refine sm_iinc (Y := mX2_walkAll) (pc := 16) (fun y => [(1, .int y), (0, .ref (sm_B E + 16))]) 1 1 rfl (by decide) (fun _ => rfl) dX2_walkAll_16 (fun x1_7 ex1_7 => ?_)
    replace h := h x1_7 ex1_7
    refine sm_goto (Y := mX2_walkAll) (pc := 19) 2 (by decide) dX2_walkAll_19 ?_
    refine sm_sub [1, 0] rfl ?_
    exact h
theorem dX2_walkAll_0 : decode cX2_walkAll 0 = .ok (.iconst 0, 1) := dk_iconst_0 (by decide +kernel)
theorem dX2_walkAll_1 : decode cX2_walkAll 1 = .ok (.istore_n 1, 1) := dk_istore_n_1 (by decide +kernel)
set_option maxRecDepth 20000 in
theorem vX2_walkAll_0 {E : sm_E} {L : sm_S → Prop} {d : Nat}   {m : sm_M} {Q : sm_M → Prop}  (hd : 4 ≤ d) 
  (h : gX2_walkAll_2 E L d ([.ref (sm_B E + 16)]) 0 m Q) :
  sm_callV E L mX2_walkAll d 0 0 [.ref (sm_B E + 16)] m Q := by
  refine sm_enter (by decide +kernel) (by simp [lg_sl, Value.category]) ?_
  refine sm_iconst (Y := mX2_walkAll) (pc := 0) 0 (by decide) dX2_walkAll_0 ?_
  refine sm_istore0_n (Y := mX2_walkAll) (pc := 1) [(1, .int 0), (0, .ref (sm_B E + 16))] 1 rfl (by decide) rfl dX2_walkAll_1 ?_
  refine sm_sub [1, 0] rfl ?_
  exact h
theorem dX2_beginAt_0 : decode cX2_beginAt 0 = .ok (.aload_n 0, 1) := dk_aload_n_0 (by decide +kernel)
theorem dX2_beginAt_1 : decode cX2_beginAt 1 = .ok (.getfield 18, 3) := dk_getfield 18 (b1 := 0) (b2 := 18) (by decide +kernel) (by decide +kernel) (by decide +kernel) (by decide +kernel)
theorem dX2_beginAt_4 : decode cX2_beginAt 4 = .ok (.iload_n 1, 1) := dk_iload_n_1 (by decide +kernel)
theorem dX2_beginAt_5 : decode cX2_beginAt 5 = .ok (.baload, 1) := dk_baload (by decide +kernel)
theorem dX2_beginAt_6 : decode cX2_beginAt 6 = .ok (.ifCond .ne 31, 3) := dk_ifCond_ne 31 (b1 := 0) (b2 := 31) (by decide +kernel) (by decide +kernel) (by decide +kernel) (by decide +kernel)
theorem dX2_beginAt_37 : decode cX2_beginAt 37 = .ok (.return_, 1) := dk_return_ (by decide +kernel)
theorem dX2_beginAt_9 : decode cX2_beginAt 9 = .ok (.aload_n 0, 1) := dk_aload_n_0 (by decide +kernel)
theorem dX2_beginAt_10 : decode cX2_beginAt 10 = .ok (.getfield 34, 3) := dk_getfield 34 (b1 := 0) (b2 := 34) (by decide +kernel) (by decide +kernel) (by decide +kernel) (by decide +kernel)
theorem dX2_beginAt_13 : decode cX2_beginAt 13 = .ok (.aload_n 0, 1) := dk_aload_n_0 (by decide +kernel)
theorem dX2_beginAt_14 : decode cX2_beginAt 14 = .ok (.getfield 96, 3) := dk_getfield 96 (b1 := 0) (b2 := 96) (by decide +kernel) (by decide +kernel) (by decide +kernel) (by decide +kernel)
theorem dX2_beginAt_17 : decode cX2_beginAt 17 = .ok (.aload_n 0, 1) := dk_aload_n_0 (by decide +kernel)
theorem dX2_beginAt_18 : decode cX2_beginAt 18 = .ok (.getfield 102, 3) := dk_getfield 102 (b1 := 0) (b2 := 102) (by decide +kernel) (by decide +kernel) (by decide +kernel) (by decide +kernel)
theorem dX2_beginAt_21 : decode cX2_beginAt 21 = .ok (.iastore, 1) := dk_iastore (by decide +kernel)
theorem dX2_beginAt_22 : decode cX2_beginAt 22 = .ok (.aload_n 0, 1) := dk_aload_n_0 (by decide +kernel)
theorem dX2_beginAt_23 : decode cX2_beginAt 23 = .ok (.iload_n 1, 1) := dk_iload_n_1 (by decide +kernel)
theorem dX2_beginAt_24 : decode cX2_beginAt 24 = .ok (.invokevirtual 108, 3) := dk_invokevirtual 108 (b1 := 0) (b2 := 108) (by decide +kernel) (by decide +kernel) (by decide +kernel) (by decide +kernel)
theorem dX2_beginAt_27 : decode cX2_beginAt 27 = .ok (.aload_n 0, 1) := dk_aload_n_0 (by decide +kernel)
theorem dX2_beginAt_28 : decode cX2_beginAt 28 = .ok (.dup, 1) := dk_dup (by decide +kernel)
theorem dX2_beginAt_29 : decode cX2_beginAt 29 = .ok (.getfield 96, 3) := dk_getfield 96 (b1 := 0) (b2 := 96) (by decide +kernel) (by decide +kernel) (by decide +kernel) (by decide +kernel)
theorem dX2_beginAt_32 : decode cX2_beginAt 32 = .ok (.iconst 1, 1) := dk_iconst_1 (by decide +kernel)
theorem dX2_beginAt_33 : decode cX2_beginAt 33 = .ok (.iadd, 1) := dk_iadd (by decide +kernel)
theorem dX2_beginAt_34 : decode cX2_beginAt 34 = .ok (.putfield 96, 3) := dk_putfield 96 (b1 := 0) (b2 := 96) (by decide +kernel) (by decide +kernel) (by decide +kernel) (by decide +kernel)
set_option maxRecDepth 20000 in
theorem vX2_beginAt_0 {E : sm_E} {L : sm_S → Prop} {d : Nat} {x1 : Int32}  {m : sm_M} {Q : sm_M → Prop} (hly : ∀ S, L S → ly S) (hd : 3 ≤ d) 
  (h : (vp_in x1 192) ∧ (¬ (m.1 19 x1.toNatClampNeg) = 0 →
      Q m) ∧
   ((m.1 19 x1.toNatClampNeg) = 0 →
      (vp_in (m.1 16 11) 49) ∧ ∀ m_2 : sm_M, m_2 = sm_wI m 24 (m.1 16 11).toNatClampNeg (m.1 16 15) →
      sm_callV E L mX2_walk 2 0 0 [.ref (sm_B E + 16), .int x1] m_2 (fun m_4 =>
      ∀ m_5 : sm_M, m_5 = sm_wI m_4 16 11 ((m_4.1 16 11) + 1) →
      Q m_5))) :
  sm_callV E L mX2_beginAt d 0 0 [.ref (sm_B E + 16), .int x1] m Q := by
  refine sm_enter (by decide +kernel) (by simp [lg_sl, Value.category]) ?_
  refine sm_aload_n (Y := mX2_beginAt) (pc := 0) 0 0 rfl rfl dX2_beginAt_0 ?_
  refine gf_RX2_18 (Y := mX2_beginAt) (pc := 1) (b := 19) rfl ((lk_16 hly) _) (lf_16_2 hly _) dX2_beginAt_1 ?_
  refine sm_iload_n (Y := mX2_beginAt) (pc := 4) 1 1 rfl rfl dX2_beginAt_4 ?_
  obtain ⟨hn_1, h⟩ := h
  refine sm_zald (Y := mX2_beginAt) (pc := 5) (la_19 hly _) hn_1 dX2_beginAt_5 ?_
  refine sm_if_ne (Y := mX2_beginAt) (pc := 6) 37 (by decide) dX2_beginAt_6 (fun hc => ?_) (fun hc => ?_)
  · replace h := h.1 hc
    exact sm_vret (Y := mX2_beginAt) (pc := 37) rfl rfl rfl dX2_beginAt_37 ⟨rfl, h⟩
  · replace h := h.2 hc
    refine sm_aload_n (Y := mX2_beginAt) (pc := 9) 0 0 rfl rfl dX2_beginAt_9 ?_
    refine gf_RX2_34 (Y := mX2_beginAt) (pc := 10) (b := 24) rfl ((lk_16 hly) _) (lf_16_7 hly _) dX2_beginAt_10 ?_
    refine sm_aload_n (Y := mX2_beginAt) (pc := 13) 0 0 rfl rfl dX2_beginAt_13 ?_
    refine gf_RX2_96 (Y := mX2_beginAt) (pc := 14) rfl ((lk_16 hly) _) dX2_beginAt_14 ?_
    refine sm_aload_n (Y := mX2_beginAt) (pc := 17) 0 0 rfl rfl dX2_beginAt_17 ?_
    refine gf_RX2_102 (Y := mX2_beginAt) (pc := 18) rfl ((lk_16 hly) _) dX2_beginAt_18 ?_
    obtain ⟨hn_3, h⟩ := h
    refine sm_iast (Y := mX2_beginAt) (pc := 21) (la_24 hly _) hn_3 dX2_beginAt_21 (fun m_2 em_2 => ?_)
    replace h := h m_2 em_2
    refine sm_aload_n (Y := mX2_beginAt) (pc := 22) 0 0 rfl rfl dX2_beginAt_22 ?_
    refine sm_iload_n (Y := mX2_beginAt) (pc := 23) 1 1 rfl rfl dX2_beginAt_23 ?_
    refine sm_iv_V (Y := mX2_beginAt) (pc := 24) (As := [.int x1]) (a := 16) fX2_walk wRX2_108 (lk_16 hly) (by decide) rfl rfl rfl (Nat.le_trans (by decide) hd) (Nat.le_of_ble_eq_true rfl) ⟨Nat.le_refl _, Nat.le_refl _⟩ dX2_beginAt_24 rfl (sm_monoV h (fun m_4 h => ?_))
    refine sm_aload_n (Y := mX2_beginAt) (pc := 27) 0 0 rfl rfl dX2_beginAt_27 ?_
    refine sm_dup (Y := mX2_beginAt) (pc := 28) rfl dX2_beginAt_28 ?_
    refine gf_RX2_96 (Y := mX2_beginAt) (pc := 29) rfl ((lk_16 hly) _) dX2_beginAt_29 ?_
    refine sm_iconst (Y := mX2_beginAt) (pc := 32) 1 (by decide) dX2_beginAt_32 ?_
    refine sm_iadd (Y := mX2_beginAt) (pc := 33) dX2_beginAt_33 ?_
    refine pf_RX2_96 (Y := mX2_beginAt) (pc := 34) rfl ((lk_16 hly) _) dX2_beginAt_34 (fun m_5 em_5 => ?_)
    replace h := h m_5 em_5
    exact sm_vret (Y := mX2_beginAt) (pc := 37) rfl rfl rfl dX2_beginAt_37 ⟨rfl, h⟩
def gX2_walk_54 (E : sm_E) (L : sm_S → Prop) (d : Nat) (vs : List Value) (x1 : Int32) (x3 : Int32) (x4 : Int32) (m : sm_M) (Q : sm_M → Prop) : Prop := sm_go E L mX2_walk d 0 0 vs 54 [(0, .ref (sm_B E + 16)), (1, .int x1), (3, .int x3), (4, .int x4)] [] m 0 0 (sm_Z E L vs 0 0 (sm_QV Q))
def gX2_walk_4 (E : sm_E) (L : sm_S → Prop) (d : Nat) (vs : List Value) (x1 : Int32) (x2 : Int32) (x3 : Int32) (m : sm_M) (Q : sm_M → Prop) : Prop := sm_go E L mX2_walk d 0 0 vs 4 [(0, .ref (sm_B E + 16)), (1, .int x1), (2, .int x2), (3, .int x3)] [] m 0 0 (sm_Z E L vs 0 0 (sm_QV Q))
theorem dX2_walk_54 : decode cX2_walk 54 = .ok (.aload_n 0, 1) := dk_aload_n_0 (by decide +kernel)
theorem dX2_walk_55 : decode cX2_walk 55 = .ok (.getfield 15, 3) := dk_getfield 15 (b1 := 0) (b2 := 15) (by decide +kernel) (by decide +kernel) (by decide +kernel) (by decide +kernel)
theorem dX2_walk_58 : decode cX2_walk 58 = .ok (.iload 4, 2) := dk_iload 4 (b := 4) (by decide +kernel) (by decide +kernel) (by decide +kernel)
theorem dX2_walk_60 : decode cX2_walk 60 = .ok (.iaload, 1) := dk_iaload (by decide +kernel)
theorem dX2_walk_61 : decode cX2_walk 61 = .ok (.istore_n 2, 1) := dk_istore_n_2 (by decide +kernel)
theorem dX2_walk_62 : decode cX2_walk 62 = .ok (.iload_n 2, 1) := dk_iload_n_2 (by decide +kernel)
theorem dX2_walk_63 : decode cX2_walk 63 = .ok (.iload_n 1, 1) := dk_iload_n_1 (by decide +kernel)
theorem dX2_walk_64 : decode cX2_walk 64 = .ok (.if_icmp .ne 6, 3) := dk_if_icmp_ne 6 (b1 := 0) (b2 := 6) (by decide +kernel) (by decide +kernel) (by decide +kernel) (by decide +kernel)
theorem dX2_walk_70 : decode cX2_walk 70 = .ok (.iinc 3 1, 3) := dk_iinc 3 1 (b1 := 3) (b2 := 1) (by decide +kernel) (by decide +kernel) (by decide +kernel) (by decide +kernel) (by decide +kernel)
theorem dX2_walk_73 : decode cX2_walk 73 = .ok (.goto (-69), 3) := dk_goto (-69) (b1 := 255) (b2 := 187) (by decide +kernel) (by decide +kernel) (by decide +kernel) (by decide +kernel)
theorem dX2_walk_67 : decode cX2_walk 67 = .ok (.goto 9, 3) := dk_goto 9 (b1 := 0) (b2 := 9) (by decide +kernel) (by decide +kernel) (by decide +kernel) (by decide +kernel)
theorem dX2_walk_76 : decode cX2_walk 76 = .ok (.return_, 1) := dk_return_ (by decide +kernel)
set_option maxRecDepth 20000 in
theorem vX2_walk_54 {E : sm_E} {L : sm_S → Prop} {d : Nat} {vs : List Value} {x1 : Int32} {x3 : Int32} {x4 : Int32}  {m : sm_M} {Q : sm_M → Prop} (hly : ∀ S, L S → ly S) (hd : 2 ≤ d) 
  (h : (vp_in x4 192) ∧ ∀ x2_2 : Int32, x2_2 = m.1 18 x4.toNatClampNeg →
   (¬ x2_2 = x1 →
      ∀ x3_3 : Int32, x3_3 = x3 + 1 →
      gX2_walk_4 E L d vs x1 x2_2 x3_3 m Q) ∧
   (x2_2 = x1 →
      Q m)) :
  gX2_walk_54 E L d vs x1 x3 x4 m Q := by
  refine sm_aload_n (Y := mX2_walk) (pc := 54) 0 0 rfl rfl dX2_walk_54 ?_
  refine gf_RX2_15 (Y := mX2_walk) (pc := 55) (b := 18) rfl ((lk_16 hly) _) (lf_16_1 hly _) dX2_walk_55 ?_
  refine sm_iload (Y := mX2_walk) (pc := 58) 3 4 rfl dX2_walk_58 ?_
  obtain ⟨hn_1, h⟩ := h
  refine sm_iald (Y := mX2_walk) (pc := 60) (la_18 hly _) hn_1 dX2_walk_60 ?_
  refine sm_istore_n (Y := mX2_walk) (pc := 61) (fun y => [(2, .int y), (0, .ref (sm_B E + 16)), (1, .int x1), (3, .int x3), (4, .int x4)]) 2 rfl (by decide) (fun _ => rfl) dX2_walk_61 (fun x2_2 ex2_2 => ?_)
  replace h := h x2_2 ex2_2
  refine sm_iload_n (Y := mX2_walk) (pc := 62) 0 2 rfl rfl dX2_walk_62 ?_
  refine sm_iload_n (Y := mX2_walk) (pc := 63) 2 1 rfl rfl dX2_walk_63 ?_
  refine sm_icmp_ne (Y := mX2_walk) (pc := 64) 70 (by decide) dX2_walk_64 (fun hc => ?_) (fun hc => ?_)
  · replace h := h.1 hc
    refine sm_iinc (Y := mX2_walk) (pc := 70) (fun y => [(3, .int y), (2, .int x2_2), (0, .ref (sm_B E + 16)), (1, .int x1), (4, .int x4)]) 3 3 rfl (by decide) (fun _ => rfl) dX2_walk_70 (fun x3_3 ex3_3 => ?_)
    replace h := h x3_3 ex3_3
    refine sm_goto (Y := mX2_walk) (pc := 73) 4 (by decide) dX2_walk_73 ?_
    refine sm_sub [2, 3, 1, 0] rfl ?_
    exact h
  · replace h := h.2 hc
    refine sm_goto (Y := mX2_walk) (pc := 67) 76 (by decide) dX2_walk_67 ?_
    exact sm_vret (Y := mX2_walk) (pc := 76) rfl rfl rfl dX2_walk_76 ⟨rfl, h⟩
theorem dX2_walk_4 : decode cX2_walk 4 = .ok (.iload_n 3, 1) := dk_iload_n_3 (by decide +kernel)
theorem dX2_walk_5 : decode cX2_walk 5 = .ok (.sipush 192, 3) := dk_sipush 192 (b1 := 0) (b2 := 192) (by decide +kernel) (by decide +kernel) (by decide +kernel) (by decide +kernel)
theorem dX2_walk_8 : decode cX2_walk 8 = .ok (.if_icmp .ge 68, 3) := dk_if_icmp_ge 68 (b1 := 0) (b2 := 68) (by decide +kernel) (by decide +kernel) (by decide +kernel) (by decide +kernel)
theorem dX2_walk_11 : decode cX2_walk 11 = .ok (.iload_n 2, 1) := dk_iload_n_2 (by decide +kernel)
theorem dX2_walk_12 : decode cX2_walk 12 = .ok (.aload_n 0, 1) := dk_aload_n_0 (by decide +kernel)
theorem dX2_walk_13 : decode cX2_walk 13 = .ok (.getfield 11, 3) := dk_getfield 11 (b1 := 0) (b2 := 11) (by decide +kernel) (by decide +kernel) (by decide +kernel) (by decide +kernel)
theorem dX2_walk_16 : decode cX2_walk 16 = .ok (.iload_n 2, 1) := dk_iload_n_2 (by decide +kernel)
theorem dX2_walk_17 : decode cX2_walk 17 = .ok (.iconst 4, 1) := dk_iconst_4 (by decide +kernel)
theorem dX2_walk_18 : decode cX2_walk 18 = .ok (.idiv, 1) := dk_idiv (by decide +kernel)
theorem dX2_walk_19 : decode cX2_walk 19 = .ok (.iaload, 1) := dk_iaload (by decide +kernel)
theorem dX2_walk_20 : decode cX2_walk 20 = .ok (.ixor, 1) := dk_ixor (by decide +kernel)
theorem dX2_walk_21 : decode cX2_walk 21 = .ok (.istore 4, 2) := dk_istore 4 (b := 4) (by decide +kernel) (by decide +kernel) (by decide +kernel)
theorem dX2_walk_23 : decode cX2_walk 23 = .ok (.aload_n 0, 1) := dk_aload_n_0 (by decide +kernel)
theorem dX2_walk_24 : decode cX2_walk 24 = .ok (.getfield 18, 3) := dk_getfield 18 (b1 := 0) (b2 := 18) (by decide +kernel) (by decide +kernel) (by decide +kernel) (by decide +kernel)
theorem dX2_walk_27 : decode cX2_walk 27 = .ok (.iload_n 2, 1) := dk_iload_n_2 (by decide +kernel)
theorem dX2_walk_28 : decode cX2_walk 28 = .ok (.iconst 1, 1) := dk_iconst_1 (by decide +kernel)
theorem dX2_walk_29 : decode cX2_walk 29 = .ok (.bastore, 1) := dk_bastore (by decide +kernel)
theorem dX2_walk_30 : decode cX2_walk 30 = .ok (.aload_n 0, 1) := dk_aload_n_0 (by decide +kernel)
theorem dX2_walk_31 : decode cX2_walk 31 = .ok (.getfield 18, 3) := dk_getfield 18 (b1 := 0) (b2 := 18) (by decide +kernel) (by decide +kernel) (by decide +kernel) (by decide +kernel)
theorem dX2_walk_34 : decode cX2_walk 34 = .ok (.iload 4, 2) := dk_iload 4 (b := 4) (by decide +kernel) (by decide +kernel) (by decide +kernel)
theorem dX2_walk_36 : decode cX2_walk 36 = .ok (.iconst 1, 1) := dk_iconst_1 (by decide +kernel)
theorem dX2_walk_37 : decode cX2_walk 37 = .ok (.bastore, 1) := dk_bastore (by decide +kernel)
theorem dX2_walk_38 : decode cX2_walk 38 = .ok (.iload_n 2, 1) := dk_iload_n_2 (by decide +kernel)
theorem dX2_walk_39 : decode cX2_walk 39 = .ok (.bipush 96, 2) := dk_bipush 96 (b := 96) (by decide +kernel) (by decide +kernel) (by decide +kernel)
theorem dX2_walk_41 : decode cX2_walk 41 = .ok (.if_icmp .ge 13, 3) := dk_if_icmp_ge 13 (b1 := 0) (b2 := 13) (by decide +kernel) (by decide +kernel) (by decide +kernel) (by decide +kernel)
theorem dX2_walk_44 : decode cX2_walk 44 = .ok (.aload_n 0, 1) := dk_aload_n_0 (by decide +kernel)
theorem dX2_walk_45 : decode cX2_walk 45 = .ok (.iload_n 2, 1) := dk_iload_n_2 (by decide +kernel)
theorem dX2_walk_46 : decode cX2_walk 46 = .ok (.iconst 4, 1) := dk_iconst_4 (by decide +kernel)
theorem dX2_walk_47 : decode cX2_walk 47 = .ok (.idiv, 1) := dk_idiv (by decide +kernel)
theorem dX2_walk_48 : decode cX2_walk 48 = .ok (.iload_n 2, 1) := dk_iload_n_2 (by decide +kernel)
theorem dX2_walk_49 : decode cX2_walk 49 = .ok (.iconst 4, 1) := dk_iconst_4 (by decide +kernel)
theorem dX2_walk_50 : decode cX2_walk 50 = .ok (.irem, 1) := dk_irem (by decide +kernel)
theorem wRX2_111 : Cond.methodLink RX2 111 yX2_notePass ∈ sm_T := sm_in 775 (by decide +kernel) (by decide +kernel)
abbrev mX2_notePass : sm_Y := (yX2_notePass, cX2_notePass, 5, none)
theorem fX2_notePass : sm_mi mX2_notePass RX2 2 := ⟨sm_in 778 (by decide +kernel) (by decide +kernel), sm_in 777 (by decide +kernel) (by decide +kernel), sm_in 26 (by decide +kernel) (by decide +kernel), sm_in 87 (by decide +kernel) (by decide +kernel), rfl, ⟨by decide +kernel, by decide +kernel, by decide +kernel⟩, by decide⟩
theorem dX2_walk_51 : decode cX2_walk 51 = .ok (.invokevirtual 111, 3) := dk_invokevirtual 111 (b1 := 0) (b2 := 111) (by decide +kernel) (by decide +kernel) (by decide +kernel) (by decide +kernel)
set_option maxRecDepth 20000 in
theorem vX2_walk_4 {E : sm_E} {L : sm_S → Prop} {d : Nat} {vs : List Value} {x1 : Int32} {x2 : Int32} {x3 : Int32}  {m : sm_M} {Q : sm_M → Prop} (hly : ∀ S, L S → ly S) (hd : 2 ≤ d) 
  (h : (192 ≤ x3 →
      Q m) ∧
   (¬ 192 ≤ x3 →
      (vp_in (x2 / 4) 48) ∧ ∀ x4_2 : Int32, x4_2 = x2 ^^^ (m.1 17 (x2 / 4).toNatClampNeg) →
      (vp_in x2 192) ∧ ∀ m_3 : sm_M, m_3 = sm_wI m 19 x2.toNatClampNeg 1 →
      (vp_in x4_2 192) ∧ ∀ m_5 : sm_M, m_5 = sm_wI m_3 19 x4_2.toNatClampNeg 1 →
      (96 ≤ x2 →
         gX2_walk_54 E L d vs x1 x3 x4_2 m_5 Q) ∧
      (¬ 96 ≤ x2 →
         sm_callV E L mX2_notePass 1 0 0 [.ref (sm_B E + 16), .int (x2 / 4), .int (sm_rem x2 4)] m_5 (fun m_7 =>
         gX2_walk_54 E L d vs x1 x3 x4_2 m_7 Q)))) :
  gX2_walk_4 E L d vs x1 x2 x3 m Q := by
  refine sm_iload_n (Y := mX2_walk) (pc := 4) 3 3 rfl rfl dX2_walk_4 ?_
  refine sm_sipush (Y := mX2_walk) (pc := 5) 192 (by decide) dX2_walk_5 ?_
  refine sm_icmp_ge (Y := mX2_walk) (pc := 8) 76 (by decide) dX2_walk_8 (fun hc => ?_) (fun hc => ?_)
  · replace h := h.1 hc
    exact sm_vret (Y := mX2_walk) (pc := 76) rfl rfl rfl dX2_walk_76 ⟨rfl, h⟩
  · replace h := h.2 hc
    refine sm_iload_n (Y := mX2_walk) (pc := 11) 2 2 rfl rfl dX2_walk_11 ?_
    refine sm_aload_n (Y := mX2_walk) (pc := 12) 0 0 rfl rfl dX2_walk_12 ?_
    refine gf_RX2_11 (Y := mX2_walk) (pc := 13) (b := 17) rfl ((lk_16 hly) _) (lf_16_0 hly _) dX2_walk_13 ?_
    refine sm_iload_n (Y := mX2_walk) (pc := 16) 2 2 rfl rfl dX2_walk_16 ?_
    refine sm_iconst (Y := mX2_walk) (pc := 17) 4 (by decide) dX2_walk_17 ?_
    refine sm_idiv (Y := mX2_walk) (pc := 18) (by decide) dX2_walk_18 ?_
    obtain ⟨hn_1, h⟩ := h
    refine sm_iald (Y := mX2_walk) (pc := 19) (la_17 hly _) hn_1 dX2_walk_19 ?_
    refine sm_ixor (Y := mX2_walk) (pc := 20) dX2_walk_20 ?_
    refine sm_istore (Y := mX2_walk) (pc := 21) (fun y => [(4, .int y), (0, .ref (sm_B E + 16)), (1, .int x1), (2, .int x2), (3, .int x3)]) 4 (by decide) (fun _ => rfl) dX2_walk_21 (fun x4_2 ex4_2 => ?_)
    replace h := h x4_2 ex4_2
    refine sm_aload_n (Y := mX2_walk) (pc := 23) 1 0 rfl rfl dX2_walk_23 ?_
    refine gf_RX2_18 (Y := mX2_walk) (pc := 24) (b := 19) rfl ((lk_16 hly) _) (lf_16_2 hly _) dX2_walk_24 ?_
    refine sm_iload_n (Y := mX2_walk) (pc := 27) 3 2 rfl rfl dX2_walk_27 ?_
    refine sm_iconst (Y := mX2_walk) (pc := 28) 1 (by decide) dX2_walk_28 ?_
    obtain ⟨hn_4, h⟩ := h
    refine sm_zast (Y := mX2_walk) (pc := 29) (la_19 hly _) hn_4 (by decide) dX2_walk_29 (fun m_3 em_3 => ?_)
    replace h := h m_3 em_3
    refine sm_aload_n (Y := mX2_walk) (pc := 30) 1 0 rfl rfl dX2_walk_30 ?_
    refine gf_RX2_18 (Y := mX2_walk) (pc := 31) (b := 19) rfl ((lk_16 hly) _) (lf_16_2 hly _) dX2_walk_31 ?_
    refine sm_iload (Y := mX2_walk) (pc := 34) 0 4 rfl dX2_walk_34 ?_
    refine sm_iconst (Y := mX2_walk) (pc := 36) 1 (by decide) dX2_walk_36 ?_
    obtain ⟨hn_6, h⟩ := h
    refine sm_zast (Y := mX2_walk) (pc := 37) (la_19 hly _) hn_6 (by decide) dX2_walk_37 (fun m_5 em_5 => ?_)
    replace h := h m_5 em_5
    refine sm_iload_n (Y := mX2_walk) (pc := 38) 3 2 rfl rfl dX2_walk_38 ?_
    refine sm_bipush (Y := mX2_walk) (pc := 39) 96 (by decide) dX2_walk_39 ?_
    refine sm_icmp_ge (Y := mX2_walk) (pc := 41) 54 (by decide) dX2_walk_41 (fun hc => ?_) (fun hc => ?_)
    · replace h := h.1 hc
      refine sm_sub [1, 2, 4, 0] rfl ?_
      exact h
    · replace h := h.2 hc
      refine sm_aload_n (Y := mX2_walk) (pc := 44) 1 0 rfl rfl dX2_walk_44 ?_
      refine sm_iload_n (Y := mX2_walk) (pc := 45) 3 2 rfl rfl dX2_walk_45 ?_
      refine sm_iconst (Y := mX2_walk) (pc := 46) 4 (by decide) dX2_walk_46 ?_
      refine sm_idiv (Y := mX2_walk) (pc := 47) (by decide) dX2_walk_47 ?_
      refine sm_iload_n (Y := mX2_walk) (pc := 48) 3 2 rfl rfl dX2_walk_48 ?_
      refine sm_iconst (Y := mX2_walk) (pc := 49) 4 (by decide) dX2_walk_49 ?_
      refine sm_irem (Y := mX2_walk) (pc := 50) (by decide) dX2_walk_50 ?_
      refine sm_iv_V (Y := mX2_walk) (pc := 51) (As := [.int (x2 / 4), .int (sm_rem x2 4)]) (a := 16) fX2_notePass wRX2_111 (lk_16 hly) (by decide) rfl rfl rfl (Nat.le_trans (by decide) hd) (Nat.le_of_ble_eq_true rfl) ⟨Nat.le_refl _, Nat.le_refl _⟩ dX2_walk_51 rfl (sm_monoV h (fun m_7 h => ?_))
      refine sm_sub [1, 2, 4, 0] rfl ?_
      exact h
theorem dX2_walk_0 : decode cX2_walk 0 = .ok (.iload_n 1, 1) := dk_iload_n_1 (by decide +kernel)
theorem dX2_walk_1 : decode cX2_walk 1 = .ok (.istore_n 2, 1) := dk_istore_n_2 (by decide +kernel)
theorem dX2_walk_2 : decode cX2_walk 2 = .ok (.iconst 0, 1) := dk_iconst_0 (by decide +kernel)
theorem dX2_walk_3 : decode cX2_walk 3 = .ok (.istore_n 3, 1) := dk_istore_n_3 (by decide +kernel)
set_option maxRecDepth 20000 in
theorem vX2_walk_0 {E : sm_E} {L : sm_S → Prop} {d : Nat} {x1 : Int32}  {m : sm_M} {Q : sm_M → Prop}  (hd : 2 ≤ d) 
  (h : gX2_walk_4 E L d ([.ref (sm_B E + 16), .int x1]) x1 x1 0 m Q) :
  sm_callV E L mX2_walk d 0 0 [.ref (sm_B E + 16), .int x1] m Q := by
  refine sm_enter (by decide +kernel) (by simp [lg_sl, Value.category]) ?_
  refine sm_iload_n (Y := mX2_walk) (pc := 0) 1 1 rfl rfl dX2_walk_0 ?_
  refine sm_istore0_n (Y := mX2_walk) (pc := 1) [(2, .int x1), (0, .ref (sm_B E + 16)), (1, .int x1)] 2 rfl (by decide) rfl dX2_walk_1 ?_
  refine sm_iconst (Y := mX2_walk) (pc := 2) 0 (by decide) dX2_walk_2 ?_
  refine sm_istore0_n (Y := mX2_walk) (pc := 3) [(3, .int 0), (2, .int x1), (0, .ref (sm_B E + 16)), (1, .int x1)] 3 rfl (by decide) rfl dX2_walk_3 ?_
  refine sm_sub [2, 3, 1, 0] rfl ?_
  exact h
def gX2_notePass_67 (E : sm_E) (L : sm_S → Prop) (d : Nat) (vs : List Value) (x4 : Int32) (s1 : Int32) (s2 : Int32) (m : sm_M) (Q : sm_M → Prop) : Prop := sm_go E L mX2_notePass d 0 0 vs 67 [(0, .ref (sm_B E + 16)), (4, .int x4)] [.int s2, .int s1, .ref (sm_B E + 26)] m 0 0 (sm_Z E L vs 0 0 (sm_QV Q))
def gX2_notePass_33 (E : sm_E) (L : sm_S → Prop) (d : Nat) (vs : List Value) (x2 : Int32) (s0 : Int32) (s1 : Int32) (m : sm_M) (Q : sm_M → Prop) : Prop := sm_go E L mX2_notePass d 0 0 vs 33 [(0, .ref (sm_B E + 16)), (2, .int x2)] [.int s1, .int s0] m 0 0 (sm_Z E L vs 0 0 (sm_QV Q))
def gX2_notePass_14 (E : sm_E) (L : sm_S → Prop) (d : Nat) (vs : List Value) (x1 : Int32) (x2 : Int32) (s0 : Int32) (m : sm_M) (Q : sm_M → Prop) : Prop := sm_go E L mX2_notePass d 0 0 vs 14 [(0, .ref (sm_B E + 16)), (1, .int x1), (2, .int x2)] [.int s0] m 0 0 (sm_Z E L vs 0 0 (sm_QV Q))
theorem dX2_notePass_67 : decode cX2_notePass 67 = .ok (.bastore, 1) := dk_bastore (by decide +kernel)
theorem dX2_notePass_68 : decode cX2_notePass 68 = .ok (.aload_n 0, 1) := dk_aload_n_0 (by decide +kernel)
theorem dX2_notePass_69 : decode cX2_notePass 69 = .ok (.getfield 102, 3) := dk_getfield 102 (b1 := 0) (b2 := 102) (by decide +kernel) (by decide +kernel) (by decide +kernel) (by decide +kernel)
theorem dX2_notePass_72 : decode cX2_notePass 72 = .ok (.aload_n 0, 1) := dk_aload_n_0 (by decide +kernel)
theorem dX2_notePass_73 : decode cX2_notePass 73 = .ok (.getfield 31, 3) := dk_getfield 31 (b1 := 0) (b2 := 31) (by decide +kernel) (by decide +kernel) (by decide +kernel) (by decide +kernel)
theorem dX2_notePass_76 : decode cX2_notePass 76 = .ok (.arraylength, 1) := dk_arraylength (by decide +kernel)
theorem dX2_notePass_77 : decode cX2_notePass 77 = .ok (.if_icmp .ge 24, 3) := dk_if_icmp_ge 24 (b1 := 0) (b2 := 24) (by decide +kernel) (by decide +kernel) (by decide +kernel) (by decide +kernel)
theorem dX2_notePass_101 : decode cX2_notePass 101 = .ok (.return_, 1) := dk_return_ (by decide +kernel)
theorem dX2_notePass_80 : decode cX2_notePass 80 = .ok (.aload_n 0, 1) := dk_aload_n_0 (by decide +kernel)
theorem dX2_notePass_81 : decode cX2_notePass 81 = .ok (.getfield 31, 3) := dk_getfield 31 (b1 := 0) (b2 := 31) (by decide +kernel) (by decide +kernel) (by decide +kernel) (by decide +kernel)
theorem dX2_notePass_84 : decode cX2_notePass 84 = .ok (.aload_n 0, 1) := dk_aload_n_0 (by decide +kernel)
theorem dX2_notePass_85 : decode cX2_notePass 85 = .ok (.getfield 102, 3) := dk_getfield 102 (b1 := 0) (b2 := 102) (by decide +kernel) (by decide +kernel) (by decide +kernel) (by decide +kernel)
theorem dX2_notePass_88 : decode cX2_notePass 88 = .ok (.iload 4, 2) := dk_iload 4 (b := 4) (by decide +kernel) (by decide +kernel) (by decide +kernel)
theorem dX2_notePass_90 : decode cX2_notePass 90 = .ok (.iastore, 1) := dk_iastore (by decide +kernel)
theorem dX2_notePass_91 : decode cX2_notePass 91 = .ok (.aload_n 0, 1) := dk_aload_n_0 (by decide +kernel)
theorem dX2_notePass_92 : decode cX2_notePass 92 = .ok (.dup, 1) := dk_dup (by decide +kernel)
theorem dX2_notePass_93 : decode cX2_notePass 93 = .ok (.getfield 102, 3) := dk_getfield 102 (b1 := 0) (b2 := 102) (by decide +kernel) (by decide +kernel) (by decide +kernel) (by decide +kernel)
theorem dX2_notePass_96 : decode cX2_notePass 96 = .ok (.iconst 1, 1) := dk_iconst_1 (by decide +kernel)
theorem dX2_notePass_97 : decode cX2_notePass 97 = .ok (.iadd, 1) := dk_iadd (by decide +kernel)
theorem dX2_notePass_98 : decode cX2_notePass 98 = .ok (.putfield 102, 3) := dk_putfield 102 (b1 := 0) (b2 := 102) (by decide +kernel) (by decide +kernel) (by decide +kernel) (by decide +kernel)
set_option maxRecDepth 20000 in
theorem vX2_notePass_67 {E : sm_E} {L : sm_S → Prop} {d : Nat} {vs : List Value} {x4 : Int32} {s1 : Int32} {s2 : Int32}  {m : sm_M} {Q : sm_M → Prop} (hly : ∀ S, L S → ly S) (hd : 1 ≤ d) 
  (h : (vp_in s1 48) ∧ (s2 = 0 ∨ s2 = 1) ∧ ∀ m_1 : sm_M, m_1 = sm_wI m 26 s1.toNatClampNeg s2 →
   ((nI 48) ≤ (m_1.1 16 15) →
      Q m_1) ∧
   (¬ (nI 48) ≤ (m_1.1 16 15) →
      (vp_in (m_1.1 16 15) 48) ∧ ∀ m_4 : sm_M, m_4 = sm_wI m_1 23 (m_1.1 16 15).toNatClampNeg x4 →
      ∀ m_6 : sm_M, m_6 = sm_wI m_4 16 15 ((m_4.1 16 15) + 1) →
      Q m_6)) :
  gX2_notePass_67 E L d vs x4 s1 s2 m Q := by
  obtain ⟨hn_2, h⟩ := h
  obtain ⟨hn_3, h⟩ := h
  refine sm_zast (Y := mX2_notePass) (pc := 67) (la_26 hly _) hn_2 hn_3 dX2_notePass_67 (fun m_1 em_1 => ?_)
  replace h := h m_1 em_1
  refine sm_aload_n (Y := mX2_notePass) (pc := 68) 0 0 rfl rfl dX2_notePass_68 ?_
  refine gf_RX2_102 (Y := mX2_notePass) (pc := 69) rfl ((lk_16 hly) _) dX2_notePass_69 ?_
  refine sm_aload_n (Y := mX2_notePass) (pc := 72) 0 0 rfl rfl dX2_notePass_72 ?_
  refine gf_RX2_31 (Y := mX2_notePass) (pc := 73) (b := 23) rfl ((lk_16 hly) _) (lf_16_6 hly _) dX2_notePass_73 ?_
  refine sm_alenI (Y := mX2_notePass) (pc := 76) (la_23 hly _) dX2_notePass_76 ?_
  refine sm_icmp_ge (Y := mX2_notePass) (pc := 77) 101 (by decide) dX2_notePass_77 (fun hc => ?_) (fun hc => ?_)
  · replace h := h.1 hc
    exact sm_vret (Y := mX2_notePass) (pc := 101) rfl rfl rfl dX2_notePass_101 ⟨rfl, h⟩
  · replace h := h.2 hc
    refine sm_aload_n (Y := mX2_notePass) (pc := 80) 0 0 rfl rfl dX2_notePass_80 ?_
    refine gf_RX2_31 (Y := mX2_notePass) (pc := 81) (b := 23) rfl ((lk_16 hly) _) (lf_16_6 hly _) dX2_notePass_81 ?_
    refine sm_aload_n (Y := mX2_notePass) (pc := 84) 0 0 rfl rfl dX2_notePass_84 ?_
    refine gf_RX2_102 (Y := mX2_notePass) (pc := 85) rfl ((lk_16 hly) _) dX2_notePass_85 ?_
    refine sm_iload (Y := mX2_notePass) (pc := 88) 1 4 rfl dX2_notePass_88 ?_
    obtain ⟨hn_5, h⟩ := h
    refine sm_iast (Y := mX2_notePass) (pc := 90) (la_23 hly _) hn_5 dX2_notePass_90 (fun m_4 em_4 => ?_)
    replace h := h m_4 em_4
    refine sm_aload_n (Y := mX2_notePass) (pc := 91) 0 0 rfl rfl dX2_notePass_91 ?_
    refine sm_dup (Y := mX2_notePass) (pc := 92) rfl dX2_notePass_92 ?_
    refine gf_RX2_102 (Y := mX2_notePass) (pc := 93) rfl ((lk_16 hly) _) dX2_notePass_93 ?_
    refine sm_iconst (Y := mX2_notePass) (pc := 96) 1 (by decide) dX2_notePass_96 ?_
    refine sm_iadd (Y := mX2_notePass) (pc := 97) dX2_notePass_97 ?_
    refine pf_RX2_102 (Y := mX2_notePass) (pc := 98) rfl ((lk_16 hly) _) dX2_notePass_98 (fun m_6 em_6 => ?_)
    replace h := h m_6 em_6
    exact sm_vret (Y := mX2_notePass) (pc := 101) rfl rfl rfl dX2_notePass_101 ⟨rfl, h⟩
theorem dX2_notePass_33 : decode cX2_notePass 33 = .ok (.iadd, 1) := dk_iadd (by decide +kernel)
theorem dX2_notePass_34 : decode cX2_notePass 34 = .ok (.istore 4, 2) := dk_istore 4 (b := 4) (by decide +kernel) (by decide +kernel) (by decide +kernel)
theorem dX2_notePass_36 : decode cX2_notePass 36 = .ok (.aload_n 0, 1) := dk_aload_n_0 (by decide +kernel)
theorem dX2_notePass_37 : decode cX2_notePass 37 = .ok (.getfield 37, 3) := dk_getfield 37 (b1 := 0) (b2 := 37) (by decide +kernel) (by decide +kernel) (by decide +kernel) (by decide +kernel)
theorem dX2_notePass_40 : decode cX2_notePass 40 = .ok (.iload 4, 2) := dk_iload 4 (b := 4) (by decide +kernel) (by decide +kernel) (by decide +kernel)
theorem dX2_notePass_42 : decode cX2_notePass 42 = .ok (.aload_n 0, 1) := dk_aload_n_0 (by decide +kernel)
theorem dX2_notePass_43 : decode cX2_notePass 43 = .ok (.getfield 96, 3) := dk_getfield 96 (b1 := 0) (b2 := 96) (by decide +kernel) (by decide +kernel) (by decide +kernel) (by decide +kernel)
theorem dX2_notePass_46 : decode cX2_notePass 46 = .ok (.iastore, 1) := dk_iastore (by decide +kernel)
theorem dX2_notePass_47 : decode cX2_notePass 47 = .ok (.aload_n 0, 1) := dk_aload_n_0 (by decide +kernel)
theorem dX2_notePass_48 : decode cX2_notePass 48 = .ok (.getfield 40, 3) := dk_getfield 40 (b1 := 0) (b2 := 40) (by decide +kernel) (by decide +kernel) (by decide +kernel) (by decide +kernel)
theorem dX2_notePass_51 : decode cX2_notePass 51 = .ok (.iload 4, 2) := dk_iload 4 (b := 4) (by decide +kernel) (by decide +kernel) (by decide +kernel)
theorem dX2_notePass_53 : decode cX2_notePass 53 = .ok (.iload_n 2, 1) := dk_iload_n_2 (by decide +kernel)
theorem dX2_notePass_54 : decode cX2_notePass 54 = .ok (.ifCond .eq 8, 3) := dk_ifCond_eq 8 (b1 := 0) (b2 := 8) (by decide +kernel) (by decide +kernel) (by decide +kernel) (by decide +kernel)
theorem dX2_notePass_62 : decode cX2_notePass 62 = .ok (.iconst 1, 1) := dk_iconst_1 (by decide +kernel)
theorem dX2_notePass_63 : decode cX2_notePass 63 = .ok (.goto 4, 3) := dk_goto 4 (b1 := 0) (b2 := 4) (by decide +kernel) (by decide +kernel) (by decide +kernel) (by decide +kernel)
theorem dX2_notePass_57 : decode cX2_notePass 57 = .ok (.iload_n 2, 1) := dk_iload_n_2 (by decide +kernel)
theorem dX2_notePass_58 : decode cX2_notePass 58 = .ok (.iconst 2, 1) := dk_iconst_2 (by decide +kernel)
theorem dX2_notePass_59 : decode cX2_notePass 59 = .ok (.if_icmp .ne 7, 3) := dk_if_icmp_ne 7 (b1 := 0) (b2 := 7) (by decide +kernel) (by decide +kernel) (by decide +kernel) (by decide +kernel)
theorem dX2_notePass_66 : decode cX2_notePass 66 = .ok (.iconst 0, 1) := dk_iconst_0 (by decide +kernel)
set_option maxRecDepth 20000 in
theorem vX2_notePass_33 {E : sm_E} {L : sm_S → Prop} {d : Nat} {vs : List Value} {x2 : Int32} {s0 : Int32} {s1 : Int32}  {m : sm_M} {Q : sm_M → Prop} (hly : ∀ S, L S → ly S) (hd : 1 ≤ d) 
  (h : ∀ x4_1 : Int32, x4_1 = s0 + s1 →
   (vp_in x4_1 48) ∧ ∀ m_2 : sm_M, m_2 = sm_wI m 25 x4_1.toNatClampNeg (m.1 16 11) →
   (x2 = 0 →
      gX2_notePass_67 E L d vs x4_1 x4_1 1 m_2 Q) ∧
   (¬ x2 = 0 →
      (¬ x2 = 2 →
         gX2_notePass_67 E L d vs x4_1 x4_1 0 m_2 Q) ∧
      (x2 = 2 →
         gX2_notePass_67 E L d vs x4_1 x4_1 1 m_2 Q))) :
  gX2_notePass_33 E L d vs x2 s0 s1 m Q := by
  refine sm_iadd (Y := mX2_notePass) (pc := 33) dX2_notePass_33 ?_
  refine sm_istore (Y := mX2_notePass) (pc := 34) (fun y => [(4, .int y), (0, .ref (sm_B E + 16)), (2, .int x2)]) 4 (by decide) (fun _ => rfl) dX2_notePass_34 (fun x4_1 ex4_1 => ?_)
  replace h := h x4_1 ex4_1
  refine sm_aload_n (Y := mX2_notePass) (pc := 36) 1 0 rfl rfl dX2_notePass_36 ?_
  refine gf_RX2_37 (Y := mX2_notePass) (pc := 37) (b := 25) rfl ((lk_16 hly) _) (lf_16_8 hly _) dX2_notePass_37 ?_
  refine sm_iload (Y := mX2_notePass) (pc := 40) 0 4 rfl dX2_notePass_40 ?_
  refine sm_aload_n (Y := mX2_notePass) (pc := 42) 1 0 rfl rfl dX2_notePass_42 ?_
  refine gf_RX2_96 (Y := mX2_notePass) (pc := 43) rfl ((lk_16 hly) _) dX2_notePass_43 ?_
  obtain ⟨hn_3, h⟩ := h
  refine sm_iast (Y := mX2_notePass) (pc := 46) (la_25 hly _) hn_3 dX2_notePass_46 (fun m_2 em_2 => ?_)
  replace h := h m_2 em_2
  refine sm_aload_n (Y := mX2_notePass) (pc := 47) 1 0 rfl rfl dX2_notePass_47 ?_
  refine gf_RX2_40 (Y := mX2_notePass) (pc := 48) (b := 26) rfl ((lk_16 hly) _) (lf_16_9 hly _) dX2_notePass_48 ?_
  refine sm_iload (Y := mX2_notePass) (pc := 51) 0 4 rfl dX2_notePass_51 ?_
  refine sm_iload_n (Y := mX2_notePass) (pc := 53) 2 2 rfl rfl dX2_notePass_53 ?_
  refine sm_if_eq (Y := mX2_notePass) (pc := 54) 62 (by decide) dX2_notePass_54 (fun hc => ?_) (fun hc => ?_)
  · replace h := h.1 hc
    refine sm_iconst (Y := mX2_notePass) (pc := 62) 1 (by decide) dX2_notePass_62 ?_
    refine sm_goto (Y := mX2_notePass) (pc := 63) 67 (by decide) dX2_notePass_63 ?_
    refine sm_sub [1, 0] rfl ?_
    exact h
  · replace h := h.2 hc
    refine sm_iload_n (Y := mX2_notePass) (pc := 57) 2 2 rfl rfl dX2_notePass_57 ?_
    refine sm_iconst (Y := mX2_notePass) (pc := 58) 2 (by decide) dX2_notePass_58 ?_
    refine sm_icmp_ne (Y := mX2_notePass) (pc := 59) 66 (by decide) dX2_notePass_59 (fun hc => ?_) (fun hc => ?_)
    · replace h := h.1 hc
      refine sm_iconst (Y := mX2_notePass) (pc := 66) 0 (by decide) dX2_notePass_66 ?_
      refine sm_sub [1, 0] rfl ?_
      exact h
    · replace h := h.2 hc
      refine sm_iconst (Y := mX2_notePass) (pc := 62) 1 (by decide) dX2_notePass_62 ?_
      refine sm_goto (Y := mX2_notePass) (pc := 63) 67 (by decide) dX2_notePass_63 ?_
      refine sm_sub [1, 0] rfl ?_
      exact h
theorem dX2_notePass_14 : decode cX2_notePass 14 = .ok (.istore_n 3, 1) := dk_istore_n_3 (by decide +kernel)
theorem dX2_notePass_15 : decode cX2_notePass 15 = .ok (.iconst 2, 1) := dk_iconst_2 (by decide +kernel)
theorem dX2_notePass_16 : decode cX2_notePass 16 = .ok (.iload_n 1, 1) := dk_iload_n_1 (by decide +kernel)
theorem dX2_notePass_17 : decode cX2_notePass 17 = .ok (.imul, 1) := dk_imul (by decide +kernel)
theorem dX2_notePass_18 : decode cX2_notePass 18 = .ok (.iload_n 3, 1) := dk_iload_n_3 (by decide +kernel)
theorem dX2_notePass_19 : decode cX2_notePass 19 = .ok (.aload_n 0, 1) := dk_aload_n_0 (by decide +kernel)
theorem dX2_notePass_20 : decode cX2_notePass 20 = .ok (.getfield 28, 3) := dk_getfield 28 (b1 := 0) (b2 := 28) (by decide +kernel) (by decide +kernel) (by decide +kernel) (by decide +kernel)
theorem dX2_notePass_23 : decode cX2_notePass 23 = .ok (.iload_n 1, 1) := dk_iload_n_1 (by decide +kernel)
theorem dX2_notePass_24 : decode cX2_notePass 24 = .ok (.baload, 1) := dk_baload (by decide +kernel)
theorem dX2_notePass_25 : decode cX2_notePass 25 = .ok (.if_icmp .ne 7, 3) := dk_if_icmp_ne 7 (b1 := 0) (b2 := 7) (by decide +kernel) (by decide +kernel) (by decide +kernel) (by decide +kernel)
theorem dX2_notePass_32 : decode cX2_notePass 32 = .ok (.iconst 1, 1) := dk_iconst_1 (by decide +kernel)
theorem dX2_notePass_28 : decode cX2_notePass 28 = .ok (.iconst 0, 1) := dk_iconst_0 (by decide +kernel)
theorem dX2_notePass_29 : decode cX2_notePass 29 = .ok (.goto 4, 3) := dk_goto 4 (b1 := 0) (b2 := 4) (by decide +kernel) (by decide +kernel) (by decide +kernel) (by decide +kernel)
set_option maxRecDepth 20000 in
theorem vX2_notePass_14 {E : sm_E} {L : sm_S → Prop} {d : Nat} {vs : List Value} {x1 : Int32} {x2 : Int32} {s0 : Int32}  {m : sm_M} {Q : sm_M → Prop} (hly : ∀ S, L S → ly S) (hd : 1 ≤ d) 
  (h : (vp_in x1 24) ∧ (¬ s0 = (m.1 22 x1.toNatClampNeg) →
      gX2_notePass_33 E L d vs x2 ((2 : Int32) * x1) 1 m Q) ∧
   (s0 = (m.1 22 x1.toNatClampNeg) →
      gX2_notePass_33 E L d vs x2 ((2 : Int32) * x1) 0 m Q)) :
  gX2_notePass_14 E L d vs x1 x2 s0 m Q := by
  refine sm_istore0_n (Y := mX2_notePass) (pc := 14) [(3, .int s0), (0, .ref (sm_B E + 16)), (1, .int x1), (2, .int x2)] 3 rfl (by decide) rfl dX2_notePass_14 ?_
  refine sm_iconst (Y := mX2_notePass) (pc := 15) 2 (by decide) dX2_notePass_15 ?_
  refine sm_iload_n (Y := mX2_notePass) (pc := 16) 2 1 rfl rfl dX2_notePass_16 ?_
  refine sm_imul (Y := mX2_notePass) (pc := 17) dX2_notePass_17 ?_
  refine sm_iload_n (Y := mX2_notePass) (pc := 18) 0 3 rfl rfl dX2_notePass_18 ?_
  refine sm_aload_n (Y := mX2_notePass) (pc := 19) 1 0 rfl rfl dX2_notePass_19 ?_
  refine gf_RX2_28 (Y := mX2_notePass) (pc := 20) (b := 22) rfl ((lk_16 hly) _) (lf_16_5 hly _) dX2_notePass_20 ?_
  refine sm_iload_n (Y := mX2_notePass) (pc := 23) 2 1 rfl rfl dX2_notePass_23 ?_
  obtain ⟨hn_2, h⟩ := h
  refine sm_zald (Y := mX2_notePass) (pc := 24) (la_22 hly _) hn_2 dX2_notePass_24 ?_
  refine sm_icmp_ne (Y := mX2_notePass) (pc := 25) 32 (by decide) dX2_notePass_25 (fun hc => ?_) (fun hc => ?_)
  · replace h := h.1 hc
    refine sm_iconst (Y := mX2_notePass) (pc := 32) 1 (by decide) dX2_notePass_32 ?_
    refine sm_sub [1, 3] rfl ?_
    exact h
  · replace h := h.2 hc
    refine sm_iconst (Y := mX2_notePass) (pc := 28) 0 (by decide) dX2_notePass_28 ?_
    refine sm_goto (Y := mX2_notePass) (pc := 29) 33 (by decide) dX2_notePass_29 ?_
    refine sm_sub [1, 3] rfl ?_
    exact h
theorem dX2_notePass_0 : decode cX2_notePass 0 = .ok (.iload_n 2, 1) := dk_iload_n_2 (by decide +kernel)
theorem dX2_notePass_1 : decode cX2_notePass 1 = .ok (.ifCond .eq 8, 3) := dk_ifCond_eq 8 (b1 := 0) (b2 := 8) (by decide +kernel) (by decide +kernel) (by decide +kernel) (by decide +kernel)
theorem dX2_notePass_9 : decode cX2_notePass 9 = .ok (.iconst 1, 1) := dk_iconst_1 (by decide +kernel)
theorem dX2_notePass_10 : decode cX2_notePass 10 = .ok (.goto 4, 3) := dk_goto 4 (b1 := 0) (b2 := 4) (by decide +kernel) (by decide +kernel) (by decide +kernel) (by decide +kernel)
theorem dX2_notePass_4 : decode cX2_notePass 4 = .ok (.iload_n 2, 1) := dk_iload_n_2 (by decide +kernel)
theorem dX2_notePass_5 : decode cX2_notePass 5 = .ok (.iconst 3, 1) := dk_iconst_3 (by decide +kernel)
theorem dX2_notePass_6 : decode cX2_notePass 6 = .ok (.if_icmp .ne 7, 3) := dk_if_icmp_ne 7 (b1 := 0) (b2 := 7) (by decide +kernel) (by decide +kernel) (by decide +kernel) (by decide +kernel)
theorem dX2_notePass_13 : decode cX2_notePass 13 = .ok (.iconst 0, 1) := dk_iconst_0 (by decide +kernel)
set_option maxRecDepth 20000 in
theorem vX2_notePass_0 {E : sm_E} {L : sm_S → Prop} {d : Nat} {x1 : Int32} {x2 : Int32}  {m : sm_M} {Q : sm_M → Prop}  (hd : 1 ≤ d) 
  (h : (x2 = 0 →
      gX2_notePass_14 E L d ([.ref (sm_B E + 16), .int x1, .int x2]) x1 x2 1 m Q) ∧
   (¬ x2 = 0 →
      (¬ x2 = 3 →
         gX2_notePass_14 E L d ([.ref (sm_B E + 16), .int x1, .int x2]) x1 x2 0 m Q) ∧
      (x2 = 3 →
         gX2_notePass_14 E L d ([.ref (sm_B E + 16), .int x1, .int x2]) x1 x2 1 m Q))) :
  sm_callV E L mX2_notePass d 0 0 [.ref (sm_B E + 16), .int x1, .int x2] m Q := by
  refine sm_enter (by decide +kernel) (by simp [lg_sl, Value.category]) ?_
  refine sm_iload_n (Y := mX2_notePass) (pc := 0) 2 2 rfl rfl dX2_notePass_0 ?_
  refine sm_if_eq (Y := mX2_notePass) (pc := 1) 9 (by decide) dX2_notePass_1 (fun hc => ?_) (fun hc => ?_)
  · replace h := h.1 hc
    refine sm_iconst (Y := mX2_notePass) (pc := 9) 1 (by decide) dX2_notePass_9 ?_
    refine sm_goto (Y := mX2_notePass) (pc := 10) 14 (by decide) dX2_notePass_10 ?_
    exact h
  · replace h := h.2 hc
    refine sm_iload_n (Y := mX2_notePass) (pc := 4) 2 2 rfl rfl dX2_notePass_4 ?_
    refine sm_iconst (Y := mX2_notePass) (pc := 5) 3 (by decide) dX2_notePass_5 ?_
    refine sm_icmp_ne (Y := mX2_notePass) (pc := 6) 13 (by decide) dX2_notePass_6 (fun hc => ?_) (fun hc => ?_)
    · replace h := h.1 hc
      refine sm_iconst (Y := mX2_notePass) (pc := 13) 0 (by decide) dX2_notePass_13 ?_
      exact h
    · replace h := h.2 hc
      refine sm_iconst (Y := mX2_notePass) (pc := 9) 1 (by decide) dX2_notePass_9 ?_
      refine sm_goto (Y := mX2_notePass) (pc := 10) 14 (by decide) dX2_notePass_10 ?_
      exact h
abbrev mX2_hasComponent : sm_Y := (yX2_hasComponent, cX2_hasComponent, 2, (some FieldType.boolean))
theorem fX2_hasComponent : sm_mi mX2_hasComponent RX2 1 := ⟨sm_in 824 (by decide +kernel) (by decide +kernel), sm_in 822 (by decide +kernel) (by decide +kernel), sm_in 823 (by decide +kernel) (by decide +kernel), sm_in 87 (by decide +kernel) (by decide +kernel), rfl, ⟨by decide +kernel, by decide +kernel, by decide +kernel⟩, by decide⟩
theorem dX2_hasComponent_0 : decode cX2_hasComponent 0 = .ok (.iload_n 1, 1) := dk_iload_n_1 (by decide +kernel)
theorem dX2_hasComponent_1 : decode cX2_hasComponent 1 = .ok (.ifCond .lt 15, 3) := dk_ifCond_lt 15 (b1 := 0) (b2 := 15) (by decide +kernel) (by decide +kernel) (by decide +kernel) (by decide +kernel)
theorem dX2_hasComponent_16 : decode cX2_hasComponent 16 = .ok (.iconst 0, 1) := dk_iconst_0 (by decide +kernel)
theorem dX2_hasComponent_17 : decode cX2_hasComponent 17 = .ok (.ireturn, 1) := dk_ireturn (by decide +kernel)
theorem dX2_hasComponent_4 : decode cX2_hasComponent 4 = .ok (.iload_n 1, 1) := dk_iload_n_1 (by decide +kernel)
theorem dX2_hasComponent_5 : decode cX2_hasComponent 5 = .ok (.aload_n 0, 1) := dk_aload_n_0 (by decide +kernel)
theorem dX2_hasComponent_6 : decode cX2_hasComponent 6 = .ok (.getfield 96, 3) := dk_getfield 96 (b1 := 0) (b2 := 96) (by decide +kernel) (by decide +kernel) (by decide +kernel) (by decide +kernel)
theorem dX2_hasComponent_9 : decode cX2_hasComponent 9 = .ok (.if_icmp .ge 7, 3) := dk_if_icmp_ge 7 (b1 := 0) (b2 := 7) (by decide +kernel) (by decide +kernel) (by decide +kernel) (by decide +kernel)
theorem dX2_hasComponent_12 : decode cX2_hasComponent 12 = .ok (.iconst 1, 1) := dk_iconst_1 (by decide +kernel)
theorem dX2_hasComponent_13 : decode cX2_hasComponent 13 = .ok (.goto 4, 3) := dk_goto 4 (b1 := 0) (b2 := 4) (by decide +kernel) (by decide +kernel) (by decide +kernel) (by decide +kernel)
set_option maxRecDepth 20000 in
theorem vX2_hasComponent_0 {E : sm_E} {L : sm_S → Prop} {d : Nat} {x1 : Int32}  {m : sm_M} {Q : Int32 → sm_M → Prop} (hly : ∀ S, L S → ly S) (hd : 1 ≤ d) 
  (h : (x1 < 0 →
      Q 0 m) ∧
   (¬ x1 < 0 →
      ((m.1 16 11) ≤ x1 →
         Q 0 m) ∧
      (¬ (m.1 16 11) ≤ x1 →
         Q 1 m))) :
  sm_callI E L mX2_hasComponent d 0 0 [.ref (sm_B E + 16), .int x1] m Q := by
  refine sm_enter (by decide +kernel) (by simp [lg_sl, Value.category]) ?_
  refine sm_iload_n (Y := mX2_hasComponent) (pc := 0) 1 1 rfl rfl dX2_hasComponent_0 ?_
  refine sm_if_lt (Y := mX2_hasComponent) (pc := 1) 16 (by decide) dX2_hasComponent_1 (fun hc => ?_) (fun hc => ?_)
  · replace h := h.1 hc
    refine sm_iconst (Y := mX2_hasComponent) (pc := 16) 0 (by decide) dX2_hasComponent_16 ?_
    exact sm_zret (Y := mX2_hasComponent) (pc := 17) rfl (by decide) rfl rfl dX2_hasComponent_17 ⟨_, rfl, h⟩
  · replace h := h.2 hc
    refine sm_iload_n (Y := mX2_hasComponent) (pc := 4) 1 1 rfl rfl dX2_hasComponent_4 ?_
    refine sm_aload_n (Y := mX2_hasComponent) (pc := 5) 0 0 rfl rfl dX2_hasComponent_5 ?_
    refine gf_RX2_96 (Y := mX2_hasComponent) (pc := 6) rfl ((lk_16 hly) _) dX2_hasComponent_6 ?_
    refine sm_icmp_ge (Y := mX2_hasComponent) (pc := 9) 16 (by decide) dX2_hasComponent_9 (fun hc => ?_) (fun hc => ?_)
    · replace h := h.1 hc
      refine sm_iconst (Y := mX2_hasComponent) (pc := 16) 0 (by decide) dX2_hasComponent_16 ?_
      exact sm_zret (Y := mX2_hasComponent) (pc := 17) rfl (by decide) rfl rfl dX2_hasComponent_17 ⟨_, rfl, h⟩
    · replace h := h.2 hc
      refine sm_iconst (Y := mX2_hasComponent) (pc := 12) 1 (by decide) dX2_hasComponent_12 ?_
      refine sm_goto (Y := mX2_hasComponent) (pc := 13) 17 (by decide) dX2_hasComponent_13 ?_
      exact sm_zret (Y := mX2_hasComponent) (pc := 17) rfl (by decide) rfl rfl dX2_hasComponent_17 ⟨_, rfl, h⟩
abbrev mX2_overAt : sm_Y := (yX2_overAt, cX2_overAt, 2, (some FieldType.int))
theorem fX2_overAt : sm_mi mX2_overAt RX2 1 := ⟨sm_in 811 (by decide +kernel) (by decide +kernel), sm_in 809 (by decide +kernel) (by decide +kernel), sm_in 810 (by decide +kernel) (by decide +kernel), sm_in 87 (by decide +kernel) (by decide +kernel), rfl, ⟨by decide +kernel, by decide +kernel, by decide +kernel⟩, by decide⟩
theorem dX2_overAt_0 : decode cX2_overAt 0 = .ok (.aload_n 0, 1) := dk_aload_n_0 (by decide +kernel)
theorem dX2_overAt_1 : decode cX2_overAt 1 = .ok (.getfield 37, 3) := dk_getfield 37 (b1 := 0) (b2 := 37) (by decide +kernel) (by decide +kernel) (by decide +kernel) (by decide +kernel)
theorem dX2_overAt_4 : decode cX2_overAt 4 = .ok (.iconst 2, 1) := dk_iconst_2 (by decide +kernel)
theorem dX2_overAt_5 : decode cX2_overAt 5 = .ok (.iload_n 1, 1) := dk_iload_n_1 (by decide +kernel)
theorem dX2_overAt_6 : decode cX2_overAt 6 = .ok (.imul, 1) := dk_imul (by decide +kernel)
theorem dX2_overAt_7 : decode cX2_overAt 7 = .ok (.iaload, 1) := dk_iaload (by decide +kernel)
theorem dX2_overAt_8 : decode cX2_overAt 8 = .ok (.ireturn, 1) := dk_ireturn (by decide +kernel)
set_option maxRecDepth 20000 in
theorem vX2_overAt_0 {E : sm_E} {L : sm_S → Prop} {d : Nat} {x1 : Int32}  {m : sm_M} {Q : Int32 → sm_M → Prop} (hly : ∀ S, L S → ly S) (hd : 1 ≤ d) 
  (h : (vp_in ((2 : Int32) * x1) 48) ∧ Q (m.1 25 ((2 : Int32) * x1).toNatClampNeg) m) :
  sm_callI E L mX2_overAt d 0 0 [.ref (sm_B E + 16), .int x1] m Q := by
  refine sm_enter (by decide +kernel) (by simp [lg_sl, Value.category]) ?_
  refine sm_aload_n (Y := mX2_overAt) (pc := 0) 0 0 rfl rfl dX2_overAt_0 ?_
  refine gf_RX2_37 (Y := mX2_overAt) (pc := 1) (b := 25) rfl ((lk_16 hly) _) (lf_16_8 hly _) dX2_overAt_1 ?_
  refine sm_iconst (Y := mX2_overAt) (pc := 4) 2 (by decide) dX2_overAt_4 ?_
  refine sm_iload_n (Y := mX2_overAt) (pc := 5) 1 1 rfl rfl dX2_overAt_5 ?_
  refine sm_imul (Y := mX2_overAt) (pc := 6) dX2_overAt_6 ?_
  obtain ⟨hn_1, h⟩ := h
  refine sm_iald (Y := mX2_overAt) (pc := 7) (la_25 hly _) hn_1 dX2_overAt_7 ?_
  exact sm_iret (Y := mX2_overAt) (pc := 8) rfl rfl rfl dX2_overAt_8 ⟨_, rfl, h⟩
abbrev mX2_underAt : sm_Y := (yX2_underAt, cX2_underAt, 2, (some FieldType.int))
theorem fX2_underAt : sm_mi mX2_underAt RX2 1 := ⟨sm_in 815 (by decide +kernel) (by decide +kernel), sm_in 813 (by decide +kernel) (by decide +kernel), sm_in 814 (by decide +kernel) (by decide +kernel), sm_in 87 (by decide +kernel) (by decide +kernel), rfl, ⟨by decide +kernel, by decide +kernel, by decide +kernel⟩, by decide⟩
theorem dX2_underAt_0 : decode cX2_underAt 0 = .ok (.aload_n 0, 1) := dk_aload_n_0 (by decide +kernel)
theorem dX2_underAt_1 : decode cX2_underAt 1 = .ok (.getfield 37, 3) := dk_getfield 37 (b1 := 0) (b2 := 37) (by decide +kernel) (by decide +kernel) (by decide +kernel) (by decide +kernel)
theorem dX2_underAt_4 : decode cX2_underAt 4 = .ok (.iconst 2, 1) := dk_iconst_2 (by decide +kernel)
theorem dX2_underAt_5 : decode cX2_underAt 5 = .ok (.iload_n 1, 1) := dk_iload_n_1 (by decide +kernel)
theorem dX2_underAt_6 : decode cX2_underAt 6 = .ok (.imul, 1) := dk_imul (by decide +kernel)
theorem dX2_underAt_7 : decode cX2_underAt 7 = .ok (.iconst 1, 1) := dk_iconst_1 (by decide +kernel)
theorem dX2_underAt_8 : decode cX2_underAt 8 = .ok (.iadd, 1) := dk_iadd (by decide +kernel)
theorem dX2_underAt_9 : decode cX2_underAt 9 = .ok (.iaload, 1) := dk_iaload (by decide +kernel)
theorem dX2_underAt_10 : decode cX2_underAt 10 = .ok (.ireturn, 1) := dk_ireturn (by decide +kernel)
set_option maxRecDepth 20000 in
theorem vX2_underAt_0 {E : sm_E} {L : sm_S → Prop} {d : Nat} {x1 : Int32}  {m : sm_M} {Q : Int32 → sm_M → Prop} (hly : ∀ S, L S → ly S) (hd : 1 ≤ d) 
  (h : (vp_in (((2 : Int32) * x1) + 1) 48) ∧ Q (m.1 25 (((2 : Int32) * x1) + 1).toNatClampNeg) m) :
  sm_callI E L mX2_underAt d 0 0 [.ref (sm_B E + 16), .int x1] m Q := by
  refine sm_enter (by decide +kernel) (by simp [lg_sl, Value.category]) ?_
  refine sm_aload_n (Y := mX2_underAt) (pc := 0) 0 0 rfl rfl dX2_underAt_0 ?_
  refine gf_RX2_37 (Y := mX2_underAt) (pc := 1) (b := 25) rfl ((lk_16 hly) _) (lf_16_8 hly _) dX2_underAt_1 ?_
  refine sm_iconst (Y := mX2_underAt) (pc := 4) 2 (by decide) dX2_underAt_4 ?_
  refine sm_iload_n (Y := mX2_underAt) (pc := 5) 1 1 rfl rfl dX2_underAt_5 ?_
  refine sm_imul (Y := mX2_underAt) (pc := 6) dX2_underAt_6 ?_
  refine sm_iconst (Y := mX2_underAt) (pc := 7) 1 (by decide) dX2_underAt_7 ?_
  refine sm_iadd (Y := mX2_underAt) (pc := 8) dX2_underAt_8 ?_
  obtain ⟨hn_1, h⟩ := h
  refine sm_iald (Y := mX2_underAt) (pc := 9) (la_25 hly _) hn_1 dX2_underAt_9 ?_
  exact sm_iret (Y := mX2_underAt) (pc := 10) rfl rfl rfl dX2_underAt_10 ⟨_, rfl, h⟩
abbrev mX2_signAt : sm_Y := (yX2_signAt, cX2_signAt, 3, (some FieldType.int))
theorem fX2_signAt : sm_mi mX2_signAt RX2 1 := ⟨sm_in 803 (by decide +kernel) (by decide +kernel), sm_in 801 (by decide +kernel) (by decide +kernel), sm_in 802 (by decide +kernel) (by decide +kernel), sm_in 87 (by decide +kernel) (by decide +kernel), rfl, ⟨by decide +kernel, by decide +kernel, by decide +kernel⟩, by decide⟩
def gX2_signAt_26 (E : sm_E) (L : sm_S → Prop) (d : Nat) (vs : List Value) (x1 : Int32) (s0 : Int32) (m : sm_M) (Q : Int32 → sm_M → Prop) : Prop := sm_go E L mX2_signAt d 0 0 vs 26 [(0, .ref (sm_B E + 16)), (1, .int x1)] [.int s0] m 0 0 (sm_Z E L vs 0 0 (sm_QI Q))
theorem dX2_signAt_26 : decode cX2_signAt 26 = .ok (.istore_n 2, 1) := dk_istore_n_2 (by decide +kernel)
theorem dX2_signAt_27 : decode cX2_signAt 27 = .ok (.iload_n 2, 1) := dk_iload_n_2 (by decide +kernel)
theorem dX2_signAt_28 : decode cX2_signAt 28 = .ok (.aload_n 0, 1) := dk_aload_n_0 (by decide +kernel)
theorem dX2_signAt_29 : decode cX2_signAt 29 = .ok (.getfield 28, 3) := dk_getfield 28 (b1 := 0) (b2 := 28) (by decide +kernel) (by decide +kernel) (by decide +kernel) (by decide +kernel)
theorem dX2_signAt_32 : decode cX2_signAt 32 = .ok (.iload_n 1, 1) := dk_iload_n_1 (by decide +kernel)
theorem dX2_signAt_33 : decode cX2_signAt 33 = .ok (.baload, 1) := dk_baload (by decide +kernel)
theorem dX2_signAt_34 : decode cX2_signAt 34 = .ok (.if_icmp .ne 7, 3) := dk_if_icmp_ne 7 (b1 := 0) (b2 := 7) (by decide +kernel) (by decide +kernel) (by decide +kernel) (by decide +kernel)
theorem dX2_signAt_41 : decode cX2_signAt 41 = .ok (.iconst (-1), 1) := dk_iconst_m1 (by decide +kernel)
theorem dX2_signAt_42 : decode cX2_signAt 42 = .ok (.ireturn, 1) := dk_ireturn (by decide +kernel)
theorem dX2_signAt_37 : decode cX2_signAt 37 = .ok (.iconst 1, 1) := dk_iconst_1 (by decide +kernel)
theorem dX2_signAt_38 : decode cX2_signAt 38 = .ok (.goto 4, 3) := dk_goto 4 (b1 := 0) (b2 := 4) (by decide +kernel) (by decide +kernel) (by decide +kernel) (by decide +kernel)
set_option maxRecDepth 20000 in
theorem vX2_signAt_26 {E : sm_E} {L : sm_S → Prop} {d : Nat} {vs : List Value} {x1 : Int32} {s0 : Int32}  {m : sm_M} {Q : Int32 → sm_M → Prop} (hly : ∀ S, L S → ly S) (hd : 1 ≤ d) 
  (h : (vp_in x1 24) ∧ (¬ s0 = (m.1 22 x1.toNatClampNeg) →
      Q (-1) m) ∧
   (s0 = (m.1 22 x1.toNatClampNeg) →
      Q 1 m)) :
  gX2_signAt_26 E L d vs x1 s0 m Q := by
  refine sm_istore0_n (Y := mX2_signAt) (pc := 26) [(2, .int s0), (0, .ref (sm_B E + 16)), (1, .int x1)] 2 rfl (by decide) rfl dX2_signAt_26 ?_
  refine sm_iload_n (Y := mX2_signAt) (pc := 27) 0 2 rfl rfl dX2_signAt_27 ?_
  refine sm_aload_n (Y := mX2_signAt) (pc := 28) 1 0 rfl rfl dX2_signAt_28 ?_
  refine gf_RX2_28 (Y := mX2_signAt) (pc := 29) (b := 22) rfl ((lk_16 hly) _) (lf_16_5 hly _) dX2_signAt_29 ?_
  refine sm_iload_n (Y := mX2_signAt) (pc := 32) 2 1 rfl rfl dX2_signAt_32 ?_
  obtain ⟨hn_2, h⟩ := h
  refine sm_zald (Y := mX2_signAt) (pc := 33) (la_22 hly _) hn_2 dX2_signAt_33 ?_
  refine sm_icmp_ne (Y := mX2_signAt) (pc := 34) 41 (by decide) dX2_signAt_34 (fun hc => ?_) (fun hc => ?_)
  · replace h := h.1 hc
    refine sm_iconst (Y := mX2_signAt) (pc := 41) (-1) (by decide) dX2_signAt_41 ?_
    exact sm_iret (Y := mX2_signAt) (pc := 42) rfl rfl rfl dX2_signAt_42 ⟨_, rfl, h⟩
  · replace h := h.2 hc
    refine sm_iconst (Y := mX2_signAt) (pc := 37) 1 (by decide) dX2_signAt_37 ?_
    refine sm_goto (Y := mX2_signAt) (pc := 38) 42 (by decide) dX2_signAt_38 ?_
    exact sm_iret (Y := mX2_signAt) (pc := 42) rfl rfl rfl dX2_signAt_42 ⟨_, rfl, h⟩
theorem dX2_signAt_0 : decode cX2_signAt 0 = .ok (.aload_n 0, 1) := dk_aload_n_0 (by decide +kernel)
theorem dX2_signAt_1 : decode cX2_signAt 1 = .ok (.getfield 40, 3) := dk_getfield 40 (b1 := 0) (b2 := 40) (by decide +kernel) (by decide +kernel) (by decide +kernel) (by decide +kernel)
theorem dX2_signAt_4 : decode cX2_signAt 4 = .ok (.iconst 2, 1) := dk_iconst_2 (by decide +kernel)
theorem dX2_signAt_5 : decode cX2_signAt 5 = .ok (.iload_n 1, 1) := dk_iload_n_1 (by decide +kernel)
theorem dX2_signAt_6 : decode cX2_signAt 6 = .ok (.imul, 1) := dk_imul (by decide +kernel)
theorem dX2_signAt_7 : decode cX2_signAt 7 = .ok (.baload, 1) := dk_baload (by decide +kernel)
theorem dX2_signAt_8 : decode cX2_signAt 8 = .ok (.aload_n 0, 1) := dk_aload_n_0 (by decide +kernel)
theorem dX2_signAt_9 : decode cX2_signAt 9 = .ok (.getfield 40, 3) := dk_getfield 40 (b1 := 0) (b2 := 40) (by decide +kernel) (by decide +kernel) (by decide +kernel) (by decide +kernel)
theorem dX2_signAt_12 : decode cX2_signAt 12 = .ok (.iconst 2, 1) := dk_iconst_2 (by decide +kernel)
theorem dX2_signAt_13 : decode cX2_signAt 13 = .ok (.iload_n 1, 1) := dk_iload_n_1 (by decide +kernel)
theorem dX2_signAt_14 : decode cX2_signAt 14 = .ok (.imul, 1) := dk_imul (by decide +kernel)
theorem dX2_signAt_15 : decode cX2_signAt 15 = .ok (.iconst 1, 1) := dk_iconst_1 (by decide +kernel)
theorem dX2_signAt_16 : decode cX2_signAt 16 = .ok (.iadd, 1) := dk_iadd (by decide +kernel)
theorem dX2_signAt_17 : decode cX2_signAt 17 = .ok (.baload, 1) := dk_baload (by decide +kernel)
theorem dX2_signAt_18 : decode cX2_signAt 18 = .ok (.if_icmp .ne 7, 3) := dk_if_icmp_ne 7 (b1 := 0) (b2 := 7) (by decide +kernel) (by decide +kernel) (by decide +kernel) (by decide +kernel)
theorem dX2_signAt_25 : decode cX2_signAt 25 = .ok (.iconst 0, 1) := dk_iconst_0 (by decide +kernel)
theorem dX2_signAt_21 : decode cX2_signAt 21 = .ok (.iconst 1, 1) := dk_iconst_1 (by decide +kernel)
theorem dX2_signAt_22 : decode cX2_signAt 22 = .ok (.goto 4, 3) := dk_goto 4 (b1 := 0) (b2 := 4) (by decide +kernel) (by decide +kernel) (by decide +kernel) (by decide +kernel)
set_option maxRecDepth 20000 in
theorem vX2_signAt_0 {E : sm_E} {L : sm_S → Prop} {d : Nat} {x1 : Int32}  {m : sm_M} {Q : Int32 → sm_M → Prop} (hly : ∀ S, L S → ly S) (hd : 1 ≤ d) 
  (h : (vp_in ((2 : Int32) * x1) 48) ∧ (vp_in (((2 : Int32) * x1) + 1) 48) ∧ (¬ (m.1 26 ((2 : Int32) * x1).toNatClampNeg) = (m.1 26 (((2 : Int32) * x1) + 1).toNatClampNeg) →
      gX2_signAt_26 E L d ([.ref (sm_B E + 16), .int x1]) x1 0 m Q) ∧
   ((m.1 26 ((2 : Int32) * x1).toNatClampNeg) = (m.1 26 (((2 : Int32) * x1) + 1).toNatClampNeg) →
      gX2_signAt_26 E L d ([.ref (sm_B E + 16), .int x1]) x1 1 m Q)) :
  sm_callI E L mX2_signAt d 0 0 [.ref (sm_B E + 16), .int x1] m Q := by
  refine sm_enter (by decide +kernel) (by simp [lg_sl, Value.category]) ?_
  refine sm_aload_n (Y := mX2_signAt) (pc := 0) 0 0 rfl rfl dX2_signAt_0 ?_
  refine gf_RX2_40 (Y := mX2_signAt) (pc := 1) (b := 26) rfl ((lk_16 hly) _) (lf_16_9 hly _) dX2_signAt_1 ?_
  refine sm_iconst (Y := mX2_signAt) (pc := 4) 2 (by decide) dX2_signAt_4 ?_
  refine sm_iload_n (Y := mX2_signAt) (pc := 5) 1 1 rfl rfl dX2_signAt_5 ?_
  refine sm_imul (Y := mX2_signAt) (pc := 6) dX2_signAt_6 ?_
  obtain ⟨hn_1, h⟩ := h
  refine sm_zald (Y := mX2_signAt) (pc := 7) (la_26 hly _) hn_1 dX2_signAt_7 ?_
  refine sm_aload_n (Y := mX2_signAt) (pc := 8) 0 0 rfl rfl dX2_signAt_8 ?_
  refine gf_RX2_40 (Y := mX2_signAt) (pc := 9) (b := 26) rfl ((lk_16 hly) _) (lf_16_9 hly _) dX2_signAt_9 ?_
  refine sm_iconst (Y := mX2_signAt) (pc := 12) 2 (by decide) dX2_signAt_12 ?_
  refine sm_iload_n (Y := mX2_signAt) (pc := 13) 1 1 rfl rfl dX2_signAt_13 ?_
  refine sm_imul (Y := mX2_signAt) (pc := 14) dX2_signAt_14 ?_
  refine sm_iconst (Y := mX2_signAt) (pc := 15) 1 (by decide) dX2_signAt_15 ?_
  refine sm_iadd (Y := mX2_signAt) (pc := 16) dX2_signAt_16 ?_
  obtain ⟨hn_2, h⟩ := h
  refine sm_zald (Y := mX2_signAt) (pc := 17) (la_26 hly _) hn_2 dX2_signAt_17 ?_
  refine sm_icmp_ne (Y := mX2_signAt) (pc := 18) 25 (by decide) dX2_signAt_18 (fun hc => ?_) (fun hc => ?_)
  · replace h := h.1 hc
    refine sm_iconst (Y := mX2_signAt) (pc := 25) 0 (by decide) dX2_signAt_25 ?_
    exact h
  · replace h := h.2 hc
    refine sm_iconst (Y := mX2_signAt) (pc := 21) 1 (by decide) dX2_signAt_21 ?_
    refine sm_goto (Y := mX2_signAt) (pc := 22) 26 (by decide) dX2_signAt_22 ?_
    exact h
abbrev mX2_writhe : sm_Y := (yX2_writhe, cX2_writhe, 3, (some FieldType.int))
theorem fX2_writhe : sm_mi mX2_writhe RX2 0 := ⟨sm_in 799 (by decide +kernel) (by decide +kernel), sm_in 797 (by decide +kernel) (by decide +kernel), sm_in 798 (by decide +kernel) (by decide +kernel), sm_in 87 (by decide +kernel) (by decide +kernel), rfl, ⟨by decide +kernel, by decide +kernel, by decide +kernel⟩, by decide⟩
def gX2_writhe_4 (E : sm_E) (L : sm_S → Prop) (d : Nat) (vs : List Value) (x1 : Int32) (x2 : Int32) (m : sm_M) (Q : Int32 → sm_M → Prop) : Prop := sm_go E L mX2_writhe d 0 0 vs 4 [(0, .ref (sm_B E + 16)), (1, .int x1), (2, .int x2)] [] m 0 0 (sm_Z E L vs 0 0 (sm_QI Q))
theorem dX2_writhe_4 : decode cX2_writhe 4 = .ok (.iload_n 2, 1) := dk_iload_n_2 (by decide +kernel)
theorem dX2_writhe_5 : decode cX2_writhe 5 = .ok (.aload_n 0, 1) := dk_aload_n_0 (by decide +kernel)
theorem dX2_writhe_6 : decode cX2_writhe 6 = .ok (.getfield 43, 3) := dk_getfield 43 (b1 := 0) (b2 := 43) (by decide +kernel) (by decide +kernel) (by decide +kernel) (by decide +kernel)
theorem dX2_writhe_9 : decode cX2_writhe 9 = .ok (.if_icmp .ge 17, 3) := dk_if_icmp_ge 17 (b1 := 0) (b2 := 17) (by decide +kernel) (by decide +kernel) (by decide +kernel) (by decide +kernel)
theorem dX2_writhe_26 : decode cX2_writhe 26 = .ok (.iload_n 1, 1) := dk_iload_n_1 (by decide +kernel)
theorem dX2_writhe_27 : decode cX2_writhe 27 = .ok (.ireturn, 1) := dk_ireturn (by decide +kernel)
theorem dX2_writhe_12 : decode cX2_writhe 12 = .ok (.iload_n 1, 1) := dk_iload_n_1 (by decide +kernel)
theorem dX2_writhe_13 : decode cX2_writhe 13 = .ok (.aload_n 0, 1) := dk_aload_n_0 (by decide +kernel)
theorem dX2_writhe_14 : decode cX2_writhe 14 = .ok (.iload_n 2, 1) := dk_iload_n_2 (by decide +kernel)
theorem wRX2_114 : Cond.methodLink RX2 114 yX2_signAt ∈ sm_T := sm_in 800 (by decide +kernel) (by decide +kernel)
theorem dX2_writhe_15 : decode cX2_writhe 15 = .ok (.invokevirtual 114, 3) := dk_invokevirtual 114 (b1 := 0) (b2 := 114) (by decide +kernel) (by decide +kernel) (by decide +kernel) (by decide +kernel)
theorem dX2_writhe_18 : decode cX2_writhe 18 = .ok (.iadd, 1) := dk_iadd (by decide +kernel)
theorem dX2_writhe_19 : decode cX2_writhe 19 = .ok (.istore_n 1, 1) := dk_istore_n_1 (by decide +kernel)
theorem dX2_writhe_20 : decode cX2_writhe 20 = .ok (.iinc 2 1, 3) := dk_iinc 2 1 (b1 := 2) (b2 := 1) (by decide +kernel) (by decide +kernel) (by decide +kernel) (by decide +kernel) (by decide +kernel)
theorem dX2_writhe_23 : decode cX2_writhe 23 = .ok (.goto (-19), 3) := dk_goto (-19) (b1 := 255) (b2 := 237) (by decide +kernel) (by decide +kernel) (by decide +kernel) (by decide +kernel)
set_option maxRecDepth 20000 in
theorem vX2_writhe_4 {E : sm_E} {L : sm_S → Prop} {d : Nat} {vs : List Value} {x1 : Int32} {x2 : Int32}  {m : sm_M} {Q : Int32 → sm_M → Prop} (hly : ∀ S, L S → ly S) (hd : 2 ≤ d) 
  (h : ((m.1 16 10) ≤ x2 →
      Q x1 m) ∧
   (¬ (m.1 16 10) ≤ x2 →
      sm_callI E L mX2_signAt 1 0 0 [.ref (sm_B E + 16), .int x2] m (fun r_2 m_1 =>
      ∀ x1_3 : Int32, x1_3 = x1 + r_2 →
      ∀ x2_4 : Int32, x2_4 = x2 + 1 →
      gX2_writhe_4 E L d vs x1_3 x2_4 m_1 Q))) :
  gX2_writhe_4 E L d vs x1 x2 m Q := by
  refine sm_iload_n (Y := mX2_writhe) (pc := 4) 2 2 rfl rfl dX2_writhe_4 ?_
  refine sm_aload_n (Y := mX2_writhe) (pc := 5) 0 0 rfl rfl dX2_writhe_5 ?_
  refine gf_RX2_43 (Y := mX2_writhe) (pc := 6) rfl ((lk_16 hly) _) dX2_writhe_6 ?_
  refine sm_icmp_ge (Y := mX2_writhe) (pc := 9) 26 (by decide) dX2_writhe_9 (fun hc => ?_) (fun hc => ?_)
  · replace h := h.1 hc
    refine sm_iload_n (Y := mX2_writhe) (pc := 26) 1 1 rfl rfl dX2_writhe_26 ?_
    exact sm_iret (Y := mX2_writhe) (pc := 27) rfl rfl rfl dX2_writhe_27 ⟨_, rfl, h⟩
  · replace h := h.2 hc
    refine sm_iload_n (Y := mX2_writhe) (pc := 12) 1 1 rfl rfl dX2_writhe_12 ?_
    refine sm_aload_n (Y := mX2_writhe) (pc := 13) 0 0 rfl rfl dX2_writhe_13 ?_
    refine sm_iload_n (Y := mX2_writhe) (pc := 14) 2 2 rfl rfl dX2_writhe_14 ?_
    refine sm_iv_I (Y := mX2_writhe) (pc := 15) (As := [.int x2]) (a := 16) fX2_signAt wRX2_114 (lk_16 hly) (by decide) rfl rfl rfl (Nat.le_trans (by decide) hd) (Nat.le_of_ble_eq_true rfl) ⟨Nat.le_refl _, Nat.le_refl _⟩ dX2_writhe_15 rfl (sm_monoI h (fun r_2 m_1 h => ?_))
    refine sm_iadd (Y := mX2_writhe) (pc := 18) dX2_writhe_18 ?_
    refine sm_istore_n (Y := mX2_writhe) (pc := 19) (fun y => [(1, .int y), (0, .ref (sm_B E + 16)), (2, .int x2)]) 1 rfl (by decide) (fun _ => rfl) dX2_writhe_19 (fun x1_3 ex1_3 => ?_)
    replace h := h x1_3 ex1_3
    refine sm_iinc (Y := mX2_writhe) (pc := 20) (fun y => [(2, .int y), (1, .int x1_3), (0, .ref (sm_B E + 16))]) 2 2 rfl (by decide) (fun _ => rfl) dX2_writhe_20 (fun x2_4 ex2_4 => ?_)
    replace h := h x2_4 ex2_4
    refine sm_goto (Y := mX2_writhe) (pc := 23) 4 (by decide) dX2_writhe_23 ?_
    refine sm_sub [2, 1, 0] rfl ?_
    exact h
theorem dX2_writhe_0 : decode cX2_writhe 0 = .ok (.iconst 0, 1) := dk_iconst_0 (by decide +kernel)
theorem dX2_writhe_1 : decode cX2_writhe 1 = .ok (.istore_n 1, 1) := dk_istore_n_1 (by decide +kernel)
theorem dX2_writhe_2 : decode cX2_writhe 2 = .ok (.iconst 0, 1) := dk_iconst_0 (by decide +kernel)
theorem dX2_writhe_3 : decode cX2_writhe 3 = .ok (.istore_n 2, 1) := dk_istore_n_2 (by decide +kernel)
set_option maxRecDepth 20000 in
theorem vX2_writhe_0 {E : sm_E} {L : sm_S → Prop} {d : Nat}   {m : sm_M} {Q : Int32 → sm_M → Prop}  (hd : 2 ≤ d) 
  (h : gX2_writhe_4 E L d ([.ref (sm_B E + 16)]) 0 0 m Q) :
  sm_callI E L mX2_writhe d 0 0 [.ref (sm_B E + 16)] m Q := by
  refine sm_enter (by decide +kernel) (by simp [lg_sl, Value.category]) ?_
  refine sm_iconst (Y := mX2_writhe) (pc := 0) 0 (by decide) dX2_writhe_0 ?_
  refine sm_istore0_n (Y := mX2_writhe) (pc := 1) [(1, .int 0), (0, .ref (sm_B E + 16))] 1 rfl (by decide) rfl dX2_writhe_1 ?_
  refine sm_iconst (Y := mX2_writhe) (pc := 2) 0 (by decide) dX2_writhe_2 ?_
  refine sm_istore0_n (Y := mX2_writhe) (pc := 3) [(2, .int 0), (1, .int 0), (0, .ref (sm_B E + 16))] 2 rfl (by decide) rfl dX2_writhe_3 ?_
  refine sm_sub [2, 1, 0] rfl ?_
  exact h
abbrev mX2_linking : sm_Y := (yX2_linking, cX2_linking, 7, (some FieldType.int))
theorem fX2_linking : sm_mi mX2_linking RX2 2 := ⟨sm_in 828 (by decide +kernel) (by decide +kernel), sm_in 826 (by decide +kernel) (by decide +kernel), sm_in 827 (by decide +kernel) (by decide +kernel), sm_in 87 (by decide +kernel) (by decide +kernel), rfl, ⟨by decide +kernel, by decide +kernel, by decide +kernel⟩, by decide⟩
def gX2_linking_42 (E : sm_E) (L : sm_S → Prop) (d : Nat) (vs : List Value) (x1 : Int32) (x2 : Int32) (x3 : Int32) (x4 : Int32) (x5 : Int32) (x6 : Int32) (m : sm_M) (Q : Int32 → sm_M → Prop) : Prop := sm_go E L mX2_linking d 0 0 vs 42 [(0, .ref (sm_B E + 16)), (1, .int x1), (2, .int x2), (3, .int x3), (4, .int x4), (5, .int x5), (6, .int x6)] [] m 0 0 (sm_Z E L vs 0 0 (sm_QI Q))
def gX2_linking_5 (E : sm_E) (L : sm_S → Prop) (d : Nat) (vs : List Value) (x1 : Int32) (x2 : Int32) (x3 : Int32) (x4 : Int32) (m : sm_M) (Q : Int32 → sm_M → Prop) : Prop := sm_go E L mX2_linking d 0 0 vs 5 [(0, .ref (sm_B E + 16)), (1, .int x1), (2, .int x2), (3, .int x3), (4, .int x4)] [] m 0 0 (sm_Z E L vs 0 0 (sm_QI Q))
theorem dX2_linking_42 : decode cX2_linking 42 = .ok (.iload 5, 2) := dk_iload 5 (b := 5) (by decide +kernel) (by decide +kernel) (by decide +kernel)
theorem dX2_linking_44 : decode cX2_linking 44 = .ok (.iload_n 2, 1) := dk_iload_n_2 (by decide +kernel)
theorem dX2_linking_45 : decode cX2_linking 45 = .ok (.if_icmp .ne 18, 3) := dk_if_icmp_ne 18 (b1 := 0) (b2 := 18) (by decide +kernel) (by decide +kernel) (by decide +kernel) (by decide +kernel)
theorem dX2_linking_63 : decode cX2_linking 63 = .ok (.iinc 4 1, 3) := dk_iinc 4 1 (b1 := 4) (b2 := 1) (by decide +kernel) (by decide +kernel) (by decide +kernel) (by decide +kernel) (by decide +kernel)
theorem dX2_linking_66 : decode cX2_linking 66 = .ok (.goto (-61), 3) := dk_goto (-61) (b1 := 255) (b2 := 195) (by decide +kernel) (by decide +kernel) (by decide +kernel) (by decide +kernel)
theorem dX2_linking_48 : decode cX2_linking 48 = .ok (.iload 6, 2) := dk_iload 6 (b := 6) (by decide +kernel) (by decide +kernel) (by decide +kernel)
theorem dX2_linking_50 : decode cX2_linking 50 = .ok (.iload_n 1, 1) := dk_iload_n_1 (by decide +kernel)
theorem dX2_linking_51 : decode cX2_linking 51 = .ok (.if_icmp .ne 12, 3) := dk_if_icmp_ne 12 (b1 := 0) (b2 := 12) (by decide +kernel) (by decide +kernel) (by decide +kernel) (by decide +kernel)
theorem dX2_linking_54 : decode cX2_linking 54 = .ok (.iload_n 3, 1) := dk_iload_n_3 (by decide +kernel)
theorem dX2_linking_55 : decode cX2_linking 55 = .ok (.aload_n 0, 1) := dk_aload_n_0 (by decide +kernel)
theorem dX2_linking_56 : decode cX2_linking 56 = .ok (.iload 4, 2) := dk_iload 4 (b := 4) (by decide +kernel) (by decide +kernel) (by decide +kernel)
theorem dX2_linking_58 : decode cX2_linking 58 = .ok (.invokevirtual 114, 3) := dk_invokevirtual 114 (b1 := 0) (b2 := 114) (by decide +kernel) (by decide +kernel) (by decide +kernel) (by decide +kernel)
theorem dX2_linking_61 : decode cX2_linking 61 = .ok (.iadd, 1) := dk_iadd (by decide +kernel)
theorem dX2_linking_62 : decode cX2_linking 62 = .ok (.istore_n 3, 1) := dk_istore_n_3 (by decide +kernel)
set_option maxRecDepth 20000 in
theorem vX2_linking_42 {E : sm_E} {L : sm_S → Prop} {d : Nat} {vs : List Value} {x1 : Int32} {x2 : Int32} {x3 : Int32} {x4 : Int32} {x5 : Int32} {x6 : Int32}  {m : sm_M} {Q : Int32 → sm_M → Prop} (hly : ∀ S, L S → ly S) (hd : 2 ≤ d) 
  (h : (¬ x5 = x2 →
      ∀ x4_1 : Int32, x4_1 = x4 + 1 →
      gX2_linking_5 E L d vs x1 x2 x3 x4_1 m Q) ∧
   (x5 = x2 →
      (¬ x6 = x1 →
         ∀ x4_2 : Int32, x4_2 = x4 + 1 →
         gX2_linking_5 E L d vs x1 x2 x3 x4_2 m Q) ∧
      (x6 = x1 →
         sm_callI E L mX2_signAt 1 0 0 [.ref (sm_B E + 16), .int x4] m (fun r_4 m_3 =>
         ∀ x3_5 : Int32, x3_5 = x3 + r_4 →
         ∀ x4_6 : Int32, x4_6 = x4 + 1 →
         gX2_linking_5 E L d vs x1 x2 x3_5 x4_6 m_3 Q)))) :
  gX2_linking_42 E L d vs x1 x2 x3 x4 x5 x6 m Q := by
  refine sm_iload (Y := mX2_linking) (pc := 42) 5 5 rfl dX2_linking_42 ?_
  refine sm_iload_n (Y := mX2_linking) (pc := 44) 2 2 rfl rfl dX2_linking_44 ?_
  refine sm_icmp_ne (Y := mX2_linking) (pc := 45) 63 (by decide) dX2_linking_45 (fun hc => ?_) (fun hc => ?_)
  · replace h := h.1 hc
    refine sm_iinc (Y := mX2_linking) (pc := 63) (fun y => [(4, .int y), (0, .ref (sm_B E + 16)), (1, .int x1), (2, .int x2), (3, .int x3), (5, .int x5), (6, .int x6)]) 4 4 rfl (by decide) (fun _ => rfl) dX2_linking_63 (fun x4_1 ex4_1 => ?_)
    replace h := h x4_1 ex4_1
    refine sm_goto (Y := mX2_linking) (pc := 66) 5 (by decide) dX2_linking_66 ?_
    refine sm_sub [1, 2, 3, 4, 0] rfl ?_
    exact h
  · replace h := h.2 hc
    refine sm_iload (Y := mX2_linking) (pc := 48) 6 6 rfl dX2_linking_48 ?_
    refine sm_iload_n (Y := mX2_linking) (pc := 50) 1 1 rfl rfl dX2_linking_50 ?_
    refine sm_icmp_ne (Y := mX2_linking) (pc := 51) 63 (by decide) dX2_linking_51 (fun hc => ?_) (fun hc => ?_)
    · replace h := h.1 hc
      refine sm_iinc (Y := mX2_linking) (pc := 63) (fun y => [(4, .int y), (0, .ref (sm_B E + 16)), (1, .int x1), (2, .int x2), (3, .int x3), (5, .int x5), (6, .int x6)]) 4 4 rfl (by decide) (fun _ => rfl) dX2_linking_63 (fun x4_2 ex4_2 => ?_)
      replace h := h x4_2 ex4_2
      refine sm_goto (Y := mX2_linking) (pc := 66) 5 (by decide) dX2_linking_66 ?_
      refine sm_sub [1, 2, 3, 4, 0] rfl ?_
      exact h
    · replace h := h.2 hc
      refine sm_iload_n (Y := mX2_linking) (pc := 54) 3 3 rfl rfl dX2_linking_54 ?_
      refine sm_aload_n (Y := mX2_linking) (pc := 55) 0 0 rfl rfl dX2_linking_55 ?_
      refine sm_iload (Y := mX2_linking) (pc := 56) 4 4 rfl dX2_linking_56 ?_
      refine sm_iv_I (Y := mX2_linking) (pc := 58) (As := [.int x4]) (a := 16) fX2_signAt wRX2_114 (lk_16 hly) (by decide) rfl rfl rfl (Nat.le_trans (by decide) hd) (Nat.le_of_ble_eq_true rfl) ⟨Nat.le_refl _, Nat.le_refl _⟩ dX2_linking_58 rfl (sm_monoI h (fun r_4 m_3 h => ?_))
      refine sm_iadd (Y := mX2_linking) (pc := 61) dX2_linking_61 ?_
      refine sm_istore_n (Y := mX2_linking) (pc := 62) (fun y => [(3, .int y), (0, .ref (sm_B E + 16)), (1, .int x1), (2, .int x2), (4, .int x4), (5, .int x5), (6, .int x6)]) 3 rfl (by decide) (fun _ => rfl) dX2_linking_62 (fun x3_5 ex3_5 => ?_)
      replace h := h x3_5 ex3_5
      refine sm_iinc (Y := mX2_linking) (pc := 63) (fun y => [(4, .int y), (3, .int x3_5), (0, .ref (sm_B E + 16)), (1, .int x1), (2, .int x2), (5, .int x5), (6, .int x6)]) 4 4 rfl (by decide) (fun _ => rfl) dX2_linking_63 (fun x4_6 ex4_6 => ?_)
      replace h := h x4_6 ex4_6
      refine sm_goto (Y := mX2_linking) (pc := 66) 5 (by decide) dX2_linking_66 ?_
      refine sm_sub [2, 3, 4, 1, 0] rfl ?_
      exact h
theorem dX2_linking_5 : decode cX2_linking 5 = .ok (.iload 4, 2) := dk_iload 4 (b := 4) (by decide +kernel) (by decide +kernel) (by decide +kernel)
theorem dX2_linking_7 : decode cX2_linking 7 = .ok (.aload_n 0, 1) := dk_aload_n_0 (by decide +kernel)
theorem dX2_linking_8 : decode cX2_linking 8 = .ok (.getfield 43, 3) := dk_getfield 43 (b1 := 0) (b2 := 43) (by decide +kernel) (by decide +kernel) (by decide +kernel) (by decide +kernel)
theorem dX2_linking_11 : decode cX2_linking 11 = .ok (.if_icmp .ge 58, 3) := dk_if_icmp_ge 58 (b1 := 0) (b2 := 58) (by decide +kernel) (by decide +kernel) (by decide +kernel) (by decide +kernel)
theorem dX2_linking_69 : decode cX2_linking 69 = .ok (.iload_n 3, 1) := dk_iload_n_3 (by decide +kernel)
theorem dX2_linking_70 : decode cX2_linking 70 = .ok (.iconst 2, 1) := dk_iconst_2 (by decide +kernel)
theorem dX2_linking_71 : decode cX2_linking 71 = .ok (.idiv, 1) := dk_idiv (by decide +kernel)
theorem dX2_linking_72 : decode cX2_linking 72 = .ok (.ireturn, 1) := dk_ireturn (by decide +kernel)
theorem dX2_linking_14 : decode cX2_linking 14 = .ok (.aload_n 0, 1) := dk_aload_n_0 (by decide +kernel)
theorem dX2_linking_15 : decode cX2_linking 15 = .ok (.iload 4, 2) := dk_iload 4 (b := 4) (by decide +kernel) (by decide +kernel) (by decide +kernel)
theorem wRX2_117 : Cond.methodLink RX2 117 yX2_overAt ∈ sm_T := sm_in 829 (by decide +kernel) (by decide +kernel)
theorem dX2_linking_17 : decode cX2_linking 17 = .ok (.invokevirtual 117, 3) := dk_invokevirtual 117 (b1 := 0) (b2 := 117) (by decide +kernel) (by decide +kernel) (by decide +kernel) (by decide +kernel)
theorem dX2_linking_20 : decode cX2_linking 20 = .ok (.istore 5, 2) := dk_istore 5 (b := 5) (by decide +kernel) (by decide +kernel) (by decide +kernel)
theorem dX2_linking_22 : decode cX2_linking 22 = .ok (.aload_n 0, 1) := dk_aload_n_0 (by decide +kernel)
theorem dX2_linking_23 : decode cX2_linking 23 = .ok (.iload 4, 2) := dk_iload 4 (b := 4) (by decide +kernel) (by decide +kernel) (by decide +kernel)
theorem wRX2_120 : Cond.methodLink RX2 120 yX2_underAt ∈ sm_T := sm_in 830 (by decide +kernel) (by decide +kernel)
theorem dX2_linking_25 : decode cX2_linking 25 = .ok (.invokevirtual 120, 3) := dk_invokevirtual 120 (b1 := 0) (b2 := 120) (by decide +kernel) (by decide +kernel) (by decide +kernel) (by decide +kernel)
theorem dX2_linking_28 : decode cX2_linking 28 = .ok (.istore 6, 2) := dk_istore 6 (b := 6) (by decide +kernel) (by decide +kernel) (by decide +kernel)
theorem dX2_linking_30 : decode cX2_linking 30 = .ok (.iload 5, 2) := dk_iload 5 (b := 5) (by decide +kernel) (by decide +kernel) (by decide +kernel)
theorem dX2_linking_32 : decode cX2_linking 32 = .ok (.iload_n 1, 1) := dk_iload_n_1 (by decide +kernel)
theorem dX2_linking_33 : decode cX2_linking 33 = .ok (.if_icmp .ne 9, 3) := dk_if_icmp_ne 9 (b1 := 0) (b2 := 9) (by decide +kernel) (by decide +kernel) (by decide +kernel) (by decide +kernel)
theorem dX2_linking_36 : decode cX2_linking 36 = .ok (.iload 6, 2) := dk_iload 6 (b := 6) (by decide +kernel) (by decide +kernel) (by decide +kernel)
theorem dX2_linking_38 : decode cX2_linking 38 = .ok (.iload_n 2, 1) := dk_iload_n_2 (by decide +kernel)
theorem dX2_linking_39 : decode cX2_linking 39 = .ok (.if_icmp .eq 15, 3) := dk_if_icmp_eq 15 (b1 := 0) (b2 := 15) (by decide +kernel) (by decide +kernel) (by decide +kernel) (by decide +kernel)
set_option maxRecDepth 20000 in
theorem vX2_linking_5 {E : sm_E} {L : sm_S → Prop} {d : Nat} {vs : List Value} {x1 : Int32} {x2 : Int32} {x3 : Int32} {x4 : Int32}  {m : sm_M} {Q : Int32 → sm_M → Prop} (hly : ∀ S, L S → ly S) (hd : 2 ≤ d) 
  (h : ((m.1 16 10) ≤ x4 →
      Q (x3 / 2) m) ∧
   (¬ (m.1 16 10) ≤ x4 →
      sm_callI E L mX2_overAt 1 0 0 [.ref (sm_B E + 16), .int x4] m (fun r_2 m_1 =>
      sm_callI E L mX2_underAt 1 0 0 [.ref (sm_B E + 16), .int x4] m_1 (fun r_5 m_4 =>
      (¬ r_2 = x1 →
         gX2_linking_42 E L d vs x1 x2 x3 x4 r_2 r_5 m_4 Q) ∧
      (r_2 = x1 →
         (r_5 = x2 →
            sm_callI E L mX2_signAt 1 0 0 [.ref (sm_B E + 16), .int x4] m_4 (fun r_8 m_7 =>
            ∀ x3_9 : Int32, x3_9 = x3 + r_8 →
            ∀ x4_10 : Int32, x4_10 = x4 + 1 →
            gX2_linking_5 E L d vs x1 x2 x3_9 x4_10 m_7 Q)) ∧
         (¬ r_5 = x2 →
            gX2_linking_42 E L d vs x1 x2 x3 x4 r_2 r_5 m_4 Q)))))) :
  gX2_linking_5 E L d vs x1 x2 x3 x4 m Q := by
  refine sm_iload (Y := mX2_linking) (pc := 5) 4 4 rfl dX2_linking_5 ?_
  refine sm_aload_n (Y := mX2_linking) (pc := 7) 0 0 rfl rfl dX2_linking_7 ?_
  refine gf_RX2_43 (Y := mX2_linking) (pc := 8) rfl ((lk_16 hly) _) dX2_linking_8 ?_
  refine sm_icmp_ge (Y := mX2_linking) (pc := 11) 69 (by decide) dX2_linking_11 (fun hc => ?_) (fun hc => ?_)
  · replace h := h.1 hc
    refine sm_iload_n (Y := mX2_linking) (pc := 69) 3 3 rfl rfl dX2_linking_69 ?_
    refine sm_iconst (Y := mX2_linking) (pc := 70) 2 (by decide) dX2_linking_70 ?_
    refine sm_idiv (Y := mX2_linking) (pc := 71) (by decide) dX2_linking_71 ?_
    exact sm_iret (Y := mX2_linking) (pc := 72) rfl rfl rfl dX2_linking_72 ⟨_, rfl, h⟩
  · replace h := h.2 hc
    refine sm_aload_n (Y := mX2_linking) (pc := 14) 0 0 rfl rfl dX2_linking_14 ?_
    refine sm_iload (Y := mX2_linking) (pc := 15) 4 4 rfl dX2_linking_15 ?_
    refine sm_iv_I (Y := mX2_linking) (pc := 17) (As := [.int x4]) (a := 16) fX2_overAt wRX2_117 (lk_16 hly) (by decide) rfl rfl rfl (Nat.le_trans (by decide) hd) (Nat.le_of_ble_eq_true rfl) ⟨Nat.le_refl _, Nat.le_refl _⟩ dX2_linking_17 rfl (sm_monoI h (fun r_2 m_1 h => ?_))
    refine sm_istore0 (Y := mX2_linking) (pc := 20) [(5, .int r_2), (0, .ref (sm_B E + 16)), (1, .int x1), (2, .int x2), (3, .int x3), (4, .int x4)] 5 (by decide) rfl dX2_linking_20 ?_
    refine sm_aload_n (Y := mX2_linking) (pc := 22) 1 0 rfl rfl dX2_linking_22 ?_
    refine sm_iload (Y := mX2_linking) (pc := 23) 5 4 rfl dX2_linking_23 ?_
    refine sm_iv_I (Y := mX2_linking) (pc := 25) (As := [.int x4]) (a := 16) fX2_underAt wRX2_120 (lk_16 hly) (by decide) rfl rfl rfl (Nat.le_trans (by decide) hd) (Nat.le_of_ble_eq_true rfl) ⟨Nat.le_refl _, Nat.le_refl _⟩ dX2_linking_25 rfl (sm_monoI h (fun r_5 m_4 h => ?_))
    refine sm_istore0 (Y := mX2_linking) (pc := 28) [(6, .int r_5), (5, .int r_2), (0, .ref (sm_B E + 16)), (1, .int x1), (2, .int x2), (3, .int x3), (4, .int x4)] 6 (by decide) rfl dX2_linking_28 ?_
    refine sm_iload (Y := mX2_linking) (pc := 30) 1 5 rfl dX2_linking_30 ?_
    refine sm_iload_n (Y := mX2_linking) (pc := 32) 3 1 rfl rfl dX2_linking_32 ?_
    refine sm_icmp_ne (Y := mX2_linking) (pc := 33) 42 (by decide) dX2_linking_33 (fun hc => ?_) (fun hc => ?_)
    · replace h := h.1 hc
      refine sm_sub [2, 3, 4, 5, 6, 1, 0] rfl ?_
      exact h
    · replace h := h.2 hc
      refine sm_iload (Y := mX2_linking) (pc := 36) 0 6 rfl dX2_linking_36 ?_
      refine sm_iload_n (Y := mX2_linking) (pc := 38) 4 2 rfl rfl dX2_linking_38 ?_
      refine sm_icmp_eq (Y := mX2_linking) (pc := 39) 54 (by decide) dX2_linking_39 (fun hc => ?_) (fun hc => ?_)
      · replace h := h.1 hc
        refine sm_iload_n (Y := mX2_linking) (pc := 54) 5 3 rfl rfl dX2_linking_54 ?_
        refine sm_aload_n (Y := mX2_linking) (pc := 55) 2 0 rfl rfl dX2_linking_55 ?_
        refine sm_iload (Y := mX2_linking) (pc := 56) 6 4 rfl dX2_linking_56 ?_
        refine sm_iv_I (Y := mX2_linking) (pc := 58) (As := [.int x4]) (a := 16) fX2_signAt wRX2_114 (lk_16 hly) (by decide) rfl rfl rfl (Nat.le_trans (by decide) hd) (Nat.le_of_ble_eq_true rfl) ⟨Nat.le_refl _, Nat.le_refl _⟩ dX2_linking_58 rfl (sm_monoI h (fun r_8 m_7 h => ?_))
        refine sm_iadd (Y := mX2_linking) (pc := 61) dX2_linking_61 ?_
        refine sm_istore_n (Y := mX2_linking) (pc := 62) (fun y => [(3, .int y), (6, .int r_5), (5, .int r_2), (0, .ref (sm_B E + 16)), (1, .int x1), (2, .int x2), (4, .int x4)]) 3 rfl (by decide) (fun _ => rfl) dX2_linking_62 (fun x3_9 ex3_9 => ?_)
        replace h := h x3_9 ex3_9
        refine sm_iinc (Y := mX2_linking) (pc := 63) (fun y => [(4, .int y), (3, .int x3_9), (6, .int r_5), (5, .int r_2), (0, .ref (sm_B E + 16)), (1, .int x1), (2, .int x2)]) 6 4 rfl (by decide) (fun _ => rfl) dX2_linking_63 (fun x4_10 ex4_10 => ?_)
        replace h := h x4_10 ex4_10
        refine sm_goto (Y := mX2_linking) (pc := 66) 5 (by decide) dX2_linking_66 ?_
        refine sm_sub [4, 5, 6, 1, 0] rfl ?_
        exact h
      · replace h := h.2 hc
        refine sm_sub [2, 3, 4, 5, 6, 1, 0] rfl ?_
        exact h
theorem dX2_linking_0 : decode cX2_linking 0 = .ok (.iconst 0, 1) := dk_iconst_0 (by decide +kernel)
theorem dX2_linking_1 : decode cX2_linking 1 = .ok (.istore_n 3, 1) := dk_istore_n_3 (by decide +kernel)
theorem dX2_linking_2 : decode cX2_linking 2 = .ok (.iconst 0, 1) := dk_iconst_0 (by decide +kernel)
theorem dX2_linking_3 : decode cX2_linking 3 = .ok (.istore 4, 2) := dk_istore 4 (b := 4) (by decide +kernel) (by decide +kernel) (by decide +kernel)
set_option maxRecDepth 20000 in
theorem vX2_linking_0 {E : sm_E} {L : sm_S → Prop} {d : Nat} {x1 : Int32} {x2 : Int32}  {m : sm_M} {Q : Int32 → sm_M → Prop}  (hd : 2 ≤ d) 
  (h : gX2_linking_5 E L d ([.ref (sm_B E + 16), .int x1, .int x2]) x1 x2 0 0 m Q) :
  sm_callI E L mX2_linking d 0 0 [.ref (sm_B E + 16), .int x1, .int x2] m Q := by
  refine sm_enter (by decide +kernel) (by simp [lg_sl, Value.category]) ?_
  refine sm_iconst (Y := mX2_linking) (pc := 0) 0 (by decide) dX2_linking_0 ?_
  refine sm_istore0_n (Y := mX2_linking) (pc := 1) [(3, .int 0), (0, .ref (sm_B E + 16)), (1, .int x1), (2, .int x2)] 3 rfl (by decide) rfl dX2_linking_1 ?_
  refine sm_iconst (Y := mX2_linking) (pc := 2) 0 (by decide) dX2_linking_2 ?_
  refine sm_istore0 (Y := mX2_linking) (pc := 3) [(4, .int 0), (3, .int 0), (0, .ref (sm_B E + 16)), (1, .int x1), (2, .int x2)] 4 (by decide) rfl dX2_linking_3 ?_
  refine sm_sub [2, 3, 4, 1, 0] rfl ?_
  exact h
theorem dX2_passesOf_0 : decode cX2_passesOf 0 = .ok (.aload_n 0, 1) := dk_aload_n_0 (by decide +kernel)
theorem dX2_passesOf_1 : decode cX2_passesOf 1 = .ok (.getfield 34, 3) := dk_getfield 34 (b1 := 0) (b2 := 34) (by decide +kernel) (by decide +kernel) (by decide +kernel) (by decide +kernel)
theorem dX2_passesOf_4 : decode cX2_passesOf 4 = .ok (.iload_n 1, 1) := dk_iload_n_1 (by decide +kernel)
theorem dX2_passesOf_5 : decode cX2_passesOf 5 = .ok (.iconst 1, 1) := dk_iconst_1 (by decide +kernel)
theorem dX2_passesOf_6 : decode cX2_passesOf 6 = .ok (.iadd, 1) := dk_iadd (by decide +kernel)
theorem dX2_passesOf_7 : decode cX2_passesOf 7 = .ok (.iaload, 1) := dk_iaload (by decide +kernel)
theorem dX2_passesOf_8 : decode cX2_passesOf 8 = .ok (.aload_n 0, 1) := dk_aload_n_0 (by decide +kernel)
theorem dX2_passesOf_9 : decode cX2_passesOf 9 = .ok (.getfield 34, 3) := dk_getfield 34 (b1 := 0) (b2 := 34) (by decide +kernel) (by decide +kernel) (by decide +kernel) (by decide +kernel)
theorem dX2_passesOf_12 : decode cX2_passesOf 12 = .ok (.iload_n 1, 1) := dk_iload_n_1 (by decide +kernel)
theorem dX2_passesOf_13 : decode cX2_passesOf 13 = .ok (.iaload, 1) := dk_iaload (by decide +kernel)
theorem dX2_passesOf_14 : decode cX2_passesOf 14 = .ok (.isub, 1) := dk_isub (by decide +kernel)
theorem dX2_passesOf_15 : decode cX2_passesOf 15 = .ok (.ireturn, 1) := dk_ireturn (by decide +kernel)
set_option maxRecDepth 20000 in
theorem vX2_passesOf_0 {E : sm_E} {L : sm_S → Prop} {d : Nat} {x1 : Int32}  {m : sm_M} {Q : Int32 → sm_M → Prop} (hly : ∀ S, L S → ly S) (hd : 1 ≤ d) 
  (h : (vp_in (x1 + 1) 49) ∧ (vp_in x1 49) ∧ Q ((m.1 24 (x1 + 1).toNatClampNeg) - (m.1 24 x1.toNatClampNeg)) m) :
  sm_callI E L mX2_passesOf d 0 0 [.ref (sm_B E + 16), .int x1] m Q := by
  refine sm_enter (by decide +kernel) (by simp [lg_sl, Value.category]) ?_
  refine sm_aload_n (Y := mX2_passesOf) (pc := 0) 0 0 rfl rfl dX2_passesOf_0 ?_
  refine gf_RX2_34 (Y := mX2_passesOf) (pc := 1) (b := 24) rfl ((lk_16 hly) _) (lf_16_7 hly _) dX2_passesOf_1 ?_
  refine sm_iload_n (Y := mX2_passesOf) (pc := 4) 1 1 rfl rfl dX2_passesOf_4 ?_
  refine sm_iconst (Y := mX2_passesOf) (pc := 5) 1 (by decide) dX2_passesOf_5 ?_
  refine sm_iadd (Y := mX2_passesOf) (pc := 6) dX2_passesOf_6 ?_
  obtain ⟨hn_1, h⟩ := h
  refine sm_iald (Y := mX2_passesOf) (pc := 7) (la_24 hly _) hn_1 dX2_passesOf_7 ?_
  refine sm_aload_n (Y := mX2_passesOf) (pc := 8) 0 0 rfl rfl dX2_passesOf_8 ?_
  refine gf_RX2_34 (Y := mX2_passesOf) (pc := 9) (b := 24) rfl ((lk_16 hly) _) (lf_16_7 hly _) dX2_passesOf_9 ?_
  refine sm_iload_n (Y := mX2_passesOf) (pc := 12) 1 1 rfl rfl dX2_passesOf_12 ?_
  obtain ⟨hn_2, h⟩ := h
  refine sm_iald (Y := mX2_passesOf) (pc := 13) (la_24 hly _) hn_2 dX2_passesOf_13 ?_
  refine sm_isub (Y := mX2_passesOf) (pc := 14) dX2_passesOf_14 ?_
  exact sm_iret (Y := mX2_passesOf) (pc := 15) rfl rfl rfl dX2_passesOf_15 ⟨_, rfl, h⟩
theorem dX2_isUnder_0 : decode cX2_isUnder 0 = .ok (.aload_n 0, 1) := dk_aload_n_0 (by decide +kernel)
theorem dX2_isUnder_1 : decode cX2_isUnder 1 = .ok (.getfield 31, 3) := dk_getfield 31 (b1 := 0) (b2 := 31) (by decide +kernel) (by decide +kernel) (by decide +kernel) (by decide +kernel)
theorem dX2_isUnder_4 : decode cX2_isUnder 4 = .ok (.aload_n 0, 1) := dk_aload_n_0 (by decide +kernel)
theorem dX2_isUnder_5 : decode cX2_isUnder 5 = .ok (.getfield 34, 3) := dk_getfield 34 (b1 := 0) (b2 := 34) (by decide +kernel) (by decide +kernel) (by decide +kernel) (by decide +kernel)
theorem dX2_isUnder_8 : decode cX2_isUnder 8 = .ok (.iload_n 1, 1) := dk_iload_n_1 (by decide +kernel)
theorem dX2_isUnder_9 : decode cX2_isUnder 9 = .ok (.iaload, 1) := dk_iaload (by decide +kernel)
theorem dX2_isUnder_10 : decode cX2_isUnder 10 = .ok (.iload_n 2, 1) := dk_iload_n_2 (by decide +kernel)
theorem dX2_isUnder_11 : decode cX2_isUnder 11 = .ok (.iadd, 1) := dk_iadd (by decide +kernel)
theorem dX2_isUnder_12 : decode cX2_isUnder 12 = .ok (.iaload, 1) := dk_iaload (by decide +kernel)
theorem dX2_isUnder_13 : decode cX2_isUnder 13 = .ok (.iconst 2, 1) := dk_iconst_2 (by decide +kernel)
theorem dX2_isUnder_14 : decode cX2_isUnder 14 = .ok (.irem, 1) := dk_irem (by decide +kernel)
theorem dX2_isUnder_15 : decode cX2_isUnder 15 = .ok (.iconst 1, 1) := dk_iconst_1 (by decide +kernel)
theorem dX2_isUnder_16 : decode cX2_isUnder 16 = .ok (.if_icmp .ne 7, 3) := dk_if_icmp_ne 7 (b1 := 0) (b2 := 7) (by decide +kernel) (by decide +kernel) (by decide +kernel) (by decide +kernel)
theorem dX2_isUnder_23 : decode cX2_isUnder 23 = .ok (.iconst 0, 1) := dk_iconst_0 (by decide +kernel)
theorem dX2_isUnder_24 : decode cX2_isUnder 24 = .ok (.ireturn, 1) := dk_ireturn (by decide +kernel)
theorem dX2_isUnder_19 : decode cX2_isUnder 19 = .ok (.iconst 1, 1) := dk_iconst_1 (by decide +kernel)
theorem dX2_isUnder_20 : decode cX2_isUnder 20 = .ok (.goto 4, 3) := dk_goto 4 (b1 := 0) (b2 := 4) (by decide +kernel) (by decide +kernel) (by decide +kernel) (by decide +kernel)
set_option maxRecDepth 20000 in
theorem vX2_isUnder_0 {E : sm_E} {L : sm_S → Prop} {d : Nat} {x1 : Int32} {x2 : Int32}  {m : sm_M} {Q : Int32 → sm_M → Prop} (hly : ∀ S, L S → ly S) (hd : 1 ≤ d) 
  (h : (vp_in x1 49) ∧ (vp_in ((m.1 24 x1.toNatClampNeg) + x2) 48) ∧ (¬ (sm_rem (m.1 23 ((m.1 24 x1.toNatClampNeg) + x2).toNatClampNeg) 2) = 1 →
      Q 0 m) ∧
   ((sm_rem (m.1 23 ((m.1 24 x1.toNatClampNeg) + x2).toNatClampNeg) 2) = 1 →
      Q 1 m)) :
  sm_callI E L mX2_isUnder d 0 0 [.ref (sm_B E + 16), .int x1, .int x2] m Q := by
  refine sm_enter (by decide +kernel) (by simp [lg_sl, Value.category]) ?_
  refine sm_aload_n (Y := mX2_isUnder) (pc := 0) 0 0 rfl rfl dX2_isUnder_0 ?_
  refine gf_RX2_31 (Y := mX2_isUnder) (pc := 1) (b := 23) rfl ((lk_16 hly) _) (lf_16_6 hly _) dX2_isUnder_1 ?_
  refine sm_aload_n (Y := mX2_isUnder) (pc := 4) 0 0 rfl rfl dX2_isUnder_4 ?_
  refine gf_RX2_34 (Y := mX2_isUnder) (pc := 5) (b := 24) rfl ((lk_16 hly) _) (lf_16_7 hly _) dX2_isUnder_5 ?_
  refine sm_iload_n (Y := mX2_isUnder) (pc := 8) 1 1 rfl rfl dX2_isUnder_8 ?_
  obtain ⟨hn_1, h⟩ := h
  refine sm_iald (Y := mX2_isUnder) (pc := 9) (la_24 hly _) hn_1 dX2_isUnder_9 ?_
  refine sm_iload_n (Y := mX2_isUnder) (pc := 10) 2 2 rfl rfl dX2_isUnder_10 ?_
  refine sm_iadd (Y := mX2_isUnder) (pc := 11) dX2_isUnder_11 ?_
  obtain ⟨hn_2, h⟩ := h
  refine sm_iald (Y := mX2_isUnder) (pc := 12) (la_23 hly _) hn_2 dX2_isUnder_12 ?_
  refine sm_iconst (Y := mX2_isUnder) (pc := 13) 2 (by decide) dX2_isUnder_13 ?_
  refine sm_irem (Y := mX2_isUnder) (pc := 14) (by decide) dX2_isUnder_14 ?_
  refine sm_iconst (Y := mX2_isUnder) (pc := 15) 1 (by decide) dX2_isUnder_15 ?_
  refine sm_icmp_ne (Y := mX2_isUnder) (pc := 16) 23 (by decide) dX2_isUnder_16 (fun hc => ?_) (fun hc => ?_)
  · replace h := h.1 hc
    refine sm_iconst (Y := mX2_isUnder) (pc := 23) 0 (by decide) dX2_isUnder_23 ?_
    exact sm_zret (Y := mX2_isUnder) (pc := 24) rfl (by decide) rfl rfl dX2_isUnder_24 ⟨_, rfl, h⟩
  · replace h := h.2 hc
    refine sm_iconst (Y := mX2_isUnder) (pc := 19) 1 (by decide) dX2_isUnder_19 ?_
    refine sm_goto (Y := mX2_isUnder) (pc := 20) 24 (by decide) dX2_isUnder_20 ?_
    exact sm_zret (Y := mX2_isUnder) (pc := 24) rfl (by decide) rfl rfl dX2_isUnder_24 ⟨_, rfl, h⟩
theorem dX2_crossingOf_0 : decode cX2_crossingOf 0 = .ok (.aload_n 0, 1) := dk_aload_n_0 (by decide +kernel)
theorem dX2_crossingOf_1 : decode cX2_crossingOf 1 = .ok (.getfield 31, 3) := dk_getfield 31 (b1 := 0) (b2 := 31) (by decide +kernel) (by decide +kernel) (by decide +kernel) (by decide +kernel)
theorem dX2_crossingOf_4 : decode cX2_crossingOf 4 = .ok (.aload_n 0, 1) := dk_aload_n_0 (by decide +kernel)
theorem dX2_crossingOf_5 : decode cX2_crossingOf 5 = .ok (.getfield 34, 3) := dk_getfield 34 (b1 := 0) (b2 := 34) (by decide +kernel) (by decide +kernel) (by decide +kernel) (by decide +kernel)
theorem dX2_crossingOf_8 : decode cX2_crossingOf 8 = .ok (.iload_n 1, 1) := dk_iload_n_1 (by decide +kernel)
theorem dX2_crossingOf_9 : decode cX2_crossingOf 9 = .ok (.iaload, 1) := dk_iaload (by decide +kernel)
theorem dX2_crossingOf_10 : decode cX2_crossingOf 10 = .ok (.iload_n 2, 1) := dk_iload_n_2 (by decide +kernel)
theorem dX2_crossingOf_11 : decode cX2_crossingOf 11 = .ok (.iadd, 1) := dk_iadd (by decide +kernel)
theorem dX2_crossingOf_12 : decode cX2_crossingOf 12 = .ok (.iaload, 1) := dk_iaload (by decide +kernel)
theorem dX2_crossingOf_13 : decode cX2_crossingOf 13 = .ok (.iconst 2, 1) := dk_iconst_2 (by decide +kernel)
theorem dX2_crossingOf_14 : decode cX2_crossingOf 14 = .ok (.idiv, 1) := dk_idiv (by decide +kernel)
theorem dX2_crossingOf_15 : decode cX2_crossingOf 15 = .ok (.ireturn, 1) := dk_ireturn (by decide +kernel)
set_option maxRecDepth 20000 in
theorem vX2_crossingOf_0 {E : sm_E} {L : sm_S → Prop} {d : Nat} {x1 : Int32} {x2 : Int32}  {m : sm_M} {Q : Int32 → sm_M → Prop} (hly : ∀ S, L S → ly S) (hd : 1 ≤ d) 
  (h : (vp_in x1 49) ∧ (vp_in ((m.1 24 x1.toNatClampNeg) + x2) 48) ∧ Q ((m.1 23 ((m.1 24 x1.toNatClampNeg) + x2).toNatClampNeg) / 2) m) :
  sm_callI E L mX2_crossingOf d 0 0 [.ref (sm_B E + 16), .int x1, .int x2] m Q := by
  refine sm_enter (by decide +kernel) (by simp [lg_sl, Value.category]) ?_
  refine sm_aload_n (Y := mX2_crossingOf) (pc := 0) 0 0 rfl rfl dX2_crossingOf_0 ?_
  refine gf_RX2_31 (Y := mX2_crossingOf) (pc := 1) (b := 23) rfl ((lk_16 hly) _) (lf_16_6 hly _) dX2_crossingOf_1 ?_
  refine sm_aload_n (Y := mX2_crossingOf) (pc := 4) 0 0 rfl rfl dX2_crossingOf_4 ?_
  refine gf_RX2_34 (Y := mX2_crossingOf) (pc := 5) (b := 24) rfl ((lk_16 hly) _) (lf_16_7 hly _) dX2_crossingOf_5 ?_
  refine sm_iload_n (Y := mX2_crossingOf) (pc := 8) 1 1 rfl rfl dX2_crossingOf_8 ?_
  obtain ⟨hn_1, h⟩ := h
  refine sm_iald (Y := mX2_crossingOf) (pc := 9) (la_24 hly _) hn_1 dX2_crossingOf_9 ?_
  refine sm_iload_n (Y := mX2_crossingOf) (pc := 10) 2 2 rfl rfl dX2_crossingOf_10 ?_
  refine sm_iadd (Y := mX2_crossingOf) (pc := 11) dX2_crossingOf_11 ?_
  obtain ⟨hn_2, h⟩ := h
  refine sm_iald (Y := mX2_crossingOf) (pc := 12) (la_23 hly _) hn_2 dX2_crossingOf_12 ?_
  refine sm_iconst (Y := mX2_crossingOf) (pc := 13) 2 (by decide) dX2_crossingOf_13 ?_
  refine sm_idiv (Y := mX2_crossingOf) (pc := 14) (by decide) dX2_crossingOf_14 ?_
  exact sm_iret (Y := mX2_crossingOf) (pc := 15) rfl rfl rfl dX2_crossingOf_15 ⟨_, rfl, h⟩
abbrev mX2_passAt : sm_Y := (yX2_passAt, cX2_passAt, 4, (some FieldType.int))
theorem fX2_passAt : sm_mi mX2_passAt RX2 2 := ⟨sm_in 843 (by decide +kernel) (by decide +kernel), sm_in 841 (by decide +kernel) (by decide +kernel), sm_in 842 (by decide +kernel) (by decide +kernel), sm_in 87 (by decide +kernel) (by decide +kernel), rfl, ⟨by decide +kernel, by decide +kernel, by decide +kernel⟩, by decide⟩
theorem dX2_passAt_0 : decode cX2_passAt 0 = .ok (.aload_n 0, 1) := dk_aload_n_0 (by decide +kernel)
theorem dX2_passAt_1 : decode cX2_passAt 1 = .ok (.iload_n 1, 1) := dk_iload_n_1 (by decide +kernel)
theorem dX2_passAt_2 : decode cX2_passAt 2 = .ok (.iload_n 2, 1) := dk_iload_n_2 (by decide +kernel)
theorem wRX2_123 : Cond.methodLink RX2 123 yX2_crossingOf ∈ sm_T := sm_in 844 (by decide +kernel) (by decide +kernel)
theorem dX2_passAt_3 : decode cX2_passAt 3 = .ok (.invokevirtual 123, 3) := dk_invokevirtual 123 (b1 := 0) (b2 := 123) (by decide +kernel) (by decide +kernel) (by decide +kernel) (by decide +kernel)
theorem dX2_passAt_6 : decode cX2_passAt 6 = .ok (.iconst 1, 1) := dk_iconst_1 (by decide +kernel)
theorem dX2_passAt_7 : decode cX2_passAt 7 = .ok (.iadd, 1) := dk_iadd (by decide +kernel)
theorem dX2_passAt_8 : decode cX2_passAt 8 = .ok (.istore_n 3, 1) := dk_istore_n_3 (by decide +kernel)
theorem dX2_passAt_9 : decode cX2_passAt 9 = .ok (.aload_n 0, 1) := dk_aload_n_0 (by decide +kernel)
theorem dX2_passAt_10 : decode cX2_passAt 10 = .ok (.iload_n 1, 1) := dk_iload_n_1 (by decide +kernel)
theorem dX2_passAt_11 : decode cX2_passAt 11 = .ok (.iload_n 2, 1) := dk_iload_n_2 (by decide +kernel)
theorem wRX2_127 : Cond.methodLink RX2 127 yX2_isUnder ∈ sm_T := sm_in 791 (by decide +kernel) (by decide +kernel)
theorem dX2_passAt_12 : decode cX2_passAt 12 = .ok (.invokevirtual 127, 3) := dk_invokevirtual 127 (b1 := 0) (b2 := 127) (by decide +kernel) (by decide +kernel) (by decide +kernel) (by decide +kernel)
theorem dX2_passAt_15 : decode cX2_passAt 15 = .ok (.ifCond .eq 8, 3) := dk_ifCond_eq 8 (b1 := 0) (b2 := 8) (by decide +kernel) (by decide +kernel) (by decide +kernel) (by decide +kernel)
theorem dX2_passAt_23 : decode cX2_passAt 23 = .ok (.iload_n 3, 1) := dk_iload_n_3 (by decide +kernel)
theorem dX2_passAt_24 : decode cX2_passAt 24 = .ok (.ireturn, 1) := dk_ireturn (by decide +kernel)
theorem dX2_passAt_18 : decode cX2_passAt 18 = .ok (.iload_n 3, 1) := dk_iload_n_3 (by decide +kernel)
theorem dX2_passAt_19 : decode cX2_passAt 19 = .ok (.ineg, 1) := dk_ineg (by decide +kernel)
theorem dX2_passAt_20 : decode cX2_passAt 20 = .ok (.goto 4, 3) := dk_goto 4 (b1 := 0) (b2 := 4) (by decide +kernel) (by decide +kernel) (by decide +kernel) (by decide +kernel)
set_option maxRecDepth 20000 in
theorem vX2_passAt_0 {E : sm_E} {L : sm_S → Prop} {d : Nat} {x1 : Int32} {x2 : Int32}  {m : sm_M} {Q : Int32 → sm_M → Prop} (hly : ∀ S, L S → ly S) (hd : 2 ≤ d) 
  (h : sm_callI E L mX2_crossingOf 1 0 0 [.ref (sm_B E + 16), .int x1, .int x2] m (fun r_2 m_1 =>
   ∀ x3_3 : Int32, x3_3 = r_2 + 1 →
   sm_callI E L mX2_isUnder 1 0 0 [.ref (sm_B E + 16), .int x1, .int x2] m_1 (fun r_5 m_4 =>
   (r_5 = 0 →
      Q x3_3 m_4) ∧
   (¬ r_5 = 0 →
      Q (-x3_3) m_4)))) :
  sm_callI E L mX2_passAt d 0 0 [.ref (sm_B E + 16), .int x1, .int x2] m Q := by
  refine sm_enter (by decide +kernel) (by simp [lg_sl, Value.category]) ?_
  refine sm_aload_n (Y := mX2_passAt) (pc := 0) 0 0 rfl rfl dX2_passAt_0 ?_
  refine sm_iload_n (Y := mX2_passAt) (pc := 1) 1 1 rfl rfl dX2_passAt_1 ?_
  refine sm_iload_n (Y := mX2_passAt) (pc := 2) 2 2 rfl rfl dX2_passAt_2 ?_
  refine sm_iv_I (Y := mX2_passAt) (pc := 3) (As := [.int x1, .int x2]) (a := 16) fX2_crossingOf wRX2_123 (lk_16 hly) (by decide) rfl rfl rfl (Nat.le_trans (by decide) hd) (Nat.le_of_ble_eq_true rfl) ⟨Nat.le_refl _, Nat.le_refl _⟩ dX2_passAt_3 rfl (sm_monoI h (fun r_2 m_1 h => ?_))
  refine sm_iconst (Y := mX2_passAt) (pc := 6) 1 (by decide) dX2_passAt_6 ?_
  refine sm_iadd (Y := mX2_passAt) (pc := 7) dX2_passAt_7 ?_
  refine sm_istore_n (Y := mX2_passAt) (pc := 8) (fun y => [(3, .int y), (0, .ref (sm_B E + 16)), (1, .int x1), (2, .int x2)]) 3 rfl (by decide) (fun _ => rfl) dX2_passAt_8 (fun x3_3 ex3_3 => ?_)
  replace h := h x3_3 ex3_3
  refine sm_aload_n (Y := mX2_passAt) (pc := 9) 1 0 rfl rfl dX2_passAt_9 ?_
  refine sm_iload_n (Y := mX2_passAt) (pc := 10) 2 1 rfl rfl dX2_passAt_10 ?_
  refine sm_iload_n (Y := mX2_passAt) (pc := 11) 3 2 rfl rfl dX2_passAt_11 ?_
  refine sm_iv_I (Y := mX2_passAt) (pc := 12) (As := [.int x1, .int x2]) (a := 16) fX2_isUnder wRX2_127 (lk_16 hly) (by decide) rfl rfl rfl (Nat.le_trans (by decide) hd) (Nat.le_of_ble_eq_true rfl) ⟨Nat.le_refl _, Nat.le_refl _⟩ dX2_passAt_12 rfl (sm_monoI h (fun r_5 m_4 h => ?_))
  refine sm_if_eq (Y := mX2_passAt) (pc := 15) 23 (by decide) dX2_passAt_15 (fun hc => ?_) (fun hc => ?_)
  · replace h := h.1 hc
    refine sm_iload_n (Y := mX2_passAt) (pc := 23) 0 3 rfl rfl dX2_passAt_23 ?_
    exact sm_iret (Y := mX2_passAt) (pc := 24) rfl rfl rfl dX2_passAt_24 ⟨_, rfl, h⟩
  · replace h := h.2 hc
    refine sm_iload_n (Y := mX2_passAt) (pc := 18) 0 3 rfl rfl dX2_passAt_18 ?_
    refine sm_ineg (Y := mX2_passAt) (pc := 19) dX2_passAt_19 ?_
    refine sm_goto (Y := mX2_passAt) (pc := 20) 24 (by decide) dX2_passAt_20 ?_
    exact sm_iret (Y := mX2_passAt) (pc := 24) rfl rfl rfl dX2_passAt_24 ⟨_, rfl, h⟩
def gX2_arcsOf_4 (E : sm_E) (L : sm_S → Prop) (d : Nat) (vs : List Value) (x1 : Int32) (x2 : Int32) (x3 : Int32) (m : sm_M) (Q : Int32 → sm_M → Prop) : Prop := sm_go E L mX2_arcsOf d 0 0 vs 4 [(0, .ref (sm_B E + 16)), (1, .int x1), (2, .int x2), (3, .int x3)] [] m 0 0 (sm_Z E L vs 0 0 (sm_QI Q))
theorem dX2_arcsOf_4 : decode cX2_arcsOf 4 = .ok (.iload_n 3, 1) := dk_iload_n_3 (by decide +kernel)
theorem dX2_arcsOf_5 : decode cX2_arcsOf 5 = .ok (.aload_n 0, 1) := dk_aload_n_0 (by decide +kernel)
theorem dX2_arcsOf_6 : decode cX2_arcsOf 6 = .ok (.iload_n 1, 1) := dk_iload_n_1 (by decide +kernel)
theorem wRX2_131 : Cond.methodLink RX2 131 yX2_passesOf ∈ sm_T := sm_in 787 (by decide +kernel) (by decide +kernel)
theorem dX2_arcsOf_7 : decode cX2_arcsOf 7 = .ok (.invokevirtual 131, 3) := dk_invokevirtual 131 (b1 := 0) (b2 := 131) (by decide +kernel) (by decide +kernel) (by decide +kernel) (by decide +kernel)
theorem dX2_arcsOf_10 : decode cX2_arcsOf 10 = .ok (.if_icmp .ge 21, 3) := dk_if_icmp_ge 21 (b1 := 0) (b2 := 21) (by decide +kernel) (by decide +kernel) (by decide +kernel) (by decide +kernel)
theorem dX2_arcsOf_31 : decode cX2_arcsOf 31 = .ok (.iload_n 2, 1) := dk_iload_n_2 (by decide +kernel)
theorem dX2_arcsOf_32 : decode cX2_arcsOf 32 = .ok (.iconst 1, 1) := dk_iconst_1 (by decide +kernel)
theorem wRX2_134 : Cond.methodLink RX2 134 yJ9_max_7cf53 ∈ sm_T := sm_in 795 (by decide +kernel) (by decide +kernel)
theorem dX2_arcsOf_33 : decode cX2_arcsOf 33 = .ok (.invokestatic 134, 3) := dk_invokestatic 134 (b1 := 0) (b2 := 134) (by decide +kernel) (by decide +kernel) (by decide +kernel) (by decide +kernel)
theorem dX2_arcsOf_36 : decode cX2_arcsOf 36 = .ok (.ireturn, 1) := dk_ireturn (by decide +kernel)
theorem dX2_arcsOf_13 : decode cX2_arcsOf 13 = .ok (.aload_n 0, 1) := dk_aload_n_0 (by decide +kernel)
theorem dX2_arcsOf_14 : decode cX2_arcsOf 14 = .ok (.iload_n 1, 1) := dk_iload_n_1 (by decide +kernel)
theorem dX2_arcsOf_15 : decode cX2_arcsOf 15 = .ok (.iload_n 3, 1) := dk_iload_n_3 (by decide +kernel)
theorem dX2_arcsOf_16 : decode cX2_arcsOf 16 = .ok (.invokevirtual 127, 3) := dk_invokevirtual 127 (b1 := 0) (b2 := 127) (by decide +kernel) (by decide +kernel) (by decide +kernel) (by decide +kernel)
theorem dX2_arcsOf_19 : decode cX2_arcsOf 19 = .ok (.ifCond .eq 6, 3) := dk_ifCond_eq 6 (b1 := 0) (b2 := 6) (by decide +kernel) (by decide +kernel) (by decide +kernel) (by decide +kernel)
theorem dX2_arcsOf_25 : decode cX2_arcsOf 25 = .ok (.iinc 3 1, 3) := dk_iinc 3 1 (b1 := 3) (b2 := 1) (by decide +kernel) (by decide +kernel) (by decide +kernel) (by decide +kernel) (by decide +kernel)
theorem dX2_arcsOf_28 : decode cX2_arcsOf 28 = .ok (.goto (-24), 3) := dk_goto (-24) (b1 := 255) (b2 := 232) (by decide +kernel) (by decide +kernel) (by decide +kernel) (by decide +kernel)
theorem dX2_arcsOf_22 : decode cX2_arcsOf 22 = .ok (.iinc 2 1, 3) := dk_iinc 2 1 (b1 := 2) (b2 := 1) (by decide +kernel) (by decide +kernel) (by decide +kernel) (by decide +kernel) (by decide +kernel)
set_option maxRecDepth 20000 in
theorem vX2_arcsOf_4 {E : sm_E} {L : sm_S → Prop} {d : Nat} {vs : List Value} {x1 : Int32} {x2 : Int32} {x3 : Int32}  {m : sm_M} {Q : Int32 → sm_M → Prop} (hly : ∀ S, L S → ly S) (hd : 2 ≤ d) 
  (h : sm_callI E L mX2_passesOf 1 0 0 [.ref (sm_B E + 16), .int x1] m (fun r_2 m_1 =>
   (r_2 ≤ x3 →
      sm_callI E L mJ9_max_7cf53 1 0 0 [.int x2, .int 1] m_1 (fun r_4 m_3 =>
      Q r_4 m_3)) ∧
   (¬ r_2 ≤ x3 →
      sm_callI E L mX2_isUnder 1 0 0 [.ref (sm_B E + 16), .int x1, .int x3] m_1 (fun r_6 m_5 =>
      (r_6 = 0 →
         ∀ x3_7 : Int32, x3_7 = x3 + 1 →
         gX2_arcsOf_4 E L d vs x1 x2 x3_7 m_5 Q) ∧
      (¬ r_6 = 0 →
         ∀ x2_8 : Int32, x2_8 = x2 + 1 →
         ∀ x3_9 : Int32, x3_9 = x3 + 1 →
         gX2_arcsOf_4 E L d vs x1 x2_8 x3_9 m_5 Q))))) :
  gX2_arcsOf_4 E L d vs x1 x2 x3 m Q := by
  refine sm_iload_n (Y := mX2_arcsOf) (pc := 4) 3 3 rfl rfl dX2_arcsOf_4 ?_
  refine sm_aload_n (Y := mX2_arcsOf) (pc := 5) 0 0 rfl rfl dX2_arcsOf_5 ?_
  refine sm_iload_n (Y := mX2_arcsOf) (pc := 6) 1 1 rfl rfl dX2_arcsOf_6 ?_
  refine sm_iv_I (Y := mX2_arcsOf) (pc := 7) (As := [.int x1]) (a := 16) fX2_passesOf wRX2_131 (lk_16 hly) (by decide) rfl rfl rfl (Nat.le_trans (by decide) hd) (Nat.le_of_ble_eq_true rfl) ⟨Nat.le_refl _, Nat.le_refl _⟩ dX2_arcsOf_7 rfl (sm_monoI h (fun r_2 m_1 h => ?_))
  refine sm_icmp_ge (Y := mX2_arcsOf) (pc := 10) 31 (by decide) dX2_arcsOf_10 (fun hc => ?_) (fun hc => ?_)
  · replace h := h.1 hc
    refine sm_iload_n (Y := mX2_arcsOf) (pc := 31) 2 2 rfl rfl dX2_arcsOf_31 ?_
    refine sm_iconst (Y := mX2_arcsOf) (pc := 32) 1 (by decide) dX2_arcsOf_32 ?_
    refine sm_is_I (Y := mX2_arcsOf) (pc := 33) (As := [.int x2, .int 1]) fJ9_max_7cf53 wRX2_134 rfl (Nat.le_trans (by decide) hd) (Nat.le_of_ble_eq_true rfl) ⟨Nat.le_refl _, Nat.le_refl _⟩ dX2_arcsOf_33 rfl (sm_monoI h (fun r_4 m_3 h => ?_))
    exact sm_iret (Y := mX2_arcsOf) (pc := 36) rfl rfl rfl dX2_arcsOf_36 ⟨_, rfl, h⟩
  · replace h := h.2 hc
    refine sm_aload_n (Y := mX2_arcsOf) (pc := 13) 0 0 rfl rfl dX2_arcsOf_13 ?_
    refine sm_iload_n (Y := mX2_arcsOf) (pc := 14) 1 1 rfl rfl dX2_arcsOf_14 ?_
    refine sm_iload_n (Y := mX2_arcsOf) (pc := 15) 3 3 rfl rfl dX2_arcsOf_15 ?_
    refine sm_iv_I (Y := mX2_arcsOf) (pc := 16) (As := [.int x1, .int x3]) (a := 16) fX2_isUnder wRX2_127 (lk_16 hly) (by decide) rfl rfl rfl (Nat.le_trans (by decide) hd) (Nat.le_of_ble_eq_true rfl) ⟨Nat.le_refl _, Nat.le_refl _⟩ dX2_arcsOf_16 rfl (sm_monoI h (fun r_6 m_5 h => ?_))
    refine sm_if_eq (Y := mX2_arcsOf) (pc := 19) 25 (by decide) dX2_arcsOf_19 (fun hc => ?_) (fun hc => ?_)
    · replace h := h.1 hc
      refine sm_iinc (Y := mX2_arcsOf) (pc := 25) (fun y => [(3, .int y), (0, .ref (sm_B E + 16)), (1, .int x1), (2, .int x2)]) 3 3 rfl (by decide) (fun _ => rfl) dX2_arcsOf_25 (fun x3_7 ex3_7 => ?_)
      replace h := h x3_7 ex3_7
      refine sm_goto (Y := mX2_arcsOf) (pc := 28) 4 (by decide) dX2_arcsOf_28 ?_
      refine sm_sub [1, 2, 3, 0] rfl ?_
      exact h
    · replace h := h.2 hc
      refine sm_iinc (Y := mX2_arcsOf) (pc := 22) (fun y => [(2, .int y), (0, .ref (sm_B E + 16)), (1, .int x1), (3, .int x3)]) 2 2 rfl (by decide) (fun _ => rfl) dX2_arcsOf_22 (fun x2_8 ex2_8 => ?_)
      replace h := h x2_8 ex2_8
      refine sm_iinc (Y := mX2_arcsOf) (pc := 25) (fun y => [(3, .int y), (2, .int x2_8), (0, .ref (sm_B E + 16)), (1, .int x1)]) 3 3 rfl (by decide) (fun _ => rfl) dX2_arcsOf_25 (fun x3_9 ex3_9 => ?_)
      replace h := h x3_9 ex3_9
      refine sm_goto (Y := mX2_arcsOf) (pc := 28) 4 (by decide) dX2_arcsOf_28 ?_
      refine sm_sub [2, 3, 1, 0] rfl ?_
      exact h
theorem dX2_arcsOf_0 : decode cX2_arcsOf 0 = .ok (.iconst 0, 1) := dk_iconst_0 (by decide +kernel)
theorem dX2_arcsOf_1 : decode cX2_arcsOf 1 = .ok (.istore_n 2, 1) := dk_istore_n_2 (by decide +kernel)
theorem dX2_arcsOf_2 : decode cX2_arcsOf 2 = .ok (.iconst 0, 1) := dk_iconst_0 (by decide +kernel)
theorem dX2_arcsOf_3 : decode cX2_arcsOf 3 = .ok (.istore_n 3, 1) := dk_istore_n_3 (by decide +kernel)
set_option maxRecDepth 20000 in
theorem vX2_arcsOf_0 {E : sm_E} {L : sm_S → Prop} {d : Nat} {x1 : Int32}  {m : sm_M} {Q : Int32 → sm_M → Prop}  (hd : 2 ≤ d) 
  (h : gX2_arcsOf_4 E L d ([.ref (sm_B E + 16), .int x1]) x1 0 0 m Q) :
  sm_callI E L mX2_arcsOf d 0 0 [.ref (sm_B E + 16), .int x1] m Q := by
  refine sm_enter (by decide +kernel) (by simp [lg_sl, Value.category]) ?_
  refine sm_iconst (Y := mX2_arcsOf) (pc := 0) 0 (by decide) dX2_arcsOf_0 ?_
  refine sm_istore0_n (Y := mX2_arcsOf) (pc := 1) [(2, .int 0), (0, .ref (sm_B E + 16)), (1, .int x1)] 2 rfl (by decide) rfl dX2_arcsOf_1 ?_
  refine sm_iconst (Y := mX2_arcsOf) (pc := 2) 0 (by decide) dX2_arcsOf_2 ?_
  refine sm_istore0_n (Y := mX2_arcsOf) (pc := 3) [(3, .int 0), (2, .int 0), (0, .ref (sm_B E + 16)), (1, .int x1)] 3 rfl (by decide) rfl dX2_arcsOf_3 ?_
  refine sm_sub [2, 3, 1, 0] rfl ?_
  exact h
abbrev mX2_arcs : sm_Y := (yX2_arcs, cX2_arcs, 3, (some FieldType.int))
theorem fX2_arcs : sm_mi mX2_arcs RX2 0 := ⟨sm_in 782 (by decide +kernel) (by decide +kernel), sm_in 780 (by decide +kernel) (by decide +kernel), sm_in 781 (by decide +kernel) (by decide +kernel), sm_in 87 (by decide +kernel) (by decide +kernel), rfl, ⟨by decide +kernel, by decide +kernel, by decide +kernel⟩, by decide⟩
def gX2_arcs_7 (E : sm_E) (L : sm_S → Prop) (d : Nat) (vs : List Value) (x1 : Int32) (x2 : Int32) (m : sm_M) (Q : Int32 → sm_M → Prop) : Prop := sm_go E L mX2_arcs d 0 0 vs 7 [(0, .ref (sm_B E + 16)), (1, .int x1), (2, .int x2)] [] m 0 0 (sm_Z E L vs 0 0 (sm_QI Q))
theorem dX2_arcs_7 : decode cX2_arcs 7 = .ok (.iload_n 2, 1) := dk_iload_n_2 (by decide +kernel)
theorem dX2_arcs_8 : decode cX2_arcs 8 = .ok (.aload_n 0, 1) := dk_aload_n_0 (by decide +kernel)
theorem dX2_arcs_9 : decode cX2_arcs 9 = .ok (.getfield 96, 3) := dk_getfield 96 (b1 := 0) (b2 := 96) (by decide +kernel) (by decide +kernel) (by decide +kernel) (by decide +kernel)
theorem dX2_arcs_12 : decode cX2_arcs 12 = .ok (.if_icmp .ge 17, 3) := dk_if_icmp_ge 17 (b1 := 0) (b2 := 17) (by decide +kernel) (by decide +kernel) (by decide +kernel) (by decide +kernel)
theorem dX2_arcs_29 : decode cX2_arcs 29 = .ok (.iload_n 1, 1) := dk_iload_n_1 (by decide +kernel)
theorem dX2_arcs_30 : decode cX2_arcs 30 = .ok (.ireturn, 1) := dk_ireturn (by decide +kernel)
theorem dX2_arcs_15 : decode cX2_arcs 15 = .ok (.iload_n 1, 1) := dk_iload_n_1 (by decide +kernel)
theorem dX2_arcs_16 : decode cX2_arcs 16 = .ok (.aload_n 0, 1) := dk_aload_n_0 (by decide +kernel)
theorem dX2_arcs_17 : decode cX2_arcs 17 = .ok (.iload_n 2, 1) := dk_iload_n_2 (by decide +kernel)
theorem wRX2_137 : Cond.methodLink RX2 137 yX2_arcsOf ∈ sm_T := sm_in 783 (by decide +kernel) (by decide +kernel)
theorem dX2_arcs_18 : decode cX2_arcs 18 = .ok (.invokevirtual 137, 3) := dk_invokevirtual 137 (b1 := 0) (b2 := 137) (by decide +kernel) (by decide +kernel) (by decide +kernel) (by decide +kernel)
theorem dX2_arcs_21 : decode cX2_arcs 21 = .ok (.iadd, 1) := dk_iadd (by decide +kernel)
theorem dX2_arcs_22 : decode cX2_arcs 22 = .ok (.istore_n 1, 1) := dk_istore_n_1 (by decide +kernel)
theorem dX2_arcs_23 : decode cX2_arcs 23 = .ok (.iinc 2 1, 3) := dk_iinc 2 1 (b1 := 2) (b2 := 1) (by decide +kernel) (by decide +kernel) (by decide +kernel) (by decide +kernel) (by decide +kernel)
theorem dX2_arcs_26 : decode cX2_arcs 26 = .ok (.goto (-19), 3) := dk_goto (-19) (b1 := 255) (b2 := 237) (by decide +kernel) (by decide +kernel) (by decide +kernel) (by decide +kernel)
set_option maxRecDepth 20000 in
theorem vX2_arcs_7 {E : sm_E} {L : sm_S → Prop} {d : Nat} {vs : List Value} {x1 : Int32} {x2 : Int32}  {m : sm_M} {Q : Int32 → sm_M → Prop} (hly : ∀ S, L S → ly S) (hd : 3 ≤ d) 
  (h : ((m.1 16 11) ≤ x2 →
      Q x1 m) ∧
   (¬ (m.1 16 11) ≤ x2 →
      sm_callI E L mX2_arcsOf 2 0 0 [.ref (sm_B E + 16), .int x2] m (fun r_2 m_1 =>
      ∀ x1_3 : Int32, x1_3 = x1 + r_2 →
      ∀ x2_4 : Int32, x2_4 = x2 + 1 →
      gX2_arcs_7 E L d vs x1_3 x2_4 m_1 Q))) :
  gX2_arcs_7 E L d vs x1 x2 m Q := by
  refine sm_iload_n (Y := mX2_arcs) (pc := 7) 2 2 rfl rfl dX2_arcs_7 ?_
  refine sm_aload_n (Y := mX2_arcs) (pc := 8) 0 0 rfl rfl dX2_arcs_8 ?_
  refine gf_RX2_96 (Y := mX2_arcs) (pc := 9) rfl ((lk_16 hly) _) dX2_arcs_9 ?_
  refine sm_icmp_ge (Y := mX2_arcs) (pc := 12) 29 (by decide) dX2_arcs_12 (fun hc => ?_) (fun hc => ?_)
  · replace h := h.1 hc
    refine sm_iload_n (Y := mX2_arcs) (pc := 29) 1 1 rfl rfl dX2_arcs_29 ?_
    exact sm_iret (Y := mX2_arcs) (pc := 30) rfl rfl rfl dX2_arcs_30 ⟨_, rfl, h⟩
  · replace h := h.2 hc
    refine sm_iload_n (Y := mX2_arcs) (pc := 15) 1 1 rfl rfl dX2_arcs_15 ?_
    refine sm_aload_n (Y := mX2_arcs) (pc := 16) 0 0 rfl rfl dX2_arcs_16 ?_
    refine sm_iload_n (Y := mX2_arcs) (pc := 17) 2 2 rfl rfl dX2_arcs_17 ?_
    refine sm_iv_I (Y := mX2_arcs) (pc := 18) (As := [.int x2]) (a := 16) fX2_arcsOf wRX2_137 (lk_16 hly) (by decide) rfl rfl rfl (Nat.le_trans (by decide) hd) (Nat.le_of_ble_eq_true rfl) ⟨Nat.le_refl _, Nat.le_refl _⟩ dX2_arcs_18 rfl (sm_monoI h (fun r_2 m_1 h => ?_))
    refine sm_iadd (Y := mX2_arcs) (pc := 21) dX2_arcs_21 ?_
    refine sm_istore_n (Y := mX2_arcs) (pc := 22) (fun y => [(1, .int y), (0, .ref (sm_B E + 16)), (2, .int x2)]) 1 rfl (by decide) (fun _ => rfl) dX2_arcs_22 (fun x1_3 ex1_3 => ?_)
    replace h := h x1_3 ex1_3
    refine sm_iinc (Y := mX2_arcs) (pc := 23) (fun y => [(2, .int y), (1, .int x1_3), (0, .ref (sm_B E + 16))]) 2 2 rfl (by decide) (fun _ => rfl) dX2_arcs_23 (fun x2_4 ex2_4 => ?_)
    replace h := h x2_4 ex2_4
    refine sm_goto (Y := mX2_arcs) (pc := 26) 7 (by decide) dX2_arcs_26 ?_
    refine sm_sub [2, 1, 0] rfl ?_
    exact h
theorem dX2_arcs_0 : decode cX2_arcs 0 = .ok (.aload_n 0, 1) := dk_aload_n_0 (by decide +kernel)
theorem dX2_arcs_1 : decode cX2_arcs 1 = .ok (.getfield 99, 3) := dk_getfield 99 (b1 := 0) (b2 := 99) (by decide +kernel) (by decide +kernel) (by decide +kernel) (by decide +kernel)
theorem dX2_arcs_4 : decode cX2_arcs 4 = .ok (.istore_n 1, 1) := dk_istore_n_1 (by decide +kernel)
theorem dX2_arcs_5 : decode cX2_arcs 5 = .ok (.iconst 0, 1) := dk_iconst_0 (by decide +kernel)
theorem dX2_arcs_6 : decode cX2_arcs 6 = .ok (.istore_n 2, 1) := dk_istore_n_2 (by decide +kernel)
set_option maxRecDepth 20000 in
theorem vX2_arcs_0 {E : sm_E} {L : sm_S → Prop} {d : Nat}   {m : sm_M} {Q : Int32 → sm_M → Prop} (hly : ∀ S, L S → ly S) (hd : 3 ≤ d) 
  (h : ∀ x1_1 : Int32, x1_1 = m.1 16 12 →
   gX2_arcs_7 E L d ([.ref (sm_B E + 16)]) x1_1 0 m Q) :
  sm_callI E L mX2_arcs d 0 0 [.ref (sm_B E + 16)] m Q := by
  refine sm_enter (by decide +kernel) (by simp [lg_sl, Value.category]) ?_
  refine sm_aload_n (Y := mX2_arcs) (pc := 0) 0 0 rfl rfl dX2_arcs_0 ?_
  refine gf_RX2_99 (Y := mX2_arcs) (pc := 1) rfl ((lk_16 hly) _) dX2_arcs_1 ?_
  refine sm_istore_n (Y := mX2_arcs) (pc := 4) (fun y => [(1, .int y), (0, .ref (sm_B E + 16))]) 1 rfl (by decide) (fun _ => rfl) dX2_arcs_4 (fun x1_1 ex1_1 => ?_)
  replace h := h x1_1 ex1_1
  refine sm_iconst (Y := mX2_arcs) (pc := 5) 0 (by decide) dX2_arcs_5 ?_
  refine sm_istore0_n (Y := mX2_arcs) (pc := 6) [(2, .int 0), (1, .int x1_1), (0, .ref (sm_B E + 16))] 2 rfl (by decide) rfl dX2_arcs_6 ?_
  refine sm_sub [2, 1, 0] rfl ?_
  exact h
