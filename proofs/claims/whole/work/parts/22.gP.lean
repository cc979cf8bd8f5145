abbrev mX12_alike : sm_Y := (yX12_alike, cX12_alike, 10, (some FieldType.int))
theorem fX12_alike : sm_mi mX12_alike RX12 4 := ⟨sm_in 1620 (by decide +kernel) (by decide +kernel), sm_in 1618 (by decide +kernel) (by decide +kernel), sm_in 1619 (by decide +kernel) (by decide +kernel), sm_in 93 (by decide +kernel) (by decide +kernel), rfl, ⟨by decide +kernel, by decide +kernel, by decide +kernel⟩, by decide⟩
def gX12_alike_103 (E : sm_E) (L : sm_S → Prop) (d : Nat) (vs : List Value) (x5 : Int64) (x7 : Int64) (s0 : Int32) (m : sm_M) (Q : Int32 → sm_M → Prop) : Prop := sm_go E L mX12_alike d 0 0 vs 103 [(0, .ref (sm_B E + 109)), (5, .long x5), (7, .long x7)] [.int s0] m 0 0 (sm_Z E L vs 0 0 (sm_QI Q))
theorem dX12_alike_103 : decode cX12_alike 103 = .ok (.istore 9, 2) := dk_istore 9 (b := 9) (by decide +kernel) (by decide +kernel) (by decide +kernel)
theorem dX12_alike_105 : decode cX12_alike 105 = .ok (.aload_n 0, 1) := dk_aload_n_0 (by decide +kernel)
theorem dX12_alike_106 : decode cX12_alike 106 = .ok (.invokevirtual 386, 3) := dk_invokevirtual 386 (b1 := 1) (b2 := 130) (by decide +kernel) (by decide +kernel) (by decide +kernel) (by decide +kernel)
theorem dX12_alike_109 : decode cX12_alike 109 = .ok (.iload 9, 2) := dk_iload 9 (b := 9) (by decide +kernel) (by decide +kernel) (by decide +kernel)
theorem dX12_alike_111 : decode cX12_alike 111 = .ok (.aload_n 0, 1) := dk_aload_n_0 (by decide +kernel)
theorem dX12_alike_112 : decode cX12_alike 112 = .ok (.getfield 348, 3) := dk_getfield 348 (b1 := 1) (b2 := 92) (by decide +kernel) (by decide +kernel) (by decide +kernel) (by decide +kernel)
theorem dX12_alike_115 : decode cX12_alike 115 = .ok (.lload 5, 2) := dk_lload 5 (b := 5) (by decide +kernel) (by decide +kernel) (by decide +kernel)
theorem dX12_alike_117 : decode cX12_alike 117 = .ok (.lcmp, 1) := dk_lcmp (by decide +kernel)
theorem dX12_alike_118 : decode cX12_alike 118 = .ok (.ifCond .ne 17, 3) := dk_ifCond_ne 17 (b1 := 0) (b2 := 17) (by decide +kernel) (by decide +kernel) (by decide +kernel) (by decide +kernel)
theorem dX12_alike_135 : decode cX12_alike 135 = .ok (.iconst 0, 1) := dk_iconst_0 (by decide +kernel)
theorem dX12_alike_136 : decode cX12_alike 136 = .ok (.iadd, 1) := dk_iadd (by decide +kernel)
theorem dX12_alike_137 : decode cX12_alike 137 = .ok (.ireturn, 1) := dk_ireturn (by decide +kernel)
theorem dX12_alike_121 : decode cX12_alike 121 = .ok (.aload_n 0, 1) := dk_aload_n_0 (by decide +kernel)
theorem dX12_alike_122 : decode cX12_alike 122 = .ok (.getfield 351, 3) := dk_getfield 351 (b1 := 1) (b2 := 95) (by decide +kernel) (by decide +kernel) (by decide +kernel) (by decide +kernel)
theorem dX12_alike_125 : decode cX12_alike 125 = .ok (.lload 7, 2) := dk_lload 7 (b := 7) (by decide +kernel) (by decide +kernel) (by decide +kernel)
theorem dX12_alike_127 : decode cX12_alike 127 = .ok (.lcmp, 1) := dk_lcmp (by decide +kernel)
theorem dX12_alike_128 : decode cX12_alike 128 = .ok (.ifCond .ne 7, 3) := dk_ifCond_ne 7 (b1 := 0) (b2 := 7) (by decide +kernel) (by decide +kernel) (by decide +kernel) (by decide +kernel)
theorem dX12_alike_131 : decode cX12_alike 131 = .ok (.iconst 2, 1) := dk_iconst_2 (by decide +kernel)
theorem dX12_alike_132 : decode cX12_alike 132 = .ok (.goto 4, 3) := dk_goto 4 (b1 := 0) (b2 := 4) (by decide +kernel) (by decide +kernel) (by decide +kernel) (by decide +kernel)
set_option maxRecDepth 20000 in
theorem vX12_alike_103 {E : sm_E} {L : sm_S → Prop} {d : Nat} {vs : List Value} {x5 : Int64} {x7 : Int64} {s0 : Int32}  {m : sm_M} {Q : Int32 → sm_M → Prop} (hly : ∀ S, L S → ly S) (hd : 5 ≤ d) 
  (h : sm_callV E L mX12_glass 3 0 0 [.ref (sm_B E + 109)] m (fun m_2 =>
   (¬ (m_2.2.1 109 60) = x5 →
      Q (s0 + 0) m_2) ∧
   ((m_2.2.1 109 60) = x5 →
      (¬ (m_2.2.1 109 61) = x7 →
         Q (s0 + 0) m_2) ∧
      ((m_2.2.1 109 61) = x7 →
         Q (s0 + 2) m_2)))) :
  gX12_alike_103 E L d vs x5 x7 s0 m Q := by
  refine sm_istore0 (Y := mX12_alike) (pc := 103) [(9, .int s0), (0, .ref (sm_B E + 109)), (5, .long x5), (7, .long x7)] 9 (by decide) rfl dX12_alike_103 ?_
  refine sm_aload_n (Y := mX12_alike) (pc := 105) 1 0 rfl rfl dX12_alike_105 ?_
  refine sm_iv_V (Y := mX12_alike) (pc := 106) (As := []) (a := 109) fX12_glass wRX12_386 (lk_109 hly) (by decide) rfl rfl rfl (Nat.le_trans (by decide) hd) (Nat.le_of_ble_eq_true rfl) ⟨Nat.le_refl _, Nat.le_refl _⟩ dX12_alike_106 rfl (sm_monoV h (fun m_2 h => ?_))
  refine sm_iload (Y := mX12_alike) (pc := 109) 0 9 rfl dX12_alike_109 ?_
  refine sm_aload_n (Y := mX12_alike) (pc := 111) 1 0 rfl rfl dX12_alike_111 ?_
  refine gf_RX12_348 (Y := mX12_alike) (pc := 112) rfl ((lk_109 hly) _) dX12_alike_112 ?_
  refine sm_lload (Y := mX12_alike) (pc := 115) 2 5 rfl dX12_alike_115 ?_
  refine sm_lif_ne (Y := mX12_alike) (pc := 117) 135 (by decide) dX12_alike_117 dX12_alike_118 (fun hc => ?_) (fun hc => ?_)
  · replace h := h.1 hc
    refine sm_iconst (Y := mX12_alike) (pc := 135) 0 (by decide) dX12_alike_135 ?_
    refine sm_iadd (Y := mX12_alike) (pc := 136) dX12_alike_136 ?_
    exact sm_iret (Y := mX12_alike) (pc := 137) rfl rfl rfl dX12_alike_137 ⟨_, rfl, h⟩
  · replace h := h.2 hc
    refine sm_aload_n (Y := mX12_alike) (pc := 121) 1 0 rfl rfl dX12_alike_121 ?_
    refine gf_RX12_351 (Y := mX12_alike) (pc := 122) rfl ((lk_109 hly) _) dX12_alike_122 ?_
    refine sm_lload (Y := mX12_alike) (pc := 125) 3 7 rfl dX12_alike_125 ?_
    refine sm_lif_ne (Y := mX12_alike) (pc := 127) 135 (by decide) dX12_alike_127 dX12_alike_128 (fun hc => ?_) (fun hc => ?_)
    · replace h := h.1 hc
      refine sm_iconst (Y := mX12_alike) (pc := 135) 0 (by decide) dX12_alike_135 ?_
      refine sm_iadd (Y := mX12_alike) (pc := 136) dX12_alike_136 ?_
      exact sm_iret (Y := mX12_alike) (pc := 137) rfl rfl rfl dX12_alike_137 ⟨_, rfl, h⟩
    · replace h := h.2 hc
      refine sm_iconst (Y := mX12_alike) (pc := 131) 2 (by decide) dX12_alike_131 ?_
      refine sm_goto (Y := mX12_alike) (pc := 132) 136 (by decide) dX12_alike_132 ?_
      refine sm_iadd (Y := mX12_alike) (pc := 136) dX12_alike_136 ?_
      exact sm_iret (Y := mX12_alike) (pc := 137) rfl rfl rfl dX12_alike_137 ⟨_, rfl, h⟩
theorem dX12_alike_0 : decode cX12_alike 0 = .ok (.iload_n 1, 1) := dk_iload_n_1 (by decide +kernel)
theorem dX12_alike_1 : decode cX12_alike 1 = .ok (.invokestatic 184, 3) := dk_invokestatic 184 (b1 := 0) (b2 := 184) (by decide +kernel) (by decide +kernel) (by decide +kernel) (by decide +kernel)
theorem dX12_alike_4 : decode cX12_alike 4 = .ok (.ifCond .eq 25, 3) := dk_ifCond_eq 25 (b1 := 0) (b2 := 25) (by decide +kernel) (by decide +kernel) (by decide +kernel) (by decide +kernel)
theorem dX12_alike_29 : decode cX12_alike 29 = .ok (.aload_n 0, 1) := dk_aload_n_0 (by decide +kernel)
theorem dX12_alike_30 : decode cX12_alike 30 = .ok (.iconst 1, 1) := dk_iconst_1 (by decide +kernel)
theorem dX12_alike_31 : decode cX12_alike 31 = .ok (.invokevirtual 194, 3) := dk_invokevirtual 194 (b1 := 0) (b2 := 194) (by decide +kernel) (by decide +kernel) (by decide +kernel) (by decide +kernel)
theorem dX12_alike_34 : decode cX12_alike 34 = .ok (.ireturn, 1) := dk_ireturn (by decide +kernel)
theorem dX12_alike_7 : decode cX12_alike 7 = .ok (.iload_n 2, 1) := dk_iload_n_2 (by decide +kernel)
theorem dX12_alike_8 : decode cX12_alike 8 = .ok (.invokestatic 214, 3) := dk_invokestatic 214 (b1 := 0) (b2 := 214) (by decide +kernel) (by decide +kernel) (by decide +kernel) (by decide +kernel)
theorem dX12_alike_11 : decode cX12_alike 11 = .ok (.ifCond .eq 18, 3) := dk_ifCond_eq 18 (b1 := 0) (b2 := 18) (by decide +kernel) (by decide +kernel) (by decide +kernel) (by decide +kernel)
theorem dX12_alike_14 : decode cX12_alike 14 = .ok (.iload_n 3, 1) := dk_iload_n_3 (by decide +kernel)
theorem dX12_alike_15 : decode cX12_alike 15 = .ok (.invokestatic 184, 3) := dk_invokestatic 184 (b1 := 0) (b2 := 184) (by decide +kernel) (by decide +kernel) (by decide +kernel) (by decide +kernel)
theorem dX12_alike_18 : decode cX12_alike 18 = .ok (.ifCond .eq 11, 3) := dk_ifCond_eq 11 (b1 := 0) (b2 := 11) (by decide +kernel) (by decide +kernel) (by decide +kernel) (by decide +kernel)
theorem dX12_alike_21 : decode cX12_alike 21 = .ok (.iload 4, 2) := dk_iload 4 (b := 4) (by decide +kernel) (by decide +kernel) (by decide +kernel)
theorem dX12_alike_23 : decode cX12_alike 23 = .ok (.invokestatic 214, 3) := dk_invokestatic 214 (b1 := 0) (b2 := 214) (by decide +kernel) (by decide +kernel) (by decide +kernel) (by decide +kernel)
theorem dX12_alike_26 : decode cX12_alike 26 = .ok (.ifCond .ne 9, 3) := dk_ifCond_ne 9 (b1 := 0) (b2 := 9) (by decide +kernel) (by decide +kernel) (by decide +kernel) (by decide +kernel)
theorem dX12_alike_35 : decode cX12_alike 35 = .ok (.aload_n 0, 1) := dk_aload_n_0 (by decide +kernel)
theorem dX12_alike_36 : decode cX12_alike 36 = .ok (.iload_n 1, 1) := dk_iload_n_1 (by decide +kernel)
theorem dX12_alike_37 : decode cX12_alike 37 = .ok (.iload_n 2, 1) := dk_iload_n_2 (by decide +kernel)
theorem dX12_alike_38 : decode cX12_alike 38 = .ok (.invokevirtual 378, 3) := dk_invokevirtual 378 (b1 := 1) (b2 := 122) (by decide +kernel) (by decide +kernel) (by decide +kernel) (by decide +kernel)
theorem dX12_alike_41 : decode cX12_alike 41 = .ok (.ifCond .ne 9, 3) := dk_ifCond_ne 9 (b1 := 0) (b2 := 9) (by decide +kernel) (by decide +kernel) (by decide +kernel) (by decide +kernel)
theorem dX12_alike_50 : decode cX12_alike 50 = .ok (.aload_n 0, 1) := dk_aload_n_0 (by decide +kernel)
theorem dX12_alike_51 : decode cX12_alike 51 = .ok (.getfield 348, 3) := dk_getfield 348 (b1 := 1) (b2 := 92) (by decide +kernel) (by decide +kernel) (by decide +kernel) (by decide +kernel)
theorem dX12_alike_54 : decode cX12_alike 54 = .ok (.lstore 5, 2) := dk_lstore 5 (b := 5) (by decide +kernel) (by decide +kernel) (by decide +kernel)
theorem dX12_alike_56 : decode cX12_alike 56 = .ok (.aload_n 0, 1) := dk_aload_n_0 (by decide +kernel)
theorem dX12_alike_57 : decode cX12_alike 57 = .ok (.getfield 351, 3) := dk_getfield 351 (b1 := 1) (b2 := 95) (by decide +kernel) (by decide +kernel) (by decide +kernel) (by decide +kernel)
theorem dX12_alike_60 : decode cX12_alike 60 = .ok (.lstore 7, 2) := dk_lstore 7 (b := 7) (by decide +kernel) (by decide +kernel) (by decide +kernel)
theorem dX12_alike_62 : decode cX12_alike 62 = .ok (.aload_n 0, 1) := dk_aload_n_0 (by decide +kernel)
theorem dX12_alike_63 : decode cX12_alike 63 = .ok (.iload_n 3, 1) := dk_iload_n_3 (by decide +kernel)
theorem dX12_alike_64 : decode cX12_alike 64 = .ok (.iload 4, 2) := dk_iload 4 (b := 4) (by decide +kernel) (by decide +kernel) (by decide +kernel)
theorem dX12_alike_66 : decode cX12_alike 66 = .ok (.invokevirtual 378, 3) := dk_invokevirtual 378 (b1 := 1) (b2 := 122) (by decide +kernel) (by decide +kernel) (by decide +kernel) (by decide +kernel)
theorem dX12_alike_69 : decode cX12_alike 69 = .ok (.ifCond .ne 9, 3) := dk_ifCond_ne 9 (b1 := 0) (b2 := 9) (by decide +kernel) (by decide +kernel) (by decide +kernel) (by decide +kernel)
theorem dX12_alike_78 : decode cX12_alike 78 = .ok (.aload_n 0, 1) := dk_aload_n_0 (by decide +kernel)
theorem dX12_alike_79 : decode cX12_alike 79 = .ok (.getfield 348, 3) := dk_getfield 348 (b1 := 1) (b2 := 92) (by decide +kernel) (by decide +kernel) (by decide +kernel) (by decide +kernel)
theorem dX12_alike_82 : decode cX12_alike 82 = .ok (.lload 5, 2) := dk_lload 5 (b := 5) (by decide +kernel) (by decide +kernel) (by decide +kernel)
theorem dX12_alike_84 : decode cX12_alike 84 = .ok (.lcmp, 1) := dk_lcmp (by decide +kernel)
theorem dX12_alike_85 : decode cX12_alike 85 = .ok (.ifCond .ne 17, 3) := dk_ifCond_ne 17 (b1 := 0) (b2 := 17) (by decide +kernel) (by decide +kernel) (by decide +kernel) (by decide +kernel)
theorem dX12_alike_102 : decode cX12_alike 102 = .ok (.iconst 0, 1) := dk_iconst_0 (by decide +kernel)
theorem dX12_alike_88 : decode cX12_alike 88 = .ok (.aload_n 0, 1) := dk_aload_n_0 (by decide +kernel)
theorem dX12_alike_89 : decode cX12_alike 89 = .ok (.getfield 351, 3) := dk_getfield 351 (b1 := 1) (b2 := 95) (by decide +kernel) (by decide +kernel) (by decide +kernel) (by decide +kernel)
theorem dX12_alike_92 : decode cX12_alike 92 = .ok (.lload 7, 2) := dk_lload 7 (b := 7) (by decide +kernel) (by decide +kernel) (by decide +kernel)
theorem dX12_alike_94 : decode cX12_alike 94 = .ok (.lcmp, 1) := dk_lcmp (by decide +kernel)
theorem dX12_alike_95 : decode cX12_alike 95 = .ok (.ifCond .ne 7, 3) := dk_ifCond_ne 7 (b1 := 0) (b2 := 7) (by decide +kernel) (by decide +kernel) (by decide +kernel) (by decide +kernel)
theorem dX12_alike_98 : decode cX12_alike 98 = .ok (.iconst 1, 1) := dk_iconst_1 (by decide +kernel)
theorem dX12_alike_99 : decode cX12_alike 99 = .ok (.goto 4, 3) := dk_goto 4 (b1 := 0) (b2 := 4) (by decide +kernel) (by decide +kernel) (by decide +kernel) (by decide +kernel)
theorem dX12_alike_72 : decode cX12_alike 72 = .ok (.aload_n 0, 1) := dk_aload_n_0 (by decide +kernel)
theorem dX12_alike_73 : decode cX12_alike 73 = .ok (.iconst 3, 1) := dk_iconst_3 (by decide +kernel)
theorem dX12_alike_74 : decode cX12_alike 74 = .ok (.invokevirtual 194, 3) := dk_invokevirtual 194 (b1 := 0) (b2 := 194) (by decide +kernel) (by decide +kernel) (by decide +kernel) (by decide +kernel)
theorem dX12_alike_77 : decode cX12_alike 77 = .ok (.ireturn, 1) := dk_ireturn (by decide +kernel)
theorem dX12_alike_44 : decode cX12_alike 44 = .ok (.aload_n 0, 1) := dk_aload_n_0 (by decide +kernel)
theorem dX12_alike_45 : decode cX12_alike 45 = .ok (.iconst 3, 1) := dk_iconst_3 (by decide +kernel)
theorem dX12_alike_46 : decode cX12_alike 46 = .ok (.invokevirtual 194, 3) := dk_invokevirtual 194 (b1 := 0) (b2 := 194) (by decide +kernel) (by decide +kernel) (by decide +kernel) (by decide +kernel)
theorem dX12_alike_49 : decode cX12_alike 49 = .ok (.ireturn, 1) := dk_ireturn (by decide +kernel)
set_option maxRecDepth 20000 in
theorem vX12_alike_0 {E : sm_E} {L : sm_S → Prop} {d : Nat} {x1 : Int32} {x2 : Int32} {x3 : Int32} {x4 : Int32}  {m : sm_M} {Q : Int32 → sm_M → Prop} (hly : ∀ S, L S → ly S) (hd : 5 ≤ d) 
  (h : sm_callI E L mX12_isSlot 1 0 0 [.int x1] m (fun r_2 m_1 =>
   (r_2 = 0 →
      sm_callI E L mX12_finds 1 0 0 [.ref (sm_B E + 109), .int 1] m_1 (fun r_4 m_3 =>
      Q r_4 m_3)) ∧
   (¬ r_2 = 0 →
      sm_callI E L mX12_isPart 1 0 0 [.int x2] m_1 (fun r_6 m_5 =>
      (r_6 = 0 →
         sm_callI E L mX12_finds 1 0 0 [.ref (sm_B E + 109), .int 1] m_5 (fun r_8 m_7 =>
         Q r_8 m_7)) ∧
      (¬ r_6 = 0 →
         sm_callI E L mX12_isSlot 1 0 0 [.int x3] m_5 (fun r_10 m_9 =>
         (r_10 = 0 →
            sm_callI E L mX12_finds 1 0 0 [.ref (sm_B E + 109), .int 1] m_9 (fun r_12 m_11 =>
            Q r_12 m_11)) ∧
         (¬ r_10 = 0 →
            sm_callI E L mX12_isPart 1 0 0 [.int x4] m_9 (fun r_14 m_13 =>
            (¬ r_14 = 0 →
               sm_callI E L mX12_names 4 0 0 [.ref (sm_B E + 109), .int x1, .int x2] m_13 (fun r_16 m_15 =>
               (¬ r_16 = 0 →
                  ∀ x5_17 : Int64, x5_17 = m_15.2.1 109 60 →
                  ∀ x7_18 : Int64, x7_18 = m_15.2.1 109 61 →
                  sm_callI E L mX12_names 4 0 0 [.ref (sm_B E + 109), .int x3, .int x4] m_15 (fun r_20 m_19 =>
                  (¬ r_20 = 0 →
                     (¬ (m_19.2.1 109 60) = x5_17 →
                        gX12_alike_103 E L d ([.ref (sm_B E + 109), .int x1, .int x2, .int x3, .int x4]) x5_17 x7_18 0 m_19 Q) ∧
                     ((m_19.2.1 109 60) = x5_17 →
                        (¬ (m_19.2.1 109 61) = x7_18 →
                           gX12_alike_103 E L d ([.ref (sm_B E + 109), .int x1, .int x2, .int x3, .int x4]) x5_17 x7_18 0 m_19 Q) ∧
                        ((m_19.2.1 109 61) = x7_18 →
                           gX12_alike_103 E L d ([.ref (sm_B E + 109), .int x1, .int x2, .int x3, .int x4]) x5_17 x7_18 1 m_19 Q))) ∧
                  (r_20 = 0 →
                     sm_callI E L mX12_finds 1 0 0 [.ref (sm_B E + 109), .int 3] m_19 (fun r_22 m_21 =>
                     Q r_22 m_21)))) ∧
               (r_16 = 0 →
                  sm_callI E L mX12_finds 1 0 0 [.ref (sm_B E + 109), .int 3] m_15 (fun r_24 m_23 =>
                  Q r_24 m_23)))) ∧
            (r_14 = 0 →
               sm_callI E L mX12_finds 1 0 0 [.ref (sm_B E + 109), .int 1] m_13 (fun r_26 m_25 =>
               Q r_26 m_25)))))))))) :
  sm_callI E L mX12_alike d 0 0 [.ref (sm_B E + 109), .int x1, .int x2, .int x3, .int x4] m Q := by
  refine sm_enter (by decide +kernel) (by simp [lg_sl, Value.category]) ?_
  refine sm_iload_n (Y := mX12_alike) (pc := 0) 1 1 rfl rfl dX12_alike_0 ?_
  refine sm_is_I (Y := mX12_alike) (pc := 1) (As := [.int x1]) fX12_isSlot wRX12_184 rfl (Nat.le_trans (by decide) hd) (Nat.le_of_ble_eq_true rfl) ⟨Nat.le_refl _, Nat.le_refl _⟩ dX12_alike_1 rfl (sm_monoI h (fun r_2 m_1 h => ?_))
  refine sm_if_eq (Y := mX12_alike) (pc := 4) 29 (by decide) dX12_alike_4 (fun hc => ?_) (fun hc => ?_)
  · replace h := h.1 hc
    refine sm_aload_n (Y := mX12_alike) (pc := 29) 0 0 rfl rfl dX12_alike_29 ?_
    refine sm_iconst (Y := mX12_alike) (pc := 30) 1 (by decide) dX12_alike_30 ?_
    refine sm_iv_I (Y := mX12_alike) (pc := 31) (As := [.int 1]) (a := 109) fX12_finds wRX12_194 (lk_109 hly) (by decide) rfl rfl rfl (Nat.le_trans (by decide) hd) (Nat.le_of_ble_eq_true rfl) ⟨Nat.le_refl _, Nat.le_refl _⟩ dX12_alike_31 rfl (sm_monoI h (fun r_4 m_3 h => ?_))
    exact sm_iret (Y := mX12_alike) (pc := 34) rfl rfl rfl dX12_alike_34 ⟨_, rfl, h⟩
  · replace h := h.2 hc
    refine sm_iload_n (Y := mX12_alike) (pc := 7) 2 2 rfl rfl dX12_alike_7 ?_
    refine sm_is_I (Y := mX12_alike) (pc := 8) (As := [.int x2]) fX12_isPart wRX12_214 rfl (Nat.le_trans (by decide) hd) (Nat.le_of_ble_eq_true rfl) ⟨Nat.le_refl _, Nat.le_refl _⟩ dX12_alike_8 rfl (sm_monoI h (fun r_6 m_5 h => ?_))
    refine sm_if_eq (Y := mX12_alike) (pc := 11) 29 (by decide) dX12_alike_11 (fun hc => ?_) (fun hc => ?_)
    · replace h := h.1 hc
      refine sm_aload_n (Y := mX12_alike) (pc := 29) 0 0 rfl rfl dX12_alike_29 ?_
      refine sm_iconst (Y := mX12_alike) (pc := 30) 1 (by decide) dX12_alike_30 ?_
      refine sm_iv_I (Y := mX12_alike) (pc := 31) (As := [.int 1]) (a := 109) fX12_finds wRX12_194 (lk_109 hly) (by decide) rfl rfl rfl (Nat.le_trans (by decide) hd) (Nat.le_of_ble_eq_true rfl) ⟨Nat.le_refl _, Nat.le_refl _⟩ dX12_alike_31 rfl (sm_monoI h (fun r_8 m_7 h => ?_))
      exact sm_iret (Y := mX12_alike) (pc := 34) rfl rfl rfl dX12_alike_34 ⟨_, rfl, h⟩
    · replace h := h.2 hc
      refine sm_iload_n (Y := mX12_alike) (pc := 14) 3 3 rfl rfl dX12_alike_14 ?_
      refine sm_is_I (Y := mX12_alike) (pc := 15) (As := [.int x3]) fX12_isSlot wRX12_184 rfl (Nat.le_trans (by decide) hd) (Nat.le_of_ble_eq_true rfl) ⟨Nat.le_refl _, Nat.le_refl _⟩ dX12_alike_15 rfl (sm_monoI h (fun r_10 m_9 h => ?_))
      refine sm_if_eq (Y := mX12_alike) (pc := 18) 29 (by decide) dX12_alike_18 (fun hc => ?_) (fun hc => ?_)
      · replace h := h.1 hc
        refine sm_aload_n (Y := mX12_alike) (pc := 29) 0 0 rfl rfl dX12_alike_29 ?_
        refine sm_iconst (Y := mX12_alike) (pc := 30) 1 (by decide) dX12_alike_30 ?_
        refine sm_iv_I (Y := mX12_alike) (pc := 31) (As := [.int 1]) (a := 109) fX12_finds wRX12_194 (lk_109 hly) (by decide) rfl rfl rfl (Nat.le_trans (by decide) hd) (Nat.le_of_ble_eq_true rfl) ⟨Nat.le_refl _, Nat.le_refl _⟩ dX12_alike_31 rfl (sm_monoI h (fun r_12 m_11 h => ?_))
        exact sm_iret (Y := mX12_alike) (pc := 34) rfl rfl rfl dX12_alike_34 ⟨_, rfl, h⟩
      · replace h := h.2 hc
        refine sm_iload (Y := mX12_alike) (pc := 21) 4 4 rfl dX12_alike_21 ?_
        refine sm_is_I (Y := mX12_alike) (pc := 23) (As := [.int x4]) fX12_isPart wRX12_214 rfl (Nat.le_trans (by decide) hd) (Nat.le_of_ble_eq_true rfl) ⟨Nat.le_refl _, Nat.le_refl _⟩ dX12_alike_23 rfl (sm_monoI h (fun r_14 m_13 h => ?_))
        refine sm_if_ne (Y := mX12_alike) (pc := 26) 35 (by decide) dX12_alike_26 (fun hc => ?_) (fun hc => ?_)
        · replace h := h.1 hc
          refine sm_aload_n (Y := mX12_alike) (pc := 35) 0 0 rfl rfl dX12_alike_35 ?_
          refine sm_iload_n (Y := mX12_alike) (pc := 36) 1 1 rfl rfl dX12_alike_36 ?_
          refine sm_iload_n (Y := mX12_alike) (pc := 37) 2 2 rfl rfl dX12_alike_37 ?_
          refine sm_iv_I (Y := mX12_alike) (pc := 38) (As := [.int x1, .int x2]) (a := 109) fX12_names wRX12_378 (lk_109 hly) (by decide) rfl rfl rfl (Nat.le_trans (by decide) hd) (Nat.le_of_ble_eq_true rfl) ⟨Nat.le_refl _, Nat.le_refl _⟩ dX12_alike_38 rfl (sm_monoI h (fun r_16 m_15 h => ?_))
          refine sm_if_ne (Y := mX12_alike) (pc := 41) 50 (by decide) dX12_alike_41 (fun hc => ?_) (fun hc => ?_)
          · replace h := h.1 hc
            refine sm_aload_n (Y := mX12_alike) (pc := 50) 0 0 rfl rfl dX12_alike_50 ?_
            refine gf_RX12_348 (Y := mX12_alike) (pc := 51) rfl ((lk_109 hly) _) dX12_alike_51 ?_
            refine sm_lstore (Y := mX12_alike) (pc := 54) (fun y => [(5, .long y), (0, .ref (sm_B E + 109)), (1, .int x1), (2, .int x2), (3, .int x3), (4, .int x4)]) 5 (by decide) (fun _ => rfl) dX12_alike_54 (fun x5_17 ex5_17 => ?_)
            replace h := h x5_17 ex5_17
            refine sm_aload_n (Y := mX12_alike) (pc := 56) 1 0 rfl rfl dX12_alike_56 ?_
            refine gf_RX12_351 (Y := mX12_alike) (pc := 57) rfl ((lk_109 hly) _) dX12_alike_57 ?_
            refine sm_lstore (Y := mX12_alike) (pc := 60) (fun y => [(7, .long y), (5, .long x5_17), (0, .ref (sm_B E + 109)), (1, .int x1), (2, .int x2), (3, .int x3), (4, .int x4)]) 7 (by decide) (fun _ => rfl) dX12_alike_60 (fun x7_18 ex7_18 => ?_)
            replace h := h x7_18 ex7_18
            refine sm_aload_n (Y := mX12_alike) (pc := 62) 2 0 rfl rfl dX12_alike_62 ?_
            refine sm_iload_n (Y := mX12_alike) (pc := 63) 5 3 rfl rfl dX12_alike_63 ?_
            refine sm_iload (Y := mX12_alike) (pc := 64) 6 4 rfl dX12_alike_64 ?_
            refine sm_iv_I (Y := mX12_alike) (pc := 66) (As := [.int x3, .int x4]) (a := 109) fX12_names wRX12_378 (lk_109 hly) (by decide) rfl rfl rfl (Nat.le_trans (by decide) hd) (Nat.le_of_ble_eq_true rfl) ⟨Nat.le_refl _, Nat.le_refl _⟩ dX12_alike_66 rfl (sm_monoI h (fun r_20 m_19 h => ?_))
            refine sm_if_ne (Y := mX12_alike) (pc := 69) 78 (by decide) dX12_alike_69 (fun hc => ?_) (fun hc => ?_)
            · replace h := h.1 hc
              refine sm_aload_n (Y := mX12_alike) (pc := 78) 2 0 rfl rfl dX12_alike_78 ?_
              refine gf_RX12_348 (Y := mX12_alike) (pc := 79) rfl ((lk_109 hly) _) dX12_alike_79 ?_
              refine sm_lload (Y := mX12_alike) (pc := 82) 1 5 rfl dX12_alike_82 ?_
              refine sm_lif_ne (Y := mX12_alike) (pc := 84) 102 (by decide) dX12_alike_84 dX12_alike_85 (fun hc => ?_) (fun hc => ?_)
              · replace h := h.1 hc
                refine sm_iconst (Y := mX12_alike) (pc := 102) 0 (by decide) dX12_alike_102 ?_
                refine sm_sub [2, 1, 0] rfl ?_
                exact h
              · replace h := h.2 hc
                refine sm_aload_n (Y := mX12_alike) (pc := 88) 2 0 rfl rfl dX12_alike_88 ?_
                refine gf_RX12_351 (Y := mX12_alike) (pc := 89) rfl ((lk_109 hly) _) dX12_alike_89 ?_
                refine sm_lload (Y := mX12_alike) (pc := 92) 0 7 rfl dX12_alike_92 ?_
                refine sm_lif_ne (Y := mX12_alike) (pc := 94) 102 (by decide) dX12_alike_94 dX12_alike_95 (fun hc => ?_) (fun hc => ?_)
                · replace h := h.1 hc
                  refine sm_iconst (Y := mX12_alike) (pc := 102) 0 (by decide) dX12_alike_102 ?_
                  refine sm_sub [2, 1, 0] rfl ?_
                  exact h
                · replace h := h.2 hc
                  refine sm_iconst (Y := mX12_alike) (pc := 98) 1 (by decide) dX12_alike_98 ?_
                  refine sm_goto (Y := mX12_alike) (pc := 99) 103 (by decide) dX12_alike_99 ?_
                  refine sm_sub [2, 1, 0] rfl ?_
                  exact h
            · replace h := h.2 hc
              refine sm_aload_n (Y := mX12_alike) (pc := 72) 2 0 rfl rfl dX12_alike_72 ?_
              refine sm_iconst (Y := mX12_alike) (pc := 73) 3 (by decide) dX12_alike_73 ?_
              refine sm_iv_I (Y := mX12_alike) (pc := 74) (As := [.int 3]) (a := 109) fX12_finds wRX12_194 (lk_109 hly) (by decide) rfl rfl rfl (Nat.le_trans (by decide) hd) (Nat.le_of_ble_eq_true rfl) ⟨Nat.le_refl _, Nat.le_refl _⟩ dX12_alike_74 rfl (sm_monoI h (fun r_22 m_21 h => ?_))
              exact sm_iret (Y := mX12_alike) (pc := 77) rfl rfl rfl dX12_alike_77 ⟨_, rfl, h⟩
          · replace h := h.2 hc
            refine sm_aload_n (Y := mX12_alike) (pc := 44) 0 0 rfl rfl dX12_alike_44 ?_
            refine sm_iconst (Y := mX12_alike) (pc := 45) 3 (by decide) dX12_alike_45 ?_
            refine sm_iv_I (Y := mX12_alike) (pc := 46) (As := [.int 3]) (a := 109) fX12_finds wRX12_194 (lk_109 hly) (by decide) rfl rfl rfl (Nat.le_trans (by decide) hd) (Nat.le_of_ble_eq_true rfl) ⟨Nat.le_refl _, Nat.le_refl _⟩ dX12_alike_46 rfl (sm_monoI h (fun r_24 m_23 h => ?_))
            exact sm_iret (Y := mX12_alike) (pc := 49) rfl rfl rfl dX12_alike_49 ⟨_, rfl, h⟩
        · replace h := h.2 hc
          refine sm_aload_n (Y := mX12_alike) (pc := 29) 0 0 rfl rfl dX12_alike_29 ?_
          refine sm_iconst (Y := mX12_alike) (pc := 30) 1 (by decide) dX12_alike_30 ?_
          refine sm_iv_I (Y := mX12_alike) (pc := 31) (As := [.int 1]) (a := 109) fX12_finds wRX12_194 (lk_109 hly) (by decide) rfl rfl rfl (Nat.le_trans (by decide) hd) (Nat.le_of_ble_eq_true rfl) ⟨Nat.le_refl _, Nat.le_refl _⟩ dX12_alike_31 rfl (sm_monoI h (fun r_26 m_25 h => ?_))
          exact sm_iret (Y := mX12_alike) (pc := 34) rfl rfl rfl dX12_alike_34 ⟨_, rfl, h⟩
abbrev mX12_listed : sm_Y := (yX12_listed, cX12_listed, 7, (some FieldType.int))
theorem fX12_listed : sm_mi mX12_listed RX12 3 := ⟨sm_in 1624 (by decide +kernel) (by decide +kernel), sm_in 1622 (by decide +kernel) (by decide +kernel), sm_in 1623 (by decide +kernel) (by decide +kernel), sm_in 93 (by decide +kernel) (by decide +kernel), rfl, ⟨by decide +kernel, by decide +kernel, by decide +kernel⟩, by decide⟩
def gX12_listed_57 (E : sm_E) (L : sm_S → Prop) (d : Nat) (vs : List Value) (x1 : Int32) (x2 : Int32) (x3 : Int32) (x4 : Int32) (x5 : Int32) (x6 : Int32) (m : sm_M) (Q : Int32 → sm_M → Prop) : Prop := sm_go E L mX12_listed d 0 0 vs 57 [(0, .ref (sm_B E + 109)), (1, .int x1), (2, .int x2), (3, .int x3), (4, .int x4), (5, .int x5), (6, .int x6)] [] m 0 0 (sm_Z E L vs 0 0 (sm_QI Q))
def gX12_listed_46 (E : sm_E) (L : sm_S → Prop) (d : Nat) (vs : List Value) (x1 : Int32) (x2 : Int32) (x3 : Int32) (x4 : Int32) (x5 : Int32) (m : sm_M) (Q : Int32 → sm_M → Prop) : Prop := sm_go E L mX12_listed d 0 0 vs 46 [(0, .ref (sm_B E + 109)), (1, .int x1), (2, .int x2), (3, .int x3), (4, .int x4), (5, .int x5)] [] m 0 0 (sm_Z E L vs 0 0 (sm_QI Q))
theorem dX12_listed_57 : decode cX12_listed 57 = .ok (.iload 6, 2) := dk_iload 6 (b := 6) (by decide +kernel) (by decide +kernel) (by decide +kernel)
theorem dX12_listed_59 : decode cX12_listed 59 = .ok (.iload 5, 2) := dk_iload 5 (b := 5) (by decide +kernel) (by decide +kernel) (by decide +kernel)
theorem dX12_listed_61 : decode cX12_listed 61 = .ok (.if_icmp .ge 91, 3) := dk_if_icmp_ge 91 (b1 := 0) (b2 := 91) (by decide +kernel) (by decide +kernel) (by decide +kernel) (by decide +kernel)
theorem dX12_listed_152 : decode cX12_listed 152 = .ok (.iinc 5 1, 3) := dk_iinc 5 1 (b1 := 5) (b2 := 1) (by decide +kernel) (by decide +kernel) (by decide +kernel) (by decide +kernel) (by decide +kernel)
theorem dX12_listed_155 : decode cX12_listed 155 = .ok (.goto (-109), 3) := dk_goto (-109) (b1 := 255) (b2 := 147) (by decide +kernel) (by decide +kernel) (by decide +kernel) (by decide +kernel)
theorem dX12_listed_64 : decode cX12_listed 64 = .ok (.iload 5, 2) := dk_iload 5 (b := 5) (by decide +kernel) (by decide +kernel) (by decide +kernel)
theorem dX12_listed_66 : decode cX12_listed 66 = .ok (.i2l, 1) := dk_i2l (by decide +kernel)
theorem dX12_listed_67 : decode cX12_listed 67 = .ok (.iload 6, 2) := dk_iload 6 (b := 6) (by decide +kernel) (by decide +kernel) (by decide +kernel)
theorem dX12_listed_69 : decode cX12_listed 69 = .ok (.i2l, 1) := dk_i2l (by decide +kernel)
theorem dX12_listed_70 : decode cX12_listed 70 = .ok (.invokestatic 166, 3) := dk_invokestatic 166 (b1 := 0) (b2 := 166) (by decide +kernel) (by decide +kernel) (by decide +kernel) (by decide +kernel)
theorem dX12_listed_73 : decode cX12_listed 73 = .ok (.lconst 1, 1) := dk_lconst_1 (by decide +kernel)
theorem dX12_listed_74 : decode cX12_listed 74 = .ok (.lcmp, 1) := dk_lcmp (by decide +kernel)
theorem dX12_listed_75 : decode cX12_listed 75 = .ok (.ifCond .ne 71, 3) := dk_ifCond_ne 71 (b1 := 0) (b2 := 71) (by decide +kernel) (by decide +kernel) (by decide +kernel) (by decide +kernel)
theorem dX12_listed_146 : decode cX12_listed 146 = .ok (.iinc 6 1, 3) := dk_iinc 6 1 (b1 := 6) (b2 := 1) (by decide +kernel) (by decide +kernel) (by decide +kernel) (by decide +kernel) (by decide +kernel)
theorem dX12_listed_149 : decode cX12_listed 149 = .ok (.goto (-92), 3) := dk_goto (-92) (b1 := 255) (b2 := 164) (by decide +kernel) (by decide +kernel) (by decide +kernel) (by decide +kernel)
theorem dX12_listed_78 : decode cX12_listed 78 = .ok (.aload_n 0, 1) := dk_aload_n_0 (by decide +kernel)
theorem dX12_listed_79 : decode cX12_listed 79 = .ok (.iload 5, 2) := dk_iload 5 (b := 5) (by decide +kernel) (by decide +kernel) (by decide +kernel)
theorem dX12_listed_81 : decode cX12_listed 81 = .ok (.i2l, 1) := dk_i2l (by decide +kernel)
theorem dX12_listed_82 : decode cX12_listed 82 = .ok (.iload 6, 2) := dk_iload 6 (b := 6) (by decide +kernel) (by decide +kernel) (by decide +kernel)
theorem dX12_listed_84 : decode cX12_listed 84 = .ok (.i2l, 1) := dk_i2l (by decide +kernel)
theorem dX12_listed_85 : decode cX12_listed 85 = .ok (.invokevirtual 366, 3) := dk_invokevirtual 366 (b1 := 1) (b2 := 110) (by decide +kernel) (by decide +kernel) (by decide +kernel) (by decide +kernel)
theorem dX12_listed_88 : decode cX12_listed 88 = .ok (.iload_n 1, 1) := dk_iload_n_1 (by decide +kernel)
theorem dX12_listed_89 : decode cX12_listed 89 = .ok (.i2l, 1) := dk_i2l (by decide +kernel)
theorem dX12_listed_90 : decode cX12_listed 90 = .ok (.lcmp, 1) := dk_lcmp (by decide +kernel)
theorem dX12_listed_91 : decode cX12_listed 91 = .ok (.ifCond .eq 6, 3) := dk_ifCond_eq 6 (b1 := 0) (b2 := 6) (by decide +kernel) (by decide +kernel) (by decide +kernel) (by decide +kernel)
theorem dX12_listed_97 : decode cX12_listed 97 = .ok (.aload_n 0, 1) := dk_aload_n_0 (by decide +kernel)
theorem dX12_listed_98 : decode cX12_listed 98 = .ok (.iload 5, 2) := dk_iload 5 (b := 5) (by decide +kernel) (by decide +kernel) (by decide +kernel)
theorem dX12_listed_100 : decode cX12_listed 100 = .ok (.i2l, 1) := dk_i2l (by decide +kernel)
theorem dX12_listed_101 : decode cX12_listed 101 = .ok (.iload 6, 2) := dk_iload 6 (b := 6) (by decide +kernel) (by decide +kernel) (by decide +kernel)
theorem dX12_listed_103 : decode cX12_listed 103 = .ok (.i2l, 1) := dk_i2l (by decide +kernel)
theorem dX12_listed_104 : decode cX12_listed 104 = .ok (.invokevirtual 357, 3) := dk_invokevirtual 357 (b1 := 1) (b2 := 101) (by decide +kernel) (by decide +kernel) (by decide +kernel) (by decide +kernel)
theorem dX12_listed_107 : decode cX12_listed 107 = .ok (.aload_n 0, 1) := dk_aload_n_0 (by decide +kernel)
theorem dX12_listed_108 : decode cX12_listed 108 = .ok (.getfield 351, 3) := dk_getfield 351 (b1 := 1) (b2 := 95) (by decide +kernel) (by decide +kernel) (by decide +kernel) (by decide +kernel)
theorem dX12_listed_111 : decode cX12_listed 111 = .ok (.iload 6, 2) := dk_iload 6 (b := 6) (by decide +kernel) (by decide +kernel) (by decide +kernel)
theorem dX12_listed_113 : decode cX12_listed 113 = .ok (.i2l, 1) := dk_i2l (by decide +kernel)
theorem dX12_listed_114 : decode cX12_listed 114 = .ok (.lcmp, 1) := dk_lcmp (by decide +kernel)
theorem dX12_listed_115 : decode cX12_listed 115 = .ok (.ifCond .eq 6, 3) := dk_ifCond_eq 6 (b1 := 0) (b2 := 6) (by decide +kernel) (by decide +kernel) (by decide +kernel) (by decide +kernel)
theorem dX12_listed_121 : decode cX12_listed 121 = .ok (.iload_n 3, 1) := dk_iload_n_3 (by decide +kernel)
theorem dX12_listed_122 : decode cX12_listed 122 = .ok (.ifCond .lt 21, 3) := dk_ifCond_lt 21 (b1 := 0) (b2 := 21) (by decide +kernel) (by decide +kernel) (by decide +kernel) (by decide +kernel)
theorem dX12_listed_143 : decode cX12_listed 143 = .ok (.iinc 4 1, 3) := dk_iinc 4 1 (b1 := 4) (b2 := 1) (by decide +kernel) (by decide +kernel) (by decide +kernel) (by decide +kernel) (by decide +kernel)
theorem dX12_listed_125 : decode cX12_listed 125 = .ok (.iload 4, 2) := dk_iload 4 (b := 4) (by decide +kernel) (by decide +kernel) (by decide +kernel)
theorem dX12_listed_127 : decode cX12_listed 127 = .ok (.iload_n 2, 1) := dk_iload_n_2 (by decide +kernel)
theorem dX12_listed_128 : decode cX12_listed 128 = .ok (.if_icmp .ne 15, 3) := dk_if_icmp_ne 15 (b1 := 0) (b2 := 15) (by decide +kernel) (by decide +kernel) (by decide +kernel) (by decide +kernel)
theorem dX12_listed_131 : decode cX12_listed 131 = .ok (.iload_n 3, 1) := dk_iload_n_3 (by decide +kernel)
theorem dX12_listed_132 : decode cX12_listed 132 = .ok (.ifCond .ne 8, 3) := dk_ifCond_ne 8 (b1 := 0) (b2 := 8) (by decide +kernel) (by decide +kernel) (by decide +kernel) (by decide +kernel)
theorem dX12_listed_140 : decode cX12_listed 140 = .ok (.iload 6, 2) := dk_iload 6 (b := 6) (by decide +kernel) (by decide +kernel) (by decide +kernel)
theorem dX12_listed_142 : decode cX12_listed 142 = .ok (.ireturn, 1) := dk_ireturn (by decide +kernel)
theorem dX12_listed_135 : decode cX12_listed 135 = .ok (.iload 5, 2) := dk_iload 5 (b := 5) (by decide +kernel) (by decide +kernel) (by decide +kernel)
theorem dX12_listed_137 : decode cX12_listed 137 = .ok (.goto 5, 3) := dk_goto 5 (b1 := 0) (b2 := 5) (by decide +kernel) (by decide +kernel) (by decide +kernel) (by decide +kernel)
theorem dX12_listed_118 : decode cX12_listed 118 = .ok (.goto 28, 3) := dk_goto 28 (b1 := 0) (b2 := 28) (by decide +kernel) (by decide +kernel) (by decide +kernel) (by decide +kernel)
theorem dX12_listed_94 : decode cX12_listed 94 = .ok (.goto 52, 3) := dk_goto 52 (b1 := 0) (b2 := 52) (by decide +kernel) (by decide +kernel) (by decide +kernel) (by decide +kernel)
set_option maxRecDepth 20000 in
theorem vX12_listed_57 {E : sm_E} {L : sm_S → Prop} {d : Nat} {vs : List Value} {x1 : Int32} {x2 : Int32} {x3 : Int32} {x4 : Int32} {x5 : Int32} {x6 : Int32}  {m : sm_M} {Q : Int32 → sm_M → Prop} (hly : ∀ S, L S → ly S) (hd : 3 ≤ d) 
  (h : (x5 ≤ x6 →
      ∀ x5_1 : Int32, x5_1 = x5 + 1 →
      gX12_listed_46 E L d vs x1 x2 x3 x4 x5_1 m Q) ∧
   (¬ x5 ≤ x6 →
      sm_callJ E L mX12_divisor 1 0 0 [.long (x5.toInt64), .long (x6.toInt64)] m (fun r_3 m_2 =>
      (¬ r_3 = 1 →
         ∀ x6_4 : Int32, x6_4 = x6 + 1 →
         gX12_listed_57 E L d vs x1 x2 x3 x4 x5 x6_4 m_2 Q) ∧
      (r_3 = 1 →
         sm_callJ E L mX12_sizeOf 2 0 0 [.ref (sm_B E + 109), .long (x5.toInt64), .long (x6.toInt64)] m_2 (fun r_6 m_5 =>
         (r_6 = (x1.toInt64) →
            sm_callV E L mX12_namesBy 2 0 0 [.ref (sm_B E + 109), .long (x5.toInt64), .long (x6.toInt64)] m_5 (fun m_7 =>
            ((m_7.2.1 109 61) = (x6.toInt64) →
               (x3 < 0 →
                  ∀ x4_8 : Int32, x4_8 = x4 + 1 →
                  ∀ x6_9 : Int32, x6_9 = x6 + 1 →
                  gX12_listed_57 E L d vs x1 x2 x3 x4_8 x5 x6_9 m_7 Q) ∧
               (¬ x3 < 0 →
                  (¬ x4 = x2 →
                     ∀ x4_10 : Int32, x4_10 = x4 + 1 →
                     ∀ x6_11 : Int32, x6_11 = x6 + 1 →
                     gX12_listed_57 E L d vs x1 x2 x3 x4_10 x5 x6_11 m_7 Q) ∧
                  (x4 = x2 →
                     (¬ x3 = 0 →
                        Q x6 m_7) ∧
                     (x3 = 0 →
                        Q x5 m_7)))) ∧
            (¬ (m_7.2.1 109 61) = (x6.toInt64) →
               ∀ x6_12 : Int32, x6_12 = x6 + 1 →
               gX12_listed_57 E L d vs x1 x2 x3 x4 x5 x6_12 m_7 Q))) ∧
         (¬ r_6 = (x1.toInt64) →
            ∀ x6_13 : Int32, x6_13 = x6 + 1 →
            gX12_listed_57 E L d vs x1 x2 x3 x4 x5 x6_13 m_5 Q)))))) :
  gX12_listed_57 E L d vs x1 x2 x3 x4 x5 x6 m Q := by
  refine sm_iload (Y := mX12_listed) (pc := 57) 6 6 rfl dX12_listed_57 ?_
  refine sm_iload (Y := mX12_listed) (pc := 59) 5 5 rfl dX12_listed_59 ?_
  refine sm_icmp_ge (Y := mX12_listed) (pc := 61) 152 (by decide) dX12_listed_61 (fun hc => ?_) (fun hc => ?_)
  · replace h := h.1 hc
    refine sm_iinc (Y := mX12_listed) (pc := 152) (fun y => [(5, .int y), (0, .ref (sm_B E + 109)), (1, .int x1), (2, .int x2), (3, .int x3), (4, .int x4), (6, .int x6)]) 5 5 rfl (by decide) (fun _ => rfl) dX12_listed_152 (fun x5_1 ex5_1 => ?_)
    replace h := h x5_1 ex5_1
    refine sm_goto (Y := mX12_listed) (pc := 155) 46 (by decide) dX12_listed_155 ?_
    refine sm_sub [1, 2, 3, 4, 5, 0] rfl ?_
    exact h
  · replace h := h.2 hc
    refine sm_iload (Y := mX12_listed) (pc := 64) 5 5 rfl dX12_listed_64 ?_
    refine sm_i2l (Y := mX12_listed) (pc := 66) dX12_listed_66 ?_
    refine sm_iload (Y := mX12_listed) (pc := 67) 6 6 rfl dX12_listed_67 ?_
    refine sm_i2l (Y := mX12_listed) (pc := 69) dX12_listed_69 ?_
    refine sm_is_J (Y := mX12_listed) (pc := 70) (As := [.long (x5.toInt64), .long (x6.toInt64)]) fX12_divisor wRX12_166 rfl (Nat.le_trans (by decide) hd) (Nat.le_of_ble_eq_true rfl) ⟨Nat.le_refl _, Nat.le_refl _⟩ dX12_listed_70 rfl (sm_monoJ h (fun r_3 m_2 h => ?_))
    refine sm_lconst (Y := mX12_listed) (pc := 73) 1 (by decide) dX12_listed_73 ?_
    refine sm_lif_ne (Y := mX12_listed) (pc := 74) 146 (by decide) dX12_listed_74 dX12_listed_75 (fun hc => ?_) (fun hc => ?_)
    · replace h := h.1 hc
      refine sm_iinc (Y := mX12_listed) (pc := 146) (fun y => [(6, .int y), (0, .ref (sm_B E + 109)), (1, .int x1), (2, .int x2), (3, .int x3), (4, .int x4), (5, .int x5)]) 6 6 rfl (by decide) (fun _ => rfl) dX12_listed_146 (fun x6_4 ex6_4 => ?_)
      replace h := h x6_4 ex6_4
      refine sm_goto (Y := mX12_listed) (pc := 149) 57 (by decide) dX12_listed_149 ?_
      refine sm_sub [1, 2, 3, 4, 5, 6, 0] rfl ?_
      exact h
    · replace h := h.2 hc
      refine sm_aload_n (Y := mX12_listed) (pc := 78) 0 0 rfl rfl dX12_listed_78 ?_
      refine sm_iload (Y := mX12_listed) (pc := 79) 5 5 rfl dX12_listed_79 ?_
      refine sm_i2l (Y := mX12_listed) (pc := 81) dX12_listed_81 ?_
      refine sm_iload (Y := mX12_listed) (pc := 82) 6 6 rfl dX12_listed_82 ?_
      refine sm_i2l (Y := mX12_listed) (pc := 84) dX12_listed_84 ?_
      refine sm_iv_J (Y := mX12_listed) (pc := 85) (As := [.long (x5.toInt64), .long (x6.toInt64)]) (a := 109) fX12_sizeOf wRX12_366 (lk_109 hly) (by decide) rfl rfl rfl (Nat.le_trans (by decide) hd) (Nat.le_of_ble_eq_true rfl) ⟨Nat.le_refl _, Nat.le_refl _⟩ dX12_listed_85 rfl (sm_monoJ h (fun r_6 m_5 h => ?_))
      refine sm_iload_n (Y := mX12_listed) (pc := 88) 1 1 rfl rfl dX12_listed_88 ?_
      refine sm_i2l (Y := mX12_listed) (pc := 89) dX12_listed_89 ?_
      refine sm_lif_eq (Y := mX12_listed) (pc := 90) 97 (by decide) dX12_listed_90 dX12_listed_91 (fun hc => ?_) (fun hc => ?_)
      · replace h := h.1 hc
        refine sm_aload_n (Y := mX12_listed) (pc := 97) 0 0 rfl rfl dX12_listed_97 ?_
        refine sm_iload (Y := mX12_listed) (pc := 98) 5 5 rfl dX12_listed_98 ?_
        refine sm_i2l (Y := mX12_listed) (pc := 100) dX12_listed_100 ?_
        refine sm_iload (Y := mX12_listed) (pc := 101) 6 6 rfl dX12_listed_101 ?_
        refine sm_i2l (Y := mX12_listed) (pc := 103) dX12_listed_103 ?_
        refine sm_iv_V (Y := mX12_listed) (pc := 104) (As := [.long (x5.toInt64), .long (x6.toInt64)]) (a := 109) fX12_namesBy wRX12_357 (lk_109 hly) (by decide) rfl rfl rfl (Nat.le_trans (by decide) hd) (Nat.le_of_ble_eq_true rfl) ⟨Nat.le_refl _, Nat.le_refl _⟩ dX12_listed_104 rfl (sm_monoV h (fun m_7 h => ?_))
        refine sm_aload_n (Y := mX12_listed) (pc := 107) 0 0 rfl rfl dX12_listed_107 ?_
        refine gf_RX12_351 (Y := mX12_listed) (pc := 108) rfl ((lk_109 hly) _) dX12_listed_108 ?_
        refine sm_iload (Y := mX12_listed) (pc := 111) 6 6 rfl dX12_listed_111 ?_
        refine sm_i2l (Y := mX12_listed) (pc := 113) dX12_listed_113 ?_
        refine sm_lif_eq (Y := mX12_listed) (pc := 114) 121 (by decide) dX12_listed_114 dX12_listed_115 (fun hc => ?_) (fun hc => ?_)
        · replace h := h.1 hc
          refine sm_iload_n (Y := mX12_listed) (pc := 121) 3 3 rfl rfl dX12_listed_121 ?_
          refine sm_if_lt (Y := mX12_listed) (pc := 122) 143 (by decide) dX12_listed_122 (fun hc => ?_) (fun hc => ?_)
          · replace h := h.1 hc
            refine sm_iinc (Y := mX12_listed) (pc := 143) (fun y => [(4, .int y), (0, .ref (sm_B E + 109)), (1, .int x1), (2, .int x2), (3, .int x3), (5, .int x5), (6, .int x6)]) 4 4 rfl (by decide) (fun _ => rfl) dX12_listed_143 (fun x4_8 ex4_8 => ?_)
            replace h := h x4_8 ex4_8
            refine sm_iinc (Y := mX12_listed) (pc := 146) (fun y => [(6, .int y), (4, .int x4_8), (0, .ref (sm_B E + 109)), (1, .int x1), (2, .int x2), (3, .int x3), (5, .int x5)]) 6 6 rfl (by decide) (fun _ => rfl) dX12_listed_146 (fun x6_9 ex6_9 => ?_)
            replace h := h x6_9 ex6_9
            refine sm_goto (Y := mX12_listed) (pc := 149) 57 (by decide) dX12_listed_149 ?_
            refine sm_sub [2, 3, 4, 5, 1, 6, 0] rfl ?_
            exact h
          · replace h := h.2 hc
            refine sm_iload (Y := mX12_listed) (pc := 125) 4 4 rfl dX12_listed_125 ?_
            refine sm_iload_n (Y := mX12_listed) (pc := 127) 2 2 rfl rfl dX12_listed_127 ?_
            refine sm_icmp_ne (Y := mX12_listed) (pc := 128) 143 (by decide) dX12_listed_128 (fun hc => ?_) (fun hc => ?_)
            · replace h := h.1 hc
              refine sm_iinc (Y := mX12_listed) (pc := 143) (fun y => [(4, .int y), (0, .ref (sm_B E + 109)), (1, .int x1), (2, .int x2), (3, .int x3), (5, .int x5), (6, .int x6)]) 4 4 rfl (by decide) (fun _ => rfl) dX12_listed_143 (fun x4_10 ex4_10 => ?_)
              replace h := h x4_10 ex4_10
              refine sm_iinc (Y := mX12_listed) (pc := 146) (fun y => [(6, .int y), (4, .int x4_10), (0, .ref (sm_B E + 109)), (1, .int x1), (2, .int x2), (3, .int x3), (5, .int x5)]) 6 6 rfl (by decide) (fun _ => rfl) dX12_listed_146 (fun x6_11 ex6_11 => ?_)
              replace h := h x6_11 ex6_11
              refine sm_goto (Y := mX12_listed) (pc := 149) 57 (by decide) dX12_listed_149 ?_
              refine sm_sub [2, 3, 4, 5, 1, 6, 0] rfl ?_
              exact h
            · replace h := h.2 hc
              refine sm_iload_n (Y := mX12_listed) (pc := 131) 3 3 rfl rfl dX12_listed_131 ?_
              refine sm_if_ne (Y := mX12_listed) (pc := 132) 140 (by decide) dX12_listed_132 (fun hc => ?_) (fun hc => ?_)
              · replace h := h.1 hc
                refine sm_iload (Y := mX12_listed) (pc := 140) 6 6 rfl dX12_listed_140 ?_
                exact sm_iret (Y := mX12_listed) (pc := 142) rfl rfl rfl dX12_listed_142 ⟨_, rfl, h⟩
              · replace h := h.2 hc
                refine sm_iload (Y := mX12_listed) (pc := 135) 5 5 rfl dX12_listed_135 ?_
                refine sm_goto (Y := mX12_listed) (pc := 137) 142 (by decide) dX12_listed_137 ?_
                exact sm_iret (Y := mX12_listed) (pc := 142) rfl rfl rfl dX12_listed_142 ⟨_, rfl, h⟩
        · replace h := h.2 hc
          refine sm_goto (Y := mX12_listed) (pc := 118) 146 (by decide) dX12_listed_118 ?_
          refine sm_iinc (Y := mX12_listed) (pc := 146) (fun y => [(6, .int y), (0, .ref (sm_B E + 109)), (1, .int x1), (2, .int x2), (3, .int x3), (4, .int x4), (5, .int x5)]) 6 6 rfl (by decide) (fun _ => rfl) dX12_listed_146 (fun x6_12 ex6_12 => ?_)
          replace h := h x6_12 ex6_12
          refine sm_goto (Y := mX12_listed) (pc := 149) 57 (by decide) dX12_listed_149 ?_
          refine sm_sub [1, 2, 3, 4, 5, 6, 0] rfl ?_
          exact h
      · replace h := h.2 hc
        refine sm_goto (Y := mX12_listed) (pc := 94) 146 (by decide) dX12_listed_94 ?_
        refine sm_iinc (Y := mX12_listed) (pc := 146) (fun y => [(6, .int y), (0, .ref (sm_B E + 109)), (1, .int x1), (2, .int x2), (3, .int x3), (4, .int x4), (5, .int x5)]) 6 6 rfl (by decide) (fun _ => rfl) dX12_listed_146 (fun x6_13 ex6_13 => ?_)
        replace h := h x6_13 ex6_13
        refine sm_goto (Y := mX12_listed) (pc := 149) 57 (by decide) dX12_listed_149 ?_
        refine sm_sub [1, 2, 3, 4, 5, 6, 0] rfl ?_
        exact h
theorem dX12_listed_46 : decode cX12_listed 46 = .ok (.iload 5, 2) := dk_iload 5 (b := 5) (by decide +kernel) (by decide +kernel) (by decide +kernel)
theorem dX12_listed_48 : decode cX12_listed 48 = .ok (.sipush 400, 3) := dk_sipush 400 (b1 := 1) (b2 := 144) (by decide +kernel) (by decide +kernel) (by decide +kernel) (by decide +kernel)
theorem dX12_listed_51 : decode cX12_listed 51 = .ok (.if_icmp .gt 107, 3) := dk_if_icmp_gt 107 (b1 := 0) (b2 := 107) (by decide +kernel) (by decide +kernel) (by decide +kernel) (by decide +kernel)
theorem dX12_listed_158 : decode cX12_listed 158 = .ok (.iload_n 3, 1) := dk_iload_n_3 (by decide +kernel)
theorem dX12_listed_159 : decode cX12_listed 159 = .ok (.ifCond .ge 8, 3) := dk_ifCond_ge 8 (b1 := 0) (b2 := 8) (by decide +kernel) (by decide +kernel) (by decide +kernel) (by decide +kernel)
theorem dX12_listed_167 : decode cX12_listed 167 = .ok (.aload_n 0, 1) := dk_aload_n_0 (by decide +kernel)
theorem dX12_listed_168 : decode cX12_listed 168 = .ok (.iconst 2, 1) := dk_iconst_2 (by decide +kernel)
theorem dX12_listed_169 : decode cX12_listed 169 = .ok (.invokevirtual 194, 3) := dk_invokevirtual 194 (b1 := 0) (b2 := 194) (by decide +kernel) (by decide +kernel) (by decide +kernel) (by decide +kernel)
theorem dX12_listed_172 : decode cX12_listed 172 = .ok (.ireturn, 1) := dk_ireturn (by decide +kernel)
theorem dX12_listed_162 : decode cX12_listed 162 = .ok (.iload 4, 2) := dk_iload 4 (b := 4) (by decide +kernel) (by decide +kernel) (by decide +kernel)
theorem dX12_listed_164 : decode cX12_listed 164 = .ok (.goto 8, 3) := dk_goto 8 (b1 := 0) (b2 := 8) (by decide +kernel) (by decide +kernel) (by decide +kernel) (by decide +kernel)
theorem dX12_listed_54 : decode cX12_listed 54 = .ok (.iconst 1, 1) := dk_iconst_1 (by decide +kernel)
theorem dX12_listed_55 : decode cX12_listed 55 = .ok (.istore 6, 2) := dk_istore 6 (b := 6) (by decide +kernel) (by decide +kernel) (by decide +kernel)
set_option maxRecDepth 20000 in
theorem vX12_listed_46 {E : sm_E} {L : sm_S → Prop} {d : Nat} {vs : List Value} {x1 : Int32} {x2 : Int32} {x3 : Int32} {x4 : Int32} {x5 : Int32}  {m : sm_M} {Q : Int32 → sm_M → Prop} (hly : ∀ S, L S → ly S) (hd : 3 ≤ d) 
  (h : (400 < x5 →
      (0 ≤ x3 →
         sm_callI E L mX12_finds 1 0 0 [.ref (sm_B E + 109), .int 2] m (fun r_2 m_1 =>
         Q r_2 m_1)) ∧
      (¬ 0 ≤ x3 →
         Q x4 m)) ∧
   (¬ 400 < x5 →
      gX12_listed_57 E L d vs x1 x2 x3 x4 x5 1 m Q)) :
  gX12_listed_46 E L d vs x1 x2 x3 x4 x5 m Q := by
  refine sm_iload (Y := mX12_listed) (pc := 46) 5 5 rfl dX12_listed_46 ?_
  refine sm_sipush (Y := mX12_listed) (pc := 48) 400 (by decide) dX12_listed_48 ?_
  refine sm_icmp_gt (Y := mX12_listed) (pc := 51) 158 (by decide) dX12_listed_51 (fun hc => ?_) (fun hc => ?_)
  · replace h := h.1 hc
    refine sm_iload_n (Y := mX12_listed) (pc := 158) 3 3 rfl rfl dX12_listed_158 ?_
    refine sm_if_ge (Y := mX12_listed) (pc := 159) 167 (by decide) dX12_listed_159 (fun hc => ?_) (fun hc => ?_)
    · replace h := h.1 hc
      refine sm_aload_n (Y := mX12_listed) (pc := 167) 0 0 rfl rfl dX12_listed_167 ?_
      refine sm_iconst (Y := mX12_listed) (pc := 168) 2 (by decide) dX12_listed_168 ?_
      refine sm_iv_I (Y := mX12_listed) (pc := 169) (As := [.int 2]) (a := 109) fX12_finds wRX12_194 (lk_109 hly) (by decide) rfl rfl rfl (Nat.le_trans (by decide) hd) (Nat.le_of_ble_eq_true rfl) ⟨Nat.le_refl _, Nat.le_refl _⟩ dX12_listed_169 rfl (sm_monoI h (fun r_2 m_1 h => ?_))
      exact sm_iret (Y := mX12_listed) (pc := 172) rfl rfl rfl dX12_listed_172 ⟨_, rfl, h⟩
    · replace h := h.2 hc
      refine sm_iload (Y := mX12_listed) (pc := 162) 4 4 rfl dX12_listed_162 ?_
      refine sm_goto (Y := mX12_listed) (pc := 164) 172 (by decide) dX12_listed_164 ?_
      exact sm_iret (Y := mX12_listed) (pc := 172) rfl rfl rfl dX12_listed_172 ⟨_, rfl, h⟩
  · replace h := h.2 hc
    refine sm_iconst (Y := mX12_listed) (pc := 54) 1 (by decide) dX12_listed_54 ?_
    refine sm_istore0 (Y := mX12_listed) (pc := 55) [(6, .int 1), (0, .ref (sm_B E + 109)), (1, .int x1), (2, .int x2), (3, .int x3), (4, .int x4), (5, .int x5)] 6 (by decide) rfl dX12_listed_55 ?_
    refine sm_sub [1, 2, 3, 4, 5, 6, 0] rfl ?_
    exact h
theorem dX12_listed_0 : decode cX12_listed 0 = .ok (.iload_n 1, 1) := dk_iload_n_1 (by decide +kernel)
theorem dX12_listed_1 : decode cX12_listed 1 = .ok (.i2l, 1) := dk_i2l (by decide +kernel)
theorem dX12_listed_2 : decode cX12_listed 2 = .ok (.ldc2_w 334, 3) := dk_ldc2_w 334 (b1 := 1) (b2 := 78) (by decide +kernel) (by decide +kernel) (by decide +kernel) (by decide +kernel)
theorem dX12_listed_5 : decode cX12_listed 5 = .ok (.ldc2_w 389, 3) := dk_ldc2_w 389 (b1 := 1) (b2 := 133) (by decide +kernel) (by decide +kernel) (by decide +kernel) (by decide +kernel)
theorem dX12_listed_8 : decode cX12_listed 8 = .ok (.invokestatic 190, 3) := dk_invokestatic 190 (b1 := 0) (b2 := 190) (by decide +kernel) (by decide +kernel) (by decide +kernel) (by decide +kernel)
theorem dX12_listed_11 : decode cX12_listed 11 = .ok (.ifCond .eq 23, 3) := dk_ifCond_eq 23 (b1 := 0) (b2 := 23) (by decide +kernel) (by decide +kernel) (by decide +kernel) (by decide +kernel)
theorem dX12_listed_34 : decode cX12_listed 34 = .ok (.aload_n 0, 1) := dk_aload_n_0 (by decide +kernel)
theorem dX12_listed_35 : decode cX12_listed 35 = .ok (.iconst 1, 1) := dk_iconst_1 (by decide +kernel)
theorem dX12_listed_36 : decode cX12_listed 36 = .ok (.invokevirtual 194, 3) := dk_invokevirtual 194 (b1 := 0) (b2 := 194) (by decide +kernel) (by decide +kernel) (by decide +kernel) (by decide +kernel)
theorem dX12_listed_39 : decode cX12_listed 39 = .ok (.ireturn, 1) := dk_ireturn (by decide +kernel)
theorem dX12_listed_14 : decode cX12_listed 14 = .ok (.iload_n 3, 1) := dk_iload_n_3 (by decide +kernel)
theorem dX12_listed_15 : decode cX12_listed 15 = .ok (.i2l, 1) := dk_i2l (by decide +kernel)
theorem dX12_listed_16 : decode cX12_listed 16 = .ok (.ldc2_w 136, 3) := dk_ldc2_w 136 (b1 := 0) (b2 := 136) (by decide +kernel) (by decide +kernel) (by decide +kernel) (by decide +kernel)
theorem dX12_listed_19 : decode cX12_listed 19 = .ok (.lconst 1, 1) := dk_lconst_1 (by decide +kernel)
theorem dX12_listed_20 : decode cX12_listed 20 = .ok (.invokestatic 190, 3) := dk_invokestatic 190 (b1 := 0) (b2 := 190) (by decide +kernel) (by decide +kernel) (by decide +kernel) (by decide +kernel)
theorem dX12_listed_23 : decode cX12_listed 23 = .ok (.ifCond .eq 11, 3) := dk_ifCond_eq 11 (b1 := 0) (b2 := 11) (by decide +kernel) (by decide +kernel) (by decide +kernel) (by decide +kernel)
theorem dX12_listed_26 : decode cX12_listed 26 = .ok (.iload_n 3, 1) := dk_iload_n_3 (by decide +kernel)
theorem dX12_listed_27 : decode cX12_listed 27 = .ok (.ifCond .lt 13, 3) := dk_ifCond_lt 13 (b1 := 0) (b2 := 13) (by decide +kernel) (by decide +kernel) (by decide +kernel) (by decide +kernel)
theorem dX12_listed_40 : decode cX12_listed 40 = .ok (.iconst 0, 1) := dk_iconst_0 (by decide +kernel)
theorem dX12_listed_41 : decode cX12_listed 41 = .ok (.istore 4, 2) := dk_istore 4 (b := 4) (by decide +kernel) (by decide +kernel) (by decide +kernel)
theorem dX12_listed_43 : decode cX12_listed 43 = .ok (.iconst 2, 1) := dk_iconst_2 (by decide +kernel)
theorem dX12_listed_44 : decode cX12_listed 44 = .ok (.istore 5, 2) := dk_istore 5 (b := 5) (by decide +kernel) (by decide +kernel) (by decide +kernel)
theorem dX12_listed_30 : decode cX12_listed 30 = .ok (.iload_n 2, 1) := dk_iload_n_2 (by decide +kernel)
theorem dX12_listed_31 : decode cX12_listed 31 = .ok (.ifCond .ge 9, 3) := dk_ifCond_ge 9 (b1 := 0) (b2 := 9) (by decide +kernel) (by decide +kernel) (by decide +kernel) (by decide +kernel)
set_option maxRecDepth 20000 in
theorem vX12_listed_0 {E : sm_E} {L : sm_S → Prop} {d : Nat} {x1 : Int32} {x2 : Int32} {x3 : Int32}  {m : sm_M} {Q : Int32 → sm_M → Prop} (hly : ∀ S, L S → ly S) (hd : 3 ≤ d) 
  (h : sm_callI E L mX12_isIn 1 0 0 [.long (x1.toInt64), .long 2, .long 12] m (fun r_2 m_1 =>
   (r_2 = 0 →
      sm_callI E L mX12_finds 1 0 0 [.ref (sm_B E + 109), .int 1] m_1 (fun r_4 m_3 =>
      Q r_4 m_3)) ∧
   (¬ r_2 = 0 →
      sm_callI E L mX12_isIn 1 0 0 [.long (x3.toInt64), .long (-1), .long 1] m_1 (fun r_6 m_5 =>
      (r_6 = 0 →
         sm_callI E L mX12_finds 1 0 0 [.ref (sm_B E + 109), .int 1] m_5 (fun r_8 m_7 =>
         Q r_8 m_7)) ∧
      (¬ r_6 = 0 →
         (x3 < 0 →
            gX12_listed_46 E L d ([.ref (sm_B E + 109), .int x1, .int x2, .int x3]) x1 x2 x3 0 2 m_5 Q) ∧
         (¬ x3 < 0 →
            (0 ≤ x2 →
               gX12_listed_46 E L d ([.ref (sm_B E + 109), .int x1, .int x2, .int x3]) x1 x2 x3 0 2 m_5 Q) ∧
            (¬ 0 ≤ x2 →
               sm_callI E L mX12_finds 1 0 0 [.ref (sm_B E + 109), .int 1] m_5 (fun r_14 m_13 =>
               Q r_14 m_13)))))))) :
  sm_callI E L mX12_listed d 0 0 [.ref (sm_B E + 109), .int x1, .int x2, .int x3] m Q := by
  refine sm_enter (by decide +kernel) (by simp [lg_sl, Value.category]) ?_
  refine sm_iload_n (Y := mX12_listed) (pc := 0) 1 1 rfl rfl dX12_listed_0 ?_
  refine sm_i2l (Y := mX12_listed) (pc := 1) dX12_listed_1 ?_
  refine sm_ldc2_w (Y := mX12_listed) (pc := 2) 2 wRX12_334 dX12_listed_2 ?_
  refine sm_ldc2_w (Y := mX12_listed) (pc := 5) 12 wRX12_389 dX12_listed_5 ?_
  refine sm_is_I (Y := mX12_listed) (pc := 8) (As := [.long (x1.toInt64), .long 2, .long 12]) fX12_isIn wRX12_190 rfl (Nat.le_trans (by decide) hd) (Nat.le_of_ble_eq_true rfl) ⟨Nat.le_refl _, Nat.le_refl _⟩ dX12_listed_8 rfl (sm_monoI h (fun r_2 m_1 h => ?_))
  refine sm_if_eq (Y := mX12_listed) (pc := 11) 34 (by decide) dX12_listed_11 (fun hc => ?_) (fun hc => ?_)
  · replace h := h.1 hc
    refine sm_aload_n (Y := mX12_listed) (pc := 34) 0 0 rfl rfl dX12_listed_34 ?_
    refine sm_iconst (Y := mX12_listed) (pc := 35) 1 (by decide) dX12_listed_35 ?_
    refine sm_iv_I (Y := mX12_listed) (pc := 36) (As := [.int 1]) (a := 109) fX12_finds wRX12_194 (lk_109 hly) (by decide) rfl rfl rfl (Nat.le_trans (by decide) hd) (Nat.le_of_ble_eq_true rfl) ⟨Nat.le_refl _, Nat.le_refl _⟩ dX12_listed_36 rfl (sm_monoI h (fun r_4 m_3 h => ?_))
    exact sm_iret (Y := mX12_listed) (pc := 39) rfl rfl rfl dX12_listed_39 ⟨_, rfl, h⟩
  · replace h := h.2 hc
    refine sm_iload_n (Y := mX12_listed) (pc := 14) 3 3 rfl rfl dX12_listed_14 ?_
    refine sm_i2l (Y := mX12_listed) (pc := 15) dX12_listed_15 ?_
    refine sm_ldc2_w (Y := mX12_listed) (pc := 16) (-1) wRX12_136 dX12_listed_16 ?_
    refine sm_lconst (Y := mX12_listed) (pc := 19) 1 (by decide) dX12_listed_19 ?_
    refine sm_is_I (Y := mX12_listed) (pc := 20) (As := [.long (x3.toInt64), .long (-1), .long 1]) fX12_isIn wRX12_190 rfl (Nat.le_trans (by decide) hd) (Nat.le_of_ble_eq_true rfl) ⟨Nat.le_refl _, Nat.le_refl _⟩ dX12_listed_20 rfl (sm_monoI h (fun r_6 m_5 h => ?_))
    refine sm_if_eq (Y := mX12_listed) (pc := 23) 34 (by decide) dX12_listed_23 (fun hc => ?_) (fun hc => ?_)
    · replace h := h.1 hc
      refine sm_aload_n (Y := mX12_listed) (pc := 34) 0 0 rfl rfl dX12_listed_34 ?_
      refine sm_iconst (Y := mX12_listed) (pc := 35) 1 (by decide) dX12_listed_35 ?_
      refine sm_iv_I (Y := mX12_listed) (pc := 36) (As := [.int 1]) (a := 109) fX12_finds wRX12_194 (lk_109 hly) (by decide) rfl rfl rfl (Nat.le_trans (by decide) hd) (Nat.le_of_ble_eq_true rfl) ⟨Nat.le_refl _, Nat.le_refl _⟩ dX12_listed_36 rfl (sm_monoI h (fun r_8 m_7 h => ?_))
      exact sm_iret (Y := mX12_listed) (pc := 39) rfl rfl rfl dX12_listed_39 ⟨_, rfl, h⟩
    · replace h := h.2 hc
      refine sm_iload_n (Y := mX12_listed) (pc := 26) 3 3 rfl rfl dX12_listed_26 ?_
      refine sm_if_lt (Y := mX12_listed) (pc := 27) 40 (by decide) dX12_listed_27 (fun hc => ?_) (fun hc => ?_)
      · replace h := h.1 hc
        refine sm_iconst (Y := mX12_listed) (pc := 40) 0 (by decide) dX12_listed_40 ?_
        refine sm_istore0 (Y := mX12_listed) (pc := 41) [(4, .int 0), (0, .ref (sm_B E + 109)), (1, .int x1), (2, .int x2), (3, .int x3)] 4 (by decide) rfl dX12_listed_41 ?_
        refine sm_iconst (Y := mX12_listed) (pc := 43) 2 (by decide) dX12_listed_43 ?_
        refine sm_istore0 (Y := mX12_listed) (pc := 44) [(5, .int 2), (4, .int 0), (0, .ref (sm_B E + 109)), (1, .int x1), (2, .int x2), (3, .int x3)] 5 (by decide) rfl dX12_listed_44 ?_
        refine sm_sub [2, 3, 4, 5, 1, 0] rfl ?_
        exact h
      · replace h := h.2 hc
        refine sm_iload_n (Y := mX12_listed) (pc := 30) 2 2 rfl rfl dX12_listed_30 ?_
        refine sm_if_ge (Y := mX12_listed) (pc := 31) 40 (by decide) dX12_listed_31 (fun hc => ?_) (fun hc => ?_)
        · replace h := h.1 hc
          refine sm_iconst (Y := mX12_listed) (pc := 40) 0 (by decide) dX12_listed_40 ?_
          refine sm_istore0 (Y := mX12_listed) (pc := 41) [(4, .int 0), (0, .ref (sm_B E + 109)), (1, .int x1), (2, .int x2), (3, .int x3)] 4 (by decide) rfl dX12_listed_41 ?_
          refine sm_iconst (Y := mX12_listed) (pc := 43) 2 (by decide) dX12_listed_43 ?_
          refine sm_istore0 (Y := mX12_listed) (pc := 44) [(5, .int 2), (4, .int 0), (0, .ref (sm_B E + 109)), (1, .int x1), (2, .int x2), (3, .int x3)] 5 (by decide) rfl dX12_listed_44 ?_
          refine sm_sub [2, 3, 4, 5, 1, 0] rfl ?_
          exact h
        · replace h := h.2 hc
          refine sm_aload_n (Y := mX12_listed) (pc := 34) 0 0 rfl rfl dX12_listed_34 ?_
          refine sm_iconst (Y := mX12_listed) (pc := 35) 1 (by decide) dX12_listed_35 ?_
          refine sm_iv_I (Y := mX12_listed) (pc := 36) (As := [.int 1]) (a := 109) fX12_finds wRX12_194 (lk_109 hly) (by decide) rfl rfl rfl (Nat.le_trans (by decide) hd) (Nat.le_of_ble_eq_true rfl) ⟨Nat.le_refl _, Nat.le_refl _⟩ dX12_listed_36 rfl (sm_monoI h (fun r_14 m_13 h => ?_))
          exact sm_iret (Y := mX12_listed) (pc := 39) rfl rfl rfl dX12_listed_39 ⟨_, rfl, h⟩
abbrev mX12_bookPlace : sm_Y := (yX12_bookPlace, cX12_bookPlace, 7, (some FieldType.int))
theorem fX12_bookPlace : sm_mi mX12_bookPlace RX12 2 := ⟨sm_in 1632 (by decide +kernel) (by decide +kernel), sm_in 1631 (by decide +kernel) (by decide +kernel), sm_in 75 (by decide +kernel) (by decide +kernel), sm_in 93 (by decide +kernel) (by decide +kernel), rfl, ⟨by decide +kernel, by decide +kernel, by decide +kernel⟩, by decide⟩
def gX12_bookPlace_6 (E : sm_E) (L : sm_S → Prop) (d : Nat) (vs : List Value) (x1 : Int64) (x3 : Int64) (x5 : Int32) (x6 : Int32) (m : sm_M) (Q : Int32 → sm_M → Prop) : Prop := sm_go E L mX12_bookPlace d 0 0 vs 6 [(0, .ref (sm_B E + 109)), (1, .long x1), (3, .long x3), (5, .int x5), (6, .int x6)] [] m 0 0 (sm_Z E L vs 0 0 (sm_QI Q))
theorem dX12_bookPlace_6 : decode cX12_bookPlace 6 = .ok (.iload 6, 2) := dk_iload 6 (b := 6) (by decide +kernel) (by decide +kernel) (by decide +kernel)
theorem dX12_bookPlace_8 : decode cX12_bookPlace 8 = .ok (.aload_n 0, 1) := dk_aload_n_0 (by decide +kernel)
theorem dX12_bookPlace_9 : decode cX12_bookPlace 9 = .ok (.getfield 391, 3) := dk_getfield 391 (b1 := 1) (b2 := 135) (by decide +kernel) (by decide +kernel) (by decide +kernel) (by decide +kernel)
theorem dX12_bookPlace_12 : decode cX12_bookPlace 12 = .ok (.if_icmp .ge 44, 3) := dk_if_icmp_ge 44 (b1 := 0) (b2 := 44) (by decide +kernel) (by decide +kernel) (by decide +kernel) (by decide +kernel)
theorem dX12_bookPlace_56 : decode cX12_bookPlace 56 = .ok (.iload 5, 2) := dk_iload 5 (b := 5) (by decide +kernel) (by decide +kernel) (by decide +kernel)
theorem dX12_bookPlace_58 : decode cX12_bookPlace 58 = .ok (.ireturn, 1) := dk_ireturn (by decide +kernel)
theorem dX12_bookPlace_15 : decode cX12_bookPlace 15 = .ok (.aload_n 0, 1) := dk_aload_n_0 (by decide +kernel)
theorem dX12_bookPlace_16 : decode cX12_bookPlace 16 = .ok (.getfield 35, 3) := dk_getfield 35 (b1 := 0) (b2 := 35) (by decide +kernel) (by decide +kernel) (by decide +kernel) (by decide +kernel)
theorem dX12_bookPlace_19 : decode cX12_bookPlace 19 = .ok (.iload 6, 2) := dk_iload 6 (b := 6) (by decide +kernel) (by decide +kernel) (by decide +kernel)
theorem dX12_bookPlace_21 : decode cX12_bookPlace 21 = .ok (.iaload, 1) := dk_iaload (by decide +kernel)
theorem dX12_bookPlace_22 : decode cX12_bookPlace 22 = .ok (.i2l, 1) := dk_i2l (by decide +kernel)
theorem dX12_bookPlace_23 : decode cX12_bookPlace 23 = .ok (.lload_n 1, 1) := dk_lload_n_1 (by decide +kernel)
theorem dX12_bookPlace_24 : decode cX12_bookPlace 24 = .ok (.lcmp, 1) := dk_lcmp (by decide +kernel)
theorem dX12_bookPlace_25 : decode cX12_bookPlace 25 = .ok (.ifCond .ne 21, 3) := dk_ifCond_ne 21 (b1 := 0) (b2 := 21) (by decide +kernel) (by decide +kernel) (by decide +kernel) (by decide +kernel)
theorem dX12_bookPlace_46 : decode cX12_bookPlace 46 = .ok (.iload 5, 2) := dk_iload 5 (b := 5) (by decide +kernel) (by decide +kernel) (by decide +kernel)
theorem dX12_bookPlace_48 : decode cX12_bookPlace 48 = .ok (.istore 5, 2) := dk_istore 5 (b := 5) (by decide +kernel) (by decide +kernel) (by decide +kernel)
theorem dX12_bookPlace_50 : decode cX12_bookPlace 50 = .ok (.iinc 6 1, 3) := dk_iinc 6 1 (b1 := 6) (b2 := 1) (by decide +kernel) (by decide +kernel) (by decide +kernel) (by decide +kernel) (by decide +kernel)
theorem dX12_bookPlace_53 : decode cX12_bookPlace 53 = .ok (.goto (-47), 3) := dk_goto (-47) (b1 := 255) (b2 := 209) (by decide +kernel) (by decide +kernel) (by decide +kernel) (by decide +kernel)
theorem dX12_bookPlace_28 : decode cX12_bookPlace 28 = .ok (.aload_n 0, 1) := dk_aload_n_0 (by decide +kernel)
theorem dX12_bookPlace_29 : decode cX12_bookPlace 29 = .ok (.getfield 38, 3) := dk_getfield 38 (b1 := 0) (b2 := 38) (by decide +kernel) (by decide +kernel) (by decide +kernel) (by decide +kernel)
theorem dX12_bookPlace_32 : decode cX12_bookPlace 32 = .ok (.iload 6, 2) := dk_iload 6 (b := 6) (by decide +kernel) (by decide +kernel) (by decide +kernel)
theorem dX12_bookPlace_34 : decode cX12_bookPlace 34 = .ok (.iaload, 1) := dk_iaload (by decide +kernel)
theorem dX12_bookPlace_35 : decode cX12_bookPlace 35 = .ok (.i2l, 1) := dk_i2l (by decide +kernel)
theorem dX12_bookPlace_36 : decode cX12_bookPlace 36 = .ok (.lload_n 3, 1) := dk_lload_n_3 (by decide +kernel)
theorem dX12_bookPlace_37 : decode cX12_bookPlace 37 = .ok (.lcmp, 1) := dk_lcmp (by decide +kernel)
theorem dX12_bookPlace_38 : decode cX12_bookPlace 38 = .ok (.ifCond .ne 8, 3) := dk_ifCond_ne 8 (b1 := 0) (b2 := 8) (by decide +kernel) (by decide +kernel) (by decide +kernel) (by decide +kernel)
theorem dX12_bookPlace_41 : decode cX12_bookPlace 41 = .ok (.iload 6, 2) := dk_iload 6 (b := 6) (by decide +kernel) (by decide +kernel) (by decide +kernel)
theorem dX12_bookPlace_43 : decode cX12_bookPlace 43 = .ok (.goto 5, 3) := dk_goto 5 (b1 := 0) (b2 := 5) (by decide +kernel) (by decide +kernel) (by decide +kernel) (by decide +kernel)
set_option maxRecDepth 20000 in
theorem vX12_bookPlace_6 {E : sm_E} {L : sm_S → Prop} {d : Nat} {vs : List Value} {x1 : Int64} {x3 : Int64} {x5 : Int32} {x6 : Int32}  {m : sm_M} {Q : Int32 → sm_M → Prop} (hly : ∀ S, L S → ly S) (hd : 1 ≤ d) 
  (h : ((m.1 109 15) ≤ x6 →
      Q x5 m) ∧
   (¬ (m.1 109 15) ≤ x6 →
      (vp_in x6 40) ∧ (¬ ((m.1 117 x6.toNatClampNeg).toInt64) = x1 →
         ∀ x6_3 : Int32, x6_3 = x6 + 1 →
         gX12_bookPlace_6 E L d vs x1 x3 x5 x6_3 m Q) ∧
      (((m.1 117 x6.toNatClampNeg).toInt64) = x1 →
         (vp_in x6 40) ∧ (¬ ((m.1 118 x6.toNatClampNeg).toInt64) = x3 →
            ∀ x6_6 : Int32, x6_6 = x6 + 1 →
            gX12_bookPlace_6 E L d vs x1 x3 x5 x6_6 m Q) ∧
         (((m.1 118 x6.toNatClampNeg).toInt64) = x3 →
            ∀ x6_8 : Int32, x6_8 = x6 + 1 →
            gX12_bookPlace_6 E L d vs x1 x3 x6 x6_8 m Q)))) :
  gX12_bookPlace_6 E L d vs x1 x3 x5 x6 m Q := by
  refine sm_iload (Y := mX12_bookPlace) (pc := 6) 4 6 rfl dX12_bookPlace_6 ?_
  refine sm_aload_n (Y := mX12_bookPlace) (pc := 8) 0 0 rfl rfl dX12_bookPlace_8 ?_
  refine gf_RX12_391 (Y := mX12_bookPlace) (pc := 9) rfl ((lk_109 hly) _) dX12_bookPlace_9 ?_
  refine sm_icmp_ge (Y := mX12_bookPlace) (pc := 12) 56 (by decide) dX12_bookPlace_12 (fun hc => ?_) (fun hc => ?_)
  · replace h := h.1 hc
    refine sm_iload (Y := mX12_bookPlace) (pc := 56) 3 5 rfl dX12_bookPlace_56 ?_
    exact sm_iret (Y := mX12_bookPlace) (pc := 58) rfl rfl rfl dX12_bookPlace_58 ⟨_, rfl, h⟩
  · replace h := h.2 hc
    refine sm_aload_n (Y := mX12_bookPlace) (pc := 15) 0 0 rfl rfl dX12_bookPlace_15 ?_
    refine gf_RX12_35 (Y := mX12_bookPlace) (pc := 16) (b := 117) rfl ((lk_109 hly) _) (lf_109_12 hly _) dX12_bookPlace_16 ?_
    refine sm_iload (Y := mX12_bookPlace) (pc := 19) 4 6 rfl dX12_bookPlace_19 ?_
    obtain ⟨hn_1, h⟩ := h
    refine sm_iald (Y := mX12_bookPlace) (pc := 21) (la_117 hly _) hn_1 dX12_bookPlace_21 ?_
    refine sm_i2l (Y := mX12_bookPlace) (pc := 22) dX12_bookPlace_22 ?_
    refine sm_lload_n (Y := mX12_bookPlace) (pc := 23) 1 1 rfl rfl dX12_bookPlace_23 ?_
    refine sm_lif_ne (Y := mX12_bookPlace) (pc := 24) 46 (by decide) dX12_bookPlace_24 dX12_bookPlace_25 (fun hc => ?_) (fun hc => ?_)
    · replace h := h.1 hc
      refine sm_iload (Y := mX12_bookPlace) (pc := 46) 3 5 rfl dX12_bookPlace_46 ?_
      refine sm_istore0 (Y := mX12_bookPlace) (pc := 48) [(5, .int x5), (0, .ref (sm_B E + 109)), (1, .long x1), (3, .long x3), (6, .int x6)] 5 (by decide) rfl dX12_bookPlace_48 ?_
      refine sm_iinc (Y := mX12_bookPlace) (pc := 50) (fun y => [(6, .int y), (5, .int x5), (0, .ref (sm_B E + 109)), (1, .long x1), (3, .long x3)]) 4 6 rfl (by decide) (fun _ => rfl) dX12_bookPlace_50 (fun x6_3 ex6_3 => ?_)
      replace h := h x6_3 ex6_3
      refine sm_goto (Y := mX12_bookPlace) (pc := 53) 6 (by decide) dX12_bookPlace_53 ?_
      refine sm_sub [2, 3, 4, 1, 0] rfl ?_
      exact h
    · replace h := h.2 hc
      refine sm_aload_n (Y := mX12_bookPlace) (pc := 28) 0 0 rfl rfl dX12_bookPlace_28 ?_
      refine gf_RX12_38 (Y := mX12_bookPlace) (pc := 29) (b := 118) rfl ((lk_109 hly) _) (lf_109_13 hly _) dX12_bookPlace_29 ?_
      refine sm_iload (Y := mX12_bookPlace) (pc := 32) 4 6 rfl dX12_bookPlace_32 ?_
      obtain ⟨hn_4, h⟩ := h
      refine sm_iald (Y := mX12_bookPlace) (pc := 34) (la_118 hly _) hn_4 dX12_bookPlace_34 ?_
      refine sm_i2l (Y := mX12_bookPlace) (pc := 35) dX12_bookPlace_35 ?_
      refine sm_lload_n (Y := mX12_bookPlace) (pc := 36) 2 3 rfl rfl dX12_bookPlace_36 ?_
      refine sm_lif_ne (Y := mX12_bookPlace) (pc := 37) 46 (by decide) dX12_bookPlace_37 dX12_bookPlace_38 (fun hc => ?_) (fun hc => ?_)
      · replace h := h.1 hc
        refine sm_iload (Y := mX12_bookPlace) (pc := 46) 3 5 rfl dX12_bookPlace_46 ?_
        refine sm_istore0 (Y := mX12_bookPlace) (pc := 48) [(5, .int x5), (0, .ref (sm_B E + 109)), (1, .long x1), (3, .long x3), (6, .int x6)] 5 (by decide) rfl dX12_bookPlace_48 ?_
        refine sm_iinc (Y := mX12_bookPlace) (pc := 50) (fun y => [(6, .int y), (5, .int x5), (0, .ref (sm_B E + 109)), (1, .long x1), (3, .long x3)]) 4 6 rfl (by decide) (fun _ => rfl) dX12_bookPlace_50 (fun x6_6 ex6_6 => ?_)
        replace h := h x6_6 ex6_6
        refine sm_goto (Y := mX12_bookPlace) (pc := 53) 6 (by decide) dX12_bookPlace_53 ?_
        refine sm_sub [2, 3, 4, 1, 0] rfl ?_
        exact h
      · replace h := h.2 hc
        refine sm_iload (Y := mX12_bookPlace) (pc := 41) 4 6 rfl dX12_bookPlace_41 ?_
        refine sm_goto (Y := mX12_bookPlace) (pc := 43) 48 (by decide) dX12_bookPlace_43 ?_
        refine sm_istore0 (Y := mX12_bookPlace) (pc := 48) [(5, .int x6), (0, .ref (sm_B E + 109)), (1, .long x1), (3, .long x3), (6, .int x6)] 5 (by decide) rfl dX12_bookPlace_48 ?_
        refine sm_iinc (Y := mX12_bookPlace) (pc := 50) (fun y => [(6, .int y), (5, .int x6), (0, .ref (sm_B E + 109)), (1, .long x1), (3, .long x3)]) 4 6 rfl (by decide) (fun _ => rfl) dX12_bookPlace_50 (fun x6_8 ex6_8 => ?_)
        replace h := h x6_8 ex6_8
        refine sm_goto (Y := mX12_bookPlace) (pc := 53) 6 (by decide) dX12_bookPlace_53 ?_
        refine sm_sub [2, 3, 4, 1, 0] rfl ?_
        exact h
theorem dX12_bookPlace_0 : decode cX12_bookPlace 0 = .ok (.iconst (-1), 1) := dk_iconst_m1 (by decide +kernel)
theorem dX12_bookPlace_1 : decode cX12_bookPlace 1 = .ok (.istore 5, 2) := dk_istore 5 (b := 5) (by decide +kernel) (by decide +kernel) (by decide +kernel)
theorem dX12_bookPlace_3 : decode cX12_bookPlace 3 = .ok (.iconst 0, 1) := dk_iconst_0 (by decide +kernel)
theorem dX12_bookPlace_4 : decode cX12_bookPlace 4 = .ok (.istore 6, 2) := dk_istore 6 (b := 6) (by decide +kernel) (by decide +kernel) (by decide +kernel)
set_option maxRecDepth 20000 in
theorem vX12_bookPlace_0 {E : sm_E} {L : sm_S → Prop} {d : Nat} {x1 : Int64} {x3 : Int64}  {m : sm_M} {Q : Int32 → sm_M → Prop}  (hd : 1 ≤ d) 
  (h : gX12_bookPlace_6 E L d ([.ref (sm_B E + 109), .long x1, .long x3]) x1 x3 (-1) 0 m Q) :
  sm_callI E L mX12_bookPlace d 0 0 [.ref (sm_B E + 109), .long x1, .long x3] m Q := by
  refine sm_enter (by decide +kernel) (by simp [lg_sl, Value.category]) ?_
  refine sm_iconst (Y := mX12_bookPlace) (pc := 0) (-1) (by decide) dX12_bookPlace_0 ?_
  refine sm_istore0 (Y := mX12_bookPlace) (pc := 1) [(5, .int (-1)), (0, .ref (sm_B E + 109)), (1, .long x1), (3, .long x3)] 5 (by decide) rfl dX12_bookPlace_1 ?_
  refine sm_iconst (Y := mX12_bookPlace) (pc := 3) 0 (by decide) dX12_bookPlace_3 ?_
  refine sm_istore0 (Y := mX12_bookPlace) (pc := 4) [(6, .int 0), (5, .int (-1)), (0, .ref (sm_B E + 109)), (1, .long x1), (3, .long x3)] 6 (by decide) rfl dX12_bookPlace_4 ?_
  refine sm_sub [2, 3, 4, 1, 0] rfl ?_
  exact h
abbrev mX12_enter : sm_Y := (yX12_enter, cX12_enter, 4, (some FieldType.int))
theorem fX12_enter : sm_mi mX12_enter RX12 2 := ⟨sm_in 1628 (by decide +kernel) (by decide +kernel), sm_in 1626 (by decide +kernel) (by decide +kernel), sm_in 1627 (by decide +kernel) (by decide +kernel), sm_in 93 (by decide +kernel) (by decide +kernel), rfl, ⟨by decide +kernel, by decide +kernel, by decide +kernel⟩, by decide⟩
def gX12_enter_115 (E : sm_E) (L : sm_S → Prop) (d : Nat) (vs : List Value) (x3 : Int32) (m : sm_M) (Q : Int32 → sm_M → Prop) : Prop := sm_go E L mX12_enter d 0 0 vs 115 [(0, .ref (sm_B E + 109)), (3, .int x3)] [] m 0 0 (sm_Z E L vs 0 0 (sm_QI Q))
def gX12_enter_67 (E : sm_E) (L : sm_S → Prop) (d : Nat) (vs : List Value) (x3 : Int32) (m : sm_M) (Q : Int32 → sm_M → Prop) : Prop := sm_go E L mX12_enter d 0 0 vs 67 [(0, .ref (sm_B E + 109)), (3, .int x3)] [] m 0 0 (sm_Z E L vs 0 0 (sm_QI Q))
theorem dX12_enter_115 : decode cX12_enter 115 = .ok (.aload_n 0, 1) := dk_aload_n_0 (by decide +kernel)
theorem dX12_enter_116 : decode cX12_enter 116 = .ok (.getfield 41, 3) := dk_getfield 41 (b1 := 0) (b2 := 41) (by decide +kernel) (by decide +kernel) (by decide +kernel) (by decide +kernel)
theorem dX12_enter_119 : decode cX12_enter 119 = .ok (.iload_n 3, 1) := dk_iload_n_3 (by decide +kernel)
theorem dX12_enter_120 : decode cX12_enter 120 = .ok (.dup2, 1) := dk_dup2 (by decide +kernel)
theorem dX12_enter_121 : decode cX12_enter 121 = .ok (.iaload, 1) := dk_iaload (by decide +kernel)
theorem dX12_enter_122 : decode cX12_enter 122 = .ok (.iconst 1, 1) := dk_iconst_1 (by decide +kernel)
theorem dX12_enter_123 : decode cX12_enter 123 = .ok (.iadd, 1) := dk_iadd (by decide +kernel)
theorem dX12_enter_124 : decode cX12_enter 124 = .ok (.iastore, 1) := dk_iastore (by decide +kernel)
theorem dX12_enter_125 : decode cX12_enter 125 = .ok (.aload_n 0, 1) := dk_aload_n_0 (by decide +kernel)
theorem dX12_enter_126 : decode cX12_enter 126 = .ok (.getfield 41, 3) := dk_getfield 41 (b1 := 0) (b2 := 41) (by decide +kernel) (by decide +kernel) (by decide +kernel) (by decide +kernel)
theorem dX12_enter_129 : decode cX12_enter 129 = .ok (.iload_n 3, 1) := dk_iload_n_3 (by decide +kernel)
theorem dX12_enter_130 : decode cX12_enter 130 = .ok (.iaload, 1) := dk_iaload (by decide +kernel)
theorem dX12_enter_131 : decode cX12_enter 131 = .ok (.ireturn, 1) := dk_ireturn (by decide +kernel)
set_option maxRecDepth 20000 in
theorem vX12_enter_115 {E : sm_E} {L : sm_S → Prop} {d : Nat} {vs : List Value} {x3 : Int32}  {m : sm_M} {Q : Int32 → sm_M → Prop} (hly : ∀ S, L S → ly S) (hd : 5 ≤ d) 
  (h : (vp_in x3 40) ∧ (vp_in x3 40) ∧ ∀ m_2 : sm_M, m_2 = sm_wI m 119 x3.toNatClampNeg ((m.1 119 x3.toNatClampNeg) + 1) →
   (vp_in x3 40) ∧ Q (m_2.1 119 x3.toNatClampNeg) m_2) :
  gX12_enter_115 E L d vs x3 m Q := by
  refine sm_aload_n (Y := mX12_enter) (pc := 115) 0 0 rfl rfl dX12_enter_115 ?_
  refine gf_RX12_41 (Y := mX12_enter) (pc := 116) (b := 119) rfl ((lk_109 hly) _) (lf_109_14 hly _) dX12_enter_116 ?_
  refine sm_iload_n (Y := mX12_enter) (pc := 119) 1 3 rfl rfl dX12_enter_119 ?_
  refine sm_dup2_11 (Y := mX12_enter) (pc := 120) rfl rfl dX12_enter_120 ?_
  obtain ⟨hn_1, h⟩ := h
  refine sm_iald (Y := mX12_enter) (pc := 121) (la_119 hly _) hn_1 dX12_enter_121 ?_
  refine sm_iconst (Y := mX12_enter) (pc := 122) 1 (by decide) dX12_enter_122 ?_
  refine sm_iadd (Y := mX12_enter) (pc := 123) dX12_enter_123 ?_
  obtain ⟨hn_3, h⟩ := h
  refine sm_iast (Y := mX12_enter) (pc := 124) (la_119 hly _) hn_3 dX12_enter_124 (fun m_2 em_2 => ?_)
  replace h := h m_2 em_2
  refine sm_aload_n (Y := mX12_enter) (pc := 125) 0 0 rfl rfl dX12_enter_125 ?_
  refine gf_RX12_41 (Y := mX12_enter) (pc := 126) (b := 119) rfl ((lk_109 hly) _) (lf_109_14 hly _) dX12_enter_126 ?_
  refine sm_iload_n (Y := mX12_enter) (pc := 129) 1 3 rfl rfl dX12_enter_129 ?_
  obtain ⟨hn_4, h⟩ := h
  refine sm_iald (Y := mX12_enter) (pc := 130) (la_119 hly _) hn_4 dX12_enter_130 ?_
  exact sm_iret (Y := mX12_enter) (pc := 131) rfl rfl rfl dX12_enter_131 ⟨_, rfl, h⟩
theorem dX12_enter_67 : decode cX12_enter 67 = .ok (.iload_n 3, 1) := dk_iload_n_3 (by decide +kernel)
theorem dX12_enter_68 : decode cX12_enter 68 = .ok (.ifCond .ge 47, 3) := dk_ifCond_ge 47 (b1 := 0) (b2 := 47) (by decide +kernel) (by decide +kernel) (by decide +kernel) (by decide +kernel)
theorem dX12_enter_71 : decode cX12_enter 71 = .ok (.aload_n 0, 1) := dk_aload_n_0 (by decide +kernel)
theorem dX12_enter_72 : decode cX12_enter 72 = .ok (.getfield 391, 3) := dk_getfield 391 (b1 := 1) (b2 := 135) (by decide +kernel) (by decide +kernel) (by decide +kernel) (by decide +kernel)
theorem dX12_enter_75 : decode cX12_enter 75 = .ok (.istore_n 3, 1) := dk_istore_n_3 (by decide +kernel)
theorem dX12_enter_76 : decode cX12_enter 76 = .ok (.aload_n 0, 1) := dk_aload_n_0 (by decide +kernel)
theorem dX12_enter_77 : decode cX12_enter 77 = .ok (.getfield 35, 3) := dk_getfield 35 (b1 := 0) (b2 := 35) (by decide +kernel) (by decide +kernel) (by decide +kernel) (by decide +kernel)
theorem dX12_enter_80 : decode cX12_enter 80 = .ok (.iload_n 3, 1) := dk_iload_n_3 (by decide +kernel)
theorem dX12_enter_81 : decode cX12_enter 81 = .ok (.aload_n 0, 1) := dk_aload_n_0 (by decide +kernel)
theorem dX12_enter_82 : decode cX12_enter 82 = .ok (.getfield 348, 3) := dk_getfield 348 (b1 := 1) (b2 := 92) (by decide +kernel) (by decide +kernel) (by decide +kernel) (by decide +kernel)
theorem dX12_enter_85 : decode cX12_enter 85 = .ok (.l2i, 1) := dk_l2i (by decide +kernel)
theorem dX12_enter_86 : decode cX12_enter 86 = .ok (.iastore, 1) := dk_iastore (by decide +kernel)
theorem dX12_enter_87 : decode cX12_enter 87 = .ok (.aload_n 0, 1) := dk_aload_n_0 (by decide +kernel)
theorem dX12_enter_88 : decode cX12_enter 88 = .ok (.getfield 38, 3) := dk_getfield 38 (b1 := 0) (b2 := 38) (by decide +kernel) (by decide +kernel) (by decide +kernel) (by decide +kernel)
theorem dX12_enter_91 : decode cX12_enter 91 = .ok (.iload_n 3, 1) := dk_iload_n_3 (by decide +kernel)
theorem dX12_enter_92 : decode cX12_enter 92 = .ok (.aload_n 0, 1) := dk_aload_n_0 (by decide +kernel)
theorem dX12_enter_93 : decode cX12_enter 93 = .ok (.getfield 351, 3) := dk_getfield 351 (b1 := 1) (b2 := 95) (by decide +kernel) (by decide +kernel) (by decide +kernel) (by decide +kernel)
theorem dX12_enter_96 : decode cX12_enter 96 = .ok (.l2i, 1) := dk_l2i (by decide +kernel)
theorem dX12_enter_97 : decode cX12_enter 97 = .ok (.iastore, 1) := dk_iastore (by decide +kernel)
theorem dX12_enter_98 : decode cX12_enter 98 = .ok (.aload_n 0, 1) := dk_aload_n_0 (by decide +kernel)
theorem dX12_enter_99 : decode cX12_enter 99 = .ok (.getfield 41, 3) := dk_getfield 41 (b1 := 0) (b2 := 41) (by decide +kernel) (by decide +kernel) (by decide +kernel) (by decide +kernel)
theorem dX12_enter_102 : decode cX12_enter 102 = .ok (.iload_n 3, 1) := dk_iload_n_3 (by decide +kernel)
theorem dX12_enter_103 : decode cX12_enter 103 = .ok (.iconst 0, 1) := dk_iconst_0 (by decide +kernel)
theorem dX12_enter_104 : decode cX12_enter 104 = .ok (.iastore, 1) := dk_iastore (by decide +kernel)
theorem dX12_enter_105 : decode cX12_enter 105 = .ok (.aload_n 0, 1) := dk_aload_n_0 (by decide +kernel)
theorem dX12_enter_106 : decode cX12_enter 106 = .ok (.dup, 1) := dk_dup (by decide +kernel)
theorem dX12_enter_107 : decode cX12_enter 107 = .ok (.getfield 391, 3) := dk_getfield 391 (b1 := 1) (b2 := 135) (by decide +kernel) (by decide +kernel) (by decide +kernel) (by decide +kernel)
theorem dX12_enter_110 : decode cX12_enter 110 = .ok (.iconst 1, 1) := dk_iconst_1 (by decide +kernel)
theorem dX12_enter_111 : decode cX12_enter 111 = .ok (.iadd, 1) := dk_iadd (by decide +kernel)
theorem dX12_enter_112 : decode cX12_enter 112 = .ok (.putfield 391, 3) := dk_putfield 391 (b1 := 1) (b2 := 135) (by decide +kernel) (by decide +kernel) (by decide +kernel) (by decide +kernel)
set_option maxRecDepth 20000 in
theorem vX12_enter_67 {E : sm_E} {L : sm_S → Prop} {d : Nat} {vs : List Value} {x3 : Int32}  {m : sm_M} {Q : Int32 → sm_M → Prop} (hly : ∀ S, L S → ly S) (hd : 5 ≤ d) 
  (h : (0 ≤ x3 →
      gX12_enter_115 E L d vs x3 m Q) ∧
   (¬ 0 ≤ x3 →
      ∀ x3_1 : Int32, x3_1 = m.1 109 15 →
      (vp_in x3_1 40) ∧ ∀ m_2 : sm_M, m_2 = sm_wI m 117 x3_1.toNatClampNeg ((m.2.1 109 60).toInt32) →
      (vp_in x3_1 40) ∧ ∀ m_4 : sm_M, m_4 = sm_wI m_2 118 x3_1.toNatClampNeg ((m_2.2.1 109 61).toInt32) →
      (vp_in x3_1 40) ∧ ∀ m_6 : sm_M, m_6 = sm_wI m_4 119 x3_1.toNatClampNeg 0 →
      ∀ m_8 : sm_M, m_8 = sm_wI m_6 109 15 ((m_6.1 109 15) + 1) →
      gX12_enter_115 E L d vs x3_1 m_8 Q)) :
  gX12_enter_67 E L d vs x3 m Q := by
  refine sm_iload_n (Y := mX12_enter) (pc := 67) 1 3 rfl rfl dX12_enter_67 ?_
  refine sm_if_ge (Y := mX12_enter) (pc := 68) 115 (by decide) dX12_enter_68 (fun hc => ?_) (fun hc => ?_)
  · replace h := h.1 hc
    exact h
  · replace h := h.2 hc
    refine sm_aload_n (Y := mX12_enter) (pc := 71) 0 0 rfl rfl dX12_enter_71 ?_
    refine gf_RX12_391 (Y := mX12_enter) (pc := 72) rfl ((lk_109 hly) _) dX12_enter_72 ?_
    refine sm_istore_n (Y := mX12_enter) (pc := 75) (fun y => [(3, .int y), (0, .ref (sm_B E + 109))]) 3 rfl (by decide) (fun _ => rfl) dX12_enter_75 (fun x3_1 ex3_1 => ?_)
    replace h := h x3_1 ex3_1
    refine sm_aload_n (Y := mX12_enter) (pc := 76) 1 0 rfl rfl dX12_enter_76 ?_
    refine gf_RX12_35 (Y := mX12_enter) (pc := 77) (b := 117) rfl ((lk_109 hly) _) (lf_109_12 hly _) dX12_enter_77 ?_
    refine sm_iload_n (Y := mX12_enter) (pc := 80) 0 3 rfl rfl dX12_enter_80 ?_
    refine sm_aload_n (Y := mX12_enter) (pc := 81) 1 0 rfl rfl dX12_enter_81 ?_
    refine gf_RX12_348 (Y := mX12_enter) (pc := 82) rfl ((lk_109 hly) _) dX12_enter_82 ?_
    refine sm_l2i (Y := mX12_enter) (pc := 85) dX12_enter_85 ?_
    obtain ⟨hn_3, h⟩ := h
    refine sm_iast (Y := mX12_enter) (pc := 86) (la_117 hly _) hn_3 dX12_enter_86 (fun m_2 em_2 => ?_)
    replace h := h m_2 em_2
    refine sm_aload_n (Y := mX12_enter) (pc := 87) 1 0 rfl rfl dX12_enter_87 ?_
    refine gf_RX12_38 (Y := mX12_enter) (pc := 88) (b := 118) rfl ((lk_109 hly) _) (lf_109_13 hly _) dX12_enter_88 ?_
    refine sm_iload_n (Y := mX12_enter) (pc := 91) 0 3 rfl rfl dX12_enter_91 ?_
    refine sm_aload_n (Y := mX12_enter) (pc := 92) 1 0 rfl rfl dX12_enter_92 ?_
    refine gf_RX12_351 (Y := mX12_enter) (pc := 93) rfl ((lk_109 hly) _) dX12_enter_93 ?_
    refine sm_l2i (Y := mX12_enter) (pc := 96) dX12_enter_96 ?_
    obtain ⟨hn_5, h⟩ := h
    refine sm_iast (Y := mX12_enter) (pc := 97) (la_118 hly _) hn_5 dX12_enter_97 (fun m_4 em_4 => ?_)
    replace h := h m_4 em_4
    refine sm_aload_n (Y := mX12_enter) (pc := 98) 1 0 rfl rfl dX12_enter_98 ?_
    refine gf_RX12_41 (Y := mX12_enter) (pc := 99) (b := 119) rfl ((lk_109 hly) _) (lf_109_14 hly _) dX12_enter_99 ?_
    refine sm_iload_n (Y := mX12_enter) (pc := 102) 0 3 rfl rfl dX12_enter_102 ?_
    refine sm_iconst (Y := mX12_enter) (pc := 103) 0 (by decide) dX12_enter_103 ?_
    obtain ⟨hn_7, h⟩ := h
    refine sm_iast (Y := mX12_enter) (pc := 104) (la_119 hly _) hn_7 dX12_enter_104 (fun m_6 em_6 => ?_)
    replace h := h m_6 em_6
    refine sm_aload_n (Y := mX12_enter) (pc := 105) 1 0 rfl rfl dX12_enter_105 ?_
    refine sm_dup (Y := mX12_enter) (pc := 106) rfl dX12_enter_106 ?_
    refine gf_RX12_391 (Y := mX12_enter) (pc := 107) rfl ((lk_109 hly) _) dX12_enter_107 ?_
    refine sm_iconst (Y := mX12_enter) (pc := 110) 1 (by decide) dX12_enter_110 ?_
    refine sm_iadd (Y := mX12_enter) (pc := 111) dX12_enter_111 ?_
    refine pf_RX12_391 (Y := mX12_enter) (pc := 112) rfl ((lk_109 hly) _) dX12_enter_112 (fun m_8 em_8 => ?_)
    replace h := h m_8 em_8
    refine sm_sub [1, 0] rfl ?_
    exact h
theorem dX12_enter_0 : decode cX12_enter 0 = .ok (.iload_n 1, 1) := dk_iload_n_1 (by decide +kernel)
theorem dX12_enter_1 : decode cX12_enter 1 = .ok (.invokestatic 184, 3) := dk_invokestatic 184 (b1 := 0) (b2 := 184) (by decide +kernel) (by decide +kernel) (by decide +kernel) (by decide +kernel)
theorem dX12_enter_4 : decode cX12_enter 4 = .ok (.ifCond .eq 10, 3) := dk_ifCond_eq 10 (b1 := 0) (b2 := 10) (by decide +kernel) (by decide +kernel) (by decide +kernel) (by decide +kernel)
theorem dX12_enter_14 : decode cX12_enter 14 = .ok (.aload_n 0, 1) := dk_aload_n_0 (by decide +kernel)
theorem dX12_enter_15 : decode cX12_enter 15 = .ok (.iconst 1, 1) := dk_iconst_1 (by decide +kernel)
theorem dX12_enter_16 : decode cX12_enter 16 = .ok (.invokevirtual 194, 3) := dk_invokevirtual 194 (b1 := 0) (b2 := 194) (by decide +kernel) (by decide +kernel) (by decide +kernel) (by decide +kernel)
theorem dX12_enter_19 : decode cX12_enter 19 = .ok (.ireturn, 1) := dk_ireturn (by decide +kernel)
theorem dX12_enter_7 : decode cX12_enter 7 = .ok (.iload_n 2, 1) := dk_iload_n_2 (by decide +kernel)
theorem dX12_enter_8 : decode cX12_enter 8 = .ok (.invokestatic 214, 3) := dk_invokestatic 214 (b1 := 0) (b2 := 214) (by decide +kernel) (by decide +kernel) (by decide +kernel) (by decide +kernel)
theorem dX12_enter_11 : decode cX12_enter 11 = .ok (.ifCond .ne 9, 3) := dk_ifCond_ne 9 (b1 := 0) (b2 := 9) (by decide +kernel) (by decide +kernel) (by decide +kernel) (by decide +kernel)
theorem dX12_enter_20 : decode cX12_enter 20 = .ok (.aload_n 0, 1) := dk_aload_n_0 (by decide +kernel)
theorem dX12_enter_21 : decode cX12_enter 21 = .ok (.iload_n 1, 1) := dk_iload_n_1 (by decide +kernel)
theorem dX12_enter_22 : decode cX12_enter 22 = .ok (.iload_n 2, 1) := dk_iload_n_2 (by decide +kernel)
theorem dX12_enter_23 : decode cX12_enter 23 = .ok (.invokevirtual 378, 3) := dk_invokevirtual 378 (b1 := 1) (b2 := 122) (by decide +kernel) (by decide +kernel) (by decide +kernel) (by decide +kernel)
theorem dX12_enter_26 : decode cX12_enter 26 = .ok (.ifCond .ne 9, 3) := dk_ifCond_ne 9 (b1 := 0) (b2 := 9) (by decide +kernel) (by decide +kernel) (by decide +kernel) (by decide +kernel)
theorem dX12_enter_35 : decode cX12_enter 35 = .ok (.aload_n 0, 1) := dk_aload_n_0 (by decide +kernel)
theorem dX12_enter_36 : decode cX12_enter 36 = .ok (.aload_n 0, 1) := dk_aload_n_0 (by decide +kernel)
theorem dX12_enter_37 : decode cX12_enter 37 = .ok (.getfield 348, 3) := dk_getfield 348 (b1 := 1) (b2 := 92) (by decide +kernel) (by decide +kernel) (by decide +kernel) (by decide +kernel)
theorem dX12_enter_40 : decode cX12_enter 40 = .ok (.aload_n 0, 1) := dk_aload_n_0 (by decide +kernel)
theorem dX12_enter_41 : decode cX12_enter 41 = .ok (.getfield 351, 3) := dk_getfield 351 (b1 := 1) (b2 := 95) (by decide +kernel) (by decide +kernel) (by decide +kernel) (by decide +kernel)
theorem wRX12_394 : Cond.methodLink RX12 394 yX12_bookPlace ∈ sm_T := sm_in 1629 (by decide +kernel) (by decide +kernel)
theorem dX12_enter_44 : decode cX12_enter 44 = .ok (.invokevirtual 394, 3) := dk_invokevirtual 394 (b1 := 1) (b2 := 138) (by decide +kernel) (by decide +kernel) (by decide +kernel) (by decide +kernel)
theorem dX12_enter_47 : decode cX12_enter 47 = .ok (.istore_n 3, 1) := dk_istore_n_3 (by decide +kernel)
theorem dX12_enter_48 : decode cX12_enter 48 = .ok (.iload_n 3, 1) := dk_iload_n_3 (by decide +kernel)
theorem dX12_enter_49 : decode cX12_enter 49 = .ok (.ifCond .ge 18, 3) := dk_ifCond_ge 18 (b1 := 0) (b2 := 18) (by decide +kernel) (by decide +kernel) (by decide +kernel) (by decide +kernel)
theorem dX12_enter_52 : decode cX12_enter 52 = .ok (.aload_n 0, 1) := dk_aload_n_0 (by decide +kernel)
theorem dX12_enter_53 : decode cX12_enter 53 = .ok (.getfield 391, 3) := dk_getfield 391 (b1 := 1) (b2 := 135) (by decide +kernel) (by decide +kernel) (by decide +kernel) (by decide +kernel)
theorem dX12_enter_56 : decode cX12_enter 56 = .ok (.bipush 40, 2) := dk_bipush 40 (b := 40) (by decide +kernel) (by decide +kernel) (by decide +kernel)
theorem dX12_enter_58 : decode cX12_enter 58 = .ok (.if_icmp .ne 9, 3) := dk_if_icmp_ne 9 (b1 := 0) (b2 := 9) (by decide +kernel) (by decide +kernel) (by decide +kernel) (by decide +kernel)
theorem dX12_enter_61 : decode cX12_enter 61 = .ok (.aload_n 0, 1) := dk_aload_n_0 (by decide +kernel)
theorem dX12_enter_62 : decode cX12_enter 62 = .ok (.iconst 4, 1) := dk_iconst_4 (by decide +kernel)
theorem dX12_enter_63 : decode cX12_enter 63 = .ok (.invokevirtual 194, 3) := dk_invokevirtual 194 (b1 := 0) (b2 := 194) (by decide +kernel) (by decide +kernel) (by decide +kernel) (by decide +kernel)
theorem dX12_enter_66 : decode cX12_enter 66 = .ok (.ireturn, 1) := dk_ireturn (by decide +kernel)
theorem dX12_enter_29 : decode cX12_enter 29 = .ok (.aload_n 0, 1) := dk_aload_n_0 (by decide +kernel)
theorem dX12_enter_30 : decode cX12_enter 30 = .ok (.iconst 3, 1) := dk_iconst_3 (by decide +kernel)
theorem dX12_enter_31 : decode cX12_enter 31 = .ok (.invokevirtual 194, 3) := dk_invokevirtual 194 (b1 := 0) (b2 := 194) (by decide +kernel) (by decide +kernel) (by decide +kernel) (by decide +kernel)
theorem dX12_enter_34 : decode cX12_enter 34 = .ok (.ireturn, 1) := dk_ireturn (by decide +kernel)
set_option maxRecDepth 20000 in
theorem vX12_enter_0 {E : sm_E} {L : sm_S → Prop} {d : Nat} {x1 : Int32} {x2 : Int32}  {m : sm_M} {Q : Int32 → sm_M → Prop} (hly : ∀ S, L S → ly S) (hd : 5 ≤ d) 
  (h : sm_callI E L mX12_isSlot 1 0 0 [.int x1] m (fun r_2 m_1 =>
   (r_2 = 0 →
      sm_callI E L mX12_finds 1 0 0 [.ref (sm_B E + 109), .int 1] m_1 (fun r_4 m_3 =>
      Q r_4 m_3)) ∧
   (¬ r_2 = 0 →
      sm_callI E L mX12_isPart 1 0 0 [.int x2] m_1 (fun r_6 m_5 =>
      (¬ r_6 = 0 →
         sm_callI E L mX12_names 4 0 0 [.ref (sm_B E + 109), .int x1, .int x2] m_5 (fun r_8 m_7 =>
         (¬ r_8 = 0 →
            sm_callI E L mX12_bookPlace 1 0 0 [.ref (sm_B E + 109), .long (m_7.2.1 109 60), .long (m_7.2.1 109 61)] m_7 (fun r_10 m_9 =>
            (0 ≤ r_10 →
               gX12_enter_67 E L d ([.ref (sm_B E + 109), .int x1, .int x2]) r_10 m_9 Q) ∧
            (¬ 0 ≤ r_10 →
               (¬ (m_9.1 109 15) = 40 →
                  gX12_enter_67 E L d ([.ref (sm_B E + 109), .int x1, .int x2]) r_10 m_9 Q) ∧
               ((m_9.1 109 15) = 40 →
                  sm_callI E L mX12_finds 1 0 0 [.ref (sm_B E + 109), .int 4] m_9 (fun r_13 m_12 =>
                  Q r_13 m_12))))) ∧
         (r_8 = 0 →
            sm_callI E L mX12_finds 1 0 0 [.ref (sm_B E + 109), .int 3] m_7 (fun r_15 m_14 =>
            Q r_15 m_14)))) ∧
      (r_6 = 0 →
         sm_callI E L mX12_finds 1 0 0 [.ref (sm_B E + 109), .int 1] m_5 (fun r_17 m_16 =>
         Q r_17 m_16)))))) :
  sm_callI E L mX12_enter d 0 0 [.ref (sm_B E + 109), .int x1, .int x2] m Q := by
  refine sm_enter (by decide +kernel) (by simp [lg_sl, Value.category]) ?_
  refine sm_iload_n (Y := mX12_enter) (pc := 0) 1 1 rfl rfl dX12_enter_0 ?_
  refine sm_is_I (Y := mX12_enter) (pc := 1) (As := [.int x1]) fX12_isSlot wRX12_184 rfl (Nat.le_trans (by decide) hd) (Nat.le_of_ble_eq_true rfl) ⟨Nat.le_refl _, Nat.le_refl _⟩ dX12_enter_1 rfl (sm_monoI h (fun r_2 m_1 h => ?_))
  refine sm_if_eq (Y := mX12_enter) (pc := 4) 14 (by decide) dX12_enter_4 (fun hc => ?_) (fun hc => ?_)
  · replace h := h.1 hc
    refine sm_aload_n (Y := mX12_enter) (pc := 14) 0 0 rfl rfl dX12_enter_14 ?_
    refine sm_iconst (Y := mX12_enter) (pc := 15) 1 (by decide) dX12_enter_15 ?_
    refine sm_iv_I (Y := mX12_enter) (pc := 16) (As := [.int 1]) (a := 109) fX12_finds wRX12_194 (lk_109 hly) (by decide) rfl rfl rfl (Nat.le_trans (by decide) hd) (Nat.le_of_ble_eq_true rfl) ⟨Nat.le_refl _, Nat.le_refl _⟩ dX12_enter_16 rfl (sm_monoI h (fun r_4 m_3 h => ?_))
    exact sm_iret (Y := mX12_enter) (pc := 19) rfl rfl rfl dX12_enter_19 ⟨_, rfl, h⟩
  · replace h := h.2 hc
    refine sm_iload_n (Y := mX12_enter) (pc := 7) 2 2 rfl rfl dX12_enter_7 ?_
    refine sm_is_I (Y := mX12_enter) (pc := 8) (As := [.int x2]) fX12_isPart wRX12_214 rfl (Nat.le_trans (by decide) hd) (Nat.le_of_ble_eq_true rfl) ⟨Nat.le_refl _, Nat.le_refl _⟩ dX12_enter_8 rfl (sm_monoI h (fun r_6 m_5 h => ?_))
    refine sm_if_ne (Y := mX12_enter) (pc := 11) 20 (by decide) dX12_enter_11 (fun hc => ?_) (fun hc => ?_)
    · replace h := h.1 hc
      refine sm_aload_n (Y := mX12_enter) (pc := 20) 0 0 rfl rfl dX12_enter_20 ?_
      refine sm_iload_n (Y := mX12_enter) (pc := 21) 1 1 rfl rfl dX12_enter_21 ?_
      refine sm_iload_n (Y := mX12_enter) (pc := 22) 2 2 rfl rfl dX12_enter_22 ?_
      refine sm_iv_I (Y := mX12_enter) (pc := 23) (As := [.int x1, .int x2]) (a := 109) fX12_names wRX12_378 (lk_109 hly) (by decide) rfl rfl rfl (Nat.le_trans (by decide) hd) (Nat.le_of_ble_eq_true rfl) ⟨Nat.le_refl _, Nat.le_refl _⟩ dX12_enter_23 rfl (sm_monoI h (fun r_8 m_7 h => ?_))
      refine sm_if_ne (Y := mX12_enter) (pc := 26) 35 (by decide) dX12_enter_26 (fun hc => ?_) (fun hc => ?_)
      · replace h := h.1 hc
        refine sm_aload_n (Y := mX12_enter) (pc := 35) 0 0 rfl rfl dX12_enter_35 ?_
        refine sm_aload_n (Y := mX12_enter) (pc := 36) 0 0 rfl rfl dX12_enter_36 ?_
        refine gf_RX12_348 (Y := mX12_enter) (pc := 37) rfl ((lk_109 hly) _) dX12_enter_37 ?_
        refine sm_aload_n (Y := mX12_enter) (pc := 40) 0 0 rfl rfl dX12_enter_40 ?_
        refine gf_RX12_351 (Y := mX12_enter) (pc := 41) rfl ((lk_109 hly) _) dX12_enter_41 ?_
        refine sm_iv_I (Y := mX12_enter) (pc := 44) (As := [.long (m_7.2.1 109 60), .long (m_7.2.1 109 61)]) (a := 109) fX12_bookPlace wRX12_394 (lk_109 hly) (by decide) rfl rfl rfl (Nat.le_trans (by decide) hd) (Nat.le_of_ble_eq_true rfl) ⟨Nat.le_refl _, Nat.le_refl _⟩ dX12_enter_44 rfl (sm_monoI h (fun r_10 m_9 h => ?_))
        refine sm_istore0_n (Y := mX12_enter) (pc := 47) [(3, .int r_10), (0, .ref (sm_B E + 109)), (1, .int x1), (2, .int x2)] 3 rfl (by decide) rfl dX12_enter_47 ?_
        refine sm_iload_n (Y := mX12_enter) (pc := 48) 0 3 rfl rfl dX12_enter_48 ?_
        refine sm_if_ge (Y := mX12_enter) (pc := 49) 67 (by decide) dX12_enter_49 (fun hc => ?_) (fun hc => ?_)
        · replace h := h.1 hc
          refine sm_sub [1, 0] rfl ?_
          exact h
        · replace h := h.2 hc
          refine sm_aload_n (Y := mX12_enter) (pc := 52) 1 0 rfl rfl dX12_enter_52 ?_
          refine gf_RX12_391 (Y := mX12_enter) (pc := 53) rfl ((lk_109 hly) _) dX12_enter_53 ?_
          refine sm_bipush (Y := mX12_enter) (pc := 56) 40 (by decide) dX12_enter_56 ?_
          refine sm_icmp_ne (Y := mX12_enter) (pc := 58) 67 (by decide) dX12_enter_58 (fun hc => ?_) (fun hc => ?_)
          · replace h := h.1 hc
            refine sm_sub [1, 0] rfl ?_
            exact h
          · replace h := h.2 hc
            refine sm_aload_n (Y := mX12_enter) (pc := 61) 1 0 rfl rfl dX12_enter_61 ?_
            refine sm_iconst (Y := mX12_enter) (pc := 62) 4 (by decide) dX12_enter_62 ?_
            refine sm_iv_I (Y := mX12_enter) (pc := 63) (As := [.int 4]) (a := 109) fX12_finds wRX12_194 (lk_109 hly) (by decide) rfl rfl rfl (Nat.le_trans (by decide) hd) (Nat.le_of_ble_eq_true rfl) ⟨Nat.le_refl _, Nat.le_refl _⟩ dX12_enter_63 rfl (sm_monoI h (fun r_13 m_12 h => ?_))
            exact sm_iret (Y := mX12_enter) (pc := 66) rfl rfl rfl dX12_enter_66 ⟨_, rfl, h⟩
      · replace h := h.2 hc
        refine sm_aload_n (Y := mX12_enter) (pc := 29) 0 0 rfl rfl dX12_enter_29 ?_
        refine sm_iconst (Y := mX12_enter) (pc := 30) 3 (by decide) dX12_enter_30 ?_
        refine sm_iv_I (Y := mX12_enter) (pc := 31) (As := [.int 3]) (a := 109) fX12_finds wRX12_194 (lk_109 hly) (by decide) rfl rfl rfl (Nat.le_trans (by decide) hd) (Nat.le_of_ble_eq_true rfl) ⟨Nat.le_refl _, Nat.le_refl _⟩ dX12_enter_31 rfl (sm_monoI h (fun r_15 m_14 h => ?_))
        exact sm_iret (Y := mX12_enter) (pc := 34) rfl rfl rfl dX12_enter_34 ⟨_, rfl, h⟩
    · replace h := h.2 hc
      refine sm_aload_n (Y := mX12_enter) (pc := 14) 0 0 rfl rfl dX12_enter_14 ?_
      refine sm_iconst (Y := mX12_enter) (pc := 15) 1 (by decide) dX12_enter_15 ?_
      refine sm_iv_I (Y := mX12_enter) (pc := 16) (As := [.int 1]) (a := 109) fX12_finds wRX12_194 (lk_109 hly) (by decide) rfl rfl rfl (Nat.le_trans (by decide) hd) (Nat.le_of_ble_eq_true rfl) ⟨Nat.le_refl _, Nat.le_refl _⟩ dX12_enter_16 rfl (sm_monoI h (fun r_17 m_16 h => ?_))
      exact sm_iret (Y := mX12_enter) (pc := 19) rfl rfl rfl dX12_enter_19 ⟨_, rfl, h⟩
abbrev mX12_book : sm_Y := (yX12_book, cX12_book, 3, (some FieldType.int))
theorem fX12_book : sm_mi mX12_book RX12 2 := ⟨sm_in 1636 (by decide +kernel) (by decide +kernel), sm_in 1634 (by decide +kernel) (by decide +kernel), sm_in 1635 (by decide +kernel) (by decide +kernel), sm_in 93 (by decide +kernel) (by decide +kernel), rfl, ⟨by decide +kernel, by decide +kernel, by decide +kernel⟩, by decide⟩
theorem dX12_book_0 : decode cX12_book 0 = .ok (.iload_n 2, 1) := dk_iload_n_2 (by decide +kernel)
theorem dX12_book_1 : decode cX12_book 1 = .ok (.i2l, 1) := dk_i2l (by decide +kernel)
theorem dX12_book_2 : decode cX12_book 2 = .ok (.lconst 0, 1) := dk_lconst_0 (by decide +kernel)
theorem dX12_book_3 : decode cX12_book 3 = .ok (.ldc2_w 334, 3) := dk_ldc2_w 334 (b1 := 1) (b2 := 78) (by decide +kernel) (by decide +kernel) (by decide +kernel) (by decide +kernel)
theorem dX12_book_6 : decode cX12_book 6 = .ok (.invokestatic 190, 3) := dk_invokestatic 190 (b1 := 0) (b2 := 190) (by decide +kernel) (by decide +kernel) (by decide +kernel) (by decide +kernel)
theorem dX12_book_9 : decode cX12_book 9 = .ok (.ifCond .ne 9, 3) := dk_ifCond_ne 9 (b1 := 0) (b2 := 9) (by decide +kernel) (by decide +kernel) (by decide +kernel) (by decide +kernel)
theorem dX12_book_18 : decode cX12_book 18 = .ok (.iload_n 1, 1) := dk_iload_n_1 (by decide +kernel)
theorem dX12_book_19 : decode cX12_book 19 = .ok (.i2l, 1) := dk_i2l (by decide +kernel)
theorem dX12_book_20 : decode cX12_book 20 = .ok (.lconst 0, 1) := dk_lconst_0 (by decide +kernel)
theorem dX12_book_21 : decode cX12_book 21 = .ok (.aload_n 0, 1) := dk_aload_n_0 (by decide +kernel)
theorem dX12_book_22 : decode cX12_book 22 = .ok (.getfield 391, 3) := dk_getfield 391 (b1 := 1) (b2 := 135) (by decide +kernel) (by decide +kernel) (by decide +kernel) (by decide +kernel)
theorem dX12_book_25 : decode cX12_book 25 = .ok (.iconst 1, 1) := dk_iconst_1 (by decide +kernel)
theorem dX12_book_26 : decode cX12_book 26 = .ok (.isub, 1) := dk_isub (by decide +kernel)
theorem dX12_book_27 : decode cX12_book 27 = .ok (.i2l, 1) := dk_i2l (by decide +kernel)
theorem dX12_book_28 : decode cX12_book 28 = .ok (.invokestatic 190, 3) := dk_invokestatic 190 (b1 := 0) (b2 := 190) (by decide +kernel) (by decide +kernel) (by decide +kernel) (by decide +kernel)
theorem dX12_book_31 : decode cX12_book 31 = .ok (.ifCond .ne 9, 3) := dk_ifCond_ne 9 (b1 := 0) (b2 := 9) (by decide +kernel) (by decide +kernel) (by decide +kernel) (by decide +kernel)
theorem dX12_book_40 : decode cX12_book 40 = .ok (.iload_n 2, 1) := dk_iload_n_2 (by decide +kernel)
theorem dX12_book_41 : decode cX12_book 41 = .ok (.ifCond .ne 12, 3) := dk_ifCond_ne 12 (b1 := 0) (b2 := 12) (by decide +kernel) (by decide +kernel) (by decide +kernel) (by decide +kernel)
theorem dX12_book_53 : decode cX12_book 53 = .ok (.iload_n 2, 1) := dk_iload_n_2 (by decide +kernel)
theorem dX12_book_54 : decode cX12_book 54 = .ok (.iconst 1, 1) := dk_iconst_1 (by decide +kernel)
theorem dX12_book_55 : decode cX12_book 55 = .ok (.if_icmp .ne 12, 3) := dk_if_icmp_ne 12 (b1 := 0) (b2 := 12) (by decide +kernel) (by decide +kernel) (by decide +kernel) (by decide +kernel)
theorem dX12_book_67 : decode cX12_book 67 = .ok (.aload_n 0, 1) := dk_aload_n_0 (by decide +kernel)
theorem dX12_book_68 : decode cX12_book 68 = .ok (.getfield 41, 3) := dk_getfield 41 (b1 := 0) (b2 := 41) (by decide +kernel) (by decide +kernel) (by decide +kernel) (by decide +kernel)
theorem dX12_book_71 : decode cX12_book 71 = .ok (.iload_n 1, 1) := dk_iload_n_1 (by decide +kernel)
theorem dX12_book_72 : decode cX12_book 72 = .ok (.iaload, 1) := dk_iaload (by decide +kernel)
theorem dX12_book_73 : decode cX12_book 73 = .ok (.ireturn, 1) := dk_ireturn (by decide +kernel)
theorem dX12_book_58 : decode cX12_book 58 = .ok (.aload_n 0, 1) := dk_aload_n_0 (by decide +kernel)
theorem dX12_book_59 : decode cX12_book 59 = .ok (.getfield 38, 3) := dk_getfield 38 (b1 := 0) (b2 := 38) (by decide +kernel) (by decide +kernel) (by decide +kernel) (by decide +kernel)
theorem dX12_book_62 : decode cX12_book 62 = .ok (.iload_n 1, 1) := dk_iload_n_1 (by decide +kernel)
theorem dX12_book_63 : decode cX12_book 63 = .ok (.iaload, 1) := dk_iaload (by decide +kernel)
theorem dX12_book_64 : decode cX12_book 64 = .ok (.goto 9, 3) := dk_goto 9 (b1 := 0) (b2 := 9) (by decide +kernel) (by decide +kernel) (by decide +kernel) (by decide +kernel)
theorem dX12_book_44 : decode cX12_book 44 = .ok (.aload_n 0, 1) := dk_aload_n_0 (by decide +kernel)
theorem dX12_book_45 : decode cX12_book 45 = .ok (.getfield 35, 3) := dk_getfield 35 (b1 := 0) (b2 := 35) (by decide +kernel) (by decide +kernel) (by decide +kernel) (by decide +kernel)
theorem dX12_book_48 : decode cX12_book 48 = .ok (.iload_n 1, 1) := dk_iload_n_1 (by decide +kernel)
theorem dX12_book_49 : decode cX12_book 49 = .ok (.iaload, 1) := dk_iaload (by decide +kernel)
theorem dX12_book_50 : decode cX12_book 50 = .ok (.goto 23, 3) := dk_goto 23 (b1 := 0) (b2 := 23) (by decide +kernel) (by decide +kernel) (by decide +kernel) (by decide +kernel)
theorem dX12_book_34 : decode cX12_book 34 = .ok (.aload_n 0, 1) := dk_aload_n_0 (by decide +kernel)
theorem dX12_book_35 : decode cX12_book 35 = .ok (.iconst 2, 1) := dk_iconst_2 (by decide +kernel)
theorem dX12_book_36 : decode cX12_book 36 = .ok (.invokevirtual 194, 3) := dk_invokevirtual 194 (b1 := 0) (b2 := 194) (by decide +kernel) (by decide +kernel) (by decide +kernel) (by decide +kernel)
theorem dX12_book_39 : decode cX12_book 39 = .ok (.ireturn, 1) := dk_ireturn (by decide +kernel)
theorem dX12_book_12 : decode cX12_book 12 = .ok (.aload_n 0, 1) := dk_aload_n_0 (by decide +kernel)
theorem dX12_book_13 : decode cX12_book 13 = .ok (.iconst 1, 1) := dk_iconst_1 (by decide +kernel)
theorem dX12_book_14 : decode cX12_book 14 = .ok (.invokevirtual 194, 3) := dk_invokevirtual 194 (b1 := 0) (b2 := 194) (by decide +kernel) (by decide +kernel) (by decide +kernel) (by decide +kernel)
theorem dX12_book_17 : decode cX12_book 17 = .ok (.ireturn, 1) := dk_ireturn (by decide +kernel)
set_option maxRecDepth 20000 in
theorem vX12_book_0 {E : sm_E} {L : sm_S → Prop} {d : Nat} {x1 : Int32} {x2 : Int32}  {m : sm_M} {Q : Int32 → sm_M → Prop} (hly : ∀ S, L S → ly S) (hd : 2 ≤ d) 
  (h : sm_callI E L mX12_isIn 1 0 0 [.long (x2.toInt64), .long 0, .long 2] m (fun r_2 m_1 =>
   (¬ r_2 = 0 →
      sm_callI E L mX12_isIn 1 0 0 [.long (x1.toInt64), .long 0, .long (((m_1.1 109 15) - 1).toInt64)] m_1 (fun r_4 m_3 =>
      (¬ r_4 = 0 →
         (¬ x2 = 0 →
            (¬ x2 = 1 →
               (vp_in x1 40) ∧ Q (m_3.1 119 x1.toNatClampNeg) m_3) ∧
            (x2 = 1 →
               (vp_in x1 40) ∧ Q (m_3.1 118 x1.toNatClampNeg) m_3)) ∧
         (x2 = 0 →
            (vp_in x1 40) ∧ Q (m_3.1 117 x1.toNatClampNeg) m_3)) ∧
      (r_4 = 0 →
         sm_callI E L mX12_finds 1 0 0 [.ref (sm_B E + 109), .int 2] m_3 (fun r_9 m_8 =>
         Q r_9 m_8)))) ∧
   (r_2 = 0 →
      sm_callI E L mX12_finds 1 0 0 [.ref (sm_B E + 109), .int 1] m_1 (fun r_11 m_10 =>
      Q r_11 m_10)))) :
  sm_callI E L mX12_book d 0 0 [.ref (sm_B E + 109), .int x1, .int x2] m Q := by
  refine sm_enter (by decide +kernel) (by simp [lg_sl, Value.category]) ?_
  refine sm_iload_n (Y := mX12_book) (pc := 0) 2 2 rfl rfl dX12_book_0 ?_
  refine sm_i2l (Y := mX12_book) (pc := 1) dX12_book_1 ?_
  refine sm_lconst (Y := mX12_book) (pc := 2) 0 (by decide) dX12_book_2 ?_
  refine sm_ldc2_w (Y := mX12_book) (pc := 3) 2 wRX12_334 dX12_book_3 ?_
  refine sm_is_I (Y := mX12_book) (pc := 6) (As := [.long (x2.toInt64), .long 0, .long 2]) fX12_isIn wRX12_190 rfl (Nat.le_trans (by decide) hd) (Nat.le_of_ble_eq_true rfl) ⟨Nat.le_refl _, Nat.le_refl _⟩ dX12_book_6 rfl (sm_monoI h (fun r_2 m_1 h => ?_))
  refine sm_if_ne (Y := mX12_book) (pc := 9) 18 (by decide) dX12_book_9 (fun hc => ?_) (fun hc => ?_)
  · replace h := h.1 hc
    refine sm_iload_n (Y := mX12_book) (pc := 18) 1 1 rfl rfl dX12_book_18 ?_
    refine sm_i2l (Y := mX12_book) (pc := 19) dX12_book_19 ?_
    refine sm_lconst (Y := mX12_book) (pc := 20) 0 (by decide) dX12_book_20 ?_
    refine sm_aload_n (Y := mX12_book) (pc := 21) 0 0 rfl rfl dX12_book_21 ?_
    refine gf_RX12_391 (Y := mX12_book) (pc := 22) rfl ((lk_109 hly) _) dX12_book_22 ?_
    refine sm_iconst (Y := mX12_book) (pc := 25) 1 (by decide) dX12_book_25 ?_
    refine sm_isub (Y := mX12_book) (pc := 26) dX12_book_26 ?_
    refine sm_i2l (Y := mX12_book) (pc := 27) dX12_book_27 ?_
    refine sm_is_I (Y := mX12_book) (pc := 28) (As := [.long (x1.toInt64), .long 0, .long (((m_1.1 109 15) - 1).toInt64)]) fX12_isIn wRX12_190 rfl (Nat.le_trans (by decide) hd) (Nat.le_of_ble_eq_true rfl) ⟨Nat.le_refl _, Nat.le_refl _⟩ dX12_book_28 rfl (sm_monoI h (fun r_4 m_3 h => ?_))
    refine sm_if_ne (Y := mX12_book) (pc := 31) 40 (by decide) dX12_book_31 (fun hc => ?_) (fun hc => ?_)
    · replace h := h.1 hc
      refine sm_iload_n (Y := mX12_book) (pc := 40) 2 2 rfl rfl dX12_book_40 ?_
      refine sm_if_ne (Y := mX12_book) (pc := 41) 53 (by decide) dX12_book_41 (fun hc => ?_) (fun hc => ?_)
      · replace h := h.1 hc
        refine sm_iload_n (Y := mX12_book) (pc := 53) 2 2 rfl rfl dX12_book_53 ?_
        refine sm_iconst (Y := mX12_book) (pc := 54) 1 (by decide) dX12_book_54 ?_
        refine sm_icmp_ne (Y := mX12_book) (pc := 55) 67 (by decide) dX12_book_55 (fun hc => ?_) (fun hc => ?_)
        · replace h := h.1 hc
          refine sm_aload_n (Y := mX12_book) (pc := 67) 0 0 rfl rfl dX12_book_67 ?_
          refine gf_RX12_41 (Y := mX12_book) (pc := 68) (b := 119) rfl ((lk_109 hly) _) (lf_109_14 hly _) dX12_book_68 ?_
          refine sm_iload_n (Y := mX12_book) (pc := 71) 1 1 rfl rfl dX12_book_71 ?_
          obtain ⟨hn_5, h⟩ := h
          refine sm_iald (Y := mX12_book) (pc := 72) (la_119 hly _) hn_5 dX12_book_72 ?_
          exact sm_iret (Y := mX12_book) (pc := 73) rfl rfl rfl dX12_book_73 ⟨_, rfl, h⟩
        · replace h := h.2 hc
          refine sm_aload_n (Y := mX12_book) (pc := 58) 0 0 rfl rfl dX12_book_58 ?_
          refine gf_RX12_38 (Y := mX12_book) (pc := 59) (b := 118) rfl ((lk_109 hly) _) (lf_109_13 hly _) dX12_book_59 ?_
          refine sm_iload_n (Y := mX12_book) (pc := 62) 1 1 rfl rfl dX12_book_62 ?_
          obtain ⟨hn_6, h⟩ := h
          refine sm_iald (Y := mX12_book) (pc := 63) (la_118 hly _) hn_6 dX12_book_63 ?_
          refine sm_goto (Y := mX12_book) (pc := 64) 73 (by decide) dX12_book_64 ?_
          exact sm_iret (Y := mX12_book) (pc := 73) rfl rfl rfl dX12_book_73 ⟨_, rfl, h⟩
      · replace h := h.2 hc
        refine sm_aload_n (Y := mX12_book) (pc := 44) 0 0 rfl rfl dX12_book_44 ?_
        refine gf_RX12_35 (Y := mX12_book) (pc := 45) (b := 117) rfl ((lk_109 hly) _) (lf_109_12 hly _) dX12_book_45 ?_
        refine sm_iload_n (Y := mX12_book) (pc := 48) 1 1 rfl rfl dX12_book_48 ?_
        obtain ⟨hn_7, h⟩ := h
        refine sm_iald (Y := mX12_book) (pc := 49) (la_117 hly _) hn_7 dX12_book_49 ?_
        refine sm_goto (Y := mX12_book) (pc := 50) 73 (by decide) dX12_book_50 ?_
        exact sm_iret (Y := mX12_book) (pc := 73) rfl rfl rfl dX12_book_73 ⟨_, rfl, h⟩
    · replace h := h.2 hc
      refine sm_aload_n (Y := mX12_book) (pc := 34) 0 0 rfl rfl dX12_book_34 ?_
      refine sm_iconst (Y := mX12_book) (pc := 35) 2 (by decide) dX12_book_35 ?_
      refine sm_iv_I (Y := mX12_book) (pc := 36) (As := [.int 2]) (a := 109) fX12_finds wRX12_194 (lk_109 hly) (by decide) rfl rfl rfl (Nat.le_trans (by decide) hd) (Nat.le_of_ble_eq_true rfl) ⟨Nat.le_refl _, Nat.le_refl _⟩ dX12_book_36 rfl (sm_monoI h (fun r_9 m_8 h => ?_))
      exact sm_iret (Y := mX12_book) (pc := 39) rfl rfl rfl dX12_book_39 ⟨_, rfl, h⟩
  · replace h := h.2 hc
    refine sm_aload_n (Y := mX12_book) (pc := 12) 0 0 rfl rfl dX12_book_12 ?_
    refine sm_iconst (Y := mX12_book) (pc := 13) 1 (by decide) dX12_book_13 ?_
    refine sm_iv_I (Y := mX12_book) (pc := 14) (As := [.int 1]) (a := 109) fX12_finds wRX12_194 (lk_109 hly) (by decide) rfl rfl rfl (Nat.le_trans (by decide) hd) (Nat.le_of_ble_eq_true rfl) ⟨Nat.le_refl _, Nat.le_refl _⟩ dX12_book_14 rfl (sm_monoI h (fun r_11 m_10 h => ?_))
    exact sm_iret (Y := mX12_book) (pc := 17) rfl rfl rfl dX12_book_17 ⟨_, rfl, h⟩
abbrev mX12_isAhead : sm_Y := (yX12_isAhead, cX12_isAhead, 3, (some FieldType.boolean))
theorem fX12_isAhead : sm_mi mX12_isAhead RX12 2 := ⟨sm_in 1644 (by decide +kernel) (by decide +kernel), sm_in 1643 (by decide +kernel) (by decide +kernel), sm_in 76 (by decide +kernel) (by decide +kernel), sm_in 93 (by decide +kernel) (by decide +kernel), rfl, ⟨by decide +kernel, by decide +kernel, by decide +kernel⟩, by decide⟩
theorem dX12_isAhead_0 : decode cX12_isAhead 0 = .ok (.aload_n 0, 1) := dk_aload_n_0 (by decide +kernel)
theorem dX12_isAhead_1 : decode cX12_isAhead 1 = .ok (.getfield 41, 3) := dk_getfield 41 (b1 := 0) (b2 := 41) (by decide +kernel) (by decide +kernel) (by decide +kernel) (by decide +kernel)
theorem dX12_isAhead_4 : decode cX12_isAhead 4 = .ok (.iload_n 1, 1) := dk_iload_n_1 (by decide +kernel)
theorem dX12_isAhead_5 : decode cX12_isAhead 5 = .ok (.iaload, 1) := dk_iaload (by decide +kernel)
theorem dX12_isAhead_6 : decode cX12_isAhead 6 = .ok (.aload_n 0, 1) := dk_aload_n_0 (by decide +kernel)
theorem dX12_isAhead_7 : decode cX12_isAhead 7 = .ok (.getfield 41, 3) := dk_getfield 41 (b1 := 0) (b2 := 41) (by decide +kernel) (by decide +kernel) (by decide +kernel) (by decide +kernel)
theorem dX12_isAhead_10 : decode cX12_isAhead 10 = .ok (.iload_n 2, 1) := dk_iload_n_2 (by decide +kernel)
theorem dX12_isAhead_11 : decode cX12_isAhead 11 = .ok (.iaload, 1) := dk_iaload (by decide +kernel)
theorem dX12_isAhead_12 : decode cX12_isAhead 12 = .ok (.if_icmp .eq 24, 3) := dk_if_icmp_eq 24 (b1 := 0) (b2 := 24) (by decide +kernel) (by decide +kernel) (by decide +kernel) (by decide +kernel)
theorem dX12_isAhead_36 : decode cX12_isAhead 36 = .ok (.aload_n 0, 1) := dk_aload_n_0 (by decide +kernel)
theorem dX12_isAhead_37 : decode cX12_isAhead 37 = .ok (.getfield 35, 3) := dk_getfield 35 (b1 := 0) (b2 := 35) (by decide +kernel) (by decide +kernel) (by decide +kernel) (by decide +kernel)
theorem dX12_isAhead_40 : decode cX12_isAhead 40 = .ok (.iload_n 1, 1) := dk_iload_n_1 (by decide +kernel)
theorem dX12_isAhead_41 : decode cX12_isAhead 41 = .ok (.iaload, 1) := dk_iaload (by decide +kernel)
theorem dX12_isAhead_42 : decode cX12_isAhead 42 = .ok (.aload_n 0, 1) := dk_aload_n_0 (by decide +kernel)
theorem dX12_isAhead_43 : decode cX12_isAhead 43 = .ok (.getfield 35, 3) := dk_getfield 35 (b1 := 0) (b2 := 35) (by decide +kernel) (by decide +kernel) (by decide +kernel) (by decide +kernel)
theorem dX12_isAhead_46 : decode cX12_isAhead 46 = .ok (.iload_n 2, 1) := dk_iload_n_2 (by decide +kernel)
theorem dX12_isAhead_47 : decode cX12_isAhead 47 = .ok (.iaload, 1) := dk_iaload (by decide +kernel)
theorem dX12_isAhead_48 : decode cX12_isAhead 48 = .ok (.if_icmp .eq 26, 3) := dk_if_icmp_eq 26 (b1 := 0) (b2 := 26) (by decide +kernel) (by decide +kernel) (by decide +kernel) (by decide +kernel)
theorem dX12_isAhead_74 : decode cX12_isAhead 74 = .ok (.aload_n 0, 1) := dk_aload_n_0 (by decide +kernel)
theorem dX12_isAhead_75 : decode cX12_isAhead 75 = .ok (.getfield 38, 3) := dk_getfield 38 (b1 := 0) (b2 := 38) (by decide +kernel) (by decide +kernel) (by decide +kernel) (by decide +kernel)
theorem dX12_isAhead_78 : decode cX12_isAhead 78 = .ok (.iload_n 1, 1) := dk_iload_n_1 (by decide +kernel)
theorem dX12_isAhead_79 : decode cX12_isAhead 79 = .ok (.iaload, 1) := dk_iaload (by decide +kernel)
theorem dX12_isAhead_80 : decode cX12_isAhead 80 = .ok (.aload_n 0, 1) := dk_aload_n_0 (by decide +kernel)
theorem dX12_isAhead_81 : decode cX12_isAhead 81 = .ok (.getfield 38, 3) := dk_getfield 38 (b1 := 0) (b2 := 38) (by decide +kernel) (by decide +kernel) (by decide +kernel) (by decide +kernel)
theorem dX12_isAhead_84 : decode cX12_isAhead 84 = .ok (.iload_n 2, 1) := dk_iload_n_2 (by decide +kernel)
theorem dX12_isAhead_85 : decode cX12_isAhead 85 = .ok (.iaload, 1) := dk_iaload (by decide +kernel)
theorem dX12_isAhead_86 : decode cX12_isAhead 86 = .ok (.if_icmp .ge 7, 3) := dk_if_icmp_ge 7 (b1 := 0) (b2 := 7) (by decide +kernel) (by decide +kernel) (by decide +kernel) (by decide +kernel)
theorem dX12_isAhead_93 : decode cX12_isAhead 93 = .ok (.iconst 0, 1) := dk_iconst_0 (by decide +kernel)
theorem dX12_isAhead_94 : decode cX12_isAhead 94 = .ok (.ireturn, 1) := dk_ireturn (by decide +kernel)
theorem dX12_isAhead_89 : decode cX12_isAhead 89 = .ok (.iconst 1, 1) := dk_iconst_1 (by decide +kernel)
theorem dX12_isAhead_90 : decode cX12_isAhead 90 = .ok (.goto 4, 3) := dk_goto 4 (b1 := 0) (b2 := 4) (by decide +kernel) (by decide +kernel) (by decide +kernel) (by decide +kernel)
theorem dX12_isAhead_51 : decode cX12_isAhead 51 = .ok (.aload_n 0, 1) := dk_aload_n_0 (by decide +kernel)
theorem dX12_isAhead_52 : decode cX12_isAhead 52 = .ok (.getfield 35, 3) := dk_getfield 35 (b1 := 0) (b2 := 35) (by decide +kernel) (by decide +kernel) (by decide +kernel) (by decide +kernel)
theorem dX12_isAhead_55 : decode cX12_isAhead 55 = .ok (.iload_n 1, 1) := dk_iload_n_1 (by decide +kernel)
theorem dX12_isAhead_56 : decode cX12_isAhead 56 = .ok (.iaload, 1) := dk_iaload (by decide +kernel)
theorem dX12_isAhead_57 : decode cX12_isAhead 57 = .ok (.aload_n 0, 1) := dk_aload_n_0 (by decide +kernel)
theorem dX12_isAhead_58 : decode cX12_isAhead 58 = .ok (.getfield 35, 3) := dk_getfield 35 (b1 := 0) (b2 := 35) (by decide +kernel) (by decide +kernel) (by decide +kernel) (by decide +kernel)
theorem dX12_isAhead_61 : decode cX12_isAhead 61 = .ok (.iload_n 2, 1) := dk_iload_n_2 (by decide +kernel)
theorem dX12_isAhead_62 : decode cX12_isAhead 62 = .ok (.iaload, 1) := dk_iaload (by decide +kernel)
theorem dX12_isAhead_63 : decode cX12_isAhead 63 = .ok (.if_icmp .ge 7, 3) := dk_if_icmp_ge 7 (b1 := 0) (b2 := 7) (by decide +kernel) (by decide +kernel) (by decide +kernel) (by decide +kernel)
theorem dX12_isAhead_70 : decode cX12_isAhead 70 = .ok (.iconst 0, 1) := dk_iconst_0 (by decide +kernel)
theorem dX12_isAhead_71 : decode cX12_isAhead 71 = .ok (.goto 23, 3) := dk_goto 23 (b1 := 0) (b2 := 23) (by decide +kernel) (by decide +kernel) (by decide +kernel) (by decide +kernel)
theorem dX12_isAhead_66 : decode cX12_isAhead 66 = .ok (.iconst 1, 1) := dk_iconst_1 (by decide +kernel)
theorem dX12_isAhead_67 : decode cX12_isAhead 67 = .ok (.goto 27, 3) := dk_goto 27 (b1 := 0) (b2 := 27) (by decide +kernel) (by decide +kernel) (by decide +kernel) (by decide +kernel)
theorem dX12_isAhead_15 : decode cX12_isAhead 15 = .ok (.aload_n 0, 1) := dk_aload_n_0 (by decide +kernel)
theorem dX12_isAhead_16 : decode cX12_isAhead 16 = .ok (.getfield 41, 3) := dk_getfield 41 (b1 := 0) (b2 := 41) (by decide +kernel) (by decide +kernel) (by decide +kernel) (by decide +kernel)
theorem dX12_isAhead_19 : decode cX12_isAhead 19 = .ok (.iload_n 1, 1) := dk_iload_n_1 (by decide +kernel)
theorem dX12_isAhead_20 : decode cX12_isAhead 20 = .ok (.iaload, 1) := dk_iaload (by decide +kernel)
theorem dX12_isAhead_21 : decode cX12_isAhead 21 = .ok (.aload_n 0, 1) := dk_aload_n_0 (by decide +kernel)
theorem dX12_isAhead_22 : decode cX12_isAhead 22 = .ok (.getfield 41, 3) := dk_getfield 41 (b1 := 0) (b2 := 41) (by decide +kernel) (by decide +kernel) (by decide +kernel) (by decide +kernel)
theorem dX12_isAhead_25 : decode cX12_isAhead 25 = .ok (.iload_n 2, 1) := dk_iload_n_2 (by decide +kernel)
theorem dX12_isAhead_26 : decode cX12_isAhead 26 = .ok (.iaload, 1) := dk_iaload (by decide +kernel)
theorem dX12_isAhead_27 : decode cX12_isAhead 27 = .ok (.if_icmp .le 7, 3) := dk_if_icmp_le 7 (b1 := 0) (b2 := 7) (by decide +kernel) (by decide +kernel) (by decide +kernel) (by decide +kernel)
theorem dX12_isAhead_34 : decode cX12_isAhead 34 = .ok (.iconst 0, 1) := dk_iconst_0 (by decide +kernel)
theorem dX12_isAhead_35 : decode cX12_isAhead 35 = .ok (.ireturn, 1) := dk_ireturn (by decide +kernel)
theorem dX12_isAhead_30 : decode cX12_isAhead 30 = .ok (.iconst 1, 1) := dk_iconst_1 (by decide +kernel)
theorem dX12_isAhead_31 : decode cX12_isAhead 31 = .ok (.goto 4, 3) := dk_goto 4 (b1 := 0) (b2 := 4) (by decide +kernel) (by decide +kernel) (by decide +kernel) (by decide +kernel)
set_option maxRecDepth 20000 in
theorem vX12_isAhead_0 {E : sm_E} {L : sm_S → Prop} {d : Nat} {x1 : Int32} {x2 : Int32}  {m : sm_M} {Q : Int32 → sm_M → Prop} (hly : ∀ S, L S → ly S) (hd : 1 ≤ d) 
  (h : (vp_in x1 40) ∧ (vp_in x2 40) ∧ ((m.1 119 x1.toNatClampNeg) = (m.1 119 x2.toNatClampNeg) →
      (vp_in x1 40) ∧ (vp_in x2 40) ∧ ((m.1 117 x1.toNatClampNeg) = (m.1 117 x2.toNatClampNeg) →
         (vp_in x1 40) ∧ (vp_in x2 40) ∧ ((m.1 118 x2.toNatClampNeg) ≤ (m.1 118 x1.toNatClampNeg) →
            Q 0 m) ∧
         (¬ (m.1 118 x2.toNatClampNeg) ≤ (m.1 118 x1.toNatClampNeg) →
            Q 1 m)) ∧
      (¬ (m.1 117 x1.toNatClampNeg) = (m.1 117 x2.toNatClampNeg) →
         (vp_in x1 40) ∧ (vp_in x2 40) ∧ ((m.1 117 x2.toNatClampNeg) ≤ (m.1 117 x1.toNatClampNeg) →
            Q 0 m) ∧
         (¬ (m.1 117 x2.toNatClampNeg) ≤ (m.1 117 x1.toNatClampNeg) →
            Q 1 m))) ∧
   (¬ (m.1 119 x1.toNatClampNeg) = (m.1 119 x2.toNatClampNeg) →
      (vp_in x1 40) ∧ (vp_in x2 40) ∧ ((m.1 119 x1.toNatClampNeg) ≤ (m.1 119 x2.toNatClampNeg) →
         Q 0 m) ∧
      (¬ (m.1 119 x1.toNatClampNeg) ≤ (m.1 119 x2.toNatClampNeg) →
         Q 1 m))) :
  sm_callI E L mX12_isAhead d 0 0 [.ref (sm_B E + 109), .int x1, .int x2] m Q := by
  refine sm_enter (by decide +kernel) (by simp [lg_sl, Value.category]) ?_
  refine sm_aload_n (Y := mX12_isAhead) (pc := 0) 0 0 rfl rfl dX12_isAhead_0 ?_
  refine gf_RX12_41 (Y := mX12_isAhead) (pc := 1) (b := 119) rfl ((lk_109 hly) _) (lf_109_14 hly _) dX12_isAhead_1 ?_
  refine sm_iload_n (Y := mX12_isAhead) (pc := 4) 1 1 rfl rfl dX12_isAhead_4 ?_
  obtain ⟨hn_1, h⟩ := h
  refine sm_iald (Y := mX12_isAhead) (pc := 5) (la_119 hly _) hn_1 dX12_isAhead_5 ?_
  refine sm_aload_n (Y := mX12_isAhead) (pc := 6) 0 0 rfl rfl dX12_isAhead_6 ?_
  refine gf_RX12_41 (Y := mX12_isAhead) (pc := 7) (b := 119) rfl ((lk_109 hly) _) (lf_109_14 hly _) dX12_isAhead_7 ?_
  refine sm_iload_n (Y := mX12_isAhead) (pc := 10) 2 2 rfl rfl dX12_isAhead_10 ?_
  obtain ⟨hn_2, h⟩ := h
  refine sm_iald (Y := mX12_isAhead) (pc := 11) (la_119 hly _) hn_2 dX12_isAhead_11 ?_
  refine sm_icmp_eq (Y := mX12_isAhead) (pc := 12) 36 (by decide) dX12_isAhead_12 (fun hc => ?_) (fun hc => ?_)
  · replace h := h.1 hc
    refine sm_aload_n (Y := mX12_isAhead) (pc := 36) 0 0 rfl rfl dX12_isAhead_36 ?_
    refine gf_RX12_35 (Y := mX12_isAhead) (pc := 37) (b := 117) rfl ((lk_109 hly) _) (lf_109_12 hly _) dX12_isAhead_37 ?_
    refine sm_iload_n (Y := mX12_isAhead) (pc := 40) 1 1 rfl rfl dX12_isAhead_40 ?_
    obtain ⟨hn_3, h⟩ := h
    refine sm_iald (Y := mX12_isAhead) (pc := 41) (la_117 hly _) hn_3 dX12_isAhead_41 ?_
    refine sm_aload_n (Y := mX12_isAhead) (pc := 42) 0 0 rfl rfl dX12_isAhead_42 ?_
    refine gf_RX12_35 (Y := mX12_isAhead) (pc := 43) (b := 117) rfl ((lk_109 hly) _) (lf_109_12 hly _) dX12_isAhead_43 ?_
    refine sm_iload_n (Y := mX12_isAhead) (pc := 46) 2 2 rfl rfl dX12_isAhead_46 ?_
    obtain ⟨hn_4, h⟩ := h
    refine sm_iald (Y := mX12_isAhead) (pc := 47) (la_117 hly _) hn_4 dX12_isAhead_47 ?_
    refine sm_icmp_eq (Y := mX12_isAhead) (pc := 48) 74 (by decide) dX12_isAhead_48 (fun hc => ?_) (fun hc => ?_)
    · replace h := h.1 hc
      refine sm_aload_n (Y := mX12_isAhead) (pc := 74) 0 0 rfl rfl dX12_isAhead_74 ?_
      refine gf_RX12_38 (Y := mX12_isAhead) (pc := 75) (b := 118) rfl ((lk_109 hly) _) (lf_109_13 hly _) dX12_isAhead_75 ?_
      refine sm_iload_n (Y := mX12_isAhead) (pc := 78) 1 1 rfl rfl dX12_isAhead_78 ?_
      obtain ⟨hn_5, h⟩ := h
      refine sm_iald (Y := mX12_isAhead) (pc := 79) (la_118 hly _) hn_5 dX12_isAhead_79 ?_
      refine sm_aload_n (Y := mX12_isAhead) (pc := 80) 0 0 rfl rfl dX12_isAhead_80 ?_
      refine gf_RX12_38 (Y := mX12_isAhead) (pc := 81) (b := 118) rfl ((lk_109 hly) _) (lf_109_13 hly _) dX12_isAhead_81 ?_
      refine sm_iload_n (Y := mX12_isAhead) (pc := 84) 2 2 rfl rfl dX12_isAhead_84 ?_
      obtain ⟨hn_6, h⟩ := h
      refine sm_iald (Y := mX12_isAhead) (pc := 85) (la_118 hly _) hn_6 dX12_isAhead_85 ?_
      refine sm_icmp_ge (Y := mX12_isAhead) (pc := 86) 93 (by decide) dX12_isAhead_86 (fun hc => ?_) (fun hc => ?_)
      · replace h := h.1 hc
        refine sm_iconst (Y := mX12_isAhead) (pc := 93) 0 (by decide) dX12_isAhead_93 ?_
        exact sm_zret (Y := mX12_isAhead) (pc := 94) rfl (by decide) rfl rfl dX12_isAhead_94 ⟨_, rfl, h⟩
      · replace h := h.2 hc
        refine sm_iconst (Y := mX12_isAhead) (pc := 89) 1 (by decide) dX12_isAhead_89 ?_
        refine sm_goto (Y := mX12_isAhead) (pc := 90) 94 (by decide) dX12_isAhead_90 ?_
        exact sm_zret (Y := mX12_isAhead) (pc := 94) rfl (by decide) rfl rfl dX12_isAhead_94 ⟨_, rfl, h⟩
    · replace h := h.2 hc
      refine sm_aload_n (Y := mX12_isAhead) (pc := 51) 0 0 rfl rfl dX12_isAhead_51 ?_
      refine gf_RX12_35 (Y := mX12_isAhead) (pc := 52) (b := 117) rfl ((lk_109 hly) _) (lf_109_12 hly _) dX12_isAhead_52 ?_
      refine sm_iload_n (Y := mX12_isAhead) (pc := 55) 1 1 rfl rfl dX12_isAhead_55 ?_
      obtain ⟨hn_7, h⟩ := h
      refine sm_iald (Y := mX12_isAhead) (pc := 56) (la_117 hly _) hn_7 dX12_isAhead_56 ?_
      refine sm_aload_n (Y := mX12_isAhead) (pc := 57) 0 0 rfl rfl dX12_isAhead_57 ?_
      refine gf_RX12_35 (Y := mX12_isAhead) (pc := 58) (b := 117) rfl ((lk_109 hly) _) (lf_109_12 hly _) dX12_isAhead_58 ?_
      refine sm_iload_n (Y := mX12_isAhead) (pc := 61) 2 2 rfl rfl dX12_isAhead_61 ?_
      obtain ⟨hn_8, h⟩ := h
      refine sm_iald (Y := mX12_isAhead) (pc := 62) (la_117 hly _) hn_8 dX12_isAhead_62 ?_
      refine sm_icmp_ge (Y := mX12_isAhead) (pc := 63) 70 (by decide) dX12_isAhead_63 (fun hc => ?_) (fun hc => ?_)
      · replace h := h.1 hc
        refine sm_iconst (Y := mX12_isAhead) (pc := 70) 0 (by decide) dX12_isAhead_70 ?_
        refine sm_goto (Y := mX12_isAhead) (pc := 71) 94 (by decide) dX12_isAhead_71 ?_
        exact sm_zret (Y := mX12_isAhead) (pc := 94) rfl (by decide) rfl rfl dX12_isAhead_94 ⟨_, rfl, h⟩
      · replace h := h.2 hc
        refine sm_iconst (Y := mX12_isAhead) (pc := 66) 1 (by decide) dX12_isAhead_66 ?_
        refine sm_goto (Y := mX12_isAhead) (pc := 67) 94 (by decide) dX12_isAhead_67 ?_
        exact sm_zret (Y := mX12_isAhead) (pc := 94) rfl (by decide) rfl rfl dX12_isAhead_94 ⟨_, rfl, h⟩
  · replace h := h.2 hc
    refine sm_aload_n (Y := mX12_isAhead) (pc := 15) 0 0 rfl rfl dX12_isAhead_15 ?_
    refine gf_RX12_41 (Y := mX12_isAhead) (pc := 16) (b := 119) rfl ((lk_109 hly) _) (lf_109_14 hly _) dX12_isAhead_16 ?_
    refine sm_iload_n (Y := mX12_isAhead) (pc := 19) 1 1 rfl rfl dX12_isAhead_19 ?_
    obtain ⟨hn_9, h⟩ := h
    refine sm_iald (Y := mX12_isAhead) (pc := 20) (la_119 hly _) hn_9 dX12_isAhead_20 ?_
    refine sm_aload_n (Y := mX12_isAhead) (pc := 21) 0 0 rfl rfl dX12_isAhead_21 ?_
    refine gf_RX12_41 (Y := mX12_isAhead) (pc := 22) (b := 119) rfl ((lk_109 hly) _) (lf_109_14 hly _) dX12_isAhead_22 ?_
    refine sm_iload_n (Y := mX12_isAhead) (pc := 25) 2 2 rfl rfl dX12_isAhead_25 ?_
    obtain ⟨hn_10, h⟩ := h
    refine sm_iald (Y := mX12_isAhead) (pc := 26) (la_119 hly _) hn_10 dX12_isAhead_26 ?_
    refine sm_icmp_le (Y := mX12_isAhead) (pc := 27) 34 (by decide) dX12_isAhead_27 (fun hc => ?_) (fun hc => ?_)
    · replace h := h.1 hc
      refine sm_iconst (Y := mX12_isAhead) (pc := 34) 0 (by decide) dX12_isAhead_34 ?_
      exact sm_zret (Y := mX12_isAhead) (pc := 35) rfl (by decide) rfl rfl dX12_isAhead_35 ⟨_, rfl, h⟩
    · replace h := h.2 hc
      refine sm_iconst (Y := mX12_isAhead) (pc := 30) 1 (by decide) dX12_isAhead_30 ?_
      refine sm_goto (Y := mX12_isAhead) (pc := 31) 35 (by decide) dX12_isAhead_31 ?_
      exact sm_zret (Y := mX12_isAhead) (pc := 35) rfl (by decide) rfl rfl dX12_isAhead_35 ⟨_, rfl, h⟩
abbrev mX12_ranked : sm_Y := (yX12_ranked, cX12_ranked, 6, (some FieldType.int))
theorem fX12_ranked : sm_mi mX12_ranked RX12 2 := ⟨sm_in 1640 (by decide +kernel) (by decide +kernel), sm_in 1638 (by decide +kernel) (by decide +kernel), sm_in 1639 (by decide +kernel) (by decide +kernel), sm_in 93 (by decide +kernel) (by decide +kernel), rfl, ⟨by decide +kernel, by decide +kernel, by decide +kernel⟩, by decide⟩
def gX12_ranked_34 (E : sm_E) (L : sm_S → Prop) (d : Nat) (vs : List Value) (x1 : Int32) (x2 : Int32) (x3 : Int32) (x4 : Int32) (x5 : Int32) (m : sm_M) (Q : Int32 → sm_M → Prop) : Prop := sm_go E L mX12_ranked d 0 0 vs 34 [(0, .ref (sm_B E + 109)), (1, .int x1), (2, .int x2), (3, .int x3), (4, .int x4), (5, .int x5)] [] m 0 0 (sm_Z E L vs 0 0 (sm_QI Q))
def gX12_ranked_20 (E : sm_E) (L : sm_S → Prop) (d : Nat) (vs : List Value) (x1 : Int32) (x2 : Int32) (x3 : Int32) (m : sm_M) (Q : Int32 → sm_M → Prop) : Prop := sm_go E L mX12_ranked d 0 0 vs 20 [(0, .ref (sm_B E + 109)), (1, .int x1), (2, .int x2), (3, .int x3)] [] m 0 0 (sm_Z E L vs 0 0 (sm_QI Q))
theorem dX12_ranked_34 : decode cX12_ranked 34 = .ok (.iload 5, 2) := dk_iload 5 (b := 5) (by decide +kernel) (by decide +kernel) (by decide +kernel)
theorem dX12_ranked_36 : decode cX12_ranked 36 = .ok (.aload_n 0, 1) := dk_aload_n_0 (by decide +kernel)
theorem dX12_ranked_37 : decode cX12_ranked 37 = .ok (.getfield 391, 3) := dk_getfield 391 (b1 := 1) (b2 := 135) (by decide +kernel) (by decide +kernel) (by decide +kernel) (by decide +kernel)
theorem dX12_ranked_40 : decode cX12_ranked 40 = .ok (.if_icmp .ge 29, 3) := dk_if_icmp_ge 29 (b1 := 0) (b2 := 29) (by decide +kernel) (by decide +kernel) (by decide +kernel) (by decide +kernel)
theorem dX12_ranked_69 : decode cX12_ranked 69 = .ok (.iload 4, 2) := dk_iload 4 (b := 4) (by decide +kernel) (by decide +kernel) (by decide +kernel)
theorem dX12_ranked_71 : decode cX12_ranked 71 = .ok (.iload_n 1, 1) := dk_iload_n_1 (by decide +kernel)
theorem dX12_ranked_72 : decode cX12_ranked 72 = .ok (.if_icmp .ne 10, 3) := dk_if_icmp_ne 10 (b1 := 0) (b2 := 10) (by decide +kernel) (by decide +kernel) (by decide +kernel) (by decide +kernel)
theorem dX12_ranked_82 : decode cX12_ranked 82 = .ok (.iinc 3 1, 3) := dk_iinc 3 1 (b1 := 3) (b2 := 1) (by decide +kernel) (by decide +kernel) (by decide +kernel) (by decide +kernel) (by decide +kernel)
theorem dX12_ranked_85 : decode cX12_ranked 85 = .ok (.goto (-65), 3) := dk_goto (-65) (b1 := 255) (b2 := 191) (by decide +kernel) (by decide +kernel) (by decide +kernel) (by decide +kernel)
theorem dX12_ranked_75 : decode cX12_ranked 75 = .ok (.aload_n 0, 1) := dk_aload_n_0 (by decide +kernel)
theorem dX12_ranked_76 : decode cX12_ranked 76 = .ok (.iload_n 3, 1) := dk_iload_n_3 (by decide +kernel)
theorem dX12_ranked_77 : decode cX12_ranked 77 = .ok (.iload_n 2, 1) := dk_iload_n_2 (by decide +kernel)
theorem wRX12_400 : Cond.methodLink RX12 400 yX12_book ∈ sm_T := sm_in 1645 (by decide +kernel) (by decide +kernel)
theorem dX12_ranked_78 : decode cX12_ranked 78 = .ok (.invokevirtual 400, 3) := dk_invokevirtual 400 (b1 := 1) (b2 := 144) (by decide +kernel) (by decide +kernel) (by decide +kernel) (by decide +kernel)
theorem dX12_ranked_81 : decode cX12_ranked 81 = .ok (.ireturn, 1) := dk_ireturn (by decide +kernel)
theorem dX12_ranked_43 : decode cX12_ranked 43 = .ok (.iload 4, 2) := dk_iload 4 (b := 4) (by decide +kernel) (by decide +kernel) (by decide +kernel)
theorem dX12_ranked_45 : decode cX12_ranked 45 = .ok (.aload_n 0, 1) := dk_aload_n_0 (by decide +kernel)
theorem dX12_ranked_46 : decode cX12_ranked 46 = .ok (.iload 5, 2) := dk_iload 5 (b := 5) (by decide +kernel) (by decide +kernel) (by decide +kernel)
theorem dX12_ranked_48 : decode cX12_ranked 48 = .ok (.iload_n 3, 1) := dk_iload_n_3 (by decide +kernel)
theorem wRX12_397 : Cond.methodLink RX12 397 yX12_isAhead ∈ sm_T := sm_in 1641 (by decide +kernel) (by decide +kernel)
theorem dX12_ranked_49 : decode cX12_ranked 49 = .ok (.invokevirtual 397, 3) := dk_invokevirtual 397 (b1 := 1) (b2 := 141) (by decide +kernel) (by decide +kernel) (by decide +kernel) (by decide +kernel)
theorem dX12_ranked_52 : decode cX12_ranked 52 = .ok (.ifCond .eq 7, 3) := dk_ifCond_eq 7 (b1 := 0) (b2 := 7) (by decide +kernel) (by decide +kernel) (by decide +kernel) (by decide +kernel)
theorem dX12_ranked_59 : decode cX12_ranked 59 = .ok (.iconst 0, 1) := dk_iconst_0 (by decide +kernel)
theorem dX12_ranked_60 : decode cX12_ranked 60 = .ok (.iadd, 1) := dk_iadd (by decide +kernel)
theorem dX12_ranked_61 : decode cX12_ranked 61 = .ok (.istore 4, 2) := dk_istore 4 (b := 4) (by decide +kernel) (by decide +kernel) (by decide +kernel)
theorem dX12_ranked_63 : decode cX12_ranked 63 = .ok (.iinc 5 1, 3) := dk_iinc 5 1 (b1 := 5) (b2 := 1) (by decide +kernel) (by decide +kernel) (by decide +kernel) (by decide +kernel) (by decide +kernel)
theorem dX12_ranked_66 : decode cX12_ranked 66 = .ok (.goto (-32), 3) := dk_goto (-32) (b1 := 255) (b2 := 224) (by decide +kernel) (by decide +kernel) (by decide +kernel) (by decide +kernel)
theorem dX12_ranked_55 : decode cX12_ranked 55 = .ok (.iconst 1, 1) := dk_iconst_1 (by decide +kernel)
theorem dX12_ranked_56 : decode cX12_ranked 56 = .ok (.goto 4, 3) := dk_goto 4 (b1 := 0) (b2 := 4) (by decide +kernel) (by decide +kernel) (by decide +kernel) (by decide +kernel)
set_option maxRecDepth 20000 in
theorem vX12_ranked_34 {E : sm_E} {L : sm_S → Prop} {d : Nat} {vs : List Value} {x1 : Int32} {x2 : Int32} {x3 : Int32} {x4 : Int32} {x5 : Int32}  {m : sm_M} {Q : Int32 → sm_M → Prop} (hly : ∀ S, L S → ly S) (hd : 3 ≤ d) 
  (h : ((m.1 109 15) ≤ x5 →
      (¬ x4 = x1 →
         ∀ x3_1 : Int32, x3_1 = x3 + 1 →
         gX12_ranked_20 E L d vs x1 x2 x3_1 m Q) ∧
      (x4 = x1 →
         sm_callI E L mX12_book 2 0 0 [.ref (sm_B E + 109), .int x3, .int x2] m (fun r_3 m_2 =>
         Q r_3 m_2))) ∧
   (¬ (m.1 109 15) ≤ x5 →
      sm_callI E L mX12_isAhead 1 0 0 [.ref (sm_B E + 109), .int x5, .int x3] m (fun r_5 m_4 =>
      (r_5 = 0 →
         ∀ x4_6 : Int32, x4_6 = x4 + 0 →
         ∀ x5_7 : Int32, x5_7 = x5 + 1 →
         gX12_ranked_34 E L d vs x1 x2 x3 x4_6 x5_7 m_4 Q) ∧
      (¬ r_5 = 0 →
         ∀ x4_8 : Int32, x4_8 = x4 + 1 →
         ∀ x5_9 : Int32, x5_9 = x5 + 1 →
         gX12_ranked_34 E L d vs x1 x2 x3 x4_8 x5_9 m_4 Q)))) :
  gX12_ranked_34 E L d vs x1 x2 x3 x4 x5 m Q := by
  refine sm_iload (Y := mX12_ranked) (pc := 34) 5 5 rfl dX12_ranked_34 ?_
  refine sm_aload_n (Y := mX12_ranked) (pc := 36) 0 0 rfl rfl dX12_ranked_36 ?_
  refine gf_RX12_391 (Y := mX12_ranked) (pc := 37) rfl ((lk_109 hly) _) dX12_ranked_37 ?_
  refine sm_icmp_ge (Y := mX12_ranked) (pc := 40) 69 (by decide) dX12_ranked_40 (fun hc => ?_) (fun hc => ?_)
  · replace h := h.1 hc
    refine sm_iload (Y := mX12_ranked) (pc := 69) 4 4 rfl dX12_ranked_69 ?_
    refine sm_iload_n (Y := mX12_ranked) (pc := 71) 1 1 rfl rfl dX12_ranked_71 ?_
    refine sm_icmp_ne (Y := mX12_ranked) (pc := 72) 82 (by decide) dX12_ranked_72 (fun hc => ?_) (fun hc => ?_)
    · replace h := h.1 hc
      refine sm_iinc (Y := mX12_ranked) (pc := 82) (fun y => [(3, .int y), (0, .ref (sm_B E + 109)), (1, .int x1), (2, .int x2), (4, .int x4), (5, .int x5)]) 3 3 rfl (by decide) (fun _ => rfl) dX12_ranked_82 (fun x3_1 ex3_1 => ?_)
      replace h := h x3_1 ex3_1
      refine sm_goto (Y := mX12_ranked) (pc := 85) 20 (by decide) dX12_ranked_85 ?_
      refine sm_sub [1, 2, 3, 0] rfl ?_
      exact h
    · replace h := h.2 hc
      refine sm_aload_n (Y := mX12_ranked) (pc := 75) 0 0 rfl rfl dX12_ranked_75 ?_
      refine sm_iload_n (Y := mX12_ranked) (pc := 76) 3 3 rfl rfl dX12_ranked_76 ?_
      refine sm_iload_n (Y := mX12_ranked) (pc := 77) 2 2 rfl rfl dX12_ranked_77 ?_
      refine sm_iv_I (Y := mX12_ranked) (pc := 78) (As := [.int x3, .int x2]) (a := 109) fX12_book wRX12_400 (lk_109 hly) (by decide) rfl rfl rfl (Nat.le_trans (by decide) hd) (Nat.le_of_ble_eq_true rfl) ⟨Nat.le_refl _, Nat.le_refl _⟩ dX12_ranked_78 rfl (sm_monoI h (fun r_3 m_2 h => ?_))
      exact sm_iret (Y := mX12_ranked) (pc := 81) rfl rfl rfl dX12_ranked_81 ⟨_, rfl, h⟩
  · replace h := h.2 hc
    refine sm_iload (Y := mX12_ranked) (pc := 43) 4 4 rfl dX12_ranked_43 ?_
    refine sm_aload_n (Y := mX12_ranked) (pc := 45) 0 0 rfl rfl dX12_ranked_45 ?_
    refine sm_iload (Y := mX12_ranked) (pc := 46) 5 5 rfl dX12_ranked_46 ?_
    refine sm_iload_n (Y := mX12_ranked) (pc := 48) 3 3 rfl rfl dX12_ranked_48 ?_
    refine sm_iv_I (Y := mX12_ranked) (pc := 49) (As := [.int x5, .int x3]) (a := 109) fX12_isAhead wRX12_397 (lk_109 hly) (by decide) rfl rfl rfl (Nat.le_trans (by decide) hd) (Nat.le_of_ble_eq_true rfl) ⟨Nat.le_refl _, Nat.le_refl _⟩ dX12_ranked_49 rfl (sm_monoI h (fun r_5 m_4 h => ?_))
    refine sm_if_eq (Y := mX12_ranked) (pc := 52) 59 (by decide) dX12_ranked_52 (fun hc => ?_) (fun hc => ?_)
    · replace h := h.1 hc
      refine sm_iconst (Y := mX12_ranked) (pc := 59) 0 (by decide) dX12_ranked_59 ?_
      refine sm_iadd (Y := mX12_ranked) (pc := 60) dX12_ranked_60 ?_
      refine sm_istore (Y := mX12_ranked) (pc := 61) (fun y => [(4, .int y), (0, .ref (sm_B E + 109)), (1, .int x1), (2, .int x2), (3, .int x3), (5, .int x5)]) 4 (by decide) (fun _ => rfl) dX12_ranked_61 (fun x4_6 ex4_6 => ?_)
      replace h := h x4_6 ex4_6
      refine sm_iinc (Y := mX12_ranked) (pc := 63) (fun y => [(5, .int y), (4, .int x4_6), (0, .ref (sm_B E + 109)), (1, .int x1), (2, .int x2), (3, .int x3)]) 5 5 rfl (by decide) (fun _ => rfl) dX12_ranked_63 (fun x5_7 ex5_7 => ?_)
      replace h := h x5_7 ex5_7
      refine sm_goto (Y := mX12_ranked) (pc := 66) 34 (by decide) dX12_ranked_66 ?_
      refine sm_sub [2, 3, 4, 5, 1, 0] rfl ?_
      exact h
    · replace h := h.2 hc
      refine sm_iconst (Y := mX12_ranked) (pc := 55) 1 (by decide) dX12_ranked_55 ?_
      refine sm_goto (Y := mX12_ranked) (pc := 56) 60 (by decide) dX12_ranked_56 ?_
      refine sm_iadd (Y := mX12_ranked) (pc := 60) dX12_ranked_60 ?_
      refine sm_istore (Y := mX12_ranked) (pc := 61) (fun y => [(4, .int y), (0, .ref (sm_B E + 109)), (1, .int x1), (2, .int x2), (3, .int x3), (5, .int x5)]) 4 (by decide) (fun _ => rfl) dX12_ranked_61 (fun x4_8 ex4_8 => ?_)
      replace h := h x4_8 ex4_8
      refine sm_iinc (Y := mX12_ranked) (pc := 63) (fun y => [(5, .int y), (4, .int x4_8), (0, .ref (sm_B E + 109)), (1, .int x1), (2, .int x2), (3, .int x3)]) 5 5 rfl (by decide) (fun _ => rfl) dX12_ranked_63 (fun x5_9 ex5_9 => ?_)
      replace h := h x5_9 ex5_9
      refine sm_goto (Y := mX12_ranked) (pc := 66) 34 (by decide) dX12_ranked_66 ?_
      refine sm_sub [2, 3, 4, 5, 1, 0] rfl ?_
      exact h
theorem dX12_ranked_20 : decode cX12_ranked 20 = .ok (.iload_n 3, 1) := dk_iload_n_3 (by decide +kernel)
theorem dX12_ranked_21 : decode cX12_ranked 21 = .ok (.aload_n 0, 1) := dk_aload_n_0 (by decide +kernel)
theorem dX12_ranked_22 : decode cX12_ranked 22 = .ok (.getfield 391, 3) := dk_getfield 391 (b1 := 1) (b2 := 135) (by decide +kernel) (by decide +kernel) (by decide +kernel) (by decide +kernel)
theorem dX12_ranked_25 : decode cX12_ranked 25 = .ok (.if_icmp .ge 63, 3) := dk_if_icmp_ge 63 (b1 := 0) (b2 := 63) (by decide +kernel) (by decide +kernel) (by decide +kernel) (by decide +kernel)
theorem dX12_ranked_88 : decode cX12_ranked 88 = .ok (.aload_n 0, 1) := dk_aload_n_0 (by decide +kernel)
theorem dX12_ranked_89 : decode cX12_ranked 89 = .ok (.iconst 2, 1) := dk_iconst_2 (by decide +kernel)
theorem dX12_ranked_90 : decode cX12_ranked 90 = .ok (.invokevirtual 194, 3) := dk_invokevirtual 194 (b1 := 0) (b2 := 194) (by decide +kernel) (by decide +kernel) (by decide +kernel) (by decide +kernel)
theorem dX12_ranked_93 : decode cX12_ranked 93 = .ok (.ireturn, 1) := dk_ireturn (by decide +kernel)
theorem dX12_ranked_28 : decode cX12_ranked 28 = .ok (.iconst 0, 1) := dk_iconst_0 (by decide +kernel)
theorem dX12_ranked_29 : decode cX12_ranked 29 = .ok (.istore 4, 2) := dk_istore 4 (b := 4) (by decide +kernel) (by decide +kernel) (by decide +kernel)
theorem dX12_ranked_31 : decode cX12_ranked 31 = .ok (.iconst 0, 1) := dk_iconst_0 (by decide +kernel)
theorem dX12_ranked_32 : decode cX12_ranked 32 = .ok (.istore 5, 2) := dk_istore 5 (b := 5) (by decide +kernel) (by decide +kernel) (by decide +kernel)
set_option maxRecDepth 20000 in
theorem vX12_ranked_20 {E : sm_E} {L : sm_S → Prop} {d : Nat} {vs : List Value} {x1 : Int32} {x2 : Int32} {x3 : Int32}  {m : sm_M} {Q : Int32 → sm_M → Prop} (hly : ∀ S, L S → ly S) (hd : 3 ≤ d) 
  (h : ((m.1 109 15) ≤ x3 →
      sm_callI E L mX12_finds 1 0 0 [.ref (sm_B E + 109), .int 2] m (fun r_2 m_1 =>
      Q r_2 m_1)) ∧
   (¬ (m.1 109 15) ≤ x3 →
      gX12_ranked_34 E L d vs x1 x2 x3 0 0 m Q)) :
  gX12_ranked_20 E L d vs x1 x2 x3 m Q := by
  refine sm_iload_n (Y := mX12_ranked) (pc := 20) 3 3 rfl rfl dX12_ranked_20 ?_
  refine sm_aload_n (Y := mX12_ranked) (pc := 21) 0 0 rfl rfl dX12_ranked_21 ?_
  refine gf_RX12_391 (Y := mX12_ranked) (pc := 22) rfl ((lk_109 hly) _) dX12_ranked_22 ?_
  refine sm_icmp_ge (Y := mX12_ranked) (pc := 25) 88 (by decide) dX12_ranked_25 (fun hc => ?_) (fun hc => ?_)
  · replace h := h.1 hc
    refine sm_aload_n (Y := mX12_ranked) (pc := 88) 0 0 rfl rfl dX12_ranked_88 ?_
    refine sm_iconst (Y := mX12_ranked) (pc := 89) 2 (by decide) dX12_ranked_89 ?_
    refine sm_iv_I (Y := mX12_ranked) (pc := 90) (As := [.int 2]) (a := 109) fX12_finds wRX12_194 (lk_109 hly) (by decide) rfl rfl rfl (Nat.le_trans (by decide) hd) (Nat.le_of_ble_eq_true rfl) ⟨Nat.le_refl _, Nat.le_refl _⟩ dX12_ranked_90 rfl (sm_monoI h (fun r_2 m_1 h => ?_))
    exact sm_iret (Y := mX12_ranked) (pc := 93) rfl rfl rfl dX12_ranked_93 ⟨_, rfl, h⟩
  · replace h := h.2 hc
    refine sm_iconst (Y := mX12_ranked) (pc := 28) 0 (by decide) dX12_ranked_28 ?_
    refine sm_istore0 (Y := mX12_ranked) (pc := 29) [(4, .int 0), (0, .ref (sm_B E + 109)), (1, .int x1), (2, .int x2), (3, .int x3)] 4 (by decide) rfl dX12_ranked_29 ?_
    refine sm_iconst (Y := mX12_ranked) (pc := 31) 0 (by decide) dX12_ranked_31 ?_
    refine sm_istore0 (Y := mX12_ranked) (pc := 32) [(5, .int 0), (4, .int 0), (0, .ref (sm_B E + 109)), (1, .int x1), (2, .int x2), (3, .int x3)] 5 (by decide) rfl dX12_ranked_32 ?_
    refine sm_sub [2, 3, 4, 5, 1, 0] rfl ?_
    exact h
theorem dX12_ranked_0 : decode cX12_ranked 0 = .ok (.iload_n 2, 1) := dk_iload_n_2 (by decide +kernel)
theorem dX12_ranked_1 : decode cX12_ranked 1 = .ok (.i2l, 1) := dk_i2l (by decide +kernel)
theorem dX12_ranked_2 : decode cX12_ranked 2 = .ok (.lconst 0, 1) := dk_lconst_0 (by decide +kernel)
theorem dX12_ranked_3 : decode cX12_ranked 3 = .ok (.ldc2_w 334, 3) := dk_ldc2_w 334 (b1 := 1) (b2 := 78) (by decide +kernel) (by decide +kernel) (by decide +kernel) (by decide +kernel)
theorem dX12_ranked_6 : decode cX12_ranked 6 = .ok (.invokestatic 190, 3) := dk_invokestatic 190 (b1 := 0) (b2 := 190) (by decide +kernel) (by decide +kernel) (by decide +kernel) (by decide +kernel)
theorem dX12_ranked_9 : decode cX12_ranked 9 = .ok (.ifCond .ne 9, 3) := dk_ifCond_ne 9 (b1 := 0) (b2 := 9) (by decide +kernel) (by decide +kernel) (by decide +kernel) (by decide +kernel)
theorem dX12_ranked_18 : decode cX12_ranked 18 = .ok (.iconst 0, 1) := dk_iconst_0 (by decide +kernel)
theorem dX12_ranked_19 : decode cX12_ranked 19 = .ok (.istore_n 3, 1) := dk_istore_n_3 (by decide +kernel)
theorem dX12_ranked_12 : decode cX12_ranked 12 = .ok (.aload_n 0, 1) := dk_aload_n_0 (by decide +kernel)
theorem dX12_ranked_13 : decode cX12_ranked 13 = .ok (.iconst 1, 1) := dk_iconst_1 (by decide +kernel)
theorem dX12_ranked_14 : decode cX12_ranked 14 = .ok (.invokevirtual 194, 3) := dk_invokevirtual 194 (b1 := 0) (b2 := 194) (by decide +kernel) (by decide +kernel) (by decide +kernel) (by decide +kernel)
theorem dX12_ranked_17 : decode cX12_ranked 17 = .ok (.ireturn, 1) := dk_ireturn (by decide +kernel)
set_option maxRecDepth 20000 in
theorem vX12_ranked_0 {E : sm_E} {L : sm_S → Prop} {d : Nat} {x1 : Int32} {x2 : Int32}  {m : sm_M} {Q : Int32 → sm_M → Prop} (hly : ∀ S, L S → ly S) (hd : 3 ≤ d) 
  (h : sm_callI E L mX12_isIn 1 0 0 [.long (x2.toInt64), .long 0, .long 2] m (fun r_2 m_1 =>
   (¬ r_2 = 0 →
      gX12_ranked_20 E L d ([.ref (sm_B E + 109), .int x1, .int x2]) x1 x2 0 m_1 Q) ∧
   (r_2 = 0 →
      sm_callI E L mX12_finds 1 0 0 [.ref (sm_B E + 109), .int 1] m_1 (fun r_5 m_4 =>
      Q r_5 m_4)))) :
  sm_callI E L mX12_ranked d 0 0 [.ref (sm_B E + 109), .int x1, .int x2] m Q := by
  refine sm_enter (by decide +kernel) (by simp [lg_sl, Value.category]) ?_
  refine sm_iload_n (Y := mX12_ranked) (pc := 0) 2 2 rfl rfl dX12_ranked_0 ?_
  refine sm_i2l (Y := mX12_ranked) (pc := 1) dX12_ranked_1 ?_
  refine sm_lconst (Y := mX12_ranked) (pc := 2) 0 (by decide) dX12_ranked_2 ?_
  refine sm_ldc2_w (Y := mX12_ranked) (pc := 3) 2 wRX12_334 dX12_ranked_3 ?_
  refine sm_is_I (Y := mX12_ranked) (pc := 6) (As := [.long (x2.toInt64), .long 0, .long 2]) fX12_isIn wRX12_190 rfl (Nat.le_trans (by decide) hd) (Nat.le_of_ble_eq_true rfl) ⟨Nat.le_refl _, Nat.le_refl _⟩ dX12_ranked_6 rfl (sm_monoI h (fun r_2 m_1 h => ?_))
  refine sm_if_ne (Y := mX12_ranked) (pc := 9) 18 (by decide) dX12_ranked_9 (fun hc => ?_) (fun hc => ?_)
  · replace h := h.1 hc
    refine sm_iconst (Y := mX12_ranked) (pc := 18) 0 (by decide) dX12_ranked_18 ?_
    refine sm_istore0_n (Y := mX12_ranked) (pc := 19) [(3, .int 0), (0, .ref (sm_B E + 109)), (1, .int x1), (2, .int x2)] 3 rfl (by decide) rfl dX12_ranked_19 ?_
    refine sm_sub [1, 2, 3, 0] rfl ?_
    exact h
  · replace h := h.2 hc
    refine sm_aload_n (Y := mX12_ranked) (pc := 12) 0 0 rfl rfl dX12_ranked_12 ?_
    refine sm_iconst (Y := mX12_ranked) (pc := 13) 1 (by decide) dX12_ranked_13 ?_
    refine sm_iv_I (Y := mX12_ranked) (pc := 14) (As := [.int 1]) (a := 109) fX12_finds wRX12_194 (lk_109 hly) (by decide) rfl rfl rfl (Nat.le_trans (by decide) hd) (Nat.le_of_ble_eq_true rfl) ⟨Nat.le_refl _, Nat.le_refl _⟩ dX12_ranked_14 rfl (sm_monoI h (fun r_5 m_4 h => ?_))
    exact sm_iret (Y := mX12_ranked) (pc := 17) rfl rfl rfl dX12_ranked_17 ⟨_, rfl, h⟩
abbrev mX12_entered : sm_Y := (yX12_entered, cX12_entered, 4, (some FieldType.int))
theorem fX12_entered : sm_mi mX12_entered RX12 2 := ⟨sm_in 1649 (by decide +kernel) (by decide +kernel), sm_in 1647 (by decide +kernel) (by decide +kernel), sm_in 1648 (by decide +kernel) (by decide +kernel), sm_in 93 (by decide +kernel) (by decide +kernel), rfl, ⟨by decide +kernel, by decide +kernel, by decide +kernel⟩, by decide⟩
theorem dX12_entered_0 : decode cX12_entered 0 = .ok (.aload_n 0, 1) := dk_aload_n_0 (by decide +kernel)
theorem dX12_entered_1 : decode cX12_entered 1 = .ok (.iload_n 1, 1) := dk_iload_n_1 (by decide +kernel)
theorem dX12_entered_2 : decode cX12_entered 2 = .ok (.i2l, 1) := dk_i2l (by decide +kernel)
theorem dX12_entered_3 : decode cX12_entered 3 = .ok (.iload_n 2, 1) := dk_iload_n_2 (by decide +kernel)
theorem dX12_entered_4 : decode cX12_entered 4 = .ok (.i2l, 1) := dk_i2l (by decide +kernel)
theorem dX12_entered_5 : decode cX12_entered 5 = .ok (.invokevirtual 394, 3) := dk_invokevirtual 394 (b1 := 1) (b2 := 138) (by decide +kernel) (by decide +kernel) (by decide +kernel) (by decide +kernel)
theorem dX12_entered_8 : decode cX12_entered 8 = .ok (.istore_n 3, 1) := dk_istore_n_3 (by decide +kernel)
theorem dX12_entered_9 : decode cX12_entered 9 = .ok (.iload_n 3, 1) := dk_iload_n_3 (by decide +kernel)
theorem dX12_entered_10 : decode cX12_entered 10 = .ok (.ifCond .ge 7, 3) := dk_ifCond_ge 7 (b1 := 0) (b2 := 7) (by decide +kernel) (by decide +kernel) (by decide +kernel) (by decide +kernel)
theorem dX12_entered_17 : decode cX12_entered 17 = .ok (.aload_n 0, 1) := dk_aload_n_0 (by decide +kernel)
theorem dX12_entered_18 : decode cX12_entered 18 = .ok (.getfield 41, 3) := dk_getfield 41 (b1 := 0) (b2 := 41) (by decide +kernel) (by decide +kernel) (by decide +kernel) (by decide +kernel)
theorem dX12_entered_21 : decode cX12_entered 21 = .ok (.iload_n 3, 1) := dk_iload_n_3 (by decide +kernel)
theorem dX12_entered_22 : decode cX12_entered 22 = .ok (.iaload, 1) := dk_iaload (by decide +kernel)
theorem dX12_entered_23 : decode cX12_entered 23 = .ok (.ireturn, 1) := dk_ireturn (by decide +kernel)
theorem dX12_entered_13 : decode cX12_entered 13 = .ok (.iconst 0, 1) := dk_iconst_0 (by decide +kernel)
theorem dX12_entered_14 : decode cX12_entered 14 = .ok (.goto 9, 3) := dk_goto 9 (b1 := 0) (b2 := 9) (by decide +kernel) (by decide +kernel) (by decide +kernel) (by decide +kernel)
set_option maxRecDepth 20000 in
theorem vX12_entered_0 {E : sm_E} {L : sm_S → Prop} {d : Nat} {x1 : Int32} {x2 : Int32}  {m : sm_M} {Q : Int32 → sm_M → Prop} (hly : ∀ S, L S → ly S) (hd : 2 ≤ d) 
  (h : sm_callI E L mX12_bookPlace 1 0 0 [.ref (sm_B E + 109), .long (x1.toInt64), .long (x2.toInt64)] m (fun r_2 m_1 =>
   (0 ≤ r_2 →
      (vp_in r_2 40) ∧ Q (m_1.1 119 r_2.toNatClampNeg) m_1) ∧
   (¬ 0 ≤ r_2 →
      Q 0 m_1))) :
  sm_callI E L mX12_entered d 0 0 [.ref (sm_B E + 109), .int x1, .int x2] m Q := by
  refine sm_enter (by decide +kernel) (by simp [lg_sl, Value.category]) ?_
  refine sm_aload_n (Y := mX12_entered) (pc := 0) 0 0 rfl rfl dX12_entered_0 ?_
  refine sm_iload_n (Y := mX12_entered) (pc := 1) 1 1 rfl rfl dX12_entered_1 ?_
  refine sm_i2l (Y := mX12_entered) (pc := 2) dX12_entered_2 ?_
  refine sm_iload_n (Y := mX12_entered) (pc := 3) 2 2 rfl rfl dX12_entered_3 ?_
  refine sm_i2l (Y := mX12_entered) (pc := 4) dX12_entered_4 ?_
  refine sm_iv_I (Y := mX12_entered) (pc := 5) (As := [.long (x1.toInt64), .long (x2.toInt64)]) (a := 109) fX12_bookPlace wRX12_394 (lk_109 hly) (by decide) rfl rfl rfl (Nat.le_trans (by decide) hd) (Nat.le_of_ble_eq_true rfl) ⟨Nat.le_refl _, Nat.le_refl _⟩ dX12_entered_5 rfl (sm_monoI h (fun r_2 m_1 h => ?_))
  refine sm_istore0_n (Y := mX12_entered) (pc := 8) [(3, .int r_2), (0, .ref (sm_B E + 109)), (1, .int x1), (2, .int x2)] 3 rfl (by decide) rfl dX12_entered_8 ?_
  refine sm_iload_n (Y := mX12_entered) (pc := 9) 0 3 rfl rfl dX12_entered_9 ?_
  refine sm_if_ge (Y := mX12_entered) (pc := 10) 17 (by decide) dX12_entered_10 (fun hc => ?_) (fun hc => ?_)
  · replace h := h.1 hc
    refine sm_aload_n (Y := mX12_entered) (pc := 17) 1 0 rfl rfl dX12_entered_17 ?_
    refine gf_RX12_41 (Y := mX12_entered) (pc := 18) (b := 119) rfl ((lk_109 hly) _) (lf_109_14 hly _) dX12_entered_18 ?_
    refine sm_iload_n (Y := mX12_entered) (pc := 21) 0 3 rfl rfl dX12_entered_21 ?_
    obtain ⟨hn_4, h⟩ := h
    refine sm_iald (Y := mX12_entered) (pc := 22) (la_119 hly _) hn_4 dX12_entered_22 ?_
    exact sm_iret (Y := mX12_entered) (pc := 23) rfl rfl rfl dX12_entered_23 ⟨_, rfl, h⟩
  · replace h := h.2 hc
    refine sm_iconst (Y := mX12_entered) (pc := 13) 0 (by decide) dX12_entered_13 ?_
    refine sm_goto (Y := mX12_entered) (pc := 14) 23 (by decide) dX12_entered_14 ?_
    exact sm_iret (Y := mX12_entered) (pc := 23) rfl rfl rfl dX12_entered_23 ⟨_, rfl, h⟩
abbrev mX12_narrowed : sm_Y := (yX12_narrowed, cX12_narrowed, 3, (some FieldType.long))
theorem fX12_narrowed : sm_mt mX12_narrowed 2 := ⟨sm_in 1660 (by decide +kernel) (by decide +kernel), sm_in 1659 (by decide +kernel) (by decide +kernel), sm_in 93 (by decide +kernel) (by decide +kernel), ⟨by decide +kernel, by decide +kernel, by decide +kernel⟩, by decide⟩
theorem dX12_narrowed_0 : decode cX12_narrowed 0 = .ok (.iload_n 0, 1) := dk_iload_n_0 (by decide +kernel)
theorem dX12_narrowed_1 : decode cX12_narrowed 1 = .ok (.bipush 8, 2) := dk_bipush 8 (b := 8) (by decide +kernel) (by decide +kernel) (by decide +kernel)
theorem dX12_narrowed_3 : decode cX12_narrowed 3 = .ok (.if_icmp .ne 10, 3) := dk_if_icmp_ne 10 (b1 := 0) (b2 := 10) (by decide +kernel) (by decide +kernel) (by decide +kernel) (by decide +kernel)
theorem dX12_narrowed_13 : decode cX12_narrowed 13 = .ok (.iload_n 0, 1) := dk_iload_n_0 (by decide +kernel)
theorem dX12_narrowed_14 : decode cX12_narrowed 14 = .ok (.bipush 16, 2) := dk_bipush 16 (b := 16) (by decide +kernel) (by decide +kernel) (by decide +kernel)
theorem dX12_narrowed_16 : decode cX12_narrowed 16 = .ok (.if_icmp .ne 10, 3) := dk_if_icmp_ne 10 (b1 := 0) (b2 := 10) (by decide +kernel) (by decide +kernel) (by decide +kernel) (by decide +kernel)
theorem dX12_narrowed_26 : decode cX12_narrowed 26 = .ok (.iload_n 0, 1) := dk_iload_n_0 (by decide +kernel)
theorem dX12_narrowed_27 : decode cX12_narrowed 27 = .ok (.bipush 32, 2) := dk_bipush 32 (b := 32) (by decide +kernel) (by decide +kernel) (by decide +kernel)
theorem dX12_narrowed_29 : decode cX12_narrowed 29 = .ok (.if_icmp .ne 9, 3) := dk_if_icmp_ne 9 (b1 := 0) (b2 := 9) (by decide +kernel) (by decide +kernel) (by decide +kernel) (by decide +kernel)
theorem dX12_narrowed_38 : decode cX12_narrowed 38 = .ok (.lload_n 1, 1) := dk_lload_n_1 (by decide +kernel)
theorem dX12_narrowed_39 : decode cX12_narrowed 39 = .ok (.lreturn, 1) := dk_lreturn (by decide +kernel)
theorem dX12_narrowed_32 : decode cX12_narrowed 32 = .ok (.lload_n 1, 1) := dk_lload_n_1 (by decide +kernel)
theorem dX12_narrowed_33 : decode cX12_narrowed 33 = .ok (.l2i, 1) := dk_l2i (by decide +kernel)
theorem dX12_narrowed_34 : decode cX12_narrowed 34 = .ok (.i2l, 1) := dk_i2l (by decide +kernel)
theorem dX12_narrowed_35 : decode cX12_narrowed 35 = .ok (.goto 4, 3) := dk_goto 4 (b1 := 0) (b2 := 4) (by decide +kernel) (by decide +kernel) (by decide +kernel) (by decide +kernel)
theorem dX12_narrowed_19 : decode cX12_narrowed 19 = .ok (.lload_n 1, 1) := dk_lload_n_1 (by decide +kernel)
theorem dX12_narrowed_20 : decode cX12_narrowed 20 = .ok (.l2i, 1) := dk_l2i (by decide +kernel)
theorem dX12_narrowed_21 : decode cX12_narrowed 21 = .ok (.i2s, 1) := dk_i2s (by decide +kernel)
theorem dX12_narrowed_22 : decode cX12_narrowed 22 = .ok (.i2l, 1) := dk_i2l (by decide +kernel)
theorem dX12_narrowed_23 : decode cX12_narrowed 23 = .ok (.goto 16, 3) := dk_goto 16 (b1 := 0) (b2 := 16) (by decide +kernel) (by decide +kernel) (by decide +kernel) (by decide +kernel)
theorem dX12_narrowed_6 : decode cX12_narrowed 6 = .ok (.lload_n 1, 1) := dk_lload_n_1 (by decide +kernel)
theorem dX12_narrowed_7 : decode cX12_narrowed 7 = .ok (.l2i, 1) := dk_l2i (by decide +kernel)
theorem dX12_narrowed_8 : decode cX12_narrowed 8 = .ok (.i2b, 1) := dk_i2b (by decide +kernel)
theorem dX12_narrowed_9 : decode cX12_narrowed 9 = .ok (.i2l, 1) := dk_i2l (by decide +kernel)
theorem dX12_narrowed_10 : decode cX12_narrowed 10 = .ok (.goto 29, 3) := dk_goto 29 (b1 := 0) (b2 := 29) (by decide +kernel) (by decide +kernel) (by decide +kernel) (by decide +kernel)
set_option maxRecDepth 20000 in
theorem vX12_narrowed_0 {E : sm_E} {L : sm_S → Prop} {d : Nat} {x0 : Int32} {x1 : Int64}  {m : sm_M} {Q : Int64 → sm_M → Prop}  (hd : 1 ≤ d) 
  (h : (¬ x0 = 8 →
      (¬ x0 = 16 →
         (¬ x0 = 32 →
            Q x1 m) ∧
         (x0 = 32 →
            Q ((x1.toInt32).toInt64) m)) ∧
      (x0 = 16 →
         Q (((x1.toInt32).toInt16.toInt32).toInt64) m)) ∧
   (x0 = 8 →
      Q (((x1.toInt32).toInt8.toInt32).toInt64) m)) :
  sm_callJ E L mX12_narrowed d 0 0 [.int x0, .long x1] m Q := by
  refine sm_enter (by decide +kernel) (by simp [lg_sl, Value.category]) ?_
  refine sm_iload_n (Y := mX12_narrowed) (pc := 0) 0 0 rfl rfl dX12_narrowed_0 ?_
  refine sm_bipush (Y := mX12_narrowed) (pc := 1) 8 (by decide) dX12_narrowed_1 ?_
  refine sm_icmp_ne (Y := mX12_narrowed) (pc := 3) 13 (by decide) dX12_narrowed_3 (fun hc => ?_) (fun hc => ?_)
  · replace h := h.1 hc
    refine sm_iload_n (Y := mX12_narrowed) (pc := 13) 0 0 rfl rfl dX12_narrowed_13 ?_
    refine sm_bipush (Y := mX12_narrowed) (pc := 14) 16 (by decide) dX12_narrowed_14 ?_
    refine sm_icmp_ne (Y := mX12_narrowed) (pc := 16) 26 (by decide) dX12_narrowed_16 (fun hc => ?_) (fun hc => ?_)
    · replace h := h.1 hc
      refine sm_iload_n (Y := mX12_narrowed) (pc := 26) 0 0 rfl rfl dX12_narrowed_26 ?_
      refine sm_bipush (Y := mX12_narrowed) (pc := 27) 32 (by decide) dX12_narrowed_27 ?_
      refine sm_icmp_ne (Y := mX12_narrowed) (pc := 29) 38 (by decide) dX12_narrowed_29 (fun hc => ?_) (fun hc => ?_)
      · replace h := h.1 hc
        refine sm_lload_n (Y := mX12_narrowed) (pc := 38) 1 1 rfl rfl dX12_narrowed_38 ?_
        exact sm_lret (Y := mX12_narrowed) (pc := 39) rfl rfl rfl dX12_narrowed_39 ⟨_, rfl, h⟩
      · replace h := h.2 hc
        refine sm_lload_n (Y := mX12_narrowed) (pc := 32) 1 1 rfl rfl dX12_narrowed_32 ?_
        refine sm_l2i (Y := mX12_narrowed) (pc := 33) dX12_narrowed_33 ?_
        refine sm_i2l (Y := mX12_narrowed) (pc := 34) dX12_narrowed_34 ?_
        refine sm_goto (Y := mX12_narrowed) (pc := 35) 39 (by decide) dX12_narrowed_35 ?_
        exact sm_lret (Y := mX12_narrowed) (pc := 39) rfl rfl rfl dX12_narrowed_39 ⟨_, rfl, h⟩
    · replace h := h.2 hc
      refine sm_lload_n (Y := mX12_narrowed) (pc := 19) 1 1 rfl rfl dX12_narrowed_19 ?_
      refine sm_l2i (Y := mX12_narrowed) (pc := 20) dX12_narrowed_20 ?_
      refine sm_i2s (Y := mX12_narrowed) (pc := 21) dX12_narrowed_21 ?_
      refine sm_i2l (Y := mX12_narrowed) (pc := 22) dX12_narrowed_22 ?_
      refine sm_goto (Y := mX12_narrowed) (pc := 23) 39 (by decide) dX12_narrowed_23 ?_
      exact sm_lret (Y := mX12_narrowed) (pc := 39) rfl rfl rfl dX12_narrowed_39 ⟨_, rfl, h⟩
  · replace h := h.2 hc
    refine sm_lload_n (Y := mX12_narrowed) (pc := 6) 1 1 rfl rfl dX12_narrowed_6 ?_
    refine sm_l2i (Y := mX12_narrowed) (pc := 7) dX12_narrowed_7 ?_
    refine sm_i2b (Y := mX12_narrowed) (pc := 8) dX12_narrowed_8 ?_
    refine sm_i2l (Y := mX12_narrowed) (pc := 9) dX12_narrowed_9 ?_
    refine sm_goto (Y := mX12_narrowed) (pc := 10) 39 (by decide) dX12_narrowed_10 ?_
    exact sm_lret (Y := mX12_narrowed) (pc := 39) rfl rfl rfl dX12_narrowed_39 ⟨_, rfl, h⟩
def gX12_lays_25 (E : sm_E) (L : sm_S → Prop) (d : Nat) (vs : List Value) (x1 : Int32) (x4 : Int32) (m : sm_M) (Q : sm_M → Prop) : Prop := sm_go E L mX12_lays d 0 0 vs 25 [(0, .ref (sm_B E + 109)), (1, .int x1), (4, .int x4)] [] m 0 0 (sm_Z E L vs 0 0 (sm_QV Q))
theorem dX12_lays_25 : decode cX12_lays 25 = .ok (.iload 4, 2) := dk_iload 4 (b := 4) (by decide +kernel) (by decide +kernel) (by decide +kernel)
theorem dX12_lays_27 : decode cX12_lays 27 = .ok (.bipush 48, 2) := dk_bipush 48 (b := 48) (by decide +kernel) (by decide +kernel) (by decide +kernel)
theorem dX12_lays_29 : decode cX12_lays 29 = .ok (.if_icmp .ge 22, 3) := dk_if_icmp_ge 22 (b1 := 0) (b2 := 22) (by decide +kernel) (by decide +kernel) (by decide +kernel) (by decide +kernel)
theorem dX12_lays_51 : decode cX12_lays 51 = .ok (.return_, 1) := dk_return_ (by decide +kernel)
theorem dX12_lays_32 : decode cX12_lays 32 = .ok (.aload_n 0, 1) := dk_aload_n_0 (by decide +kernel)
theorem dX12_lays_33 : decode cX12_lays 33 = .ok (.getfield 44, 3) := dk_getfield 44 (b1 := 0) (b2 := 44) (by decide +kernel) (by decide +kernel) (by decide +kernel) (by decide +kernel)
theorem dX12_lays_36 : decode cX12_lays 36 = .ok (.bipush 48, 2) := dk_bipush 48 (b := 48) (by decide +kernel) (by decide +kernel) (by decide +kernel)
theorem dX12_lays_38 : decode cX12_lays 38 = .ok (.iload_n 1, 1) := dk_iload_n_1 (by decide +kernel)
theorem dX12_lays_39 : decode cX12_lays 39 = .ok (.imul, 1) := dk_imul (by decide +kernel)
theorem dX12_lays_40 : decode cX12_lays 40 = .ok (.iload 4, 2) := dk_iload 4 (b := 4) (by decide +kernel) (by decide +kernel) (by decide +kernel)
theorem dX12_lays_42 : decode cX12_lays 42 = .ok (.iadd, 1) := dk_iadd (by decide +kernel)
theorem dX12_lays_43 : decode cX12_lays 43 = .ok (.lconst 0, 1) := dk_lconst_0 (by decide +kernel)
theorem dX12_lays_44 : decode cX12_lays 44 = .ok (.lastore, 1) := dk_lastore (by decide +kernel)
theorem dX12_lays_45 : decode cX12_lays 45 = .ok (.iinc 4 1, 3) := dk_iinc 4 1 (b1 := 4) (b2 := 1) (by decide +kernel) (by decide +kernel) (by decide +kernel) (by decide +kernel) (by decide +kernel)
theorem dX12_lays_48 : decode cX12_lays 48 = .ok (.goto (-23), 3) := dk_goto (-23) (b1 := 255) (b2 := 233) (by decide +kernel) (by decide +kernel) (by decide +kernel) (by decide +kernel)
set_option maxRecDepth 20000 in
theorem vX12_lays_25 {E : sm_E} {L : sm_S → Prop} {d : Nat} {vs : List Value} {x1 : Int32} {x4 : Int32}  {m : sm_M} {Q : sm_M → Prop} (hly : ∀ S, L S → ly S) (hd : 1 ≤ d) 
  (h : (48 ≤ x4 →
      Q m) ∧
   (¬ 48 ≤ x4 →
      (vp_in (((48 : Int32) * x1) + x4) 192) ∧ ∀ m_1 : sm_M, m_1 = sm_wJ m 120 (((48 : Int32) * x1) + x4).toNatClampNeg 0 →
      ∀ x4_3 : Int32, x4_3 = x4 + 1 →
      gX12_lays_25 E L d vs x1 x4_3 m_1 Q)) :
  gX12_lays_25 E L d vs x1 x4 m Q := by
  refine sm_iload (Y := mX12_lays) (pc := 25) 2 4 rfl dX12_lays_25 ?_
  refine sm_bipush (Y := mX12_lays) (pc := 27) 48 (by decide) dX12_lays_27 ?_
  refine sm_icmp_ge (Y := mX12_lays) (pc := 29) 51 (by decide) dX12_lays_29 (fun hc => ?_) (fun hc => ?_)
  · replace h := h.1 hc
    exact sm_vret (Y := mX12_lays) (pc := 51) rfl rfl rfl dX12_lays_51 ⟨rfl, h⟩
  · replace h := h.2 hc
    refine sm_aload_n (Y := mX12_lays) (pc := 32) 0 0 rfl rfl dX12_lays_32 ?_
    refine gf_RX12_44 (Y := mX12_lays) (pc := 33) (b := 120) rfl ((lk_109 hly) _) (lf_109_16 hly _) dX12_lays_33 ?_
    refine sm_bipush (Y := mX12_lays) (pc := 36) 48 (by decide) dX12_lays_36 ?_
    refine sm_iload_n (Y := mX12_lays) (pc := 38) 1 1 rfl rfl dX12_lays_38 ?_
    refine sm_imul (Y := mX12_lays) (pc := 39) dX12_lays_39 ?_
    refine sm_iload (Y := mX12_lays) (pc := 40) 2 4 rfl dX12_lays_40 ?_
    refine sm_iadd (Y := mX12_lays) (pc := 42) dX12_lays_42 ?_
    refine sm_lconst (Y := mX12_lays) (pc := 43) 0 (by decide) dX12_lays_43 ?_
    obtain ⟨hn_2, h⟩ := h
    refine sm_last (Y := mX12_lays) (pc := 44) (la_120 hly _) hn_2 dX12_lays_44 (fun m_1 em_1 => ?_)
    replace h := h m_1 em_1
    refine sm_iinc (Y := mX12_lays) (pc := 45) (fun y => [(4, .int y), (0, .ref (sm_B E + 109)), (1, .int x1)]) 2 4 rfl (by decide) (fun _ => rfl) dX12_lays_45 (fun x4_3 ex4_3 => ?_)
    replace h := h x4_3 ex4_3
    refine sm_goto (Y := mX12_lays) (pc := 48) 25 (by decide) dX12_lays_48 ?_
    refine sm_sub [1, 2, 0] rfl ?_
    exact h
theorem dX12_lays_0 : decode cX12_lays 0 = .ok (.aload_n 0, 1) := dk_aload_n_0 (by decide +kernel)
theorem dX12_lays_1 : decode cX12_lays 1 = .ok (.getfield 48, 3) := dk_getfield 48 (b1 := 0) (b2 := 48) (by decide +kernel) (by decide +kernel) (by decide +kernel) (by decide +kernel)
theorem dX12_lays_4 : decode cX12_lays 4 = .ok (.iload_n 1, 1) := dk_iload_n_1 (by decide +kernel)
theorem dX12_lays_5 : decode cX12_lays 5 = .ok (.iload_n 2, 1) := dk_iload_n_2 (by decide +kernel)
theorem dX12_lays_6 : decode cX12_lays 6 = .ok (.iastore, 1) := dk_iastore (by decide +kernel)
theorem dX12_lays_7 : decode cX12_lays 7 = .ok (.aload_n 0, 1) := dk_aload_n_0 (by decide +kernel)
theorem dX12_lays_8 : decode cX12_lays 8 = .ok (.getfield 51, 3) := dk_getfield 51 (b1 := 0) (b2 := 51) (by decide +kernel) (by decide +kernel) (by decide +kernel) (by decide +kernel)
theorem dX12_lays_11 : decode cX12_lays 11 = .ok (.iload_n 1, 1) := dk_iload_n_1 (by decide +kernel)
theorem dX12_lays_12 : decode cX12_lays 12 = .ok (.iload_n 2, 1) := dk_iload_n_2 (by decide +kernel)
theorem dX12_lays_13 : decode cX12_lays 13 = .ok (.ifCond .ne 7, 3) := dk_ifCond_ne 7 (b1 := 0) (b2 := 7) (by decide +kernel) (by decide +kernel) (by decide +kernel) (by decide +kernel)
theorem dX12_lays_20 : decode cX12_lays 20 = .ok (.iload_n 3, 1) := dk_iload_n_3 (by decide +kernel)
theorem dX12_lays_21 : decode cX12_lays 21 = .ok (.iastore, 1) := dk_iastore (by decide +kernel)
theorem dX12_lays_22 : decode cX12_lays 22 = .ok (.iconst 0, 1) := dk_iconst_0 (by decide +kernel)
theorem dX12_lays_23 : decode cX12_lays 23 = .ok (.istore 4, 2) := dk_istore 4 (b := 4) (by decide +kernel) (by decide +kernel) (by decide +kernel)
theorem dX12_lays_16 : decode cX12_lays 16 = .ok (.iconst 0, 1) := dk_iconst_0 (by decide +kernel)
theorem dX12_lays_17 : decode cX12_lays 17 = .ok (.goto 4, 3) := dk_goto 4 (b1 := 0) (b2 := 4) (by decide +kernel) (by decide +kernel) (by decide +kernel) (by decide +kernel)
set_option maxRecDepth 20000 in
theorem vX12_lays_0 {E : sm_E} {L : sm_S → Prop} {d : Nat} {x1 : Int32} {x2 : Int32} {x3 : Int32}  {m : sm_M} {Q : sm_M → Prop} (hly : ∀ S, L S → ly S) (hd : 1 ≤ d) 
  (h : (vp_in x1 4) ∧ ∀ m_1 : sm_M, m_1 = sm_wI m 121 x1.toNatClampNeg x2 →
   (¬ x2 = 0 →
      (vp_in x1 4) ∧ ∀ m_3 : sm_M, m_3 = sm_wI m_1 122 x1.toNatClampNeg x3 →
      gX12_lays_25 E L d ([.ref (sm_B E + 109), .int x1, .int x2, .int x3]) x1 0 m_3 Q) ∧
   (x2 = 0 →
      (vp_in x1 4) ∧ ∀ m_6 : sm_M, m_6 = sm_wI m_1 122 x1.toNatClampNeg 0 →
      gX12_lays_25 E L d ([.ref (sm_B E + 109), .int x1, .int x2, .int x3]) x1 0 m_6 Q)) :
  sm_callV E L mX12_lays d 0 0 [.ref (sm_B E + 109), .int x1, .int x2, .int x3] m Q := by
  refine sm_enter (by decide +kernel) (by simp [lg_sl, Value.category]) ?_
  refine sm_aload_n (Y := mX12_lays) (pc := 0) 0 0 rfl rfl dX12_lays_0 ?_
  refine gf_RX12_48 (Y := mX12_lays) (pc := 1) (b := 121) rfl ((lk_109 hly) _) (lf_109_17 hly _) dX12_lays_1 ?_
  refine sm_iload_n (Y := mX12_lays) (pc := 4) 1 1 rfl rfl dX12_lays_4 ?_
  refine sm_iload_n (Y := mX12_lays) (pc := 5) 2 2 rfl rfl dX12_lays_5 ?_
  obtain ⟨hn_2, h⟩ := h
  refine sm_iast (Y := mX12_lays) (pc := 6) (la_121 hly _) hn_2 dX12_lays_6 (fun m_1 em_1 => ?_)
  replace h := h m_1 em_1
  refine sm_aload_n (Y := mX12_lays) (pc := 7) 0 0 rfl rfl dX12_lays_7 ?_
  refine gf_RX12_51 (Y := mX12_lays) (pc := 8) (b := 122) rfl ((lk_109 hly) _) (lf_109_18 hly _) dX12_lays_8 ?_
  refine sm_iload_n (Y := mX12_lays) (pc := 11) 1 1 rfl rfl dX12_lays_11 ?_
  refine sm_iload_n (Y := mX12_lays) (pc := 12) 2 2 rfl rfl dX12_lays_12 ?_
  refine sm_if_ne (Y := mX12_lays) (pc := 13) 20 (by decide) dX12_lays_13 (fun hc => ?_) (fun hc => ?_)
  · replace h := h.1 hc
    refine sm_iload_n (Y := mX12_lays) (pc := 20) 3 3 rfl rfl dX12_lays_20 ?_
    obtain ⟨hn_4, h⟩ := h
    refine sm_iast (Y := mX12_lays) (pc := 21) (la_122 hly _) hn_4 dX12_lays_21 (fun m_3 em_3 => ?_)
    replace h := h m_3 em_3
    refine sm_iconst (Y := mX12_lays) (pc := 22) 0 (by decide) dX12_lays_22 ?_
    refine sm_istore0 (Y := mX12_lays) (pc := 23) [(4, .int 0), (0, .ref (sm_B E + 109)), (1, .int x1), (2, .int x2), (3, .int x3)] 4 (by decide) rfl dX12_lays_23 ?_
    refine sm_sub [1, 2, 0] rfl ?_
    exact h
  · replace h := h.2 hc
    refine sm_iconst (Y := mX12_lays) (pc := 16) 0 (by decide) dX12_lays_16 ?_
    refine sm_goto (Y := mX12_lays) (pc := 17) 21 (by decide) dX12_lays_17 ?_
    obtain ⟨hn_7, h⟩ := h
    refine sm_iast (Y := mX12_lays) (pc := 21) (la_122 hly _) hn_7 dX12_lays_21 (fun m_6 em_6 => ?_)
    replace h := h m_6 em_6
    refine sm_iconst (Y := mX12_lays) (pc := 22) 0 (by decide) dX12_lays_22 ?_
    refine sm_istore0 (Y := mX12_lays) (pc := 23) [(4, .int 0), (0, .ref (sm_B E + 109)), (1, .int x1), (2, .int x2), (3, .int x3)] 4 (by decide) rfl dX12_lays_23 ?_
    refine sm_sub [1, 2, 0] rfl ?_
    exact h
abbrev mX12_sheet : sm_Y := (yX12_sheet, cX12_sheet, 5, (some FieldType.int))
theorem fX12_sheet : sm_mi mX12_sheet RX12 3 := ⟨sm_in 1653 (by decide +kernel) (by decide +kernel), sm_in 1651 (by decide +kernel) (by decide +kernel), sm_in 1652 (by decide +kernel) (by decide +kernel), sm_in 93 (by decide +kernel) (by decide +kernel), rfl, ⟨by decide +kernel, by decide +kernel, by decide +kernel⟩, by decide⟩
def gX12_sheet_67 (E : sm_E) (L : sm_S → Prop) (d : Nat) (vs : List Value) (x1 : Int32) (x2 : Int32) (x3 : Int32) (m : sm_M) (Q : Int32 → sm_M → Prop) : Prop := sm_go E L mX12_sheet d 0 0 vs 67 [(0, .ref (sm_B E + 109)), (1, .int x1), (2, .int x2), (3, .int x3)] [] m 0 0 (sm_Z E L vs 0 0 (sm_QI Q))
def gX12_sheet_33 (E : sm_E) (L : sm_S → Prop) (d : Nat) (vs : List Value) (x1 : Int32) (x2 : Int32) (x3 : Int32) (s0 : Int32) (m : sm_M) (Q : Int32 → sm_M → Prop) : Prop := sm_go E L mX12_sheet d 0 0 vs 33 [(0, .ref (sm_B E + 109)), (1, .int x1), (2, .int x2), (3, .int x3)] [.int s0] m 0 0 (sm_Z E L vs 0 0 (sm_QI Q))
theorem dX12_sheet_67 : decode cX12_sheet 67 = .ok (.iload_n 2, 1) := dk_iload_n_2 (by decide +kernel)
theorem dX12_sheet_68 : decode cX12_sheet 68 = .ok (.ifCond .eq 15, 3) := dk_ifCond_eq 15 (b1 := 0) (b2 := 15) (by decide +kernel) (by decide +kernel) (by decide +kernel) (by decide +kernel)
theorem dX12_sheet_83 : decode cX12_sheet 83 = .ok (.aload_n 0, 1) := dk_aload_n_0 (by decide +kernel)
theorem dX12_sheet_84 : decode cX12_sheet 84 = .ok (.iload_n 1, 1) := dk_iload_n_1 (by decide +kernel)
theorem dX12_sheet_85 : decode cX12_sheet 85 = .ok (.iload_n 2, 1) := dk_iload_n_2 (by decide +kernel)
theorem dX12_sheet_86 : decode cX12_sheet 86 = .ok (.iload_n 3, 1) := dk_iload_n_3 (by decide +kernel)
theorem dX12_sheet_87 : decode cX12_sheet 87 = .ok (.invokevirtual 339, 3) := dk_invokevirtual 339 (b1 := 1) (b2 := 83) (by decide +kernel) (by decide +kernel) (by decide +kernel) (by decide +kernel)
theorem dX12_sheet_90 : decode cX12_sheet 90 = .ok (.iconst 1, 1) := dk_iconst_1 (by decide +kernel)
theorem dX12_sheet_91 : decode cX12_sheet 91 = .ok (.ireturn, 1) := dk_ireturn (by decide +kernel)
theorem dX12_sheet_71 : decode cX12_sheet 71 = .ok (.iload_n 3, 1) := dk_iload_n_3 (by decide +kernel)
theorem dX12_sheet_72 : decode cX12_sheet 72 = .ok (.bipush 48, 2) := dk_bipush 48 (b := 48) (by decide +kernel) (by decide +kernel) (by decide +kernel)
theorem dX12_sheet_74 : decode cX12_sheet 74 = .ok (.if_icmp .le 9, 3) := dk_if_icmp_le 9 (b1 := 0) (b2 := 9) (by decide +kernel) (by decide +kernel) (by decide +kernel) (by decide +kernel)
theorem dX12_sheet_77 : decode cX12_sheet 77 = .ok (.aload_n 0, 1) := dk_aload_n_0 (by decide +kernel)
theorem dX12_sheet_78 : decode cX12_sheet 78 = .ok (.iconst 1, 1) := dk_iconst_1 (by decide +kernel)
theorem dX12_sheet_79 : decode cX12_sheet 79 = .ok (.invokevirtual 194, 3) := dk_invokevirtual 194 (b1 := 0) (b2 := 194) (by decide +kernel) (by decide +kernel) (by decide +kernel) (by decide +kernel)
theorem dX12_sheet_82 : decode cX12_sheet 82 = .ok (.ireturn, 1) := dk_ireturn (by decide +kernel)
set_option maxRecDepth 20000 in
theorem vX12_sheet_67 {E : sm_E} {L : sm_S → Prop} {d : Nat} {vs : List Value} {x1 : Int32} {x2 : Int32} {x3 : Int32}  {m : sm_M} {Q : Int32 → sm_M → Prop} (hly : ∀ S, L S → ly S) (hd : 2 ≤ d) 
  (h : (x2 = 0 →
      sm_callV E L mX12_lays 1 0 0 [.ref (sm_B E + 109), .int x1, .int x2, .int x3] m (fun m_1 =>
      Q 1 m_1)) ∧
   (¬ x2 = 0 →
      (x3 ≤ 48 →
         sm_callV E L mX12_lays 1 0 0 [.ref (sm_B E + 109), .int x1, .int x2, .int x3] m (fun m_2 =>
         Q 1 m_2)) ∧
      (¬ x3 ≤ 48 →
         sm_callI E L mX12_finds 1 0 0 [.ref (sm_B E + 109), .int 1] m (fun r_4 m_3 =>
         Q r_4 m_3)))) :
  gX12_sheet_67 E L d vs x1 x2 x3 m Q := by
  refine sm_iload_n (Y := mX12_sheet) (pc := 67) 2 2 rfl rfl dX12_sheet_67 ?_
  refine sm_if_eq (Y := mX12_sheet) (pc := 68) 83 (by decide) dX12_sheet_68 (fun hc => ?_) (fun hc => ?_)
  · replace h := h.1 hc
    refine sm_aload_n (Y := mX12_sheet) (pc := 83) 0 0 rfl rfl dX12_sheet_83 ?_
    refine sm_iload_n (Y := mX12_sheet) (pc := 84) 1 1 rfl rfl dX12_sheet_84 ?_
    refine sm_iload_n (Y := mX12_sheet) (pc := 85) 2 2 rfl rfl dX12_sheet_85 ?_
    refine sm_iload_n (Y := mX12_sheet) (pc := 86) 3 3 rfl rfl dX12_sheet_86 ?_
    refine sm_iv_V (Y := mX12_sheet) (pc := 87) (As := [.int x1, .int x2, .int x3]) (a := 109) fX12_lays wRX12_339 (lk_109 hly) (by decide) rfl rfl rfl (Nat.le_trans (by decide) hd) (Nat.le_of_ble_eq_true rfl) ⟨Nat.le_refl _, Nat.le_refl _⟩ dX12_sheet_87 rfl (sm_monoV h (fun m_1 h => ?_))
    refine sm_iconst (Y := mX12_sheet) (pc := 90) 1 (by decide) dX12_sheet_90 ?_
    exact sm_iret (Y := mX12_sheet) (pc := 91) rfl rfl rfl dX12_sheet_91 ⟨_, rfl, h⟩
  · replace h := h.2 hc
    refine sm_iload_n (Y := mX12_sheet) (pc := 71) 3 3 rfl rfl dX12_sheet_71 ?_
    refine sm_bipush (Y := mX12_sheet) (pc := 72) 48 (by decide) dX12_sheet_72 ?_
    refine sm_icmp_le (Y := mX12_sheet) (pc := 74) 83 (by decide) dX12_sheet_74 (fun hc => ?_) (fun hc => ?_)
    · replace h := h.1 hc
      refine sm_aload_n (Y := mX12_sheet) (pc := 83) 0 0 rfl rfl dX12_sheet_83 ?_
      refine sm_iload_n (Y := mX12_sheet) (pc := 84) 1 1 rfl rfl dX12_sheet_84 ?_
      refine sm_iload_n (Y := mX12_sheet) (pc := 85) 2 2 rfl rfl dX12_sheet_85 ?_
      refine sm_iload_n (Y := mX12_sheet) (pc := 86) 3 3 rfl rfl dX12_sheet_86 ?_
      refine sm_iv_V (Y := mX12_sheet) (pc := 87) (As := [.int x1, .int x2, .int x3]) (a := 109) fX12_lays wRX12_339 (lk_109 hly) (by decide) rfl rfl rfl (Nat.le_trans (by decide) hd) (Nat.le_of_ble_eq_true rfl) ⟨Nat.le_refl _, Nat.le_refl _⟩ dX12_sheet_87 rfl (sm_monoV h (fun m_2 h => ?_))
      refine sm_iconst (Y := mX12_sheet) (pc := 90) 1 (by decide) dX12_sheet_90 ?_
      exact sm_iret (Y := mX12_sheet) (pc := 91) rfl rfl rfl dX12_sheet_91 ⟨_, rfl, h⟩
    · replace h := h.2 hc
      refine sm_aload_n (Y := mX12_sheet) (pc := 77) 0 0 rfl rfl dX12_sheet_77 ?_
      refine sm_iconst (Y := mX12_sheet) (pc := 78) 1 (by decide) dX12_sheet_78 ?_
      refine sm_iv_I (Y := mX12_sheet) (pc := 79) (As := [.int 1]) (a := 109) fX12_finds wRX12_194 (lk_109 hly) (by decide) rfl rfl rfl (Nat.le_trans (by decide) hd) (Nat.le_of_ble_eq_true rfl) ⟨Nat.le_refl _, Nat.le_refl _⟩ dX12_sheet_79 rfl (sm_monoI h (fun r_4 m_3 h => ?_))
      exact sm_iret (Y := mX12_sheet) (pc := 82) rfl rfl rfl dX12_sheet_82 ⟨_, rfl, h⟩
theorem dX12_sheet_33 : decode cX12_sheet 33 = .ok (.istore 4, 2) := dk_istore 4 (b := 4) (by decide +kernel) (by decide +kernel) (by decide +kernel)
theorem dX12_sheet_35 : decode cX12_sheet 35 = .ok (.iload_n 1, 1) := dk_iload_n_1 (by decide +kernel)
theorem dX12_sheet_36 : decode cX12_sheet 36 = .ok (.invokestatic 336, 3) := dk_invokestatic 336 (b1 := 1) (b2 := 80) (by decide +kernel) (by decide +kernel) (by decide +kernel) (by decide +kernel)
theorem dX12_sheet_39 : decode cX12_sheet 39 = .ok (.ifCond .eq 8, 3) := dk_ifCond_eq 8 (b1 := 0) (b2 := 8) (by decide +kernel) (by decide +kernel) (by decide +kernel) (by decide +kernel)
theorem dX12_sheet_47 : decode cX12_sheet 47 = .ok (.aload_n 0, 1) := dk_aload_n_0 (by decide +kernel)
theorem dX12_sheet_48 : decode cX12_sheet 48 = .ok (.iconst 1, 1) := dk_iconst_1 (by decide +kernel)
theorem dX12_sheet_49 : decode cX12_sheet 49 = .ok (.invokevirtual 194, 3) := dk_invokevirtual 194 (b1 := 0) (b2 := 194) (by decide +kernel) (by decide +kernel) (by decide +kernel) (by decide +kernel)
theorem dX12_sheet_52 : decode cX12_sheet 52 = .ok (.ireturn, 1) := dk_ireturn (by decide +kernel)
theorem dX12_sheet_42 : decode cX12_sheet 42 = .ok (.iload 4, 2) := dk_iload 4 (b := 4) (by decide +kernel) (by decide +kernel) (by decide +kernel)
theorem dX12_sheet_44 : decode cX12_sheet 44 = .ok (.ifCond .ne 9, 3) := dk_ifCond_ne 9 (b1 := 0) (b2 := 9) (by decide +kernel) (by decide +kernel) (by decide +kernel) (by decide +kernel)
theorem dX12_sheet_53 : decode cX12_sheet 53 = .ok (.iload_n 2, 1) := dk_iload_n_2 (by decide +kernel)
theorem dX12_sheet_54 : decode cX12_sheet 54 = .ok (.ifCond .eq 13, 3) := dk_ifCond_eq 13 (b1 := 0) (b2 := 13) (by decide +kernel) (by decide +kernel) (by decide +kernel) (by decide +kernel)
theorem dX12_sheet_57 : decode cX12_sheet 57 = .ok (.iload_n 3, 1) := dk_iload_n_3 (by decide +kernel)
theorem dX12_sheet_58 : decode cX12_sheet 58 = .ok (.ifCond .ge 9, 3) := dk_ifCond_ge 9 (b1 := 0) (b2 := 9) (by decide +kernel) (by decide +kernel) (by decide +kernel) (by decide +kernel)
theorem dX12_sheet_61 : decode cX12_sheet 61 = .ok (.aload_n 0, 1) := dk_aload_n_0 (by decide +kernel)
theorem dX12_sheet_62 : decode cX12_sheet 62 = .ok (.iconst 3, 1) := dk_iconst_3 (by decide +kernel)
theorem dX12_sheet_63 : decode cX12_sheet 63 = .ok (.invokevirtual 194, 3) := dk_invokevirtual 194 (b1 := 0) (b2 := 194) (by decide +kernel) (by decide +kernel) (by decide +kernel) (by decide +kernel)
theorem dX12_sheet_66 : decode cX12_sheet 66 = .ok (.ireturn, 1) := dk_ireturn (by decide +kernel)
set_option maxRecDepth 20000 in
theorem vX12_sheet_33 {E : sm_E} {L : sm_S → Prop} {d : Nat} {vs : List Value} {x1 : Int32} {x2 : Int32} {x3 : Int32} {s0 : Int32}  {m : sm_M} {Q : Int32 → sm_M → Prop} (hly : ∀ S, L S → ly S) (hd : 2 ≤ d) 
  (h : sm_callI E L mX12_isSheet 1 0 0 [.int x1] m (fun r_3 m_2 =>
   (r_3 = 0 →
      sm_callI E L mX12_finds 1 0 0 [.ref (sm_B E + 109), .int 1] m_2 (fun r_5 m_4 =>
      Q r_5 m_4)) ∧
   (¬ r_3 = 0 →
      (¬ s0 = 0 →
         (x2 = 0 →
            gX12_sheet_67 E L d vs x1 x2 x3 m_2 Q) ∧
         (¬ x2 = 0 →
            (0 ≤ x3 →
               gX12_sheet_67 E L d vs x1 x2 x3 m_2 Q) ∧
            (¬ 0 ≤ x3 →
               sm_callI E L mX12_finds 1 0 0 [.ref (sm_B E + 109), .int 3] m_2 (fun r_7 m_6 =>
               Q r_7 m_6)))) ∧
      (s0 = 0 →
         sm_callI E L mX12_finds 1 0 0 [.ref (sm_B E + 109), .int 1] m_2 (fun r_9 m_8 =>
         Q r_9 m_8))))) :
  gX12_sheet_33 E L d vs x1 x2 x3 s0 m Q := by
  refine sm_istore0 (Y := mX12_sheet) (pc := 33) [(4, .int s0), (0, .ref (sm_B E + 109)), (1, .int x1), (2, .int x2), (3, .int x3)] 4 (by decide) rfl dX12_sheet_33 ?_
  refine sm_iload_n (Y := mX12_sheet) (pc := 35) 2 1 rfl rfl dX12_sheet_35 ?_
  refine sm_is_I (Y := mX12_sheet) (pc := 36) (As := [.int x1]) fX12_isSheet wRX12_336 rfl (Nat.le_trans (by decide) hd) (Nat.le_of_ble_eq_true rfl) ⟨Nat.le_refl _, Nat.le_refl _⟩ dX12_sheet_36 rfl (sm_monoI h (fun r_3 m_2 h => ?_))
  refine sm_if_eq (Y := mX12_sheet) (pc := 39) 47 (by decide) dX12_sheet_39 (fun hc => ?_) (fun hc => ?_)
  · replace h := h.1 hc
    refine sm_aload_n (Y := mX12_sheet) (pc := 47) 1 0 rfl rfl dX12_sheet_47 ?_
    refine sm_iconst (Y := mX12_sheet) (pc := 48) 1 (by decide) dX12_sheet_48 ?_
    refine sm_iv_I (Y := mX12_sheet) (pc := 49) (As := [.int 1]) (a := 109) fX12_finds wRX12_194 (lk_109 hly) (by decide) rfl rfl rfl (Nat.le_trans (by decide) hd) (Nat.le_of_ble_eq_true rfl) ⟨Nat.le_refl _, Nat.le_refl _⟩ dX12_sheet_49 rfl (sm_monoI h (fun r_5 m_4 h => ?_))
    exact sm_iret (Y := mX12_sheet) (pc := 52) rfl rfl rfl dX12_sheet_52 ⟨_, rfl, h⟩
  · replace h := h.2 hc
    refine sm_iload (Y := mX12_sheet) (pc := 42) 0 4 rfl dX12_sheet_42 ?_
    refine sm_if_ne (Y := mX12_sheet) (pc := 44) 53 (by decide) dX12_sheet_44 (fun hc => ?_) (fun hc => ?_)
    · replace h := h.1 hc
      refine sm_iload_n (Y := mX12_sheet) (pc := 53) 3 2 rfl rfl dX12_sheet_53 ?_
      refine sm_if_eq (Y := mX12_sheet) (pc := 54) 67 (by decide) dX12_sheet_54 (fun hc => ?_) (fun hc => ?_)
      · replace h := h.1 hc
        refine sm_sub [1, 2, 3, 4] rfl ?_
        exact h
      · replace h := h.2 hc
        refine sm_iload_n (Y := mX12_sheet) (pc := 57) 4 3 rfl rfl dX12_sheet_57 ?_
        refine sm_if_ge (Y := mX12_sheet) (pc := 58) 67 (by decide) dX12_sheet_58 (fun hc => ?_) (fun hc => ?_)
        · replace h := h.1 hc
          refine sm_sub [1, 2, 3, 4] rfl ?_
          exact h
        · replace h := h.2 hc
          refine sm_aload_n (Y := mX12_sheet) (pc := 61) 1 0 rfl rfl dX12_sheet_61 ?_
          refine sm_iconst (Y := mX12_sheet) (pc := 62) 3 (by decide) dX12_sheet_62 ?_
          refine sm_iv_I (Y := mX12_sheet) (pc := 63) (As := [.int 3]) (a := 109) fX12_finds wRX12_194 (lk_109 hly) (by decide) rfl rfl rfl (Nat.le_trans (by decide) hd) (Nat.le_of_ble_eq_true rfl) ⟨Nat.le_refl _, Nat.le_refl _⟩ dX12_sheet_63 rfl (sm_monoI h (fun r_7 m_6 h => ?_))
          exact sm_iret (Y := mX12_sheet) (pc := 66) rfl rfl rfl dX12_sheet_66 ⟨_, rfl, h⟩
    · replace h := h.2 hc
      refine sm_aload_n (Y := mX12_sheet) (pc := 47) 1 0 rfl rfl dX12_sheet_47 ?_
      refine sm_iconst (Y := mX12_sheet) (pc := 48) 1 (by decide) dX12_sheet_48 ?_
      refine sm_iv_I (Y := mX12_sheet) (pc := 49) (As := [.int 1]) (a := 109) fX12_finds wRX12_194 (lk_109 hly) (by decide) rfl rfl rfl (Nat.le_trans (by decide) hd) (Nat.le_of_ble_eq_true rfl) ⟨Nat.le_refl _, Nat.le_refl _⟩ dX12_sheet_49 rfl (sm_monoI h (fun r_9 m_8 h => ?_))
      exact sm_iret (Y := mX12_sheet) (pc := 52) rfl rfl rfl dX12_sheet_52 ⟨_, rfl, h⟩
theorem dX12_sheet_0 : decode cX12_sheet 0 = .ok (.iload_n 2, 1) := dk_iload_n_2 (by decide +kernel)
theorem dX12_sheet_1 : decode cX12_sheet 1 = .ok (.ifCond .eq 27, 3) := dk_ifCond_eq 27 (b1 := 0) (b2 := 27) (by decide +kernel) (by decide +kernel) (by decide +kernel) (by decide +kernel)
theorem dX12_sheet_28 : decode cX12_sheet 28 = .ok (.iconst 1, 1) := dk_iconst_1 (by decide +kernel)
theorem dX12_sheet_29 : decode cX12_sheet 29 = .ok (.goto 4, 3) := dk_goto 4 (b1 := 0) (b2 := 4) (by decide +kernel) (by decide +kernel) (by decide +kernel) (by decide +kernel)
theorem dX12_sheet_4 : decode cX12_sheet 4 = .ok (.iload_n 2, 1) := dk_iload_n_2 (by decide +kernel)
theorem dX12_sheet_5 : decode cX12_sheet 5 = .ok (.bipush 8, 2) := dk_bipush 8 (b := 8) (by decide +kernel) (by decide +kernel) (by decide +kernel)
theorem dX12_sheet_7 : decode cX12_sheet 7 = .ok (.if_icmp .eq 21, 3) := dk_if_icmp_eq 21 (b1 := 0) (b2 := 21) (by decide +kernel) (by decide +kernel) (by decide +kernel) (by decide +kernel)
theorem dX12_sheet_10 : decode cX12_sheet 10 = .ok (.iload_n 2, 1) := dk_iload_n_2 (by decide +kernel)
theorem dX12_sheet_11 : decode cX12_sheet 11 = .ok (.bipush 16, 2) := dk_bipush 16 (b := 16) (by decide +kernel) (by decide +kernel) (by decide +kernel)
theorem dX12_sheet_13 : decode cX12_sheet 13 = .ok (.if_icmp .eq 15, 3) := dk_if_icmp_eq 15 (b1 := 0) (b2 := 15) (by decide +kernel) (by decide +kernel) (by decide +kernel) (by decide +kernel)
theorem dX12_sheet_16 : decode cX12_sheet 16 = .ok (.iload_n 2, 1) := dk_iload_n_2 (by decide +kernel)
theorem dX12_sheet_17 : decode cX12_sheet 17 = .ok (.bipush 32, 2) := dk_bipush 32 (b := 32) (by decide +kernel) (by decide +kernel) (by decide +kernel)
theorem dX12_sheet_19 : decode cX12_sheet 19 = .ok (.if_icmp .eq 9, 3) := dk_if_icmp_eq 9 (b1 := 0) (b2 := 9) (by decide +kernel) (by decide +kernel) (by decide +kernel) (by decide +kernel)
theorem dX12_sheet_22 : decode cX12_sheet 22 = .ok (.iload_n 2, 1) := dk_iload_n_2 (by decide +kernel)
theorem dX12_sheet_23 : decode cX12_sheet 23 = .ok (.bipush 64, 2) := dk_bipush 64 (b := 64) (by decide +kernel) (by decide +kernel) (by decide +kernel)
theorem dX12_sheet_25 : decode cX12_sheet 25 = .ok (.if_icmp .ne 7, 3) := dk_if_icmp_ne 7 (b1 := 0) (b2 := 7) (by decide +kernel) (by decide +kernel) (by decide +kernel) (by decide +kernel)
theorem dX12_sheet_32 : decode cX12_sheet 32 = .ok (.iconst 0, 1) := dk_iconst_0 (by decide +kernel)
set_option maxRecDepth 20000 in
theorem vX12_sheet_0 {E : sm_E} {L : sm_S → Prop} {d : Nat} {x1 : Int32} {x2 : Int32} {x3 : Int32}  {m : sm_M} {Q : Int32 → sm_M → Prop}  (hd : 2 ≤ d) 
  (h : (x2 = 0 →
      gX12_sheet_33 E L d ([.ref (sm_B E + 109), .int x1, .int x2, .int x3]) x1 x2 x3 1 m Q) ∧
   (¬ x2 = 0 →
      (x2 = 8 →
         gX12_sheet_33 E L d ([.ref (sm_B E + 109), .int x1, .int x2, .int x3]) x1 x2 x3 1 m Q) ∧
      (¬ x2 = 8 →
         (x2 = 16 →
            gX12_sheet_33 E L d ([.ref (sm_B E + 109), .int x1, .int x2, .int x3]) x1 x2 x3 1 m Q) ∧
         (¬ x2 = 16 →
            (x2 = 32 →
               gX12_sheet_33 E L d ([.ref (sm_B E + 109), .int x1, .int x2, .int x3]) x1 x2 x3 1 m Q) ∧
            (¬ x2 = 32 →
               (¬ x2 = 64 →
                  gX12_sheet_33 E L d ([.ref (sm_B E + 109), .int x1, .int x2, .int x3]) x1 x2 x3 0 m Q) ∧
               (x2 = 64 →
                  gX12_sheet_33 E L d ([.ref (sm_B E + 109), .int x1, .int x2, .int x3]) x1 x2 x3 1 m Q)))))) :
  sm_callI E L mX12_sheet d 0 0 [.ref (sm_B E + 109), .int x1, .int x2, .int x3] m Q := by
  refine sm_enter (by decide +kernel) (by simp [lg_sl, Value.category]) ?_
  refine sm_iload_n (Y := mX12_sheet) (pc := 0) 2 2 rfl rfl dX12_sheet_0 ?_
  refine sm_if_eq (Y := mX12_sheet) (pc := 1) 28 (by decide) dX12_sheet_1 (fun hc => ?_) (fun hc => ?_)
  · replace h := h.1 hc
    refine sm_iconst (Y := mX12_sheet) (pc := 28) 1 (by decide) dX12_sheet_28 ?_
    refine sm_goto (Y := mX12_sheet) (pc := 29) 33 (by decide) dX12_sheet_29 ?_
    exact h
  · replace h := h.2 hc
    refine sm_iload_n (Y := mX12_sheet) (pc := 4) 2 2 rfl rfl dX12_sheet_4 ?_
    refine sm_bipush (Y := mX12_sheet) (pc := 5) 8 (by decide) dX12_sheet_5 ?_
    refine sm_icmp_eq (Y := mX12_sheet) (pc := 7) 28 (by decide) dX12_sheet_7 (fun hc => ?_) (fun hc => ?_)
    · replace h := h.1 hc
      refine sm_iconst (Y := mX12_sheet) (pc := 28) 1 (by decide) dX12_sheet_28 ?_
      refine sm_goto (Y := mX12_sheet) (pc := 29) 33 (by decide) dX12_sheet_29 ?_
      exact h
    · replace h := h.2 hc
      refine sm_iload_n (Y := mX12_sheet) (pc := 10) 2 2 rfl rfl dX12_sheet_10 ?_
      refine sm_bipush (Y := mX12_sheet) (pc := 11) 16 (by decide) dX12_sheet_11 ?_
      refine sm_icmp_eq (Y := mX12_sheet) (pc := 13) 28 (by decide) dX12_sheet_13 (fun hc => ?_) (fun hc => ?_)
      · replace h := h.1 hc
        refine sm_iconst (Y := mX12_sheet) (pc := 28) 1 (by decide) dX12_sheet_28 ?_
        refine sm_goto (Y := mX12_sheet) (pc := 29) 33 (by decide) dX12_sheet_29 ?_
        exact h
      · replace h := h.2 hc
        refine sm_iload_n (Y := mX12_sheet) (pc := 16) 2 2 rfl rfl dX12_sheet_16 ?_
        refine sm_bipush (Y := mX12_sheet) (pc := 17) 32 (by decide) dX12_sheet_17 ?_
        refine sm_icmp_eq (Y := mX12_sheet) (pc := 19) 28 (by decide) dX12_sheet_19 (fun hc => ?_) (fun hc => ?_)
        · replace h := h.1 hc
          refine sm_iconst (Y := mX12_sheet) (pc := 28) 1 (by decide) dX12_sheet_28 ?_
          refine sm_goto (Y := mX12_sheet) (pc := 29) 33 (by decide) dX12_sheet_29 ?_
          exact h
        · replace h := h.2 hc
          refine sm_iload_n (Y := mX12_sheet) (pc := 22) 2 2 rfl rfl dX12_sheet_22 ?_
          refine sm_bipush (Y := mX12_sheet) (pc := 23) 64 (by decide) dX12_sheet_23 ?_
          refine sm_icmp_ne (Y := mX12_sheet) (pc := 25) 32 (by decide) dX12_sheet_25 (fun hc => ?_) (fun hc => ?_)
          · replace h := h.1 hc
            refine sm_iconst (Y := mX12_sheet) (pc := 32) 0 (by decide) dX12_sheet_32 ?_
            exact h
          · replace h := h.2 hc
            refine sm_iconst (Y := mX12_sheet) (pc := 28) 1 (by decide) dX12_sheet_28 ?_
            refine sm_goto (Y := mX12_sheet) (pc := 29) 33 (by decide) dX12_sheet_29 ?_
            exact h
abbrev mX12_put : sm_Y := (yX12_put, cX12_put, 5, (some FieldType.int))
theorem fX12_put : sm_mi mX12_put RX12 3 := ⟨sm_in 1657 (by decide +kernel) (by decide +kernel), sm_in 1655 (by decide +kernel) (by decide +kernel), sm_in 1656 (by decide +kernel) (by decide +kernel), sm_in 93 (by decide +kernel) (by decide +kernel), rfl, ⟨by decide +kernel, by decide +kernel, by decide +kernel⟩, by decide⟩
theorem dX12_put_0 : decode cX12_put 0 = .ok (.iload_n 1, 1) := dk_iload_n_1 (by decide +kernel)
theorem dX12_put_1 : decode cX12_put 1 = .ok (.invokestatic 336, 3) := dk_invokestatic 336 (b1 := 1) (b2 := 80) (by decide +kernel) (by decide +kernel) (by decide +kernel) (by decide +kernel)
theorem dX12_put_4 : decode cX12_put 4 = .ok (.ifCond .ne 9, 3) := dk_ifCond_ne 9 (b1 := 0) (b2 := 9) (by decide +kernel) (by decide +kernel) (by decide +kernel) (by decide +kernel)
theorem dX12_put_13 : decode cX12_put 13 = .ok (.aload_n 0, 1) := dk_aload_n_0 (by decide +kernel)
theorem dX12_put_14 : decode cX12_put 14 = .ok (.getfield 48, 3) := dk_getfield 48 (b1 := 0) (b2 := 48) (by decide +kernel) (by decide +kernel) (by decide +kernel) (by decide +kernel)
theorem dX12_put_17 : decode cX12_put 17 = .ok (.iload_n 1, 1) := dk_iload_n_1 (by decide +kernel)
theorem dX12_put_18 : decode cX12_put 18 = .ok (.iaload, 1) := dk_iaload (by decide +kernel)
theorem dX12_put_19 : decode cX12_put 19 = .ok (.ifCond .ne 9, 3) := dk_ifCond_ne 9 (b1 := 0) (b2 := 9) (by decide +kernel) (by decide +kernel) (by decide +kernel) (by decide +kernel)
theorem dX12_put_28 : decode cX12_put 28 = .ok (.iload_n 2, 1) := dk_iload_n_2 (by decide +kernel)
theorem dX12_put_29 : decode cX12_put 29 = .ok (.i2l, 1) := dk_i2l (by decide +kernel)
theorem dX12_put_30 : decode cX12_put 30 = .ok (.lconst 0, 1) := dk_lconst_0 (by decide +kernel)
theorem dX12_put_31 : decode cX12_put 31 = .ok (.aload_n 0, 1) := dk_aload_n_0 (by decide +kernel)
theorem dX12_put_32 : decode cX12_put 32 = .ok (.getfield 51, 3) := dk_getfield 51 (b1 := 0) (b2 := 51) (by decide +kernel) (by decide +kernel) (by decide +kernel) (by decide +kernel)
theorem dX12_put_35 : decode cX12_put 35 = .ok (.iload_n 1, 1) := dk_iload_n_1 (by decide +kernel)
theorem dX12_put_36 : decode cX12_put 36 = .ok (.iaload, 1) := dk_iaload (by decide +kernel)
theorem dX12_put_37 : decode cX12_put 37 = .ok (.iconst 1, 1) := dk_iconst_1 (by decide +kernel)
theorem dX12_put_38 : decode cX12_put 38 = .ok (.isub, 1) := dk_isub (by decide +kernel)
theorem dX12_put_39 : decode cX12_put 39 = .ok (.i2l, 1) := dk_i2l (by decide +kernel)
theorem dX12_put_40 : decode cX12_put 40 = .ok (.invokestatic 190, 3) := dk_invokestatic 190 (b1 := 0) (b2 := 190) (by decide +kernel) (by decide +kernel) (by decide +kernel) (by decide +kernel)
theorem dX12_put_43 : decode cX12_put 43 = .ok (.ifCond .ne 9, 3) := dk_ifCond_ne 9 (b1 := 0) (b2 := 9) (by decide +kernel) (by decide +kernel) (by decide +kernel) (by decide +kernel)
theorem dX12_put_52 : decode cX12_put 52 = .ok (.aload_n 0, 1) := dk_aload_n_0 (by decide +kernel)
theorem dX12_put_53 : decode cX12_put 53 = .ok (.getfield 44, 3) := dk_getfield 44 (b1 := 0) (b2 := 44) (by decide +kernel) (by decide +kernel) (by decide +kernel) (by decide +kernel)
theorem dX12_put_56 : decode cX12_put 56 = .ok (.bipush 48, 2) := dk_bipush 48 (b := 48) (by decide +kernel) (by decide +kernel) (by decide +kernel)
theorem dX12_put_58 : decode cX12_put 58 = .ok (.iload_n 1, 1) := dk_iload_n_1 (by decide +kernel)
theorem dX12_put_59 : decode cX12_put 59 = .ok (.imul, 1) := dk_imul (by decide +kernel)
theorem dX12_put_60 : decode cX12_put 60 = .ok (.iload_n 2, 1) := dk_iload_n_2 (by decide +kernel)
theorem dX12_put_61 : decode cX12_put 61 = .ok (.iadd, 1) := dk_iadd (by decide +kernel)
theorem dX12_put_62 : decode cX12_put 62 = .ok (.aload_n 0, 1) := dk_aload_n_0 (by decide +kernel)
theorem dX12_put_63 : decode cX12_put 63 = .ok (.getfield 48, 3) := dk_getfield 48 (b1 := 0) (b2 := 48) (by decide +kernel) (by decide +kernel) (by decide +kernel) (by decide +kernel)
theorem dX12_put_66 : decode cX12_put 66 = .ok (.iload_n 1, 1) := dk_iload_n_1 (by decide +kernel)
theorem dX12_put_67 : decode cX12_put 67 = .ok (.iaload, 1) := dk_iaload (by decide +kernel)
theorem dX12_put_68 : decode cX12_put 68 = .ok (.lload_n 3, 1) := dk_lload_n_3 (by decide +kernel)
theorem wRX12_403 : Cond.methodLink RX12 403 yX12_narrowed ∈ sm_T := sm_in 1658 (by decide +kernel) (by decide +kernel)
theorem dX12_put_69 : decode cX12_put 69 = .ok (.invokestatic 403, 3) := dk_invokestatic 403 (b1 := 1) (b2 := 147) (by decide +kernel) (by decide +kernel) (by decide +kernel) (by decide +kernel)
theorem dX12_put_72 : decode cX12_put 72 = .ok (.lastore, 1) := dk_lastore (by decide +kernel)
theorem dX12_put_73 : decode cX12_put 73 = .ok (.iconst 1, 1) := dk_iconst_1 (by decide +kernel)
theorem dX12_put_74 : decode cX12_put 74 = .ok (.ireturn, 1) := dk_ireturn (by decide +kernel)
theorem dX12_put_46 : decode cX12_put 46 = .ok (.aload_n 0, 1) := dk_aload_n_0 (by decide +kernel)
theorem dX12_put_47 : decode cX12_put 47 = .ok (.iconst 1, 1) := dk_iconst_1 (by decide +kernel)
theorem dX12_put_48 : decode cX12_put 48 = .ok (.invokevirtual 194, 3) := dk_invokevirtual 194 (b1 := 0) (b2 := 194) (by decide +kernel) (by decide +kernel) (by decide +kernel) (by decide +kernel)
theorem dX12_put_51 : decode cX12_put 51 = .ok (.ireturn, 1) := dk_ireturn (by decide +kernel)
theorem dX12_put_22 : decode cX12_put 22 = .ok (.aload_n 0, 1) := dk_aload_n_0 (by decide +kernel)
theorem dX12_put_23 : decode cX12_put 23 = .ok (.iconst 2, 1) := dk_iconst_2 (by decide +kernel)
theorem dX12_put_24 : decode cX12_put 24 = .ok (.invokevirtual 194, 3) := dk_invokevirtual 194 (b1 := 0) (b2 := 194) (by decide +kernel) (by decide +kernel) (by decide +kernel) (by decide +kernel)
theorem dX12_put_27 : decode cX12_put 27 = .ok (.ireturn, 1) := dk_ireturn (by decide +kernel)
theorem dX12_put_7 : decode cX12_put 7 = .ok (.aload_n 0, 1) := dk_aload_n_0 (by decide +kernel)
theorem dX12_put_8 : decode cX12_put 8 = .ok (.iconst 1, 1) := dk_iconst_1 (by decide +kernel)
theorem dX12_put_9 : decode cX12_put 9 = .ok (.invokevirtual 194, 3) := dk_invokevirtual 194 (b1 := 0) (b2 := 194) (by decide +kernel) (by decide +kernel) (by decide +kernel) (by decide +kernel)
theorem dX12_put_12 : decode cX12_put 12 = .ok (.ireturn, 1) := dk_ireturn (by decide +kernel)
set_option maxRecDepth 20000 in
theorem vX12_put_0 {E : sm_E} {L : sm_S → Prop} {d : Nat} {x1 : Int32} {x2 : Int32} {x3 : Int64}  {m : sm_M} {Q : Int32 → sm_M → Prop} (hly : ∀ S, L S → ly S) (hd : 2 ≤ d) 
  (h : sm_callI E L mX12_isSheet 1 0 0 [.int x1] m (fun r_2 m_1 =>
   (¬ r_2 = 0 →
      (vp_in x1 4) ∧ (¬ (m_1.1 121 x1.toNatClampNeg) = 0 →
         (vp_in x1 4) ∧ sm_callI E L mX12_isIn 1 0 0 [.long (x2.toInt64), .long 0, .long (((m_1.1 122 x1.toNatClampNeg) - 1).toInt64)] m_1 (fun r_6 m_5 =>
         (¬ r_6 = 0 →
            (vp_in x1 4) ∧ sm_callJ E L mX12_narrowed 1 0 0 [.int (m_5.1 121 x1.toNatClampNeg), .long x3] m_5 (fun r_9 m_8 =>
            (vp_in (((48 : Int32) * x1) + x2) 192) ∧ ∀ m_10 : sm_M, m_10 = sm_wJ m_8 120 (((48 : Int32) * x1) + x2).toNatClampNeg r_9 →
            Q 1 m_10)) ∧
         (r_6 = 0 →
            sm_callI E L mX12_finds 1 0 0 [.ref (sm_B E + 109), .int 1] m_5 (fun r_13 m_12 =>
            Q r_13 m_12)))) ∧
      ((m_1.1 121 x1.toNatClampNeg) = 0 →
         sm_callI E L mX12_finds 1 0 0 [.ref (sm_B E + 109), .int 2] m_1 (fun r_15 m_14 =>
         Q r_15 m_14))) ∧
   (r_2 = 0 →
      sm_callI E L mX12_finds 1 0 0 [.ref (sm_B E + 109), .int 1] m_1 (fun r_17 m_16 =>
      Q r_17 m_16)))) :
  sm_callI E L mX12_put d 0 0 [.ref (sm_B E + 109), .int x1, .int x2, .long x3] m Q := by
  refine sm_enter (by decide +kernel) (by simp [lg_sl, Value.category]) ?_
  refine sm_iload_n (Y := mX12_put) (pc := 0) 1 1 rfl rfl dX12_put_0 ?_
  refine sm_is_I (Y := mX12_put) (pc := 1) (As := [.int x1]) fX12_isSheet wRX12_336 rfl (Nat.le_trans (by decide) hd) (Nat.le_of_ble_eq_true rfl) ⟨Nat.le_refl _, Nat.le_refl _⟩ dX12_put_1 rfl (sm_monoI h (fun r_2 m_1 h => ?_))
  refine sm_if_ne (Y := mX12_put) (pc := 4) 13 (by decide) dX12_put_4 (fun hc => ?_) (fun hc => ?_)
  · replace h := h.1 hc
    refine sm_aload_n (Y := mX12_put) (pc := 13) 0 0 rfl rfl dX12_put_13 ?_
    refine gf_RX12_48 (Y := mX12_put) (pc := 14) (b := 121) rfl ((lk_109 hly) _) (lf_109_17 hly _) dX12_put_14 ?_
    refine sm_iload_n (Y := mX12_put) (pc := 17) 1 1 rfl rfl dX12_put_17 ?_
    obtain ⟨hn_3, h⟩ := h
    refine sm_iald (Y := mX12_put) (pc := 18) (la_121 hly _) hn_3 dX12_put_18 ?_
    refine sm_if_ne (Y := mX12_put) (pc := 19) 28 (by decide) dX12_put_19 (fun hc => ?_) (fun hc => ?_)
    · replace h := h.1 hc
      refine sm_iload_n (Y := mX12_put) (pc := 28) 2 2 rfl rfl dX12_put_28 ?_
      refine sm_i2l (Y := mX12_put) (pc := 29) dX12_put_29 ?_
      refine sm_lconst (Y := mX12_put) (pc := 30) 0 (by decide) dX12_put_30 ?_
      refine sm_aload_n (Y := mX12_put) (pc := 31) 0 0 rfl rfl dX12_put_31 ?_
      refine gf_RX12_51 (Y := mX12_put) (pc := 32) (b := 122) rfl ((lk_109 hly) _) (lf_109_18 hly _) dX12_put_32 ?_
      refine sm_iload_n (Y := mX12_put) (pc := 35) 1 1 rfl rfl dX12_put_35 ?_
      obtain ⟨hn_4, h⟩ := h
      refine sm_iald (Y := mX12_put) (pc := 36) (la_122 hly _) hn_4 dX12_put_36 ?_
      refine sm_iconst (Y := mX12_put) (pc := 37) 1 (by decide) dX12_put_37 ?_
      refine sm_isub (Y := mX12_put) (pc := 38) dX12_put_38 ?_
      refine sm_i2l (Y := mX12_put) (pc := 39) dX12_put_39 ?_
      refine sm_is_I (Y := mX12_put) (pc := 40) (As := [.long (x2.toInt64), .long 0, .long (((m_1.1 122 x1.toNatClampNeg) - 1).toInt64)]) fX12_isIn wRX12_190 rfl (Nat.le_trans (by decide) hd) (Nat.le_of_ble_eq_true rfl) ⟨Nat.le_refl _, Nat.le_refl _⟩ dX12_put_40 rfl (sm_monoI h (fun r_6 m_5 h => ?_))
      refine sm_if_ne (Y := mX12_put) (pc := 43) 52 (by decide) dX12_put_43 (fun hc => ?_) (fun hc => ?_)
      · replace h := h.1 hc
        refine sm_aload_n (Y := mX12_put) (pc := 52) 0 0 rfl rfl dX12_put_52 ?_
        refine gf_RX12_44 (Y := mX12_put) (pc := 53) (b := 120) rfl ((lk_109 hly) _) (lf_109_16 hly _) dX12_put_53 ?_
        refine sm_bipush (Y := mX12_put) (pc := 56) 48 (by decide) dX12_put_56 ?_
        refine sm_iload_n (Y := mX12_put) (pc := 58) 1 1 rfl rfl dX12_put_58 ?_
        refine sm_imul (Y := mX12_put) (pc := 59) dX12_put_59 ?_
        refine sm_iload_n (Y := mX12_put) (pc := 60) 2 2 rfl rfl dX12_put_60 ?_
        refine sm_iadd (Y := mX12_put) (pc := 61) dX12_put_61 ?_
        refine sm_aload_n (Y := mX12_put) (pc := 62) 0 0 rfl rfl dX12_put_62 ?_
        refine gf_RX12_48 (Y := mX12_put) (pc := 63) (b := 121) rfl ((lk_109 hly) _) (lf_109_17 hly _) dX12_put_63 ?_
        refine sm_iload_n (Y := mX12_put) (pc := 66) 1 1 rfl rfl dX12_put_66 ?_
        obtain ⟨hn_7, h⟩ := h
        refine sm_iald (Y := mX12_put) (pc := 67) (la_121 hly _) hn_7 dX12_put_67 ?_
        refine sm_lload_n (Y := mX12_put) (pc := 68) 3 3 rfl rfl dX12_put_68 ?_
        refine sm_is_J (Y := mX12_put) (pc := 69) (As := [.int (m_5.1 121 x1.toNatClampNeg), .long x3]) fX12_narrowed wRX12_403 rfl (Nat.le_trans (by decide) hd) (Nat.le_of_ble_eq_true rfl) ⟨Nat.le_refl _, Nat.le_refl _⟩ dX12_put_69 rfl (sm_monoJ h (fun r_9 m_8 h => ?_))
        obtain ⟨hn_11, h⟩ := h
        refine sm_last (Y := mX12_put) (pc := 72) (la_120 hly _) hn_11 dX12_put_72 (fun m_10 em_10 => ?_)
        replace h := h m_10 em_10
        refine sm_iconst (Y := mX12_put) (pc := 73) 1 (by decide) dX12_put_73 ?_
        exact sm_iret (Y := mX12_put) (pc := 74) rfl rfl rfl dX12_put_74 ⟨_, rfl, h⟩
      · replace h := h.2 hc
        refine sm_aload_n (Y := mX12_put) (pc := 46) 0 0 rfl rfl dX12_put_46 ?_
        refine sm_iconst (Y := mX12_put) (pc := 47) 1 (by decide) dX12_put_47 ?_
        refine sm_iv_I (Y := mX12_put) (pc := 48) (As := [.int 1]) (a := 109) fX12_finds wRX12_194 (lk_109 hly) (by decide) rfl rfl rfl (Nat.le_trans (by decide) hd) (Nat.le_of_ble_eq_true rfl) ⟨Nat.le_refl _, Nat.le_refl _⟩ dX12_put_48 rfl (sm_monoI h (fun r_13 m_12 h => ?_))
        exact sm_iret (Y := mX12_put) (pc := 51) rfl rfl rfl dX12_put_51 ⟨_, rfl, h⟩
    · replace h := h.2 hc
      refine sm_aload_n (Y := mX12_put) (pc := 22) 0 0 rfl rfl dX12_put_22 ?_
      refine sm_iconst (Y := mX12_put) (pc := 23) 2 (by decide) dX12_put_23 ?_
      refine sm_iv_I (Y := mX12_put) (pc := 24) (As := [.int 2]) (a := 109) fX12_finds wRX12_194 (lk_109 hly) (by decide) rfl rfl rfl (Nat.le_trans (by decide) hd) (Nat.le_of_ble_eq_true rfl) ⟨Nat.le_refl _, Nat.le_refl _⟩ dX12_put_24 rfl (sm_monoI h (fun r_15 m_14 h => ?_))
      exact sm_iret (Y := mX12_put) (pc := 27) rfl rfl rfl dX12_put_27 ⟨_, rfl, h⟩
  · replace h := h.2 hc
    refine sm_aload_n (Y := mX12_put) (pc := 7) 0 0 rfl rfl dX12_put_7 ?_
    refine sm_iconst (Y := mX12_put) (pc := 8) 1 (by decide) dX12_put_8 ?_
    refine sm_iv_I (Y := mX12_put) (pc := 9) (As := [.int 1]) (a := 109) fX12_finds wRX12_194 (lk_109 hly) (by decide) rfl rfl rfl (Nat.le_trans (by decide) hd) (Nat.le_of_ble_eq_true rfl) ⟨Nat.le_refl _, Nat.le_refl _⟩ dX12_put_9 rfl (sm_monoI h (fun r_17 m_16 h => ?_))
    exact sm_iret (Y := mX12_put) (pc := 12) rfl rfl rfl dX12_put_12 ⟨_, rfl, h⟩
abbrev mX12_of : sm_Y := (yX12_of, cX12_of, 3, (some FieldType.long))
theorem fX12_of : sm_mi mX12_of RX12 2 := ⟨sm_in 1664 (by decide +kernel) (by decide +kernel), sm_in 1662 (by decide +kernel) (by decide +kernel), sm_in 1663 (by decide +kernel) (by decide +kernel), sm_in 93 (by decide +kernel) (by decide +kernel), rfl, ⟨by decide +kernel, by decide +kernel, by decide +kernel⟩, by decide⟩
theorem dX12_of_0 : decode cX12_of 0 = .ok (.iload_n 1, 1) := dk_iload_n_1 (by decide +kernel)
theorem dX12_of_1 : decode cX12_of 1 = .ok (.invokestatic 336, 3) := dk_invokestatic 336 (b1 := 1) (b2 := 80) (by decide +kernel) (by decide +kernel) (by decide +kernel) (by decide +kernel)
theorem dX12_of_4 : decode cX12_of 4 = .ok (.ifCond .ne 9, 3) := dk_ifCond_ne 9 (b1 := 0) (b2 := 9) (by decide +kernel) (by decide +kernel) (by decide +kernel) (by decide +kernel)
theorem dX12_of_13 : decode cX12_of 13 = .ok (.aload_n 0, 1) := dk_aload_n_0 (by decide +kernel)
theorem dX12_of_14 : decode cX12_of 14 = .ok (.getfield 48, 3) := dk_getfield 48 (b1 := 0) (b2 := 48) (by decide +kernel) (by decide +kernel) (by decide +kernel) (by decide +kernel)
theorem dX12_of_17 : decode cX12_of 17 = .ok (.iload_n 1, 1) := dk_iload_n_1 (by decide +kernel)
theorem dX12_of_18 : decode cX12_of 18 = .ok (.iaload, 1) := dk_iaload (by decide +kernel)
theorem dX12_of_19 : decode cX12_of 19 = .ok (.ifCond .ne 9, 3) := dk_ifCond_ne 9 (b1 := 0) (b2 := 9) (by decide +kernel) (by decide +kernel) (by decide +kernel) (by decide +kernel)
theorem dX12_of_28 : decode cX12_of 28 = .ok (.iload_n 2, 1) := dk_iload_n_2 (by decide +kernel)
theorem dX12_of_29 : decode cX12_of 29 = .ok (.i2l, 1) := dk_i2l (by decide +kernel)
theorem dX12_of_30 : decode cX12_of 30 = .ok (.lconst 0, 1) := dk_lconst_0 (by decide +kernel)
theorem dX12_of_31 : decode cX12_of 31 = .ok (.aload_n 0, 1) := dk_aload_n_0 (by decide +kernel)
theorem dX12_of_32 : decode cX12_of 32 = .ok (.getfield 51, 3) := dk_getfield 51 (b1 := 0) (b2 := 51) (by decide +kernel) (by decide +kernel) (by decide +kernel) (by decide +kernel)
theorem dX12_of_35 : decode cX12_of 35 = .ok (.iload_n 1, 1) := dk_iload_n_1 (by decide +kernel)
theorem dX12_of_36 : decode cX12_of 36 = .ok (.iaload, 1) := dk_iaload (by decide +kernel)
theorem dX12_of_37 : decode cX12_of 37 = .ok (.iconst 1, 1) := dk_iconst_1 (by decide +kernel)
theorem dX12_of_38 : decode cX12_of 38 = .ok (.isub, 1) := dk_isub (by decide +kernel)
theorem dX12_of_39 : decode cX12_of 39 = .ok (.i2l, 1) := dk_i2l (by decide +kernel)
theorem dX12_of_40 : decode cX12_of 40 = .ok (.invokestatic 190, 3) := dk_invokestatic 190 (b1 := 0) (b2 := 190) (by decide +kernel) (by decide +kernel) (by decide +kernel) (by decide +kernel)
theorem dX12_of_43 : decode cX12_of 43 = .ok (.ifCond .eq 17, 3) := dk_ifCond_eq 17 (b1 := 0) (b2 := 17) (by decide +kernel) (by decide +kernel) (by decide +kernel) (by decide +kernel)
theorem dX12_of_60 : decode cX12_of 60 = .ok (.aload_n 0, 1) := dk_aload_n_0 (by decide +kernel)
theorem dX12_of_61 : decode cX12_of 61 = .ok (.iconst 1, 1) := dk_iconst_1 (by decide +kernel)
theorem wRX12_407 : Cond.methodLink RX12 407 yX12_findsFar ∈ sm_T := sm_in 1665 (by decide +kernel) (by decide +kernel)
theorem dX12_of_62 : decode cX12_of 62 = .ok (.invokevirtual 407, 3) := dk_invokevirtual 407 (b1 := 1) (b2 := 151) (by decide +kernel) (by decide +kernel) (by decide +kernel) (by decide +kernel)
theorem dX12_of_65 : decode cX12_of 65 = .ok (.lreturn, 1) := dk_lreturn (by decide +kernel)
theorem dX12_of_46 : decode cX12_of 46 = .ok (.aload_n 0, 1) := dk_aload_n_0 (by decide +kernel)
theorem dX12_of_47 : decode cX12_of 47 = .ok (.getfield 44, 3) := dk_getfield 44 (b1 := 0) (b2 := 44) (by decide +kernel) (by decide +kernel) (by decide +kernel) (by decide +kernel)
theorem dX12_of_50 : decode cX12_of 50 = .ok (.bipush 48, 2) := dk_bipush 48 (b := 48) (by decide +kernel) (by decide +kernel) (by decide +kernel)
theorem dX12_of_52 : decode cX12_of 52 = .ok (.iload_n 1, 1) := dk_iload_n_1 (by decide +kernel)
theorem dX12_of_53 : decode cX12_of 53 = .ok (.imul, 1) := dk_imul (by decide +kernel)
theorem dX12_of_54 : decode cX12_of 54 = .ok (.iload_n 2, 1) := dk_iload_n_2 (by decide +kernel)
theorem dX12_of_55 : decode cX12_of 55 = .ok (.iadd, 1) := dk_iadd (by decide +kernel)
theorem dX12_of_56 : decode cX12_of 56 = .ok (.laload, 1) := dk_laload (by decide +kernel)
theorem dX12_of_57 : decode cX12_of 57 = .ok (.goto 8, 3) := dk_goto 8 (b1 := 0) (b2 := 8) (by decide +kernel) (by decide +kernel) (by decide +kernel) (by decide +kernel)
theorem dX12_of_22 : decode cX12_of 22 = .ok (.aload_n 0, 1) := dk_aload_n_0 (by decide +kernel)
theorem dX12_of_23 : decode cX12_of 23 = .ok (.iconst 2, 1) := dk_iconst_2 (by decide +kernel)
theorem dX12_of_24 : decode cX12_of 24 = .ok (.invokevirtual 407, 3) := dk_invokevirtual 407 (b1 := 1) (b2 := 151) (by decide +kernel) (by decide +kernel) (by decide +kernel) (by decide +kernel)
theorem dX12_of_27 : decode cX12_of 27 = .ok (.lreturn, 1) := dk_lreturn (by decide +kernel)
theorem dX12_of_7 : decode cX12_of 7 = .ok (.aload_n 0, 1) := dk_aload_n_0 (by decide +kernel)
theorem dX12_of_8 : decode cX12_of 8 = .ok (.iconst 1, 1) := dk_iconst_1 (by decide +kernel)
theorem dX12_of_9 : decode cX12_of 9 = .ok (.invokevirtual 407, 3) := dk_invokevirtual 407 (b1 := 1) (b2 := 151) (by decide +kernel) (by decide +kernel) (by decide +kernel) (by decide +kernel)
theorem dX12_of_12 : decode cX12_of 12 = .ok (.lreturn, 1) := dk_lreturn (by decide +kernel)
set_option maxRecDepth 20000 in
theorem vX12_of_0 {E : sm_E} {L : sm_S → Prop} {d : Nat} {x1 : Int32} {x2 : Int32}  {m : sm_M} {Q : Int64 → sm_M → Prop} (hly : ∀ S, L S → ly S) (hd : 2 ≤ d) 
  (h : sm_callI E L mX12_isSheet 1 0 0 [.int x1] m (fun r_2 m_1 =>
   (¬ r_2 = 0 →
      (vp_in x1 4) ∧ (¬ (m_1.1 121 x1.toNatClampNeg) = 0 →
         (vp_in x1 4) ∧ sm_callI E L mX12_isIn 1 0 0 [.long (x2.toInt64), .long 0, .long (((m_1.1 122 x1.toNatClampNeg) - 1).toInt64)] m_1 (fun r_6 m_5 =>
         (r_6 = 0 →
            sm_callJ E L mX12_findsFar 1 0 0 [.ref (sm_B E + 109), .int 1] m_5 (fun r_8 m_7 =>
            Q r_8 m_7)) ∧
         (¬ r_6 = 0 →
            (vp_in (((48 : Int32) * x1) + x2) 192) ∧ Q (m_5.2.1 120 (((48 : Int32) * x1) + x2).toNatClampNeg) m_5))) ∧
      ((m_1.1 121 x1.toNatClampNeg) = 0 →
         sm_callJ E L mX12_findsFar 1 0 0 [.ref (sm_B E + 109), .int 2] m_1 (fun r_11 m_10 =>
         Q r_11 m_10))) ∧
   (r_2 = 0 →
      sm_callJ E L mX12_findsFar 1 0 0 [.ref (sm_B E + 109), .int 1] m_1 (fun r_13 m_12 =>
      Q r_13 m_12)))) :
  sm_callJ E L mX12_of d 0 0 [.ref (sm_B E + 109), .int x1, .int x2] m Q := by
  refine sm_enter (by decide +kernel) (by simp [lg_sl, Value.category]) ?_
  refine sm_iload_n (Y := mX12_of) (pc := 0) 1 1 rfl rfl dX12_of_0 ?_
  refine sm_is_I (Y := mX12_of) (pc := 1) (As := [.int x1]) fX12_isSheet wRX12_336 rfl (Nat.le_trans (by decide) hd) (Nat.le_of_ble_eq_true rfl) ⟨Nat.le_refl _, Nat.le_refl _⟩ dX12_of_1 rfl (sm_monoI h (fun r_2 m_1 h => ?_))
  refine sm_if_ne (Y := mX12_of) (pc := 4) 13 (by decide) dX12_of_4 (fun hc => ?_) (fun hc => ?_)
  · replace h := h.1 hc
    refine sm_aload_n (Y := mX12_of) (pc := 13) 0 0 rfl rfl dX12_of_13 ?_
    refine gf_RX12_48 (Y := mX12_of) (pc := 14) (b := 121) rfl ((lk_109 hly) _) (lf_109_17 hly _) dX12_of_14 ?_
    refine sm_iload_n (Y := mX12_of) (pc := 17) 1 1 rfl rfl dX12_of_17 ?_
    obtain ⟨hn_3, h⟩ := h
    refine sm_iald (Y := mX12_of) (pc := 18) (la_121 hly _) hn_3 dX12_of_18 ?_
    refine sm_if_ne (Y := mX12_of) (pc := 19) 28 (by decide) dX12_of_19 (fun hc => ?_) (fun hc => ?_)
    · replace h := h.1 hc
      refine sm_iload_n (Y := mX12_of) (pc := 28) 2 2 rfl rfl dX12_of_28 ?_
      refine sm_i2l (Y := mX12_of) (pc := 29) dX12_of_29 ?_
      refine sm_lconst (Y := mX12_of) (pc := 30) 0 (by decide) dX12_of_30 ?_
      refine sm_aload_n (Y := mX12_of) (pc := 31) 0 0 rfl rfl dX12_of_31 ?_
      refine gf_RX12_51 (Y := mX12_of) (pc := 32) (b := 122) rfl ((lk_109 hly) _) (lf_109_18 hly _) dX12_of_32 ?_
      refine sm_iload_n (Y := mX12_of) (pc := 35) 1 1 rfl rfl dX12_of_35 ?_
      obtain ⟨hn_4, h⟩ := h
      refine sm_iald (Y := mX12_of) (pc := 36) (la_122 hly _) hn_4 dX12_of_36 ?_
      refine sm_iconst (Y := mX12_of) (pc := 37) 1 (by decide) dX12_of_37 ?_
      refine sm_isub (Y := mX12_of) (pc := 38) dX12_of_38 ?_
      refine sm_i2l (Y := mX12_of) (pc := 39) dX12_of_39 ?_
      refine sm_is_I (Y := mX12_of) (pc := 40) (As := [.long (x2.toInt64), .long 0, .long (((m_1.1 122 x1.toNatClampNeg) - 1).toInt64)]) fX12_isIn wRX12_190 rfl (Nat.le_trans (by decide) hd) (Nat.le_of_ble_eq_true rfl) ⟨Nat.le_refl _, Nat.le_refl _⟩ dX12_of_40 rfl (sm_monoI h (fun r_6 m_5 h => ?_))
      refine sm_if_eq (Y := mX12_of) (pc := 43) 60 (by decide) dX12_of_43 (fun hc => ?_) (fun hc => ?_)
      · replace h := h.1 hc
        refine sm_aload_n (Y := mX12_of) (pc := 60) 0 0 rfl rfl dX12_of_60 ?_
        refine sm_iconst (Y := mX12_of) (pc := 61) 1 (by decide) dX12_of_61 ?_
        refine sm_iv_J (Y := mX12_of) (pc := 62) (As := [.int 1]) (a := 109) fX12_findsFar wRX12_407 (lk_109 hly) (by decide) rfl rfl rfl (Nat.le_trans (by decide) hd) (Nat.le_of_ble_eq_true rfl) ⟨Nat.le_refl _, Nat.le_refl _⟩ dX12_of_62 rfl (sm_monoJ h (fun r_8 m_7 h => ?_))
        exact sm_lret (Y := mX12_of) (pc := 65) rfl rfl rfl dX12_of_65 ⟨_, rfl, h⟩
      · replace h := h.2 hc
        refine sm_aload_n (Y := mX12_of) (pc := 46) 0 0 rfl rfl dX12_of_46 ?_
        refine gf_RX12_44 (Y := mX12_of) (pc := 47) (b := 120) rfl ((lk_109 hly) _) (lf_109_16 hly _) dX12_of_47 ?_
        refine sm_bipush (Y := mX12_of) (pc := 50) 48 (by decide) dX12_of_50 ?_
        refine sm_iload_n (Y := mX12_of) (pc := 52) 1 1 rfl rfl dX12_of_52 ?_
        refine sm_imul (Y := mX12_of) (pc := 53) dX12_of_53 ?_
        refine sm_iload_n (Y := mX12_of) (pc := 54) 2 2 rfl rfl dX12_of_54 ?_
        refine sm_iadd (Y := mX12_of) (pc := 55) dX12_of_55 ?_
        obtain ⟨hn_9, h⟩ := h
        refine sm_lald (Y := mX12_of) (pc := 56) (la_120 hly _) hn_9 dX12_of_56 ?_
        refine sm_goto (Y := mX12_of) (pc := 57) 65 (by decide) dX12_of_57 ?_
        exact sm_lret (Y := mX12_of) (pc := 65) rfl rfl rfl dX12_of_65 ⟨_, rfl, h⟩
    · replace h := h.2 hc
      refine sm_aload_n (Y := mX12_of) (pc := 22) 0 0 rfl rfl dX12_of_22 ?_
      refine sm_iconst (Y := mX12_of) (pc := 23) 2 (by decide) dX12_of_23 ?_
      refine sm_iv_J (Y := mX12_of) (pc := 24) (As := [.int 2]) (a := 109) fX12_findsFar wRX12_407 (lk_109 hly) (by decide) rfl rfl rfl (Nat.le_trans (by decide) hd) (Nat.le_of_ble_eq_true rfl) ⟨Nat.le_refl _, Nat.le_refl _⟩ dX12_of_24 rfl (sm_monoJ h (fun r_11 m_10 h => ?_))
      exact sm_lret (Y := mX12_of) (pc := 27) rfl rfl rfl dX12_of_27 ⟨_, rfl, h⟩
  · replace h := h.2 hc
    refine sm_aload_n (Y := mX12_of) (pc := 7) 0 0 rfl rfl dX12_of_7 ?_
    refine sm_iconst (Y := mX12_of) (pc := 8) 1 (by decide) dX12_of_8 ?_
    refine sm_iv_J (Y := mX12_of) (pc := 9) (As := [.int 1]) (a := 109) fX12_findsFar wRX12_407 (lk_109 hly) (by decide) rfl rfl rfl (Nat.le_trans (by decide) hd) (Nat.le_of_ble_eq_true rfl) ⟨Nat.le_refl _, Nat.le_refl _⟩ dX12_of_9 rfl (sm_monoJ h (fun r_13 m_12 h => ?_))
    exact sm_lret (Y := mX12_of) (pc := 12) rfl rfl rfl dX12_of_12 ⟨_, rfl, h⟩
abbrev mX12_shift : sm_Y := (yX12_shift, cX12_shift, 7, (some FieldType.int))
theorem fX12_shift : sm_mi mX12_shift RX12 5 := ⟨sm_in 1673 (by decide +kernel) (by decide +kernel), sm_in 1671 (by decide +kernel) (by decide +kernel), sm_in 1672 (by decide +kernel) (by decide +kernel), sm_in 93 (by decide +kernel) (by decide +kernel), rfl, ⟨by decide +kernel, by decide +kernel, by decide +kernel⟩, by decide⟩
def gX12_shift_152 (E : sm_E) (L : sm_S → Prop) (d : Nat) (vs : List Value) (x3 : Int32) (x4 : Int32) (x5 : Int32) (x6 : Int32) (m : sm_M) (Q : Int32 → sm_M → Prop) : Prop := sm_go E L mX12_shift d 0 0 vs 152 [(0, .ref (sm_B E + 109)), (3, .int x3), (4, .int x4), (5, .int x5), (6, .int x6)] [] m 0 0 (sm_Z E L vs 0 0 (sm_QI Q))
def gX12_shift_115 (E : sm_E) (L : sm_S → Prop) (d : Nat) (vs : List Value) (x1 : Int32) (x2 : Int32) (x3 : Int32) (x4 : Int32) (x5 : Int32) (x6 : Int32) (m : sm_M) (Q : Int32 → sm_M → Prop) : Prop := sm_go E L mX12_shift d 0 0 vs 115 [(0, .ref (sm_B E + 109)), (1, .int x1), (2, .int x2), (3, .int x3), (4, .int x4), (5, .int x5), (6, .int x6)] [] m 0 0 (sm_Z E L vs 0 0 (sm_QI Q))
theorem dX12_shift_152 : decode cX12_shift 152 = .ok (.iload 6, 2) := dk_iload 6 (b := 6) (by decide +kernel) (by decide +kernel) (by decide +kernel)
theorem dX12_shift_154 : decode cX12_shift 154 = .ok (.iload 5, 2) := dk_iload 5 (b := 5) (by decide +kernel) (by decide +kernel) (by decide +kernel)
theorem dX12_shift_156 : decode cX12_shift 156 = .ok (.if_icmp .ge 31, 3) := dk_if_icmp_ge 31 (b1 := 0) (b2 := 31) (by decide +kernel) (by decide +kernel) (by decide +kernel) (by decide +kernel)
theorem dX12_shift_187 : decode cX12_shift 187 = .ok (.iload 5, 2) := dk_iload 5 (b := 5) (by decide +kernel) (by decide +kernel) (by decide +kernel)
theorem dX12_shift_189 : decode cX12_shift 189 = .ok (.ireturn, 1) := dk_ireturn (by decide +kernel)
theorem dX12_shift_159 : decode cX12_shift 159 = .ok (.aload_n 0, 1) := dk_aload_n_0 (by decide +kernel)
theorem dX12_shift_160 : decode cX12_shift 160 = .ok (.getfield 44, 3) := dk_getfield 44 (b1 := 0) (b2 := 44) (by decide +kernel) (by decide +kernel) (by decide +kernel) (by decide +kernel)
theorem dX12_shift_163 : decode cX12_shift 163 = .ok (.bipush 48, 2) := dk_bipush 48 (b := 48) (by decide +kernel) (by decide +kernel) (by decide +kernel)
theorem dX12_shift_165 : decode cX12_shift 165 = .ok (.iload_n 3, 1) := dk_iload_n_3 (by decide +kernel)
theorem dX12_shift_166 : decode cX12_shift 166 = .ok (.imul, 1) := dk_imul (by decide +kernel)
theorem dX12_shift_167 : decode cX12_shift 167 = .ok (.iload 4, 2) := dk_iload 4 (b := 4) (by decide +kernel) (by decide +kernel) (by decide +kernel)
theorem dX12_shift_169 : decode cX12_shift 169 = .ok (.iadd, 1) := dk_iadd (by decide +kernel)
theorem dX12_shift_170 : decode cX12_shift 170 = .ok (.iload 6, 2) := dk_iload 6 (b := 6) (by decide +kernel) (by decide +kernel) (by decide +kernel)
theorem dX12_shift_172 : decode cX12_shift 172 = .ok (.iadd, 1) := dk_iadd (by decide +kernel)
theorem dX12_shift_173 : decode cX12_shift 173 = .ok (.aload_n 0, 1) := dk_aload_n_0 (by decide +kernel)
theorem dX12_shift_174 : decode cX12_shift 174 = .ok (.getfield 127, 3) := dk_getfield 127 (b1 := 0) (b2 := 127) (by decide +kernel) (by decide +kernel) (by decide +kernel) (by decide +kernel)
theorem dX12_shift_177 : decode cX12_shift 177 = .ok (.iload 6, 2) := dk_iload 6 (b := 6) (by decide +kernel) (by decide +kernel) (by decide +kernel)
theorem dX12_shift_179 : decode cX12_shift 179 = .ok (.laload, 1) := dk_laload (by decide +kernel)
theorem dX12_shift_180 : decode cX12_shift 180 = .ok (.lastore, 1) := dk_lastore (by decide +kernel)
theorem dX12_shift_181 : decode cX12_shift 181 = .ok (.iinc 6 1, 3) := dk_iinc 6 1 (b1 := 6) (b2 := 1) (by decide +kernel) (by decide +kernel) (by decide +kernel) (by decide +kernel) (by decide +kernel)
theorem dX12_shift_184 : decode cX12_shift 184 = .ok (.goto (-32), 3) := dk_goto (-32) (b1 := 255) (b2 := 224) (by decide +kernel) (by decide +kernel) (by decide +kernel) (by decide +kernel)
set_option maxRecDepth 20000 in
theorem vX12_shift_152 {E : sm_E} {L : sm_S → Prop} {d : Nat} {vs : List Value} {x3 : Int32} {x4 : Int32} {x5 : Int32} {x6 : Int32}  {m : sm_M} {Q : Int32 → sm_M → Prop} (hly : ∀ S, L S → ly S) (hd : 2 ≤ d) 
  (h : (x5 ≤ x6 →
      Q x5 m) ∧
   (¬ x5 ≤ x6 →
      (vp_in x6 48) ∧ (vp_in ((((48 : Int32) * x3) + x4) + x6) 192) ∧ ∀ m_2 : sm_M, m_2 = sm_wJ m 120 ((((48 : Int32) * x3) + x4) + x6).toNatClampNeg (m.2.1 147 x6.toNatClampNeg) →
      ∀ x6_4 : Int32, x6_4 = x6 + 1 →
      gX12_shift_152 E L d vs x3 x4 x5 x6_4 m_2 Q)) :
  gX12_shift_152 E L d vs x3 x4 x5 x6 m Q := by
  refine sm_iload (Y := mX12_shift) (pc := 152) 4 6 rfl dX12_shift_152 ?_
  refine sm_iload (Y := mX12_shift) (pc := 154) 3 5 rfl dX12_shift_154 ?_
  refine sm_icmp_ge (Y := mX12_shift) (pc := 156) 187 (by decide) dX12_shift_156 (fun hc => ?_) (fun hc => ?_)
  · replace h := h.1 hc
    refine sm_iload (Y := mX12_shift) (pc := 187) 3 5 rfl dX12_shift_187 ?_
    exact sm_iret (Y := mX12_shift) (pc := 189) rfl rfl rfl dX12_shift_189 ⟨_, rfl, h⟩
  · replace h := h.2 hc
    refine sm_aload_n (Y := mX12_shift) (pc := 159) 0 0 rfl rfl dX12_shift_159 ?_
    refine gf_RX12_44 (Y := mX12_shift) (pc := 160) (b := 120) rfl ((lk_109 hly) _) (lf_109_16 hly _) dX12_shift_160 ?_
    refine sm_bipush (Y := mX12_shift) (pc := 163) 48 (by decide) dX12_shift_163 ?_
    refine sm_iload_n (Y := mX12_shift) (pc := 165) 1 3 rfl rfl dX12_shift_165 ?_
    refine sm_imul (Y := mX12_shift) (pc := 166) dX12_shift_166 ?_
    refine sm_iload (Y := mX12_shift) (pc := 167) 2 4 rfl dX12_shift_167 ?_
    refine sm_iadd (Y := mX12_shift) (pc := 169) dX12_shift_169 ?_
    refine sm_iload (Y := mX12_shift) (pc := 170) 4 6 rfl dX12_shift_170 ?_
    refine sm_iadd (Y := mX12_shift) (pc := 172) dX12_shift_172 ?_
    refine sm_aload_n (Y := mX12_shift) (pc := 173) 0 0 rfl rfl dX12_shift_173 ?_
    refine gf_RX12_127 (Y := mX12_shift) (pc := 174) (b := 147) rfl ((lk_109 hly) _) (lf_109_65 hly _) dX12_shift_174 ?_
    refine sm_iload (Y := mX12_shift) (pc := 177) 4 6 rfl dX12_shift_177 ?_
    obtain ⟨hn_1, h⟩ := h
    refine sm_lald (Y := mX12_shift) (pc := 179) (la_147 hly _) hn_1 dX12_shift_179 ?_
    obtain ⟨hn_3, h⟩ := h
    refine sm_last (Y := mX12_shift) (pc := 180) (la_120 hly _) hn_3 dX12_shift_180 (fun m_2 em_2 => ?_)
    replace h := h m_2 em_2
    refine sm_iinc (Y := mX12_shift) (pc := 181) (fun y => [(6, .int y), (0, .ref (sm_B E + 109)), (3, .int x3), (4, .int x4), (5, .int x5)]) 4 6 rfl (by decide) (fun _ => rfl) dX12_shift_181 (fun x6_4 ex6_4 => ?_)
    replace h := h x6_4 ex6_4
    refine sm_goto (Y := mX12_shift) (pc := 184) 152 (by decide) dX12_shift_184 ?_
    refine sm_sub [1, 2, 3, 4, 0] rfl ?_
    exact h
theorem dX12_shift_115 : decode cX12_shift 115 = .ok (.iload 6, 2) := dk_iload 6 (b := 6) (by decide +kernel) (by decide +kernel) (by decide +kernel)
theorem dX12_shift_117 : decode cX12_shift 117 = .ok (.iload 5, 2) := dk_iload 5 (b := 5) (by decide +kernel) (by decide +kernel) (by decide +kernel)
theorem dX12_shift_119 : decode cX12_shift 119 = .ok (.if_icmp .ge 30, 3) := dk_if_icmp_ge 30 (b1 := 0) (b2 := 30) (by decide +kernel) (by decide +kernel) (by decide +kernel) (by decide +kernel)
theorem dX12_shift_149 : decode cX12_shift 149 = .ok (.iconst 0, 1) := dk_iconst_0 (by decide +kernel)
theorem dX12_shift_150 : decode cX12_shift 150 = .ok (.istore 6, 2) := dk_istore 6 (b := 6) (by decide +kernel) (by decide +kernel) (by decide +kernel)
theorem dX12_shift_122 : decode cX12_shift 122 = .ok (.aload_n 0, 1) := dk_aload_n_0 (by decide +kernel)
theorem dX12_shift_123 : decode cX12_shift 123 = .ok (.getfield 127, 3) := dk_getfield 127 (b1 := 0) (b2 := 127) (by decide +kernel) (by decide +kernel) (by decide +kernel) (by decide +kernel)
theorem dX12_shift_126 : decode cX12_shift 126 = .ok (.iload 6, 2) := dk_iload 6 (b := 6) (by decide +kernel) (by decide +kernel) (by decide +kernel)
theorem dX12_shift_128 : decode cX12_shift 128 = .ok (.aload_n 0, 1) := dk_aload_n_0 (by decide +kernel)
theorem dX12_shift_129 : decode cX12_shift 129 = .ok (.getfield 44, 3) := dk_getfield 44 (b1 := 0) (b2 := 44) (by decide +kernel) (by decide +kernel) (by decide +kernel) (by decide +kernel)
theorem dX12_shift_132 : decode cX12_shift 132 = .ok (.bipush 48, 2) := dk_bipush 48 (b := 48) (by decide +kernel) (by decide +kernel) (by decide +kernel)
theorem dX12_shift_134 : decode cX12_shift 134 = .ok (.iload_n 1, 1) := dk_iload_n_1 (by decide +kernel)
theorem dX12_shift_135 : decode cX12_shift 135 = .ok (.imul, 1) := dk_imul (by decide +kernel)
theorem dX12_shift_136 : decode cX12_shift 136 = .ok (.iload_n 2, 1) := dk_iload_n_2 (by decide +kernel)
theorem dX12_shift_137 : decode cX12_shift 137 = .ok (.iadd, 1) := dk_iadd (by decide +kernel)
theorem dX12_shift_138 : decode cX12_shift 138 = .ok (.iload 6, 2) := dk_iload 6 (b := 6) (by decide +kernel) (by decide +kernel) (by decide +kernel)
theorem dX12_shift_140 : decode cX12_shift 140 = .ok (.iadd, 1) := dk_iadd (by decide +kernel)
theorem dX12_shift_141 : decode cX12_shift 141 = .ok (.laload, 1) := dk_laload (by decide +kernel)
theorem dX12_shift_142 : decode cX12_shift 142 = .ok (.lastore, 1) := dk_lastore (by decide +kernel)
theorem dX12_shift_143 : decode cX12_shift 143 = .ok (.iinc 6 1, 3) := dk_iinc 6 1 (b1 := 6) (b2 := 1) (by decide +kernel) (by decide +kernel) (by decide +kernel) (by decide +kernel) (by decide +kernel)
theorem dX12_shift_146 : decode cX12_shift 146 = .ok (.goto (-31), 3) := dk_goto (-31) (b1 := 255) (b2 := 225) (by decide +kernel) (by decide +kernel) (by decide +kernel) (by decide +kernel)
set_option maxRecDepth 20000 in
theorem vX12_shift_115 {E : sm_E} {L : sm_S → Prop} {d : Nat} {vs : List Value} {x1 : Int32} {x2 : Int32} {x3 : Int32} {x4 : Int32} {x5 : Int32} {x6 : Int32}  {m : sm_M} {Q : Int32 → sm_M → Prop} (hly : ∀ S, L S → ly S) (hd : 2 ≤ d) 
  (h : (x5 ≤ x6 →
      gX12_shift_152 E L d vs x3 x4 x5 0 m Q) ∧
   (¬ x5 ≤ x6 →
      (vp_in ((((48 : Int32) * x1) + x2) + x6) 192) ∧ (vp_in x6 48) ∧ ∀ m_3 : sm_M, m_3 = sm_wJ m 147 x6.toNatClampNeg (m.2.1 120 ((((48 : Int32) * x1) + x2) + x6).toNatClampNeg) →
      ∀ x6_5 : Int32, x6_5 = x6 + 1 →
      gX12_shift_115 E L d vs x1 x2 x3 x4 x5 x6_5 m_3 Q)) :
  gX12_shift_115 E L d vs x1 x2 x3 x4 x5 x6 m Q := by
  refine sm_iload (Y := mX12_shift) (pc := 115) 6 6 rfl dX12_shift_115 ?_
  refine sm_iload (Y := mX12_shift) (pc := 117) 5 5 rfl dX12_shift_117 ?_
  refine sm_icmp_ge (Y := mX12_shift) (pc := 119) 149 (by decide) dX12_shift_119 (fun hc => ?_) (fun hc => ?_)
  · replace h := h.1 hc
    refine sm_iconst (Y := mX12_shift) (pc := 149) 0 (by decide) dX12_shift_149 ?_
    refine sm_istore0 (Y := mX12_shift) (pc := 150) [(6, .int 0), (0, .ref (sm_B E + 109)), (1, .int x1), (2, .int x2), (3, .int x3), (4, .int x4), (5, .int x5)] 6 (by decide) rfl dX12_shift_150 ?_
    refine sm_sub [1, 4, 5, 6, 0] rfl ?_
    exact h
  · replace h := h.2 hc
    refine sm_aload_n (Y := mX12_shift) (pc := 122) 0 0 rfl rfl dX12_shift_122 ?_
    refine gf_RX12_127 (Y := mX12_shift) (pc := 123) (b := 147) rfl ((lk_109 hly) _) (lf_109_65 hly _) dX12_shift_123 ?_
    refine sm_iload (Y := mX12_shift) (pc := 126) 6 6 rfl dX12_shift_126 ?_
    refine sm_aload_n (Y := mX12_shift) (pc := 128) 0 0 rfl rfl dX12_shift_128 ?_
    refine gf_RX12_44 (Y := mX12_shift) (pc := 129) (b := 120) rfl ((lk_109 hly) _) (lf_109_16 hly _) dX12_shift_129 ?_
    refine sm_bipush (Y := mX12_shift) (pc := 132) 48 (by decide) dX12_shift_132 ?_
    refine sm_iload_n (Y := mX12_shift) (pc := 134) 1 1 rfl rfl dX12_shift_134 ?_
    refine sm_imul (Y := mX12_shift) (pc := 135) dX12_shift_135 ?_
    refine sm_iload_n (Y := mX12_shift) (pc := 136) 2 2 rfl rfl dX12_shift_136 ?_
    refine sm_iadd (Y := mX12_shift) (pc := 137) dX12_shift_137 ?_
    refine sm_iload (Y := mX12_shift) (pc := 138) 6 6 rfl dX12_shift_138 ?_
    refine sm_iadd (Y := mX12_shift) (pc := 140) dX12_shift_140 ?_
    obtain ⟨hn_2, h⟩ := h
    refine sm_lald (Y := mX12_shift) (pc := 141) (la_120 hly _) hn_2 dX12_shift_141 ?_
    obtain ⟨hn_4, h⟩ := h
    refine sm_last (Y := mX12_shift) (pc := 142) (la_147 hly _) hn_4 dX12_shift_142 (fun m_3 em_3 => ?_)
    replace h := h m_3 em_3
    refine sm_iinc (Y := mX12_shift) (pc := 143) (fun y => [(6, .int y), (0, .ref (sm_B E + 109)), (1, .int x1), (2, .int x2), (3, .int x3), (4, .int x4), (5, .int x5)]) 6 6 rfl (by decide) (fun _ => rfl) dX12_shift_143 (fun x6_5 ex6_5 => ?_)
    replace h := h x6_5 ex6_5
    refine sm_goto (Y := mX12_shift) (pc := 146) 115 (by decide) dX12_shift_146 ?_
    refine sm_sub [1, 2, 3, 4, 5, 6, 0] rfl ?_
    exact h
theorem dX12_shift_0 : decode cX12_shift 0 = .ok (.iload_n 1, 1) := dk_iload_n_1 (by decide +kernel)
theorem dX12_shift_1 : decode cX12_shift 1 = .ok (.invokestatic 336, 3) := dk_invokestatic 336 (b1 := 1) (b2 := 80) (by decide +kernel) (by decide +kernel) (by decide +kernel) (by decide +kernel)
theorem dX12_shift_4 : decode cX12_shift 4 = .ok (.ifCond .eq 10, 3) := dk_ifCond_eq 10 (b1 := 0) (b2 := 10) (by decide +kernel) (by decide +kernel) (by decide +kernel) (by decide +kernel)
theorem dX12_shift_14 : decode cX12_shift 14 = .ok (.aload_n 0, 1) := dk_aload_n_0 (by decide +kernel)
theorem dX12_shift_15 : decode cX12_shift 15 = .ok (.iconst 1, 1) := dk_iconst_1 (by decide +kernel)
theorem dX12_shift_16 : decode cX12_shift 16 = .ok (.invokevirtual 194, 3) := dk_invokevirtual 194 (b1 := 0) (b2 := 194) (by decide +kernel) (by decide +kernel) (by decide +kernel) (by decide +kernel)
theorem dX12_shift_19 : decode cX12_shift 19 = .ok (.ireturn, 1) := dk_ireturn (by decide +kernel)
theorem dX12_shift_7 : decode cX12_shift 7 = .ok (.iload_n 3, 1) := dk_iload_n_3 (by decide +kernel)
theorem dX12_shift_8 : decode cX12_shift 8 = .ok (.invokestatic 336, 3) := dk_invokestatic 336 (b1 := 1) (b2 := 80) (by decide +kernel) (by decide +kernel) (by decide +kernel) (by decide +kernel)
theorem dX12_shift_11 : decode cX12_shift 11 = .ok (.ifCond .ne 9, 3) := dk_ifCond_ne 9 (b1 := 0) (b2 := 9) (by decide +kernel) (by decide +kernel) (by decide +kernel) (by decide +kernel)
theorem dX12_shift_20 : decode cX12_shift 20 = .ok (.aload_n 0, 1) := dk_aload_n_0 (by decide +kernel)
theorem dX12_shift_21 : decode cX12_shift 21 = .ok (.getfield 48, 3) := dk_getfield 48 (b1 := 0) (b2 := 48) (by decide +kernel) (by decide +kernel) (by decide +kernel) (by decide +kernel)
theorem dX12_shift_24 : decode cX12_shift 24 = .ok (.iload_n 1, 1) := dk_iload_n_1 (by decide +kernel)
theorem dX12_shift_25 : decode cX12_shift 25 = .ok (.iaload, 1) := dk_iaload (by decide +kernel)
theorem dX12_shift_26 : decode cX12_shift 26 = .ok (.ifCond .eq 12, 3) := dk_ifCond_eq 12 (b1 := 0) (b2 := 12) (by decide +kernel) (by decide +kernel) (by decide +kernel) (by decide +kernel)
theorem dX12_shift_38 : decode cX12_shift 38 = .ok (.aload_n 0, 1) := dk_aload_n_0 (by decide +kernel)
theorem dX12_shift_39 : decode cX12_shift 39 = .ok (.iconst 2, 1) := dk_iconst_2 (by decide +kernel)
theorem dX12_shift_40 : decode cX12_shift 40 = .ok (.invokevirtual 194, 3) := dk_invokevirtual 194 (b1 := 0) (b2 := 194) (by decide +kernel) (by decide +kernel) (by decide +kernel) (by decide +kernel)
theorem dX12_shift_43 : decode cX12_shift 43 = .ok (.ireturn, 1) := dk_ireturn (by decide +kernel)
theorem dX12_shift_29 : decode cX12_shift 29 = .ok (.aload_n 0, 1) := dk_aload_n_0 (by decide +kernel)
theorem dX12_shift_30 : decode cX12_shift 30 = .ok (.getfield 48, 3) := dk_getfield 48 (b1 := 0) (b2 := 48) (by decide +kernel) (by decide +kernel) (by decide +kernel) (by decide +kernel)
theorem dX12_shift_33 : decode cX12_shift 33 = .ok (.iload_n 3, 1) := dk_iload_n_3 (by decide +kernel)
theorem dX12_shift_34 : decode cX12_shift 34 = .ok (.iaload, 1) := dk_iaload (by decide +kernel)
theorem dX12_shift_35 : decode cX12_shift 35 = .ok (.ifCond .ne 9, 3) := dk_ifCond_ne 9 (b1 := 0) (b2 := 9) (by decide +kernel) (by decide +kernel) (by decide +kernel) (by decide +kernel)
theorem dX12_shift_44 : decode cX12_shift 44 = .ok (.aload_n 0, 1) := dk_aload_n_0 (by decide +kernel)
theorem dX12_shift_45 : decode cX12_shift 45 = .ok (.getfield 48, 3) := dk_getfield 48 (b1 := 0) (b2 := 48) (by decide +kernel) (by decide +kernel) (by decide +kernel) (by decide +kernel)
theorem dX12_shift_48 : decode cX12_shift 48 = .ok (.iload_n 1, 1) := dk_iload_n_1 (by decide +kernel)
theorem dX12_shift_49 : decode cX12_shift 49 = .ok (.iaload, 1) := dk_iaload (by decide +kernel)
theorem dX12_shift_50 : decode cX12_shift 50 = .ok (.aload_n 0, 1) := dk_aload_n_0 (by decide +kernel)
theorem dX12_shift_51 : decode cX12_shift 51 = .ok (.getfield 48, 3) := dk_getfield 48 (b1 := 0) (b2 := 48) (by decide +kernel) (by decide +kernel) (by decide +kernel) (by decide +kernel)
theorem dX12_shift_54 : decode cX12_shift 54 = .ok (.iload_n 3, 1) := dk_iload_n_3 (by decide +kernel)
theorem dX12_shift_55 : decode cX12_shift 55 = .ok (.iaload, 1) := dk_iaload (by decide +kernel)
theorem dX12_shift_56 : decode cX12_shift 56 = .ok (.if_icmp .eq 9, 3) := dk_if_icmp_eq 9 (b1 := 0) (b2 := 9) (by decide +kernel) (by decide +kernel) (by decide +kernel) (by decide +kernel)
theorem dX12_shift_65 : decode cX12_shift 65 = .ok (.iload 5, 2) := dk_iload 5 (b := 5) (by decide +kernel) (by decide +kernel) (by decide +kernel)
theorem dX12_shift_67 : decode cX12_shift 67 = .ok (.ifCond .lt 39, 3) := dk_ifCond_lt 39 (b1 := 0) (b2 := 39) (by decide +kernel) (by decide +kernel) (by decide +kernel) (by decide +kernel)
theorem dX12_shift_106 : decode cX12_shift 106 = .ok (.aload_n 0, 1) := dk_aload_n_0 (by decide +kernel)
theorem dX12_shift_107 : decode cX12_shift 107 = .ok (.iconst 1, 1) := dk_iconst_1 (by decide +kernel)
theorem dX12_shift_108 : decode cX12_shift 108 = .ok (.invokevirtual 194, 3) := dk_invokevirtual 194 (b1 := 0) (b2 := 194) (by decide +kernel) (by decide +kernel) (by decide +kernel) (by decide +kernel)
theorem dX12_shift_111 : decode cX12_shift 111 = .ok (.ireturn, 1) := dk_ireturn (by decide +kernel)
theorem dX12_shift_70 : decode cX12_shift 70 = .ok (.iload_n 2, 1) := dk_iload_n_2 (by decide +kernel)
theorem dX12_shift_71 : decode cX12_shift 71 = .ok (.ifCond .lt 35, 3) := dk_ifCond_lt 35 (b1 := 0) (b2 := 35) (by decide +kernel) (by decide +kernel) (by decide +kernel) (by decide +kernel)
theorem dX12_shift_74 : decode cX12_shift 74 = .ok (.iload 4, 2) := dk_iload 4 (b := 4) (by decide +kernel) (by decide +kernel) (by decide +kernel)
theorem dX12_shift_76 : decode cX12_shift 76 = .ok (.ifCond .lt 30, 3) := dk_ifCond_lt 30 (b1 := 0) (b2 := 30) (by decide +kernel) (by decide +kernel) (by decide +kernel) (by decide +kernel)
theorem dX12_shift_79 : decode cX12_shift 79 = .ok (.iload_n 2, 1) := dk_iload_n_2 (by decide +kernel)
theorem dX12_shift_80 : decode cX12_shift 80 = .ok (.aload_n 0, 1) := dk_aload_n_0 (by decide +kernel)
theorem dX12_shift_81 : decode cX12_shift 81 = .ok (.getfield 51, 3) := dk_getfield 51 (b1 := 0) (b2 := 51) (by decide +kernel) (by decide +kernel) (by decide +kernel) (by decide +kernel)
theorem dX12_shift_84 : decode cX12_shift 84 = .ok (.iload_n 1, 1) := dk_iload_n_1 (by decide +kernel)
theorem dX12_shift_85 : decode cX12_shift 85 = .ok (.iaload, 1) := dk_iaload (by decide +kernel)
theorem dX12_shift_86 : decode cX12_shift 86 = .ok (.iload 5, 2) := dk_iload 5 (b := 5) (by decide +kernel) (by decide +kernel) (by decide +kernel)
theorem dX12_shift_88 : decode cX12_shift 88 = .ok (.isub, 1) := dk_isub (by decide +kernel)
theorem dX12_shift_89 : decode cX12_shift 89 = .ok (.if_icmp .gt 17, 3) := dk_if_icmp_gt 17 (b1 := 0) (b2 := 17) (by decide +kernel) (by decide +kernel) (by decide +kernel) (by decide +kernel)
theorem dX12_shift_92 : decode cX12_shift 92 = .ok (.iload 4, 2) := dk_iload 4 (b := 4) (by decide +kernel) (by decide +kernel) (by decide +kernel)
theorem dX12_shift_94 : decode cX12_shift 94 = .ok (.aload_n 0, 1) := dk_aload_n_0 (by decide +kernel)
theorem dX12_shift_95 : decode cX12_shift 95 = .ok (.getfield 51, 3) := dk_getfield 51 (b1 := 0) (b2 := 51) (by decide +kernel) (by decide +kernel) (by decide +kernel) (by decide +kernel)
theorem dX12_shift_98 : decode cX12_shift 98 = .ok (.iload_n 3, 1) := dk_iload_n_3 (by decide +kernel)
theorem dX12_shift_99 : decode cX12_shift 99 = .ok (.iaload, 1) := dk_iaload (by decide +kernel)
theorem dX12_shift_100 : decode cX12_shift 100 = .ok (.iload 5, 2) := dk_iload 5 (b := 5) (by decide +kernel) (by decide +kernel) (by decide +kernel)
theorem dX12_shift_102 : decode cX12_shift 102 = .ok (.isub, 1) := dk_isub (by decide +kernel)
theorem dX12_shift_103 : decode cX12_shift 103 = .ok (.if_icmp .le 9, 3) := dk_if_icmp_le 9 (b1 := 0) (b2 := 9) (by decide +kernel) (by decide +kernel) (by decide +kernel) (by decide +kernel)
theorem dX12_shift_112 : decode cX12_shift 112 = .ok (.iconst 0, 1) := dk_iconst_0 (by decide +kernel)
theorem dX12_shift_113 : decode cX12_shift 113 = .ok (.istore 6, 2) := dk_istore 6 (b := 6) (by decide +kernel) (by decide +kernel) (by decide +kernel)
theorem dX12_shift_59 : decode cX12_shift 59 = .ok (.aload_n 0, 1) := dk_aload_n_0 (by decide +kernel)
theorem dX12_shift_60 : decode cX12_shift 60 = .ok (.iconst 5, 1) := dk_iconst_5 (by decide +kernel)
theorem dX12_shift_61 : decode cX12_shift 61 = .ok (.invokevirtual 194, 3) := dk_invokevirtual 194 (b1 := 0) (b2 := 194) (by decide +kernel) (by decide +kernel) (by decide +kernel) (by decide +kernel)
theorem dX12_shift_64 : decode cX12_shift 64 = .ok (.ireturn, 1) := dk_ireturn (by decide +kernel)
set_option maxRecDepth 20000 in
theorem vX12_shift_0 {E : sm_E} {L : sm_S → Prop} {d : Nat} {x1 : Int32} {x2 : Int32} {x3 : Int32} {x4 : Int32} {x5 : Int32}  {m : sm_M} {Q : Int32 → sm_M → Prop} (hly : ∀ S, L S → ly S) (hd : 2 ≤ d) 
  (h : sm_callI E L mX12_isSheet 1 0 0 [.int x1] m (fun r_2 m_1 =>
   (r_2 = 0 →
      sm_callI E L mX12_finds 1 0 0 [.ref (sm_B E + 109), .int 1] m_1 (fun r_4 m_3 =>
      Q r_4 m_3)) ∧
   (¬ r_2 = 0 →
      sm_callI E L mX12_isSheet 1 0 0 [.int x3] m_1 (fun r_6 m_5 =>
      (¬ r_6 = 0 →
         (vp_in x1 4) ∧ ((m_5.1 121 x1.toNatClampNeg) = 0 →
            sm_callI E L mX12_finds 1 0 0 [.ref (sm_B E + 109), .int 2] m_5 (fun r_9 m_8 =>
            Q r_9 m_8)) ∧
         (¬ (m_5.1 121 x1.toNatClampNeg) = 0 →
            (vp_in x3 4) ∧ (¬ (m_5.1 121 x3.toNatClampNeg) = 0 →
               (vp_in x1 4) ∧ (vp_in x3 4) ∧ ((m_5.1 121 x1.toNatClampNeg) = (m_5.1 121 x3.toNatClampNeg) →
                  (x5 < 0 →
                     sm_callI E L mX12_finds 1 0 0 [.ref (sm_B E + 109), .int 1] m_5 (fun r_14 m_13 =>
                     Q r_14 m_13)) ∧
                  (¬ x5 < 0 →
                     (x2 < 0 →
                        sm_callI E L mX12_finds 1 0 0 [.ref (sm_B E + 109), .int 1] m_5 (fun r_16 m_15 =>
                        Q r_16 m_15)) ∧
                     (¬ x2 < 0 →
                        (x4 < 0 →
                           sm_callI E L mX12_finds 1 0 0 [.ref (sm_B E + 109), .int 1] m_5 (fun r_18 m_17 =>
                           Q r_18 m_17)) ∧
                        (¬ x4 < 0 →
                           (vp_in x1 4) ∧ (((m_5.1 122 x1.toNatClampNeg) - x5) < x2 →
                              sm_callI E L mX12_finds 1 0 0 [.ref (sm_B E + 109), .int 1] m_5 (fun r_21 m_20 =>
                              Q r_21 m_20)) ∧
                           (¬ ((m_5.1 122 x1.toNatClampNeg) - x5) < x2 →
                              (vp_in x3 4) ∧ (x4 ≤ ((m_5.1 122 x3.toNatClampNeg) - x5) →
                                 gX12_shift_115 E L d ([.ref (sm_B E + 109), .int x1, .int x2, .int x3, .int x4, .int x5]) x1 x2 x3 x4 x5 0 m_5 Q) ∧
                              (¬ x4 ≤ ((m_5.1 122 x3.toNatClampNeg) - x5) →
                                 sm_callI E L mX12_finds 1 0 0 [.ref (sm_B E + 109), .int 1] m_5 (fun r_25 m_24 =>
                                 Q r_25 m_24))))))) ∧
               (¬ (m_5.1 121 x1.toNatClampNeg) = (m_5.1 121 x3.toNatClampNeg) →
                  sm_callI E L mX12_finds 1 0 0 [.ref (sm_B E + 109), .int 5] m_5 (fun r_27 m_26 =>
                  Q r_27 m_26))) ∧
            ((m_5.1 121 x3.toNatClampNeg) = 0 →
               sm_callI E L mX12_finds 1 0 0 [.ref (sm_B E + 109), .int 2] m_5 (fun r_29 m_28 =>
               Q r_29 m_28)))) ∧
      (r_6 = 0 →
         sm_callI E L mX12_finds 1 0 0 [.ref (sm_B E + 109), .int 1] m_5 (fun r_31 m_30 =>
         Q r_31 m_30)))))) :
  sm_callI E L mX12_shift d 0 0 [.ref (sm_B E + 109), .int x1, .int x2, .int x3, .int x4, .int x5] m Q := by
  refine sm_enter (by decide +kernel) (by simp [lg_sl, Value.category]) ?_
  refine sm_iload_n (Y := mX12_shift) (pc := 0) 1 1 rfl rfl dX12_shift_0 ?_
  refine sm_is_I (Y := mX12_shift) (pc := 1) (As := [.int x1]) fX12_isSheet wRX12_336 rfl (Nat.le_trans (by decide) hd) (Nat.le_of_ble_eq_true rfl) ⟨Nat.le_refl _, Nat.le_refl _⟩ dX12_shift_1 rfl (sm_monoI h (fun r_2 m_1 h => ?_))
  refine sm_if_eq (Y := mX12_shift) (pc := 4) 14 (by decide) dX12_shift_4 (fun hc => ?_) (fun hc => ?_)
  · replace h := h.1 hc
    refine sm_aload_n (Y := mX12_shift) (pc := 14) 0 0 rfl rfl dX12_shift_14 ?_
    refine sm_iconst (Y := mX12_shift) (pc := 15) 1 (by decide) dX12_shift_15 ?_
    refine sm_iv_I (Y := mX12_shift) (pc := 16) (As := [.int 1]) (a := 109) fX12_finds wRX12_194 (lk_109 hly) (by decide) rfl rfl rfl (Nat.le_trans (by decide) hd) (Nat.le_of_ble_eq_true rfl) ⟨Nat.le_refl _, Nat.le_refl _⟩ dX12_shift_16 rfl (sm_monoI h (fun r_4 m_3 h => ?_))
    exact sm_iret (Y := mX12_shift) (pc := 19) rfl rfl rfl dX12_shift_19 ⟨_, rfl, h⟩
  · replace h := h.2 hc
    refine sm_iload_n (Y := mX12_shift) (pc := 7) 3 3 rfl rfl dX12_shift_7 ?_
    refine sm_is_I (Y := mX12_shift) (pc := 8) (As := [.int x3]) fX12_isSheet wRX12_336 rfl (Nat.le_trans (by decide) hd) (Nat.le_of_ble_eq_true rfl) ⟨Nat.le_refl _, Nat.le_refl _⟩ dX12_shift_8 rfl (sm_monoI h (fun r_6 m_5 h => ?_))
    refine sm_if_ne (Y := mX12_shift) (pc := 11) 20 (by decide) dX12_shift_11 (fun hc => ?_) (fun hc => ?_)
    · replace h := h.1 hc
      refine sm_aload_n (Y := mX12_shift) (pc := 20) 0 0 rfl rfl dX12_shift_20 ?_
      refine gf_RX12_48 (Y := mX12_shift) (pc := 21) (b := 121) rfl ((lk_109 hly) _) (lf_109_17 hly _) dX12_shift_21 ?_
      refine sm_iload_n (Y := mX12_shift) (pc := 24) 1 1 rfl rfl dX12_shift_24 ?_
      obtain ⟨hn_7, h⟩ := h
      refine sm_iald (Y := mX12_shift) (pc := 25) (la_121 hly _) hn_7 dX12_shift_25 ?_
      refine sm_if_eq (Y := mX12_shift) (pc := 26) 38 (by decide) dX12_shift_26 (fun hc => ?_) (fun hc => ?_)
      · replace h := h.1 hc
        refine sm_aload_n (Y := mX12_shift) (pc := 38) 0 0 rfl rfl dX12_shift_38 ?_
        refine sm_iconst (Y := mX12_shift) (pc := 39) 2 (by decide) dX12_shift_39 ?_
        refine sm_iv_I (Y := mX12_shift) (pc := 40) (As := [.int 2]) (a := 109) fX12_finds wRX12_194 (lk_109 hly) (by decide) rfl rfl rfl (Nat.le_trans (by decide) hd) (Nat.le_of_ble_eq_true rfl) ⟨Nat.le_refl _, Nat.le_refl _⟩ dX12_shift_40 rfl (sm_monoI h (fun r_9 m_8 h => ?_))
        exact sm_iret (Y := mX12_shift) (pc := 43) rfl rfl rfl dX12_shift_43 ⟨_, rfl, h⟩
      · replace h := h.2 hc
        refine sm_aload_n (Y := mX12_shift) (pc := 29) 0 0 rfl rfl dX12_shift_29 ?_
        refine gf_RX12_48 (Y := mX12_shift) (pc := 30) (b := 121) rfl ((lk_109 hly) _) (lf_109_17 hly _) dX12_shift_30 ?_
        refine sm_iload_n (Y := mX12_shift) (pc := 33) 3 3 rfl rfl dX12_shift_33 ?_
        obtain ⟨hn_10, h⟩ := h
        refine sm_iald (Y := mX12_shift) (pc := 34) (la_121 hly _) hn_10 dX12_shift_34 ?_
        refine sm_if_ne (Y := mX12_shift) (pc := 35) 44 (by decide) dX12_shift_35 (fun hc => ?_) (fun hc => ?_)
        · replace h := h.1 hc
          refine sm_aload_n (Y := mX12_shift) (pc := 44) 0 0 rfl rfl dX12_shift_44 ?_
          refine gf_RX12_48 (Y := mX12_shift) (pc := 45) (b := 121) rfl ((lk_109 hly) _) (lf_109_17 hly _) dX12_shift_45 ?_
          refine sm_iload_n (Y := mX12_shift) (pc := 48) 1 1 rfl rfl dX12_shift_48 ?_
          obtain ⟨hn_11, h⟩ := h
          refine sm_iald (Y := mX12_shift) (pc := 49) (la_121 hly _) hn_11 dX12_shift_49 ?_
          refine sm_aload_n (Y := mX12_shift) (pc := 50) 0 0 rfl rfl dX12_shift_50 ?_
          refine gf_RX12_48 (Y := mX12_shift) (pc := 51) (b := 121) rfl ((lk_109 hly) _) (lf_109_17 hly _) dX12_shift_51 ?_
          refine sm_iload_n (Y := mX12_shift) (pc := 54) 3 3 rfl rfl dX12_shift_54 ?_
          obtain ⟨hn_12, h⟩ := h
          refine sm_iald (Y := mX12_shift) (pc := 55) (la_121 hly _) hn_12 dX12_shift_55 ?_
          refine sm_icmp_eq (Y := mX12_shift) (pc := 56) 65 (by decide) dX12_shift_56 (fun hc => ?_) (fun hc => ?_)
          · replace h := h.1 hc
            refine sm_iload (Y := mX12_shift) (pc := 65) 5 5 rfl dX12_shift_65 ?_
            refine sm_if_lt (Y := mX12_shift) (pc := 67) 106 (by decide) dX12_shift_67 (fun hc => ?_) (fun hc => ?_)
            · replace h := h.1 hc
              refine sm_aload_n (Y := mX12_shift) (pc := 106) 0 0 rfl rfl dX12_shift_106 ?_
              refine sm_iconst (Y := mX12_shift) (pc := 107) 1 (by decide) dX12_shift_107 ?_
              refine sm_iv_I (Y := mX12_shift) (pc := 108) (As := [.int 1]) (a := 109) fX12_finds wRX12_194 (lk_109 hly) (by decide) rfl rfl rfl (Nat.le_trans (by decide) hd) (Nat.le_of_ble_eq_true rfl) ⟨Nat.le_refl _, Nat.le_refl _⟩ dX12_shift_108 rfl (sm_monoI h (fun r_14 m_13 h => ?_))
              exact sm_iret (Y := mX12_shift) (pc := 111) rfl rfl rfl dX12_shift_111 ⟨_, rfl, h⟩
            · replace h := h.2 hc
              refine sm_iload_n (Y := mX12_shift) (pc := 70) 2 2 rfl rfl dX12_shift_70 ?_
              refine sm_if_lt (Y := mX12_shift) (pc := 71) 106 (by decide) dX12_shift_71 (fun hc => ?_) (fun hc => ?_)
              · replace h := h.1 hc
                refine sm_aload_n (Y := mX12_shift) (pc := 106) 0 0 rfl rfl dX12_shift_106 ?_
                refine sm_iconst (Y := mX12_shift) (pc := 107) 1 (by decide) dX12_shift_107 ?_
                refine sm_iv_I (Y := mX12_shift) (pc := 108) (As := [.int 1]) (a := 109) fX12_finds wRX12_194 (lk_109 hly) (by decide) rfl rfl rfl (Nat.le_trans (by decide) hd) (Nat.le_of_ble_eq_true rfl) ⟨Nat.le_refl _, Nat.le_refl _⟩ dX12_shift_108 rfl (sm_monoI h (fun r_16 m_15 h => ?_))
                exact sm_iret (Y := mX12_shift) (pc := 111) rfl rfl rfl dX12_shift_111 ⟨_, rfl, h⟩
              · replace h := h.2 hc
                refine sm_iload (Y := mX12_shift) (pc := 74) 4 4 rfl dX12_shift_74 ?_
                refine sm_if_lt (Y := mX12_shift) (pc := 76) 106 (by decide) dX12_shift_76 (fun hc => ?_) (fun hc => ?_)
                · replace h := h.1 hc
                  refine sm_aload_n (Y := mX12_shift) (pc := 106) 0 0 rfl rfl dX12_shift_106 ?_
                  refine sm_iconst (Y := mX12_shift) (pc := 107) 1 (by decide) dX12_shift_107 ?_
                  refine sm_iv_I (Y := mX12_shift) (pc := 108) (As := [.int 1]) (a := 109) fX12_finds wRX12_194 (lk_109 hly) (by decide) rfl rfl rfl (Nat.le_trans (by decide) hd) (Nat.le_of_ble_eq_true rfl) ⟨Nat.le_refl _, Nat.le_refl _⟩ dX12_shift_108 rfl (sm_monoI h (fun r_18 m_17 h => ?_))
                  exact sm_iret (Y := mX12_shift) (pc := 111) rfl rfl rfl dX12_shift_111 ⟨_, rfl, h⟩
                · replace h := h.2 hc
                  refine sm_iload_n (Y := mX12_shift) (pc := 79) 2 2 rfl rfl dX12_shift_79 ?_
                  refine sm_aload_n (Y := mX12_shift) (pc := 80) 0 0 rfl rfl dX12_shift_80 ?_
                  refine gf_RX12_51 (Y := mX12_shift) (pc := 81) (b := 122) rfl ((lk_109 hly) _) (lf_109_18 hly _) dX12_shift_81 ?_
                  refine sm_iload_n (Y := mX12_shift) (pc := 84) 1 1 rfl rfl dX12_shift_84 ?_
                  obtain ⟨hn_19, h⟩ := h
                  refine sm_iald (Y := mX12_shift) (pc := 85) (la_122 hly _) hn_19 dX12_shift_85 ?_
                  refine sm_iload (Y := mX12_shift) (pc := 86) 5 5 rfl dX12_shift_86 ?_
                  refine sm_isub (Y := mX12_shift) (pc := 88) dX12_shift_88 ?_
                  refine sm_icmp_gt (Y := mX12_shift) (pc := 89) 106 (by decide) dX12_shift_89 (fun hc => ?_) (fun hc => ?_)
                  · replace h := h.1 hc
                    refine sm_aload_n (Y := mX12_shift) (pc := 106) 0 0 rfl rfl dX12_shift_106 ?_
                    refine sm_iconst (Y := mX12_shift) (pc := 107) 1 (by decide) dX12_shift_107 ?_
                    refine sm_iv_I (Y := mX12_shift) (pc := 108) (As := [.int 1]) (a := 109) fX12_finds wRX12_194 (lk_109 hly) (by decide) rfl rfl rfl (Nat.le_trans (by decide) hd) (Nat.le_of_ble_eq_true rfl) ⟨Nat.le_refl _, Nat.le_refl _⟩ dX12_shift_108 rfl (sm_monoI h (fun r_21 m_20 h => ?_))
                    exact sm_iret (Y := mX12_shift) (pc := 111) rfl rfl rfl dX12_shift_111 ⟨_, rfl, h⟩
                  · replace h := h.2 hc
                    refine sm_iload (Y := mX12_shift) (pc := 92) 4 4 rfl dX12_shift_92 ?_
                    refine sm_aload_n (Y := mX12_shift) (pc := 94) 0 0 rfl rfl dX12_shift_94 ?_
                    refine gf_RX12_51 (Y := mX12_shift) (pc := 95) (b := 122) rfl ((lk_109 hly) _) (lf_109_18 hly _) dX12_shift_95 ?_
                    refine sm_iload_n (Y := mX12_shift) (pc := 98) 3 3 rfl rfl dX12_shift_98 ?_
                    obtain ⟨hn_22, h⟩ := h
                    refine sm_iald (Y := mX12_shift) (pc := 99) (la_122 hly _) hn_22 dX12_shift_99 ?_
                    refine sm_iload (Y := mX12_shift) (pc := 100) 5 5 rfl dX12_shift_100 ?_
                    refine sm_isub (Y := mX12_shift) (pc := 102) dX12_shift_102 ?_
                    refine sm_icmp_le (Y := mX12_shift) (pc := 103) 112 (by decide) dX12_shift_103 (fun hc => ?_) (fun hc => ?_)
                    · replace h := h.1 hc
                      refine sm_iconst (Y := mX12_shift) (pc := 112) 0 (by decide) dX12_shift_112 ?_
                      refine sm_istore0 (Y := mX12_shift) (pc := 113) [(6, .int 0), (0, .ref (sm_B E + 109)), (1, .int x1), (2, .int x2), (3, .int x3), (4, .int x4), (5, .int x5)] 6 (by decide) rfl dX12_shift_113 ?_
                      refine sm_sub [1, 2, 3, 4, 5, 6, 0] rfl ?_
                      exact h
                    · replace h := h.2 hc
                      refine sm_aload_n (Y := mX12_shift) (pc := 106) 0 0 rfl rfl dX12_shift_106 ?_
                      refine sm_iconst (Y := mX12_shift) (pc := 107) 1 (by decide) dX12_shift_107 ?_
                      refine sm_iv_I (Y := mX12_shift) (pc := 108) (As := [.int 1]) (a := 109) fX12_finds wRX12_194 (lk_109 hly) (by decide) rfl rfl rfl (Nat.le_trans (by decide) hd) (Nat.le_of_ble_eq_true rfl) ⟨Nat.le_refl _, Nat.le_refl _⟩ dX12_shift_108 rfl (sm_monoI h (fun r_25 m_24 h => ?_))
                      exact sm_iret (Y := mX12_shift) (pc := 111) rfl rfl rfl dX12_shift_111 ⟨_, rfl, h⟩
          · replace h := h.2 hc
            refine sm_aload_n (Y := mX12_shift) (pc := 59) 0 0 rfl rfl dX12_shift_59 ?_
            refine sm_iconst (Y := mX12_shift) (pc := 60) 5 (by decide) dX12_shift_60 ?_
            refine sm_iv_I (Y := mX12_shift) (pc := 61) (As := [.int 5]) (a := 109) fX12_finds wRX12_194 (lk_109 hly) (by decide) rfl rfl rfl (Nat.le_trans (by decide) hd) (Nat.le_of_ble_eq_true rfl) ⟨Nat.le_refl _, Nat.le_refl _⟩ dX12_shift_61 rfl (sm_monoI h (fun r_27 m_26 h => ?_))
            exact sm_iret (Y := mX12_shift) (pc := 64) rfl rfl rfl dX12_shift_64 ⟨_, rfl, h⟩
        · replace h := h.2 hc
          refine sm_aload_n (Y := mX12_shift) (pc := 38) 0 0 rfl rfl dX12_shift_38 ?_
          refine sm_iconst (Y := mX12_shift) (pc := 39) 2 (by decide) dX12_shift_39 ?_
          refine sm_iv_I (Y := mX12_shift) (pc := 40) (As := [.int 2]) (a := 109) fX12_finds wRX12_194 (lk_109 hly) (by decide) rfl rfl rfl (Nat.le_trans (by decide) hd) (Nat.le_of_ble_eq_true rfl) ⟨Nat.le_refl _, Nat.le_refl _⟩ dX12_shift_40 rfl (sm_monoI h (fun r_29 m_28 h => ?_))
          exact sm_iret (Y := mX12_shift) (pc := 43) rfl rfl rfl dX12_shift_43 ⟨_, rfl, h⟩
    · replace h := h.2 hc
      refine sm_aload_n (Y := mX12_shift) (pc := 14) 0 0 rfl rfl dX12_shift_14 ?_
      refine sm_iconst (Y := mX12_shift) (pc := 15) 1 (by decide) dX12_shift_15 ?_
      refine sm_iv_I (Y := mX12_shift) (pc := 16) (As := [.int 1]) (a := 109) fX12_finds wRX12_194 (lk_109 hly) (by decide) rfl rfl rfl (Nat.le_trans (by decide) hd) (Nat.le_of_ble_eq_true rfl) ⟨Nat.le_refl _, Nat.le_refl _⟩ dX12_shift_16 rfl (sm_monoI h (fun r_31 m_30 h => ?_))
      exact sm_iret (Y := mX12_shift) (pc := 19) rfl rfl rfl dX12_shift_19 ⟨_, rfl, h⟩
abbrev mX12_rowBy : sm_Y := (yX12_rowBy, cX12_rowBy, 16, none)
theorem fX12_rowBy : sm_mi mX12_rowBy RX12 3 := ⟨sm_in 1684 (by decide +kernel) (by decide +kernel), sm_in 1683 (by decide +kernel) (by decide +kernel), sm_in 78 (by decide +kernel) (by decide +kernel), sm_in 93 (by decide +kernel) (by decide +kernel), rfl, ⟨by decide +kernel, by decide +kernel, by decide +kernel⟩, by decide⟩
def gX12_rowBy_153 (E : sm_E) (L : sm_S → Prop) (d : Nat) (vs : List Value) (x5 : Int32) (x14 : Int64) (s0 : Int64) (m : sm_M) (Q : sm_M → Prop) : Prop := sm_go E L mX12_rowBy d 0 0 vs 153 [(0, .ref (sm_B E + 109)), (5, .int x5), (14, .long x14)] [.long s0] m 0 0 (sm_Z E L vs 0 0 (sm_QV Q))
def gX12_rowBy_88 (E : sm_E) (L : sm_S → Prop) (d : Nat) (vs : List Value) (x5 : Int32) (x6 : Int64) (x8 : Int64) (s0 : Int64) (m : sm_M) (Q : sm_M → Prop) : Prop := sm_go E L mX12_rowBy d 0 0 vs 88 [(0, .ref (sm_B E + 109)), (5, .int x5), (6, .long x6), (8, .long x8)] [.long s0] m 0 0 (sm_Z E L vs 0 0 (sm_QV Q))
def gX12_rowBy_11 (E : sm_E) (L : sm_S → Prop) (d : Nat) (vs : List Value) (x5 : Int32) (x6 : Int64) (x8 : Int64) (m : sm_M) (Q : sm_M → Prop) : Prop := sm_go E L mX12_rowBy d 0 0 vs 11 [(0, .ref (sm_B E + 109)), (5, .int x5), (6, .long x6), (8, .long x8)] [] m 0 0 (sm_Z E L vs 0 0 (sm_QV Q))
theorem dX12_rowBy_153 : decode cX12_rowBy 153 = .ok (.lstore 6, 2) := dk_lstore 6 (b := 6) (by decide +kernel) (by decide +kernel) (by decide +kernel)
theorem dX12_rowBy_155 : decode cX12_rowBy 155 = .ok (.lload 14, 2) := dk_lload 14 (b := 14) (by decide +kernel) (by decide +kernel) (by decide +kernel)
theorem dX12_rowBy_157 : decode cX12_rowBy 157 = .ok (.lconst 0, 1) := dk_lconst_0 (by decide +kernel)
theorem dX12_rowBy_158 : decode cX12_rowBy 158 = .ok (.lcmp, 1) := dk_lcmp (by decide +kernel)
theorem dX12_rowBy_159 : decode cX12_rowBy 159 = .ok (.ifCond .ge 9, 3) := dk_ifCond_ge 9 (b1 := 0) (b2 := 9) (by decide +kernel) (by decide +kernel) (by decide +kernel) (by decide +kernel)
theorem dX12_rowBy_168 : decode cX12_rowBy 168 = .ok (.lload 14, 2) := dk_lload 14 (b := 14) (by decide +kernel) (by decide +kernel) (by decide +kernel)
theorem dX12_rowBy_170 : decode cX12_rowBy 170 = .ok (.lstore 8, 2) := dk_lstore 8 (b := 8) (by decide +kernel) (by decide +kernel) (by decide +kernel)
theorem dX12_rowBy_172 : decode cX12_rowBy 172 = .ok (.goto (-161), 3) := dk_goto (-161) (b1 := 255) (b2 := 95) (by decide +kernel) (by decide +kernel) (by decide +kernel) (by decide +kernel)
theorem dX12_rowBy_162 : decode cX12_rowBy 162 = .ok (.lload 14, 2) := dk_lload 14 (b := 14) (by decide +kernel) (by decide +kernel) (by decide +kernel)
theorem dX12_rowBy_164 : decode cX12_rowBy 164 = .ok (.lneg, 1) := dk_lneg (by decide +kernel)
theorem dX12_rowBy_165 : decode cX12_rowBy 165 = .ok (.goto 5, 3) := dk_goto 5 (b1 := 0) (b2 := 5) (by decide +kernel) (by decide +kernel) (by decide +kernel) (by decide +kernel)
set_option maxRecDepth 20000 in
theorem vX12_rowBy_153 {E : sm_E} {L : sm_S → Prop} {d : Nat} {vs : List Value} {x5 : Int32} {x14 : Int64} {s0 : Int64}  {m : sm_M} {Q : sm_M → Prop}  (hd : 3 ≤ d) 
  (h : (0 ≤ x14 →
      gX12_rowBy_11 E L d vs x5 s0 x14 m Q) ∧
   (¬ 0 ≤ x14 →
      ∀ x8_3 : Int64, x8_3 = -x14 →
      gX12_rowBy_11 E L d vs x5 s0 x8_3 m Q)) :
  gX12_rowBy_153 E L d vs x5 x14 s0 m Q := by
  refine sm_lstore0 (Y := mX12_rowBy) (pc := 153) [(6, .long s0), (0, .ref (sm_B E + 109)), (5, .int x5), (14, .long x14)] 6 (by decide) rfl dX12_rowBy_153 ?_
  refine sm_lload (Y := mX12_rowBy) (pc := 155) 3 14 rfl dX12_rowBy_155 ?_
  refine sm_lconst (Y := mX12_rowBy) (pc := 157) 0 (by decide) dX12_rowBy_157 ?_
  refine sm_lif_ge (Y := mX12_rowBy) (pc := 158) 168 (by decide) dX12_rowBy_158 dX12_rowBy_159 (fun hc => ?_) (fun hc => ?_)
  · replace h := h.1 hc
    refine sm_lload (Y := mX12_rowBy) (pc := 168) 3 14 rfl dX12_rowBy_168 ?_
    refine sm_lstore0 (Y := mX12_rowBy) (pc := 170) [(8, .long x14), (6, .long s0), (0, .ref (sm_B E + 109)), (5, .int x5), (14, .long x14)] 8 (by decide) rfl dX12_rowBy_170 ?_
    refine sm_goto (Y := mX12_rowBy) (pc := 172) 11 (by decide) dX12_rowBy_172 ?_
    refine sm_sub [2, 3, 1, 0] rfl ?_
    exact h
  · replace h := h.2 hc
    refine sm_lload (Y := mX12_rowBy) (pc := 162) 3 14 rfl dX12_rowBy_162 ?_
    refine sm_lneg (Y := mX12_rowBy) (pc := 164) dX12_rowBy_164 ?_
    refine sm_goto (Y := mX12_rowBy) (pc := 165) 170 (by decide) dX12_rowBy_165 ?_
    refine sm_lstore (Y := mX12_rowBy) (pc := 170) (fun y => [(8, .long y), (6, .long s0), (0, .ref (sm_B E + 109)), (5, .int x5), (14, .long x14)]) 8 (by decide) (fun _ => rfl) dX12_rowBy_170 (fun x8_3 ex8_3 => ?_)
    replace h := h x8_3 ex8_3
    refine sm_goto (Y := mX12_rowBy) (pc := 172) 11 (by decide) dX12_rowBy_172 ?_
    refine sm_sub [2, 3, 1, 0] rfl ?_
    exact h
theorem dX12_rowBy_88 : decode cX12_rowBy 88 = .ok (.lstore 12, 2) := dk_lstore 12 (b := 12) (by decide +kernel) (by decide +kernel) (by decide +kernel)
theorem dX12_rowBy_90 : decode cX12_rowBy 90 = .ok (.aload_n 0, 1) := dk_aload_n_0 (by decide +kernel)
theorem dX12_rowBy_91 : decode cX12_rowBy 91 = .ok (.getfield 130, 3) := dk_getfield 130 (b1 := 0) (b2 := 130) (by decide +kernel) (by decide +kernel) (by decide +kernel) (by decide +kernel)
theorem dX12_rowBy_94 : decode cX12_rowBy 94 = .ok (.aload_n 0, 1) := dk_aload_n_0 (by decide +kernel)
theorem dX12_rowBy_95 : decode cX12_rowBy 95 = .ok (.getfield 411, 3) := dk_getfield 411 (b1 := 1) (b2 := 155) (by decide +kernel) (by decide +kernel) (by decide +kernel) (by decide +kernel)
theorem dX12_rowBy_98 : decode cX12_rowBy 98 = .ok (.lload 12, 2) := dk_lload 12 (b := 12) (by decide +kernel) (by decide +kernel) (by decide +kernel)
theorem dX12_rowBy_100 : decode cX12_rowBy 100 = .ok (.lastore, 1) := dk_lastore (by decide +kernel)
theorem dX12_rowBy_101 : decode cX12_rowBy 101 = .ok (.aload_n 0, 1) := dk_aload_n_0 (by decide +kernel)
theorem dX12_rowBy_102 : decode cX12_rowBy 102 = .ok (.dup, 1) := dk_dup (by decide +kernel)
theorem dX12_rowBy_103 : decode cX12_rowBy 103 = .ok (.getfield 411, 3) := dk_getfield 411 (b1 := 1) (b2 := 155) (by decide +kernel) (by decide +kernel) (by decide +kernel) (by decide +kernel)
theorem dX12_rowBy_106 : decode cX12_rowBy 106 = .ok (.iconst 1, 1) := dk_iconst_1 (by decide +kernel)
theorem dX12_rowBy_107 : decode cX12_rowBy 107 = .ok (.iadd, 1) := dk_iadd (by decide +kernel)
theorem dX12_rowBy_108 : decode cX12_rowBy 108 = .ok (.putfield 411, 3) := dk_putfield 411 (b1 := 1) (b2 := 155) (by decide +kernel) (by decide +kernel) (by decide +kernel) (by decide +kernel)
theorem dX12_rowBy_111 : decode cX12_rowBy 111 = .ok (.iload 5, 2) := dk_iload 5 (b := 5) (by decide +kernel) (by decide +kernel) (by decide +kernel)
theorem dX12_rowBy_113 : decode cX12_rowBy 113 = .ok (.iconst 1, 1) := dk_iconst_1 (by decide +kernel)
theorem dX12_rowBy_114 : decode cX12_rowBy 114 = .ok (.if_icmp .ne 14, 3) := dk_if_icmp_ne 14 (b1 := 0) (b2 := 14) (by decide +kernel) (by decide +kernel) (by decide +kernel) (by decide +kernel)
theorem dX12_rowBy_128 : decode cX12_rowBy 128 = .ok (.lload 6, 2) := dk_lload 6 (b := 6) (by decide +kernel) (by decide +kernel) (by decide +kernel)
theorem dX12_rowBy_130 : decode cX12_rowBy 130 = .ok (.lload 12, 2) := dk_lload 12 (b := 12) (by decide +kernel) (by decide +kernel) (by decide +kernel)
theorem dX12_rowBy_132 : decode cX12_rowBy 132 = .ok (.lload 8, 2) := dk_lload 8 (b := 8) (by decide +kernel) (by decide +kernel) (by decide +kernel)
theorem dX12_rowBy_134 : decode cX12_rowBy 134 = .ok (.lmul, 1) := dk_lmul (by decide +kernel)
theorem dX12_rowBy_135 : decode cX12_rowBy 135 = .ok (.lsub, 1) := dk_lsub (by decide +kernel)
theorem dX12_rowBy_136 : decode cX12_rowBy 136 = .ok (.lstore 14, 2) := dk_lstore 14 (b := 14) (by decide +kernel) (by decide +kernel) (by decide +kernel)
theorem dX12_rowBy_138 : decode cX12_rowBy 138 = .ok (.lload 14, 2) := dk_lload 14 (b := 14) (by decide +kernel) (by decide +kernel) (by decide +kernel)
theorem dX12_rowBy_140 : decode cX12_rowBy 140 = .ok (.lconst 0, 1) := dk_lconst_0 (by decide +kernel)
theorem dX12_rowBy_141 : decode cX12_rowBy 141 = .ok (.lcmp, 1) := dk_lcmp (by decide +kernel)
theorem dX12_rowBy_142 : decode cX12_rowBy 142 = .ok (.ifCond .ge 9, 3) := dk_ifCond_ge 9 (b1 := 0) (b2 := 9) (by decide +kernel) (by decide +kernel) (by decide +kernel) (by decide +kernel)
theorem dX12_rowBy_151 : decode cX12_rowBy 151 = .ok (.lload 8, 2) := dk_lload 8 (b := 8) (by decide +kernel) (by decide +kernel) (by decide +kernel)
theorem dX12_rowBy_145 : decode cX12_rowBy 145 = .ok (.lload 8, 2) := dk_lload 8 (b := 8) (by decide +kernel) (by decide +kernel) (by decide +kernel)
theorem dX12_rowBy_147 : decode cX12_rowBy 147 = .ok (.lneg, 1) := dk_lneg (by decide +kernel)
theorem dX12_rowBy_148 : decode cX12_rowBy 148 = .ok (.goto 5, 3) := dk_goto 5 (b1 := 0) (b2 := 5) (by decide +kernel) (by decide +kernel) (by decide +kernel) (by decide +kernel)
theorem dX12_rowBy_117 : decode cX12_rowBy 117 = .ok (.lload 12, 2) := dk_lload 12 (b := 12) (by decide +kernel) (by decide +kernel) (by decide +kernel)
theorem dX12_rowBy_119 : decode cX12_rowBy 119 = .ok (.lload 8, 2) := dk_lload 8 (b := 8) (by decide +kernel) (by decide +kernel) (by decide +kernel)
theorem dX12_rowBy_121 : decode cX12_rowBy 121 = .ok (.lmul, 1) := dk_lmul (by decide +kernel)
theorem dX12_rowBy_122 : decode cX12_rowBy 122 = .ok (.lload 6, 2) := dk_lload 6 (b := 6) (by decide +kernel) (by decide +kernel) (by decide +kernel)
theorem dX12_rowBy_124 : decode cX12_rowBy 124 = .ok (.lsub, 1) := dk_lsub (by decide +kernel)
theorem dX12_rowBy_125 : decode cX12_rowBy 125 = .ok (.goto 11, 3) := dk_goto 11 (b1 := 0) (b2 := 11) (by decide +kernel) (by decide +kernel) (by decide +kernel) (by decide +kernel)
set_option maxRecDepth 20000 in
theorem vX12_rowBy_88 {E : sm_E} {L : sm_S → Prop} {d : Nat} {vs : List Value} {x5 : Int32} {x6 : Int64} {x8 : Int64} {s0 : Int64}  {m : sm_M} {Q : sm_M → Prop} (hly : ∀ S, L S → ly S) (hd : 3 ≤ d) 
  (h : (vp_in (m.1 109 67) 64) ∧ ∀ m_2 : sm_M, m_2 = sm_wJ m 148 (m.1 109 67).toNatClampNeg s0 →
   ∀ m_4 : sm_M, m_4 = sm_wI m_2 109 67 ((m_2.1 109 67) + 1) →
   (¬ x5 = 1 →
      ∀ x14_5 : Int64, x14_5 = x6 - (s0 * x8) →
      (0 ≤ x14_5 →
         gX12_rowBy_153 E L d vs x5 x14_5 x8 m_4 Q) ∧
      (¬ 0 ≤ x14_5 →
         gX12_rowBy_153 E L d vs x5 x14_5 (-x8) m_4 Q)) ∧
   (x5 = 1 →
      ∀ x14_6 : Int64, x14_6 = (s0 * x8) - x6 →
      (0 ≤ x14_6 →
         gX12_rowBy_153 E L d vs x5 x14_6 x8 m_4 Q) ∧
      (¬ 0 ≤ x14_6 →
         gX12_rowBy_153 E L d vs x5 x14_6 (-x8) m_4 Q))) :
  gX12_rowBy_88 E L d vs x5 x6 x8 s0 m Q := by
  refine sm_lstore0 (Y := mX12_rowBy) (pc := 88) [(12, .long s0), (0, .ref (sm_B E + 109)), (5, .int x5), (6, .long x6), (8, .long x8)] 12 (by decide) rfl dX12_rowBy_88 ?_
  refine sm_aload_n (Y := mX12_rowBy) (pc := 90) 1 0 rfl rfl dX12_rowBy_90 ?_
  refine gf_RX12_130 (Y := mX12_rowBy) (pc := 91) (b := 148) rfl ((lk_109 hly) _) (lf_109_66 hly _) dX12_rowBy_91 ?_
  refine sm_aload_n (Y := mX12_rowBy) (pc := 94) 1 0 rfl rfl dX12_rowBy_94 ?_
  refine gf_RX12_411 (Y := mX12_rowBy) (pc := 95) rfl ((lk_109 hly) _) dX12_rowBy_95 ?_
  refine sm_lload (Y := mX12_rowBy) (pc := 98) 0 12 rfl dX12_rowBy_98 ?_
  obtain ⟨hn_3, h⟩ := h
  refine sm_last (Y := mX12_rowBy) (pc := 100) (la_148 hly _) hn_3 dX12_rowBy_100 (fun m_2 em_2 => ?_)
  replace h := h m_2 em_2
  refine sm_aload_n (Y := mX12_rowBy) (pc := 101) 1 0 rfl rfl dX12_rowBy_101 ?_
  refine sm_dup (Y := mX12_rowBy) (pc := 102) rfl dX12_rowBy_102 ?_
  refine gf_RX12_411 (Y := mX12_rowBy) (pc := 103) rfl ((lk_109 hly) _) dX12_rowBy_103 ?_
  refine sm_iconst (Y := mX12_rowBy) (pc := 106) 1 (by decide) dX12_rowBy_106 ?_
  refine sm_iadd (Y := mX12_rowBy) (pc := 107) dX12_rowBy_107 ?_
  refine pf_RX12_411 (Y := mX12_rowBy) (pc := 108) rfl ((lk_109 hly) _) dX12_rowBy_108 (fun m_4 em_4 => ?_)
  replace h := h m_4 em_4
  refine sm_iload (Y := mX12_rowBy) (pc := 111) 2 5 rfl dX12_rowBy_111 ?_
  refine sm_iconst (Y := mX12_rowBy) (pc := 113) 1 (by decide) dX12_rowBy_113 ?_
  refine sm_icmp_ne (Y := mX12_rowBy) (pc := 114) 128 (by decide) dX12_rowBy_114 (fun hc => ?_) (fun hc => ?_)
  · replace h := h.1 hc
    refine sm_lload (Y := mX12_rowBy) (pc := 128) 3 6 rfl dX12_rowBy_128 ?_
    refine sm_lload (Y := mX12_rowBy) (pc := 130) 0 12 rfl dX12_rowBy_130 ?_
    refine sm_lload (Y := mX12_rowBy) (pc := 132) 4 8 rfl dX12_rowBy_132 ?_
    refine sm_lmul (Y := mX12_rowBy) (pc := 134) dX12_rowBy_134 ?_
    refine sm_lsub (Y := mX12_rowBy) (pc := 135) dX12_rowBy_135 ?_
    refine sm_lstore (Y := mX12_rowBy) (pc := 136) (fun y => [(14, .long y), (12, .long s0), (0, .ref (sm_B E + 109)), (5, .int x5), (6, .long x6), (8, .long x8)]) 14 (by decide) (fun _ => rfl) dX12_rowBy_136 (fun x14_5 ex14_5 => ?_)
    replace h := h x14_5 ex14_5
    refine sm_lload (Y := mX12_rowBy) (pc := 138) 0 14 rfl dX12_rowBy_138 ?_
    refine sm_lconst (Y := mX12_rowBy) (pc := 140) 0 (by decide) dX12_rowBy_140 ?_
    refine sm_lif_ge (Y := mX12_rowBy) (pc := 141) 151 (by decide) dX12_rowBy_141 dX12_rowBy_142 (fun hc => ?_) (fun hc => ?_)
    · replace h := h.1 hc
      refine sm_lload (Y := mX12_rowBy) (pc := 151) 5 8 rfl dX12_rowBy_151 ?_
      refine sm_sub [2, 3, 0] rfl ?_
      exact h
    · replace h := h.2 hc
      refine sm_lload (Y := mX12_rowBy) (pc := 145) 5 8 rfl dX12_rowBy_145 ?_
      refine sm_lneg (Y := mX12_rowBy) (pc := 147) dX12_rowBy_147 ?_
      refine sm_goto (Y := mX12_rowBy) (pc := 148) 153 (by decide) dX12_rowBy_148 ?_
      refine sm_sub [2, 3, 0] rfl ?_
      exact h
  · replace h := h.2 hc
    refine sm_lload (Y := mX12_rowBy) (pc := 117) 0 12 rfl dX12_rowBy_117 ?_
    refine sm_lload (Y := mX12_rowBy) (pc := 119) 4 8 rfl dX12_rowBy_119 ?_
    refine sm_lmul (Y := mX12_rowBy) (pc := 121) dX12_rowBy_121 ?_
    refine sm_lload (Y := mX12_rowBy) (pc := 122) 3 6 rfl dX12_rowBy_122 ?_
    refine sm_lsub (Y := mX12_rowBy) (pc := 124) dX12_rowBy_124 ?_
    refine sm_goto (Y := mX12_rowBy) (pc := 125) 136 (by decide) dX12_rowBy_125 ?_
    refine sm_lstore (Y := mX12_rowBy) (pc := 136) (fun y => [(14, .long y), (12, .long s0), (0, .ref (sm_B E + 109)), (5, .int x5), (6, .long x6), (8, .long x8)]) 14 (by decide) (fun _ => rfl) dX12_rowBy_136 (fun x14_6 ex14_6 => ?_)
    replace h := h x14_6 ex14_6
    refine sm_lload (Y := mX12_rowBy) (pc := 138) 0 14 rfl dX12_rowBy_138 ?_
    refine sm_lconst (Y := mX12_rowBy) (pc := 140) 0 (by decide) dX12_rowBy_140 ?_
    refine sm_lif_ge (Y := mX12_rowBy) (pc := 141) 151 (by decide) dX12_rowBy_141 dX12_rowBy_142 (fun hc => ?_) (fun hc => ?_)
    · replace h := h.1 hc
      refine sm_lload (Y := mX12_rowBy) (pc := 151) 5 8 rfl dX12_rowBy_151 ?_
      refine sm_sub [2, 3, 0] rfl ?_
      exact h
    · replace h := h.2 hc
      refine sm_lload (Y := mX12_rowBy) (pc := 145) 5 8 rfl dX12_rowBy_145 ?_
      refine sm_lneg (Y := mX12_rowBy) (pc := 147) dX12_rowBy_147 ?_
      refine sm_goto (Y := mX12_rowBy) (pc := 148) 153 (by decide) dX12_rowBy_148 ?_
      refine sm_sub [2, 3, 0] rfl ?_
      exact h
theorem dX12_rowBy_11 : decode cX12_rowBy 11 = .ok (.lload 8, 2) := dk_lload 8 (b := 8) (by decide +kernel) (by decide +kernel) (by decide +kernel)
theorem dX12_rowBy_13 : decode cX12_rowBy 13 = .ok (.lconst 0, 1) := dk_lconst_0 (by decide +kernel)
theorem dX12_rowBy_14 : decode cX12_rowBy 14 = .ok (.lcmp, 1) := dk_lcmp (by decide +kernel)
theorem dX12_rowBy_15 : decode cX12_rowBy 15 = .ok (.ifCond .eq 160, 3) := dk_ifCond_eq 160 (b1 := 0) (b2 := 160) (by decide +kernel) (by decide +kernel) (by decide +kernel) (by decide +kernel)
theorem dX12_rowBy_175 : decode cX12_rowBy 175 = .ok (.return_, 1) := dk_return_ (by decide +kernel)
theorem dX12_rowBy_18 : decode cX12_rowBy 18 = .ok (.aload_n 0, 1) := dk_aload_n_0 (by decide +kernel)
theorem dX12_rowBy_19 : decode cX12_rowBy 19 = .ok (.getfield 411, 3) := dk_getfield 411 (b1 := 1) (b2 := 155) (by decide +kernel) (by decide +kernel) (by decide +kernel) (by decide +kernel)
theorem dX12_rowBy_22 : decode cX12_rowBy 22 = .ok (.bipush 48, 2) := dk_bipush 48 (b := 48) (by decide +kernel) (by decide +kernel) (by decide +kernel)
theorem dX12_rowBy_24 : decode cX12_rowBy 24 = .ok (.if_icmp .gt 151, 3) := dk_if_icmp_gt 151 (b1 := 0) (b2 := 151) (by decide +kernel) (by decide +kernel) (by decide +kernel) (by decide +kernel)
theorem dX12_rowBy_27 : decode cX12_rowBy 27 = .ok (.lload 6, 2) := dk_lload 6 (b := 6) (by decide +kernel) (by decide +kernel) (by decide +kernel)
theorem dX12_rowBy_29 : decode cX12_rowBy 29 = .ok (.lload 6, 2) := dk_lload 6 (b := 6) (by decide +kernel) (by decide +kernel) (by decide +kernel)
theorem dX12_rowBy_31 : decode cX12_rowBy 31 = .ok (.lload 8, 2) := dk_lload 8 (b := 8) (by decide +kernel) (by decide +kernel) (by decide +kernel)
theorem dX12_rowBy_33 : decode cX12_rowBy 33 = .ok (.invokestatic 354, 3) := dk_invokestatic 354 (b1 := 1) (b2 := 98) (by decide +kernel) (by decide +kernel) (by decide +kernel) (by decide +kernel)
theorem dX12_rowBy_36 : decode cX12_rowBy 36 = .ok (.lsub, 1) := dk_lsub (by decide +kernel)
theorem dX12_rowBy_37 : decode cX12_rowBy 37 = .ok (.lload 8, 2) := dk_lload 8 (b := 8) (by decide +kernel) (by decide +kernel) (by decide +kernel)
theorem dX12_rowBy_39 : decode cX12_rowBy 39 = .ok (.ldiv, 1) := dk_ldiv (by decide +kernel)
theorem dX12_rowBy_40 : decode cX12_rowBy 40 = .ok (.lstore 10, 2) := dk_lstore 10 (b := 10) (by decide +kernel) (by decide +kernel) (by decide +kernel)
theorem dX12_rowBy_42 : decode cX12_rowBy 42 = .ok (.iload 5, 2) := dk_iload 5 (b := 5) (by decide +kernel) (by decide +kernel) (by decide +kernel)
theorem dX12_rowBy_44 : decode cX12_rowBy 44 = .ok (.ifCond .ne 8, 3) := dk_ifCond_ne 8 (b1 := 0) (b2 := 8) (by decide +kernel) (by decide +kernel) (by decide +kernel) (by decide +kernel)
theorem dX12_rowBy_52 : decode cX12_rowBy 52 = .ok (.iload 5, 2) := dk_iload 5 (b := 5) (by decide +kernel) (by decide +kernel) (by decide +kernel)
theorem dX12_rowBy_54 : decode cX12_rowBy 54 = .ok (.iconst 1, 1) := dk_iconst_1 (by decide +kernel)
theorem dX12_rowBy_55 : decode cX12_rowBy 55 = .ok (.if_icmp .ne 26, 3) := dk_if_icmp_ne 26 (b1 := 0) (b2 := 26) (by decide +kernel) (by decide +kernel) (by decide +kernel) (by decide +kernel)
theorem dX12_rowBy_81 : decode cX12_rowBy 81 = .ok (.lload 6, 2) := dk_lload 6 (b := 6) (by decide +kernel) (by decide +kernel) (by decide +kernel)
theorem dX12_rowBy_83 : decode cX12_rowBy 83 = .ok (.lload 8, 2) := dk_lload 8 (b := 8) (by decide +kernel) (by decide +kernel) (by decide +kernel)
theorem dX12_rowBy_85 : decode cX12_rowBy 85 = .ok (.invokestatic 363, 3) := dk_invokestatic 363 (b1 := 1) (b2 := 107) (by decide +kernel) (by decide +kernel) (by decide +kernel) (by decide +kernel)
theorem dX12_rowBy_58 : decode cX12_rowBy 58 = .ok (.lload 10, 2) := dk_lload 10 (b := 10) (by decide +kernel) (by decide +kernel) (by decide +kernel)
theorem dX12_rowBy_60 : decode cX12_rowBy 60 = .ok (.lload 6, 2) := dk_lload 6 (b := 6) (by decide +kernel) (by decide +kernel) (by decide +kernel)
theorem dX12_rowBy_62 : decode cX12_rowBy 62 = .ok (.lload 8, 2) := dk_lload 8 (b := 8) (by decide +kernel) (by decide +kernel) (by decide +kernel)
theorem dX12_rowBy_64 : decode cX12_rowBy 64 = .ok (.invokestatic 354, 3) := dk_invokestatic 354 (b1 := 1) (b2 := 98) (by decide +kernel) (by decide +kernel) (by decide +kernel) (by decide +kernel)
theorem dX12_rowBy_67 : decode cX12_rowBy 67 = .ok (.lconst 0, 1) := dk_lconst_0 (by decide +kernel)
theorem dX12_rowBy_68 : decode cX12_rowBy 68 = .ok (.lcmp, 1) := dk_lcmp (by decide +kernel)
theorem dX12_rowBy_69 : decode cX12_rowBy 69 = .ok (.ifCond .ne 7, 3) := dk_ifCond_ne 7 (b1 := 0) (b2 := 7) (by decide +kernel) (by decide +kernel) (by decide +kernel) (by decide +kernel)
theorem dX12_rowBy_76 : decode cX12_rowBy 76 = .ok (.lconst 1, 1) := dk_lconst_1 (by decide +kernel)
theorem dX12_rowBy_77 : decode cX12_rowBy 77 = .ok (.ladd, 1) := dk_ladd (by decide +kernel)
theorem dX12_rowBy_78 : decode cX12_rowBy 78 = .ok (.goto 10, 3) := dk_goto 10 (b1 := 0) (b2 := 10) (by decide +kernel) (by decide +kernel) (by decide +kernel) (by decide +kernel)
theorem dX12_rowBy_72 : decode cX12_rowBy 72 = .ok (.lconst 0, 1) := dk_lconst_0 (by decide +kernel)
theorem dX12_rowBy_73 : decode cX12_rowBy 73 = .ok (.goto 4, 3) := dk_goto 4 (b1 := 0) (b2 := 4) (by decide +kernel) (by decide +kernel) (by decide +kernel) (by decide +kernel)
theorem dX12_rowBy_47 : decode cX12_rowBy 47 = .ok (.lload 10, 2) := dk_lload 10 (b := 10) (by decide +kernel) (by decide +kernel) (by decide +kernel)
theorem dX12_rowBy_49 : decode cX12_rowBy 49 = .ok (.goto 39, 3) := dk_goto 39 (b1 := 0) (b2 := 39) (by decide +kernel) (by decide +kernel) (by decide +kernel) (by decide +kernel)
set_option maxRecDepth 20000 in
theorem vX12_rowBy_11 {E : sm_E} {L : sm_S → Prop} {d : Nat} {vs : List Value} {x5 : Int32} {x6 : Int64} {x8 : Int64}  {m : sm_M} {Q : sm_M → Prop} (hly : ∀ S, L S → ly S) (hd : 3 ≤ d) 
  (h : (x8 = 0 →
      Q m) ∧
   (¬ x8 = 0 →
      (48 < (m.1 109 67) →
         Q m) ∧
      (¬ 48 < (m.1 109 67) →
         sm_callJ E L mX12_left 1 0 0 [.long x6, .long x8] m (fun r_2 m_1 =>
         (¬ x8 = 0) ∧ ∀ x10_4 : Int64, x10_4 = (x6 - r_2) / x8 →
         (¬ x5 = 0 →
            (¬ x5 = 1 →
               sm_callJ E L mX12_evenBy 2 0 0 [.long x6, .long x8] m_1 (fun r_6 m_5 =>
               gX12_rowBy_88 E L d vs x5 x6 x8 r_6 m_5 Q)) ∧
            (x5 = 1 →
               sm_callJ E L mX12_left 1 0 0 [.long x6, .long x8] m_1 (fun r_8 m_7 =>
               (¬ r_8 = 0 →
                  gX12_rowBy_88 E L d vs x5 x6 x8 (x10_4 + 1) m_7 Q) ∧
               (r_8 = 0 →
                  gX12_rowBy_88 E L d vs x5 x6 x8 (x10_4 + 0) m_7 Q)))) ∧
         (x5 = 0 →
            gX12_rowBy_88 E L d vs x5 x6 x8 x10_4 m_1 Q))))) :
  gX12_rowBy_11 E L d vs x5 x6 x8 m Q := by
  refine sm_lload (Y := mX12_rowBy) (pc := 11) 3 8 rfl dX12_rowBy_11 ?_
  refine sm_lconst (Y := mX12_rowBy) (pc := 13) 0 (by decide) dX12_rowBy_13 ?_
  refine sm_lif_eq (Y := mX12_rowBy) (pc := 14) 175 (by decide) dX12_rowBy_14 dX12_rowBy_15 (fun hc => ?_) (fun hc => ?_)
  · replace h := h.1 hc
    exact sm_vret (Y := mX12_rowBy) (pc := 175) rfl rfl rfl dX12_rowBy_175 ⟨rfl, h⟩
  · replace h := h.2 hc
    refine sm_aload_n (Y := mX12_rowBy) (pc := 18) 0 0 rfl rfl dX12_rowBy_18 ?_
    refine gf_RX12_411 (Y := mX12_rowBy) (pc := 19) rfl ((lk_109 hly) _) dX12_rowBy_19 ?_
    refine sm_bipush (Y := mX12_rowBy) (pc := 22) 48 (by decide) dX12_rowBy_22 ?_
    refine sm_icmp_gt (Y := mX12_rowBy) (pc := 24) 175 (by decide) dX12_rowBy_24 (fun hc => ?_) (fun hc => ?_)
    · replace h := h.1 hc
      exact sm_vret (Y := mX12_rowBy) (pc := 175) rfl rfl rfl dX12_rowBy_175 ⟨rfl, h⟩
    · replace h := h.2 hc
      refine sm_lload (Y := mX12_rowBy) (pc := 27) 2 6 rfl dX12_rowBy_27 ?_
      refine sm_lload (Y := mX12_rowBy) (pc := 29) 2 6 rfl dX12_rowBy_29 ?_
      refine sm_lload (Y := mX12_rowBy) (pc := 31) 3 8 rfl dX12_rowBy_31 ?_
      refine sm_is_J (Y := mX12_rowBy) (pc := 33) (As := [.long x6, .long x8]) fX12_left wRX12_354 rfl (Nat.le_trans (by decide) hd) (Nat.le_of_ble_eq_true rfl) ⟨Nat.le_refl _, Nat.le_refl _⟩ dX12_rowBy_33 rfl (sm_monoJ h (fun r_2 m_1 h => ?_))
      refine sm_lsub (Y := mX12_rowBy) (pc := 36) dX12_rowBy_36 ?_
      refine sm_lload (Y := mX12_rowBy) (pc := 37) 3 8 rfl dX12_rowBy_37 ?_
      obtain ⟨hn_3, h⟩ := h
      refine sm_ldiv (Y := mX12_rowBy) (pc := 39) hn_3 dX12_rowBy_39 ?_
      refine sm_lstore (Y := mX12_rowBy) (pc := 40) (fun y => [(10, .long y), (0, .ref (sm_B E + 109)), (5, .int x5), (6, .long x6), (8, .long x8)]) 10 (by decide) (fun _ => rfl) dX12_rowBy_40 (fun x10_4 ex10_4 => ?_)
      replace h := h x10_4 ex10_4
      refine sm_iload (Y := mX12_rowBy) (pc := 42) 2 5 rfl dX12_rowBy_42 ?_
      refine sm_if_ne (Y := mX12_rowBy) (pc := 44) 52 (by decide) dX12_rowBy_44 (fun hc => ?_) (fun hc => ?_)
      · replace h := h.1 hc
        refine sm_iload (Y := mX12_rowBy) (pc := 52) 2 5 rfl dX12_rowBy_52 ?_
        refine sm_iconst (Y := mX12_rowBy) (pc := 54) 1 (by decide) dX12_rowBy_54 ?_
        refine sm_icmp_ne (Y := mX12_rowBy) (pc := 55) 81 (by decide) dX12_rowBy_55 (fun hc => ?_) (fun hc => ?_)
        · replace h := h.1 hc
          refine sm_lload (Y := mX12_rowBy) (pc := 81) 3 6 rfl dX12_rowBy_81 ?_
          refine sm_lload (Y := mX12_rowBy) (pc := 83) 4 8 rfl dX12_rowBy_83 ?_
          refine sm_is_J (Y := mX12_rowBy) (pc := 85) (As := [.long x6, .long x8]) fX12_evenBy wRX12_363 rfl (Nat.le_trans (by decide) hd) (Nat.le_of_ble_eq_true rfl) ⟨Nat.le_refl _, Nat.le_refl _⟩ dX12_rowBy_85 rfl (sm_monoJ h (fun r_6 m_5 h => ?_))
          refine sm_sub [1, 2, 3, 4] rfl ?_
          exact h
        · replace h := h.2 hc
          refine sm_lload (Y := mX12_rowBy) (pc := 58) 0 10 rfl dX12_rowBy_58 ?_
          refine sm_lload (Y := mX12_rowBy) (pc := 60) 3 6 rfl dX12_rowBy_60 ?_
          refine sm_lload (Y := mX12_rowBy) (pc := 62) 4 8 rfl dX12_rowBy_62 ?_
          refine sm_is_J (Y := mX12_rowBy) (pc := 64) (As := [.long x6, .long x8]) fX12_left wRX12_354 rfl (Nat.le_trans (by decide) hd) (Nat.le_of_ble_eq_true rfl) ⟨Nat.le_refl _, Nat.le_refl _⟩ dX12_rowBy_64 rfl (sm_monoJ h (fun r_8 m_7 h => ?_))
          refine sm_lconst (Y := mX12_rowBy) (pc := 67) 0 (by decide) dX12_rowBy_67 ?_
          refine sm_lif_ne (Y := mX12_rowBy) (pc := 68) 76 (by decide) dX12_rowBy_68 dX12_rowBy_69 (fun hc => ?_) (fun hc => ?_)
          · replace h := h.1 hc
            refine sm_lconst (Y := mX12_rowBy) (pc := 76) 1 (by decide) dX12_rowBy_76 ?_
            refine sm_ladd (Y := mX12_rowBy) (pc := 77) dX12_rowBy_77 ?_
            refine sm_goto (Y := mX12_rowBy) (pc := 78) 88 (by decide) dX12_rowBy_78 ?_
            refine sm_sub [1, 2, 3, 4] rfl ?_
            exact h
          · replace h := h.2 hc
            refine sm_lconst (Y := mX12_rowBy) (pc := 72) 0 (by decide) dX12_rowBy_72 ?_
            refine sm_goto (Y := mX12_rowBy) (pc := 73) 77 (by decide) dX12_rowBy_73 ?_
            refine sm_ladd (Y := mX12_rowBy) (pc := 77) dX12_rowBy_77 ?_
            refine sm_goto (Y := mX12_rowBy) (pc := 78) 88 (by decide) dX12_rowBy_78 ?_
            refine sm_sub [1, 2, 3, 4] rfl ?_
            exact h
      · replace h := h.2 hc
        refine sm_lload (Y := mX12_rowBy) (pc := 47) 0 10 rfl dX12_rowBy_47 ?_
        refine sm_goto (Y := mX12_rowBy) (pc := 49) 88 (by decide) dX12_rowBy_49 ?_
        refine sm_sub [1, 2, 3, 4] rfl ?_
        exact h
theorem dX12_rowBy_0 : decode cX12_rowBy 0 = .ok (.aload_n 0, 1) := dk_aload_n_0 (by decide +kernel)
theorem dX12_rowBy_1 : decode cX12_rowBy 1 = .ok (.iconst 0, 1) := dk_iconst_0 (by decide +kernel)
theorem dX12_rowBy_2 : decode cX12_rowBy 2 = .ok (.putfield 411, 3) := dk_putfield 411 (b1 := 1) (b2 := 155) (by decide +kernel) (by decide +kernel) (by decide +kernel) (by decide +kernel)
theorem dX12_rowBy_5 : decode cX12_rowBy 5 = .ok (.lload_n 1, 1) := dk_lload_n_1 (by decide +kernel)
theorem dX12_rowBy_6 : decode cX12_rowBy 6 = .ok (.lstore 6, 2) := dk_lstore 6 (b := 6) (by decide +kernel) (by decide +kernel) (by decide +kernel)
theorem dX12_rowBy_8 : decode cX12_rowBy 8 = .ok (.lload_n 3, 1) := dk_lload_n_3 (by decide +kernel)
theorem dX12_rowBy_9 : decode cX12_rowBy 9 = .ok (.lstore 8, 2) := dk_lstore 8 (b := 8) (by decide +kernel) (by decide +kernel) (by decide +kernel)
set_option maxRecDepth 20000 in
theorem vX12_rowBy_0 {E : sm_E} {L : sm_S → Prop} {d : Nat} {x1 : Int64} {x3 : Int64} {x5 : Int32}  {m : sm_M} {Q : sm_M → Prop} (hly : ∀ S, L S → ly S) (hd : 3 ≤ d) 
  (h : ∀ m_1 : sm_M, m_1 = sm_wI m 109 67 0 →
   gX12_rowBy_11 E L d ([.ref (sm_B E + 109), .long x1, .long x3, .int x5]) x5 x1 x3 m_1 Q) :
  sm_callV E L mX12_rowBy d 0 0 [.ref (sm_B E + 109), .long x1, .long x3, .int x5] m Q := by
  refine sm_enter (by decide +kernel) (by simp [lg_sl, Value.category]) ?_
  refine sm_aload_n (Y := mX12_rowBy) (pc := 0) 0 0 rfl rfl dX12_rowBy_0 ?_
  refine sm_iconst (Y := mX12_rowBy) (pc := 1) 0 (by decide) dX12_rowBy_1 ?_
  refine pf_RX12_411 (Y := mX12_rowBy) (pc := 2) rfl ((lk_109 hly) _) dX12_rowBy_2 (fun m_1 em_1 => ?_)
  replace h := h m_1 em_1
  refine sm_lload_n (Y := mX12_rowBy) (pc := 5) 1 1 rfl rfl dX12_rowBy_5 ?_
  refine sm_lstore0 (Y := mX12_rowBy) (pc := 6) [(6, .long x1), (0, .ref (sm_B E + 109)), (1, .long x1), (3, .long x3), (5, .int x5)] 6 (by decide) rfl dX12_rowBy_6 ?_
  refine sm_lload_n (Y := mX12_rowBy) (pc := 8) 3 3 rfl rfl dX12_rowBy_8 ?_
  refine sm_lstore0 (Y := mX12_rowBy) (pc := 9) [(8, .long x3), (6, .long x1), (0, .ref (sm_B E + 109)), (1, .long x1), (3, .long x3), (5, .int x5)] 8 (by decide) rfl dX12_rowBy_9 ?_
  refine sm_sub [2, 5, 1, 0] rfl ?_
  exact h
abbrev mX12_terms : sm_Y := (yX12_terms, cX12_terms, 7, (some FieldType.int))
theorem fX12_terms : sm_mi mX12_terms RX12 4 := ⟨sm_in 1677 (by decide +kernel) (by decide +kernel), sm_in 1675 (by decide +kernel) (by decide +kernel), sm_in 1676 (by decide +kernel) (by decide +kernel), sm_in 93 (by decide +kernel) (by decide +kernel), rfl, ⟨by decide +kernel, by decide +kernel, by decide +kernel⟩, by decide⟩
def gX12_terms_221 (E : sm_E) (L : sm_S → Prop) (d : Nat) (vs : List Value) (x1 : Int32) (x6 : Int32) (m : sm_M) (Q : Int32 → sm_M → Prop) : Prop := sm_go E L mX12_terms d 0 0 vs 221 [(0, .ref (sm_B E + 109)), (1, .int x1), (6, .int x6)] [] m 0 0 (sm_Z E L vs 0 0 (sm_QI Q))
def gX12_terms_192 (E : sm_E) (L : sm_S → Prop) (d : Nat) (vs : List Value) (x1 : Int32) (m : sm_M) (Q : Int32 → sm_M → Prop) : Prop := sm_go E L mX12_terms d 0 0 vs 192 [(0, .ref (sm_B E + 109)), (1, .int x1)] [] m 0 0 (sm_Z E L vs 0 0 (sm_QI Q))
def gX12_terms_163 (E : sm_E) (L : sm_S → Prop) (d : Nat) (vs : List Value) (x1 : Int32) (x6 : Int32) (m : sm_M) (Q : Int32 → sm_M → Prop) : Prop := sm_go E L mX12_terms d 0 0 vs 163 [(0, .ref (sm_B E + 109)), (1, .int x1), (6, .int x6)] [] m 0 0 (sm_Z E L vs 0 0 (sm_QI Q))
def gX12_terms_117 (E : sm_E) (L : sm_S → Prop) (d : Nat) (vs : List Value) (x1 : Int32) (x4 : Int32) (m : sm_M) (Q : Int32 → sm_M → Prop) : Prop := sm_go E L mX12_terms d 0 0 vs 117 [(0, .ref (sm_B E + 109)), (1, .int x1), (4, .int x4)] [] m 0 0 (sm_Z E L vs 0 0 (sm_QI Q))
def gX12_terms_37 (E : sm_E) (L : sm_S → Prop) (d : Nat) (vs : List Value) (x1 : Int32) (x2 : Int32) (x3 : Int32) (x4 : Int32) (s0 : Int32) (m : sm_M) (Q : Int32 → sm_M → Prop) : Prop := sm_go E L mX12_terms d 0 0 vs 37 [(0, .ref (sm_B E + 109)), (1, .int x1), (2, .int x2), (3, .int x3), (4, .int x4)] [.int s0] m 0 0 (sm_Z E L vs 0 0 (sm_QI Q))
theorem dX12_terms_221 : decode cX12_terms 221 = .ok (.iload 6, 2) := dk_iload 6 (b := 6) (by decide +kernel) (by decide +kernel) (by decide +kernel)
theorem dX12_terms_223 : decode cX12_terms 223 = .ok (.aload_n 0, 1) := dk_aload_n_0 (by decide +kernel)
theorem dX12_terms_224 : decode cX12_terms 224 = .ok (.getfield 411, 3) := dk_getfield 411 (b1 := 1) (b2 := 155) (by decide +kernel) (by decide +kernel) (by decide +kernel) (by decide +kernel)
theorem dX12_terms_227 : decode cX12_terms 227 = .ok (.if_icmp .ge 28, 3) := dk_if_icmp_ge 28 (b1 := 0) (b2 := 28) (by decide +kernel) (by decide +kernel) (by decide +kernel) (by decide +kernel)
theorem dX12_terms_255 : decode cX12_terms 255 = .ok (.aload_n 0, 1) := dk_aload_n_0 (by decide +kernel)
theorem dX12_terms_256 : decode cX12_terms 256 = .ok (.getfield 411, 3) := dk_getfield 411 (b1 := 1) (b2 := 155) (by decide +kernel) (by decide +kernel) (by decide +kernel) (by decide +kernel)
theorem dX12_terms_259 : decode cX12_terms 259 = .ok (.ireturn, 1) := dk_ireturn (by decide +kernel)
theorem dX12_terms_230 : decode cX12_terms 230 = .ok (.aload_n 0, 1) := dk_aload_n_0 (by decide +kernel)
theorem dX12_terms_231 : decode cX12_terms 231 = .ok (.getfield 44, 3) := dk_getfield 44 (b1 := 0) (b2 := 44) (by decide +kernel) (by decide +kernel) (by decide +kernel) (by decide +kernel)
theorem dX12_terms_234 : decode cX12_terms 234 = .ok (.bipush 48, 2) := dk_bipush 48 (b := 48) (by decide +kernel) (by decide +kernel) (by decide +kernel)
theorem dX12_terms_236 : decode cX12_terms 236 = .ok (.iload_n 1, 1) := dk_iload_n_1 (by decide +kernel)
theorem dX12_terms_237 : decode cX12_terms 237 = .ok (.imul, 1) := dk_imul (by decide +kernel)
theorem dX12_terms_238 : decode cX12_terms 238 = .ok (.iload 6, 2) := dk_iload 6 (b := 6) (by decide +kernel) (by decide +kernel) (by decide +kernel)
theorem dX12_terms_240 : decode cX12_terms 240 = .ok (.iadd, 1) := dk_iadd (by decide +kernel)
theorem dX12_terms_241 : decode cX12_terms 241 = .ok (.aload_n 0, 1) := dk_aload_n_0 (by decide +kernel)
theorem dX12_terms_242 : decode cX12_terms 242 = .ok (.getfield 130, 3) := dk_getfield 130 (b1 := 0) (b2 := 130) (by decide +kernel) (by decide +kernel) (by decide +kernel) (by decide +kernel)
theorem dX12_terms_245 : decode cX12_terms 245 = .ok (.iload 6, 2) := dk_iload 6 (b := 6) (by decide +kernel) (by decide +kernel) (by decide +kernel)
theorem dX12_terms_247 : decode cX12_terms 247 = .ok (.laload, 1) := dk_laload (by decide +kernel)
theorem dX12_terms_248 : decode cX12_terms 248 = .ok (.lastore, 1) := dk_lastore (by decide +kernel)
theorem dX12_terms_249 : decode cX12_terms 249 = .ok (.iinc 6 1, 3) := dk_iinc 6 1 (b1 := 6) (b2 := 1) (by decide +kernel) (by decide +kernel) (by decide +kernel) (by decide +kernel) (by decide +kernel)
theorem dX12_terms_252 : decode cX12_terms 252 = .ok (.goto (-31), 3) := dk_goto (-31) (b1 := 255) (b2 := 225) (by decide +kernel) (by decide +kernel) (by decide +kernel) (by decide +kernel)
set_option maxRecDepth 20000 in
theorem vX12_terms_221 {E : sm_E} {L : sm_S → Prop} {d : Nat} {vs : List Value} {x1 : Int32} {x6 : Int32}  {m : sm_M} {Q : Int32 → sm_M → Prop} (hly : ∀ S, L S → ly S) (hd : 4 ≤ d) 
  (h : ((m.1 109 67) ≤ x6 →
      Q (m.1 109 67) m) ∧
   (¬ (m.1 109 67) ≤ x6 →
      (vp_in x6 64) ∧ (vp_in (((48 : Int32) * x1) + x6) 192) ∧ ∀ m_2 : sm_M, m_2 = sm_wJ m 120 (((48 : Int32) * x1) + x6).toNatClampNeg (m.2.1 148 x6.toNatClampNeg) →
      ∀ x6_4 : Int32, x6_4 = x6 + 1 →
      gX12_terms_221 E L d vs x1 x6_4 m_2 Q)) :
  gX12_terms_221 E L d vs x1 x6 m Q := by
  refine sm_iload (Y := mX12_terms) (pc := 221) 2 6 rfl dX12_terms_221 ?_
  refine sm_aload_n (Y := mX12_terms) (pc := 223) 0 0 rfl rfl dX12_terms_223 ?_
  refine gf_RX12_411 (Y := mX12_terms) (pc := 224) rfl ((lk_109 hly) _) dX12_terms_224 ?_
  refine sm_icmp_ge (Y := mX12_terms) (pc := 227) 255 (by decide) dX12_terms_227 (fun hc => ?_) (fun hc => ?_)
  · replace h := h.1 hc
    refine sm_aload_n (Y := mX12_terms) (pc := 255) 0 0 rfl rfl dX12_terms_255 ?_
    refine gf_RX12_411 (Y := mX12_terms) (pc := 256) rfl ((lk_109 hly) _) dX12_terms_256 ?_
    exact sm_iret (Y := mX12_terms) (pc := 259) rfl rfl rfl dX12_terms_259 ⟨_, rfl, h⟩
  · replace h := h.2 hc
    refine sm_aload_n (Y := mX12_terms) (pc := 230) 0 0 rfl rfl dX12_terms_230 ?_
    refine gf_RX12_44 (Y := mX12_terms) (pc := 231) (b := 120) rfl ((lk_109 hly) _) (lf_109_16 hly _) dX12_terms_231 ?_
    refine sm_bipush (Y := mX12_terms) (pc := 234) 48 (by decide) dX12_terms_234 ?_
    refine sm_iload_n (Y := mX12_terms) (pc := 236) 1 1 rfl rfl dX12_terms_236 ?_
    refine sm_imul (Y := mX12_terms) (pc := 237) dX12_terms_237 ?_
    refine sm_iload (Y := mX12_terms) (pc := 238) 2 6 rfl dX12_terms_238 ?_
    refine sm_iadd (Y := mX12_terms) (pc := 240) dX12_terms_240 ?_
    refine sm_aload_n (Y := mX12_terms) (pc := 241) 0 0 rfl rfl dX12_terms_241 ?_
    refine gf_RX12_130 (Y := mX12_terms) (pc := 242) (b := 148) rfl ((lk_109 hly) _) (lf_109_66 hly _) dX12_terms_242 ?_
    refine sm_iload (Y := mX12_terms) (pc := 245) 2 6 rfl dX12_terms_245 ?_
    obtain ⟨hn_1, h⟩ := h
    refine sm_lald (Y := mX12_terms) (pc := 247) (la_148 hly _) hn_1 dX12_terms_247 ?_
    obtain ⟨hn_3, h⟩ := h
    refine sm_last (Y := mX12_terms) (pc := 248) (la_120 hly _) hn_3 dX12_terms_248 (fun m_2 em_2 => ?_)
    replace h := h m_2 em_2
    refine sm_iinc (Y := mX12_terms) (pc := 249) (fun y => [(6, .int y), (0, .ref (sm_B E + 109)), (1, .int x1)]) 2 6 rfl (by decide) (fun _ => rfl) dX12_terms_249 (fun x6_4 ex6_4 => ?_)
    replace h := h x6_4 ex6_4
    refine sm_goto (Y := mX12_terms) (pc := 252) 221 (by decide) dX12_terms_252 ?_
    refine sm_sub [1, 2, 0] rfl ?_
    exact h
theorem dX12_terms_192 : decode cX12_terms 192 = .ok (.aload_n 0, 1) := dk_aload_n_0 (by decide +kernel)
theorem dX12_terms_193 : decode cX12_terms 193 = .ok (.getfield 411, 3) := dk_getfield 411 (b1 := 1) (b2 := 155) (by decide +kernel) (by decide +kernel) (by decide +kernel) (by decide +kernel)
theorem dX12_terms_196 : decode cX12_terms 196 = .ok (.bipush 48, 2) := dk_bipush 48 (b := 48) (by decide +kernel) (by decide +kernel) (by decide +kernel)
theorem dX12_terms_198 : decode cX12_terms 198 = .ok (.if_icmp .le 9, 3) := dk_if_icmp_le 9 (b1 := 0) (b2 := 9) (by decide +kernel) (by decide +kernel) (by decide +kernel) (by decide +kernel)
theorem dX12_terms_207 : decode cX12_terms 207 = .ok (.aload_n 0, 1) := dk_aload_n_0 (by decide +kernel)
theorem dX12_terms_208 : decode cX12_terms 208 = .ok (.iload_n 1, 1) := dk_iload_n_1 (by decide +kernel)
theorem dX12_terms_209 : decode cX12_terms 209 = .ok (.bipush 64, 2) := dk_bipush 64 (b := 64) (by decide +kernel) (by decide +kernel) (by decide +kernel)
theorem dX12_terms_211 : decode cX12_terms 211 = .ok (.aload_n 0, 1) := dk_aload_n_0 (by decide +kernel)
theorem dX12_terms_212 : decode cX12_terms 212 = .ok (.getfield 411, 3) := dk_getfield 411 (b1 := 1) (b2 := 155) (by decide +kernel) (by decide +kernel) (by decide +kernel) (by decide +kernel)
theorem dX12_terms_215 : decode cX12_terms 215 = .ok (.invokevirtual 339, 3) := dk_invokevirtual 339 (b1 := 1) (b2 := 83) (by decide +kernel) (by decide +kernel) (by decide +kernel) (by decide +kernel)
theorem dX12_terms_218 : decode cX12_terms 218 = .ok (.iconst 0, 1) := dk_iconst_0 (by decide +kernel)
theorem dX12_terms_219 : decode cX12_terms 219 = .ok (.istore 6, 2) := dk_istore 6 (b := 6) (by decide +kernel) (by decide +kernel) (by decide +kernel)
theorem dX12_terms_201 : decode cX12_terms 201 = .ok (.aload_n 0, 1) := dk_aload_n_0 (by decide +kernel)
theorem dX12_terms_202 : decode cX12_terms 202 = .ok (.iconst 4, 1) := dk_iconst_4 (by decide +kernel)
theorem dX12_terms_203 : decode cX12_terms 203 = .ok (.invokevirtual 194, 3) := dk_invokevirtual 194 (b1 := 0) (b2 := 194) (by decide +kernel) (by decide +kernel) (by decide +kernel) (by decide +kernel)
theorem dX12_terms_206 : decode cX12_terms 206 = .ok (.ireturn, 1) := dk_ireturn (by decide +kernel)
set_option maxRecDepth 20000 in
theorem vX12_terms_192 {E : sm_E} {L : sm_S → Prop} {d : Nat} {vs : List Value} {x1 : Int32}  {m : sm_M} {Q : Int32 → sm_M → Prop} (hly : ∀ S, L S → ly S) (hd : 4 ≤ d) 
  (h : ((m.1 109 67) ≤ 48 →
      sm_callV E L mX12_lays 1 0 0 [.ref (sm_B E + 109), .int x1, .int 64, .int (m.1 109 67)] m (fun m_1 =>
      gX12_terms_221 E L d vs x1 0 m_1 Q)) ∧
   (¬ (m.1 109 67) ≤ 48 →
      sm_callI E L mX12_finds 1 0 0 [.ref (sm_B E + 109), .int 4] m (fun r_4 m_3 =>
      Q r_4 m_3))) :
  gX12_terms_192 E L d vs x1 m Q := by
  refine sm_aload_n (Y := mX12_terms) (pc := 192) 0 0 rfl rfl dX12_terms_192 ?_
  refine gf_RX12_411 (Y := mX12_terms) (pc := 193) rfl ((lk_109 hly) _) dX12_terms_193 ?_
  refine sm_bipush (Y := mX12_terms) (pc := 196) 48 (by decide) dX12_terms_196 ?_
  refine sm_icmp_le (Y := mX12_terms) (pc := 198) 207 (by decide) dX12_terms_198 (fun hc => ?_) (fun hc => ?_)
  · replace h := h.1 hc
    refine sm_aload_n (Y := mX12_terms) (pc := 207) 0 0 rfl rfl dX12_terms_207 ?_
    refine sm_iload_n (Y := mX12_terms) (pc := 208) 1 1 rfl rfl dX12_terms_208 ?_
    refine sm_bipush (Y := mX12_terms) (pc := 209) 64 (by decide) dX12_terms_209 ?_
    refine sm_aload_n (Y := mX12_terms) (pc := 211) 0 0 rfl rfl dX12_terms_211 ?_
    refine gf_RX12_411 (Y := mX12_terms) (pc := 212) rfl ((lk_109 hly) _) dX12_terms_212 ?_
    refine sm_iv_V (Y := mX12_terms) (pc := 215) (As := [.int x1, .int 64, .int (m.1 109 67)]) (a := 109) fX12_lays wRX12_339 (lk_109 hly) (by decide) rfl rfl rfl (Nat.le_trans (by decide) hd) (Nat.le_of_ble_eq_true rfl) ⟨Nat.le_refl _, Nat.le_refl _⟩ dX12_terms_215 rfl (sm_monoV h (fun m_1 h => ?_))
    refine sm_iconst (Y := mX12_terms) (pc := 218) 0 (by decide) dX12_terms_218 ?_
    refine sm_istore0 (Y := mX12_terms) (pc := 219) [(6, .int 0), (0, .ref (sm_B E + 109)), (1, .int x1)] 6 (by decide) rfl dX12_terms_219 ?_
    refine sm_sub [1, 2, 0] rfl ?_
    exact h
  · replace h := h.2 hc
    refine sm_aload_n (Y := mX12_terms) (pc := 201) 0 0 rfl rfl dX12_terms_201 ?_
    refine sm_iconst (Y := mX12_terms) (pc := 202) 4 (by decide) dX12_terms_202 ?_
    refine sm_iv_I (Y := mX12_terms) (pc := 203) (As := [.int 4]) (a := 109) fX12_finds wRX12_194 (lk_109 hly) (by decide) rfl rfl rfl (Nat.le_trans (by decide) hd) (Nat.le_of_ble_eq_true rfl) ⟨Nat.le_refl _, Nat.le_refl _⟩ dX12_terms_203 rfl (sm_monoI h (fun r_4 m_3 h => ?_))
    exact sm_iret (Y := mX12_terms) (pc := 206) rfl rfl rfl dX12_terms_206 ⟨_, rfl, h⟩
theorem dX12_terms_163 : decode cX12_terms 163 = .ok (.iload 6, 2) := dk_iload 6 (b := 6) (by decide +kernel) (by decide +kernel) (by decide +kernel)
theorem dX12_terms_165 : decode cX12_terms 165 = .ok (.aload_n 0, 1) := dk_aload_n_0 (by decide +kernel)
theorem dX12_terms_166 : decode cX12_terms 166 = .ok (.getfield 271, 3) := dk_getfield 271 (b1 := 1) (b2 := 15) (by decide +kernel) (by decide +kernel) (by decide +kernel) (by decide +kernel)
theorem dX12_terms_169 : decode cX12_terms 169 = .ok (.if_icmp .ge 23, 3) := dk_if_icmp_ge 23 (b1 := 0) (b2 := 23) (by decide +kernel) (by decide +kernel) (by decide +kernel) (by decide +kernel)
theorem dX12_terms_172 : decode cX12_terms 172 = .ok (.aload_n 0, 1) := dk_aload_n_0 (by decide +kernel)
theorem dX12_terms_173 : decode cX12_terms 173 = .ok (.getfield 130, 3) := dk_getfield 130 (b1 := 0) (b2 := 130) (by decide +kernel) (by decide +kernel) (by decide +kernel) (by decide +kernel)
theorem dX12_terms_176 : decode cX12_terms 176 = .ok (.iload 6, 2) := dk_iload 6 (b := 6) (by decide +kernel) (by decide +kernel) (by decide +kernel)
theorem dX12_terms_178 : decode cX12_terms 178 = .ok (.aload_n 0, 1) := dk_aload_n_0 (by decide +kernel)
theorem dX12_terms_179 : decode cX12_terms 179 = .ok (.getfield 67, 3) := dk_getfield 67 (b1 := 0) (b2 := 67) (by decide +kernel) (by decide +kernel) (by decide +kernel) (by decide +kernel)
theorem dX12_terms_182 : decode cX12_terms 182 = .ok (.iload 6, 2) := dk_iload 6 (b := 6) (by decide +kernel) (by decide +kernel) (by decide +kernel)
theorem dX12_terms_184 : decode cX12_terms 184 = .ok (.laload, 1) := dk_laload (by decide +kernel)
theorem dX12_terms_185 : decode cX12_terms 185 = .ok (.lastore, 1) := dk_lastore (by decide +kernel)
theorem dX12_terms_186 : decode cX12_terms 186 = .ok (.iinc 6 1, 3) := dk_iinc 6 1 (b1 := 6) (b2 := 1) (by decide +kernel) (by decide +kernel) (by decide +kernel) (by decide +kernel) (by decide +kernel)
theorem dX12_terms_189 : decode cX12_terms 189 = .ok (.goto (-26), 3) := dk_goto (-26) (b1 := 255) (b2 := 230) (by decide +kernel) (by decide +kernel) (by decide +kernel) (by decide +kernel)
set_option maxRecDepth 20000 in
theorem vX12_terms_163 {E : sm_E} {L : sm_S → Prop} {d : Nat} {vs : List Value} {x1 : Int32} {x6 : Int32}  {m : sm_M} {Q : Int32 → sm_M → Prop} (hly : ∀ S, L S → ly S) (hd : 4 ≤ d) 
  (h : ((m.1 109 36) ≤ x6 →
      gX12_terms_192 E L d vs x1 m Q) ∧
   (¬ (m.1 109 36) ≤ x6 →
      (vp_in x6 64) ∧ (vp_in x6 64) ∧ ∀ m_2 : sm_M, m_2 = sm_wJ m 148 x6.toNatClampNeg (m.2.1 127 x6.toNatClampNeg) →
      ∀ x6_4 : Int32, x6_4 = x6 + 1 →
      gX12_terms_163 E L d vs x1 x6_4 m_2 Q)) :
  gX12_terms_163 E L d vs x1 x6 m Q := by
  refine sm_iload (Y := mX12_terms) (pc := 163) 2 6 rfl dX12_terms_163 ?_
  refine sm_aload_n (Y := mX12_terms) (pc := 165) 0 0 rfl rfl dX12_terms_165 ?_
  refine gf_RX12_271 (Y := mX12_terms) (pc := 166) rfl ((lk_109 hly) _) dX12_terms_166 ?_
  refine sm_icmp_ge (Y := mX12_terms) (pc := 169) 192 (by decide) dX12_terms_169 (fun hc => ?_) (fun hc => ?_)
  · replace h := h.1 hc
    refine sm_sub [0, 1] rfl ?_
    exact h
  · replace h := h.2 hc
    refine sm_aload_n (Y := mX12_terms) (pc := 172) 0 0 rfl rfl dX12_terms_172 ?_
    refine gf_RX12_130 (Y := mX12_terms) (pc := 173) (b := 148) rfl ((lk_109 hly) _) (lf_109_66 hly _) dX12_terms_173 ?_
    refine sm_iload (Y := mX12_terms) (pc := 176) 2 6 rfl dX12_terms_176 ?_
    refine sm_aload_n (Y := mX12_terms) (pc := 178) 0 0 rfl rfl dX12_terms_178 ?_
    refine gf_RX12_67 (Y := mX12_terms) (pc := 179) (b := 127) rfl ((lk_109 hly) _) (lf_109_35 hly _) dX12_terms_179 ?_
    refine sm_iload (Y := mX12_terms) (pc := 182) 2 6 rfl dX12_terms_182 ?_
    obtain ⟨hn_1, h⟩ := h
    refine sm_lald (Y := mX12_terms) (pc := 184) (la_127 hly _) hn_1 dX12_terms_184 ?_
    obtain ⟨hn_3, h⟩ := h
    refine sm_last (Y := mX12_terms) (pc := 185) (la_148 hly _) hn_3 dX12_terms_185 (fun m_2 em_2 => ?_)
    replace h := h m_2 em_2
    refine sm_iinc (Y := mX12_terms) (pc := 186) (fun y => [(6, .int y), (0, .ref (sm_B E + 109)), (1, .int x1)]) 2 6 rfl (by decide) (fun _ => rfl) dX12_terms_186 (fun x6_4 ex6_4 => ?_)
    replace h := h x6_4 ex6_4
    refine sm_goto (Y := mX12_terms) (pc := 189) 163 (by decide) dX12_terms_189 ?_
    refine sm_sub [1, 2, 0] rfl ?_
    exact h
theorem dX12_terms_117 : decode cX12_terms 117 = .ok (.iload 4, 2) := dk_iload 4 (b := 4) (by decide +kernel) (by decide +kernel) (by decide +kernel)
theorem dX12_terms_119 : decode cX12_terms 119 = .ok (.iconst 3, 1) := dk_iconst_3 (by decide +kernel)
theorem dX12_terms_120 : decode cX12_terms 120 = .ok (.if_icmp .ge 20, 3) := dk_if_icmp_ge 20 (b1 := 0) (b2 := 20) (by decide +kernel) (by decide +kernel) (by decide +kernel) (by decide +kernel)
theorem dX12_terms_140 : decode cX12_terms 140 = .ok (.aload_n 0, 1) := dk_aload_n_0 (by decide +kernel)
theorem dX12_terms_141 : decode cX12_terms 141 = .ok (.aload_n 0, 1) := dk_aload_n_0 (by decide +kernel)
theorem dX12_terms_142 : decode cX12_terms 142 = .ok (.getfield 170, 3) := dk_getfield 170 (b1 := 0) (b2 := 170) (by decide +kernel) (by decide +kernel) (by decide +kernel) (by decide +kernel)
theorem dX12_terms_145 : decode cX12_terms 145 = .ok (.aload_n 0, 1) := dk_aload_n_0 (by decide +kernel)
theorem dX12_terms_146 : decode cX12_terms 146 = .ok (.getfield 173, 3) := dk_getfield 173 (b1 := 0) (b2 := 173) (by decide +kernel) (by decide +kernel) (by decide +kernel) (by decide +kernel)
theorem dX12_terms_149 : decode cX12_terms 149 = .ok (.invokevirtual 274, 3) := dk_invokevirtual 274 (b1 := 1) (b2 := 18) (by decide +kernel) (by decide +kernel) (by decide +kernel) (by decide +kernel)
theorem dX12_terms_152 : decode cX12_terms 152 = .ok (.aload_n 0, 1) := dk_aload_n_0 (by decide +kernel)
theorem dX12_terms_153 : decode cX12_terms 153 = .ok (.aload_n 0, 1) := dk_aload_n_0 (by decide +kernel)
theorem dX12_terms_154 : decode cX12_terms 154 = .ok (.getfield 271, 3) := dk_getfield 271 (b1 := 1) (b2 := 15) (by decide +kernel) (by decide +kernel) (by decide +kernel) (by decide +kernel)
theorem dX12_terms_157 : decode cX12_terms 157 = .ok (.putfield 411, 3) := dk_putfield 411 (b1 := 1) (b2 := 155) (by decide +kernel) (by decide +kernel) (by decide +kernel) (by decide +kernel)
theorem dX12_terms_160 : decode cX12_terms 160 = .ok (.iconst 0, 1) := dk_iconst_0 (by decide +kernel)
theorem dX12_terms_161 : decode cX12_terms 161 = .ok (.istore 6, 2) := dk_istore 6 (b := 6) (by decide +kernel) (by decide +kernel) (by decide +kernel)
theorem dX12_terms_123 : decode cX12_terms 123 = .ok (.aload_n 0, 1) := dk_aload_n_0 (by decide +kernel)
theorem dX12_terms_124 : decode cX12_terms 124 = .ok (.aload_n 0, 1) := dk_aload_n_0 (by decide +kernel)
theorem dX12_terms_125 : decode cX12_terms 125 = .ok (.getfield 170, 3) := dk_getfield 170 (b1 := 0) (b2 := 170) (by decide +kernel) (by decide +kernel) (by decide +kernel) (by decide +kernel)
theorem dX12_terms_128 : decode cX12_terms 128 = .ok (.aload_n 0, 1) := dk_aload_n_0 (by decide +kernel)
theorem dX12_terms_129 : decode cX12_terms 129 = .ok (.getfield 173, 3) := dk_getfield 173 (b1 := 0) (b2 := 173) (by decide +kernel) (by decide +kernel) (by decide +kernel) (by decide +kernel)
theorem dX12_terms_132 : decode cX12_terms 132 = .ok (.iload 4, 2) := dk_iload 4 (b := 4) (by decide +kernel) (by decide +kernel) (by decide +kernel)
theorem wRX12_420 : Cond.methodLink RX12 420 yX12_rowBy ∈ sm_T := sm_in 1681 (by decide +kernel) (by decide +kernel)
theorem dX12_terms_134 : decode cX12_terms 134 = .ok (.invokevirtual 420, 3) := dk_invokevirtual 420 (b1 := 1) (b2 := 164) (by decide +kernel) (by decide +kernel) (by decide +kernel) (by decide +kernel)
theorem dX12_terms_137 : decode cX12_terms 137 = .ok (.goto 55, 3) := dk_goto 55 (b1 := 0) (b2 := 55) (by decide +kernel) (by decide +kernel) (by decide +kernel) (by decide +kernel)
set_option maxRecDepth 20000 in
theorem vX12_terms_117 {E : sm_E} {L : sm_S → Prop} {d : Nat} {vs : List Value} {x1 : Int32} {x4 : Int32}  {m : sm_M} {Q : Int32 → sm_M → Prop} (hly : ∀ S, L S → ly S) (hd : 4 ≤ d) 
  (h : (3 ≤ x4 →
      sm_callV E L mX12_termsOf 1 0 0 [.ref (sm_B E + 109), .long (m.2.1 109 29), .long (m.2.1 109 30)] m (fun m_1 =>
      ∀ m_2 : sm_M, m_2 = sm_wI m_1 109 67 (m_1.1 109 36) →
      gX12_terms_163 E L d vs x1 0 m_2 Q)) ∧
   (¬ 3 ≤ x4 →
      sm_callV E L mX12_rowBy 3 0 0 [.ref (sm_B E + 109), .long (m.2.1 109 29), .long (m.2.1 109 30), .int x4] m (fun m_4 =>
      gX12_terms_192 E L d vs x1 m_4 Q))) :
  gX12_terms_117 E L d vs x1 x4 m Q := by
  refine sm_iload (Y := mX12_terms) (pc := 117) 2 4 rfl dX12_terms_117 ?_
  refine sm_iconst (Y := mX12_terms) (pc := 119) 3 (by decide) dX12_terms_119 ?_
  refine sm_icmp_ge (Y := mX12_terms) (pc := 120) 140 (by decide) dX12_terms_120 (fun hc => ?_) (fun hc => ?_)
  · replace h := h.1 hc
    refine sm_aload_n (Y := mX12_terms) (pc := 140) 0 0 rfl rfl dX12_terms_140 ?_
    refine sm_aload_n (Y := mX12_terms) (pc := 141) 0 0 rfl rfl dX12_terms_141 ?_
    refine gf_RX12_170 (Y := mX12_terms) (pc := 142) rfl ((lk_109 hly) _) dX12_terms_142 ?_
    refine sm_aload_n (Y := mX12_terms) (pc := 145) 0 0 rfl rfl dX12_terms_145 ?_
    refine gf_RX12_173 (Y := mX12_terms) (pc := 146) rfl ((lk_109 hly) _) dX12_terms_146 ?_
    refine sm_iv_V (Y := mX12_terms) (pc := 149) (As := [.long (m.2.1 109 29), .long (m.2.1 109 30)]) (a := 109) fX12_termsOf wRX12_274 (lk_109 hly) (by decide) rfl rfl rfl (Nat.le_trans (by decide) hd) (Nat.le_of_ble_eq_true rfl) ⟨Nat.le_refl _, Nat.le_refl _⟩ dX12_terms_149 rfl (sm_monoV h (fun m_1 h => ?_))
    refine sm_aload_n (Y := mX12_terms) (pc := 152) 0 0 rfl rfl dX12_terms_152 ?_
    refine sm_aload_n (Y := mX12_terms) (pc := 153) 0 0 rfl rfl dX12_terms_153 ?_
    refine gf_RX12_271 (Y := mX12_terms) (pc := 154) rfl ((lk_109 hly) _) dX12_terms_154 ?_
    refine pf_RX12_411 (Y := mX12_terms) (pc := 157) rfl ((lk_109 hly) _) dX12_terms_157 (fun m_2 em_2 => ?_)
    replace h := h m_2 em_2
    refine sm_iconst (Y := mX12_terms) (pc := 160) 0 (by decide) dX12_terms_160 ?_
    refine sm_istore0 (Y := mX12_terms) (pc := 161) [(6, .int 0), (0, .ref (sm_B E + 109)), (1, .int x1), (4, .int x4)] 6 (by decide) rfl dX12_terms_161 ?_
    refine sm_sub [1, 2, 0] rfl ?_
    exact h
  · replace h := h.2 hc
    refine sm_aload_n (Y := mX12_terms) (pc := 123) 0 0 rfl rfl dX12_terms_123 ?_
    refine sm_aload_n (Y := mX12_terms) (pc := 124) 0 0 rfl rfl dX12_terms_124 ?_
    refine gf_RX12_170 (Y := mX12_terms) (pc := 125) rfl ((lk_109 hly) _) dX12_terms_125 ?_
    refine sm_aload_n (Y := mX12_terms) (pc := 128) 0 0 rfl rfl dX12_terms_128 ?_
    refine gf_RX12_173 (Y := mX12_terms) (pc := 129) rfl ((lk_109 hly) _) dX12_terms_129 ?_
    refine sm_iload (Y := mX12_terms) (pc := 132) 2 4 rfl dX12_terms_132 ?_
    refine sm_iv_V (Y := mX12_terms) (pc := 134) (As := [.long (m.2.1 109 29), .long (m.2.1 109 30), .int x4]) (a := 109) fX12_rowBy wRX12_420 (lk_109 hly) (by decide) rfl rfl rfl (Nat.le_trans (by decide) hd) (Nat.le_of_ble_eq_true rfl) ⟨Nat.le_refl _, Nat.le_refl _⟩ dX12_terms_134 rfl (sm_monoV h (fun m_4 h => ?_))
    refine sm_goto (Y := mX12_terms) (pc := 137) 192 (by decide) dX12_terms_137 ?_
    refine sm_sub [0, 1] rfl ?_
    exact h
theorem dX12_terms_37 : decode cX12_terms 37 = .ok (.istore 5, 2) := dk_istore 5 (b := 5) (by decide +kernel) (by decide +kernel) (by decide +kernel)
theorem dX12_terms_39 : decode cX12_terms 39 = .ok (.iload_n 1, 1) := dk_iload_n_1 (by decide +kernel)
theorem dX12_terms_40 : decode cX12_terms 40 = .ok (.invokestatic 336, 3) := dk_invokestatic 336 (b1 := 1) (b2 := 80) (by decide +kernel) (by decide +kernel) (by decide +kernel) (by decide +kernel)
theorem dX12_terms_43 : decode cX12_terms 43 = .ok (.ifCond .eq 21, 3) := dk_ifCond_eq 21 (b1 := 0) (b2 := 21) (by decide +kernel) (by decide +kernel) (by decide +kernel) (by decide +kernel)
theorem dX12_terms_64 : decode cX12_terms 64 = .ok (.aload_n 0, 1) := dk_aload_n_0 (by decide +kernel)
theorem dX12_terms_65 : decode cX12_terms 65 = .ok (.iconst 1, 1) := dk_iconst_1 (by decide +kernel)
theorem dX12_terms_66 : decode cX12_terms 66 = .ok (.invokevirtual 194, 3) := dk_invokevirtual 194 (b1 := 0) (b2 := 194) (by decide +kernel) (by decide +kernel) (by decide +kernel) (by decide +kernel)
theorem dX12_terms_69 : decode cX12_terms 69 = .ok (.ireturn, 1) := dk_ireturn (by decide +kernel)
theorem dX12_terms_46 : decode cX12_terms 46 = .ok (.iload 5, 2) := dk_iload 5 (b := 5) (by decide +kernel) (by decide +kernel) (by decide +kernel)
theorem dX12_terms_48 : decode cX12_terms 48 = .ok (.ifCond .eq 16, 3) := dk_ifCond_eq 16 (b1 := 0) (b2 := 16) (by decide +kernel) (by decide +kernel) (by decide +kernel) (by decide +kernel)
theorem dX12_terms_51 : decode cX12_terms 51 = .ok (.iload 4, 2) := dk_iload 4 (b := 4) (by decide +kernel) (by decide +kernel) (by decide +kernel)
theorem dX12_terms_53 : decode cX12_terms 53 = .ok (.i2l, 1) := dk_i2l (by decide +kernel)
theorem dX12_terms_54 : decode cX12_terms 54 = .ok (.lconst 0, 1) := dk_lconst_0 (by decide +kernel)
theorem wRX12_418 : Cond.constantLong RX12 418 3 ∈ sm_T := sm_in 1680 (by decide +kernel) (by decide +kernel)
theorem dX12_terms_55 : decode cX12_terms 55 = .ok (.ldc2_w 418, 3) := dk_ldc2_w 418 (b1 := 1) (b2 := 162) (by decide +kernel) (by decide +kernel) (by decide +kernel) (by decide +kernel)
theorem dX12_terms_58 : decode cX12_terms 58 = .ok (.invokestatic 190, 3) := dk_invokestatic 190 (b1 := 0) (b2 := 190) (by decide +kernel) (by decide +kernel) (by decide +kernel) (by decide +kernel)
theorem dX12_terms_61 : decode cX12_terms 61 = .ok (.ifCond .ne 9, 3) := dk_ifCond_ne 9 (b1 := 0) (b2 := 9) (by decide +kernel) (by decide +kernel) (by decide +kernel) (by decide +kernel)
theorem dX12_terms_70 : decode cX12_terms 70 = .ok (.aload_n 0, 1) := dk_aload_n_0 (by decide +kernel)
theorem dX12_terms_71 : decode cX12_terms 71 = .ok (.iload_n 2, 1) := dk_iload_n_2 (by decide +kernel)
theorem dX12_terms_72 : decode cX12_terms 72 = .ok (.i2l, 1) := dk_i2l (by decide +kernel)
theorem dX12_terms_73 : decode cX12_terms 73 = .ok (.iload_n 3, 1) := dk_iload_n_3 (by decide +kernel)
theorem dX12_terms_74 : decode cX12_terms 74 = .ok (.i2l, 1) := dk_i2l (by decide +kernel)
theorem dX12_terms_75 : decode cX12_terms 75 = .ok (.invokevirtual 180, 3) := dk_invokevirtual 180 (b1 := 0) (b2 := 180) (by decide +kernel) (by decide +kernel) (by decide +kernel) (by decide +kernel)
theorem dX12_terms_78 : decode cX12_terms 78 = .ok (.pop, 1) := dk_pop (by decide +kernel)
theorem dX12_terms_79 : decode cX12_terms 79 = .ok (.iload 4, 2) := dk_iload 4 (b := 4) (by decide +kernel) (by decide +kernel) (by decide +kernel)
theorem dX12_terms_81 : decode cX12_terms 81 = .ok (.iconst 2, 1) := dk_iconst_2 (by decide +kernel)
theorem dX12_terms_82 : decode cX12_terms 82 = .ok (.if_icmp .ne 35, 3) := dk_if_icmp_ne 35 (b1 := 0) (b2 := 35) (by decide +kernel) (by decide +kernel) (by decide +kernel) (by decide +kernel)
theorem dX12_terms_85 : decode cX12_terms 85 = .ok (.aload_n 0, 1) := dk_aload_n_0 (by decide +kernel)
theorem dX12_terms_86 : decode cX12_terms 86 = .ok (.getfield 170, 3) := dk_getfield 170 (b1 := 0) (b2 := 170) (by decide +kernel) (by decide +kernel) (by decide +kernel) (by decide +kernel)
theorem dX12_terms_89 : decode cX12_terms 89 = .ok (.ldc2_w 334, 3) := dk_ldc2_w 334 (b1 := 1) (b2 := 78) (by decide +kernel) (by decide +kernel) (by decide +kernel) (by decide +kernel)
theorem dX12_terms_92 : decode cX12_terms 92 = .ok (.lrem, 1) := dk_lrem (by decide +kernel)
theorem dX12_terms_93 : decode cX12_terms 93 = .ok (.lconst 0, 1) := dk_lconst_0 (by decide +kernel)
theorem dX12_terms_94 : decode cX12_terms 94 = .ok (.lcmp, 1) := dk_lcmp (by decide +kernel)
theorem dX12_terms_95 : decode cX12_terms 95 = .ok (.ifCond .eq 22, 3) := dk_ifCond_eq 22 (b1 := 0) (b2 := 22) (by decide +kernel) (by decide +kernel) (by decide +kernel) (by decide +kernel)
theorem dX12_terms_98 : decode cX12_terms 98 = .ok (.aload_n 0, 1) := dk_aload_n_0 (by decide +kernel)
theorem dX12_terms_99 : decode cX12_terms 99 = .ok (.getfield 173, 3) := dk_getfield 173 (b1 := 0) (b2 := 173) (by decide +kernel) (by decide +kernel) (by decide +kernel) (by decide +kernel)
theorem dX12_terms_102 : decode cX12_terms 102 = .ok (.ldc2_w 334, 3) := dk_ldc2_w 334 (b1 := 1) (b2 := 78) (by decide +kernel) (by decide +kernel) (by decide +kernel) (by decide +kernel)
theorem dX12_terms_105 : decode cX12_terms 105 = .ok (.lrem, 1) := dk_lrem (by decide +kernel)
theorem dX12_terms_106 : decode cX12_terms 106 = .ok (.lconst 0, 1) := dk_lconst_0 (by decide +kernel)
theorem dX12_terms_107 : decode cX12_terms 107 = .ok (.lcmp, 1) := dk_lcmp (by decide +kernel)
theorem dX12_terms_108 : decode cX12_terms 108 = .ok (.ifCond .eq 9, 3) := dk_ifCond_eq 9 (b1 := 0) (b2 := 9) (by decide +kernel) (by decide +kernel) (by decide +kernel) (by decide +kernel)
theorem dX12_terms_111 : decode cX12_terms 111 = .ok (.aload_n 0, 1) := dk_aload_n_0 (by decide +kernel)
theorem dX12_terms_112 : decode cX12_terms 112 = .ok (.iconst 3, 1) := dk_iconst_3 (by decide +kernel)
theorem dX12_terms_113 : decode cX12_terms 113 = .ok (.invokevirtual 194, 3) := dk_invokevirtual 194 (b1 := 0) (b2 := 194) (by decide +kernel) (by decide +kernel) (by decide +kernel) (by decide +kernel)
theorem dX12_terms_116 : decode cX12_terms 116 = .ok (.ireturn, 1) := dk_ireturn (by decide +kernel)
set_option maxRecDepth 20000 in
theorem vX12_terms_37 {E : sm_E} {L : sm_S → Prop} {d : Nat} {vs : List Value} {x1 : Int32} {x2 : Int32} {x3 : Int32} {x4 : Int32} {s0 : Int32}  {m : sm_M} {Q : Int32 → sm_M → Prop} (hly : ∀ S, L S → ly S) (hd : 4 ≤ d) 
  (h : sm_callI E L mX12_isSheet 1 0 0 [.int x1] m (fun r_3 m_2 =>
   (r_3 = 0 →
      sm_callI E L mX12_finds 1 0 0 [.ref (sm_B E + 109), .int 1] m_2 (fun r_5 m_4 =>
      Q r_5 m_4)) ∧
   (¬ r_3 = 0 →
      (s0 = 0 →
         sm_callI E L mX12_finds 1 0 0 [.ref (sm_B E + 109), .int 1] m_2 (fun r_7 m_6 =>
         Q r_7 m_6)) ∧
      (¬ s0 = 0 →
         sm_callI E L mX12_isIn 1 0 0 [.long (x4.toInt64), .long 0, .long 3] m_2 (fun r_9 m_8 =>
         (¬ r_9 = 0 →
            sm_callI E L mX12_fractionOf 2 0 0 [.ref (sm_B E + 109), .long (x2.toInt64), .long (x3.toInt64)] m_8 (fun r_11 m_10 =>
            (¬ x4 = 2 →
               gX12_terms_117 E L d vs x1 x4 m_10 Q) ∧
            (x4 = 2 →
               ((sm_remL (m_10.2.1 109 29) 2) = 0 →
                  gX12_terms_117 E L d vs x1 x4 m_10 Q) ∧
               (¬ (sm_remL (m_10.2.1 109 29) 2) = 0 →
                  ((sm_remL (m_10.2.1 109 30) 2) = 0 →
                     gX12_terms_117 E L d vs x1 x4 m_10 Q) ∧
                  (¬ (sm_remL (m_10.2.1 109 30) 2) = 0 →
                     sm_callI E L mX12_finds 1 0 0 [.ref (sm_B E + 109), .int 3] m_10 (fun r_13 m_12 =>
                     Q r_13 m_12)))))) ∧
         (r_9 = 0 →
            sm_callI E L mX12_finds 1 0 0 [.ref (sm_B E + 109), .int 1] m_8 (fun r_15 m_14 =>
            Q r_15 m_14))))))) :
  gX12_terms_37 E L d vs x1 x2 x3 x4 s0 m Q := by
  refine sm_istore0 (Y := mX12_terms) (pc := 37) [(5, .int s0), (0, .ref (sm_B E + 109)), (1, .int x1), (2, .int x2), (3, .int x3), (4, .int x4)] 5 (by decide) rfl dX12_terms_37 ?_
  refine sm_iload_n (Y := mX12_terms) (pc := 39) 2 1 rfl rfl dX12_terms_39 ?_
  refine sm_is_I (Y := mX12_terms) (pc := 40) (As := [.int x1]) fX12_isSheet wRX12_336 rfl (Nat.le_trans (by decide) hd) (Nat.le_of_ble_eq_true rfl) ⟨Nat.le_refl _, Nat.le_refl _⟩ dX12_terms_40 rfl (sm_monoI h (fun r_3 m_2 h => ?_))
  refine sm_if_eq (Y := mX12_terms) (pc := 43) 64 (by decide) dX12_terms_43 (fun hc => ?_) (fun hc => ?_)
  · replace h := h.1 hc
    refine sm_aload_n (Y := mX12_terms) (pc := 64) 1 0 rfl rfl dX12_terms_64 ?_
    refine sm_iconst (Y := mX12_terms) (pc := 65) 1 (by decide) dX12_terms_65 ?_
    refine sm_iv_I (Y := mX12_terms) (pc := 66) (As := [.int 1]) (a := 109) fX12_finds wRX12_194 (lk_109 hly) (by decide) rfl rfl rfl (Nat.le_trans (by decide) hd) (Nat.le_of_ble_eq_true rfl) ⟨Nat.le_refl _, Nat.le_refl _⟩ dX12_terms_66 rfl (sm_monoI h (fun r_5 m_4 h => ?_))
    exact sm_iret (Y := mX12_terms) (pc := 69) rfl rfl rfl dX12_terms_69 ⟨_, rfl, h⟩
  · replace h := h.2 hc
    refine sm_iload (Y := mX12_terms) (pc := 46) 0 5 rfl dX12_terms_46 ?_
    refine sm_if_eq (Y := mX12_terms) (pc := 48) 64 (by decide) dX12_terms_48 (fun hc => ?_) (fun hc => ?_)
    · replace h := h.1 hc
      refine sm_aload_n (Y := mX12_terms) (pc := 64) 1 0 rfl rfl dX12_terms_64 ?_
      refine sm_iconst (Y := mX12_terms) (pc := 65) 1 (by decide) dX12_terms_65 ?_
      refine sm_iv_I (Y := mX12_terms) (pc := 66) (As := [.int 1]) (a := 109) fX12_finds wRX12_194 (lk_109 hly) (by decide) rfl rfl rfl (Nat.le_trans (by decide) hd) (Nat.le_of_ble_eq_true rfl) ⟨Nat.le_refl _, Nat.le_refl _⟩ dX12_terms_66 rfl (sm_monoI h (fun r_7 m_6 h => ?_))
      exact sm_iret (Y := mX12_terms) (pc := 69) rfl rfl rfl dX12_terms_69 ⟨_, rfl, h⟩
    · replace h := h.2 hc
      refine sm_iload (Y := mX12_terms) (pc := 51) 5 4 rfl dX12_terms_51 ?_
      refine sm_i2l (Y := mX12_terms) (pc := 53) dX12_terms_53 ?_
      refine sm_lconst (Y := mX12_terms) (pc := 54) 0 (by decide) dX12_terms_54 ?_
      refine sm_ldc2_w (Y := mX12_terms) (pc := 55) 3 wRX12_418 dX12_terms_55 ?_
      refine sm_is_I (Y := mX12_terms) (pc := 58) (As := [.long (x4.toInt64), .long 0, .long 3]) fX12_isIn wRX12_190 rfl (Nat.le_trans (by decide) hd) (Nat.le_of_ble_eq_true rfl) ⟨Nat.le_refl _, Nat.le_refl _⟩ dX12_terms_58 rfl (sm_monoI h (fun r_9 m_8 h => ?_))
      refine sm_if_ne (Y := mX12_terms) (pc := 61) 70 (by decide) dX12_terms_61 (fun hc => ?_) (fun hc => ?_)
      · replace h := h.1 hc
        refine sm_aload_n (Y := mX12_terms) (pc := 70) 1 0 rfl rfl dX12_terms_70 ?_
        refine sm_iload_n (Y := mX12_terms) (pc := 71) 3 2 rfl rfl dX12_terms_71 ?_
        refine sm_i2l (Y := mX12_terms) (pc := 72) dX12_terms_72 ?_
        refine sm_iload_n (Y := mX12_terms) (pc := 73) 4 3 rfl rfl dX12_terms_73 ?_
        refine sm_i2l (Y := mX12_terms) (pc := 74) dX12_terms_74 ?_
        refine sm_iv_I (Y := mX12_terms) (pc := 75) (As := [.long (x2.toInt64), .long (x3.toInt64)]) (a := 109) fX12_fractionOf wRX12_180 (lk_109 hly) (by decide) rfl rfl rfl (Nat.le_trans (by decide) hd) (Nat.le_of_ble_eq_true rfl) ⟨Nat.le_refl _, Nat.le_refl _⟩ dX12_terms_75 rfl (sm_monoI h (fun r_11 m_10 h => ?_))
        refine sm_pop (Y := mX12_terms) (pc := 78) rfl dX12_terms_78 ?_
        refine sm_iload (Y := mX12_terms) (pc := 79) 5 4 rfl dX12_terms_79 ?_
        refine sm_iconst (Y := mX12_terms) (pc := 81) 2 (by decide) dX12_terms_81 ?_
        refine sm_icmp_ne (Y := mX12_terms) (pc := 82) 117 (by decide) dX12_terms_82 (fun hc => ?_) (fun hc => ?_)
        · replace h := h.1 hc
          refine sm_sub [1, 2, 5] rfl ?_
          exact h
        · replace h := h.2 hc
          refine sm_aload_n (Y := mX12_terms) (pc := 85) 1 0 rfl rfl dX12_terms_85 ?_
          refine gf_RX12_170 (Y := mX12_terms) (pc := 86) rfl ((lk_109 hly) _) dX12_terms_86 ?_
          refine sm_ldc2_w (Y := mX12_terms) (pc := 89) 2 wRX12_334 dX12_terms_89 ?_
          refine sm_lrem (Y := mX12_terms) (pc := 92) (by decide) dX12_terms_92 ?_
          refine sm_lconst (Y := mX12_terms) (pc := 93) 0 (by decide) dX12_terms_93 ?_
          refine sm_lif_eq (Y := mX12_terms) (pc := 94) 117 (by decide) dX12_terms_94 dX12_terms_95 (fun hc => ?_) (fun hc => ?_)
          · replace h := h.1 hc
            refine sm_sub [1, 2, 5] rfl ?_
            exact h
          · replace h := h.2 hc
            refine sm_aload_n (Y := mX12_terms) (pc := 98) 1 0 rfl rfl dX12_terms_98 ?_
            refine gf_RX12_173 (Y := mX12_terms) (pc := 99) rfl ((lk_109 hly) _) dX12_terms_99 ?_
            refine sm_ldc2_w (Y := mX12_terms) (pc := 102) 2 wRX12_334 dX12_terms_102 ?_
            refine sm_lrem (Y := mX12_terms) (pc := 105) (by decide) dX12_terms_105 ?_
            refine sm_lconst (Y := mX12_terms) (pc := 106) 0 (by decide) dX12_terms_106 ?_
            refine sm_lif_eq (Y := mX12_terms) (pc := 107) 117 (by decide) dX12_terms_107 dX12_terms_108 (fun hc => ?_) (fun hc => ?_)
            · replace h := h.1 hc
              refine sm_sub [1, 2, 5] rfl ?_
              exact h
            · replace h := h.2 hc
              refine sm_aload_n (Y := mX12_terms) (pc := 111) 1 0 rfl rfl dX12_terms_111 ?_
              refine sm_iconst (Y := mX12_terms) (pc := 112) 3 (by decide) dX12_terms_112 ?_
              refine sm_iv_I (Y := mX12_terms) (pc := 113) (As := [.int 3]) (a := 109) fX12_finds wRX12_194 (lk_109 hly) (by decide) rfl rfl rfl (Nat.le_trans (by decide) hd) (Nat.le_of_ble_eq_true rfl) ⟨Nat.le_refl _, Nat.le_refl _⟩ dX12_terms_113 rfl (sm_monoI h (fun r_13 m_12 h => ?_))
              exact sm_iret (Y := mX12_terms) (pc := 116) rfl rfl rfl dX12_terms_116 ⟨_, rfl, h⟩
      · replace h := h.2 hc
        refine sm_aload_n (Y := mX12_terms) (pc := 64) 1 0 rfl rfl dX12_terms_64 ?_
        refine sm_iconst (Y := mX12_terms) (pc := 65) 1 (by decide) dX12_terms_65 ?_
        refine sm_iv_I (Y := mX12_terms) (pc := 66) (As := [.int 1]) (a := 109) fX12_finds wRX12_194 (lk_109 hly) (by decide) rfl rfl rfl (Nat.le_trans (by decide) hd) (Nat.le_of_ble_eq_true rfl) ⟨Nat.le_refl _, Nat.le_refl _⟩ dX12_terms_66 rfl (sm_monoI h (fun r_15 m_14 h => ?_))
        exact sm_iret (Y := mX12_terms) (pc := 69) rfl rfl rfl dX12_terms_69 ⟨_, rfl, h⟩
theorem dX12_terms_0 : decode cX12_terms 0 = .ok (.iload_n 2, 1) := dk_iload_n_2 (by decide +kernel)
theorem dX12_terms_1 : decode cX12_terms 1 = .ok (.i2l, 1) := dk_i2l (by decide +kernel)
theorem wRX12_414 : Cond.constantLong RX12 414 (-999999999) ∈ sm_T := sm_in 1678 (by decide +kernel) (by decide +kernel)
theorem dX12_terms_2 : decode cX12_terms 2 = .ok (.ldc2_w 414, 3) := dk_ldc2_w 414 (b1 := 1) (b2 := 158) (by decide +kernel) (by decide +kernel) (by decide +kernel) (by decide +kernel)
theorem wRX12_416 : Cond.constantLong RX12 416 999999999 ∈ sm_T := sm_in 1679 (by decide +kernel) (by decide +kernel)
theorem dX12_terms_5 : decode cX12_terms 5 = .ok (.ldc2_w 416, 3) := dk_ldc2_w 416 (b1 := 1) (b2 := 160) (by decide +kernel) (by decide +kernel) (by decide +kernel) (by decide +kernel)
theorem dX12_terms_8 : decode cX12_terms 8 = .ok (.invokestatic 190, 3) := dk_invokestatic 190 (b1 := 0) (b2 := 190) (by decide +kernel) (by decide +kernel) (by decide +kernel) (by decide +kernel)
theorem dX12_terms_11 : decode cX12_terms 11 = .ok (.ifCond .eq 25, 3) := dk_ifCond_eq 25 (b1 := 0) (b2 := 25) (by decide +kernel) (by decide +kernel) (by decide +kernel) (by decide +kernel)
theorem dX12_terms_36 : decode cX12_terms 36 = .ok (.iconst 0, 1) := dk_iconst_0 (by decide +kernel)
theorem dX12_terms_14 : decode cX12_terms 14 = .ok (.iload_n 3, 1) := dk_iload_n_3 (by decide +kernel)
theorem dX12_terms_15 : decode cX12_terms 15 = .ok (.i2l, 1) := dk_i2l (by decide +kernel)
theorem dX12_terms_16 : decode cX12_terms 16 = .ok (.ldc2_w 414, 3) := dk_ldc2_w 414 (b1 := 1) (b2 := 158) (by decide +kernel) (by decide +kernel) (by decide +kernel) (by decide +kernel)
theorem dX12_terms_19 : decode cX12_terms 19 = .ok (.ldc2_w 416, 3) := dk_ldc2_w 416 (b1 := 1) (b2 := 160) (by decide +kernel) (by decide +kernel) (by decide +kernel) (by decide +kernel)
theorem dX12_terms_22 : decode cX12_terms 22 = .ok (.invokestatic 190, 3) := dk_invokestatic 190 (b1 := 0) (b2 := 190) (by decide +kernel) (by decide +kernel) (by decide +kernel) (by decide +kernel)
theorem dX12_terms_25 : decode cX12_terms 25 = .ok (.ifCond .eq 11, 3) := dk_ifCond_eq 11 (b1 := 0) (b2 := 11) (by decide +kernel) (by decide +kernel) (by decide +kernel) (by decide +kernel)
theorem dX12_terms_28 : decode cX12_terms 28 = .ok (.iload_n 3, 1) := dk_iload_n_3 (by decide +kernel)
theorem dX12_terms_29 : decode cX12_terms 29 = .ok (.ifCond .eq 7, 3) := dk_ifCond_eq 7 (b1 := 0) (b2 := 7) (by decide +kernel) (by decide +kernel) (by decide +kernel) (by decide +kernel)
theorem dX12_terms_32 : decode cX12_terms 32 = .ok (.iconst 1, 1) := dk_iconst_1 (by decide +kernel)
theorem dX12_terms_33 : decode cX12_terms 33 = .ok (.goto 4, 3) := dk_goto 4 (b1 := 0) (b2 := 4) (by decide +kernel) (by decide +kernel) (by decide +kernel) (by decide +kernel)
set_option maxRecDepth 20000 in
theorem vX12_terms_0 {E : sm_E} {L : sm_S → Prop} {d : Nat} {x1 : Int32} {x2 : Int32} {x3 : Int32} {x4 : Int32}  {m : sm_M} {Q : Int32 → sm_M → Prop}  (hd : 4 ≤ d) 
  (h : sm_callI E L mX12_isIn 1 0 0 [.long (x2.toInt64), .long (-999999999), .long 999999999] m (fun r_2 m_1 =>
   (r_2 = 0 →
      gX12_terms_37 E L d ([.ref (sm_B E + 109), .int x1, .int x2, .int x3, .int x4]) x1 x2 x3 x4 0 m_1 Q) ∧
   (¬ r_2 = 0 →
      sm_callI E L mX12_isIn 1 0 0 [.long (x3.toInt64), .long (-999999999), .long 999999999] m_1 (fun r_4 m_3 =>
      (r_4 = 0 →
         gX12_terms_37 E L d ([.ref (sm_B E + 109), .int x1, .int x2, .int x3, .int x4]) x1 x2 x3 x4 0 m_3 Q) ∧
      (¬ r_4 = 0 →
         (x3 = 0 →
            gX12_terms_37 E L d ([.ref (sm_B E + 109), .int x1, .int x2, .int x3, .int x4]) x1 x2 x3 x4 0 m_3 Q) ∧
         (¬ x3 = 0 →
            gX12_terms_37 E L d ([.ref (sm_B E + 109), .int x1, .int x2, .int x3, .int x4]) x1 x2 x3 x4 1 m_3 Q)))))) :
  sm_callI E L mX12_terms d 0 0 [.ref (sm_B E + 109), .int x1, .int x2, .int x3, .int x4] m Q := by
  refine sm_enter (by decide +kernel) (by simp [lg_sl, Value.category]) ?_
  refine sm_iload_n (Y := mX12_terms) (pc := 0) 2 2 rfl rfl dX12_terms_0 ?_
  refine sm_i2l (Y := mX12_terms) (pc := 1) dX12_terms_1 ?_
  refine sm_ldc2_w (Y := mX12_terms) (pc := 2) (-999999999) wRX12_414 dX12_terms_2 ?_
  refine sm_ldc2_w (Y := mX12_terms) (pc := 5) 999999999 wRX12_416 dX12_terms_5 ?_
  refine sm_is_I (Y := mX12_terms) (pc := 8) (As := [.long (x2.toInt64), .long (-999999999), .long 999999999]) fX12_isIn wRX12_190 rfl (Nat.le_trans (by decide) hd) (Nat.le_of_ble_eq_true rfl) ⟨Nat.le_refl _, Nat.le_refl _⟩ dX12_terms_8 rfl (sm_monoI h (fun r_2 m_1 h => ?_))
  refine sm_if_eq (Y := mX12_terms) (pc := 11) 36 (by decide) dX12_terms_11 (fun hc => ?_) (fun hc => ?_)
  · replace h := h.1 hc
    refine sm_iconst (Y := mX12_terms) (pc := 36) 0 (by decide) dX12_terms_36 ?_
    exact h
  · replace h := h.2 hc
    refine sm_iload_n (Y := mX12_terms) (pc := 14) 3 3 rfl rfl dX12_terms_14 ?_
    refine sm_i2l (Y := mX12_terms) (pc := 15) dX12_terms_15 ?_
    refine sm_ldc2_w (Y := mX12_terms) (pc := 16) (-999999999) wRX12_414 dX12_terms_16 ?_
    refine sm_ldc2_w (Y := mX12_terms) (pc := 19) 999999999 wRX12_416 dX12_terms_19 ?_
    refine sm_is_I (Y := mX12_terms) (pc := 22) (As := [.long (x3.toInt64), .long (-999999999), .long 999999999]) fX12_isIn wRX12_190 rfl (Nat.le_trans (by decide) hd) (Nat.le_of_ble_eq_true rfl) ⟨Nat.le_refl _, Nat.le_refl _⟩ dX12_terms_22 rfl (sm_monoI h (fun r_4 m_3 h => ?_))
    refine sm_if_eq (Y := mX12_terms) (pc := 25) 36 (by decide) dX12_terms_25 (fun hc => ?_) (fun hc => ?_)
    · replace h := h.1 hc
      refine sm_iconst (Y := mX12_terms) (pc := 36) 0 (by decide) dX12_terms_36 ?_
      exact h
    · replace h := h.2 hc
      refine sm_iload_n (Y := mX12_terms) (pc := 28) 3 3 rfl rfl dX12_terms_28 ?_
      refine sm_if_eq (Y := mX12_terms) (pc := 29) 36 (by decide) dX12_terms_29 (fun hc => ?_) (fun hc => ?_)
      · replace h := h.1 hc
        refine sm_iconst (Y := mX12_terms) (pc := 36) 0 (by decide) dX12_terms_36 ?_
        exact h
      · replace h := h.2 hc
        refine sm_iconst (Y := mX12_terms) (pc := 32) 1 (by decide) dX12_terms_32 ?_
        refine sm_goto (Y := mX12_terms) (pc := 33) 37 (by decide) dX12_terms_33 ?_
        exact h
abbrev mX12_isBig : sm_Y := (yX12_isBig, cX12_isBig, 2, (some FieldType.boolean))
theorem fX12_isBig : sm_mt mX12_isBig 1 := ⟨sm_in 1691 (by decide +kernel) (by decide +kernel), sm_in 1690 (by decide +kernel) (by decide +kernel), sm_in 93 (by decide +kernel) (by decide +kernel), ⟨by decide +kernel, by decide +kernel, by decide +kernel⟩, by decide⟩
theorem dX12_isBig_0 : decode cX12_isBig 0 = .ok (.lload_n 0, 1) := dk_lload_n_0 (by decide +kernel)
theorem wRX12_424 : Cond.constantLong RX12 424 1000000000000000000 ∈ sm_T := sm_in 1692 (by decide +kernel) (by decide +kernel)
theorem dX12_isBig_1 : decode cX12_isBig 1 = .ok (.ldc2_w 424, 3) := dk_ldc2_w 424 (b1 := 1) (b2 := 168) (by decide +kernel) (by decide +kernel) (by decide +kernel) (by decide +kernel)
theorem dX12_isBig_4 : decode cX12_isBig 4 = .ok (.lcmp, 1) := dk_lcmp (by decide +kernel)
theorem dX12_isBig_5 : decode cX12_isBig 5 = .ok (.ifCond .gt 11, 3) := dk_ifCond_gt 11 (b1 := 0) (b2 := 11) (by decide +kernel) (by decide +kernel) (by decide +kernel) (by decide +kernel)
theorem dX12_isBig_16 : decode cX12_isBig 16 = .ok (.iconst 1, 1) := dk_iconst_1 (by decide +kernel)
theorem dX12_isBig_17 : decode cX12_isBig 17 = .ok (.goto 4, 3) := dk_goto 4 (b1 := 0) (b2 := 4) (by decide +kernel) (by decide +kernel) (by decide +kernel) (by decide +kernel)
theorem dX12_isBig_21 : decode cX12_isBig 21 = .ok (.ireturn, 1) := dk_ireturn (by decide +kernel)
theorem dX12_isBig_8 : decode cX12_isBig 8 = .ok (.lload_n 0, 1) := dk_lload_n_0 (by decide +kernel)
theorem wRX12_426 : Cond.constantLong RX12 426 (-1000000000000000000) ∈ sm_T := sm_in 1693 (by decide +kernel) (by decide +kernel)
theorem dX12_isBig_9 : decode cX12_isBig 9 = .ok (.ldc2_w 426, 3) := dk_ldc2_w 426 (b1 := 1) (b2 := 170) (by decide +kernel) (by decide +kernel) (by decide +kernel) (by decide +kernel)
theorem dX12_isBig_12 : decode cX12_isBig 12 = .ok (.lcmp, 1) := dk_lcmp (by decide +kernel)
theorem dX12_isBig_13 : decode cX12_isBig 13 = .ok (.ifCond .ge 7, 3) := dk_ifCond_ge 7 (b1 := 0) (b2 := 7) (by decide +kernel) (by decide +kernel) (by decide +kernel) (by decide +kernel)
theorem dX12_isBig_20 : decode cX12_isBig 20 = .ok (.iconst 0, 1) := dk_iconst_0 (by decide +kernel)
set_option maxRecDepth 20000 in
theorem vX12_isBig_0 {E : sm_E} {L : sm_S → Prop} {d : Nat} {x0 : Int64}  {m : sm_M} {Q : Int32 → sm_M → Prop}  (hd : 1 ≤ d) 
  (h : (1000000000000000000 < x0 →
      Q 1 m) ∧
   (¬ 1000000000000000000 < x0 →
      ((-1000000000000000000) ≤ x0 →
         Q 0 m) ∧
      (¬ (-1000000000000000000) ≤ x0 →
         Q 1 m))) :
  sm_callI E L mX12_isBig d 0 0 [.long x0] m Q := by
  refine sm_enter (by decide +kernel) (by simp [lg_sl, Value.category]) ?_
  refine sm_lload_n (Y := mX12_isBig) (pc := 0) 0 0 rfl rfl dX12_isBig_0 ?_
  refine sm_ldc2_w (Y := mX12_isBig) (pc := 1) 1000000000000000000 wRX12_424 dX12_isBig_1 ?_
  refine sm_lif_gt (Y := mX12_isBig) (pc := 4) 16 (by decide) dX12_isBig_4 dX12_isBig_5 (fun hc => ?_) (fun hc => ?_)
  · replace h := h.1 hc
    refine sm_iconst (Y := mX12_isBig) (pc := 16) 1 (by decide) dX12_isBig_16 ?_
    refine sm_goto (Y := mX12_isBig) (pc := 17) 21 (by decide) dX12_isBig_17 ?_
    exact sm_zret (Y := mX12_isBig) (pc := 21) rfl (by decide) rfl rfl dX12_isBig_21 ⟨_, rfl, h⟩
  · replace h := h.2 hc
    refine sm_lload_n (Y := mX12_isBig) (pc := 8) 0 0 rfl rfl dX12_isBig_8 ?_
    refine sm_ldc2_w (Y := mX12_isBig) (pc := 9) (-1000000000000000000) wRX12_426 dX12_isBig_9 ?_
    refine sm_lif_ge (Y := mX12_isBig) (pc := 12) 20 (by decide) dX12_isBig_12 dX12_isBig_13 (fun hc => ?_) (fun hc => ?_)
    · replace h := h.1 hc
      refine sm_iconst (Y := mX12_isBig) (pc := 20) 0 (by decide) dX12_isBig_20 ?_
      exact sm_zret (Y := mX12_isBig) (pc := 21) rfl (by decide) rfl rfl dX12_isBig_21 ⟨_, rfl, h⟩
    · replace h := h.2 hc
      refine sm_iconst (Y := mX12_isBig) (pc := 16) 1 (by decide) dX12_isBig_16 ?_
      refine sm_goto (Y := mX12_isBig) (pc := 17) 21 (by decide) dX12_isBig_17 ?_
      exact sm_zret (Y := mX12_isBig) (pc := 21) rfl (by decide) rfl rfl dX12_isBig_21 ⟨_, rfl, h⟩
abbrev mX12_isFar : sm_Y := (yX12_isFar, cX12_isFar, 8, (some FieldType.boolean))
theorem fX12_isFar : sm_mt mX12_isFar 2 := ⟨sm_in 1696 (by decide +kernel) (by decide +kernel), sm_in 1695 (by decide +kernel) (by decide +kernel), sm_in 93 (by decide +kernel) (by decide +kernel), ⟨by decide +kernel, by decide +kernel, by decide +kernel⟩, by decide⟩
def gX12_isFar_58 (E : sm_E) (L : sm_S → Prop) (d : Nat) (vs : List Value) (x4 : Int64) (s0 : Int64) (m : sm_M) (Q : Int32 → sm_M → Prop) : Prop := sm_go E L mX12_isFar d 0 0 vs 58 [(4, .long x4)] [.long s0] m 0 0 (sm_Z E L vs 0 0 (sm_QI Q))
theorem dX12_isFar_58 : decode cX12_isFar 58 = .ok (.lstore 6, 2) := dk_lstore 6 (b := 6) (by decide +kernel) (by decide +kernel) (by decide +kernel)
theorem dX12_isFar_60 : decode cX12_isFar 60 = .ok (.lload 6, 2) := dk_lload 6 (b := 6) (by decide +kernel) (by decide +kernel) (by decide +kernel)
theorem wRX12_428 : Cond.constantLong RX12 428 2000000000000000000 ∈ sm_T := sm_in 1697 (by decide +kernel) (by decide +kernel)
theorem dX12_isFar_62 : decode cX12_isFar 62 = .ok (.ldc2_w 428, 3) := dk_ldc2_w 428 (b1 := 1) (b2 := 172) (by decide +kernel) (by decide +kernel) (by decide +kernel) (by decide +kernel)
theorem dX12_isFar_65 : decode cX12_isFar 65 = .ok (.lload 4, 2) := dk_lload 4 (b := 4) (by decide +kernel) (by decide +kernel) (by decide +kernel)
theorem dX12_isFar_67 : decode cX12_isFar 67 = .ok (.ldiv, 1) := dk_ldiv (by decide +kernel)
theorem dX12_isFar_68 : decode cX12_isFar 68 = .ok (.lcmp, 1) := dk_lcmp (by decide +kernel)
theorem dX12_isFar_69 : decode cX12_isFar 69 = .ok (.ifCond .le 7, 3) := dk_ifCond_le 7 (b1 := 0) (b2 := 7) (by decide +kernel) (by decide +kernel) (by decide +kernel) (by decide +kernel)
theorem dX12_isFar_76 : decode cX12_isFar 76 = .ok (.iconst 0, 1) := dk_iconst_0 (by decide +kernel)
theorem dX12_isFar_77 : decode cX12_isFar 77 = .ok (.ireturn, 1) := dk_ireturn (by decide +kernel)
theorem dX12_isFar_72 : decode cX12_isFar 72 = .ok (.iconst 1, 1) := dk_iconst_1 (by decide +kernel)
theorem dX12_isFar_73 : decode cX12_isFar 73 = .ok (.goto 4, 3) := dk_goto 4 (b1 := 0) (b2 := 4) (by decide +kernel) (by decide +kernel) (by decide +kernel) (by decide +kernel)
set_option maxRecDepth 20000 in
theorem vX12_isFar_58 {E : sm_E} {L : sm_S → Prop} {d : Nat} {vs : List Value} {x4 : Int64} {s0 : Int64}  {m : sm_M} {Q : Int32 → sm_M → Prop}  (hd : 1 ≤ d) 
  (h : (¬ x4 = 0) ∧ (s0 ≤ ((2000000000000000000 : Int64) / x4) →
      Q 0 m) ∧
   (¬ s0 ≤ ((2000000000000000000 : Int64) / x4) →
      Q 1 m)) :
  gX12_isFar_58 E L d vs x4 s0 m Q := by
  refine sm_lstore0 (Y := mX12_isFar) (pc := 58) [(6, .long s0), (4, .long x4)] 6 (by decide) rfl dX12_isFar_58 ?_
  refine sm_lload (Y := mX12_isFar) (pc := 60) 0 6 rfl dX12_isFar_60 ?_
  refine sm_ldc2_w (Y := mX12_isFar) (pc := 62) 2000000000000000000 wRX12_428 dX12_isFar_62 ?_
  refine sm_lload (Y := mX12_isFar) (pc := 65) 1 4 rfl dX12_isFar_65 ?_
  obtain ⟨hn_2, h⟩ := h
  refine sm_ldiv (Y := mX12_isFar) (pc := 67) hn_2 dX12_isFar_67 ?_
  refine sm_lif_le (Y := mX12_isFar) (pc := 68) 76 (by decide) dX12_isFar_68 dX12_isFar_69 (fun hc => ?_) (fun hc => ?_)
  · replace h := h.1 hc
    refine sm_iconst (Y := mX12_isFar) (pc := 76) 0 (by decide) dX12_isFar_76 ?_
    exact sm_zret (Y := mX12_isFar) (pc := 77) rfl (by decide) rfl rfl dX12_isFar_77 ⟨_, rfl, h⟩
  · replace h := h.2 hc
    refine sm_iconst (Y := mX12_isFar) (pc := 72) 1 (by decide) dX12_isFar_72 ?_
    refine sm_goto (Y := mX12_isFar) (pc := 73) 77 (by decide) dX12_isFar_73 ?_
    exact sm_zret (Y := mX12_isFar) (pc := 77) rfl (by decide) rfl rfl dX12_isFar_77 ⟨_, rfl, h⟩
theorem dX12_isFar_0 : decode cX12_isFar 0 = .ok (.lload_n 2, 1) := dk_lload_n_2 (by decide +kernel)
theorem dX12_isFar_1 : decode cX12_isFar 1 = .ok (.lconst 0, 1) := dk_lconst_0 (by decide +kernel)
theorem dX12_isFar_2 : decode cX12_isFar 2 = .ok (.lcmp, 1) := dk_lcmp (by decide +kernel)
theorem dX12_isFar_3 : decode cX12_isFar 3 = .ok (.ifCond .eq 9, 3) := dk_ifCond_eq 9 (b1 := 0) (b2 := 9) (by decide +kernel) (by decide +kernel) (by decide +kernel) (by decide +kernel)
theorem dX12_isFar_12 : decode cX12_isFar 12 = .ok (.iconst 0, 1) := dk_iconst_0 (by decide +kernel)
theorem dX12_isFar_13 : decode cX12_isFar 13 = .ok (.ireturn, 1) := dk_ireturn (by decide +kernel)
theorem dX12_isFar_6 : decode cX12_isFar 6 = .ok (.lload_n 0, 1) := dk_lload_n_0 (by decide +kernel)
theorem dX12_isFar_7 : decode cX12_isFar 7 = .ok (.lconst 0, 1) := dk_lconst_0 (by decide +kernel)
theorem dX12_isFar_8 : decode cX12_isFar 8 = .ok (.lcmp, 1) := dk_lcmp (by decide +kernel)
theorem dX12_isFar_9 : decode cX12_isFar 9 = .ok (.ifCond .ne 5, 3) := dk_ifCond_ne 5 (b1 := 0) (b2 := 5) (by decide +kernel) (by decide +kernel) (by decide +kernel) (by decide +kernel)
theorem dX12_isFar_14 : decode cX12_isFar 14 = .ok (.lload_n 0, 1) := dk_lload_n_0 (by decide +kernel)
theorem dX12_isFar_15 : decode cX12_isFar 15 = .ok (.ldc2_w 428, 3) := dk_ldc2_w 428 (b1 := 1) (b2 := 172) (by decide +kernel) (by decide +kernel) (by decide +kernel) (by decide +kernel)
theorem dX12_isFar_18 : decode cX12_isFar 18 = .ok (.lcmp, 1) := dk_lcmp (by decide +kernel)
theorem dX12_isFar_19 : decode cX12_isFar 19 = .ok (.ifCond .gt 11, 3) := dk_ifCond_gt 11 (b1 := 0) (b2 := 11) (by decide +kernel) (by decide +kernel) (by decide +kernel) (by decide +kernel)
theorem dX12_isFar_30 : decode cX12_isFar 30 = .ok (.iconst 1, 1) := dk_iconst_1 (by decide +kernel)
theorem dX12_isFar_31 : decode cX12_isFar 31 = .ok (.ireturn, 1) := dk_ireturn (by decide +kernel)
theorem dX12_isFar_22 : decode cX12_isFar 22 = .ok (.lload_n 0, 1) := dk_lload_n_0 (by decide +kernel)
theorem wRX12_430 : Cond.constantLong RX12 430 (-2000000000000000000) ∈ sm_T := sm_in 1698 (by decide +kernel) (by decide +kernel)
theorem dX12_isFar_23 : decode cX12_isFar 23 = .ok (.ldc2_w 430, 3) := dk_ldc2_w 430 (b1 := 1) (b2 := 174) (by decide +kernel) (by decide +kernel) (by decide +kernel) (by decide +kernel)
theorem dX12_isFar_26 : decode cX12_isFar 26 = .ok (.lcmp, 1) := dk_lcmp (by decide +kernel)
theorem dX12_isFar_27 : decode cX12_isFar 27 = .ok (.ifCond .ge 5, 3) := dk_ifCond_ge 5 (b1 := 0) (b2 := 5) (by decide +kernel) (by decide +kernel) (by decide +kernel) (by decide +kernel)
theorem dX12_isFar_32 : decode cX12_isFar 32 = .ok (.lload_n 0, 1) := dk_lload_n_0 (by decide +kernel)
theorem dX12_isFar_33 : decode cX12_isFar 33 = .ok (.lconst 0, 1) := dk_lconst_0 (by decide +kernel)
theorem dX12_isFar_34 : decode cX12_isFar 34 = .ok (.lcmp, 1) := dk_lcmp (by decide +kernel)
theorem dX12_isFar_35 : decode cX12_isFar 35 = .ok (.ifCond .ge 8, 3) := dk_ifCond_ge 8 (b1 := 0) (b2 := 8) (by decide +kernel) (by decide +kernel) (by decide +kernel) (by decide +kernel)
theorem dX12_isFar_43 : decode cX12_isFar 43 = .ok (.lload_n 0, 1) := dk_lload_n_0 (by decide +kernel)
theorem dX12_isFar_44 : decode cX12_isFar 44 = .ok (.lstore 4, 2) := dk_lstore 4 (b := 4) (by decide +kernel) (by decide +kernel) (by decide +kernel)
theorem dX12_isFar_46 : decode cX12_isFar 46 = .ok (.lload_n 2, 1) := dk_lload_n_2 (by decide +kernel)
theorem dX12_isFar_47 : decode cX12_isFar 47 = .ok (.lconst 0, 1) := dk_lconst_0 (by decide +kernel)
theorem dX12_isFar_48 : decode cX12_isFar 48 = .ok (.lcmp, 1) := dk_lcmp (by decide +kernel)
theorem dX12_isFar_49 : decode cX12_isFar 49 = .ok (.ifCond .ge 8, 3) := dk_ifCond_ge 8 (b1 := 0) (b2 := 8) (by decide +kernel) (by decide +kernel) (by decide +kernel) (by decide +kernel)
theorem dX12_isFar_57 : decode cX12_isFar 57 = .ok (.lload_n 2, 1) := dk_lload_n_2 (by decide +kernel)
theorem dX12_isFar_52 : decode cX12_isFar 52 = .ok (.lload_n 2, 1) := dk_lload_n_2 (by decide +kernel)
theorem dX12_isFar_53 : decode cX12_isFar 53 = .ok (.lneg, 1) := dk_lneg (by decide +kernel)
theorem dX12_isFar_54 : decode cX12_isFar 54 = .ok (.goto 4, 3) := dk_goto 4 (b1 := 0) (b2 := 4) (by decide +kernel) (by decide +kernel) (by decide +kernel) (by decide +kernel)
theorem dX12_isFar_38 : decode cX12_isFar 38 = .ok (.lload_n 0, 1) := dk_lload_n_0 (by decide +kernel)
theorem dX12_isFar_39 : decode cX12_isFar 39 = .ok (.lneg, 1) := dk_lneg (by decide +kernel)
theorem dX12_isFar_40 : decode cX12_isFar 40 = .ok (.goto 4, 3) := dk_goto 4 (b1 := 0) (b2 := 4) (by decide +kernel) (by decide +kernel) (by decide +kernel) (by decide +kernel)
set_option maxRecDepth 20000 in
theorem vX12_isFar_0 {E : sm_E} {L : sm_S → Prop} {d : Nat} {x0 : Int64} {x2 : Int64}  {m : sm_M} {Q : Int32 → sm_M → Prop}  (hd : 1 ≤ d) 
  (h : (x2 = 0 →
      Q 0 m) ∧
   (¬ x2 = 0 →
      (¬ x0 = 0 →
         (2000000000000000000 < x0 →
            Q 1 m) ∧
         (¬ 2000000000000000000 < x0 →
            ((-2000000000000000000) ≤ x0 →
               (0 ≤ x0 →
                  (0 ≤ x2 →
                     gX12_isFar_58 E L d ([.long x0, .long x2]) x0 x2 m Q) ∧
                  (¬ 0 ≤ x2 →
                     gX12_isFar_58 E L d ([.long x0, .long x2]) x0 (-x2) m Q)) ∧
               (¬ 0 ≤ x0 →
                  ∀ x4_2 : Int64, x4_2 = -x0 →
                  (0 ≤ x2 →
                     gX12_isFar_58 E L d ([.long x0, .long x2]) x4_2 x2 m Q) ∧
                  (¬ 0 ≤ x2 →
                     gX12_isFar_58 E L d ([.long x0, .long x2]) x4_2 (-x2) m Q))) ∧
            (¬ (-2000000000000000000) ≤ x0 →
               Q 1 m))) ∧
      (x0 = 0 →
         Q 0 m))) :
  sm_callI E L mX12_isFar d 0 0 [.long x0, .long x2] m Q := by
  refine sm_enter (by decide +kernel) (by simp [lg_sl, Value.category]) ?_
  refine sm_lload_n (Y := mX12_isFar) (pc := 0) 1 2 rfl rfl dX12_isFar_0 ?_
  refine sm_lconst (Y := mX12_isFar) (pc := 1) 0 (by decide) dX12_isFar_1 ?_
  refine sm_lif_eq (Y := mX12_isFar) (pc := 2) 12 (by decide) dX12_isFar_2 dX12_isFar_3 (fun hc => ?_) (fun hc => ?_)
  · replace h := h.1 hc
    refine sm_iconst (Y := mX12_isFar) (pc := 12) 0 (by decide) dX12_isFar_12 ?_
    exact sm_zret (Y := mX12_isFar) (pc := 13) rfl (by decide) rfl rfl dX12_isFar_13 ⟨_, rfl, h⟩
  · replace h := h.2 hc
    refine sm_lload_n (Y := mX12_isFar) (pc := 6) 0 0 rfl rfl dX12_isFar_6 ?_
    refine sm_lconst (Y := mX12_isFar) (pc := 7) 0 (by decide) dX12_isFar_7 ?_
    refine sm_lif_ne (Y := mX12_isFar) (pc := 8) 14 (by decide) dX12_isFar_8 dX12_isFar_9 (fun hc => ?_) (fun hc => ?_)
    · replace h := h.1 hc
      refine sm_lload_n (Y := mX12_isFar) (pc := 14) 0 0 rfl rfl dX12_isFar_14 ?_
      refine sm_ldc2_w (Y := mX12_isFar) (pc := 15) 2000000000000000000 wRX12_428 dX12_isFar_15 ?_
      refine sm_lif_gt (Y := mX12_isFar) (pc := 18) 30 (by decide) dX12_isFar_18 dX12_isFar_19 (fun hc => ?_) (fun hc => ?_)
      · replace h := h.1 hc
        refine sm_iconst (Y := mX12_isFar) (pc := 30) 1 (by decide) dX12_isFar_30 ?_
        exact sm_zret (Y := mX12_isFar) (pc := 31) rfl (by decide) rfl rfl dX12_isFar_31 ⟨_, rfl, h⟩
      · replace h := h.2 hc
        refine sm_lload_n (Y := mX12_isFar) (pc := 22) 0 0 rfl rfl dX12_isFar_22 ?_
        refine sm_ldc2_w (Y := mX12_isFar) (pc := 23) (-2000000000000000000) wRX12_430 dX12_isFar_23 ?_
        refine sm_lif_ge (Y := mX12_isFar) (pc := 26) 32 (by decide) dX12_isFar_26 dX12_isFar_27 (fun hc => ?_) (fun hc => ?_)
        · replace h := h.1 hc
          refine sm_lload_n (Y := mX12_isFar) (pc := 32) 0 0 rfl rfl dX12_isFar_32 ?_
          refine sm_lconst (Y := mX12_isFar) (pc := 33) 0 (by decide) dX12_isFar_33 ?_
          refine sm_lif_ge (Y := mX12_isFar) (pc := 34) 43 (by decide) dX12_isFar_34 dX12_isFar_35 (fun hc => ?_) (fun hc => ?_)
          · replace h := h.1 hc
            refine sm_lload_n (Y := mX12_isFar) (pc := 43) 0 0 rfl rfl dX12_isFar_43 ?_
            refine sm_lstore0 (Y := mX12_isFar) (pc := 44) [(4, .long x0), (0, .long x0), (2, .long x2)] 4 (by decide) rfl dX12_isFar_44 ?_
            refine sm_lload_n (Y := mX12_isFar) (pc := 46) 2 2 rfl rfl dX12_isFar_46 ?_
            refine sm_lconst (Y := mX12_isFar) (pc := 47) 0 (by decide) dX12_isFar_47 ?_
            refine sm_lif_ge (Y := mX12_isFar) (pc := 48) 57 (by decide) dX12_isFar_48 dX12_isFar_49 (fun hc => ?_) (fun hc => ?_)
            · replace h := h.1 hc
              refine sm_lload_n (Y := mX12_isFar) (pc := 57) 2 2 rfl rfl dX12_isFar_57 ?_
              refine sm_sub [0] rfl ?_
              exact h
            · replace h := h.2 hc
              refine sm_lload_n (Y := mX12_isFar) (pc := 52) 2 2 rfl rfl dX12_isFar_52 ?_
              refine sm_lneg (Y := mX12_isFar) (pc := 53) dX12_isFar_53 ?_
              refine sm_goto (Y := mX12_isFar) (pc := 54) 58 (by decide) dX12_isFar_54 ?_
              refine sm_sub [0] rfl ?_
              exact h
          · replace h := h.2 hc
            refine sm_lload_n (Y := mX12_isFar) (pc := 38) 0 0 rfl rfl dX12_isFar_38 ?_
            refine sm_lneg (Y := mX12_isFar) (pc := 39) dX12_isFar_39 ?_
            refine sm_goto (Y := mX12_isFar) (pc := 40) 44 (by decide) dX12_isFar_40 ?_
            refine sm_lstore (Y := mX12_isFar) (pc := 44) (fun y => [(4, .long y), (0, .long x0), (2, .long x2)]) 4 (by decide) (fun _ => rfl) dX12_isFar_44 (fun x4_2 ex4_2 => ?_)
            replace h := h x4_2 ex4_2
            refine sm_lload_n (Y := mX12_isFar) (pc := 46) 2 2 rfl rfl dX12_isFar_46 ?_
            refine sm_lconst (Y := mX12_isFar) (pc := 47) 0 (by decide) dX12_isFar_47 ?_
            refine sm_lif_ge (Y := mX12_isFar) (pc := 48) 57 (by decide) dX12_isFar_48 dX12_isFar_49 (fun hc => ?_) (fun hc => ?_)
            · replace h := h.1 hc
              refine sm_lload_n (Y := mX12_isFar) (pc := 57) 2 2 rfl rfl dX12_isFar_57 ?_
              refine sm_sub [0] rfl ?_
              exact h
            · replace h := h.2 hc
              refine sm_lload_n (Y := mX12_isFar) (pc := 52) 2 2 rfl rfl dX12_isFar_52 ?_
              refine sm_lneg (Y := mX12_isFar) (pc := 53) dX12_isFar_53 ?_
              refine sm_goto (Y := mX12_isFar) (pc := 54) 58 (by decide) dX12_isFar_54 ?_
              refine sm_sub [0] rfl ?_
              exact h
        · replace h := h.2 hc
          refine sm_iconst (Y := mX12_isFar) (pc := 30) 1 (by decide) dX12_isFar_30 ?_
          exact sm_zret (Y := mX12_isFar) (pc := 31) rfl (by decide) rfl rfl dX12_isFar_31 ⟨_, rfl, h⟩
    · replace h := h.2 hc
      refine sm_iconst (Y := mX12_isFar) (pc := 12) 0 (by decide) dX12_isFar_12 ?_
      exact sm_zret (Y := mX12_isFar) (pc := 13) rfl (by decide) rfl rfl dX12_isFar_13 ⟨_, rfl, h⟩
abbrev mX12_value : sm_Y := (yX12_value, cX12_value, 14, (some FieldType.long))
theorem fX12_value : sm_mi mX12_value RX12 3 := ⟨sm_in 1688 (by decide +kernel) (by decide +kernel), sm_in 1686 (by decide +kernel) (by decide +kernel), sm_in 1687 (by decide +kernel) (by decide +kernel), sm_in 93 (by decide +kernel) (by decide +kernel), rfl, ⟨by decide +kernel, by decide +kernel, by decide +kernel⟩, by decide⟩
def gX12_value_167 (E : sm_E) (L : sm_S → Prop) (d : Nat) (vs : List Value) (x1 : Int32) (x2 : Int32) (x3 : Int32) (x5 : Int64) (x9 : Int32) (s0 : Int64) (s1 : Int64) (m : sm_M) (Q : Int64 → sm_M → Prop) : Prop := sm_go E L mX12_value d 0 0 vs 167 [(0, .ref (sm_B E + 109)), (1, .int x1), (2, .int x2), (3, .int x3), (5, .long x5), (9, .int x9)] [.long s1, .long s0] m 0 0 (sm_Z E L vs 0 0 (sm_QJ Q))
def gX12_value_99 (E : sm_E) (L : sm_S → Prop) (d : Nat) (vs : List Value) (x1 : Int32) (x2 : Int32) (x3 : Int32) (x5 : Int64) (x7 : Int64) (x9 : Int32) (m : sm_M) (Q : Int64 → sm_M → Prop) : Prop := sm_go E L mX12_value d 0 0 vs 99 [(0, .ref (sm_B E + 109)), (1, .int x1), (2, .int x2), (3, .int x3), (5, .long x5), (7, .long x7), (9, .int x9)] [] m 0 0 (sm_Z E L vs 0 0 (sm_QJ Q))
theorem dX12_value_167 : decode cX12_value 167 = .ok (.ladd, 1) := dk_ladd (by decide +kernel)
theorem dX12_value_168 : decode cX12_value 168 = .ok (.lstore 12, 2) := dk_lstore 12 (b := 12) (by decide +kernel) (by decide +kernel) (by decide +kernel)
theorem dX12_value_170 : decode cX12_value 170 = .ok (.lload 12, 2) := dk_lload 12 (b := 12) (by decide +kernel) (by decide +kernel) (by decide +kernel)
theorem wRX12_432 : Cond.methodLink RX12 432 yX12_isBig ∈ sm_T := sm_in 1689 (by decide +kernel) (by decide +kernel)
theorem dX12_value_172 : decode cX12_value 172 = .ok (.invokestatic 432, 3) := dk_invokestatic 432 (b1 := 1) (b2 := 176) (by decide +kernel) (by decide +kernel) (by decide +kernel) (by decide +kernel)
theorem dX12_value_175 : decode cX12_value 175 = .ok (.ifCond .eq 10, 3) := dk_ifCond_eq 10 (b1 := 0) (b2 := 10) (by decide +kernel) (by decide +kernel) (by decide +kernel) (by decide +kernel)
theorem dX12_value_185 : decode cX12_value 185 = .ok (.lload 5, 2) := dk_lload 5 (b := 5) (by decide +kernel) (by decide +kernel) (by decide +kernel)
theorem dX12_value_187 : decode cX12_value 187 = .ok (.lstore 7, 2) := dk_lstore 7 (b := 7) (by decide +kernel) (by decide +kernel) (by decide +kernel)
theorem dX12_value_189 : decode cX12_value 189 = .ok (.lload 12, 2) := dk_lload 12 (b := 12) (by decide +kernel) (by decide +kernel) (by decide +kernel)
theorem dX12_value_191 : decode cX12_value 191 = .ok (.lstore 5, 2) := dk_lstore 5 (b := 5) (by decide +kernel) (by decide +kernel) (by decide +kernel)
theorem dX12_value_193 : decode cX12_value 193 = .ok (.iinc 9 (-1), 3) := dk_iinc 9 (-1) (b1 := 9) (b2 := 255) (by decide +kernel) (by decide +kernel) (by decide +kernel) (by decide +kernel) (by decide +kernel)
theorem dX12_value_196 : decode cX12_value 196 = .ok (.goto (-97), 3) := dk_goto (-97) (b1 := 255) (b2 := 159) (by decide +kernel) (by decide +kernel) (by decide +kernel) (by decide +kernel)
theorem dX12_value_178 : decode cX12_value 178 = .ok (.aload_n 0, 1) := dk_aload_n_0 (by decide +kernel)
theorem dX12_value_179 : decode cX12_value 179 = .ok (.bipush 6, 2) := dk_bipush 6 (b := 6) (by decide +kernel) (by decide +kernel) (by decide +kernel)
theorem dX12_value_181 : decode cX12_value 181 = .ok (.invokevirtual 407, 3) := dk_invokevirtual 407 (b1 := 1) (b2 := 151) (by decide +kernel) (by decide +kernel) (by decide +kernel) (by decide +kernel)
theorem dX12_value_184 : decode cX12_value 184 = .ok (.lreturn, 1) := dk_lreturn (by decide +kernel)
set_option maxRecDepth 20000 in
theorem vX12_value_167 {E : sm_E} {L : sm_S → Prop} {d : Nat} {vs : List Value} {x1 : Int32} {x2 : Int32} {x3 : Int32} {x5 : Int64} {x9 : Int32} {s0 : Int64} {s1 : Int64}  {m : sm_M} {Q : Int64 → sm_M → Prop} (hly : ∀ S, L S → ly S) (hd : 2 ≤ d) 
  (h : ∀ x12_1 : Int64, x12_1 = s0 + s1 →
   sm_callI E L mX12_isBig 1 0 0 [.long x12_1] m (fun r_3 m_2 =>
   (r_3 = 0 →
      ∀ x9_6 : Int32, x9_6 = x9 + (-1) →
      gX12_value_99 E L d vs x1 x2 x3 x12_1 x5 x9_6 m_2 Q) ∧
   (¬ r_3 = 0 →
      sm_callJ E L mX12_findsFar 1 0 0 [.ref (sm_B E + 109), .int 6] m_2 (fun r_8 m_7 =>
      Q r_8 m_7)))) :
  gX12_value_167 E L d vs x1 x2 x3 x5 x9 s0 s1 m Q := by
  refine sm_ladd (Y := mX12_value) (pc := 167) dX12_value_167 ?_
  refine sm_lstore (Y := mX12_value) (pc := 168) (fun y => [(12, .long y), (0, .ref (sm_B E + 109)), (1, .int x1), (2, .int x2), (3, .int x3), (5, .long x5), (9, .int x9)]) 12 (by decide) (fun _ => rfl) dX12_value_168 (fun x12_1 ex12_1 => ?_)
  replace h := h x12_1 ex12_1
  refine sm_lload (Y := mX12_value) (pc := 170) 0 12 rfl dX12_value_170 ?_
  refine sm_is_I (Y := mX12_value) (pc := 172) (As := [.long x12_1]) fX12_isBig wRX12_432 rfl (Nat.le_trans (by decide) hd) (Nat.le_of_ble_eq_true rfl) ⟨Nat.le_refl _, Nat.le_refl _⟩ dX12_value_172 rfl (sm_monoI h (fun r_3 m_2 h => ?_))
  refine sm_if_eq (Y := mX12_value) (pc := 175) 185 (by decide) dX12_value_175 (fun hc => ?_) (fun hc => ?_)
  · replace h := h.1 hc
    refine sm_lload (Y := mX12_value) (pc := 185) 5 5 rfl dX12_value_185 ?_
    refine sm_lstore0 (Y := mX12_value) (pc := 187) [(7, .long x5), (12, .long x12_1), (0, .ref (sm_B E + 109)), (1, .int x1), (2, .int x2), (3, .int x3), (5, .long x5), (9, .int x9)] 7 (by decide) rfl dX12_value_187 ?_
    refine sm_lload (Y := mX12_value) (pc := 189) 1 12 rfl dX12_value_189 ?_
    refine sm_lstore0 (Y := mX12_value) (pc := 191) [(5, .long x12_1), (7, .long x5), (12, .long x12_1), (0, .ref (sm_B E + 109)), (1, .int x1), (2, .int x2), (3, .int x3), (9, .int x9)] 5 (by decide) rfl dX12_value_191 ?_
    refine sm_iinc (Y := mX12_value) (pc := 193) (fun y => [(9, .int y), (5, .long x12_1), (7, .long x5), (12, .long x12_1), (0, .ref (sm_B E + 109)), (1, .int x1), (2, .int x2), (3, .int x3)]) 7 9 rfl (by decide) (fun _ => rfl) dX12_value_193 (fun x9_6 ex9_6 => ?_)
    replace h := h x9_6 ex9_6
    refine sm_goto (Y := mX12_value) (pc := 196) 99 (by decide) dX12_value_196 ?_
    refine sm_sub [4, 5, 6, 7, 1, 2, 0] rfl ?_
    exact h
  · replace h := h.2 hc
    refine sm_aload_n (Y := mX12_value) (pc := 178) 1 0 rfl rfl dX12_value_178 ?_
    refine sm_bipush (Y := mX12_value) (pc := 179) 6 (by decide) dX12_value_179 ?_
    refine sm_iv_J (Y := mX12_value) (pc := 181) (As := [.int 6]) (a := 109) fX12_findsFar wRX12_407 (lk_109 hly) (by decide) rfl rfl rfl (Nat.le_trans (by decide) hd) (Nat.le_of_ble_eq_true rfl) ⟨Nat.le_refl _, Nat.le_refl _⟩ dX12_value_181 rfl (sm_monoJ h (fun r_8 m_7 h => ?_))
    exact sm_lret (Y := mX12_value) (pc := 184) rfl rfl rfl dX12_value_184 ⟨_, rfl, h⟩
theorem dX12_value_99 : decode cX12_value 99 = .ok (.iload 9, 2) := dk_iload 9 (b := 9) (by decide +kernel) (by decide +kernel) (by decide +kernel)
theorem dX12_value_101 : decode cX12_value 101 = .ok (.ifCond .lt 98, 3) := dk_ifCond_lt 98 (b1 := 0) (b2 := 98) (by decide +kernel) (by decide +kernel) (by decide +kernel) (by decide +kernel)
theorem dX12_value_199 : decode cX12_value 199 = .ok (.iload_n 3, 1) := dk_iload_n_3 (by decide +kernel)
theorem dX12_value_200 : decode cX12_value 200 = .ok (.ifCond .ne 8, 3) := dk_ifCond_ne 8 (b1 := 0) (b2 := 8) (by decide +kernel) (by decide +kernel) (by decide +kernel) (by decide +kernel)
theorem dX12_value_208 : decode cX12_value 208 = .ok (.lload 7, 2) := dk_lload 7 (b := 7) (by decide +kernel) (by decide +kernel) (by decide +kernel)
theorem dX12_value_210 : decode cX12_value 210 = .ok (.lreturn, 1) := dk_lreturn (by decide +kernel)
theorem dX12_value_203 : decode cX12_value 203 = .ok (.lload 5, 2) := dk_lload 5 (b := 5) (by decide +kernel) (by decide +kernel) (by decide +kernel)
theorem dX12_value_205 : decode cX12_value 205 = .ok (.goto 5, 3) := dk_goto 5 (b1 := 0) (b2 := 5) (by decide +kernel) (by decide +kernel) (by decide +kernel) (by decide +kernel)
theorem dX12_value_104 : decode cX12_value 104 = .ok (.aload_n 0, 1) := dk_aload_n_0 (by decide +kernel)
theorem dX12_value_105 : decode cX12_value 105 = .ok (.getfield 44, 3) := dk_getfield 44 (b1 := 0) (b2 := 44) (by decide +kernel) (by decide +kernel) (by decide +kernel) (by decide +kernel)
theorem dX12_value_108 : decode cX12_value 108 = .ok (.bipush 48, 2) := dk_bipush 48 (b := 48) (by decide +kernel) (by decide +kernel) (by decide +kernel)
theorem dX12_value_110 : decode cX12_value 110 = .ok (.iload_n 1, 1) := dk_iload_n_1 (by decide +kernel)
theorem dX12_value_111 : decode cX12_value 111 = .ok (.imul, 1) := dk_imul (by decide +kernel)
theorem dX12_value_112 : decode cX12_value 112 = .ok (.iload 9, 2) := dk_iload 9 (b := 9) (by decide +kernel) (by decide +kernel) (by decide +kernel)
theorem dX12_value_114 : decode cX12_value 114 = .ok (.iadd, 1) := dk_iadd (by decide +kernel)
theorem dX12_value_115 : decode cX12_value 115 = .ok (.laload, 1) := dk_laload (by decide +kernel)
theorem dX12_value_116 : decode cX12_value 116 = .ok (.lstore 10, 2) := dk_lstore 10 (b := 10) (by decide +kernel) (by decide +kernel) (by decide +kernel)
theorem dX12_value_118 : decode cX12_value 118 = .ok (.lload 10, 2) := dk_lload 10 (b := 10) (by decide +kernel) (by decide +kernel) (by decide +kernel)
theorem dX12_value_120 : decode cX12_value 120 = .ok (.lload 5, 2) := dk_lload 5 (b := 5) (by decide +kernel) (by decide +kernel) (by decide +kernel)
theorem wRX12_435 : Cond.methodLink RX12 435 yX12_isFar ∈ sm_T := sm_in 1694 (by decide +kernel) (by decide +kernel)
theorem dX12_value_122 : decode cX12_value 122 = .ok (.invokestatic 435, 3) := dk_invokestatic 435 (b1 := 1) (b2 := 179) (by decide +kernel) (by decide +kernel) (by decide +kernel) (by decide +kernel)
theorem dX12_value_125 : decode cX12_value 125 = .ok (.ifCond .eq 10, 3) := dk_ifCond_eq 10 (b1 := 0) (b2 := 10) (by decide +kernel) (by decide +kernel) (by decide +kernel) (by decide +kernel)
theorem dX12_value_135 : decode cX12_value 135 = .ok (.lload 5, 2) := dk_lload 5 (b := 5) (by decide +kernel) (by decide +kernel) (by decide +kernel)
theorem dX12_value_137 : decode cX12_value 137 = .ok (.lconst 0, 1) := dk_lconst_0 (by decide +kernel)
theorem dX12_value_138 : decode cX12_value 138 = .ok (.lcmp, 1) := dk_lcmp (by decide +kernel)
theorem dX12_value_139 : decode cX12_value 139 = .ok (.ifCond .ne 7, 3) := dk_ifCond_ne 7 (b1 := 0) (b2 := 7) (by decide +kernel) (by decide +kernel) (by decide +kernel) (by decide +kernel)
theorem dX12_value_146 : decode cX12_value 146 = .ok (.lload 10, 2) := dk_lload 10 (b := 10) (by decide +kernel) (by decide +kernel) (by decide +kernel)
theorem dX12_value_148 : decode cX12_value 148 = .ok (.lload 5, 2) := dk_lload 5 (b := 5) (by decide +kernel) (by decide +kernel) (by decide +kernel)
theorem dX12_value_150 : decode cX12_value 150 = .ok (.lmul, 1) := dk_lmul (by decide +kernel)
theorem dX12_value_151 : decode cX12_value 151 = .ok (.lstore 12, 2) := dk_lstore 12 (b := 12) (by decide +kernel) (by decide +kernel) (by decide +kernel)
theorem dX12_value_153 : decode cX12_value 153 = .ok (.lload 12, 2) := dk_lload 12 (b := 12) (by decide +kernel) (by decide +kernel) (by decide +kernel)
theorem dX12_value_155 : decode cX12_value 155 = .ok (.iload_n 2, 1) := dk_iload_n_2 (by decide +kernel)
theorem dX12_value_156 : decode cX12_value 156 = .ok (.ifCond .ne 8, 3) := dk_ifCond_ne 8 (b1 := 0) (b2 := 8) (by decide +kernel) (by decide +kernel) (by decide +kernel) (by decide +kernel)
theorem dX12_value_164 : decode cX12_value 164 = .ok (.lload 7, 2) := dk_lload 7 (b := 7) (by decide +kernel) (by decide +kernel) (by decide +kernel)
theorem dX12_value_166 : decode cX12_value 166 = .ok (.lneg, 1) := dk_lneg (by decide +kernel)
theorem dX12_value_159 : decode cX12_value 159 = .ok (.lload 7, 2) := dk_lload 7 (b := 7) (by decide +kernel) (by decide +kernel) (by decide +kernel)
theorem dX12_value_161 : decode cX12_value 161 = .ok (.goto 6, 3) := dk_goto 6 (b1 := 0) (b2 := 6) (by decide +kernel) (by decide +kernel) (by decide +kernel) (by decide +kernel)
theorem dX12_value_142 : decode cX12_value 142 = .ok (.lconst 0, 1) := dk_lconst_0 (by decide +kernel)
theorem dX12_value_143 : decode cX12_value 143 = .ok (.goto 8, 3) := dk_goto 8 (b1 := 0) (b2 := 8) (by decide +kernel) (by decide +kernel) (by decide +kernel) (by decide +kernel)
theorem dX12_value_128 : decode cX12_value 128 = .ok (.aload_n 0, 1) := dk_aload_n_0 (by decide +kernel)
theorem dX12_value_129 : decode cX12_value 129 = .ok (.bipush 6, 2) := dk_bipush 6 (b := 6) (by decide +kernel) (by decide +kernel) (by decide +kernel)
theorem dX12_value_131 : decode cX12_value 131 = .ok (.invokevirtual 407, 3) := dk_invokevirtual 407 (b1 := 1) (b2 := 151) (by decide +kernel) (by decide +kernel) (by decide +kernel) (by decide +kernel)
theorem dX12_value_134 : decode cX12_value 134 = .ok (.lreturn, 1) := dk_lreturn (by decide +kernel)
set_option maxRecDepth 20000 in
theorem vX12_value_99 {E : sm_E} {L : sm_S → Prop} {d : Nat} {vs : List Value} {x1 : Int32} {x2 : Int32} {x3 : Int32} {x5 : Int64} {x7 : Int64} {x9 : Int32}  {m : sm_M} {Q : Int64 → sm_M → Prop} (hly : ∀ S, L S → ly S) (hd : 2 ≤ d) 
  (h : (x9 < 0 →
      (¬ x3 = 0 →
         Q x7 m) ∧
      (x3 = 0 →
         Q x5 m)) ∧
   (¬ x9 < 0 →
      (vp_in (((48 : Int32) * x1) + x9) 192) ∧ ∀ x10_2 : Int64, x10_2 = m.2.1 120 (((48 : Int32) * x1) + x9).toNatClampNeg →
      sm_callI E L mX12_isFar 1 0 0 [.long x10_2, .long x5] m (fun r_4 m_3 =>
      (r_4 = 0 →
         (¬ x5 = 0 →
            ∀ x12_5 : Int64, x12_5 = x10_2 * x5 →
            (¬ x2 = 0 →
               gX12_value_167 E L d vs x1 x2 x3 x5 x9 x12_5 (-x7) m_3 Q) ∧
            (x2 = 0 →
               gX12_value_167 E L d vs x1 x2 x3 x5 x9 x12_5 x7 m_3 Q)) ∧
         (x5 = 0 →
            (¬ x2 = 0 →
               gX12_value_167 E L d vs x1 x2 x3 x5 x9 0 (-x7) m_3 Q) ∧
            (x2 = 0 →
               gX12_value_167 E L d vs x1 x2 x3 x5 x9 0 x7 m_3 Q))) ∧
      (¬ r_4 = 0 →
         sm_callJ E L mX12_findsFar 1 0 0 [.ref (sm_B E + 109), .int 6] m_3 (fun r_8 m_7 =>
         Q r_8 m_7))))) :
  gX12_value_99 E L d vs x1 x2 x3 x5 x7 x9 m Q := by
  refine sm_iload (Y := mX12_value) (pc := 99) 6 9 rfl dX12_value_99 ?_
  refine sm_if_lt (Y := mX12_value) (pc := 101) 199 (by decide) dX12_value_101 (fun hc => ?_) (fun hc => ?_)
  · replace h := h.1 hc
    refine sm_iload_n (Y := mX12_value) (pc := 199) 3 3 rfl rfl dX12_value_199 ?_
    refine sm_if_ne (Y := mX12_value) (pc := 200) 208 (by decide) dX12_value_200 (fun hc => ?_) (fun hc => ?_)
    · replace h := h.1 hc
      refine sm_lload (Y := mX12_value) (pc := 208) 5 7 rfl dX12_value_208 ?_
      exact sm_lret (Y := mX12_value) (pc := 210) rfl rfl rfl dX12_value_210 ⟨_, rfl, h⟩
    · replace h := h.2 hc
      refine sm_lload (Y := mX12_value) (pc := 203) 4 5 rfl dX12_value_203 ?_
      refine sm_goto (Y := mX12_value) (pc := 205) 210 (by decide) dX12_value_205 ?_
      exact sm_lret (Y := mX12_value) (pc := 210) rfl rfl rfl dX12_value_210 ⟨_, rfl, h⟩
  · replace h := h.2 hc
    refine sm_aload_n (Y := mX12_value) (pc := 104) 0 0 rfl rfl dX12_value_104 ?_
    refine gf_RX12_44 (Y := mX12_value) (pc := 105) (b := 120) rfl ((lk_109 hly) _) (lf_109_16 hly _) dX12_value_105 ?_
    refine sm_bipush (Y := mX12_value) (pc := 108) 48 (by decide) dX12_value_108 ?_
    refine sm_iload_n (Y := mX12_value) (pc := 110) 1 1 rfl rfl dX12_value_110 ?_
    refine sm_imul (Y := mX12_value) (pc := 111) dX12_value_111 ?_
    refine sm_iload (Y := mX12_value) (pc := 112) 6 9 rfl dX12_value_112 ?_
    refine sm_iadd (Y := mX12_value) (pc := 114) dX12_value_114 ?_
    obtain ⟨hn_1, h⟩ := h
    refine sm_lald (Y := mX12_value) (pc := 115) (la_120 hly _) hn_1 dX12_value_115 ?_
    refine sm_lstore (Y := mX12_value) (pc := 116) (fun y => [(10, .long y), (0, .ref (sm_B E + 109)), (1, .int x1), (2, .int x2), (3, .int x3), (5, .long x5), (7, .long x7), (9, .int x9)]) 10 (by decide) (fun _ => rfl) dX12_value_116 (fun x10_2 ex10_2 => ?_)
    replace h := h x10_2 ex10_2
    refine sm_lload (Y := mX12_value) (pc := 118) 0 10 rfl dX12_value_118 ?_
    refine sm_lload (Y := mX12_value) (pc := 120) 5 5 rfl dX12_value_120 ?_
    refine sm_is_I (Y := mX12_value) (pc := 122) (As := [.long x10_2, .long x5]) fX12_isFar wRX12_435 rfl (Nat.le_trans (by decide) hd) (Nat.le_of_ble_eq_true rfl) ⟨Nat.le_refl _, Nat.le_refl _⟩ dX12_value_122 rfl (sm_monoI h (fun r_4 m_3 h => ?_))
    refine sm_if_eq (Y := mX12_value) (pc := 125) 135 (by decide) dX12_value_125 (fun hc => ?_) (fun hc => ?_)
    · replace h := h.1 hc
      refine sm_lload (Y := mX12_value) (pc := 135) 5 5 rfl dX12_value_135 ?_
      refine sm_lconst (Y := mX12_value) (pc := 137) 0 (by decide) dX12_value_137 ?_
      refine sm_lif_ne (Y := mX12_value) (pc := 138) 146 (by decide) dX12_value_138 dX12_value_139 (fun hc => ?_) (fun hc => ?_)
      · replace h := h.1 hc
        refine sm_lload (Y := mX12_value) (pc := 146) 0 10 rfl dX12_value_146 ?_
        refine sm_lload (Y := mX12_value) (pc := 148) 5 5 rfl dX12_value_148 ?_
        refine sm_lmul (Y := mX12_value) (pc := 150) dX12_value_150 ?_
        refine sm_lstore (Y := mX12_value) (pc := 151) (fun y => [(12, .long y), (10, .long x10_2), (0, .ref (sm_B E + 109)), (1, .int x1), (2, .int x2), (3, .int x3), (5, .long x5), (7, .long x7), (9, .int x9)]) 12 (by decide) (fun _ => rfl) dX12_value_151 (fun x12_5 ex12_5 => ?_)
        replace h := h x12_5 ex12_5
        refine sm_lload (Y := mX12_value) (pc := 153) 0 12 rfl dX12_value_153 ?_
        refine sm_iload_n (Y := mX12_value) (pc := 155) 4 2 rfl rfl dX12_value_155 ?_
        refine sm_if_ne (Y := mX12_value) (pc := 156) 164 (by decide) dX12_value_156 (fun hc => ?_) (fun hc => ?_)
        · replace h := h.1 hc
          refine sm_lload (Y := mX12_value) (pc := 164) 7 7 rfl dX12_value_164 ?_
          refine sm_lneg (Y := mX12_value) (pc := 166) dX12_value_166 ?_
          refine sm_sub [2, 3, 4, 5, 6, 8] rfl ?_
          exact h
        · replace h := h.2 hc
          refine sm_lload (Y := mX12_value) (pc := 159) 7 7 rfl dX12_value_159 ?_
          refine sm_goto (Y := mX12_value) (pc := 161) 167 (by decide) dX12_value_161 ?_
          refine sm_sub [2, 3, 4, 5, 6, 8] rfl ?_
          exact h
      · replace h := h.2 hc
        refine sm_lconst (Y := mX12_value) (pc := 142) 0 (by decide) dX12_value_142 ?_
        refine sm_goto (Y := mX12_value) (pc := 143) 151 (by decide) dX12_value_143 ?_
        refine sm_lstore0 (Y := mX12_value) (pc := 151) [(12, .long 0), (10, .long x10_2), (0, .ref (sm_B E + 109)), (1, .int x1), (2, .int x2), (3, .int x3), (5, .long x5), (7, .long x7), (9, .int x9)] 12 (by decide) rfl dX12_value_151 ?_
        refine sm_lload (Y := mX12_value) (pc := 153) 0 12 rfl dX12_value_153 ?_
        refine sm_iload_n (Y := mX12_value) (pc := 155) 4 2 rfl rfl dX12_value_155 ?_
        refine sm_if_ne (Y := mX12_value) (pc := 156) 164 (by decide) dX12_value_156 (fun hc => ?_) (fun hc => ?_)
        · replace h := h.1 hc
          refine sm_lload (Y := mX12_value) (pc := 164) 7 7 rfl dX12_value_164 ?_
          refine sm_lneg (Y := mX12_value) (pc := 166) dX12_value_166 ?_
          refine sm_sub [2, 3, 4, 5, 6, 8] rfl ?_
          exact h
        · replace h := h.2 hc
          refine sm_lload (Y := mX12_value) (pc := 159) 7 7 rfl dX12_value_159 ?_
          refine sm_goto (Y := mX12_value) (pc := 161) 167 (by decide) dX12_value_161 ?_
          refine sm_sub [2, 3, 4, 5, 6, 8] rfl ?_
          exact h
    · replace h := h.2 hc
      refine sm_aload_n (Y := mX12_value) (pc := 128) 1 0 rfl rfl dX12_value_128 ?_
      refine sm_bipush (Y := mX12_value) (pc := 129) 6 (by decide) dX12_value_129 ?_
      refine sm_iv_J (Y := mX12_value) (pc := 131) (As := [.int 6]) (a := 109) fX12_findsFar wRX12_407 (lk_109 hly) (by decide) rfl rfl rfl (Nat.le_trans (by decide) hd) (Nat.le_of_ble_eq_true rfl) ⟨Nat.le_refl _, Nat.le_refl _⟩ dX12_value_131 rfl (sm_monoJ h (fun r_8 m_7 h => ?_))
      exact sm_lret (Y := mX12_value) (pc := 134) rfl rfl rfl dX12_value_134 ⟨_, rfl, h⟩
theorem dX12_value_0 : decode cX12_value 0 = .ok (.iload_n 1, 1) := dk_iload_n_1 (by decide +kernel)
theorem dX12_value_1 : decode cX12_value 1 = .ok (.invokestatic 336, 3) := dk_invokestatic 336 (b1 := 1) (b2 := 80) (by decide +kernel) (by decide +kernel) (by decide +kernel) (by decide +kernel)
theorem dX12_value_4 : decode cX12_value 4 = .ok (.ifCond .eq 17, 3) := dk_ifCond_eq 17 (b1 := 0) (b2 := 17) (by decide +kernel) (by decide +kernel) (by decide +kernel) (by decide +kernel)
theorem dX12_value_21 : decode cX12_value 21 = .ok (.aload_n 0, 1) := dk_aload_n_0 (by decide +kernel)
theorem dX12_value_22 : decode cX12_value 22 = .ok (.iconst 1, 1) := dk_iconst_1 (by decide +kernel)
theorem dX12_value_23 : decode cX12_value 23 = .ok (.invokevirtual 407, 3) := dk_invokevirtual 407 (b1 := 1) (b2 := 151) (by decide +kernel) (by decide +kernel) (by decide +kernel) (by decide +kernel)
theorem dX12_value_26 : decode cX12_value 26 = .ok (.lreturn, 1) := dk_lreturn (by decide +kernel)
theorem dX12_value_7 : decode cX12_value 7 = .ok (.iload_n 2, 1) := dk_iload_n_2 (by decide +kernel)
theorem dX12_value_8 : decode cX12_value 8 = .ok (.invokestatic 214, 3) := dk_invokestatic 214 (b1 := 0) (b2 := 214) (by decide +kernel) (by decide +kernel) (by decide +kernel) (by decide +kernel)
theorem dX12_value_11 : decode cX12_value 11 = .ok (.ifCond .eq 10, 3) := dk_ifCond_eq 10 (b1 := 0) (b2 := 10) (by decide +kernel) (by decide +kernel) (by decide +kernel) (by decide +kernel)
theorem dX12_value_14 : decode cX12_value 14 = .ok (.iload_n 3, 1) := dk_iload_n_3 (by decide +kernel)
theorem dX12_value_15 : decode cX12_value 15 = .ok (.invokestatic 214, 3) := dk_invokestatic 214 (b1 := 0) (b2 := 214) (by decide +kernel) (by decide +kernel) (by decide +kernel) (by decide +kernel)
theorem dX12_value_18 : decode cX12_value 18 = .ok (.ifCond .ne 9, 3) := dk_ifCond_ne 9 (b1 := 0) (b2 := 9) (by decide +kernel) (by decide +kernel) (by decide +kernel) (by decide +kernel)
theorem dX12_value_27 : decode cX12_value 27 = .ok (.aload_n 0, 1) := dk_aload_n_0 (by decide +kernel)
theorem dX12_value_28 : decode cX12_value 28 = .ok (.getfield 48, 3) := dk_getfield 48 (b1 := 0) (b2 := 48) (by decide +kernel) (by decide +kernel) (by decide +kernel) (by decide +kernel)
theorem dX12_value_31 : decode cX12_value 31 = .ok (.iload_n 1, 1) := dk_iload_n_1 (by decide +kernel)
theorem dX12_value_32 : decode cX12_value 32 = .ok (.iaload, 1) := dk_iaload (by decide +kernel)
theorem dX12_value_33 : decode cX12_value 33 = .ok (.ifCond .eq 12, 3) := dk_ifCond_eq 12 (b1 := 0) (b2 := 12) (by decide +kernel) (by decide +kernel) (by decide +kernel) (by decide +kernel)
theorem dX12_value_45 : decode cX12_value 45 = .ok (.aload_n 0, 1) := dk_aload_n_0 (by decide +kernel)
theorem dX12_value_46 : decode cX12_value 46 = .ok (.iconst 2, 1) := dk_iconst_2 (by decide +kernel)
theorem dX12_value_47 : decode cX12_value 47 = .ok (.invokevirtual 407, 3) := dk_invokevirtual 407 (b1 := 1) (b2 := 151) (by decide +kernel) (by decide +kernel) (by decide +kernel) (by decide +kernel)
theorem dX12_value_50 : decode cX12_value 50 = .ok (.lreturn, 1) := dk_lreturn (by decide +kernel)
theorem dX12_value_36 : decode cX12_value 36 = .ok (.aload_n 0, 1) := dk_aload_n_0 (by decide +kernel)
theorem dX12_value_37 : decode cX12_value 37 = .ok (.getfield 51, 3) := dk_getfield 51 (b1 := 0) (b2 := 51) (by decide +kernel) (by decide +kernel) (by decide +kernel) (by decide +kernel)
theorem dX12_value_40 : decode cX12_value 40 = .ok (.iload_n 1, 1) := dk_iload_n_1 (by decide +kernel)
theorem dX12_value_41 : decode cX12_value 41 = .ok (.iaload, 1) := dk_iaload (by decide +kernel)
theorem dX12_value_42 : decode cX12_value 42 = .ok (.ifCond .ne 9, 3) := dk_ifCond_ne 9 (b1 := 0) (b2 := 9) (by decide +kernel) (by decide +kernel) (by decide +kernel) (by decide +kernel)
theorem dX12_value_51 : decode cX12_value 51 = .ok (.aload_n 0, 1) := dk_aload_n_0 (by decide +kernel)
theorem dX12_value_52 : decode cX12_value 52 = .ok (.getfield 51, 3) := dk_getfield 51 (b1 := 0) (b2 := 51) (by decide +kernel) (by decide +kernel) (by decide +kernel) (by decide +kernel)
theorem dX12_value_55 : decode cX12_value 55 = .ok (.iload_n 1, 1) := dk_iload_n_1 (by decide +kernel)
theorem dX12_value_56 : decode cX12_value 56 = .ok (.iaload, 1) := dk_iaload (by decide +kernel)
theorem dX12_value_57 : decode cX12_value 57 = .ok (.iconst 1, 1) := dk_iconst_1 (by decide +kernel)
theorem dX12_value_58 : decode cX12_value 58 = .ok (.isub, 1) := dk_isub (by decide +kernel)
theorem dX12_value_59 : decode cX12_value 59 = .ok (.istore 4, 2) := dk_istore 4 (b := 4) (by decide +kernel) (by decide +kernel) (by decide +kernel)
theorem dX12_value_61 : decode cX12_value 61 = .ok (.aload_n 0, 1) := dk_aload_n_0 (by decide +kernel)
theorem dX12_value_62 : decode cX12_value 62 = .ok (.getfield 44, 3) := dk_getfield 44 (b1 := 0) (b2 := 44) (by decide +kernel) (by decide +kernel) (by decide +kernel) (by decide +kernel)
theorem dX12_value_65 : decode cX12_value 65 = .ok (.bipush 48, 2) := dk_bipush 48 (b := 48) (by decide +kernel) (by decide +kernel) (by decide +kernel)
theorem dX12_value_67 : decode cX12_value 67 = .ok (.iload_n 1, 1) := dk_iload_n_1 (by decide +kernel)
theorem dX12_value_68 : decode cX12_value 68 = .ok (.imul, 1) := dk_imul (by decide +kernel)
theorem dX12_value_69 : decode cX12_value 69 = .ok (.iload 4, 2) := dk_iload 4 (b := 4) (by decide +kernel) (by decide +kernel) (by decide +kernel)
theorem dX12_value_71 : decode cX12_value 71 = .ok (.iadd, 1) := dk_iadd (by decide +kernel)
theorem dX12_value_72 : decode cX12_value 72 = .ok (.laload, 1) := dk_laload (by decide +kernel)
theorem dX12_value_73 : decode cX12_value 73 = .ok (.lstore 5, 2) := dk_lstore 5 (b := 5) (by decide +kernel) (by decide +kernel) (by decide +kernel)
theorem dX12_value_75 : decode cX12_value 75 = .ok (.lconst 1, 1) := dk_lconst_1 (by decide +kernel)
theorem dX12_value_76 : decode cX12_value 76 = .ok (.lstore 7, 2) := dk_lstore 7 (b := 7) (by decide +kernel) (by decide +kernel) (by decide +kernel)
theorem dX12_value_78 : decode cX12_value 78 = .ok (.lload 5, 2) := dk_lload 5 (b := 5) (by decide +kernel) (by decide +kernel) (by decide +kernel)
theorem dX12_value_80 : decode cX12_value 80 = .ok (.invokestatic 432, 3) := dk_invokestatic 432 (b1 := 1) (b2 := 176) (by decide +kernel) (by decide +kernel) (by decide +kernel) (by decide +kernel)
theorem dX12_value_83 : decode cX12_value 83 = .ok (.ifCond .eq 10, 3) := dk_ifCond_eq 10 (b1 := 0) (b2 := 10) (by decide +kernel) (by decide +kernel) (by decide +kernel) (by decide +kernel)
theorem dX12_value_93 : decode cX12_value 93 = .ok (.iload 4, 2) := dk_iload 4 (b := 4) (by decide +kernel) (by decide +kernel) (by decide +kernel)
theorem dX12_value_95 : decode cX12_value 95 = .ok (.iconst 1, 1) := dk_iconst_1 (by decide +kernel)
theorem dX12_value_96 : decode cX12_value 96 = .ok (.isub, 1) := dk_isub (by decide +kernel)
theorem dX12_value_97 : decode cX12_value 97 = .ok (.istore 9, 2) := dk_istore 9 (b := 9) (by decide +kernel) (by decide +kernel) (by decide +kernel)
theorem dX12_value_86 : decode cX12_value 86 = .ok (.aload_n 0, 1) := dk_aload_n_0 (by decide +kernel)
theorem dX12_value_87 : decode cX12_value 87 = .ok (.bipush 6, 2) := dk_bipush 6 (b := 6) (by decide +kernel) (by decide +kernel) (by decide +kernel)
theorem dX12_value_89 : decode cX12_value 89 = .ok (.invokevirtual 407, 3) := dk_invokevirtual 407 (b1 := 1) (b2 := 151) (by decide +kernel) (by decide +kernel) (by decide +kernel) (by decide +kernel)
theorem dX12_value_92 : decode cX12_value 92 = .ok (.lreturn, 1) := dk_lreturn (by decide +kernel)
set_option maxRecDepth 20000 in
theorem vX12_value_0 {E : sm_E} {L : sm_S → Prop} {d : Nat} {x1 : Int32} {x2 : Int32} {x3 : Int32}  {m : sm_M} {Q : Int64 → sm_M → Prop} (hly : ∀ S, L S → ly S) (hd : 2 ≤ d) 
  (h : sm_callI E L mX12_isSheet 1 0 0 [.int x1] m (fun r_2 m_1 =>
   (r_2 = 0 →
      sm_callJ E L mX12_findsFar 1 0 0 [.ref (sm_B E + 109), .int 1] m_1 (fun r_4 m_3 =>
      Q r_4 m_3)) ∧
   (¬ r_2 = 0 →
      sm_callI E L mX12_isPart 1 0 0 [.int x2] m_1 (fun r_6 m_5 =>
      (r_6 = 0 →
         sm_callJ E L mX12_findsFar 1 0 0 [.ref (sm_B E + 109), .int 1] m_5 (fun r_8 m_7 =>
         Q r_8 m_7)) ∧
      (¬ r_6 = 0 →
         sm_callI E L mX12_isPart 1 0 0 [.int x3] m_5 (fun r_10 m_9 =>
         (¬ r_10 = 0 →
            (vp_in x1 4) ∧ ((m_9.1 121 x1.toNatClampNeg) = 0 →
               sm_callJ E L mX12_findsFar 1 0 0 [.ref (sm_B E + 109), .int 2] m_9 (fun r_13 m_12 =>
               Q r_13 m_12)) ∧
            (¬ (m_9.1 121 x1.toNatClampNeg) = 0 →
               (vp_in x1 4) ∧ (¬ (m_9.1 122 x1.toNatClampNeg) = 0 →
                  (vp_in x1 4) ∧ ∀ x4_16 : Int32, x4_16 = (m_9.1 122 x1.toNatClampNeg) - 1 →
                  (vp_in (((48 : Int32) * x1) + x4_16) 192) ∧ ∀ x5_18 : Int64, x5_18 = m_9.2.1 120 (((48 : Int32) * x1) + x4_16).toNatClampNeg →
                  sm_callI E L mX12_isBig 1 0 0 [.long x5_18] m_9 (fun r_21 m_20 =>
                  (r_21 = 0 →
                     ∀ x9_22 : Int32, x9_22 = x4_16 - 1 →
                     gX12_value_99 E L d ([.ref (sm_B E + 109), .int x1, .int x2, .int x3]) x1 x2 x3 x5_18 1 x9_22 m_20 Q) ∧
                  (¬ r_21 = 0 →
                     sm_callJ E L mX12_findsFar 1 0 0 [.ref (sm_B E + 109), .int 6] m_20 (fun r_24 m_23 =>
                     Q r_24 m_23)))) ∧
               ((m_9.1 122 x1.toNatClampNeg) = 0 →
                  sm_callJ E L mX12_findsFar 1 0 0 [.ref (sm_B E + 109), .int 2] m_9 (fun r_26 m_25 =>
                  Q r_26 m_25)))) ∧
         (r_10 = 0 →
            sm_callJ E L mX12_findsFar 1 0 0 [.ref (sm_B E + 109), .int 1] m_9 (fun r_28 m_27 =>
            Q r_28 m_27)))))))) :
  sm_callJ E L mX12_value d 0 0 [.ref (sm_B E + 109), .int x1, .int x2, .int x3] m Q := by
  refine sm_enter (by decide +kernel) (by simp [lg_sl, Value.category]) ?_
  refine sm_iload_n (Y := mX12_value) (pc := 0) 1 1 rfl rfl dX12_value_0 ?_
  refine sm_is_I (Y := mX12_value) (pc := 1) (As := [.int x1]) fX12_isSheet wRX12_336 rfl (Nat.le_trans (by decide) hd) (Nat.le_of_ble_eq_true rfl) ⟨Nat.le_refl _, Nat.le_refl _⟩ dX12_value_1 rfl (sm_monoI h (fun r_2 m_1 h => ?_))
  refine sm_if_eq (Y := mX12_value) (pc := 4) 21 (by decide) dX12_value_4 (fun hc => ?_) (fun hc => ?_)
  · replace h := h.1 hc
    refine sm_aload_n (Y := mX12_value) (pc := 21) 0 0 rfl rfl dX12_value_21 ?_
    refine sm_iconst (Y := mX12_value) (pc := 22) 1 (by decide) dX12_value_22 ?_
    refine sm_iv_J (Y := mX12_value) (pc := 23) (As := [.int 1]) (a := 109) fX12_findsFar wRX12_407 (lk_109 hly) (by decide) rfl rfl rfl (Nat.le_trans (by decide) hd) (Nat.le_of_ble_eq_true rfl) ⟨Nat.le_refl _, Nat.le_refl _⟩ dX12_value_23 rfl (sm_monoJ h (fun r_4 m_3 h => ?_))
    exact sm_lret (Y := mX12_value) (pc := 26) rfl rfl rfl dX12_value_26 ⟨_, rfl, h⟩
  · replace h := h.2 hc
    refine sm_iload_n (Y := mX12_value) (pc := 7) 2 2 rfl rfl dX12_value_7 ?_
    refine sm_is_I (Y := mX12_value) (pc := 8) (As := [.int x2]) fX12_isPart wRX12_214 rfl (Nat.le_trans (by decide) hd) (Nat.le_of_ble_eq_true rfl) ⟨Nat.le_refl _, Nat.le_refl _⟩ dX12_value_8 rfl (sm_monoI h (fun r_6 m_5 h => ?_))
    refine sm_if_eq (Y := mX12_value) (pc := 11) 21 (by decide) dX12_value_11 (fun hc => ?_) (fun hc => ?_)
    · replace h := h.1 hc
      refine sm_aload_n (Y := mX12_value) (pc := 21) 0 0 rfl rfl dX12_value_21 ?_
      refine sm_iconst (Y := mX12_value) (pc := 22) 1 (by decide) dX12_value_22 ?_
      refine sm_iv_J (Y := mX12_value) (pc := 23) (As := [.int 1]) (a := 109) fX12_findsFar wRX12_407 (lk_109 hly) (by decide) rfl rfl rfl (Nat.le_trans (by decide) hd) (Nat.le_of_ble_eq_true rfl) ⟨Nat.le_refl _, Nat.le_refl _⟩ dX12_value_23 rfl (sm_monoJ h (fun r_8 m_7 h => ?_))
      exact sm_lret (Y := mX12_value) (pc := 26) rfl rfl rfl dX12_value_26 ⟨_, rfl, h⟩
    · replace h := h.2 hc
      refine sm_iload_n (Y := mX12_value) (pc := 14) 3 3 rfl rfl dX12_value_14 ?_
      refine sm_is_I (Y := mX12_value) (pc := 15) (As := [.int x3]) fX12_isPart wRX12_214 rfl (Nat.le_trans (by decide) hd) (Nat.le_of_ble_eq_true rfl) ⟨Nat.le_refl _, Nat.le_refl _⟩ dX12_value_15 rfl (sm_monoI h (fun r_10 m_9 h => ?_))
      refine sm_if_ne (Y := mX12_value) (pc := 18) 27 (by decide) dX12_value_18 (fun hc => ?_) (fun hc => ?_)
      · replace h := h.1 hc
        refine sm_aload_n (Y := mX12_value) (pc := 27) 0 0 rfl rfl dX12_value_27 ?_
        refine gf_RX12_48 (Y := mX12_value) (pc := 28) (b := 121) rfl ((lk_109 hly) _) (lf_109_17 hly _) dX12_value_28 ?_
        refine sm_iload_n (Y := mX12_value) (pc := 31) 1 1 rfl rfl dX12_value_31 ?_
        obtain ⟨hn_11, h⟩ := h
        refine sm_iald (Y := mX12_value) (pc := 32) (la_121 hly _) hn_11 dX12_value_32 ?_
        refine sm_if_eq (Y := mX12_value) (pc := 33) 45 (by decide) dX12_value_33 (fun hc => ?_) (fun hc => ?_)
        · replace h := h.1 hc
          refine sm_aload_n (Y := mX12_value) (pc := 45) 0 0 rfl rfl dX12_value_45 ?_
          refine sm_iconst (Y := mX12_value) (pc := 46) 2 (by decide) dX12_value_46 ?_
          refine sm_iv_J (Y := mX12_value) (pc := 47) (As := [.int 2]) (a := 109) fX12_findsFar wRX12_407 (lk_109 hly) (by decide) rfl rfl rfl (Nat.le_trans (by decide) hd) (Nat.le_of_ble_eq_true rfl) ⟨Nat.le_refl _, Nat.le_refl _⟩ dX12_value_47 rfl (sm_monoJ h (fun r_13 m_12 h => ?_))
          exact sm_lret (Y := mX12_value) (pc := 50) rfl rfl rfl dX12_value_50 ⟨_, rfl, h⟩
        · replace h := h.2 hc
          refine sm_aload_n (Y := mX12_value) (pc := 36) 0 0 rfl rfl dX12_value_36 ?_
          refine gf_RX12_51 (Y := mX12_value) (pc := 37) (b := 122) rfl ((lk_109 hly) _) (lf_109_18 hly _) dX12_value_37 ?_
          refine sm_iload_n (Y := mX12_value) (pc := 40) 1 1 rfl rfl dX12_value_40 ?_
          obtain ⟨hn_14, h⟩ := h
          refine sm_iald (Y := mX12_value) (pc := 41) (la_122 hly _) hn_14 dX12_value_41 ?_
          refine sm_if_ne (Y := mX12_value) (pc := 42) 51 (by decide) dX12_value_42 (fun hc => ?_) (fun hc => ?_)
          · replace h := h.1 hc
            refine sm_aload_n (Y := mX12_value) (pc := 51) 0 0 rfl rfl dX12_value_51 ?_
            refine gf_RX12_51 (Y := mX12_value) (pc := 52) (b := 122) rfl ((lk_109 hly) _) (lf_109_18 hly _) dX12_value_52 ?_
            refine sm_iload_n (Y := mX12_value) (pc := 55) 1 1 rfl rfl dX12_value_55 ?_
            obtain ⟨hn_15, h⟩ := h
            refine sm_iald (Y := mX12_value) (pc := 56) (la_122 hly _) hn_15 dX12_value_56 ?_
            refine sm_iconst (Y := mX12_value) (pc := 57) 1 (by decide) dX12_value_57 ?_
            refine sm_isub (Y := mX12_value) (pc := 58) dX12_value_58 ?_
            refine sm_istore (Y := mX12_value) (pc := 59) (fun y => [(4, .int y), (0, .ref (sm_B E + 109)), (1, .int x1), (2, .int x2), (3, .int x3)]) 4 (by decide) (fun _ => rfl) dX12_value_59 (fun x4_16 ex4_16 => ?_)
            replace h := h x4_16 ex4_16
            refine sm_aload_n (Y := mX12_value) (pc := 61) 1 0 rfl rfl dX12_value_61 ?_
            refine gf_RX12_44 (Y := mX12_value) (pc := 62) (b := 120) rfl ((lk_109 hly) _) (lf_109_16 hly _) dX12_value_62 ?_
            refine sm_bipush (Y := mX12_value) (pc := 65) 48 (by decide) dX12_value_65 ?_
            refine sm_iload_n (Y := mX12_value) (pc := 67) 2 1 rfl rfl dX12_value_67 ?_
            refine sm_imul (Y := mX12_value) (pc := 68) dX12_value_68 ?_
            refine sm_iload (Y := mX12_value) (pc := 69) 0 4 rfl dX12_value_69 ?_
            refine sm_iadd (Y := mX12_value) (pc := 71) dX12_value_71 ?_
            obtain ⟨hn_17, h⟩ := h
            refine sm_lald (Y := mX12_value) (pc := 72) (la_120 hly _) hn_17 dX12_value_72 ?_
            refine sm_lstore (Y := mX12_value) (pc := 73) (fun y => [(5, .long y), (4, .int x4_16), (0, .ref (sm_B E + 109)), (1, .int x1), (2, .int x2), (3, .int x3)]) 5 (by decide) (fun _ => rfl) dX12_value_73 (fun x5_18 ex5_18 => ?_)
            replace h := h x5_18 ex5_18
            refine sm_lconst (Y := mX12_value) (pc := 75) 1 (by decide) dX12_value_75 ?_
            refine sm_lstore0 (Y := mX12_value) (pc := 76) [(7, .long 1), (5, .long x5_18), (4, .int x4_16), (0, .ref (sm_B E + 109)), (1, .int x1), (2, .int x2), (3, .int x3)] 7 (by decide) rfl dX12_value_76 ?_
            refine sm_lload (Y := mX12_value) (pc := 78) 1 5 rfl dX12_value_78 ?_
            refine sm_is_I (Y := mX12_value) (pc := 80) (As := [.long x5_18]) fX12_isBig wRX12_432 rfl (Nat.le_trans (by decide) hd) (Nat.le_of_ble_eq_true rfl) ⟨Nat.le_refl _, Nat.le_refl _⟩ dX12_value_80 rfl (sm_monoI h (fun r_21 m_20 h => ?_))
            refine sm_if_eq (Y := mX12_value) (pc := 83) 93 (by decide) dX12_value_83 (fun hc => ?_) (fun hc => ?_)
            · replace h := h.1 hc
              refine sm_iload (Y := mX12_value) (pc := 93) 2 4 rfl dX12_value_93 ?_
              refine sm_iconst (Y := mX12_value) (pc := 95) 1 (by decide) dX12_value_95 ?_
              refine sm_isub (Y := mX12_value) (pc := 96) dX12_value_96 ?_
              refine sm_istore (Y := mX12_value) (pc := 97) (fun y => [(9, .int y), (7, .long 1), (5, .long x5_18), (4, .int x4_16), (0, .ref (sm_B E + 109)), (1, .int x1), (2, .int x2), (3, .int x3)]) 9 (by decide) (fun _ => rfl) dX12_value_97 (fun x9_22 ex9_22 => ?_)
              replace h := h x9_22 ex9_22
              refine sm_sub [4, 5, 6, 7, 2, 1, 0] rfl ?_
              exact h
            · replace h := h.2 hc
              refine sm_aload_n (Y := mX12_value) (pc := 86) 3 0 rfl rfl dX12_value_86 ?_
              refine sm_bipush (Y := mX12_value) (pc := 87) 6 (by decide) dX12_value_87 ?_
              refine sm_iv_J (Y := mX12_value) (pc := 89) (As := [.int 6]) (a := 109) fX12_findsFar wRX12_407 (lk_109 hly) (by decide) rfl rfl rfl (Nat.le_trans (by decide) hd) (Nat.le_of_ble_eq_true rfl) ⟨Nat.le_refl _, Nat.le_refl _⟩ dX12_value_89 rfl (sm_monoJ h (fun r_24 m_23 h => ?_))
              exact sm_lret (Y := mX12_value) (pc := 92) rfl rfl rfl dX12_value_92 ⟨_, rfl, h⟩
          · replace h := h.2 hc
            refine sm_aload_n (Y := mX12_value) (pc := 45) 0 0 rfl rfl dX12_value_45 ?_
            refine sm_iconst (Y := mX12_value) (pc := 46) 2 (by decide) dX12_value_46 ?_
            refine sm_iv_J (Y := mX12_value) (pc := 47) (As := [.int 2]) (a := 109) fX12_findsFar wRX12_407 (lk_109 hly) (by decide) rfl rfl rfl (Nat.le_trans (by decide) hd) (Nat.le_of_ble_eq_true rfl) ⟨Nat.le_refl _, Nat.le_refl _⟩ dX12_value_47 rfl (sm_monoJ h (fun r_26 m_25 h => ?_))
            exact sm_lret (Y := mX12_value) (pc := 50) rfl rfl rfl dX12_value_50 ⟨_, rfl, h⟩
      · replace h := h.2 hc
        refine sm_aload_n (Y := mX12_value) (pc := 21) 0 0 rfl rfl dX12_value_21 ?_
        refine sm_iconst (Y := mX12_value) (pc := 22) 1 (by decide) dX12_value_22 ?_
        refine sm_iv_J (Y := mX12_value) (pc := 23) (As := [.int 1]) (a := 109) fX12_findsFar wRX12_407 (lk_109 hly) (by decide) rfl rfl rfl (Nat.le_trans (by decide) hd) (Nat.le_of_ble_eq_true rfl) ⟨Nat.le_refl _, Nat.le_refl _⟩ dX12_value_23 rfl (sm_monoJ h (fun r_28 m_27 h => ?_))
        exact sm_lret (Y := mX12_value) (pc := 26) rfl rfl rfl dX12_value_26 ⟨_, rfl, h⟩
abbrev mX12_judge : sm_Y := (yX12_judge, cX12_judge, 5, (some FieldType.int))
theorem fX12_judge : sm_mi mX12_judge RX12 2 := ⟨sm_in 1702 (by decide +kernel) (by decide +kernel), sm_in 1700 (by decide +kernel) (by decide +kernel), sm_in 1701 (by decide +kernel) (by decide +kernel), sm_in 93 (by decide +kernel) (by decide +kernel), rfl, ⟨by decide +kernel, by decide +kernel, by decide +kernel⟩, by decide⟩
def gX12_judge_85 (E : sm_E) (L : sm_S → Prop) (d : Nat) (vs : List Value) (x1 : Int32) (x3 : Int32) (x4 : Int32) (m : sm_M) (Q : Int32 → sm_M → Prop) : Prop := sm_go E L mX12_judge d 0 0 vs 85 [(0, .ref (sm_B E + 109)), (1, .int x1), (3, .int x3), (4, .int x4)] [] m 0 0 (sm_Z E L vs 0 0 (sm_QI Q))
theorem dX12_judge_85 : decode cX12_judge 85 = .ok (.iload 4, 2) := dk_iload 4 (b := 4) (by decide +kernel) (by decide +kernel) (by decide +kernel)
theorem dX12_judge_87 : decode cX12_judge 87 = .ok (.iload_n 3, 1) := dk_iload_n_3 (by decide +kernel)
theorem dX12_judge_88 : decode cX12_judge 88 = .ok (.if_icmp .ge 55, 3) := dk_if_icmp_ge 55 (b1 := 0) (b2 := 55) (by decide +kernel) (by decide +kernel) (by decide +kernel) (by decide +kernel)
theorem dX12_judge_143 : decode cX12_judge 143 = .ok (.iconst (-1), 1) := dk_iconst_m1 (by decide +kernel)
theorem dX12_judge_144 : decode cX12_judge 144 = .ok (.ireturn, 1) := dk_ireturn (by decide +kernel)
theorem dX12_judge_91 : decode cX12_judge 91 = .ok (.iload 4, 2) := dk_iload 4 (b := 4) (by decide +kernel) (by decide +kernel) (by decide +kernel)
theorem dX12_judge_93 : decode cX12_judge 93 = .ok (.aload_n 0, 1) := dk_aload_n_0 (by decide +kernel)
theorem dX12_judge_94 : decode cX12_judge 94 = .ok (.getfield 271, 3) := dk_getfield 271 (b1 := 1) (b2 := 15) (by decide +kernel) (by decide +kernel) (by decide +kernel) (by decide +kernel)
theorem dX12_judge_97 : decode cX12_judge 97 = .ok (.if_icmp .ge 37, 3) := dk_if_icmp_ge 37 (b1 := 0) (b2 := 37) (by decide +kernel) (by decide +kernel) (by decide +kernel) (by decide +kernel)
theorem dX12_judge_134 : decode cX12_judge 134 = .ok (.iload 4, 2) := dk_iload 4 (b := 4) (by decide +kernel) (by decide +kernel) (by decide +kernel)
theorem dX12_judge_136 : decode cX12_judge 136 = .ok (.ireturn, 1) := dk_ireturn (by decide +kernel)
theorem dX12_judge_100 : decode cX12_judge 100 = .ok (.iload 4, 2) := dk_iload 4 (b := 4) (by decide +kernel) (by decide +kernel) (by decide +kernel)
theorem dX12_judge_102 : decode cX12_judge 102 = .ok (.aload_n 0, 1) := dk_aload_n_0 (by decide +kernel)
theorem dX12_judge_103 : decode cX12_judge 103 = .ok (.getfield 51, 3) := dk_getfield 51 (b1 := 0) (b2 := 51) (by decide +kernel) (by decide +kernel) (by decide +kernel) (by decide +kernel)
theorem dX12_judge_106 : decode cX12_judge 106 = .ok (.iload_n 1, 1) := dk_iload_n_1 (by decide +kernel)
theorem dX12_judge_107 : decode cX12_judge 107 = .ok (.iaload, 1) := dk_iaload (by decide +kernel)
theorem dX12_judge_108 : decode cX12_judge 108 = .ok (.if_icmp .ge 26, 3) := dk_if_icmp_ge 26 (b1 := 0) (b2 := 26) (by decide +kernel) (by decide +kernel) (by decide +kernel) (by decide +kernel)
theorem dX12_judge_111 : decode cX12_judge 111 = .ok (.aload_n 0, 1) := dk_aload_n_0 (by decide +kernel)
theorem dX12_judge_112 : decode cX12_judge 112 = .ok (.getfield 44, 3) := dk_getfield 44 (b1 := 0) (b2 := 44) (by decide +kernel) (by decide +kernel) (by decide +kernel) (by decide +kernel)
theorem dX12_judge_115 : decode cX12_judge 115 = .ok (.bipush 48, 2) := dk_bipush 48 (b := 48) (by decide +kernel) (by decide +kernel) (by decide +kernel)
theorem dX12_judge_117 : decode cX12_judge 117 = .ok (.iload_n 1, 1) := dk_iload_n_1 (by decide +kernel)
theorem dX12_judge_118 : decode cX12_judge 118 = .ok (.imul, 1) := dk_imul (by decide +kernel)
theorem dX12_judge_119 : decode cX12_judge 119 = .ok (.iload 4, 2) := dk_iload 4 (b := 4) (by decide +kernel) (by decide +kernel) (by decide +kernel)
theorem dX12_judge_121 : decode cX12_judge 121 = .ok (.iadd, 1) := dk_iadd (by decide +kernel)
theorem dX12_judge_122 : decode cX12_judge 122 = .ok (.laload, 1) := dk_laload (by decide +kernel)
theorem dX12_judge_123 : decode cX12_judge 123 = .ok (.aload_n 0, 1) := dk_aload_n_0 (by decide +kernel)
theorem dX12_judge_124 : decode cX12_judge 124 = .ok (.getfield 67, 3) := dk_getfield 67 (b1 := 0) (b2 := 67) (by decide +kernel) (by decide +kernel) (by decide +kernel) (by decide +kernel)
theorem dX12_judge_127 : decode cX12_judge 127 = .ok (.iload 4, 2) := dk_iload 4 (b := 4) (by decide +kernel) (by decide +kernel) (by decide +kernel)
theorem dX12_judge_129 : decode cX12_judge 129 = .ok (.laload, 1) := dk_laload (by decide +kernel)
theorem dX12_judge_130 : decode cX12_judge 130 = .ok (.lcmp, 1) := dk_lcmp (by decide +kernel)
theorem dX12_judge_131 : decode cX12_judge 131 = .ok (.ifCond .eq 6, 3) := dk_ifCond_eq 6 (b1 := 0) (b2 := 6) (by decide +kernel) (by decide +kernel) (by decide +kernel) (by decide +kernel)
theorem dX12_judge_137 : decode cX12_judge 137 = .ok (.iinc 4 1, 3) := dk_iinc 4 1 (b1 := 4) (b2 := 1) (by decide +kernel) (by decide +kernel) (by decide +kernel) (by decide +kernel) (by decide +kernel)
theorem dX12_judge_140 : decode cX12_judge 140 = .ok (.goto (-55), 3) := dk_goto (-55) (b1 := 255) (b2 := 201) (by decide +kernel) (by decide +kernel) (by decide +kernel) (by decide +kernel)
set_option maxRecDepth 20000 in
theorem vX12_judge_85 {E : sm_E} {L : sm_S → Prop} {d : Nat} {vs : List Value} {x1 : Int32} {x3 : Int32} {x4 : Int32}  {m : sm_M} {Q : Int32 → sm_M → Prop} (hly : ∀ S, L S → ly S) (hd : 5 ≤ d) 
  (h : (x3 ≤ x4 →
      Q (-1) m) ∧
   (¬ x3 ≤ x4 →
      ((m.1 109 36) ≤ x4 →
         Q x4 m) ∧
      (¬ (m.1 109 36) ≤ x4 →
         (vp_in x1 4) ∧ ((m.1 122 x1.toNatClampNeg) ≤ x4 →
            Q x4 m) ∧
         (¬ (m.1 122 x1.toNatClampNeg) ≤ x4 →
            (vp_in (((48 : Int32) * x1) + x4) 192) ∧ (vp_in x4 64) ∧ ((m.2.1 120 (((48 : Int32) * x1) + x4).toNatClampNeg) = (m.2.1 127 x4.toNatClampNeg) →
               ∀ x4_4 : Int32, x4_4 = x4 + 1 →
               gX12_judge_85 E L d vs x1 x3 x4_4 m Q) ∧
            (¬ (m.2.1 120 (((48 : Int32) * x1) + x4).toNatClampNeg) = (m.2.1 127 x4.toNatClampNeg) →
               Q x4 m))))) :
  gX12_judge_85 E L d vs x1 x3 x4 m Q := by
  refine sm_iload (Y := mX12_judge) (pc := 85) 3 4 rfl dX12_judge_85 ?_
  refine sm_iload_n (Y := mX12_judge) (pc := 87) 2 3 rfl rfl dX12_judge_87 ?_
  refine sm_icmp_ge (Y := mX12_judge) (pc := 88) 143 (by decide) dX12_judge_88 (fun hc => ?_) (fun hc => ?_)
  · replace h := h.1 hc
    refine sm_iconst (Y := mX12_judge) (pc := 143) (-1) (by decide) dX12_judge_143 ?_
    exact sm_iret (Y := mX12_judge) (pc := 144) rfl rfl rfl dX12_judge_144 ⟨_, rfl, h⟩
  · replace h := h.2 hc
    refine sm_iload (Y := mX12_judge) (pc := 91) 3 4 rfl dX12_judge_91 ?_
    refine sm_aload_n (Y := mX12_judge) (pc := 93) 0 0 rfl rfl dX12_judge_93 ?_
    refine gf_RX12_271 (Y := mX12_judge) (pc := 94) rfl ((lk_109 hly) _) dX12_judge_94 ?_
    refine sm_icmp_ge (Y := mX12_judge) (pc := 97) 134 (by decide) dX12_judge_97 (fun hc => ?_) (fun hc => ?_)
    · replace h := h.1 hc
      refine sm_iload (Y := mX12_judge) (pc := 134) 3 4 rfl dX12_judge_134 ?_
      exact sm_iret (Y := mX12_judge) (pc := 136) rfl rfl rfl dX12_judge_136 ⟨_, rfl, h⟩
    · replace h := h.2 hc
      refine sm_iload (Y := mX12_judge) (pc := 100) 3 4 rfl dX12_judge_100 ?_
      refine sm_aload_n (Y := mX12_judge) (pc := 102) 0 0 rfl rfl dX12_judge_102 ?_
      refine gf_RX12_51 (Y := mX12_judge) (pc := 103) (b := 122) rfl ((lk_109 hly) _) (lf_109_18 hly _) dX12_judge_103 ?_
      refine sm_iload_n (Y := mX12_judge) (pc := 106) 1 1 rfl rfl dX12_judge_106 ?_
      obtain ⟨hn_1, h⟩ := h
      refine sm_iald (Y := mX12_judge) (pc := 107) (la_122 hly _) hn_1 dX12_judge_107 ?_
      refine sm_icmp_ge (Y := mX12_judge) (pc := 108) 134 (by decide) dX12_judge_108 (fun hc => ?_) (fun hc => ?_)
      · replace h := h.1 hc
        refine sm_iload (Y := mX12_judge) (pc := 134) 3 4 rfl dX12_judge_134 ?_
        exact sm_iret (Y := mX12_judge) (pc := 136) rfl rfl rfl dX12_judge_136 ⟨_, rfl, h⟩
      · replace h := h.2 hc
        refine sm_aload_n (Y := mX12_judge) (pc := 111) 0 0 rfl rfl dX12_judge_111 ?_
        refine gf_RX12_44 (Y := mX12_judge) (pc := 112) (b := 120) rfl ((lk_109 hly) _) (lf_109_16 hly _) dX12_judge_112 ?_
        refine sm_bipush (Y := mX12_judge) (pc := 115) 48 (by decide) dX12_judge_115 ?_
        refine sm_iload_n (Y := mX12_judge) (pc := 117) 1 1 rfl rfl dX12_judge_117 ?_
        refine sm_imul (Y := mX12_judge) (pc := 118) dX12_judge_118 ?_
        refine sm_iload (Y := mX12_judge) (pc := 119) 3 4 rfl dX12_judge_119 ?_
        refine sm_iadd (Y := mX12_judge) (pc := 121) dX12_judge_121 ?_
        obtain ⟨hn_2, h⟩ := h
        refine sm_lald (Y := mX12_judge) (pc := 122) (la_120 hly _) hn_2 dX12_judge_122 ?_
        refine sm_aload_n (Y := mX12_judge) (pc := 123) 0 0 rfl rfl dX12_judge_123 ?_
        refine gf_RX12_67 (Y := mX12_judge) (pc := 124) (b := 127) rfl ((lk_109 hly) _) (lf_109_35 hly _) dX12_judge_124 ?_
        refine sm_iload (Y := mX12_judge) (pc := 127) 3 4 rfl dX12_judge_127 ?_
        obtain ⟨hn_3, h⟩ := h
        refine sm_lald (Y := mX12_judge) (pc := 129) (la_127 hly _) hn_3 dX12_judge_129 ?_
        refine sm_lif_eq (Y := mX12_judge) (pc := 130) 137 (by decide) dX12_judge_130 dX12_judge_131 (fun hc => ?_) (fun hc => ?_)
        · replace h := h.1 hc
          refine sm_iinc (Y := mX12_judge) (pc := 137) (fun y => [(4, .int y), (0, .ref (sm_B E + 109)), (1, .int x1), (3, .int x3)]) 3 4 rfl (by decide) (fun _ => rfl) dX12_judge_137 (fun x4_4 ex4_4 => ?_)
          replace h := h x4_4 ex4_4
          refine sm_goto (Y := mX12_judge) (pc := 140) 85 (by decide) dX12_judge_140 ?_
          refine sm_sub [1, 2, 3, 0] rfl ?_
          exact h
        · replace h := h.2 hc
          refine sm_iload (Y := mX12_judge) (pc := 134) 3 4 rfl dX12_judge_134 ?_
          exact sm_iret (Y := mX12_judge) (pc := 136) rfl rfl rfl dX12_judge_136 ⟨_, rfl, h⟩
theorem dX12_judge_0 : decode cX12_judge 0 = .ok (.iload_n 1, 1) := dk_iload_n_1 (by decide +kernel)
theorem dX12_judge_1 : decode cX12_judge 1 = .ok (.invokestatic 336, 3) := dk_invokestatic 336 (b1 := 1) (b2 := 80) (by decide +kernel) (by decide +kernel) (by decide +kernel) (by decide +kernel)
theorem dX12_judge_4 : decode cX12_judge 4 = .ok (.ifCond .eq 10, 3) := dk_ifCond_eq 10 (b1 := 0) (b2 := 10) (by decide +kernel) (by decide +kernel) (by decide +kernel) (by decide +kernel)
theorem dX12_judge_14 : decode cX12_judge 14 = .ok (.aload_n 0, 1) := dk_aload_n_0 (by decide +kernel)
theorem dX12_judge_15 : decode cX12_judge 15 = .ok (.iconst 1, 1) := dk_iconst_1 (by decide +kernel)
theorem dX12_judge_16 : decode cX12_judge 16 = .ok (.invokevirtual 194, 3) := dk_invokevirtual 194 (b1 := 0) (b2 := 194) (by decide +kernel) (by decide +kernel) (by decide +kernel) (by decide +kernel)
theorem dX12_judge_19 : decode cX12_judge 19 = .ok (.ireturn, 1) := dk_ireturn (by decide +kernel)
theorem dX12_judge_7 : decode cX12_judge 7 = .ok (.iload_n 2, 1) := dk_iload_n_2 (by decide +kernel)
theorem dX12_judge_8 : decode cX12_judge 8 = .ok (.invokestatic 184, 3) := dk_invokestatic 184 (b1 := 0) (b2 := 184) (by decide +kernel) (by decide +kernel) (by decide +kernel) (by decide +kernel)
theorem dX12_judge_11 : decode cX12_judge 11 = .ok (.ifCond .ne 9, 3) := dk_ifCond_ne 9 (b1 := 0) (b2 := 9) (by decide +kernel) (by decide +kernel) (by decide +kernel) (by decide +kernel)
theorem dX12_judge_20 : decode cX12_judge 20 = .ok (.aload_n 0, 1) := dk_aload_n_0 (by decide +kernel)
theorem dX12_judge_21 : decode cX12_judge 21 = .ok (.getfield 48, 3) := dk_getfield 48 (b1 := 0) (b2 := 48) (by decide +kernel) (by decide +kernel) (by decide +kernel) (by decide +kernel)
theorem dX12_judge_24 : decode cX12_judge 24 = .ok (.iload_n 1, 1) := dk_iload_n_1 (by decide +kernel)
theorem dX12_judge_25 : decode cX12_judge 25 = .ok (.iaload, 1) := dk_iaload (by decide +kernel)
theorem dX12_judge_26 : decode cX12_judge 26 = .ok (.ifCond .eq 11, 3) := dk_ifCond_eq 11 (b1 := 0) (b2 := 11) (by decide +kernel) (by decide +kernel) (by decide +kernel) (by decide +kernel)
theorem dX12_judge_37 : decode cX12_judge 37 = .ok (.aload_n 0, 1) := dk_aload_n_0 (by decide +kernel)
theorem dX12_judge_38 : decode cX12_judge 38 = .ok (.iconst 2, 1) := dk_iconst_2 (by decide +kernel)
theorem dX12_judge_39 : decode cX12_judge 39 = .ok (.invokevirtual 194, 3) := dk_invokevirtual 194 (b1 := 0) (b2 := 194) (by decide +kernel) (by decide +kernel) (by decide +kernel) (by decide +kernel)
theorem dX12_judge_42 : decode cX12_judge 42 = .ok (.ireturn, 1) := dk_ireturn (by decide +kernel)
theorem dX12_judge_29 : decode cX12_judge 29 = .ok (.aload_n 0, 1) := dk_aload_n_0 (by decide +kernel)
theorem dX12_judge_30 : decode cX12_judge 30 = .ok (.iload_n 2, 1) := dk_iload_n_2 (by decide +kernel)
theorem dX12_judge_31 : decode cX12_judge 31 = .ok (.invokevirtual 198, 3) := dk_invokevirtual 198 (b1 := 0) (b2 := 198) (by decide +kernel) (by decide +kernel) (by decide +kernel) (by decide +kernel)
theorem dX12_judge_34 : decode cX12_judge 34 = .ok (.ifCond .ne 9, 3) := dk_ifCond_ne 9 (b1 := 0) (b2 := 9) (by decide +kernel) (by decide +kernel) (by decide +kernel) (by decide +kernel)
theorem dX12_judge_43 : decode cX12_judge 43 = .ok (.aload_n 0, 1) := dk_aload_n_0 (by decide +kernel)
theorem dX12_judge_44 : decode cX12_judge 44 = .ok (.aload_n 0, 1) := dk_aload_n_0 (by decide +kernel)
theorem dX12_judge_45 : decode cX12_judge 45 = .ok (.getfield 170, 3) := dk_getfield 170 (b1 := 0) (b2 := 170) (by decide +kernel) (by decide +kernel) (by decide +kernel) (by decide +kernel)
theorem dX12_judge_48 : decode cX12_judge 48 = .ok (.aload_n 0, 1) := dk_aload_n_0 (by decide +kernel)
theorem dX12_judge_49 : decode cX12_judge 49 = .ok (.getfield 173, 3) := dk_getfield 173 (b1 := 0) (b2 := 173) (by decide +kernel) (by decide +kernel) (by decide +kernel) (by decide +kernel)
theorem dX12_judge_52 : decode cX12_judge 52 = .ok (.invokevirtual 274, 3) := dk_invokevirtual 274 (b1 := 1) (b2 := 18) (by decide +kernel) (by decide +kernel) (by decide +kernel) (by decide +kernel)
theorem dX12_judge_55 : decode cX12_judge 55 = .ok (.aload_n 0, 1) := dk_aload_n_0 (by decide +kernel)
theorem dX12_judge_56 : decode cX12_judge 56 = .ok (.getfield 271, 3) := dk_getfield 271 (b1 := 1) (b2 := 15) (by decide +kernel) (by decide +kernel) (by decide +kernel) (by decide +kernel)
theorem dX12_judge_59 : decode cX12_judge 59 = .ok (.aload_n 0, 1) := dk_aload_n_0 (by decide +kernel)
theorem dX12_judge_60 : decode cX12_judge 60 = .ok (.getfield 51, 3) := dk_getfield 51 (b1 := 0) (b2 := 51) (by decide +kernel) (by decide +kernel) (by decide +kernel) (by decide +kernel)
theorem dX12_judge_63 : decode cX12_judge 63 = .ok (.iload_n 1, 1) := dk_iload_n_1 (by decide +kernel)
theorem dX12_judge_64 : decode cX12_judge 64 = .ok (.iaload, 1) := dk_iaload (by decide +kernel)
theorem dX12_judge_65 : decode cX12_judge 65 = .ok (.if_icmp .le 10, 3) := dk_if_icmp_le 10 (b1 := 0) (b2 := 10) (by decide +kernel) (by decide +kernel) (by decide +kernel) (by decide +kernel)
theorem dX12_judge_75 : decode cX12_judge 75 = .ok (.aload_n 0, 1) := dk_aload_n_0 (by decide +kernel)
theorem dX12_judge_76 : decode cX12_judge 76 = .ok (.getfield 51, 3) := dk_getfield 51 (b1 := 0) (b2 := 51) (by decide +kernel) (by decide +kernel) (by decide +kernel) (by decide +kernel)
theorem dX12_judge_79 : decode cX12_judge 79 = .ok (.iload_n 1, 1) := dk_iload_n_1 (by decide +kernel)
theorem dX12_judge_80 : decode cX12_judge 80 = .ok (.iaload, 1) := dk_iaload (by decide +kernel)
theorem dX12_judge_81 : decode cX12_judge 81 = .ok (.istore_n 3, 1) := dk_istore_n_3 (by decide +kernel)
theorem dX12_judge_82 : decode cX12_judge 82 = .ok (.iconst 0, 1) := dk_iconst_0 (by decide +kernel)
theorem dX12_judge_83 : decode cX12_judge 83 = .ok (.istore 4, 2) := dk_istore 4 (b := 4) (by decide +kernel) (by decide +kernel) (by decide +kernel)
theorem dX12_judge_68 : decode cX12_judge 68 = .ok (.aload_n 0, 1) := dk_aload_n_0 (by decide +kernel)
theorem dX12_judge_69 : decode cX12_judge 69 = .ok (.getfield 271, 3) := dk_getfield 271 (b1 := 1) (b2 := 15) (by decide +kernel) (by decide +kernel) (by decide +kernel) (by decide +kernel)
theorem dX12_judge_72 : decode cX12_judge 72 = .ok (.goto 9, 3) := dk_goto 9 (b1 := 0) (b2 := 9) (by decide +kernel) (by decide +kernel) (by decide +kernel) (by decide +kernel)
set_option maxRecDepth 20000 in
theorem vX12_judge_0 {E : sm_E} {L : sm_S → Prop} {d : Nat} {x1 : Int32} {x2 : Int32}  {m : sm_M} {Q : Int32 → sm_M → Prop} (hly : ∀ S, L S → ly S) (hd : 5 ≤ d) 
  (h : sm_callI E L mX12_isSheet 1 0 0 [.int x1] m (fun r_2 m_1 =>
   (r_2 = 0 →
      sm_callI E L mX12_finds 1 0 0 [.ref (sm_B E + 109), .int 1] m_1 (fun r_4 m_3 =>
      Q r_4 m_3)) ∧
   (¬ r_2 = 0 →
      sm_callI E L mX12_isSlot 1 0 0 [.int x2] m_1 (fun r_6 m_5 =>
      (¬ r_6 = 0 →
         (vp_in x1 4) ∧ ((m_5.1 121 x1.toNatClampNeg) = 0 →
            sm_callI E L mX12_finds 1 0 0 [.ref (sm_B E + 109), .int 2] m_5 (fun r_9 m_8 =>
            Q r_9 m_8)) ∧
         (¬ (m_5.1 121 x1.toNatClampNeg) = 0 →
            sm_callI E L mX12_fraction 4 0 0 [.ref (sm_B E + 109), .int x2] m_5 (fun r_11 m_10 =>
            (¬ r_11 = 0 →
               sm_callV E L mX12_termsOf 1 0 0 [.ref (sm_B E + 109), .long (m_10.2.1 109 29), .long (m_10.2.1 109 30)] m_10 (fun m_12 =>
               (vp_in x1 4) ∧ ((m_12.1 109 36) ≤ (m_12.1 122 x1.toNatClampNeg) →
                  (vp_in x1 4) ∧ ∀ x3_15 : Int32, x3_15 = m_12.1 122 x1.toNatClampNeg →
                  gX12_judge_85 E L d ([.ref (sm_B E + 109), .int x1, .int x2]) x1 x3_15 0 m_12 Q) ∧
               (¬ (m_12.1 109 36) ≤ (m_12.1 122 x1.toNatClampNeg) →
                  ∀ x3_17 : Int32, x3_17 = m_12.1 109 36 →
                  gX12_judge_85 E L d ([.ref (sm_B E + 109), .int x1, .int x2]) x1 x3_17 0 m_12 Q))) ∧
            (r_11 = 0 →
               sm_callI E L mX12_finds 1 0 0 [.ref (sm_B E + 109), .int 2] m_10 (fun r_20 m_19 =>
               Q r_20 m_19))))) ∧
      (r_6 = 0 →
         sm_callI E L mX12_finds 1 0 0 [.ref (sm_B E + 109), .int 1] m_5 (fun r_22 m_21 =>
         Q r_22 m_21)))))) :
  sm_callI E L mX12_judge d 0 0 [.ref (sm_B E + 109), .int x1, .int x2] m Q := by
  refine sm_enter (by decide +kernel) (by simp [lg_sl, Value.category]) ?_
  refine sm_iload_n (Y := mX12_judge) (pc := 0) 1 1 rfl rfl dX12_judge_0 ?_
  refine sm_is_I (Y := mX12_judge) (pc := 1) (As := [.int x1]) fX12_isSheet wRX12_336 rfl (Nat.le_trans (by decide) hd) (Nat.le_of_ble_eq_true rfl) ⟨Nat.le_refl _, Nat.le_refl _⟩ dX12_judge_1 rfl (sm_monoI h (fun r_2 m_1 h => ?_))
  refine sm_if_eq (Y := mX12_judge) (pc := 4) 14 (by decide) dX12_judge_4 (fun hc => ?_) (fun hc => ?_)
  · replace h := h.1 hc
    refine sm_aload_n (Y := mX12_judge) (pc := 14) 0 0 rfl rfl dX12_judge_14 ?_
    refine sm_iconst (Y := mX12_judge) (pc := 15) 1 (by decide) dX12_judge_15 ?_
    refine sm_iv_I (Y := mX12_judge) (pc := 16) (As := [.int 1]) (a := 109) fX12_finds wRX12_194 (lk_109 hly) (by decide) rfl rfl rfl (Nat.le_trans (by decide) hd) (Nat.le_of_ble_eq_true rfl) ⟨Nat.le_refl _, Nat.le_refl _⟩ dX12_judge_16 rfl (sm_monoI h (fun r_4 m_3 h => ?_))
    exact sm_iret (Y := mX12_judge) (pc := 19) rfl rfl rfl dX12_judge_19 ⟨_, rfl, h⟩
  · replace h := h.2 hc
    refine sm_iload_n (Y := mX12_judge) (pc := 7) 2 2 rfl rfl dX12_judge_7 ?_
    refine sm_is_I (Y := mX12_judge) (pc := 8) (As := [.int x2]) fX12_isSlot wRX12_184 rfl (Nat.le_trans (by decide) hd) (Nat.le_of_ble_eq_true rfl) ⟨Nat.le_refl _, Nat.le_refl _⟩ dX12_judge_8 rfl (sm_monoI h (fun r_6 m_5 h => ?_))
    refine sm_if_ne (Y := mX12_judge) (pc := 11) 20 (by decide) dX12_judge_11 (fun hc => ?_) (fun hc => ?_)
    · replace h := h.1 hc
      refine sm_aload_n (Y := mX12_judge) (pc := 20) 0 0 rfl rfl dX12_judge_20 ?_
      refine gf_RX12_48 (Y := mX12_judge) (pc := 21) (b := 121) rfl ((lk_109 hly) _) (lf_109_17 hly _) dX12_judge_21 ?_
      refine sm_iload_n (Y := mX12_judge) (pc := 24) 1 1 rfl rfl dX12_judge_24 ?_
      obtain ⟨hn_7, h⟩ := h
      refine sm_iald (Y := mX12_judge) (pc := 25) (la_121 hly _) hn_7 dX12_judge_25 ?_
      refine sm_if_eq (Y := mX12_judge) (pc := 26) 37 (by decide) dX12_judge_26 (fun hc => ?_) (fun hc => ?_)
      · replace h := h.1 hc
        refine sm_aload_n (Y := mX12_judge) (pc := 37) 0 0 rfl rfl dX12_judge_37 ?_
        refine sm_iconst (Y := mX12_judge) (pc := 38) 2 (by decide) dX12_judge_38 ?_
        refine sm_iv_I (Y := mX12_judge) (pc := 39) (As := [.int 2]) (a := 109) fX12_finds wRX12_194 (lk_109 hly) (by decide) rfl rfl rfl (Nat.le_trans (by decide) hd) (Nat.le_of_ble_eq_true rfl) ⟨Nat.le_refl _, Nat.le_refl _⟩ dX12_judge_39 rfl (sm_monoI h (fun r_9 m_8 h => ?_))
        exact sm_iret (Y := mX12_judge) (pc := 42) rfl rfl rfl dX12_judge_42 ⟨_, rfl, h⟩
      · replace h := h.2 hc
        refine sm_aload_n (Y := mX12_judge) (pc := 29) 0 0 rfl rfl dX12_judge_29 ?_
        refine sm_iload_n (Y := mX12_judge) (pc := 30) 2 2 rfl rfl dX12_judge_30 ?_
        refine sm_iv_I (Y := mX12_judge) (pc := 31) (As := [.int x2]) (a := 109) fX12_fraction wRX12_198 (lk_109 hly) (by decide) rfl rfl rfl (Nat.le_trans (by decide) hd) (Nat.le_of_ble_eq_true rfl) ⟨Nat.le_refl _, Nat.le_refl _⟩ dX12_judge_31 rfl (sm_monoI h (fun r_11 m_10 h => ?_))
        refine sm_if_ne (Y := mX12_judge) (pc := 34) 43 (by decide) dX12_judge_34 (fun hc => ?_) (fun hc => ?_)
        · replace h := h.1 hc
          refine sm_aload_n (Y := mX12_judge) (pc := 43) 0 0 rfl rfl dX12_judge_43 ?_
          refine sm_aload_n (Y := mX12_judge) (pc := 44) 0 0 rfl rfl dX12_judge_44 ?_
          refine gf_RX12_170 (Y := mX12_judge) (pc := 45) rfl ((lk_109 hly) _) dX12_judge_45 ?_
          refine sm_aload_n (Y := mX12_judge) (pc := 48) 0 0 rfl rfl dX12_judge_48 ?_
          refine gf_RX12_173 (Y := mX12_judge) (pc := 49) rfl ((lk_109 hly) _) dX12_judge_49 ?_
          refine sm_iv_V (Y := mX12_judge) (pc := 52) (As := [.long (m_10.2.1 109 29), .long (m_10.2.1 109 30)]) (a := 109) fX12_termsOf wRX12_274 (lk_109 hly) (by decide) rfl rfl rfl (Nat.le_trans (by decide) hd) (Nat.le_of_ble_eq_true rfl) ⟨Nat.le_refl _, Nat.le_refl _⟩ dX12_judge_52 rfl (sm_monoV h (fun m_12 h => ?_))
          refine sm_aload_n (Y := mX12_judge) (pc := 55) 0 0 rfl rfl dX12_judge_55 ?_
          refine gf_RX12_271 (Y := mX12_judge) (pc := 56) rfl ((lk_109 hly) _) dX12_judge_56 ?_
          refine sm_aload_n (Y := mX12_judge) (pc := 59) 0 0 rfl rfl dX12_judge_59 ?_
          refine gf_RX12_51 (Y := mX12_judge) (pc := 60) (b := 122) rfl ((lk_109 hly) _) (lf_109_18 hly _) dX12_judge_60 ?_
          refine sm_iload_n (Y := mX12_judge) (pc := 63) 1 1 rfl rfl dX12_judge_63 ?_
          obtain ⟨hn_13, h⟩ := h
          refine sm_iald (Y := mX12_judge) (pc := 64) (la_122 hly _) hn_13 dX12_judge_64 ?_
          refine sm_icmp_le (Y := mX12_judge) (pc := 65) 75 (by decide) dX12_judge_65 (fun hc => ?_) (fun hc => ?_)
          · replace h := h.1 hc
            refine sm_aload_n (Y := mX12_judge) (pc := 75) 0 0 rfl rfl dX12_judge_75 ?_
            refine gf_RX12_51 (Y := mX12_judge) (pc := 76) (b := 122) rfl ((lk_109 hly) _) (lf_109_18 hly _) dX12_judge_76 ?_
            refine sm_iload_n (Y := mX12_judge) (pc := 79) 1 1 rfl rfl dX12_judge_79 ?_
            obtain ⟨hn_14, h⟩ := h
            refine sm_iald (Y := mX12_judge) (pc := 80) (la_122 hly _) hn_14 dX12_judge_80 ?_
            refine sm_istore_n (Y := mX12_judge) (pc := 81) (fun y => [(3, .int y), (0, .ref (sm_B E + 109)), (1, .int x1), (2, .int x2)]) 3 rfl (by decide) (fun _ => rfl) dX12_judge_81 (fun x3_15 ex3_15 => ?_)
            replace h := h x3_15 ex3_15
            refine sm_iconst (Y := mX12_judge) (pc := 82) 0 (by decide) dX12_judge_82 ?_
            refine sm_istore0 (Y := mX12_judge) (pc := 83) [(4, .int 0), (3, .int x3_15), (0, .ref (sm_B E + 109)), (1, .int x1), (2, .int x2)] 4 (by decide) rfl dX12_judge_83 ?_
            refine sm_sub [2, 3, 1, 0] rfl ?_
            exact h
          · replace h := h.2 hc
            refine sm_aload_n (Y := mX12_judge) (pc := 68) 0 0 rfl rfl dX12_judge_68 ?_
            refine gf_RX12_271 (Y := mX12_judge) (pc := 69) rfl ((lk_109 hly) _) dX12_judge_69 ?_
            refine sm_goto (Y := mX12_judge) (pc := 72) 81 (by decide) dX12_judge_72 ?_
            refine sm_istore_n (Y := mX12_judge) (pc := 81) (fun y => [(3, .int y), (0, .ref (sm_B E + 109)), (1, .int x1), (2, .int x2)]) 3 rfl (by decide) (fun _ => rfl) dX12_judge_81 (fun x3_17 ex3_17 => ?_)
            replace h := h x3_17 ex3_17
            refine sm_iconst (Y := mX12_judge) (pc := 82) 0 (by decide) dX12_judge_82 ?_
            refine sm_istore0 (Y := mX12_judge) (pc := 83) [(4, .int 0), (3, .int x3_17), (0, .ref (sm_B E + 109)), (1, .int x1), (2, .int x2)] 4 (by decide) rfl dX12_judge_83 ?_
            refine sm_sub [2, 3, 1, 0] rfl ?_
            exact h
        · replace h := h.2 hc
          refine sm_aload_n (Y := mX12_judge) (pc := 37) 0 0 rfl rfl dX12_judge_37 ?_
          refine sm_iconst (Y := mX12_judge) (pc := 38) 2 (by decide) dX12_judge_38 ?_
          refine sm_iv_I (Y := mX12_judge) (pc := 39) (As := [.int 2]) (a := 109) fX12_finds wRX12_194 (lk_109 hly) (by decide) rfl rfl rfl (Nat.le_trans (by decide) hd) (Nat.le_of_ble_eq_true rfl) ⟨Nat.le_refl _, Nat.le_refl _⟩ dX12_judge_39 rfl (sm_monoI h (fun r_20 m_19 h => ?_))
          exact sm_iret (Y := mX12_judge) (pc := 42) rfl rfl rfl dX12_judge_42 ⟨_, rfl, h⟩
    · replace h := h.2 hc
      refine sm_aload_n (Y := mX12_judge) (pc := 14) 0 0 rfl rfl dX12_judge_14 ?_
      refine sm_iconst (Y := mX12_judge) (pc := 15) 1 (by decide) dX12_judge_15 ?_
      refine sm_iv_I (Y := mX12_judge) (pc := 16) (As := [.int 1]) (a := 109) fX12_finds wRX12_194 (lk_109 hly) (by decide) rfl rfl rfl (Nat.le_trans (by decide) hd) (Nat.le_of_ble_eq_true rfl) ⟨Nat.le_refl _, Nat.le_refl _⟩ dX12_judge_16 rfl (sm_monoI h (fun r_22 m_21 h => ?_))
      exact sm_iret (Y := mX12_judge) (pc := 19) rfl rfl rfl dX12_judge_19 ⟨_, rfl, h⟩
abbrev mX12_seed : sm_Y := (yX12_seed, cX12_seed, 3, (some FieldType.int))
theorem fX12_seed : sm_mi mX12_seed RX12 1 := ⟨sm_in 1706 (by decide +kernel) (by decide +kernel), sm_in 1704 (by decide +kernel) (by decide +kernel), sm_in 1705 (by decide +kernel) (by decide +kernel), sm_in 93 (by decide +kernel) (by decide +kernel), rfl, ⟨by decide +kernel, by decide +kernel, by decide +kernel⟩, by decide⟩
theorem dX12_seed_0 : decode cX12_seed 0 = .ok (.aload_n 0, 1) := dk_aload_n_0 (by decide +kernel)
theorem dX12_seed_1 : decode cX12_seed 1 = .ok (.getfield 28, 3) := dk_getfield 28 (b1 := 0) (b2 := 28) (by decide +kernel) (by decide +kernel) (by decide +kernel) (by decide +kernel)
theorem dX12_seed_4 : decode cX12_seed 4 = .ok (.istore_n 2, 1) := dk_istore_n_2 (by decide +kernel)
theorem dX12_seed_5 : decode cX12_seed 5 = .ok (.aload_n 0, 1) := dk_aload_n_0 (by decide +kernel)
theorem dX12_seed_6 : decode cX12_seed 6 = .ok (.iload_n 1, 1) := dk_iload_n_1 (by decide +kernel)
theorem dX12_seed_7 : decode cX12_seed 7 = .ok (.putfield 28, 3) := dk_putfield 28 (b1 := 0) (b2 := 28) (by decide +kernel) (by decide +kernel) (by decide +kernel) (by decide +kernel)
theorem dX12_seed_10 : decode cX12_seed 10 = .ok (.iload_n 2, 1) := dk_iload_n_2 (by decide +kernel)
theorem dX12_seed_11 : decode cX12_seed 11 = .ok (.ireturn, 1) := dk_ireturn (by decide +kernel)
set_option maxRecDepth 20000 in
theorem vX12_seed_0 {E : sm_E} {L : sm_S → Prop} {d : Nat} {x1 : Int32}  {m : sm_M} {Q : Int32 → sm_M → Prop} (hly : ∀ S, L S → ly S) (hd : 1 ≤ d) 
  (h : ∀ x2_1 : Int32, x2_1 = m.1 109 7 →
   ∀ m_2 : sm_M, m_2 = sm_wI m 109 7 x1 →
   Q x2_1 m_2) :
  sm_callI E L mX12_seed d 0 0 [.ref (sm_B E + 109), .int x1] m Q := by
  refine sm_enter (by decide +kernel) (by simp [lg_sl, Value.category]) ?_
  refine sm_aload_n (Y := mX12_seed) (pc := 0) 0 0 rfl rfl dX12_seed_0 ?_
  refine gf_RX12_28 (Y := mX12_seed) (pc := 1) rfl ((lk_109 hly) _) dX12_seed_1 ?_
  refine sm_istore_n (Y := mX12_seed) (pc := 4) (fun y => [(2, .int y), (0, .ref (sm_B E + 109)), (1, .int x1)]) 2 rfl (by decide) (fun _ => rfl) dX12_seed_4 (fun x2_1 ex2_1 => ?_)
  replace h := h x2_1 ex2_1
  refine sm_aload_n (Y := mX12_seed) (pc := 5) 1 0 rfl rfl dX12_seed_5 ?_
  refine sm_iload_n (Y := mX12_seed) (pc := 6) 2 1 rfl rfl dX12_seed_6 ?_
  refine pf_RX12_28 (Y := mX12_seed) (pc := 7) rfl ((lk_109 hly) _) dX12_seed_7 (fun m_2 em_2 => ?_)
  replace h := h m_2 em_2
  refine sm_iload_n (Y := mX12_seed) (pc := 10) 0 2 rfl rfl dX12_seed_10 ?_
  exact sm_iret (Y := mX12_seed) (pc := 11) rfl rfl rfl dX12_seed_11 ⟨_, rfl, h⟩
abbrev mX12_loose : sm_Y := (yX12_loose, cX12_loose, 5, (some FieldType.int))
theorem fX12_loose : sm_mi mX12_loose RX12 2 := ⟨sm_in 1710 (by decide +kernel) (by decide +kernel), sm_in 1708 (by decide +kernel) (by decide +kernel), sm_in 1709 (by decide +kernel) (by decide +kernel), sm_in 93 (by decide +kernel) (by decide +kernel), rfl, ⟨by decide +kernel, by decide +kernel, by decide +kernel⟩, by decide⟩
def gX12_loose_30 (E : sm_E) (L : sm_S → Prop) (d : Nat) (vs : List Value) (x1 : Int32) (x2 : Int32) (x3 : Int32) (x4 : Int32) (m : sm_M) (Q : Int32 → sm_M → Prop) : Prop := sm_go E L mX12_loose d 0 0 vs 30 [(0, .ref (sm_B E + 109)), (1, .int x1), (2, .int x2), (3, .int x3), (4, .int x4)] [] m 0 0 (sm_Z E L vs 0 0 (sm_QI Q))
theorem dX12_loose_30 : decode cX12_loose 30 = .ok (.iload 4, 2) := dk_iload 4 (b := 4) (by decide +kernel) (by decide +kernel) (by decide +kernel)
theorem dX12_loose_32 : decode cX12_loose 32 = .ok (.iload_n 2, 1) := dk_iload_n_2 (by decide +kernel)
theorem dX12_loose_33 : decode cX12_loose 33 = .ok (.if_icmp .ge 65, 3) := dk_if_icmp_ge 65 (b1 := 0) (b2 := 65) (by decide +kernel) (by decide +kernel) (by decide +kernel) (by decide +kernel)
theorem dX12_loose_98 : decode cX12_loose 98 = .ok (.iload_n 3, 1) := dk_iload_n_3 (by decide +kernel)
theorem dX12_loose_99 : decode cX12_loose 99 = .ok (.ireturn, 1) := dk_ireturn (by decide +kernel)
theorem dX12_loose_36 : decode cX12_loose 36 = .ok (.aload_n 0, 1) := dk_aload_n_0 (by decide +kernel)
theorem dX12_loose_37 : decode cX12_loose 37 = .ok (.aload_n 0, 1) := dk_aload_n_0 (by decide +kernel)
theorem dX12_loose_38 : decode cX12_loose 38 = .ok (.getfield 28, 3) := dk_getfield 28 (b1 := 0) (b2 := 28) (by decide +kernel) (by decide +kernel) (by decide +kernel) (by decide +kernel)
theorem wRX12_440 : Cond.constant RX12 440 1103515245 ∈ sm_T := sm_in 1712 (by decide +kernel) (by decide +kernel)
theorem dX12_loose_41 : decode cX12_loose 41 = .ok (.ldc_w 440, 3) := dk_ldc_w 440 (b1 := 1) (b2 := 184) (by decide +kernel) (by decide +kernel) (by decide +kernel) (by decide +kernel)
theorem dX12_loose_44 : decode cX12_loose 44 = .ok (.imul, 1) := dk_imul (by decide +kernel)
theorem dX12_loose_45 : decode cX12_loose 45 = .ok (.sipush 12345, 3) := dk_sipush 12345 (b1 := 48) (b2 := 57) (by decide +kernel) (by decide +kernel) (by decide +kernel) (by decide +kernel)
theorem dX12_loose_48 : decode cX12_loose 48 = .ok (.iadd, 1) := dk_iadd (by decide +kernel)
theorem dX12_loose_49 : decode cX12_loose 49 = .ok (.putfield 28, 3) := dk_putfield 28 (b1 := 0) (b2 := 28) (by decide +kernel) (by decide +kernel) (by decide +kernel) (by decide +kernel)
theorem dX12_loose_52 : decode cX12_loose 52 = .ok (.aload_n 0, 1) := dk_aload_n_0 (by decide +kernel)
theorem dX12_loose_53 : decode cX12_loose 53 = .ok (.iconst 0, 1) := dk_iconst_0 (by decide +kernel)
theorem dX12_loose_54 : decode cX12_loose 54 = .ok (.putfield 201, 3) := dk_putfield 201 (b1 := 0) (b2 := 201) (by decide +kernel) (by decide +kernel) (by decide +kernel) (by decide +kernel)
theorem dX12_loose_57 : decode cX12_loose 57 = .ok (.aload_n 0, 1) := dk_aload_n_0 (by decide +kernel)
theorem dX12_loose_58 : decode cX12_loose 58 = .ok (.iload_n 1, 1) := dk_iload_n_1 (by decide +kernel)
theorem dX12_loose_59 : decode cX12_loose 59 = .ok (.invokevirtual 217, 3) := dk_invokevirtual 217 (b1 := 0) (b2 := 217) (by decide +kernel) (by decide +kernel) (by decide +kernel) (by decide +kernel)
theorem dX12_loose_62 : decode cX12_loose 62 = .ok (.aload_n 0, 1) := dk_aload_n_0 (by decide +kernel)
theorem dX12_loose_63 : decode cX12_loose 63 = .ok (.aload_n 0, 1) := dk_aload_n_0 (by decide +kernel)
theorem dX12_loose_64 : decode cX12_loose 64 = .ok (.getfield 28, 3) := dk_getfield 28 (b1 := 0) (b2 := 28) (by decide +kernel) (by decide +kernel) (by decide +kernel) (by decide +kernel)
theorem dX12_loose_67 : decode cX12_loose 67 = .ok (.bipush 8, 2) := dk_bipush 8 (b := 8) (by decide +kernel) (by decide +kernel) (by decide +kernel)
theorem dX12_loose_69 : decode cX12_loose 69 = .ok (.iushr, 1) := dk_iushr (by decide +kernel)
theorem dX12_loose_70 : decode cX12_loose 70 = .ok (.bipush 6, 2) := dk_bipush 6 (b := 6) (by decide +kernel) (by decide +kernel) (by decide +kernel)
theorem dX12_loose_72 : decode cX12_loose 72 = .ok (.irem, 1) := dk_irem (by decide +kernel)
theorem dX12_loose_73 : decode cX12_loose 73 = .ok (.invokevirtual 226, 3) := dk_invokevirtual 226 (b1 := 0) (b2 := 226) (by decide +kernel) (by decide +kernel) (by decide +kernel) (by decide +kernel)
theorem dX12_loose_76 : decode cX12_loose 76 = .ok (.aload_n 0, 1) := dk_aload_n_0 (by decide +kernel)
theorem dX12_loose_77 : decode cX12_loose 77 = .ok (.invokevirtual 220, 3) := dk_invokevirtual 220 (b1 := 0) (b2 := 220) (by decide +kernel) (by decide +kernel) (by decide +kernel) (by decide +kernel)
theorem dX12_loose_80 : decode cX12_loose 80 = .ok (.ifCond .ne 12, 3) := dk_ifCond_ne 12 (b1 := 0) (b2 := 12) (by decide +kernel) (by decide +kernel) (by decide +kernel) (by decide +kernel)
theorem dX12_loose_92 : decode cX12_loose 92 = .ok (.iinc 4 1, 3) := dk_iinc 4 1 (b1 := 4) (b2 := 1) (by decide +kernel) (by decide +kernel) (by decide +kernel) (by decide +kernel) (by decide +kernel)
theorem dX12_loose_95 : decode cX12_loose 95 = .ok (.goto (-65), 3) := dk_goto (-65) (b1 := 255) (b2 := 191) (by decide +kernel) (by decide +kernel) (by decide +kernel) (by decide +kernel)
theorem dX12_loose_83 : decode cX12_loose 83 = .ok (.aload_n 0, 1) := dk_aload_n_0 (by decide +kernel)
theorem dX12_loose_84 : decode cX12_loose 84 = .ok (.iload_n 1, 1) := dk_iload_n_1 (by decide +kernel)
theorem dX12_loose_85 : decode cX12_loose 85 = .ok (.invokevirtual 211, 3) := dk_invokevirtual 211 (b1 := 0) (b2 := 211) (by decide +kernel) (by decide +kernel) (by decide +kernel) (by decide +kernel)
theorem dX12_loose_88 : decode cX12_loose 88 = .ok (.pop, 1) := dk_pop (by decide +kernel)
theorem dX12_loose_89 : decode cX12_loose 89 = .ok (.iinc 3 1, 3) := dk_iinc 3 1 (b1 := 3) (b2 := 1) (by decide +kernel) (by decide +kernel) (by decide +kernel) (by decide +kernel) (by decide +kernel)
set_option maxRecDepth 20000 in
theorem vX12_loose_30 {E : sm_E} {L : sm_S → Prop} {d : Nat} {vs : List Value} {x1 : Int32} {x2 : Int32} {x3 : Int32} {x4 : Int32}  {m : sm_M} {Q : Int32 → sm_M → Prop} (hly : ∀ S, L S → ly S) (hd : 5 ≤ d) 
  (h : (x2 ≤ x4 →
      Q x3 m) ∧
   (¬ x2 ≤ x4 →
      ∀ m_1 : sm_M, m_1 = sm_wI m 109 7 (((m.1 109 7) * 1103515245) + 12345) →
      ∀ m_2 : sm_M, m_2 = sm_wI m_1 109 6 0 →
      sm_callV E L mX12_putsSlot 2 0 0 [.ref (sm_B E + 109), .int x1] m_2 (fun m_3 =>
      sm_callV E L mX12_putsMove 2 0 0 [.ref (sm_B E + 109), .int (sm_rem (sm_ushr (m_3.1 109 7) 8) 6)] m_3 (fun m_4 =>
      sm_callI E L mX12_isTooMuch 3 0 0 [.ref (sm_B E + 109)] m_4 (fun r_6 m_5 =>
      (¬ r_6 = 0 →
         ∀ x4_7 : Int32, x4_7 = x4 + 1 →
         gX12_loose_30 E L d vs x1 x2 x3 x4_7 m_5 Q) ∧
      (r_6 = 0 →
         sm_callI E L mX12_comesTo 4 0 0 [.ref (sm_B E + 109), .int x1] m_5 (fun r_9 m_8 =>
         ∀ x3_10 : Int32, x3_10 = x3 + 1 →
         ∀ x4_11 : Int32, x4_11 = x4 + 1 →
         gX12_loose_30 E L d vs x1 x2 x3_10 x4_11 m_8 Q))))))) :
  gX12_loose_30 E L d vs x1 x2 x3 x4 m Q := by
  refine sm_iload (Y := mX12_loose) (pc := 30) 4 4 rfl dX12_loose_30 ?_
  refine sm_iload_n (Y := mX12_loose) (pc := 32) 2 2 rfl rfl dX12_loose_32 ?_
  refine sm_icmp_ge (Y := mX12_loose) (pc := 33) 98 (by decide) dX12_loose_33 (fun hc => ?_) (fun hc => ?_)
  · replace h := h.1 hc
    refine sm_iload_n (Y := mX12_loose) (pc := 98) 3 3 rfl rfl dX12_loose_98 ?_
    exact sm_iret (Y := mX12_loose) (pc := 99) rfl rfl rfl dX12_loose_99 ⟨_, rfl, h⟩
  · replace h := h.2 hc
    refine sm_aload_n (Y := mX12_loose) (pc := 36) 0 0 rfl rfl dX12_loose_36 ?_
    refine sm_aload_n (Y := mX12_loose) (pc := 37) 0 0 rfl rfl dX12_loose_37 ?_
    refine gf_RX12_28 (Y := mX12_loose) (pc := 38) rfl ((lk_109 hly) _) dX12_loose_38 ?_
    refine sm_ldc_w (Y := mX12_loose) (pc := 41) 1103515245 wRX12_440 dX12_loose_41 ?_
    refine sm_imul (Y := mX12_loose) (pc := 44) dX12_loose_44 ?_
    refine sm_sipush (Y := mX12_loose) (pc := 45) 12345 (by decide) dX12_loose_45 ?_
    refine sm_iadd (Y := mX12_loose) (pc := 48) dX12_loose_48 ?_
    refine pf_RX12_28 (Y := mX12_loose) (pc := 49) rfl ((lk_109 hly) _) dX12_loose_49 (fun m_1 em_1 => ?_)
    replace h := h m_1 em_1
    refine sm_aload_n (Y := mX12_loose) (pc := 52) 0 0 rfl rfl dX12_loose_52 ?_
    refine sm_iconst (Y := mX12_loose) (pc := 53) 0 (by decide) dX12_loose_53 ?_
    refine pf_RX12_201 (Y := mX12_loose) (pc := 54) rfl ((lk_109 hly) _) dX12_loose_54 (fun m_2 em_2 => ?_)
    replace h := h m_2 em_2
    refine sm_aload_n (Y := mX12_loose) (pc := 57) 0 0 rfl rfl dX12_loose_57 ?_
    refine sm_iload_n (Y := mX12_loose) (pc := 58) 1 1 rfl rfl dX12_loose_58 ?_
    refine sm_iv_V (Y := mX12_loose) (pc := 59) (As := [.int x1]) (a := 109) fX12_putsSlot wRX12_217 (lk_109 hly) (by decide) rfl rfl rfl (Nat.le_trans (by decide) hd) (Nat.le_of_ble_eq_true rfl) ⟨Nat.le_refl _, Nat.le_refl _⟩ dX12_loose_59 rfl (sm_monoV h (fun m_3 h => ?_))
    refine sm_aload_n (Y := mX12_loose) (pc := 62) 0 0 rfl rfl dX12_loose_62 ?_
    refine sm_aload_n (Y := mX12_loose) (pc := 63) 0 0 rfl rfl dX12_loose_63 ?_
    refine gf_RX12_28 (Y := mX12_loose) (pc := 64) rfl ((lk_109 hly) _) dX12_loose_64 ?_
    refine sm_bipush (Y := mX12_loose) (pc := 67) 8 (by decide) dX12_loose_67 ?_
    refine sm_iushr (Y := mX12_loose) (pc := 69) dX12_loose_69 ?_
    refine sm_bipush (Y := mX12_loose) (pc := 70) 6 (by decide) dX12_loose_70 ?_
    refine sm_irem (Y := mX12_loose) (pc := 72) (by decide) dX12_loose_72 ?_
    refine sm_iv_V (Y := mX12_loose) (pc := 73) (As := [.int (sm_rem (sm_ushr (m_3.1 109 7) 8) 6)]) (a := 109) fX12_putsMove wRX12_226 (lk_109 hly) (by decide) rfl rfl rfl (Nat.le_trans (by decide) hd) (Nat.le_of_ble_eq_true rfl) ⟨Nat.le_refl _, Nat.le_refl _⟩ dX12_loose_73 rfl (sm_monoV h (fun m_4 h => ?_))
    refine sm_aload_n (Y := mX12_loose) (pc := 76) 0 0 rfl rfl dX12_loose_76 ?_
    refine sm_iv_I (Y := mX12_loose) (pc := 77) (As := []) (a := 109) fX12_isTooMuch wRX12_220 (lk_109 hly) (by decide) rfl rfl rfl (Nat.le_trans (by decide) hd) (Nat.le_of_ble_eq_true rfl) ⟨Nat.le_refl _, Nat.le_refl _⟩ dX12_loose_77 rfl (sm_monoI h (fun r_6 m_5 h => ?_))
    refine sm_if_ne (Y := mX12_loose) (pc := 80) 92 (by decide) dX12_loose_80 (fun hc => ?_) (fun hc => ?_)
    · replace h := h.1 hc
      refine sm_iinc (Y := mX12_loose) (pc := 92) (fun y => [(4, .int y), (0, .ref (sm_B E + 109)), (1, .int x1), (2, .int x2), (3, .int x3)]) 4 4 rfl (by decide) (fun _ => rfl) dX12_loose_92 (fun x4_7 ex4_7 => ?_)
      replace h := h x4_7 ex4_7
      refine sm_goto (Y := mX12_loose) (pc := 95) 30 (by decide) dX12_loose_95 ?_
      refine sm_sub [1, 2, 3, 4, 0] rfl ?_
      exact h
    · replace h := h.2 hc
      refine sm_aload_n (Y := mX12_loose) (pc := 83) 0 0 rfl rfl dX12_loose_83 ?_
      refine sm_iload_n (Y := mX12_loose) (pc := 84) 1 1 rfl rfl dX12_loose_84 ?_
      refine sm_iv_I (Y := mX12_loose) (pc := 85) (As := [.int x1]) (a := 109) fX12_comesTo wRX12_211 (lk_109 hly) (by decide) rfl rfl rfl (Nat.le_trans (by decide) hd) (Nat.le_of_ble_eq_true rfl) ⟨Nat.le_refl _, Nat.le_refl _⟩ dX12_loose_85 rfl (sm_monoI h (fun r_9 m_8 h => ?_))
      refine sm_pop (Y := mX12_loose) (pc := 88) rfl dX12_loose_88 ?_
      refine sm_iinc (Y := mX12_loose) (pc := 89) (fun y => [(3, .int y), (0, .ref (sm_B E + 109)), (1, .int x1), (2, .int x2), (4, .int x4)]) 3 3 rfl (by decide) (fun _ => rfl) dX12_loose_89 (fun x3_10 ex3_10 => ?_)
      replace h := h x3_10 ex3_10
      refine sm_iinc (Y := mX12_loose) (pc := 92) (fun y => [(4, .int y), (3, .int x3_10), (0, .ref (sm_B E + 109)), (1, .int x1), (2, .int x2)]) 4 4 rfl (by decide) (fun _ => rfl) dX12_loose_92 (fun x4_11 ex4_11 => ?_)
      replace h := h x4_11 ex4_11
      refine sm_goto (Y := mX12_loose) (pc := 95) 30 (by decide) dX12_loose_95 ?_
      refine sm_sub [2, 3, 4, 1, 0] rfl ?_
      exact h
theorem dX12_loose_0 : decode cX12_loose 0 = .ok (.iload_n 1, 1) := dk_iload_n_1 (by decide +kernel)
theorem dX12_loose_1 : decode cX12_loose 1 = .ok (.invokestatic 184, 3) := dk_invokestatic 184 (b1 := 0) (b2 := 184) (by decide +kernel) (by decide +kernel) (by decide +kernel) (by decide +kernel)
theorem dX12_loose_4 : decode cX12_loose 4 = .ok (.ifCond .eq 15, 3) := dk_ifCond_eq 15 (b1 := 0) (b2 := 15) (by decide +kernel) (by decide +kernel) (by decide +kernel) (by decide +kernel)
theorem dX12_loose_19 : decode cX12_loose 19 = .ok (.aload_n 0, 1) := dk_aload_n_0 (by decide +kernel)
theorem dX12_loose_20 : decode cX12_loose 20 = .ok (.iconst 1, 1) := dk_iconst_1 (by decide +kernel)
theorem dX12_loose_21 : decode cX12_loose 21 = .ok (.invokevirtual 194, 3) := dk_invokevirtual 194 (b1 := 0) (b2 := 194) (by decide +kernel) (by decide +kernel) (by decide +kernel) (by decide +kernel)
theorem dX12_loose_24 : decode cX12_loose 24 = .ok (.ireturn, 1) := dk_ireturn (by decide +kernel)
theorem dX12_loose_7 : decode cX12_loose 7 = .ok (.iload_n 2, 1) := dk_iload_n_2 (by decide +kernel)
theorem dX12_loose_8 : decode cX12_loose 8 = .ok (.i2l, 1) := dk_i2l (by decide +kernel)
theorem dX12_loose_9 : decode cX12_loose 9 = .ok (.lconst 1, 1) := dk_lconst_1 (by decide +kernel)
theorem wRX12_438 : Cond.constantLong RX12 438 20 ∈ sm_T := sm_in 1711 (by decide +kernel) (by decide +kernel)
theorem dX12_loose_10 : decode cX12_loose 10 = .ok (.ldc2_w 438, 3) := dk_ldc2_w 438 (b1 := 1) (b2 := 182) (by decide +kernel) (by decide +kernel) (by decide +kernel) (by decide +kernel)
theorem dX12_loose_13 : decode cX12_loose 13 = .ok (.invokestatic 190, 3) := dk_invokestatic 190 (b1 := 0) (b2 := 190) (by decide +kernel) (by decide +kernel) (by decide +kernel) (by decide +kernel)
theorem dX12_loose_16 : decode cX12_loose 16 = .ok (.ifCond .ne 9, 3) := dk_ifCond_ne 9 (b1 := 0) (b2 := 9) (by decide +kernel) (by decide +kernel) (by decide +kernel) (by decide +kernel)
theorem dX12_loose_25 : decode cX12_loose 25 = .ok (.iconst 0, 1) := dk_iconst_0 (by decide +kernel)
theorem dX12_loose_26 : decode cX12_loose 26 = .ok (.istore_n 3, 1) := dk_istore_n_3 (by decide +kernel)
theorem dX12_loose_27 : decode cX12_loose 27 = .ok (.iconst 0, 1) := dk_iconst_0 (by decide +kernel)
theorem dX12_loose_28 : decode cX12_loose 28 = .ok (.istore 4, 2) := dk_istore 4 (b := 4) (by decide +kernel) (by decide +kernel) (by decide +kernel)
set_option maxRecDepth 20000 in
theorem vX12_loose_0 {E : sm_E} {L : sm_S → Prop} {d : Nat} {x1 : Int32} {x2 : Int32}  {m : sm_M} {Q : Int32 → sm_M → Prop} (hly : ∀ S, L S → ly S) (hd : 5 ≤ d) 
  (h : sm_callI E L mX12_isSlot 1 0 0 [.int x1] m (fun r_2 m_1 =>
   (r_2 = 0 →
      sm_callI E L mX12_finds 1 0 0 [.ref (sm_B E + 109), .int 1] m_1 (fun r_4 m_3 =>
      Q r_4 m_3)) ∧
   (¬ r_2 = 0 →
      sm_callI E L mX12_isIn 1 0 0 [.long (x2.toInt64), .long 1, .long 20] m_1 (fun r_6 m_5 =>
      (¬ r_6 = 0 →
         gX12_loose_30 E L d ([.ref (sm_B E + 109), .int x1, .int x2]) x1 x2 0 0 m_5 Q) ∧
      (r_6 = 0 →
         sm_callI E L mX12_finds 1 0 0 [.ref (sm_B E + 109), .int 1] m_5 (fun r_10 m_9 =>
         Q r_10 m_9)))))) :
  sm_callI E L mX12_loose d 0 0 [.ref (sm_B E + 109), .int x1, .int x2] m Q := by
  refine sm_enter (by decide +kernel) (by simp [lg_sl, Value.category]) ?_
  refine sm_iload_n (Y := mX12_loose) (pc := 0) 1 1 rfl rfl dX12_loose_0 ?_
  refine sm_is_I (Y := mX12_loose) (pc := 1) (As := [.int x1]) fX12_isSlot wRX12_184 rfl (Nat.le_trans (by decide) hd) (Nat.le_of_ble_eq_true rfl) ⟨Nat.le_refl _, Nat.le_refl _⟩ dX12_loose_1 rfl (sm_monoI h (fun r_2 m_1 h => ?_))
  refine sm_if_eq (Y := mX12_loose) (pc := 4) 19 (by decide) dX12_loose_4 (fun hc => ?_) (fun hc => ?_)
  · replace h := h.1 hc
    refine sm_aload_n (Y := mX12_loose) (pc := 19) 0 0 rfl rfl dX12_loose_19 ?_
    refine sm_iconst (Y := mX12_loose) (pc := 20) 1 (by decide) dX12_loose_20 ?_
    refine sm_iv_I (Y := mX12_loose) (pc := 21) (As := [.int 1]) (a := 109) fX12_finds wRX12_194 (lk_109 hly) (by decide) rfl rfl rfl (Nat.le_trans (by decide) hd) (Nat.le_of_ble_eq_true rfl) ⟨Nat.le_refl _, Nat.le_refl _⟩ dX12_loose_21 rfl (sm_monoI h (fun r_4 m_3 h => ?_))
    exact sm_iret (Y := mX12_loose) (pc := 24) rfl rfl rfl dX12_loose_24 ⟨_, rfl, h⟩
  · replace h := h.2 hc
    refine sm_iload_n (Y := mX12_loose) (pc := 7) 2 2 rfl rfl dX12_loose_7 ?_
    refine sm_i2l (Y := mX12_loose) (pc := 8) dX12_loose_8 ?_
    refine sm_lconst (Y := mX12_loose) (pc := 9) 1 (by decide) dX12_loose_9 ?_
    refine sm_ldc2_w (Y := mX12_loose) (pc := 10) 20 wRX12_438 dX12_loose_10 ?_
    refine sm_is_I (Y := mX12_loose) (pc := 13) (As := [.long (x2.toInt64), .long 1, .long 20]) fX12_isIn wRX12_190 rfl (Nat.le_trans (by decide) hd) (Nat.le_of_ble_eq_true rfl) ⟨Nat.le_refl _, Nat.le_refl _⟩ dX12_loose_13 rfl (sm_monoI h (fun r_6 m_5 h => ?_))
    refine sm_if_ne (Y := mX12_loose) (pc := 16) 25 (by decide) dX12_loose_16 (fun hc => ?_) (fun hc => ?_)
    · replace h := h.1 hc
      refine sm_iconst (Y := mX12_loose) (pc := 25) 0 (by decide) dX12_loose_25 ?_
      refine sm_istore0_n (Y := mX12_loose) (pc := 26) [(3, .int 0), (0, .ref (sm_B E + 109)), (1, .int x1), (2, .int x2)] 3 rfl (by decide) rfl dX12_loose_26 ?_
      refine sm_iconst (Y := mX12_loose) (pc := 27) 0 (by decide) dX12_loose_27 ?_
      refine sm_istore0 (Y := mX12_loose) (pc := 28) [(4, .int 0), (3, .int 0), (0, .ref (sm_B E + 109)), (1, .int x1), (2, .int x2)] 4 (by decide) rfl dX12_loose_28 ?_
      refine sm_sub [2, 3, 4, 1, 0] rfl ?_
      exact h
    · replace h := h.2 hc
      refine sm_aload_n (Y := mX12_loose) (pc := 19) 0 0 rfl rfl dX12_loose_19 ?_
      refine sm_iconst (Y := mX12_loose) (pc := 20) 1 (by decide) dX12_loose_20 ?_
      refine sm_iv_I (Y := mX12_loose) (pc := 21) (As := [.int 1]) (a := 109) fX12_finds wRX12_194 (lk_109 hly) (by decide) rfl rfl rfl (Nat.le_trans (by decide) hd) (Nat.le_of_ble_eq_true rfl) ⟨Nat.le_refl _, Nat.le_refl _⟩ dX12_loose_21 rfl (sm_monoI h (fun r_10 m_9 h => ?_))
      exact sm_iret (Y := mX12_loose) (pc := 24) rfl rfl rfl dX12_loose_24 ⟨_, rfl, h⟩
abbrev mX12_allCrossings : sm_Y := (yX12_allCrossings, cX12_allCrossings, 3, (some FieldType.int))
theorem fX12_allCrossings : sm_mi mX12_allCrossings RX12 0 := ⟨sm_in 1724 (by decide +kernel) (by decide +kernel), sm_in 1723 (by decide +kernel) (by decide +kernel), sm_in 79 (by decide +kernel) (by decide +kernel), sm_in 93 (by decide +kernel) (by decide +kernel), rfl, ⟨by decide +kernel, by decide +kernel, by decide +kernel⟩, by decide⟩
def gX12_allCrossings_4 (E : sm_E) (L : sm_S → Prop) (d : Nat) (vs : List Value) (x1 : Int32) (x2 : Int32) (m : sm_M) (Q : Int32 → sm_M → Prop) : Prop := sm_go E L mX12_allCrossings d 0 0 vs 4 [(0, .ref (sm_B E + 109)), (1, .int x1), (2, .int x2)] [] m 0 0 (sm_Z E L vs 0 0 (sm_QI Q))
theorem dX12_allCrossings_4 : decode cX12_allCrossings 4 = .ok (.iload_n 2, 1) := dk_iload_n_2 (by decide +kernel)
theorem dX12_allCrossings_5 : decode cX12_allCrossings 5 = .ok (.bipush 6, 2) := dk_bipush 6 (b := 6) (by decide +kernel) (by decide +kernel) (by decide +kernel)
theorem dX12_allCrossings_7 : decode cX12_allCrossings 7 = .ok (.if_icmp .ge 21, 3) := dk_if_icmp_ge 21 (b1 := 0) (b2 := 21) (by decide +kernel) (by decide +kernel) (by decide +kernel) (by decide +kernel)
theorem dX12_allCrossings_28 : decode cX12_allCrossings 28 = .ok (.iload_n 1, 1) := dk_iload_n_1 (by decide +kernel)
theorem dX12_allCrossings_29 : decode cX12_allCrossings 29 = .ok (.ireturn, 1) := dk_ireturn (by decide +kernel)
theorem dX12_allCrossings_10 : decode cX12_allCrossings 10 = .ok (.aload_n 0, 1) := dk_aload_n_0 (by decide +kernel)
theorem dX12_allCrossings_11 : decode cX12_allCrossings 11 = .ok (.iload_n 2, 1) := dk_iload_n_2 (by decide +kernel)
theorem dX12_allCrossings_12 : decode cX12_allCrossings 12 = .ok (.invokevirtual 176, 3) := dk_invokevirtual 176 (b1 := 0) (b2 := 176) (by decide +kernel) (by decide +kernel) (by decide +kernel) (by decide +kernel)
theorem dX12_allCrossings_15 : decode cX12_allCrossings 15 = .ok (.iload_n 1, 1) := dk_iload_n_1 (by decide +kernel)
theorem dX12_allCrossings_16 : decode cX12_allCrossings 16 = .ok (.aload_n 0, 1) := dk_aload_n_0 (by decide +kernel)
theorem dX12_allCrossings_17 : decode cX12_allCrossings 17 = .ok (.getfield 141, 3) := dk_getfield 141 (b1 := 0) (b2 := 141) (by decide +kernel) (by decide +kernel) (by decide +kernel) (by decide +kernel)
theorem dX12_allCrossings_20 : decode cX12_allCrossings 20 = .ok (.iadd, 1) := dk_iadd (by decide +kernel)
theorem dX12_allCrossings_21 : decode cX12_allCrossings 21 = .ok (.istore_n 1, 1) := dk_istore_n_1 (by decide +kernel)
theorem dX12_allCrossings_22 : decode cX12_allCrossings 22 = .ok (.iinc 2 1, 3) := dk_iinc 2 1 (b1 := 2) (b2 := 1) (by decide +kernel) (by decide +kernel) (by decide +kernel) (by decide +kernel) (by decide +kernel)
theorem dX12_allCrossings_25 : decode cX12_allCrossings 25 = .ok (.goto (-21), 3) := dk_goto (-21) (b1 := 255) (b2 := 235) (by decide +kernel) (by decide +kernel) (by decide +kernel) (by decide +kernel)
set_option maxRecDepth 20000 in
theorem vX12_allCrossings_4 {E : sm_E} {L : sm_S → Prop} {d : Nat} {vs : List Value} {x1 : Int32} {x2 : Int32}  {m : sm_M} {Q : Int32 → sm_M → Prop} (hly : ∀ S, L S → ly S) (hd : 4 ≤ d) 
  (h : (6 ≤ x2 →
      Q x1 m) ∧
   (¬ 6 ≤ x2 →
      sm_callV E L mX12_measured 3 0 0 [.ref (sm_B E + 109), .int x2] m (fun m_1 =>
      ∀ x1_2 : Int32, x1_2 = x1 + (m_1.1 109 27) →
      ∀ x2_3 : Int32, x2_3 = x2 + 1 →
      gX12_allCrossings_4 E L d vs x1_2 x2_3 m_1 Q))) :
  gX12_allCrossings_4 E L d vs x1 x2 m Q := by
  refine sm_iload_n (Y := mX12_allCrossings) (pc := 4) 2 2 rfl rfl dX12_allCrossings_4 ?_
  refine sm_bipush (Y := mX12_allCrossings) (pc := 5) 6 (by decide) dX12_allCrossings_5 ?_
  refine sm_icmp_ge (Y := mX12_allCrossings) (pc := 7) 28 (by decide) dX12_allCrossings_7 (fun hc => ?_) (fun hc => ?_)
  · replace h := h.1 hc
    refine sm_iload_n (Y := mX12_allCrossings) (pc := 28) 1 1 rfl rfl dX12_allCrossings_28 ?_
    exact sm_iret (Y := mX12_allCrossings) (pc := 29) rfl rfl rfl dX12_allCrossings_29 ⟨_, rfl, h⟩
  · replace h := h.2 hc
    refine sm_aload_n (Y := mX12_allCrossings) (pc := 10) 0 0 rfl rfl dX12_allCrossings_10 ?_
    refine sm_iload_n (Y := mX12_allCrossings) (pc := 11) 2 2 rfl rfl dX12_allCrossings_11 ?_
    refine sm_iv_V (Y := mX12_allCrossings) (pc := 12) (As := [.int x2]) (a := 109) fX12_measured wRX12_176 (lk_109 hly) (by decide) rfl rfl rfl (Nat.le_trans (by decide) hd) (Nat.le_of_ble_eq_true rfl) ⟨Nat.le_refl _, Nat.le_refl _⟩ dX12_allCrossings_12 rfl (sm_monoV h (fun m_1 h => ?_))
    refine sm_iload_n (Y := mX12_allCrossings) (pc := 15) 1 1 rfl rfl dX12_allCrossings_15 ?_
    refine sm_aload_n (Y := mX12_allCrossings) (pc := 16) 0 0 rfl rfl dX12_allCrossings_16 ?_
    refine gf_RX12_141 (Y := mX12_allCrossings) (pc := 17) rfl ((lk_109 hly) _) dX12_allCrossings_17 ?_
    refine sm_iadd (Y := mX12_allCrossings) (pc := 20) dX12_allCrossings_20 ?_
    refine sm_istore_n (Y := mX12_allCrossings) (pc := 21) (fun y => [(1, .int y), (0, .ref (sm_B E + 109)), (2, .int x2)]) 1 rfl (by decide) (fun _ => rfl) dX12_allCrossings_21 (fun x1_2 ex1_2 => ?_)
    replace h := h x1_2 ex1_2
    refine sm_iinc (Y := mX12_allCrossings) (pc := 22) (fun y => [(2, .int y), (1, .int x1_2), (0, .ref (sm_B E + 109))]) 2 2 rfl (by decide) (fun _ => rfl) dX12_allCrossings_22 (fun x2_3 ex2_3 => ?_)
    replace h := h x2_3 ex2_3
    refine sm_goto (Y := mX12_allCrossings) (pc := 25) 4 (by decide) dX12_allCrossings_25 ?_
    refine sm_sub [2, 1, 0] rfl ?_
    exact h
theorem dX12_allCrossings_0 : decode cX12_allCrossings 0 = .ok (.iconst 0, 1) := dk_iconst_0 (by decide +kernel)
theorem dX12_allCrossings_1 : decode cX12_allCrossings 1 = .ok (.istore_n 1, 1) := dk_istore_n_1 (by decide +kernel)
theorem dX12_allCrossings_2 : decode cX12_allCrossings 2 = .ok (.iconst 0, 1) := dk_iconst_0 (by decide +kernel)
theorem dX12_allCrossings_3 : decode cX12_allCrossings 3 = .ok (.istore_n 2, 1) := dk_istore_n_2 (by decide +kernel)
set_option maxRecDepth 20000 in
theorem vX12_allCrossings_0 {E : sm_E} {L : sm_S → Prop} {d : Nat}   {m : sm_M} {Q : Int32 → sm_M → Prop}  (hd : 4 ≤ d) 
  (h : gX12_allCrossings_4 E L d ([.ref (sm_B E + 109)]) 0 0 m Q) :
  sm_callI E L mX12_allCrossings d 0 0 [.ref (sm_B E + 109)] m Q := by
  refine sm_enter (by decide +kernel) (by simp [lg_sl, Value.category]) ?_
  refine sm_iconst (Y := mX12_allCrossings) (pc := 0) 0 (by decide) dX12_allCrossings_0 ?_
  refine sm_istore0_n (Y := mX12_allCrossings) (pc := 1) [(1, .int 0), (0, .ref (sm_B E + 109))] 1 rfl (by decide) rfl dX12_allCrossings_1 ?_
  refine sm_iconst (Y := mX12_allCrossings) (pc := 2) 0 (by decide) dX12_allCrossings_2 ?_
  refine sm_istore0_n (Y := mX12_allCrossings) (pc := 3) [(2, .int 0), (1, .int 0), (0, .ref (sm_B E + 109))] 2 rfl (by decide) rfl dX12_allCrossings_3 ?_
  refine sm_sub [2, 1, 0] rfl ?_
  exact h
abbrev mX12_image : sm_Y := (yX12_image, cX12_image, 2, (some FieldType.int))
theorem fX12_image : sm_mi mX12_image RX12 0 := ⟨sm_in 1716 (by decide +kernel) (by decide +kernel), sm_in 1714 (by decide +kernel) (by decide +kernel), sm_in 1715 (by decide +kernel) (by decide +kernel), sm_in 93 (by decide +kernel) (by decide +kernel), rfl, ⟨by decide +kernel, by decide +kernel, by decide +kernel⟩, by decide⟩
def gX12_image_29 (E : sm_E) (L : sm_S → Prop) (d : Nat) (vs : List Value) (x1 : Int32) (m : sm_M) (Q : Int32 → sm_M → Prop) : Prop := sm_go E L mX12_image d 0 0 vs 29 [(0, .ref (sm_B E + 109)), (1, .int x1)] [] m 0 0 (sm_Z E L vs 0 0 (sm_QI Q))
def gX12_image_2 (E : sm_E) (L : sm_S → Prop) (d : Nat) (vs : List Value) (x1 : Int32) (m : sm_M) (Q : Int32 → sm_M → Prop) : Prop := sm_go E L mX12_image d 0 0 vs 2 [(0, .ref (sm_B E + 109)), (1, .int x1)] [] m 0 0 (sm_Z E L vs 0 0 (sm_QI Q))
theorem dX12_image_29 : decode cX12_image 29 = .ok (.iload_n 1, 1) := dk_iload_n_1 (by decide +kernel)
theorem dX12_image_30 : decode cX12_image 30 = .ok (.bipush 6, 2) := dk_bipush 6 (b := 6) (by decide +kernel) (by decide +kernel) (by decide +kernel)
theorem dX12_image_32 : decode cX12_image 32 = .ok (.if_icmp .ge 21, 3) := dk_if_icmp_ge 21 (b1 := 0) (b2 := 21) (by decide +kernel) (by decide +kernel) (by decide +kernel) (by decide +kernel)
theorem dX12_image_53 : decode cX12_image 53 = .ok (.aload_n 0, 1) := dk_aload_n_0 (by decide +kernel)
theorem dX12_image_54 : decode cX12_image 54 = .ok (.aload_n 0, 1) := dk_aload_n_0 (by decide +kernel)
theorem dX12_image_55 : decode cX12_image 55 = .ok (.getfield 28, 3) := dk_getfield 28 (b1 := 0) (b2 := 28) (by decide +kernel) (by decide +kernel) (by decide +kernel) (by decide +kernel)
theorem dX12_image_58 : decode cX12_image 58 = .ok (.putfield 441, 3) := dk_putfield 441 (b1 := 1) (b2 := 185) (by decide +kernel) (by decide +kernel) (by decide +kernel) (by decide +kernel)
theorem dX12_image_61 : decode cX12_image 61 = .ok (.aload_n 0, 1) := dk_aload_n_0 (by decide +kernel)
theorem dX12_image_62 : decode cX12_image 62 = .ok (.dup, 1) := dk_dup (by decide +kernel)
theorem dX12_image_63 : decode cX12_image 63 = .ok (.getfield 444, 3) := dk_getfield 444 (b1 := 1) (b2 := 188) (by decide +kernel) (by decide +kernel) (by decide +kernel) (by decide +kernel)
theorem dX12_image_66 : decode cX12_image 66 = .ok (.iconst 1, 1) := dk_iconst_1 (by decide +kernel)
theorem dX12_image_67 : decode cX12_image 67 = .ok (.iadd, 1) := dk_iadd (by decide +kernel)
theorem dX12_image_68 : decode cX12_image 68 = .ok (.putfield 444, 3) := dk_putfield 444 (b1 := 1) (b2 := 188) (by decide +kernel) (by decide +kernel) (by decide +kernel) (by decide +kernel)
theorem dX12_image_71 : decode cX12_image 71 = .ok (.aload_n 0, 1) := dk_aload_n_0 (by decide +kernel)
theorem dX12_image_72 : decode cX12_image 72 = .ok (.getfield 444, 3) := dk_getfield 444 (b1 := 1) (b2 := 188) (by decide +kernel) (by decide +kernel) (by decide +kernel) (by decide +kernel)
theorem dX12_image_75 : decode cX12_image 75 = .ok (.ireturn, 1) := dk_ireturn (by decide +kernel)
theorem dX12_image_35 : decode cX12_image 35 = .ok (.aload_n 0, 1) := dk_aload_n_0 (by decide +kernel)
theorem dX12_image_36 : decode cX12_image 36 = .ok (.getfield 22, 3) := dk_getfield 22 (b1 := 0) (b2 := 22) (by decide +kernel) (by decide +kernel) (by decide +kernel) (by decide +kernel)
theorem dX12_image_39 : decode cX12_image 39 = .ok (.iload_n 1, 1) := dk_iload_n_1 (by decide +kernel)
theorem dX12_image_40 : decode cX12_image 40 = .ok (.aload_n 0, 1) := dk_aload_n_0 (by decide +kernel)
theorem dX12_image_41 : decode cX12_image 41 = .ok (.getfield 16, 3) := dk_getfield 16 (b1 := 0) (b2 := 16) (by decide +kernel) (by decide +kernel) (by decide +kernel) (by decide +kernel)
theorem dX12_image_44 : decode cX12_image 44 = .ok (.iload_n 1, 1) := dk_iload_n_1 (by decide +kernel)
theorem dX12_image_45 : decode cX12_image 45 = .ok (.iaload, 1) := dk_iaload (by decide +kernel)
theorem dX12_image_46 : decode cX12_image 46 = .ok (.iastore, 1) := dk_iastore (by decide +kernel)
theorem dX12_image_47 : decode cX12_image 47 = .ok (.iinc 1 1, 3) := dk_iinc 1 1 (b1 := 1) (b2 := 1) (by decide +kernel) (by decide +kernel) (by decide +kernel) (by decide +kernel) (by decide +kernel)
theorem dX12_image_50 : decode cX12_image 50 = .ok (.goto (-21), 3) := dk_goto (-21) (b1 := 255) (b2 := 235) (by decide +kernel) (by decide +kernel) (by decide +kernel) (by decide +kernel)
set_option maxRecDepth 20000 in
theorem vX12_image_29 {E : sm_E} {L : sm_S → Prop} {d : Nat} {vs : List Value} {x1 : Int32}  {m : sm_M} {Q : Int32 → sm_M → Prop} (hly : ∀ S, L S → ly S) (hd : 1 ≤ d) 
  (h : (6 ≤ x1 →
      ∀ m_1 : sm_M, m_1 = sm_wI m 109 8 (m.1 109 7) →
      ∀ m_2 : sm_M, m_2 = sm_wI m_1 109 9 ((m_1.1 109 9) + 1) →
      Q (m_2.1 109 9) m_2) ∧
   (¬ 6 ≤ x1 →
      (vp_in x1 6) ∧ (vp_in x1 6) ∧ ∀ m_4 : sm_M, m_4 = sm_wI m 114 x1.toNatClampNeg (m.1 112 x1.toNatClampNeg) →
      ∀ x1_6 : Int32, x1_6 = x1 + 1 →
      gX12_image_29 E L d vs x1_6 m_4 Q)) :
  gX12_image_29 E L d vs x1 m Q := by
  refine sm_iload_n (Y := mX12_image) (pc := 29) 1 1 rfl rfl dX12_image_29 ?_
  refine sm_bipush (Y := mX12_image) (pc := 30) 6 (by decide) dX12_image_30 ?_
  refine sm_icmp_ge (Y := mX12_image) (pc := 32) 53 (by decide) dX12_image_32 (fun hc => ?_) (fun hc => ?_)
  · replace h := h.1 hc
    refine sm_aload_n (Y := mX12_image) (pc := 53) 0 0 rfl rfl dX12_image_53 ?_
    refine sm_aload_n (Y := mX12_image) (pc := 54) 0 0 rfl rfl dX12_image_54 ?_
    refine gf_RX12_28 (Y := mX12_image) (pc := 55) rfl ((lk_109 hly) _) dX12_image_55 ?_
    refine pf_RX12_441 (Y := mX12_image) (pc := 58) rfl ((lk_109 hly) _) dX12_image_58 (fun m_1 em_1 => ?_)
    replace h := h m_1 em_1
    refine sm_aload_n (Y := mX12_image) (pc := 61) 0 0 rfl rfl dX12_image_61 ?_
    refine sm_dup (Y := mX12_image) (pc := 62) rfl dX12_image_62 ?_
    refine gf_RX12_444 (Y := mX12_image) (pc := 63) rfl ((lk_109 hly) _) dX12_image_63 ?_
    refine sm_iconst (Y := mX12_image) (pc := 66) 1 (by decide) dX12_image_66 ?_
    refine sm_iadd (Y := mX12_image) (pc := 67) dX12_image_67 ?_
    refine pf_RX12_444 (Y := mX12_image) (pc := 68) rfl ((lk_109 hly) _) dX12_image_68 (fun m_2 em_2 => ?_)
    replace h := h m_2 em_2
    refine sm_aload_n (Y := mX12_image) (pc := 71) 0 0 rfl rfl dX12_image_71 ?_
    refine gf_RX12_444 (Y := mX12_image) (pc := 72) rfl ((lk_109 hly) _) dX12_image_72 ?_
    exact sm_iret (Y := mX12_image) (pc := 75) rfl rfl rfl dX12_image_75 ⟨_, rfl, h⟩
  · replace h := h.2 hc
    refine sm_aload_n (Y := mX12_image) (pc := 35) 0 0 rfl rfl dX12_image_35 ?_
    refine gf_RX12_22 (Y := mX12_image) (pc := 36) (b := 114) rfl ((lk_109 hly) _) (lf_109_4 hly _) dX12_image_36 ?_
    refine sm_iload_n (Y := mX12_image) (pc := 39) 1 1 rfl rfl dX12_image_39 ?_
    refine sm_aload_n (Y := mX12_image) (pc := 40) 0 0 rfl rfl dX12_image_40 ?_
    refine gf_RX12_16 (Y := mX12_image) (pc := 41) (b := 112) rfl ((lk_109 hly) _) (lf_109_2 hly _) dX12_image_41 ?_
    refine sm_iload_n (Y := mX12_image) (pc := 44) 1 1 rfl rfl dX12_image_44 ?_
    obtain ⟨hn_3, h⟩ := h
    refine sm_iald (Y := mX12_image) (pc := 45) (la_112 hly _) hn_3 dX12_image_45 ?_
    obtain ⟨hn_5, h⟩ := h
    refine sm_iast (Y := mX12_image) (pc := 46) (la_114 hly _) hn_5 dX12_image_46 (fun m_4 em_4 => ?_)
    replace h := h m_4 em_4
    refine sm_iinc (Y := mX12_image) (pc := 47) (fun y => [(1, .int y), (0, .ref (sm_B E + 109))]) 1 1 rfl (by decide) (fun _ => rfl) dX12_image_47 (fun x1_6 ex1_6 => ?_)
    replace h := h x1_6 ex1_6
    refine sm_goto (Y := mX12_image) (pc := 50) 29 (by decide) dX12_image_50 ?_
    refine sm_sub [1, 0] rfl ?_
    exact h
theorem dX12_image_2 : decode cX12_image 2 = .ok (.iload_n 1, 1) := dk_iload_n_1 (by decide +kernel)
theorem dX12_image_3 : decode cX12_image 3 = .ok (.sipush 360, 3) := dk_sipush 360 (b1 := 1) (b2 := 104) (by decide +kernel) (by decide +kernel) (by decide +kernel) (by decide +kernel)
theorem dX12_image_6 : decode cX12_image 6 = .ok (.if_icmp .ge 21, 3) := dk_if_icmp_ge 21 (b1 := 0) (b2 := 21) (by decide +kernel) (by decide +kernel) (by decide +kernel) (by decide +kernel)
theorem dX12_image_27 : decode cX12_image 27 = .ok (.iconst 0, 1) := dk_iconst_0 (by decide +kernel)
theorem dX12_image_28 : decode cX12_image 28 = .ok (.istore_n 1, 1) := dk_istore_n_1 (by decide +kernel)
theorem dX12_image_9 : decode cX12_image 9 = .ok (.aload_n 0, 1) := dk_aload_n_0 (by decide +kernel)
theorem dX12_image_10 : decode cX12_image 10 = .ok (.getfield 19, 3) := dk_getfield 19 (b1 := 0) (b2 := 19) (by decide +kernel) (by decide +kernel) (by decide +kernel) (by decide +kernel)
theorem dX12_image_13 : decode cX12_image 13 = .ok (.iload_n 1, 1) := dk_iload_n_1 (by decide +kernel)
theorem dX12_image_14 : decode cX12_image 14 = .ok (.aload_n 0, 1) := dk_aload_n_0 (by decide +kernel)
theorem dX12_image_15 : decode cX12_image 15 = .ok (.getfield 13, 3) := dk_getfield 13 (b1 := 0) (b2 := 13) (by decide +kernel) (by decide +kernel) (by decide +kernel) (by decide +kernel)
theorem dX12_image_18 : decode cX12_image 18 = .ok (.iload_n 1, 1) := dk_iload_n_1 (by decide +kernel)
theorem dX12_image_19 : decode cX12_image 19 = .ok (.iaload, 1) := dk_iaload (by decide +kernel)
theorem dX12_image_20 : decode cX12_image 20 = .ok (.iastore, 1) := dk_iastore (by decide +kernel)
theorem dX12_image_21 : decode cX12_image 21 = .ok (.iinc 1 1, 3) := dk_iinc 1 1 (b1 := 1) (b2 := 1) (by decide +kernel) (by decide +kernel) (by decide +kernel) (by decide +kernel) (by decide +kernel)
theorem dX12_image_24 : decode cX12_image 24 = .ok (.goto (-22), 3) := dk_goto (-22) (b1 := 255) (b2 := 234) (by decide +kernel) (by decide +kernel) (by decide +kernel) (by decide +kernel)
set_option maxRecDepth 20000 in
theorem vX12_image_2 {E : sm_E} {L : sm_S → Prop} {d : Nat} {vs : List Value} {x1 : Int32}  {m : sm_M} {Q : Int32 → sm_M → Prop} (hly : ∀ S, L S → ly S) (hd : 1 ≤ d) 
  (h : (360 ≤ x1 →
      gX12_image_29 E L d vs 0 m Q) ∧
   (¬ 360 ≤ x1 →
      (vp_in x1 360) ∧ (vp_in x1 360) ∧ ∀ m_3 : sm_M, m_3 = sm_wI m 113 x1.toNatClampNeg (m.1 111 x1.toNatClampNeg) →
      ∀ x1_5 : Int32, x1_5 = x1 + 1 →
      gX12_image_2 E L d vs x1_5 m_3 Q)) :
  gX12_image_2 E L d vs x1 m Q := by
  refine sm_iload_n (Y := mX12_image) (pc := 2) 1 1 rfl rfl dX12_image_2 ?_
  refine sm_sipush (Y := mX12_image) (pc := 3) 360 (by decide) dX12_image_3 ?_
  refine sm_icmp_ge (Y := mX12_image) (pc := 6) 27 (by decide) dX12_image_6 (fun hc => ?_) (fun hc => ?_)
  · replace h := h.1 hc
    refine sm_iconst (Y := mX12_image) (pc := 27) 0 (by decide) dX12_image_27 ?_
    refine sm_istore0_n (Y := mX12_image) (pc := 28) [(1, .int 0), (0, .ref (sm_B E + 109))] 1 rfl (by decide) rfl dX12_image_28 ?_
    refine sm_sub [1, 0] rfl ?_
    exact h
  · replace h := h.2 hc
    refine sm_aload_n (Y := mX12_image) (pc := 9) 0 0 rfl rfl dX12_image_9 ?_
    refine gf_RX12_19 (Y := mX12_image) (pc := 10) (b := 113) rfl ((lk_109 hly) _) (lf_109_3 hly _) dX12_image_10 ?_
    refine sm_iload_n (Y := mX12_image) (pc := 13) 1 1 rfl rfl dX12_image_13 ?_
    refine sm_aload_n (Y := mX12_image) (pc := 14) 0 0 rfl rfl dX12_image_14 ?_
    refine gf_RX12_13 (Y := mX12_image) (pc := 15) (b := 111) rfl ((lk_109 hly) _) (lf_109_1 hly _) dX12_image_15 ?_
    refine sm_iload_n (Y := mX12_image) (pc := 18) 1 1 rfl rfl dX12_image_18 ?_
    obtain ⟨hn_2, h⟩ := h
    refine sm_iald (Y := mX12_image) (pc := 19) (la_111 hly _) hn_2 dX12_image_19 ?_
    obtain ⟨hn_4, h⟩ := h
    refine sm_iast (Y := mX12_image) (pc := 20) (la_113 hly _) hn_4 dX12_image_20 (fun m_3 em_3 => ?_)
    replace h := h m_3 em_3
    refine sm_iinc (Y := mX12_image) (pc := 21) (fun y => [(1, .int y), (0, .ref (sm_B E + 109))]) 1 1 rfl (by decide) (fun _ => rfl) dX12_image_21 (fun x1_5 ex1_5 => ?_)
    replace h := h x1_5 ex1_5
    refine sm_goto (Y := mX12_image) (pc := 24) 2 (by decide) dX12_image_24 ?_
    refine sm_sub [1, 0] rfl ?_
    exact h
theorem dX12_image_0 : decode cX12_image 0 = .ok (.iconst 0, 1) := dk_iconst_0 (by decide +kernel)
theorem dX12_image_1 : decode cX12_image 1 = .ok (.istore_n 1, 1) := dk_istore_n_1 (by decide +kernel)
set_option maxRecDepth 20000 in
theorem vX12_image_0 {E : sm_E} {L : sm_S → Prop} {d : Nat}   {m : sm_M} {Q : Int32 → sm_M → Prop}  (hd : 1 ≤ d) 
  (h : gX12_image_2 E L d ([.ref (sm_B E + 109)]) 0 m Q) :
  sm_callI E L mX12_image d 0 0 [.ref (sm_B E + 109)] m Q := by
  refine sm_enter (by decide +kernel) (by simp [lg_sl, Value.category]) ?_
  refine sm_iconst (Y := mX12_image) (pc := 0) 0 (by decide) dX12_image_0 ?_
  refine sm_istore0_n (Y := mX12_image) (pc := 1) [(1, .int 0), (0, .ref (sm_B E + 109))] 1 rfl (by decide) rfl dX12_image_1 ?_
  refine sm_sub [1, 0] rfl ?_
  exact h
abbrev mX12_restore : sm_Y := (yX12_restore, cX12_restore, 2, (some FieldType.int))
theorem fX12_restore : sm_mi mX12_restore RX12 0 := ⟨sm_in 1720 (by decide +kernel) (by decide +kernel), sm_in 1718 (by decide +kernel) (by decide +kernel), sm_in 1719 (by decide +kernel) (by decide +kernel), sm_in 93 (by decide +kernel) (by decide +kernel), rfl, ⟨by decide +kernel, by decide +kernel, by decide +kernel⟩, by decide⟩
def gX12_restore_42 (E : sm_E) (L : sm_S → Prop) (d : Nat) (vs : List Value) (x1 : Int32) (m : sm_M) (Q : Int32 → sm_M → Prop) : Prop := sm_go E L mX12_restore d 0 0 vs 42 [(0, .ref (sm_B E + 109)), (1, .int x1)] [] m 0 0 (sm_Z E L vs 0 0 (sm_QI Q))
def gX12_restore_15 (E : sm_E) (L : sm_S → Prop) (d : Nat) (vs : List Value) (x1 : Int32) (m : sm_M) (Q : Int32 → sm_M → Prop) : Prop := sm_go E L mX12_restore d 0 0 vs 15 [(0, .ref (sm_B E + 109)), (1, .int x1)] [] m 0 0 (sm_Z E L vs 0 0 (sm_QI Q))
theorem dX12_restore_42 : decode cX12_restore 42 = .ok (.iload_n 1, 1) := dk_iload_n_1 (by decide +kernel)
theorem dX12_restore_43 : decode cX12_restore 43 = .ok (.bipush 6, 2) := dk_bipush 6 (b := 6) (by decide +kernel) (by decide +kernel) (by decide +kernel)
theorem dX12_restore_45 : decode cX12_restore 45 = .ok (.if_icmp .ge 21, 3) := dk_if_icmp_ge 21 (b1 := 0) (b2 := 21) (by decide +kernel) (by decide +kernel) (by decide +kernel) (by decide +kernel)
theorem dX12_restore_66 : decode cX12_restore 66 = .ok (.aload_n 0, 1) := dk_aload_n_0 (by decide +kernel)
theorem dX12_restore_67 : decode cX12_restore 67 = .ok (.aload_n 0, 1) := dk_aload_n_0 (by decide +kernel)
theorem dX12_restore_68 : decode cX12_restore 68 = .ok (.getfield 441, 3) := dk_getfield 441 (b1 := 1) (b2 := 185) (by decide +kernel) (by decide +kernel) (by decide +kernel) (by decide +kernel)
theorem dX12_restore_71 : decode cX12_restore 71 = .ok (.putfield 28, 3) := dk_putfield 28 (b1 := 0) (b2 := 28) (by decide +kernel) (by decide +kernel) (by decide +kernel) (by decide +kernel)
theorem dX12_restore_74 : decode cX12_restore 74 = .ok (.aload_n 0, 1) := dk_aload_n_0 (by decide +kernel)
theorem wRX12_447 : Cond.methodLink RX12 447 yX12_allCrossings ∈ sm_T := sm_in 1721 (by decide +kernel) (by decide +kernel)
theorem dX12_restore_75 : decode cX12_restore 75 = .ok (.invokevirtual 447, 3) := dk_invokevirtual 447 (b1 := 1) (b2 := 191) (by decide +kernel) (by decide +kernel) (by decide +kernel) (by decide +kernel)
theorem dX12_restore_78 : decode cX12_restore 78 = .ok (.ireturn, 1) := dk_ireturn (by decide +kernel)
theorem dX12_restore_48 : decode cX12_restore 48 = .ok (.aload_n 0, 1) := dk_aload_n_0 (by decide +kernel)
theorem dX12_restore_49 : decode cX12_restore 49 = .ok (.getfield 16, 3) := dk_getfield 16 (b1 := 0) (b2 := 16) (by decide +kernel) (by decide +kernel) (by decide +kernel) (by decide +kernel)
theorem dX12_restore_52 : decode cX12_restore 52 = .ok (.iload_n 1, 1) := dk_iload_n_1 (by decide +kernel)
theorem dX12_restore_53 : decode cX12_restore 53 = .ok (.aload_n 0, 1) := dk_aload_n_0 (by decide +kernel)
theorem dX12_restore_54 : decode cX12_restore 54 = .ok (.getfield 22, 3) := dk_getfield 22 (b1 := 0) (b2 := 22) (by decide +kernel) (by decide +kernel) (by decide +kernel) (by decide +kernel)
theorem dX12_restore_57 : decode cX12_restore 57 = .ok (.iload_n 1, 1) := dk_iload_n_1 (by decide +kernel)
theorem dX12_restore_58 : decode cX12_restore 58 = .ok (.iaload, 1) := dk_iaload (by decide +kernel)
theorem dX12_restore_59 : decode cX12_restore 59 = .ok (.iastore, 1) := dk_iastore (by decide +kernel)
theorem dX12_restore_60 : decode cX12_restore 60 = .ok (.iinc 1 1, 3) := dk_iinc 1 1 (b1 := 1) (b2 := 1) (by decide +kernel) (by decide +kernel) (by decide +kernel) (by decide +kernel) (by decide +kernel)
theorem dX12_restore_63 : decode cX12_restore 63 = .ok (.goto (-21), 3) := dk_goto (-21) (b1 := 255) (b2 := 235) (by decide +kernel) (by decide +kernel) (by decide +kernel) (by decide +kernel)
set_option maxRecDepth 20000 in
theorem vX12_restore_42 {E : sm_E} {L : sm_S → Prop} {d : Nat} {vs : List Value} {x1 : Int32}  {m : sm_M} {Q : Int32 → sm_M → Prop} (hly : ∀ S, L S → ly S) (hd : 5 ≤ d) 
  (h : (6 ≤ x1 →
      ∀ m_1 : sm_M, m_1 = sm_wI m 109 7 (m.1 109 8) →
      sm_callI E L mX12_allCrossings 4 0 0 [.ref (sm_B E + 109)] m_1 (fun r_3 m_2 =>
      Q r_3 m_2)) ∧
   (¬ 6 ≤ x1 →
      (vp_in x1 6) ∧ (vp_in x1 6) ∧ ∀ m_5 : sm_M, m_5 = sm_wI m 112 x1.toNatClampNeg (m.1 114 x1.toNatClampNeg) →
      ∀ x1_7 : Int32, x1_7 = x1 + 1 →
      gX12_restore_42 E L d vs x1_7 m_5 Q)) :
  gX12_restore_42 E L d vs x1 m Q := by
  refine sm_iload_n (Y := mX12_restore) (pc := 42) 1 1 rfl rfl dX12_restore_42 ?_
  refine sm_bipush (Y := mX12_restore) (pc := 43) 6 (by decide) dX12_restore_43 ?_
  refine sm_icmp_ge (Y := mX12_restore) (pc := 45) 66 (by decide) dX12_restore_45 (fun hc => ?_) (fun hc => ?_)
  · replace h := h.1 hc
    refine sm_aload_n (Y := mX12_restore) (pc := 66) 0 0 rfl rfl dX12_restore_66 ?_
    refine sm_aload_n (Y := mX12_restore) (pc := 67) 0 0 rfl rfl dX12_restore_67 ?_
    refine gf_RX12_441 (Y := mX12_restore) (pc := 68) rfl ((lk_109 hly) _) dX12_restore_68 ?_
    refine pf_RX12_28 (Y := mX12_restore) (pc := 71) rfl ((lk_109 hly) _) dX12_restore_71 (fun m_1 em_1 => ?_)
    replace h := h m_1 em_1
    refine sm_aload_n (Y := mX12_restore) (pc := 74) 0 0 rfl rfl dX12_restore_74 ?_
    refine sm_iv_I (Y := mX12_restore) (pc := 75) (As := []) (a := 109) fX12_allCrossings wRX12_447 (lk_109 hly) (by decide) rfl rfl rfl (Nat.le_trans (by decide) hd) (Nat.le_of_ble_eq_true rfl) ⟨Nat.le_refl _, Nat.le_refl _⟩ dX12_restore_75 rfl (sm_monoI h (fun r_3 m_2 h => ?_))
    exact sm_iret (Y := mX12_restore) (pc := 78) rfl rfl rfl dX12_restore_78 ⟨_, rfl, h⟩
  · replace h := h.2 hc
    refine sm_aload_n (Y := mX12_restore) (pc := 48) 0 0 rfl rfl dX12_restore_48 ?_
    refine gf_RX12_16 (Y := mX12_restore) (pc := 49) (b := 112) rfl ((lk_109 hly) _) (lf_109_2 hly _) dX12_restore_49 ?_
    refine sm_iload_n (Y := mX12_restore) (pc := 52) 1 1 rfl rfl dX12_restore_52 ?_
    refine sm_aload_n (Y := mX12_restore) (pc := 53) 0 0 rfl rfl dX12_restore_53 ?_
    refine gf_RX12_22 (Y := mX12_restore) (pc := 54) (b := 114) rfl ((lk_109 hly) _) (lf_109_4 hly _) dX12_restore_54 ?_
    refine sm_iload_n (Y := mX12_restore) (pc := 57) 1 1 rfl rfl dX12_restore_57 ?_
    obtain ⟨hn_4, h⟩ := h
    refine sm_iald (Y := mX12_restore) (pc := 58) (la_114 hly _) hn_4 dX12_restore_58 ?_
    obtain ⟨hn_6, h⟩ := h
    refine sm_iast (Y := mX12_restore) (pc := 59) (la_112 hly _) hn_6 dX12_restore_59 (fun m_5 em_5 => ?_)
    replace h := h m_5 em_5
    refine sm_iinc (Y := mX12_restore) (pc := 60) (fun y => [(1, .int y), (0, .ref (sm_B E + 109))]) 1 1 rfl (by decide) (fun _ => rfl) dX12_restore_60 (fun x1_7 ex1_7 => ?_)
    replace h := h x1_7 ex1_7
    refine sm_goto (Y := mX12_restore) (pc := 63) 42 (by decide) dX12_restore_63 ?_
    refine sm_sub [1, 0] rfl ?_
    exact h
theorem dX12_restore_15 : decode cX12_restore 15 = .ok (.iload_n 1, 1) := dk_iload_n_1 (by decide +kernel)
theorem dX12_restore_16 : decode cX12_restore 16 = .ok (.sipush 360, 3) := dk_sipush 360 (b1 := 1) (b2 := 104) (by decide +kernel) (by decide +kernel) (by decide +kernel) (by decide +kernel)
theorem dX12_restore_19 : decode cX12_restore 19 = .ok (.if_icmp .ge 21, 3) := dk_if_icmp_ge 21 (b1 := 0) (b2 := 21) (by decide +kernel) (by decide +kernel) (by decide +kernel) (by decide +kernel)
theorem dX12_restore_40 : decode cX12_restore 40 = .ok (.iconst 0, 1) := dk_iconst_0 (by decide +kernel)
theorem dX12_restore_41 : decode cX12_restore 41 = .ok (.istore_n 1, 1) := dk_istore_n_1 (by decide +kernel)
theorem dX12_restore_22 : decode cX12_restore 22 = .ok (.aload_n 0, 1) := dk_aload_n_0 (by decide +kernel)
theorem dX12_restore_23 : decode cX12_restore 23 = .ok (.getfield 13, 3) := dk_getfield 13 (b1 := 0) (b2 := 13) (by decide +kernel) (by decide +kernel) (by decide +kernel) (by decide +kernel)
theorem dX12_restore_26 : decode cX12_restore 26 = .ok (.iload_n 1, 1) := dk_iload_n_1 (by decide +kernel)
theorem dX12_restore_27 : decode cX12_restore 27 = .ok (.aload_n 0, 1) := dk_aload_n_0 (by decide +kernel)
theorem dX12_restore_28 : decode cX12_restore 28 = .ok (.getfield 19, 3) := dk_getfield 19 (b1 := 0) (b2 := 19) (by decide +kernel) (by decide +kernel) (by decide +kernel) (by decide +kernel)
theorem dX12_restore_31 : decode cX12_restore 31 = .ok (.iload_n 1, 1) := dk_iload_n_1 (by decide +kernel)
theorem dX12_restore_32 : decode cX12_restore 32 = .ok (.iaload, 1) := dk_iaload (by decide +kernel)
theorem dX12_restore_33 : decode cX12_restore 33 = .ok (.iastore, 1) := dk_iastore (by decide +kernel)
theorem dX12_restore_34 : decode cX12_restore 34 = .ok (.iinc 1 1, 3) := dk_iinc 1 1 (b1 := 1) (b2 := 1) (by decide +kernel) (by decide +kernel) (by decide +kernel) (by decide +kernel) (by decide +kernel)
theorem dX12_restore_37 : decode cX12_restore 37 = .ok (.goto (-22), 3) := dk_goto (-22) (b1 := 255) (b2 := 234) (by decide +kernel) (by decide +kernel) (by decide +kernel) (by decide +kernel)
set_option maxRecDepth 20000 in
theorem vX12_restore_15 {E : sm_E} {L : sm_S → Prop} {d : Nat} {vs : List Value} {x1 : Int32}  {m : sm_M} {Q : Int32 → sm_M → Prop} (hly : ∀ S, L S → ly S) (hd : 5 ≤ d) 
  (h : (360 ≤ x1 →
      gX12_restore_42 E L d vs 0 m Q) ∧
   (¬ 360 ≤ x1 →
      (vp_in x1 360) ∧ (vp_in x1 360) ∧ ∀ m_3 : sm_M, m_3 = sm_wI m 111 x1.toNatClampNeg (m.1 113 x1.toNatClampNeg) →
      ∀ x1_5 : Int32, x1_5 = x1 + 1 →
      gX12_restore_15 E L d vs x1_5 m_3 Q)) :
  gX12_restore_15 E L d vs x1 m Q := by
  refine sm_iload_n (Y := mX12_restore) (pc := 15) 1 1 rfl rfl dX12_restore_15 ?_
  refine sm_sipush (Y := mX12_restore) (pc := 16) 360 (by decide) dX12_restore_16 ?_
  refine sm_icmp_ge (Y := mX12_restore) (pc := 19) 40 (by decide) dX12_restore_19 (fun hc => ?_) (fun hc => ?_)
  · replace h := h.1 hc
    refine sm_iconst (Y := mX12_restore) (pc := 40) 0 (by decide) dX12_restore_40 ?_
    refine sm_istore0_n (Y := mX12_restore) (pc := 41) [(1, .int 0), (0, .ref (sm_B E + 109))] 1 rfl (by decide) rfl dX12_restore_41 ?_
    refine sm_sub [1, 0] rfl ?_
    exact h
  · replace h := h.2 hc
    refine sm_aload_n (Y := mX12_restore) (pc := 22) 0 0 rfl rfl dX12_restore_22 ?_
    refine gf_RX12_13 (Y := mX12_restore) (pc := 23) (b := 111) rfl ((lk_109 hly) _) (lf_109_1 hly _) dX12_restore_23 ?_
    refine sm_iload_n (Y := mX12_restore) (pc := 26) 1 1 rfl rfl dX12_restore_26 ?_
    refine sm_aload_n (Y := mX12_restore) (pc := 27) 0 0 rfl rfl dX12_restore_27 ?_
    refine gf_RX12_19 (Y := mX12_restore) (pc := 28) (b := 113) rfl ((lk_109 hly) _) (lf_109_3 hly _) dX12_restore_28 ?_
    refine sm_iload_n (Y := mX12_restore) (pc := 31) 1 1 rfl rfl dX12_restore_31 ?_
    obtain ⟨hn_2, h⟩ := h
    refine sm_iald (Y := mX12_restore) (pc := 32) (la_113 hly _) hn_2 dX12_restore_32 ?_
    obtain ⟨hn_4, h⟩ := h
    refine sm_iast (Y := mX12_restore) (pc := 33) (la_111 hly _) hn_4 dX12_restore_33 (fun m_3 em_3 => ?_)
    replace h := h m_3 em_3
    refine sm_iinc (Y := mX12_restore) (pc := 34) (fun y => [(1, .int y), (0, .ref (sm_B E + 109))]) 1 1 rfl (by decide) (fun _ => rfl) dX12_restore_34 (fun x1_5 ex1_5 => ?_)
    replace h := h x1_5 ex1_5
    refine sm_goto (Y := mX12_restore) (pc := 37) 15 (by decide) dX12_restore_37 ?_
    refine sm_sub [1, 0] rfl ?_
    exact h
theorem dX12_restore_0 : decode cX12_restore 0 = .ok (.aload_n 0, 1) := dk_aload_n_0 (by decide +kernel)
theorem dX12_restore_1 : decode cX12_restore 1 = .ok (.getfield 444, 3) := dk_getfield 444 (b1 := 1) (b2 := 188) (by decide +kernel) (by decide +kernel) (by decide +kernel) (by decide +kernel)
theorem dX12_restore_4 : decode cX12_restore 4 = .ok (.ifCond .ne 9, 3) := dk_ifCond_ne 9 (b1 := 0) (b2 := 9) (by decide +kernel) (by decide +kernel) (by decide +kernel) (by decide +kernel)
theorem dX12_restore_13 : decode cX12_restore 13 = .ok (.iconst 0, 1) := dk_iconst_0 (by decide +kernel)
theorem dX12_restore_14 : decode cX12_restore 14 = .ok (.istore_n 1, 1) := dk_istore_n_1 (by decide +kernel)
theorem dX12_restore_7 : decode cX12_restore 7 = .ok (.aload_n 0, 1) := dk_aload_n_0 (by decide +kernel)
theorem dX12_restore_8 : decode cX12_restore 8 = .ok (.iconst 2, 1) := dk_iconst_2 (by decide +kernel)
theorem dX12_restore_9 : decode cX12_restore 9 = .ok (.invokevirtual 194, 3) := dk_invokevirtual 194 (b1 := 0) (b2 := 194) (by decide +kernel) (by decide +kernel) (by decide +kernel) (by decide +kernel)
theorem dX12_restore_12 : decode cX12_restore 12 = .ok (.ireturn, 1) := dk_ireturn (by decide +kernel)
set_option maxRecDepth 20000 in
theorem vX12_restore_0 {E : sm_E} {L : sm_S → Prop} {d : Nat}   {m : sm_M} {Q : Int32 → sm_M → Prop} (hly : ∀ S, L S → ly S) (hd : 5 ≤ d) 
  (h : (¬ (m.1 109 9) = 0 →
      gX12_restore_15 E L d ([.ref (sm_B E + 109)]) 0 m Q) ∧
   ((m.1 109 9) = 0 →
      sm_callI E L mX12_finds 1 0 0 [.ref (sm_B E + 109), .int 2] m (fun r_3 m_2 =>
      Q r_3 m_2))) :
  sm_callI E L mX12_restore d 0 0 [.ref (sm_B E + 109)] m Q := by
  refine sm_enter (by decide +kernel) (by simp [lg_sl, Value.category]) ?_
  refine sm_aload_n (Y := mX12_restore) (pc := 0) 0 0 rfl rfl dX12_restore_0 ?_
  refine gf_RX12_444 (Y := mX12_restore) (pc := 1) rfl ((lk_109 hly) _) dX12_restore_1 ?_
  refine sm_if_ne (Y := mX12_restore) (pc := 4) 13 (by decide) dX12_restore_4 (fun hc => ?_) (fun hc => ?_)
  · replace h := h.1 hc
    refine sm_iconst (Y := mX12_restore) (pc := 13) 0 (by decide) dX12_restore_13 ?_
    refine sm_istore0_n (Y := mX12_restore) (pc := 14) [(1, .int 0), (0, .ref (sm_B E + 109))] 1 rfl (by decide) rfl dX12_restore_14 ?_
    refine sm_sub [1, 0] rfl ?_
    exact h
  · replace h := h.2 hc
    refine sm_aload_n (Y := mX12_restore) (pc := 7) 0 0 rfl rfl dX12_restore_7 ?_
    refine sm_iconst (Y := mX12_restore) (pc := 8) 2 (by decide) dX12_restore_8 ?_
    refine sm_iv_I (Y := mX12_restore) (pc := 9) (As := [.int 2]) (a := 109) fX12_finds wRX12_194 (lk_109 hly) (by decide) rfl rfl rfl (Nat.le_trans (by decide) hd) (Nat.le_of_ble_eq_true rfl) ⟨Nat.le_refl _, Nat.le_refl _⟩ dX12_restore_9 rfl (sm_monoI h (fun r_3 m_2 h => ?_))
    exact sm_iret (Y := mX12_restore) (pc := 12) rfl rfl rfl dX12_restore_12 ⟨_, rfl, h⟩
abbrev mX12_rationals : sm_Y := (yX12_rationals, cX12_rationals, 3, (some FieldType.int))
theorem fX12_rationals : sm_mi mX12_rationals RX12 0 := ⟨sm_in 1732 (by decide +kernel) (by decide +kernel), sm_in 1731 (by decide +kernel) (by decide +kernel), sm_in 80 (by decide +kernel) (by decide +kernel), sm_in 93 (by decide +kernel) (by decide +kernel), rfl, ⟨by decide +kernel, by decide +kernel, by decide +kernel⟩, by decide⟩
def gX12_rationals_4 (E : sm_E) (L : sm_S → Prop) (d : Nat) (vs : List Value) (x1 : Int32) (x2 : Int32) (m : sm_M) (Q : Int32 → sm_M → Prop) : Prop := sm_go E L mX12_rationals d 0 0 vs 4 [(0, .ref (sm_B E + 109)), (1, .int x1), (2, .int x2)] [] m 0 0 (sm_Z E L vs 0 0 (sm_QI Q))
theorem dX12_rationals_4 : decode cX12_rationals 4 = .ok (.iload_n 2, 1) := dk_iload_n_2 (by decide +kernel)
theorem dX12_rationals_5 : decode cX12_rationals 5 = .ok (.bipush 6, 2) := dk_bipush 6 (b := 6) (by decide +kernel) (by decide +kernel) (by decide +kernel)
theorem dX12_rationals_7 : decode cX12_rationals 7 = .ok (.if_icmp .ge 29, 3) := dk_if_icmp_ge 29 (b1 := 0) (b2 := 29) (by decide +kernel) (by decide +kernel) (by decide +kernel) (by decide +kernel)
theorem dX12_rationals_36 : decode cX12_rationals 36 = .ok (.iload_n 1, 1) := dk_iload_n_1 (by decide +kernel)
theorem dX12_rationals_37 : decode cX12_rationals 37 = .ok (.ireturn, 1) := dk_ireturn (by decide +kernel)
theorem dX12_rationals_10 : decode cX12_rationals 10 = .ok (.aload_n 0, 1) := dk_aload_n_0 (by decide +kernel)
theorem dX12_rationals_11 : decode cX12_rationals 11 = .ok (.iload_n 2, 1) := dk_iload_n_2 (by decide +kernel)
theorem dX12_rationals_12 : decode cX12_rationals 12 = .ok (.invokevirtual 176, 3) := dk_invokevirtual 176 (b1 := 0) (b2 := 176) (by decide +kernel) (by decide +kernel) (by decide +kernel) (by decide +kernel)
theorem dX12_rationals_15 : decode cX12_rationals 15 = .ok (.iload_n 1, 1) := dk_iload_n_1 (by decide +kernel)
theorem dX12_rationals_16 : decode cX12_rationals 16 = .ok (.aload_n 0, 1) := dk_aload_n_0 (by decide +kernel)
theorem dX12_rationals_17 : decode cX12_rationals 17 = .ok (.getfield 155, 3) := dk_getfield 155 (b1 := 0) (b2 := 155) (by decide +kernel) (by decide +kernel) (by decide +kernel) (by decide +kernel)
theorem dX12_rationals_20 : decode cX12_rationals 20 = .ok (.ifCond .eq 7, 3) := dk_ifCond_eq 7 (b1 := 0) (b2 := 7) (by decide +kernel) (by decide +kernel) (by decide +kernel) (by decide +kernel)
theorem dX12_rationals_27 : decode cX12_rationals 27 = .ok (.iconst 0, 1) := dk_iconst_0 (by decide +kernel)
theorem dX12_rationals_28 : decode cX12_rationals 28 = .ok (.iadd, 1) := dk_iadd (by decide +kernel)
theorem dX12_rationals_29 : decode cX12_rationals 29 = .ok (.istore_n 1, 1) := dk_istore_n_1 (by decide +kernel)
theorem dX12_rationals_30 : decode cX12_rationals 30 = .ok (.iinc 2 1, 3) := dk_iinc 2 1 (b1 := 2) (b2 := 1) (by decide +kernel) (by decide +kernel) (by decide +kernel) (by decide +kernel) (by decide +kernel)
theorem dX12_rationals_33 : decode cX12_rationals 33 = .ok (.goto (-29), 3) := dk_goto (-29) (b1 := 255) (b2 := 227) (by decide +kernel) (by decide +kernel) (by decide +kernel) (by decide +kernel)
theorem dX12_rationals_23 : decode cX12_rationals 23 = .ok (.iconst 1, 1) := dk_iconst_1 (by decide +kernel)
theorem dX12_rationals_24 : decode cX12_rationals 24 = .ok (.goto 4, 3) := dk_goto 4 (b1 := 0) (b2 := 4) (by decide +kernel) (by decide +kernel) (by decide +kernel) (by decide +kernel)
set_option maxRecDepth 20000 in
theorem vX12_rationals_4 {E : sm_E} {L : sm_S → Prop} {d : Nat} {vs : List Value} {x1 : Int32} {x2 : Int32}  {m : sm_M} {Q : Int32 → sm_M → Prop} (hly : ∀ S, L S → ly S) (hd : 4 ≤ d) 
  (h : (6 ≤ x2 →
      Q x1 m) ∧
   (¬ 6 ≤ x2 →
      sm_callV E L mX12_measured 3 0 0 [.ref (sm_B E + 109), .int x2] m (fun m_1 =>
      ((m_1.1 109 25) = 0 →
         ∀ x1_2 : Int32, x1_2 = x1 + 0 →
         ∀ x2_3 : Int32, x2_3 = x2 + 1 →
         gX12_rationals_4 E L d vs x1_2 x2_3 m_1 Q) ∧
      (¬ (m_1.1 109 25) = 0 →
         ∀ x1_4 : Int32, x1_4 = x1 + 1 →
         ∀ x2_5 : Int32, x2_5 = x2 + 1 →
         gX12_rationals_4 E L d vs x1_4 x2_5 m_1 Q)))) :
  gX12_rationals_4 E L d vs x1 x2 m Q := by
  refine sm_iload_n (Y := mX12_rationals) (pc := 4) 2 2 rfl rfl dX12_rationals_4 ?_
  refine sm_bipush (Y := mX12_rationals) (pc := 5) 6 (by decide) dX12_rationals_5 ?_
  refine sm_icmp_ge (Y := mX12_rationals) (pc := 7) 36 (by decide) dX12_rationals_7 (fun hc => ?_) (fun hc => ?_)
  · replace h := h.1 hc
    refine sm_iload_n (Y := mX12_rationals) (pc := 36) 1 1 rfl rfl dX12_rationals_36 ?_
    exact sm_iret (Y := mX12_rationals) (pc := 37) rfl rfl rfl dX12_rationals_37 ⟨_, rfl, h⟩
  · replace h := h.2 hc
    refine sm_aload_n (Y := mX12_rationals) (pc := 10) 0 0 rfl rfl dX12_rationals_10 ?_
    refine sm_iload_n (Y := mX12_rationals) (pc := 11) 2 2 rfl rfl dX12_rationals_11 ?_
    refine sm_iv_V (Y := mX12_rationals) (pc := 12) (As := [.int x2]) (a := 109) fX12_measured wRX12_176 (lk_109 hly) (by decide) rfl rfl rfl (Nat.le_trans (by decide) hd) (Nat.le_of_ble_eq_true rfl) ⟨Nat.le_refl _, Nat.le_refl _⟩ dX12_rationals_12 rfl (sm_monoV h (fun m_1 h => ?_))
    refine sm_iload_n (Y := mX12_rationals) (pc := 15) 1 1 rfl rfl dX12_rationals_15 ?_
    refine sm_aload_n (Y := mX12_rationals) (pc := 16) 0 0 rfl rfl dX12_rationals_16 ?_
    refine gf_RX12_155 (Y := mX12_rationals) (pc := 17) rfl ((lk_109 hly) _) dX12_rationals_17 ?_
    refine sm_if_eq (Y := mX12_rationals) (pc := 20) 27 (by decide) dX12_rationals_20 (fun hc => ?_) (fun hc => ?_)
    · replace h := h.1 hc
      refine sm_iconst (Y := mX12_rationals) (pc := 27) 0 (by decide) dX12_rationals_27 ?_
      refine sm_iadd (Y := mX12_rationals) (pc := 28) dX12_rationals_28 ?_
      refine sm_istore_n (Y := mX12_rationals) (pc := 29) (fun y => [(1, .int y), (0, .ref (sm_B E + 109)), (2, .int x2)]) 1 rfl (by decide) (fun _ => rfl) dX12_rationals_29 (fun x1_2 ex1_2 => ?_)
      replace h := h x1_2 ex1_2
      refine sm_iinc (Y := mX12_rationals) (pc := 30) (fun y => [(2, .int y), (1, .int x1_2), (0, .ref (sm_B E + 109))]) 2 2 rfl (by decide) (fun _ => rfl) dX12_rationals_30 (fun x2_3 ex2_3 => ?_)
      replace h := h x2_3 ex2_3
      refine sm_goto (Y := mX12_rationals) (pc := 33) 4 (by decide) dX12_rationals_33 ?_
      refine sm_sub [2, 1, 0] rfl ?_
      exact h
    · replace h := h.2 hc
      refine sm_iconst (Y := mX12_rationals) (pc := 23) 1 (by decide) dX12_rationals_23 ?_
      refine sm_goto (Y := mX12_rationals) (pc := 24) 28 (by decide) dX12_rationals_24 ?_
      refine sm_iadd (Y := mX12_rationals) (pc := 28) dX12_rationals_28 ?_
      refine sm_istore_n (Y := mX12_rationals) (pc := 29) (fun y => [(1, .int y), (0, .ref (sm_B E + 109)), (2, .int x2)]) 1 rfl (by decide) (fun _ => rfl) dX12_rationals_29 (fun x1_4 ex1_4 => ?_)
      replace h := h x1_4 ex1_4
      refine sm_iinc (Y := mX12_rationals) (pc := 30) (fun y => [(2, .int y), (1, .int x1_4), (0, .ref (sm_B E + 109))]) 2 2 rfl (by decide) (fun _ => rfl) dX12_rationals_30 (fun x2_5 ex2_5 => ?_)
      replace h := h x2_5 ex2_5
      refine sm_goto (Y := mX12_rationals) (pc := 33) 4 (by decide) dX12_rationals_33 ?_
      refine sm_sub [2, 1, 0] rfl ?_
      exact h
theorem dX12_rationals_0 : decode cX12_rationals 0 = .ok (.iconst 0, 1) := dk_iconst_0 (by decide +kernel)
theorem dX12_rationals_1 : decode cX12_rationals 1 = .ok (.istore_n 1, 1) := dk_istore_n_1 (by decide +kernel)
theorem dX12_rationals_2 : decode cX12_rationals 2 = .ok (.iconst 0, 1) := dk_iconst_0 (by decide +kernel)
theorem dX12_rationals_3 : decode cX12_rationals 3 = .ok (.istore_n 2, 1) := dk_istore_n_2 (by decide +kernel)
set_option maxRecDepth 20000 in
theorem vX12_rationals_0 {E : sm_E} {L : sm_S → Prop} {d : Nat}   {m : sm_M} {Q : Int32 → sm_M → Prop}  (hd : 4 ≤ d) 
  (h : gX12_rationals_4 E L d ([.ref (sm_B E + 109)]) 0 0 m Q) :
  sm_callI E L mX12_rationals d 0 0 [.ref (sm_B E + 109)] m Q := by
  refine sm_enter (by decide +kernel) (by simp [lg_sl, Value.category]) ?_
  refine sm_iconst (Y := mX12_rationals) (pc := 0) 0 (by decide) dX12_rationals_0 ?_
  refine sm_istore0_n (Y := mX12_rationals) (pc := 1) [(1, .int 0), (0, .ref (sm_B E + 109))] 1 rfl (by decide) rfl dX12_rationals_1 ?_
  refine sm_iconst (Y := mX12_rationals) (pc := 2) 0 (by decide) dX12_rationals_2 ?_
  refine sm_istore0_n (Y := mX12_rationals) (pc := 3) [(2, .int 0), (1, .int 0), (0, .ref (sm_B E + 109))] 2 rfl (by decide) rfl dX12_rationals_3 ?_
  refine sm_sub [2, 1, 0] rfl ?_
  exact h
abbrev mX12_count : sm_Y := (yX12_count, cX12_count, 4, (some FieldType.int))
theorem fX12_count : sm_mi mX12_count RX12 1 := ⟨sm_in 1728 (by decide +kernel) (by decide +kernel), sm_in 1726 (by decide +kernel) (by decide +kernel), sm_in 1727 (by decide +kernel) (by decide +kernel), sm_in 93 (by decide +kernel) (by decide +kernel), rfl, ⟨by decide +kernel, by decide +kernel, by decide +kernel⟩, by decide⟩
def gX12_count_62 (E : sm_E) (L : sm_S → Prop) (d : Nat) (vs : List Value) (x2 : Int32) (x3 : Int32) (m : sm_M) (Q : Int32 → sm_M → Prop) : Prop := sm_go E L mX12_count d 0 0 vs 62 [(0, .ref (sm_B E + 109)), (2, .int x2), (3, .int x3)] [] m 0 0 (sm_Z E L vs 0 0 (sm_QI Q))
theorem dX12_count_62 : decode cX12_count 62 = .ok (.iload_n 3, 1) := dk_iload_n_3 (by decide +kernel)
theorem dX12_count_63 : decode cX12_count 63 = .ok (.aload_n 0, 1) := dk_aload_n_0 (by decide +kernel)
theorem dX12_count_64 : decode cX12_count 64 = .ok (.getfield 391, 3) := dk_getfield 391 (b1 := 1) (b2 := 135) (by decide +kernel) (by decide +kernel) (by decide +kernel) (by decide +kernel)
theorem dX12_count_67 : decode cX12_count 67 = .ok (.if_icmp .ge 18, 3) := dk_if_icmp_ge 18 (b1 := 0) (b2 := 18) (by decide +kernel) (by decide +kernel) (by decide +kernel) (by decide +kernel)
theorem dX12_count_85 : decode cX12_count 85 = .ok (.iload_n 2, 1) := dk_iload_n_2 (by decide +kernel)
theorem dX12_count_86 : decode cX12_count 86 = .ok (.ireturn, 1) := dk_ireturn (by decide +kernel)
theorem dX12_count_70 : decode cX12_count 70 = .ok (.iload_n 2, 1) := dk_iload_n_2 (by decide +kernel)
theorem dX12_count_71 : decode cX12_count 71 = .ok (.aload_n 0, 1) := dk_aload_n_0 (by decide +kernel)
theorem dX12_count_72 : decode cX12_count 72 = .ok (.getfield 41, 3) := dk_getfield 41 (b1 := 0) (b2 := 41) (by decide +kernel) (by decide +kernel) (by decide +kernel) (by decide +kernel)
theorem dX12_count_75 : decode cX12_count 75 = .ok (.iload_n 3, 1) := dk_iload_n_3 (by decide +kernel)
theorem dX12_count_76 : decode cX12_count 76 = .ok (.iaload, 1) := dk_iaload (by decide +kernel)
theorem dX12_count_77 : decode cX12_count 77 = .ok (.iadd, 1) := dk_iadd (by decide +kernel)
theorem dX12_count_78 : decode cX12_count 78 = .ok (.istore_n 2, 1) := dk_istore_n_2 (by decide +kernel)
theorem dX12_count_79 : decode cX12_count 79 = .ok (.iinc 3 1, 3) := dk_iinc 3 1 (b1 := 3) (b2 := 1) (by decide +kernel) (by decide +kernel) (by decide +kernel) (by decide +kernel) (by decide +kernel)
theorem dX12_count_82 : decode cX12_count 82 = .ok (.goto (-20), 3) := dk_goto (-20) (b1 := 255) (b2 := 236) (by decide +kernel) (by decide +kernel) (by decide +kernel) (by decide +kernel)
set_option maxRecDepth 20000 in
theorem vX12_count_62 {E : sm_E} {L : sm_S → Prop} {d : Nat} {vs : List Value} {x2 : Int32} {x3 : Int32}  {m : sm_M} {Q : Int32 → sm_M → Prop} (hly : ∀ S, L S → ly S) (hd : 5 ≤ d) 
  (h : ((m.1 109 15) ≤ x3 →
      Q x2 m) ∧
   (¬ (m.1 109 15) ≤ x3 →
      (vp_in x3 40) ∧ ∀ x2_2 : Int32, x2_2 = x2 + (m.1 119 x3.toNatClampNeg) →
      ∀ x3_3 : Int32, x3_3 = x3 + 1 →
      gX12_count_62 E L d vs x2_2 x3_3 m Q)) :
  gX12_count_62 E L d vs x2 x3 m Q := by
  refine sm_iload_n (Y := mX12_count) (pc := 62) 2 3 rfl rfl dX12_count_62 ?_
  refine sm_aload_n (Y := mX12_count) (pc := 63) 0 0 rfl rfl dX12_count_63 ?_
  refine gf_RX12_391 (Y := mX12_count) (pc := 64) rfl ((lk_109 hly) _) dX12_count_64 ?_
  refine sm_icmp_ge (Y := mX12_count) (pc := 67) 85 (by decide) dX12_count_67 (fun hc => ?_) (fun hc => ?_)
  · replace h := h.1 hc
    refine sm_iload_n (Y := mX12_count) (pc := 85) 1 2 rfl rfl dX12_count_85 ?_
    exact sm_iret (Y := mX12_count) (pc := 86) rfl rfl rfl dX12_count_86 ⟨_, rfl, h⟩
  · replace h := h.2 hc
    refine sm_iload_n (Y := mX12_count) (pc := 70) 1 2 rfl rfl dX12_count_70 ?_
    refine sm_aload_n (Y := mX12_count) (pc := 71) 0 0 rfl rfl dX12_count_71 ?_
    refine gf_RX12_41 (Y := mX12_count) (pc := 72) (b := 119) rfl ((lk_109 hly) _) (lf_109_14 hly _) dX12_count_72 ?_
    refine sm_iload_n (Y := mX12_count) (pc := 75) 2 3 rfl rfl dX12_count_75 ?_
    obtain ⟨hn_1, h⟩ := h
    refine sm_iald (Y := mX12_count) (pc := 76) (la_119 hly _) hn_1 dX12_count_76 ?_
    refine sm_iadd (Y := mX12_count) (pc := 77) dX12_count_77 ?_
    refine sm_istore_n (Y := mX12_count) (pc := 78) (fun y => [(2, .int y), (0, .ref (sm_B E + 109)), (3, .int x3)]) 2 rfl (by decide) (fun _ => rfl) dX12_count_78 (fun x2_2 ex2_2 => ?_)
    replace h := h x2_2 ex2_2
    refine sm_iinc (Y := mX12_count) (pc := 79) (fun y => [(3, .int y), (2, .int x2_2), (0, .ref (sm_B E + 109))]) 2 3 rfl (by decide) (fun _ => rfl) dX12_count_79 (fun x3_3 ex3_3 => ?_)
    replace h := h x3_3 ex3_3
    refine sm_goto (Y := mX12_count) (pc := 82) 62 (by decide) dX12_count_82 ?_
    refine sm_sub [2, 1, 0] rfl ?_
    exact h
theorem dX12_count_0 : decode cX12_count 0 = .ok (.iconst 0, 1) := dk_iconst_0 (by decide +kernel)
theorem dX12_count_1 : decode cX12_count 1 = .ok (.istore_n 2, 1) := dk_istore_n_2 (by decide +kernel)
theorem dX12_count_2 : decode cX12_count 2 = .ok (.iload_n 1, 1) := dk_iload_n_1 (by decide +kernel)
theorem dX12_count_3 : decode cX12_count 3 = .ok (.tableswitch 89 0 5 #[37, 42, 47, 52, 57, 84], 37) := by decide +kernel
theorem dX12_count_40 : decode cX12_count 40 = .ok (.aload_n 0, 1) := dk_aload_n_0 (by decide +kernel)
theorem dX12_count_41 : decode cX12_count 41 = .ok (.invokevirtual 447, 3) := dk_invokevirtual 447 (b1 := 1) (b2 := 191) (by decide +kernel) (by decide +kernel) (by decide +kernel) (by decide +kernel)
theorem dX12_count_44 : decode cX12_count 44 = .ok (.ireturn, 1) := dk_ireturn (by decide +kernel)
theorem dX12_count_45 : decode cX12_count 45 = .ok (.aload_n 0, 1) := dk_aload_n_0 (by decide +kernel)
theorem wRX12_451 : Cond.methodLink RX12 451 yX12_rationals ∈ sm_T := sm_in 1729 (by decide +kernel) (by decide +kernel)
theorem dX12_count_46 : decode cX12_count 46 = .ok (.invokevirtual 451, 3) := dk_invokevirtual 451 (b1 := 1) (b2 := 195) (by decide +kernel) (by decide +kernel) (by decide +kernel) (by decide +kernel)
theorem dX12_count_49 : decode cX12_count 49 = .ok (.ireturn, 1) := dk_ireturn (by decide +kernel)
theorem dX12_count_50 : decode cX12_count 50 = .ok (.aload_n 0, 1) := dk_aload_n_0 (by decide +kernel)
theorem dX12_count_51 : decode cX12_count 51 = .ok (.getfield 229, 3) := dk_getfield 229 (b1 := 0) (b2 := 229) (by decide +kernel) (by decide +kernel) (by decide +kernel) (by decide +kernel)
theorem dX12_count_54 : decode cX12_count 54 = .ok (.ireturn, 1) := dk_ireturn (by decide +kernel)
theorem dX12_count_55 : decode cX12_count 55 = .ok (.aload_n 0, 1) := dk_aload_n_0 (by decide +kernel)
theorem dX12_count_56 : decode cX12_count 56 = .ok (.getfield 391, 3) := dk_getfield 391 (b1 := 1) (b2 := 135) (by decide +kernel) (by decide +kernel) (by decide +kernel) (by decide +kernel)
theorem dX12_count_59 : decode cX12_count 59 = .ok (.ireturn, 1) := dk_ireturn (by decide +kernel)
theorem dX12_count_60 : decode cX12_count 60 = .ok (.iconst 0, 1) := dk_iconst_0 (by decide +kernel)
theorem dX12_count_61 : decode cX12_count 61 = .ok (.istore_n 3, 1) := dk_istore_n_3 (by decide +kernel)
theorem dX12_count_87 : decode cX12_count 87 = .ok (.aload_n 0, 1) := dk_aload_n_0 (by decide +kernel)
theorem dX12_count_88 : decode cX12_count 88 = .ok (.getfield 28, 3) := dk_getfield 28 (b1 := 0) (b2 := 28) (by decide +kernel) (by decide +kernel) (by decide +kernel) (by decide +kernel)
theorem dX12_count_91 : decode cX12_count 91 = .ok (.ireturn, 1) := dk_ireturn (by decide +kernel)
theorem dX12_count_92 : decode cX12_count 92 = .ok (.aload_n 0, 1) := dk_aload_n_0 (by decide +kernel)
theorem dX12_count_93 : decode cX12_count 93 = .ok (.iconst 1, 1) := dk_iconst_1 (by decide +kernel)
theorem dX12_count_94 : decode cX12_count 94 = .ok (.invokevirtual 194, 3) := dk_invokevirtual 194 (b1 := 0) (b2 := 194) (by decide +kernel) (by decide +kernel) (by decide +kernel) (by decide +kernel)
theorem dX12_count_97 : decode cX12_count 97 = .ok (.ireturn, 1) := dk_ireturn (by decide +kernel)
set_option maxRecDepth 20000 in
theorem vX12_count_0 {E : sm_E} {L : sm_S → Prop} {d : Nat} {x1 : Int32}  {m : sm_M} {Q : Int32 → sm_M → Prop} (hly : ∀ S, L S → ly S) (hd : 5 ≤ d) 
  (h : (x1 = 0 →
      sm_callI E L mX12_allCrossings 4 0 0 [.ref (sm_B E + 109)] m (fun r_3 m_2 =>
      Q r_3 m_2)) ∧
   (x1 = 1 →
      sm_callI E L mX12_rationals 4 0 0 [.ref (sm_B E + 109)] m (fun r_5 m_4 =>
      Q r_5 m_4)) ∧
   (x1 = 2 →
      Q (m.1 109 11) m) ∧
   (x1 = 3 →
      Q (m.1 109 15) m) ∧
   (x1 = 4 →
      gX12_count_62 E L d ([.ref (sm_B E + 109), .int x1]) 0 0 m Q) ∧
   (x1 = 5 →
      Q (m.1 109 7) m) ∧
   ((¬ x1 = 0 ∧ ¬ x1 = 1 ∧ ¬ x1 = 2 ∧ ¬ x1 = 3 ∧ ¬ x1 = 4 ∧ ¬ x1 = 5) →
      sm_callI E L mX12_finds 1 0 0 [.ref (sm_B E + 109), .int 1] m (fun r_8 m_7 =>
   Q r_8 m_7))) :
  sm_callI E L mX12_count d 0 0 [.ref (sm_B E + 109), .int x1] m Q := by
  refine sm_enter (by decide +kernel) (by simp [lg_sl, Value.category]) ?_
  refine sm_iconst (Y := mX12_count) (pc := 0) 0 (by decide) dX12_count_0 ?_
  refine sm_istore0_n (Y := mX12_count) (pc := 1) [(2, .int 0), (0, .ref (sm_B E + 109)), (1, .int x1)] 2 rfl (by decide) rfl dX12_count_1 ?_
  refine sm_iload_n (Y := mX12_count) (pc := 2) 2 1 rfl rfl dX12_count_2 ?_
  by_cases hs3_0 : x1 = 0
  · refine sm_tableIn (Y := mX12_count) (pc := 3) 40 (by rw [hs3_0]; decide) (by rw [hs3_0]; decide) (by first | (rw [hs3_0]; done) | (rw [hs3_0]; rfl)) (by decide) dX12_count_3 ?_
    replace h := h.1 hs3_0
    refine sm_aload_n (Y := mX12_count) (pc := 40) 1 0 rfl rfl dX12_count_40 ?_
    refine sm_iv_I (Y := mX12_count) (pc := 41) (As := []) (a := 109) fX12_allCrossings wRX12_447 (lk_109 hly) (by decide) rfl rfl rfl (Nat.le_trans (by decide) hd) (Nat.le_of_ble_eq_true rfl) ⟨Nat.le_refl _, Nat.le_refl _⟩ dX12_count_41 rfl (sm_monoI h (fun r_3 m_2 h => ?_))
    exact sm_iret (Y := mX12_count) (pc := 44) rfl rfl rfl dX12_count_44 ⟨_, rfl, h⟩
  replace h := h.2
  by_cases hs3_1 : x1 = 1
  · refine sm_tableIn (Y := mX12_count) (pc := 3) 45 (by rw [hs3_1]; decide) (by rw [hs3_1]; decide) (by first | (rw [hs3_1]; done) | (rw [hs3_1]; rfl)) (by decide) dX12_count_3 ?_
    replace h := h.1 hs3_1
    refine sm_aload_n (Y := mX12_count) (pc := 45) 1 0 rfl rfl dX12_count_45 ?_
    refine sm_iv_I (Y := mX12_count) (pc := 46) (As := []) (a := 109) fX12_rationals wRX12_451 (lk_109 hly) (by decide) rfl rfl rfl (Nat.le_trans (by decide) hd) (Nat.le_of_ble_eq_true rfl) ⟨Nat.le_refl _, Nat.le_refl _⟩ dX12_count_46 rfl (sm_monoI h (fun r_5 m_4 h => ?_))
    exact sm_iret (Y := mX12_count) (pc := 49) rfl rfl rfl dX12_count_49 ⟨_, rfl, h⟩
  replace h := h.2
  by_cases hs3_2 : x1 = 2
  · refine sm_tableIn (Y := mX12_count) (pc := 3) 50 (by rw [hs3_2]; decide) (by rw [hs3_2]; decide) (by first | (rw [hs3_2]; done) | (rw [hs3_2]; rfl)) (by decide) dX12_count_3 ?_
    replace h := h.1 hs3_2
    refine sm_aload_n (Y := mX12_count) (pc := 50) 1 0 rfl rfl dX12_count_50 ?_
    refine gf_RX12_229 (Y := mX12_count) (pc := 51) rfl ((lk_109 hly) _) dX12_count_51 ?_
    exact sm_iret (Y := mX12_count) (pc := 54) rfl rfl rfl dX12_count_54 ⟨_, rfl, h⟩
  replace h := h.2
  by_cases hs3_3 : x1 = 3
  · refine sm_tableIn (Y := mX12_count) (pc := 3) 55 (by rw [hs3_3]; decide) (by rw [hs3_3]; decide) (by first | (rw [hs3_3]; done) | (rw [hs3_3]; rfl)) (by decide) dX12_count_3 ?_
    replace h := h.1 hs3_3
    refine sm_aload_n (Y := mX12_count) (pc := 55) 1 0 rfl rfl dX12_count_55 ?_
    refine gf_RX12_391 (Y := mX12_count) (pc := 56) rfl ((lk_109 hly) _) dX12_count_56 ?_
    exact sm_iret (Y := mX12_count) (pc := 59) rfl rfl rfl dX12_count_59 ⟨_, rfl, h⟩
  replace h := h.2
  by_cases hs3_4 : x1 = 4
  · refine sm_tableIn (Y := mX12_count) (pc := 3) 60 (by rw [hs3_4]; decide) (by rw [hs3_4]; decide) (by first | (rw [hs3_4]; done) | (rw [hs3_4]; rfl)) (by decide) dX12_count_3 ?_
    replace h := h.1 hs3_4
    refine sm_iconst (Y := mX12_count) (pc := 60) 0 (by decide) dX12_count_60 ?_
    refine sm_istore0_n (Y := mX12_count) (pc := 61) [(3, .int 0), (2, .int 0), (0, .ref (sm_B E + 109)), (1, .int x1)] 3 rfl (by decide) rfl dX12_count_61 ?_
    refine sm_sub [2, 1, 0] rfl ?_
    exact h
  replace h := h.2
  by_cases hs3_5 : x1 = 5
  · refine sm_tableIn (Y := mX12_count) (pc := 3) 87 (by rw [hs3_5]; decide) (by rw [hs3_5]; decide) (by first | (rw [hs3_5]; done) | (rw [hs3_5]; rfl)) (by decide) dX12_count_3 ?_
    replace h := h.1 hs3_5
    refine sm_aload_n (Y := mX12_count) (pc := 87) 1 0 rfl rfl dX12_count_87 ?_
    refine gf_RX12_28 (Y := mX12_count) (pc := 88) rfl ((lk_109 hly) _) dX12_count_88 ?_
    exact sm_iret (Y := mX12_count) (pc := 91) rfl rfl rfl dX12_count_91 ⟨_, rfl, h⟩
  replace h := h.2
  refine sm_tableOut (Y := mX12_count) (pc := 3) 92 (sm_tout (lo := 0) 6 (fun j hj => by
      match j, hj with
      | 0, _ => exact lv_neT hs3_0 (by decide)
      | 1, _ => exact lv_neT hs3_1 (by decide)
      | 2, _ => exact lv_neT hs3_2 (by decide)
      | 3, _ => exact lv_neT hs3_3 (by decide)
      | 4, _ => exact lv_neT hs3_4 (by decide)
      | 5, _ => exact lv_neT hs3_5 (by decide)
      | j + 6, hj => exact absurd hj (by omega))) (by decide) dX12_count_3 ?_
  replace h := h ⟨hs3_0, hs3_1, hs3_2, hs3_3, hs3_4, hs3_5⟩
  refine sm_aload_n (Y := mX12_count) (pc := 92) 1 0 rfl rfl dX12_count_92 ?_
  refine sm_iconst (Y := mX12_count) (pc := 93) 1 (by decide) dX12_count_93 ?_
  refine sm_iv_I (Y := mX12_count) (pc := 94) (As := [.int 1]) (a := 109) fX12_finds wRX12_194 (lk_109 hly) (by decide) rfl rfl rfl (Nat.le_trans (by decide) hd) (Nat.le_of_ble_eq_true rfl) ⟨Nat.le_refl _, Nat.le_refl _⟩ dX12_count_94 rfl (sm_monoI h (fun r_8 m_7 h => ?_))
  exact sm_iret (Y := mX12_count) (pc := 97) rfl rfl rfl dX12_count_97 ⟨_, rfl, h⟩
abbrev mX12_told : sm_Y := (yX12_told, cX12_told, 2, (some FieldType.int))
theorem fX12_told : sm_mi mX12_told RX12 1 := ⟨sm_in 1736 (by decide +kernel) (by decide +kernel), sm_in 1734 (by decide +kernel) (by decide +kernel), sm_in 1735 (by decide +kernel) (by decide +kernel), sm_in 93 (by decide +kernel) (by decide +kernel), rfl, ⟨by decide +kernel, by decide +kernel, by decide +kernel⟩, by decide⟩
theorem dX12_told_0 : decode cX12_told 0 = .ok (.iload_n 1, 1) := dk_iload_n_1 (by decide +kernel)
theorem dX12_told_1 : decode cX12_told 1 = .ok (.i2l, 1) := dk_i2l (by decide +kernel)
theorem dX12_told_2 : decode cX12_told 2 = .ok (.lconst 1, 1) := dk_lconst_1 (by decide +kernel)
theorem dX12_told_3 : decode cX12_told 3 = .ok (.ldc2_w 376, 3) := dk_ldc2_w 376 (b1 := 1) (b2 := 120) (by decide +kernel) (by decide +kernel) (by decide +kernel) (by decide +kernel)
theorem dX12_told_6 : decode cX12_told 6 = .ok (.invokestatic 190, 3) := dk_invokestatic 190 (b1 := 0) (b2 := 190) (by decide +kernel) (by decide +kernel) (by decide +kernel) (by decide +kernel)
theorem dX12_told_9 : decode cX12_told 9 = .ok (.ifCond .eq 12, 3) := dk_ifCond_eq 12 (b1 := 0) (b2 := 12) (by decide +kernel) (by decide +kernel) (by decide +kernel) (by decide +kernel)
theorem dX12_told_21 : decode cX12_told 21 = .ok (.aload_n 0, 1) := dk_aload_n_0 (by decide +kernel)
theorem dX12_told_22 : decode cX12_told 22 = .ok (.iconst 1, 1) := dk_iconst_1 (by decide +kernel)
theorem dX12_told_23 : decode cX12_told 23 = .ok (.invokevirtual 194, 3) := dk_invokevirtual 194 (b1 := 0) (b2 := 194) (by decide +kernel) (by decide +kernel) (by decide +kernel) (by decide +kernel)
theorem dX12_told_26 : decode cX12_told 26 = .ok (.ireturn, 1) := dk_ireturn (by decide +kernel)
theorem dX12_told_12 : decode cX12_told 12 = .ok (.aload_n 0, 1) := dk_aload_n_0 (by decide +kernel)
theorem dX12_told_13 : decode cX12_told 13 = .ok (.getfield 7, 3) := dk_getfield 7 (b1 := 0) (b2 := 7) (by decide +kernel) (by decide +kernel) (by decide +kernel) (by decide +kernel)
theorem dX12_told_16 : decode cX12_told 16 = .ok (.iload_n 1, 1) := dk_iload_n_1 (by decide +kernel)
theorem dX12_told_17 : decode cX12_told 17 = .ok (.iaload, 1) := dk_iaload (by decide +kernel)
theorem dX12_told_18 : decode cX12_told 18 = .ok (.goto 8, 3) := dk_goto 8 (b1 := 0) (b2 := 8) (by decide +kernel) (by decide +kernel) (by decide +kernel) (by decide +kernel)
set_option maxRecDepth 20000 in
theorem vX12_told_0 {E : sm_E} {L : sm_S → Prop} {d : Nat} {x1 : Int32}  {m : sm_M} {Q : Int32 → sm_M → Prop} (hly : ∀ S, L S → ly S) (hd : 2 ≤ d) 
  (h : sm_callI E L mX12_isIn 1 0 0 [.long (x1.toInt64), .long 1, .long 6] m (fun r_2 m_1 =>
   (r_2 = 0 →
      sm_callI E L mX12_finds 1 0 0 [.ref (sm_B E + 109), .int 1] m_1 (fun r_4 m_3 =>
      Q r_4 m_3)) ∧
   (¬ r_2 = 0 →
      (vp_in x1 7) ∧ Q (m_1.1 110 x1.toNatClampNeg) m_1))) :
  sm_callI E L mX12_told d 0 0 [.ref (sm_B E + 109), .int x1] m Q := by
  refine sm_enter (by decide +kernel) (by simp [lg_sl, Value.category]) ?_
  refine sm_iload_n (Y := mX12_told) (pc := 0) 1 1 rfl rfl dX12_told_0 ?_
  refine sm_i2l (Y := mX12_told) (pc := 1) dX12_told_1 ?_
  refine sm_lconst (Y := mX12_told) (pc := 2) 1 (by decide) dX12_told_2 ?_
  refine sm_ldc2_w (Y := mX12_told) (pc := 3) 6 wRX12_376 dX12_told_3 ?_
  refine sm_is_I (Y := mX12_told) (pc := 6) (As := [.long (x1.toInt64), .long 1, .long 6]) fX12_isIn wRX12_190 rfl (Nat.le_trans (by decide) hd) (Nat.le_of_ble_eq_true rfl) ⟨Nat.le_refl _, Nat.le_refl _⟩ dX12_told_6 rfl (sm_monoI h (fun r_2 m_1 h => ?_))
  refine sm_if_eq (Y := mX12_told) (pc := 9) 21 (by decide) dX12_told_9 (fun hc => ?_) (fun hc => ?_)
  · replace h := h.1 hc
    refine sm_aload_n (Y := mX12_told) (pc := 21) 0 0 rfl rfl dX12_told_21 ?_
    refine sm_iconst (Y := mX12_told) (pc := 22) 1 (by decide) dX12_told_22 ?_
    refine sm_iv_I (Y := mX12_told) (pc := 23) (As := [.int 1]) (a := 109) fX12_finds wRX12_194 (lk_109 hly) (by decide) rfl rfl rfl (Nat.le_trans (by decide) hd) (Nat.le_of_ble_eq_true rfl) ⟨Nat.le_refl _, Nat.le_refl _⟩ dX12_told_23 rfl (sm_monoI h (fun r_4 m_3 h => ?_))
    exact sm_iret (Y := mX12_told) (pc := 26) rfl rfl rfl dX12_told_26 ⟨_, rfl, h⟩
  · replace h := h.2 hc
    refine sm_aload_n (Y := mX12_told) (pc := 12) 0 0 rfl rfl dX12_told_12 ?_
    refine gf_RX12_7 (Y := mX12_told) (pc := 13) (b := 110) rfl ((lk_109 hly) _) (lf_109_0 hly _) dX12_told_13 ?_
    refine sm_iload_n (Y := mX12_told) (pc := 16) 1 1 rfl rfl dX12_told_16 ?_
    obtain ⟨hn_5, h⟩ := h
    refine sm_iald (Y := mX12_told) (pc := 17) (la_110 hly _) hn_5 dX12_told_17 ?_
    refine sm_goto (Y := mX12_told) (pc := 18) 26 (by decide) dX12_told_18 ?_
    exact sm_iret (Y := mX12_told) (pc := 26) rfl rfl rfl dX12_told_26 ⟨_, rfl, h⟩
