abbrev mX4_measure : sm_Y := (yX4_measure, cX4_measure, 4, none)
theorem fX4_measure : sm_mi mX4_measure RX4 1 := ⟨sm_in 459 (by decide +kernel) (by decide +kernel), sm_in 457 (by decide +kernel) (by decide +kernel), sm_in 458 (by decide +kernel) (by decide +kernel), sm_in 85 (by decide +kernel) (by decide +kernel), rfl, ⟨by decide +kernel, by decide +kernel, by decide +kernel⟩, by decide⟩
def gX4_measure_48 (E : sm_E) (L : sm_S → Prop) (d : Nat) (vs : List Value) (a1 : Nat) (x2 : Int32) (x3 : Int32) (m : sm_M) (Q : sm_M → Prop) : Prop := sm_go E L mX4_measure d 0 0 vs 48 [(0, .ref (sm_B E + 5)), (1, .ref (sm_B E + a1)), (2, .int x2), (3, .int x3)] [] m 0 0 (sm_Z E L vs 0 0 (sm_QV Q))
def gX4_measure_7 (E : sm_E) (L : sm_S → Prop) (d : Nat) (vs : List Value) (a1 : Nat) (x2 : Int32) (m : sm_M) (Q : sm_M → Prop) : Prop := sm_go E L mX4_measure d 0 0 vs 7 [(0, .ref (sm_B E + 5)), (1, .ref (sm_B E + a1)), (2, .int x2)] [] m 0 0 (sm_Z E L vs 0 0 (sm_QV Q))
theorem dX4_measure_48 : decode cX4_measure 48 = .ok (.aload_n 0, 1) := dk_aload_n_0 (by decide +kernel)
theorem dX4_measure_49 : decode cX4_measure 49 = .ok (.iload_n 3, 1) := dk_iload_n_3 (by decide +kernel)
theorem dX4_measure_50 : decode cX4_measure 50 = .ok (.bipush 11, 2) := dk_bipush 11 (b := 11) (by decide +kernel) (by decide +kernel) (by decide +kernel)
theorem dX4_measure_52 : decode cX4_measure 52 = .ok (.if_icmp .ne 7, 3) := dk_if_icmp_ne 7 (b1 := 0) (b2 := 7) (by decide +kernel) (by decide +kernel) (by decide +kernel) (by decide +kernel)
theorem dX4_measure_59 : decode cX4_measure 59 = .ok (.iconst 0, 1) := dk_iconst_0 (by decide +kernel)
theorem wRX4_41 : Cond.methodLink RX4 41 yX4_combine ∈ sm_T := sm_in 464 (by decide +kernel) (by decide +kernel)
abbrev mX4_combine : sm_Y := (yX4_combine, cX4_combine, 9, none)
theorem fX4_combine : sm_mi mX4_combine RX4 1 := ⟨sm_in 467 (by decide +kernel) (by decide +kernel), sm_in 466 (by decide +kernel) (by decide +kernel), sm_in 2 (by decide +kernel) (by decide +kernel), sm_in 85 (by decide +kernel) (by decide +kernel), rfl, ⟨by decide +kernel, by decide +kernel, by decide +kernel⟩, by decide⟩
theorem dX4_measure_60 : decode cX4_measure 60 = .ok (.invokevirtual 41, 3) := dk_invokevirtual 41 (b1 := 0) (b2 := 41) (by decide +kernel) (by decide +kernel) (by decide +kernel) (by decide +kernel)
theorem dX4_measure_63 : decode cX4_measure 63 = .ok (.goto 18, 3) := dk_goto 18 (b1 := 0) (b2 := 18) (by decide +kernel) (by decide +kernel) (by decide +kernel) (by decide +kernel)
theorem dX4_measure_81 : decode cX4_measure 81 = .ok (.iinc 2 1, 3) := dk_iinc 2 1 (b1 := 2) (b2 := 1) (by decide +kernel) (by decide +kernel) (by decide +kernel) (by decide +kernel) (by decide +kernel)
theorem dX4_measure_84 : decode cX4_measure 84 = .ok (.goto (-77), 3) := dk_goto (-77) (b1 := 255) (b2 := 179) (by decide +kernel) (by decide +kernel) (by decide +kernel) (by decide +kernel)
theorem dX4_measure_55 : decode cX4_measure 55 = .ok (.iconst 1, 1) := dk_iconst_1 (by decide +kernel)
theorem dX4_measure_56 : decode cX4_measure 56 = .ok (.goto 4, 3) := dk_goto 4 (b1 := 0) (b2 := 4) (by decide +kernel) (by decide +kernel) (by decide +kernel) (by decide +kernel)
set_option maxRecDepth 20000 in
theorem vX4_measure_48 {E : sm_E} {L : sm_S → Prop} {d : Nat} {vs : List Value} {a1 : Nat} {x2 : Int32} {x3 : Int32} {na1 : Nat} {m : sm_M} {Q : sm_M → Prop} (hly : ∀ S, L S → ly S) (hd : 4 ≤ d) (hTa1 : sm_tan L a1 na1)
  (h : (¬ x3 = 11 →
      sm_callV E L mX4_combine 2 0 0 [.ref (sm_B E + 5), .int 0] m (fun m_1 =>
      ∀ x2_2 : Int32, x2_2 = x2 + 1 →
      gX4_measure_7 E L d vs a1 x2_2 m_1 Q)) ∧
   (x3 = 11 →
      sm_callV E L mX4_combine 2 0 0 [.ref (sm_B E + 5), .int 1] m (fun m_3 =>
      ∀ x2_4 : Int32, x2_4 = x2 + 1 →
      gX4_measure_7 E L d vs a1 x2_4 m_3 Q))) :
  gX4_measure_48 E L d vs a1 x2 x3 m Q := by
  refine sm_aload_n (Y := mX4_measure) (pc := 48) 0 0 rfl rfl dX4_measure_48 ?_
  refine sm_iload_n (Y := mX4_measure) (pc := 49) 3 3 rfl rfl dX4_measure_49 ?_
  refine sm_bipush (Y := mX4_measure) (pc := 50) 11 (by decide) dX4_measure_50 ?_
  refine sm_icmp_ne (Y := mX4_measure) (pc := 52) 59 (by decide) dX4_measure_52 (fun hc => ?_) (fun hc => ?_)
  · replace h := h.1 hc
    refine sm_iconst (Y := mX4_measure) (pc := 59) 0 (by decide) dX4_measure_59 ?_
    refine sm_iv_V (Y := mX4_measure) (pc := 60) (As := [.int 0]) (a := 5) fX4_combine wRX4_41 (lk_5 hly) (by decide) rfl rfl rfl (Nat.le_trans (by decide) hd) (Nat.le_of_ble_eq_true rfl) ⟨Nat.le_refl _, Nat.le_refl _⟩ dX4_measure_60 rfl (sm_monoV h (fun m_1 h => ?_))
    refine sm_goto (Y := mX4_measure) (pc := 63) 81 (by decide) dX4_measure_63 ?_
    refine sm_iinc (Y := mX4_measure) (pc := 81) (fun y => [(2, .int y), (0, .ref (sm_B E + 5)), (1, .ref (sm_B E + a1)), (3, .int x3)]) 2 2 rfl (by decide) (fun _ => rfl) dX4_measure_81 (fun x2_2 ex2_2 => ?_)
    replace h := h x2_2 ex2_2
    refine sm_goto (Y := mX4_measure) (pc := 84) 7 (by decide) dX4_measure_84 ?_
    refine sm_sub [1, 2, 0] rfl ?_
    exact h
  · replace h := h.2 hc
    refine sm_iconst (Y := mX4_measure) (pc := 55) 1 (by decide) dX4_measure_55 ?_
    refine sm_goto (Y := mX4_measure) (pc := 56) 60 (by decide) dX4_measure_56 ?_
    refine sm_iv_V (Y := mX4_measure) (pc := 60) (As := [.int 1]) (a := 5) fX4_combine wRX4_41 (lk_5 hly) (by decide) rfl rfl rfl (Nat.le_trans (by decide) hd) (Nat.le_of_ble_eq_true rfl) ⟨Nat.le_refl _, Nat.le_refl _⟩ dX4_measure_60 rfl (sm_monoV h (fun m_3 h => ?_))
    refine sm_goto (Y := mX4_measure) (pc := 63) 81 (by decide) dX4_measure_63 ?_
    refine sm_iinc (Y := mX4_measure) (pc := 81) (fun y => [(2, .int y), (0, .ref (sm_B E + 5)), (1, .ref (sm_B E + a1)), (3, .int x3)]) 2 2 rfl (by decide) (fun _ => rfl) dX4_measure_81 (fun x2_4 ex2_4 => ?_)
    replace h := h x2_4 ex2_4
    refine sm_goto (Y := mX4_measure) (pc := 84) 7 (by decide) dX4_measure_84 ?_
    refine sm_sub [1, 2, 0] rfl ?_
    exact h
theorem dX4_measure_7 : decode cX4_measure 7 = .ok (.iload_n 2, 1) := dk_iload_n_2 (by decide +kernel)
theorem dX4_measure_8 : decode cX4_measure 8 = .ok (.aload_n 1, 1) := dk_aload_n_1 (by decide +kernel)
theorem dX4_measure_9 : decode cX4_measure 9 = .ok (.getfield 29, 3) := dk_getfield 29 (b1 := 0) (b2 := 29) (by decide +kernel) (by decide +kernel) (by decide +kernel) (by decide +kernel)
theorem dX4_measure_12 : decode cX4_measure 12 = .ok (.if_icmp .ge 75, 3) := dk_if_icmp_ge 75 (b1 := 0) (b2 := 75) (by decide +kernel) (by decide +kernel) (by decide +kernel) (by decide +kernel)
theorem dX4_measure_87 : decode cX4_measure 87 = .ok (.aload_n 1, 1) := dk_aload_n_1 (by decide +kernel)
theorem dX4_measure_88 : decode cX4_measure 88 = .ok (.aload_n 0, 1) := dk_aload_n_0 (by decide +kernel)
theorem dX4_measure_89 : decode cX4_measure 89 = .ok (.getfield 9, 3) := dk_getfield 9 (b1 := 0) (b2 := 9) (by decide +kernel) (by decide +kernel) (by decide +kernel) (by decide +kernel)
theorem dX4_measure_92 : decode cX4_measure 92 = .ok (.iconst 0, 1) := dk_iconst_0 (by decide +kernel)
theorem dX4_measure_93 : decode cX4_measure 93 = .ok (.iaload, 1) := dk_iaload (by decide +kernel)
theorem dX4_measure_94 : decode cX4_measure 94 = .ok (.putfield 48, 3) := dk_putfield 48 (b1 := 0) (b2 := 48) (by decide +kernel) (by decide +kernel) (by decide +kernel) (by decide +kernel)
theorem dX4_measure_97 : decode cX4_measure 97 = .ok (.aload_n 1, 1) := dk_aload_n_1 (by decide +kernel)
theorem dX4_measure_98 : decode cX4_measure 98 = .ok (.aload_n 0, 1) := dk_aload_n_0 (by decide +kernel)
theorem dX4_measure_99 : decode cX4_measure 99 = .ok (.getfield 15, 3) := dk_getfield 15 (b1 := 0) (b2 := 15) (by decide +kernel) (by decide +kernel) (by decide +kernel) (by decide +kernel)
theorem dX4_measure_102 : decode cX4_measure 102 = .ok (.iconst 0, 1) := dk_iconst_0 (by decide +kernel)
theorem dX4_measure_103 : decode cX4_measure 103 = .ok (.iaload, 1) := dk_iaload (by decide +kernel)
theorem dX4_measure_104 : decode cX4_measure 104 = .ok (.putfield 51, 3) := dk_putfield 51 (b1 := 0) (b2 := 51) (by decide +kernel) (by decide +kernel) (by decide +kernel) (by decide +kernel)
theorem dX4_measure_107 : decode cX4_measure 107 = .ok (.aload_n 1, 1) := dk_aload_n_1 (by decide +kernel)
theorem dX4_measure_108 : decode cX4_measure 108 = .ok (.aload_n 0, 1) := dk_aload_n_0 (by decide +kernel)
theorem dX4_measure_109 : decode cX4_measure 109 = .ok (.getfield 18, 3) := dk_getfield 18 (b1 := 0) (b2 := 18) (by decide +kernel) (by decide +kernel) (by decide +kernel) (by decide +kernel)
theorem dX4_measure_112 : decode cX4_measure 112 = .ok (.iconst 0, 1) := dk_iconst_0 (by decide +kernel)
theorem dX4_measure_113 : decode cX4_measure 113 = .ok (.iaload, 1) := dk_iaload (by decide +kernel)
theorem dX4_measure_114 : decode cX4_measure 114 = .ok (.putfield 54, 3) := dk_putfield 54 (b1 := 0) (b2 := 54) (by decide +kernel) (by decide +kernel) (by decide +kernel) (by decide +kernel)
theorem dX4_measure_117 : decode cX4_measure 117 = .ok (.aload_n 1, 1) := dk_aload_n_1 (by decide +kernel)
theorem dX4_measure_118 : decode cX4_measure 118 = .ok (.aload_n 0, 1) := dk_aload_n_0 (by decide +kernel)
theorem dX4_measure_119 : decode cX4_measure 119 = .ok (.getfield 21, 3) := dk_getfield 21 (b1 := 0) (b2 := 21) (by decide +kernel) (by decide +kernel) (by decide +kernel) (by decide +kernel)
theorem dX4_measure_122 : decode cX4_measure 122 = .ok (.iconst 0, 1) := dk_iconst_0 (by decide +kernel)
theorem dX4_measure_123 : decode cX4_measure 123 = .ok (.baload, 1) := dk_baload (by decide +kernel)
theorem dX4_measure_124 : decode cX4_measure 124 = .ok (.putfield 57, 3) := dk_putfield 57 (b1 := 0) (b2 := 57) (by decide +kernel) (by decide +kernel) (by decide +kernel) (by decide +kernel)
theorem dX4_measure_127 : decode cX4_measure 127 = .ok (.aload_n 1, 1) := dk_aload_n_1 (by decide +kernel)
theorem wRX4_61 : Cond.methodLink RX4 61 yX4_reduce ∈ sm_T := sm_in 476 (by decide +kernel) (by decide +kernel)
abbrev mX4_reduce : sm_Y := (yX4_reduce, cX4_reduce, 4, none)
theorem fX4_reduce : sm_mt mX4_reduce 1 := ⟨sm_in 478 (by decide +kernel) (by decide +kernel), sm_in 477 (by decide +kernel) (by decide +kernel), sm_in 85 (by decide +kernel) (by decide +kernel), ⟨by decide +kernel, by decide +kernel, by decide +kernel⟩, by decide⟩
theorem dX4_measure_128 : decode cX4_measure 128 = .ok (.invokestatic 61, 3) := dk_invokestatic 61 (b1 := 0) (b2 := 61) (by decide +kernel) (by decide +kernel) (by decide +kernel) (by decide +kernel)
theorem dX4_measure_131 : decode cX4_measure 131 = .ok (.return_, 1) := dk_return_ (by decide +kernel)
theorem dX4_measure_15 : decode cX4_measure 15 = .ok (.aload_n 1, 1) := dk_aload_n_1 (by decide +kernel)
theorem dX4_measure_16 : decode cX4_measure 16 = .ok (.getfield 34, 3) := dk_getfield 34 (b1 := 0) (b2 := 34) (by decide +kernel) (by decide +kernel) (by decide +kernel) (by decide +kernel)
theorem dX4_measure_19 : decode cX4_measure 19 = .ok (.iload_n 2, 1) := dk_iload_n_2 (by decide +kernel)
theorem dX4_measure_20 : decode cX4_measure 20 = .ok (.iaload, 1) := dk_iaload (by decide +kernel)
theorem dX4_measure_21 : decode cX4_measure 21 = .ok (.istore_n 3, 1) := dk_istore_n_3 (by decide +kernel)
theorem dX4_measure_22 : decode cX4_measure 22 = .ok (.iload_n 3, 1) := dk_iload_n_3 (by decide +kernel)
theorem dX4_measure_23 : decode cX4_measure 23 = .ok (.bipush 10, 2) := dk_bipush 10 (b := 10) (by decide +kernel) (by decide +kernel) (by decide +kernel)
theorem dX4_measure_25 : decode cX4_measure 25 = .ok (.if_icmp .gt 11, 3) := dk_if_icmp_gt 11 (b1 := 0) (b2 := 11) (by decide +kernel) (by decide +kernel) (by decide +kernel) (by decide +kernel)
theorem dX4_measure_36 : decode cX4_measure 36 = .ok (.iload_n 3, 1) := dk_iload_n_3 (by decide +kernel)
theorem dX4_measure_37 : decode cX4_measure 37 = .ok (.bipush 11, 2) := dk_bipush 11 (b := 11) (by decide +kernel) (by decide +kernel) (by decide +kernel)
theorem dX4_measure_39 : decode cX4_measure 39 = .ok (.if_icmp .eq 9, 3) := dk_if_icmp_eq 9 (b1 := 0) (b2 := 9) (by decide +kernel) (by decide +kernel) (by decide +kernel) (by decide +kernel)
theorem dX4_measure_42 : decode cX4_measure 42 = .ok (.iload_n 3, 1) := dk_iload_n_3 (by decide +kernel)
theorem dX4_measure_43 : decode cX4_measure 43 = .ok (.bipush 12, 2) := dk_bipush 12 (b := 12) (by decide +kernel) (by decide +kernel) (by decide +kernel)
theorem dX4_measure_45 : decode cX4_measure 45 = .ok (.if_icmp .ne 21, 3) := dk_if_icmp_ne 21 (b1 := 0) (b2 := 21) (by decide +kernel) (by decide +kernel) (by decide +kernel) (by decide +kernel)
theorem dX4_measure_66 : decode cX4_measure 66 = .ok (.aload_n 0, 1) := dk_aload_n_0 (by decide +kernel)
theorem dX4_measure_67 : decode cX4_measure 67 = .ok (.iload_n 3, 1) := dk_iload_n_3 (by decide +kernel)
theorem dX4_measure_68 : decode cX4_measure 68 = .ok (.bipush 13, 2) := dk_bipush 13 (b := 13) (by decide +kernel) (by decide +kernel) (by decide +kernel)
theorem dX4_measure_70 : decode cX4_measure 70 = .ok (.if_icmp .ne 7, 3) := dk_if_icmp_ne 7 (b1 := 0) (b2 := 7) (by decide +kernel) (by decide +kernel) (by decide +kernel) (by decide +kernel)
theorem dX4_measure_77 : decode cX4_measure 77 = .ok (.iconst 0, 1) := dk_iconst_0 (by decide +kernel)
theorem wRX4_45 : Cond.methodLink RX4 45 yX4_alter ∈ sm_T := sm_in 472 (by decide +kernel) (by decide +kernel)
abbrev mX4_alter : sm_Y := (yX4_alter, cX4_alter, 4, none)
theorem fX4_alter : sm_mi mX4_alter RX4 1 := ⟨sm_in 475 (by decide +kernel) (by decide +kernel), sm_in 474 (by decide +kernel) (by decide +kernel), sm_in 3 (by decide +kernel) (by decide +kernel), sm_in 85 (by decide +kernel) (by decide +kernel), rfl, ⟨by decide +kernel, by decide +kernel, by decide +kernel⟩, by decide⟩
theorem dX4_measure_78 : decode cX4_measure 78 = .ok (.invokevirtual 45, 3) := dk_invokevirtual 45 (b1 := 0) (b2 := 45) (by decide +kernel) (by decide +kernel) (by decide +kernel) (by decide +kernel)
theorem dX4_measure_73 : decode cX4_measure 73 = .ok (.iconst 1, 1) := dk_iconst_1 (by decide +kernel)
theorem dX4_measure_74 : decode cX4_measure 74 = .ok (.goto 4, 3) := dk_goto 4 (b1 := 0) (b2 := 4) (by decide +kernel) (by decide +kernel) (by decide +kernel) (by decide +kernel)
theorem dX4_measure_28 : decode cX4_measure 28 = .ok (.aload_n 0, 1) := dk_aload_n_0 (by decide +kernel)
theorem dX4_measure_29 : decode cX4_measure 29 = .ok (.iload_n 3, 1) := dk_iload_n_3 (by decide +kernel)
theorem wRX4_37 : Cond.methodLink RX4 37 yX4_push ∈ sm_T := sm_in 460 (by decide +kernel) (by decide +kernel)
abbrev mX4_push : sm_Y := (yX4_push, cX4_push, 2, none)
theorem fX4_push : sm_mi mX4_push RX4 1 := ⟨sm_in 463 (by decide +kernel) (by decide +kernel), sm_in 462 (by decide +kernel) (by decide +kernel), sm_in 1 (by decide +kernel) (by decide +kernel), sm_in 85 (by decide +kernel) (by decide +kernel), rfl, ⟨by decide +kernel, by decide +kernel, by decide +kernel⟩, by decide⟩
theorem dX4_measure_30 : decode cX4_measure 30 = .ok (.invokevirtual 37, 3) := dk_invokevirtual 37 (b1 := 0) (b2 := 37) (by decide +kernel) (by decide +kernel) (by decide +kernel) (by decide +kernel)
theorem dX4_measure_33 : decode cX4_measure 33 = .ok (.goto 48, 3) := dk_goto 48 (b1 := 0) (b2 := 48) (by decide +kernel) (by decide +kernel) (by decide +kernel) (by decide +kernel)
set_option maxRecDepth 20000 in
theorem vX4_measure_7 {E : sm_E} {L : sm_S → Prop} {d : Nat} {vs : List Value} {a1 : Nat} {x2 : Int32} {na1 : Nat} {m : sm_M} {Q : sm_M → Prop} (hly : ∀ S, L S → ly S) (hd : 4 ≤ d) (hTa1 : sm_tan L a1 na1)
  (h : ((m.1 a1 1) ≤ x2 →
      ∀ m_1 : sm_M, m_1 = sm_wI m a1 4 (m.1 6 (0 : Int32).toNatClampNeg) →
      ∀ m_2 : sm_M, m_2 = sm_wI m_1 a1 5 (m_1.1 7 (0 : Int32).toNatClampNeg) →
      ∀ m_3 : sm_M, m_3 = sm_wI m_2 a1 6 (m_2.1 8 (0 : Int32).toNatClampNeg) →
      ((m_3.1 9 (0 : Int32).toNatClampNeg) = 0 ∨ (m_3.1 9 (0 : Int32).toNatClampNeg) = 1) ∧ ∀ m_4 : sm_M, m_4 = sm_wI m_3 a1 7 (m_3.1 9 (0 : Int32).toNatClampNeg) →
      sm_callV E L mX4_reduce 3 0 0 [.ref (sm_B E + a1)] m_4 (fun m_6 =>
      Q m_6)) ∧
   (¬ (m.1 a1 1) ≤ x2 →
      (vp_in x2 na1) ∧ ∀ x3_8 : Int32, x3_8 = m.1 (a1 + 1) x2.toNatClampNeg →
      (10 < x3_8 →
         (x3_8 = 11 →
            gX4_measure_48 E L d vs a1 x2 x3_8 m Q) ∧
         (¬ x3_8 = 11 →
            (¬ x3_8 = 12 →
               (¬ x3_8 = 13 →
                  sm_callV E L mX4_alter 1 0 0 [.ref (sm_B E + 5), .int 0] m (fun m_9 =>
                  ∀ x2_10 : Int32, x2_10 = x2 + 1 →
                  gX4_measure_7 E L d vs a1 x2_10 m_9 Q)) ∧
               (x3_8 = 13 →
                  sm_callV E L mX4_alter 1 0 0 [.ref (sm_B E + 5), .int 1] m (fun m_11 =>
                  ∀ x2_12 : Int32, x2_12 = x2 + 1 →
                  gX4_measure_7 E L d vs a1 x2_12 m_11 Q))) ∧
            (x3_8 = 12 →
               gX4_measure_48 E L d vs a1 x2 x3_8 m Q))) ∧
      (¬ 10 < x3_8 →
         sm_callV E L mX4_push 1 0 0 [.ref (sm_B E + 5), .int x3_8] m (fun m_13 =>
         ∀ x2_14 : Int32, x2_14 = x2 + 1 →
         gX4_measure_7 E L d vs a1 x2_14 m_13 Q)))) :
  gX4_measure_7 E L d vs a1 x2 m Q := by
  refine sm_iload_n (Y := mX4_measure) (pc := 7) 2 2 rfl rfl dX4_measure_7 ?_
  refine sm_aload_n (Y := mX4_measure) (pc := 8) 1 1 rfl rfl dX4_measure_8 ?_
  refine gf_RX4_29 (Y := mX4_measure) (pc := 9) rfl ((fun S hS => (hTa1 S hS).1) _) dX4_measure_9 ?_
  refine sm_icmp_ge (Y := mX4_measure) (pc := 12) 87 (by decide) dX4_measure_12 (fun hc => ?_) (fun hc => ?_)
  · replace h := h.1 hc
    refine sm_aload_n (Y := mX4_measure) (pc := 87) 1 1 rfl rfl dX4_measure_87 ?_
    refine sm_aload_n (Y := mX4_measure) (pc := 88) 0 0 rfl rfl dX4_measure_88 ?_
    refine gf_RX4_9 (Y := mX4_measure) (pc := 89) (b := 6) rfl ((lk_5 hly) _) (lf_5_0 hly _) dX4_measure_89 ?_
    refine sm_iconst (Y := mX4_measure) (pc := 92) 0 (by decide) dX4_measure_92 ?_
    refine sm_iald (Y := mX4_measure) (pc := 93) (la_6 hly _) (sm_lin (by decide)) dX4_measure_93 ?_
    refine pf_RX4_48 (Y := mX4_measure) (pc := 94) rfl ((fun S hS => (hTa1 S hS).1) _) dX4_measure_94 (fun m_1 em_1 => ?_)
    replace h := h m_1 em_1
    refine sm_aload_n (Y := mX4_measure) (pc := 97) 1 1 rfl rfl dX4_measure_97 ?_
    refine sm_aload_n (Y := mX4_measure) (pc := 98) 0 0 rfl rfl dX4_measure_98 ?_
    refine gf_RX4_15 (Y := mX4_measure) (pc := 99) (b := 7) rfl ((lk_5 hly) _) (lf_5_1 hly _) dX4_measure_99 ?_
    refine sm_iconst (Y := mX4_measure) (pc := 102) 0 (by decide) dX4_measure_102 ?_
    refine sm_iald (Y := mX4_measure) (pc := 103) (la_7 hly _) (sm_lin (by decide)) dX4_measure_103 ?_
    refine pf_RX4_51 (Y := mX4_measure) (pc := 104) rfl ((fun S hS => (hTa1 S hS).1) _) dX4_measure_104 (fun m_2 em_2 => ?_)
    replace h := h m_2 em_2
    refine sm_aload_n (Y := mX4_measure) (pc := 107) 1 1 rfl rfl dX4_measure_107 ?_
    refine sm_aload_n (Y := mX4_measure) (pc := 108) 0 0 rfl rfl dX4_measure_108 ?_
    refine gf_RX4_18 (Y := mX4_measure) (pc := 109) (b := 8) rfl ((lk_5 hly) _) (lf_5_2 hly _) dX4_measure_109 ?_
    refine sm_iconst (Y := mX4_measure) (pc := 112) 0 (by decide) dX4_measure_112 ?_
    refine sm_iald (Y := mX4_measure) (pc := 113) (la_8 hly _) (sm_lin (by decide)) dX4_measure_113 ?_
    refine pf_RX4_54 (Y := mX4_measure) (pc := 114) rfl ((fun S hS => (hTa1 S hS).1) _) dX4_measure_114 (fun m_3 em_3 => ?_)
    replace h := h m_3 em_3
    refine sm_aload_n (Y := mX4_measure) (pc := 117) 1 1 rfl rfl dX4_measure_117 ?_
    refine sm_aload_n (Y := mX4_measure) (pc := 118) 0 0 rfl rfl dX4_measure_118 ?_
    refine gf_RX4_21 (Y := mX4_measure) (pc := 119) (b := 9) rfl ((lk_5 hly) _) (lf_5_3 hly _) dX4_measure_119 ?_
    refine sm_iconst (Y := mX4_measure) (pc := 122) 0 (by decide) dX4_measure_122 ?_
    refine sm_zald (Y := mX4_measure) (pc := 123) (la_9 hly _) (sm_lin (by decide)) dX4_measure_123 ?_
    obtain ⟨hn_5, h⟩ := h
    refine pf_RX4_57 (Y := mX4_measure) (pc := 124) rfl hn_5 ((fun S hS => (hTa1 S hS).1) _) dX4_measure_124 (fun m_4 em_4 => ?_)
    replace h := h m_4 em_4
    refine sm_aload_n (Y := mX4_measure) (pc := 127) 1 1 rfl rfl dX4_measure_127 ?_
    refine sm_is_V (Y := mX4_measure) (pc := 128) (As := [.ref (sm_B E + a1)]) fX4_reduce wRX4_61 rfl (Nat.le_trans (by decide) hd) (Nat.le_of_ble_eq_true rfl) ⟨Nat.le_refl _, Nat.le_refl _⟩ dX4_measure_128 rfl (sm_monoV h (fun m_6 h => ?_))
    exact sm_vret (Y := mX4_measure) (pc := 131) rfl rfl rfl dX4_measure_131 ⟨rfl, h⟩
  · replace h := h.2 hc
    refine sm_aload_n (Y := mX4_measure) (pc := 15) 1 1 rfl rfl dX4_measure_15 ?_
    refine gf_RX4_34 (Y := mX4_measure) (pc := 16) (b := a1 + 1) rfl ((fun S hS => (hTa1 S hS).1) _) (fun hS => (hTa1 _ hS).2.1) dX4_measure_16 ?_
    refine sm_iload_n (Y := mX4_measure) (pc := 19) 2 2 rfl rfl dX4_measure_19 ?_
    obtain ⟨hn_7, h⟩ := h
    refine sm_iald (Y := mX4_measure) (pc := 20) (fun hS => (hTa1 _ hS).2.2) hn_7 dX4_measure_20 ?_
    refine sm_istore_n (Y := mX4_measure) (pc := 21) (fun y => [(3, .int y), (0, .ref (sm_B E + 5)), (1, .ref (sm_B E + a1)), (2, .int x2)]) 3 rfl (by decide) (fun _ => rfl) dX4_measure_21 (fun x3_8 ex3_8 => ?_)
    replace h := h x3_8 ex3_8
    refine sm_iload_n (Y := mX4_measure) (pc := 22) 0 3 rfl rfl dX4_measure_22 ?_
    refine sm_bipush (Y := mX4_measure) (pc := 23) 10 (by decide) dX4_measure_23 ?_
    refine sm_icmp_gt (Y := mX4_measure) (pc := 25) 36 (by decide) dX4_measure_25 (fun hc => ?_) (fun hc => ?_)
    · replace h := h.1 hc
      refine sm_iload_n (Y := mX4_measure) (pc := 36) 0 3 rfl rfl dX4_measure_36 ?_
      refine sm_bipush (Y := mX4_measure) (pc := 37) 11 (by decide) dX4_measure_37 ?_
      refine sm_icmp_eq (Y := mX4_measure) (pc := 39) 48 (by decide) dX4_measure_39 (fun hc => ?_) (fun hc => ?_)
      · replace h := h.1 hc
        refine sm_sub [1, 2, 3, 0] rfl ?_
        exact h
      · replace h := h.2 hc
        refine sm_iload_n (Y := mX4_measure) (pc := 42) 0 3 rfl rfl dX4_measure_42 ?_
        refine sm_bipush (Y := mX4_measure) (pc := 43) 12 (by decide) dX4_measure_43 ?_
        refine sm_icmp_ne (Y := mX4_measure) (pc := 45) 66 (by decide) dX4_measure_45 (fun hc => ?_) (fun hc => ?_)
        · replace h := h.1 hc
          refine sm_aload_n (Y := mX4_measure) (pc := 66) 1 0 rfl rfl dX4_measure_66 ?_
          refine sm_iload_n (Y := mX4_measure) (pc := 67) 0 3 rfl rfl dX4_measure_67 ?_
          refine sm_bipush (Y := mX4_measure) (pc := 68) 13 (by decide) dX4_measure_68 ?_
          refine sm_icmp_ne (Y := mX4_measure) (pc := 70) 77 (by decide) dX4_measure_70 (fun hc => ?_) (fun hc => ?_)
          · replace h := h.1 hc
            refine sm_iconst (Y := mX4_measure) (pc := 77) 0 (by decide) dX4_measure_77 ?_
            refine sm_iv_V (Y := mX4_measure) (pc := 78) (As := [.int 0]) (a := 5) fX4_alter wRX4_45 (lk_5 hly) (by decide) rfl rfl rfl (Nat.le_trans (by decide) hd) (Nat.le_of_ble_eq_true rfl) ⟨Nat.le_refl _, Nat.le_refl _⟩ dX4_measure_78 rfl (sm_monoV h (fun m_9 h => ?_))
            refine sm_iinc (Y := mX4_measure) (pc := 81) (fun y => [(2, .int y), (3, .int x3_8), (0, .ref (sm_B E + 5)), (1, .ref (sm_B E + a1))]) 3 2 rfl (by decide) (fun _ => rfl) dX4_measure_81 (fun x2_10 ex2_10 => ?_)
            replace h := h x2_10 ex2_10
            refine sm_goto (Y := mX4_measure) (pc := 84) 7 (by decide) dX4_measure_84 ?_
            refine sm_sub [2, 3, 0] rfl ?_
            exact h
          · replace h := h.2 hc
            refine sm_iconst (Y := mX4_measure) (pc := 73) 1 (by decide) dX4_measure_73 ?_
            refine sm_goto (Y := mX4_measure) (pc := 74) 78 (by decide) dX4_measure_74 ?_
            refine sm_iv_V (Y := mX4_measure) (pc := 78) (As := [.int 1]) (a := 5) fX4_alter wRX4_45 (lk_5 hly) (by decide) rfl rfl rfl (Nat.le_trans (by decide) hd) (Nat.le_of_ble_eq_true rfl) ⟨Nat.le_refl _, Nat.le_refl _⟩ dX4_measure_78 rfl (sm_monoV h (fun m_11 h => ?_))
            refine sm_iinc (Y := mX4_measure) (pc := 81) (fun y => [(2, .int y), (3, .int x3_8), (0, .ref (sm_B E + 5)), (1, .ref (sm_B E + a1))]) 3 2 rfl (by decide) (fun _ => rfl) dX4_measure_81 (fun x2_12 ex2_12 => ?_)
            replace h := h x2_12 ex2_12
            refine sm_goto (Y := mX4_measure) (pc := 84) 7 (by decide) dX4_measure_84 ?_
            refine sm_sub [2, 3, 0] rfl ?_
            exact h
        · replace h := h.2 hc
          refine sm_sub [1, 2, 3, 0] rfl ?_
          exact h
    · replace h := h.2 hc
      refine sm_aload_n (Y := mX4_measure) (pc := 28) 1 0 rfl rfl dX4_measure_28 ?_
      refine sm_iload_n (Y := mX4_measure) (pc := 29) 0 3 rfl rfl dX4_measure_29 ?_
      refine sm_iv_V (Y := mX4_measure) (pc := 30) (As := [.int x3_8]) (a := 5) fX4_push wRX4_37 (lk_5 hly) (by decide) rfl rfl rfl (Nat.le_trans (by decide) hd) (Nat.le_of_ble_eq_true rfl) ⟨Nat.le_refl _, Nat.le_refl _⟩ dX4_measure_30 rfl (sm_monoV h (fun m_13 h => ?_))
      refine sm_goto (Y := mX4_measure) (pc := 33) 81 (by decide) dX4_measure_33 ?_
      refine sm_iinc (Y := mX4_measure) (pc := 81) (fun y => [(2, .int y), (3, .int x3_8), (0, .ref (sm_B E + 5)), (1, .ref (sm_B E + a1))]) 3 2 rfl (by decide) (fun _ => rfl) dX4_measure_81 (fun x2_14 ex2_14 => ?_)
      replace h := h x2_14 ex2_14
      refine sm_goto (Y := mX4_measure) (pc := 84) 7 (by decide) dX4_measure_84 ?_
      refine sm_sub [2, 3, 0] rfl ?_
      exact h
theorem dX4_measure_0 : decode cX4_measure 0 = .ok (.aload_n 0, 1) := dk_aload_n_0 (by decide +kernel)
theorem dX4_measure_1 : decode cX4_measure 1 = .ok (.iconst 0, 1) := dk_iconst_0 (by decide +kernel)
theorem dX4_measure_2 : decode cX4_measure 2 = .ok (.putfield 25, 3) := dk_putfield 25 (b1 := 0) (b2 := 25) (by decide +kernel) (by decide +kernel) (by decide +kernel) (by decide +kernel)
theorem dX4_measure_5 : decode cX4_measure 5 = .ok (.iconst 0, 1) := dk_iconst_0 (by decide +kernel)
theorem dX4_measure_6 : decode cX4_measure 6 = .ok (.istore_n 2, 1) := dk_istore_n_2 (by decide +kernel)
set_option maxRecDepth 20000 in
theorem vX4_measure_0 {E : sm_E} {L : sm_S → Prop} {d : Nat} {a1 : Nat} {na1 : Nat} {m : sm_M} {Q : sm_M → Prop} (hly : ∀ S, L S → ly S) (hd : 4 ≤ d) (hTa1 : sm_tan L a1 na1)
  (h : ∀ m_1 : sm_M, m_1 = sm_wI m 5 4 0 →
   gX4_measure_7 E L d ([.ref (sm_B E + 5), .ref (sm_B E + a1)]) a1 0 m_1 Q) :
  sm_callV E L mX4_measure d 0 0 [.ref (sm_B E + 5), .ref (sm_B E + a1)] m Q := by
  refine sm_enter (by decide +kernel) (by simp [lg_sl, Value.category]) ?_
  refine sm_aload_n (Y := mX4_measure) (pc := 0) 0 0 rfl rfl dX4_measure_0 ?_
  refine sm_iconst (Y := mX4_measure) (pc := 1) 0 (by decide) dX4_measure_1 ?_
  refine pf_RX4_25 (Y := mX4_measure) (pc := 2) rfl ((lk_5 hly) _) dX4_measure_2 (fun m_1 em_1 => ?_)
  replace h := h m_1 em_1
  refine sm_iconst (Y := mX4_measure) (pc := 5) 0 (by decide) dX4_measure_5 ?_
  refine sm_istore0_n (Y := mX4_measure) (pc := 6) [(2, .int 0), (0, .ref (sm_B E + 5)), (1, .ref (sm_B E + a1))] 2 rfl (by decide) rfl dX4_measure_6 ?_
  refine sm_sub [1, 2, 0] rfl ?_
  exact h
def gX4_push_62 (E : sm_E) (L : sm_S → Prop) (d : Nat) (vs : List Value) (s1 : Int32) (s2 : Int32) (m : sm_M) (Q : sm_M → Prop) : Prop := sm_go E L mX4_push d 0 0 vs 62 [(0, .ref (sm_B E + 5))] [.int s2, .int s1, .ref (sm_B E + 8)] m 0 0 (sm_Z E L vs 0 0 (sm_QV Q))
def gX4_push_42 (E : sm_E) (L : sm_S → Prop) (d : Nat) (vs : List Value) (x1 : Int32) (s1 : Int32) (s2 : Int32) (m : sm_M) (Q : sm_M → Prop) : Prop := sm_go E L mX4_push d 0 0 vs 42 [(0, .ref (sm_B E + 5)), (1, .int x1)] [.int s2, .int s1, .ref (sm_B E + 7)] m 0 0 (sm_Z E L vs 0 0 (sm_QV Q))
theorem dX4_push_62 : decode cX4_push 62 = .ok (.iastore, 1) := dk_iastore (by decide +kernel)
theorem dX4_push_63 : decode cX4_push 63 = .ok (.aload_n 0, 1) := dk_aload_n_0 (by decide +kernel)
theorem dX4_push_64 : decode cX4_push 64 = .ok (.getfield 21, 3) := dk_getfield 21 (b1 := 0) (b2 := 21) (by decide +kernel) (by decide +kernel) (by decide +kernel) (by decide +kernel)
theorem dX4_push_67 : decode cX4_push 67 = .ok (.aload_n 0, 1) := dk_aload_n_0 (by decide +kernel)
theorem dX4_push_68 : decode cX4_push 68 = .ok (.getfield 25, 3) := dk_getfield 25 (b1 := 0) (b2 := 25) (by decide +kernel) (by decide +kernel) (by decide +kernel) (by decide +kernel)
theorem dX4_push_71 : decode cX4_push 71 = .ok (.iconst 1, 1) := dk_iconst_1 (by decide +kernel)
theorem dX4_push_72 : decode cX4_push 72 = .ok (.bastore, 1) := dk_bastore (by decide +kernel)
theorem dX4_push_73 : decode cX4_push 73 = .ok (.aload_n 0, 1) := dk_aload_n_0 (by decide +kernel)
theorem dX4_push_74 : decode cX4_push 74 = .ok (.dup, 1) := dk_dup (by decide +kernel)
theorem dX4_push_75 : decode cX4_push 75 = .ok (.getfield 25, 3) := dk_getfield 25 (b1 := 0) (b2 := 25) (by decide +kernel) (by decide +kernel) (by decide +kernel) (by decide +kernel)
theorem dX4_push_78 : decode cX4_push 78 = .ok (.iconst 1, 1) := dk_iconst_1 (by decide +kernel)
theorem dX4_push_79 : decode cX4_push 79 = .ok (.iadd, 1) := dk_iadd (by decide +kernel)
theorem dX4_push_80 : decode cX4_push 80 = .ok (.putfield 25, 3) := dk_putfield 25 (b1 := 0) (b2 := 25) (by decide +kernel) (by decide +kernel) (by decide +kernel) (by decide +kernel)
theorem dX4_push_83 : decode cX4_push 83 = .ok (.return_, 1) := dk_return_ (by decide +kernel)
set_option maxRecDepth 20000 in
theorem vX4_push_62 {E : sm_E} {L : sm_S → Prop} {d : Nat} {vs : List Value} {s1 : Int32} {s2 : Int32}  {m : sm_M} {Q : sm_M → Prop} (hly : ∀ S, L S → ly S) (hd : 1 ≤ d) 
  (h : (vp_in s1 24) ∧ ∀ m_1 : sm_M, m_1 = sm_wI m 8 s1.toNatClampNeg s2 →
   (vp_in (m_1.1 5 4) 24) ∧ ∀ m_3 : sm_M, m_3 = sm_wI m_1 9 (m_1.1 5 4).toNatClampNeg 1 →
   ∀ m_5 : sm_M, m_5 = sm_wI m_3 5 4 ((m_3.1 5 4) + 1) →
   Q m_5) :
  gX4_push_62 E L d vs s1 s2 m Q := by
  obtain ⟨hn_2, h⟩ := h
  refine sm_iast (Y := mX4_push) (pc := 62) (la_8 hly _) hn_2 dX4_push_62 (fun m_1 em_1 => ?_)
  replace h := h m_1 em_1
  refine sm_aload_n (Y := mX4_push) (pc := 63) 0 0 rfl rfl dX4_push_63 ?_
  refine gf_RX4_21 (Y := mX4_push) (pc := 64) (b := 9) rfl ((lk_5 hly) _) (lf_5_3 hly _) dX4_push_64 ?_
  refine sm_aload_n (Y := mX4_push) (pc := 67) 0 0 rfl rfl dX4_push_67 ?_
  refine gf_RX4_25 (Y := mX4_push) (pc := 68) rfl ((lk_5 hly) _) dX4_push_68 ?_
  refine sm_iconst (Y := mX4_push) (pc := 71) 1 (by decide) dX4_push_71 ?_
  obtain ⟨hn_4, h⟩ := h
  refine sm_zast (Y := mX4_push) (pc := 72) (la_9 hly _) hn_4 (by decide) dX4_push_72 (fun m_3 em_3 => ?_)
  replace h := h m_3 em_3
  refine sm_aload_n (Y := mX4_push) (pc := 73) 0 0 rfl rfl dX4_push_73 ?_
  refine sm_dup (Y := mX4_push) (pc := 74) rfl dX4_push_74 ?_
  refine gf_RX4_25 (Y := mX4_push) (pc := 75) rfl ((lk_5 hly) _) dX4_push_75 ?_
  refine sm_iconst (Y := mX4_push) (pc := 78) 1 (by decide) dX4_push_78 ?_
  refine sm_iadd (Y := mX4_push) (pc := 79) dX4_push_79 ?_
  refine pf_RX4_25 (Y := mX4_push) (pc := 80) rfl ((lk_5 hly) _) dX4_push_80 (fun m_5 em_5 => ?_)
  replace h := h m_5 em_5
  exact sm_vret (Y := mX4_push) (pc := 83) rfl rfl rfl dX4_push_83 ⟨rfl, h⟩
theorem dX4_push_42 : decode cX4_push 42 = .ok (.iastore, 1) := dk_iastore (by decide +kernel)
theorem dX4_push_43 : decode cX4_push 43 = .ok (.aload_n 0, 1) := dk_aload_n_0 (by decide +kernel)
theorem dX4_push_44 : decode cX4_push 44 = .ok (.getfield 18, 3) := dk_getfield 18 (b1 := 0) (b2 := 18) (by decide +kernel) (by decide +kernel) (by decide +kernel) (by decide +kernel)
theorem dX4_push_47 : decode cX4_push 47 = .ok (.aload_n 0, 1) := dk_aload_n_0 (by decide +kernel)
theorem dX4_push_48 : decode cX4_push 48 = .ok (.getfield 25, 3) := dk_getfield 25 (b1 := 0) (b2 := 25) (by decide +kernel) (by decide +kernel) (by decide +kernel) (by decide +kernel)
theorem dX4_push_51 : decode cX4_push 51 = .ok (.iload_n 1, 1) := dk_iload_n_1 (by decide +kernel)
theorem dX4_push_52 : decode cX4_push 52 = .ok (.bipush 10, 2) := dk_bipush 10 (b := 10) (by decide +kernel) (by decide +kernel) (by decide +kernel)
theorem dX4_push_54 : decode cX4_push 54 = .ok (.if_icmp .ne 7, 3) := dk_if_icmp_ne 7 (b1 := 0) (b2 := 7) (by decide +kernel) (by decide +kernel) (by decide +kernel) (by decide +kernel)
theorem dX4_push_61 : decode cX4_push 61 = .ok (.iconst 1, 1) := dk_iconst_1 (by decide +kernel)
theorem dX4_push_57 : decode cX4_push 57 = .ok (.iconst 0, 1) := dk_iconst_0 (by decide +kernel)
theorem dX4_push_58 : decode cX4_push 58 = .ok (.goto 4, 3) := dk_goto 4 (b1 := 0) (b2 := 4) (by decide +kernel) (by decide +kernel) (by decide +kernel) (by decide +kernel)
set_option maxRecDepth 20000 in
theorem vX4_push_42 {E : sm_E} {L : sm_S → Prop} {d : Nat} {vs : List Value} {x1 : Int32} {s1 : Int32} {s2 : Int32}  {m : sm_M} {Q : sm_M → Prop} (hly : ∀ S, L S → ly S) (hd : 1 ≤ d) 
  (h : (vp_in s1 24) ∧ ∀ m_1 : sm_M, m_1 = sm_wI m 7 s1.toNatClampNeg s2 →
   (¬ x1 = 10 →
      gX4_push_62 E L d vs (m_1.1 5 4) 1 m_1 Q) ∧
   (x1 = 10 →
      gX4_push_62 E L d vs (m_1.1 5 4) 0 m_1 Q)) :
  gX4_push_42 E L d vs x1 s1 s2 m Q := by
  obtain ⟨hn_2, h⟩ := h
  refine sm_iast (Y := mX4_push) (pc := 42) (la_7 hly _) hn_2 dX4_push_42 (fun m_1 em_1 => ?_)
  replace h := h m_1 em_1
  refine sm_aload_n (Y := mX4_push) (pc := 43) 0 0 rfl rfl dX4_push_43 ?_
  refine gf_RX4_18 (Y := mX4_push) (pc := 44) (b := 8) rfl ((lk_5 hly) _) (lf_5_2 hly _) dX4_push_44 ?_
  refine sm_aload_n (Y := mX4_push) (pc := 47) 0 0 rfl rfl dX4_push_47 ?_
  refine gf_RX4_25 (Y := mX4_push) (pc := 48) rfl ((lk_5 hly) _) dX4_push_48 ?_
  refine sm_iload_n (Y := mX4_push) (pc := 51) 1 1 rfl rfl dX4_push_51 ?_
  refine sm_bipush (Y := mX4_push) (pc := 52) 10 (by decide) dX4_push_52 ?_
  refine sm_icmp_ne (Y := mX4_push) (pc := 54) 61 (by decide) dX4_push_54 (fun hc => ?_) (fun hc => ?_)
  · replace h := h.1 hc
    refine sm_iconst (Y := mX4_push) (pc := 61) 1 (by decide) dX4_push_61 ?_
    refine sm_sub [0] rfl ?_
    exact h
  · replace h := h.2 hc
    refine sm_iconst (Y := mX4_push) (pc := 57) 0 (by decide) dX4_push_57 ?_
    refine sm_goto (Y := mX4_push) (pc := 58) 62 (by decide) dX4_push_58 ?_
    refine sm_sub [0] rfl ?_
    exact h
theorem dX4_push_0 : decode cX4_push 0 = .ok (.aload_n 0, 1) := dk_aload_n_0 (by decide +kernel)
theorem dX4_push_1 : decode cX4_push 1 = .ok (.getfield 25, 3) := dk_getfield 25 (b1 := 0) (b2 := 25) (by decide +kernel) (by decide +kernel) (by decide +kernel) (by decide +kernel)
theorem dX4_push_4 : decode cX4_push 4 = .ok (.aload_n 0, 1) := dk_aload_n_0 (by decide +kernel)
theorem dX4_push_5 : decode cX4_push 5 = .ok (.getfield 9, 3) := dk_getfield 9 (b1 := 0) (b2 := 9) (by decide +kernel) (by decide +kernel) (by decide +kernel) (by decide +kernel)
theorem dX4_push_8 : decode cX4_push 8 = .ok (.arraylength, 1) := dk_arraylength (by decide +kernel)
theorem dX4_push_9 : decode cX4_push 9 = .ok (.if_icmp .lt 4, 3) := dk_if_icmp_lt 4 (b1 := 0) (b2 := 4) (by decide +kernel) (by decide +kernel) (by decide +kernel) (by decide +kernel)
theorem dX4_push_13 : decode cX4_push 13 = .ok (.aload_n 0, 1) := dk_aload_n_0 (by decide +kernel)
theorem dX4_push_14 : decode cX4_push 14 = .ok (.getfield 9, 3) := dk_getfield 9 (b1 := 0) (b2 := 9) (by decide +kernel) (by decide +kernel) (by decide +kernel) (by decide +kernel)
theorem dX4_push_17 : decode cX4_push 17 = .ok (.aload_n 0, 1) := dk_aload_n_0 (by decide +kernel)
theorem dX4_push_18 : decode cX4_push 18 = .ok (.getfield 25, 3) := dk_getfield 25 (b1 := 0) (b2 := 25) (by decide +kernel) (by decide +kernel) (by decide +kernel) (by decide +kernel)
theorem dX4_push_21 : decode cX4_push 21 = .ok (.iconst 1, 1) := dk_iconst_1 (by decide +kernel)
theorem dX4_push_22 : decode cX4_push 22 = .ok (.iastore, 1) := dk_iastore (by decide +kernel)
theorem dX4_push_23 : decode cX4_push 23 = .ok (.aload_n 0, 1) := dk_aload_n_0 (by decide +kernel)
theorem dX4_push_24 : decode cX4_push 24 = .ok (.getfield 15, 3) := dk_getfield 15 (b1 := 0) (b2 := 15) (by decide +kernel) (by decide +kernel) (by decide +kernel) (by decide +kernel)
theorem dX4_push_27 : decode cX4_push 27 = .ok (.aload_n 0, 1) := dk_aload_n_0 (by decide +kernel)
theorem dX4_push_28 : decode cX4_push 28 = .ok (.getfield 25, 3) := dk_getfield 25 (b1 := 0) (b2 := 25) (by decide +kernel) (by decide +kernel) (by decide +kernel) (by decide +kernel)
theorem dX4_push_31 : decode cX4_push 31 = .ok (.iload_n 1, 1) := dk_iload_n_1 (by decide +kernel)
theorem dX4_push_32 : decode cX4_push 32 = .ok (.bipush 10, 2) := dk_bipush 10 (b := 10) (by decide +kernel) (by decide +kernel) (by decide +kernel)
theorem dX4_push_34 : decode cX4_push 34 = .ok (.if_icmp .ne 7, 3) := dk_if_icmp_ne 7 (b1 := 0) (b2 := 7) (by decide +kernel) (by decide +kernel) (by decide +kernel) (by decide +kernel)
theorem dX4_push_41 : decode cX4_push 41 = .ok (.iload_n 1, 1) := dk_iload_n_1 (by decide +kernel)
theorem dX4_push_37 : decode cX4_push 37 = .ok (.iconst 1, 1) := dk_iconst_1 (by decide +kernel)
theorem dX4_push_38 : decode cX4_push 38 = .ok (.goto 4, 3) := dk_goto 4 (b1 := 0) (b2 := 4) (by decide +kernel) (by decide +kernel) (by decide +kernel) (by decide +kernel)
theorem dX4_push_12 : decode cX4_push 12 = .ok (.return_, 1) := dk_return_ (by decide +kernel)
set_option maxRecDepth 20000 in
theorem vX4_push_0 {E : sm_E} {L : sm_S → Prop} {d : Nat} {x1 : Int32}  {m : sm_M} {Q : sm_M → Prop} (hly : ∀ S, L S → ly S) (hd : 1 ≤ d) 
  (h : ((m.1 5 4) < (nI 24) →
      (vp_in (m.1 5 4) 24) ∧ ∀ m_1 : sm_M, m_1 = sm_wI m 6 (m.1 5 4).toNatClampNeg 1 →
      (¬ x1 = 10 →
         gX4_push_42 E L d ([.ref (sm_B E + 5), .int x1]) x1 (m_1.1 5 4) x1 m_1 Q) ∧
      (x1 = 10 →
         gX4_push_42 E L d ([.ref (sm_B E + 5), .int x1]) x1 (m_1.1 5 4) 1 m_1 Q)) ∧
   (¬ (m.1 5 4) < (nI 24) →
      Q m)) :
  sm_callV E L mX4_push d 0 0 [.ref (sm_B E + 5), .int x1] m Q := by
  refine sm_enter (by decide +kernel) (by simp [lg_sl, Value.category]) ?_
  refine sm_aload_n (Y := mX4_push) (pc := 0) 0 0 rfl rfl dX4_push_0 ?_
  refine gf_RX4_25 (Y := mX4_push) (pc := 1) rfl ((lk_5 hly) _) dX4_push_1 ?_
  refine sm_aload_n (Y := mX4_push) (pc := 4) 0 0 rfl rfl dX4_push_4 ?_
  refine gf_RX4_9 (Y := mX4_push) (pc := 5) (b := 6) rfl ((lk_5 hly) _) (lf_5_0 hly _) dX4_push_5 ?_
  refine sm_alenI (Y := mX4_push) (pc := 8) (la_6 hly _) dX4_push_8 ?_
  refine sm_icmp_lt (Y := mX4_push) (pc := 9) 13 (by decide) dX4_push_9 (fun hc => ?_) (fun hc => ?_)
  · replace h := h.1 hc
    refine sm_aload_n (Y := mX4_push) (pc := 13) 0 0 rfl rfl dX4_push_13 ?_
    refine gf_RX4_9 (Y := mX4_push) (pc := 14) (b := 6) rfl ((lk_5 hly) _) (lf_5_0 hly _) dX4_push_14 ?_
    refine sm_aload_n (Y := mX4_push) (pc := 17) 0 0 rfl rfl dX4_push_17 ?_
    refine gf_RX4_25 (Y := mX4_push) (pc := 18) rfl ((lk_5 hly) _) dX4_push_18 ?_
    refine sm_iconst (Y := mX4_push) (pc := 21) 1 (by decide) dX4_push_21 ?_
    obtain ⟨hn_2, h⟩ := h
    refine sm_iast (Y := mX4_push) (pc := 22) (la_6 hly _) hn_2 dX4_push_22 (fun m_1 em_1 => ?_)
    replace h := h m_1 em_1
    refine sm_aload_n (Y := mX4_push) (pc := 23) 0 0 rfl rfl dX4_push_23 ?_
    refine gf_RX4_15 (Y := mX4_push) (pc := 24) (b := 7) rfl ((lk_5 hly) _) (lf_5_1 hly _) dX4_push_24 ?_
    refine sm_aload_n (Y := mX4_push) (pc := 27) 0 0 rfl rfl dX4_push_27 ?_
    refine gf_RX4_25 (Y := mX4_push) (pc := 28) rfl ((lk_5 hly) _) dX4_push_28 ?_
    refine sm_iload_n (Y := mX4_push) (pc := 31) 1 1 rfl rfl dX4_push_31 ?_
    refine sm_bipush (Y := mX4_push) (pc := 32) 10 (by decide) dX4_push_32 ?_
    refine sm_icmp_ne (Y := mX4_push) (pc := 34) 41 (by decide) dX4_push_34 (fun hc => ?_) (fun hc => ?_)
    · replace h := h.1 hc
      refine sm_iload_n (Y := mX4_push) (pc := 41) 1 1 rfl rfl dX4_push_41 ?_
      exact h
    · replace h := h.2 hc
      refine sm_iconst (Y := mX4_push) (pc := 37) 1 (by decide) dX4_push_37 ?_
      refine sm_goto (Y := mX4_push) (pc := 38) 42 (by decide) dX4_push_38 ?_
      exact h
  · replace h := h.2 hc
    exact sm_vret (Y := mX4_push) (pc := 12) rfl rfl rfl dX4_push_12 ⟨rfl, h⟩
def gX4_combine_191 (E : sm_E) (L : sm_S → Prop) (d : Nat) (vs : List Value) (x1 : Int32) (x2 : Int32) (x4 : Int32) (x5 : Int32) (x6 : Int32) (x7 : Int32) (s1 : Int32) (s2 : Int32) (m : sm_M) (Q : sm_M → Prop) : Prop := sm_go E L mX4_combine d 0 0 vs 191 [(0, .ref (sm_B E + 5)), (1, .int x1), (2, .int x2), (4, .int x4), (5, .int x5), (6, .int x6), (7, .int x7)] [.int s2, .int s1, .ref (sm_B E + 7)] m 0 0 (sm_Z E L vs 0 0 (sm_QV Q))
def gX4_combine_139 (E : sm_E) (L : sm_S → Prop) (d : Nat) (vs : List Value) (x1 : Int32) (x2 : Int32) (x3 : Int32) (x4 : Int32) (x5 : Int32) (x6 : Int32) (x7 : Int32) (s1 : Int32) (s2 : Int32) (m : sm_M) (Q : sm_M → Prop) : Prop := sm_go E L mX4_combine d 0 0 vs 139 [(0, .ref (sm_B E + 5)), (1, .int x1), (2, .int x2), (3, .int x3), (4, .int x4), (5, .int x5), (6, .int x6), (7, .int x7)] [.int s2, .int s1, .ref (sm_B E + 9)] m 0 0 (sm_Z E L vs 0 0 (sm_QV Q))
def gX4_combine_104 (E : sm_E) (L : sm_S → Prop) (d : Nat) (vs : List Value) (x1 : Int32) (x2 : Int32) (x3 : Int32) (x4 : Int32) (x5 : Int32) (x6 : Int32) (x7 : Int32) (s0 : Int32) (m : sm_M) (Q : sm_M → Prop) : Prop := sm_go E L mX4_combine d 0 0 vs 104 [(0, .ref (sm_B E + 5)), (1, .int x1), (2, .int x2), (3, .int x3), (4, .int x4), (5, .int x5), (6, .int x6), (7, .int x7)] [.int s0] m 0 0 (sm_Z E L vs 0 0 (sm_QV Q))
theorem dX4_combine_191 : decode cX4_combine 191 = .ok (.iastore, 1) := dk_iastore (by decide +kernel)
theorem dX4_combine_192 : decode cX4_combine 192 = .ok (.aload_n 0, 1) := dk_aload_n_0 (by decide +kernel)
theorem dX4_combine_193 : decode cX4_combine 193 = .ok (.getfield 18, 3) := dk_getfield 18 (b1 := 0) (b2 := 18) (by decide +kernel) (by decide +kernel) (by decide +kernel) (by decide +kernel)
theorem dX4_combine_196 : decode cX4_combine 196 = .ok (.iload_n 2, 1) := dk_iload_n_2 (by decide +kernel)
theorem dX4_combine_197 : decode cX4_combine 197 = .ok (.iload_n 1, 1) := dk_iload_n_1 (by decide +kernel)
theorem dX4_combine_198 : decode cX4_combine 198 = .ok (.ifCond .eq 11, 3) := dk_ifCond_eq 11 (b1 := 0) (b2 := 11) (by decide +kernel) (by decide +kernel) (by decide +kernel) (by decide +kernel)
theorem dX4_combine_209 : decode cX4_combine 209 = .ok (.iload 4, 2) := dk_iload 4 (b := 4) (by decide +kernel) (by decide +kernel) (by decide +kernel)
theorem dX4_combine_211 : decode cX4_combine 211 = .ok (.iload 7, 2) := dk_iload 7 (b := 7) (by decide +kernel) (by decide +kernel) (by decide +kernel)
theorem dX4_combine_213 : decode cX4_combine 213 = .ok (.imul, 1) := dk_imul (by decide +kernel)
theorem dX4_combine_214 : decode cX4_combine 214 = .ok (.iload 6, 2) := dk_iload 6 (b := 6) (by decide +kernel) (by decide +kernel) (by decide +kernel)
theorem dX4_combine_216 : decode cX4_combine 216 = .ok (.iload 5, 2) := dk_iload 5 (b := 5) (by decide +kernel) (by decide +kernel) (by decide +kernel)
theorem dX4_combine_218 : decode cX4_combine 218 = .ok (.imul, 1) := dk_imul (by decide +kernel)
theorem dX4_combine_219 : decode cX4_combine 219 = .ok (.iadd, 1) := dk_iadd (by decide +kernel)
theorem dX4_combine_220 : decode cX4_combine 220 = .ok (.iastore, 1) := dk_iastore (by decide +kernel)
theorem dX4_combine_221 : decode cX4_combine 221 = .ok (.aload_n 0, 1) := dk_aload_n_0 (by decide +kernel)
theorem dX4_combine_222 : decode cX4_combine 222 = .ok (.dup, 1) := dk_dup (by decide +kernel)
theorem dX4_combine_223 : decode cX4_combine 223 = .ok (.getfield 25, 3) := dk_getfield 25 (b1 := 0) (b2 := 25) (by decide +kernel) (by decide +kernel) (by decide +kernel) (by decide +kernel)
theorem dX4_combine_226 : decode cX4_combine 226 = .ok (.iconst 1, 1) := dk_iconst_1 (by decide +kernel)
theorem dX4_combine_227 : decode cX4_combine 227 = .ok (.isub, 1) := dk_isub (by decide +kernel)
theorem dX4_combine_228 : decode cX4_combine 228 = .ok (.putfield 25, 3) := dk_putfield 25 (b1 := 0) (b2 := 25) (by decide +kernel) (by decide +kernel) (by decide +kernel) (by decide +kernel)
theorem dX4_combine_231 : decode cX4_combine 231 = .ok (.return_, 1) := dk_return_ (by decide +kernel)
theorem dX4_combine_201 : decode cX4_combine 201 = .ok (.iload 5, 2) := dk_iload 5 (b := 5) (by decide +kernel) (by decide +kernel) (by decide +kernel)
theorem dX4_combine_203 : decode cX4_combine 203 = .ok (.iload 7, 2) := dk_iload 7 (b := 7) (by decide +kernel) (by decide +kernel) (by decide +kernel)
theorem dX4_combine_205 : decode cX4_combine 205 = .ok (.imul, 1) := dk_imul (by decide +kernel)
theorem dX4_combine_206 : decode cX4_combine 206 = .ok (.goto 14, 3) := dk_goto 14 (b1 := 0) (b2 := 14) (by decide +kernel) (by decide +kernel) (by decide +kernel) (by decide +kernel)
set_option maxRecDepth 20000 in
theorem vX4_combine_191 {E : sm_E} {L : sm_S → Prop} {d : Nat} {vs : List Value} {x1 : Int32} {x2 : Int32} {x4 : Int32} {x5 : Int32} {x6 : Int32} {x7 : Int32} {s1 : Int32} {s2 : Int32}  {m : sm_M} {Q : sm_M → Prop} (hly : ∀ S, L S → ly S) (hd : 2 ≤ d) 
  (h : (vp_in s1 24) ∧ ∀ m_1 : sm_M, m_1 = sm_wI m 7 s1.toNatClampNeg s2 →
   (x1 = 0 →
      (vp_in x2 24) ∧ ∀ m_3 : sm_M, m_3 = sm_wI m_1 8 x2.toNatClampNeg ((x4 * x7) + (x6 * x5)) →
      ∀ m_5 : sm_M, m_5 = sm_wI m_3 5 4 ((m_3.1 5 4) - 1) →
      Q m_5) ∧
   (¬ x1 = 0 →
      (vp_in x2 24) ∧ ∀ m_6 : sm_M, m_6 = sm_wI m_1 8 x2.toNatClampNeg (x5 * x7) →
      ∀ m_8 : sm_M, m_8 = sm_wI m_6 5 4 ((m_6.1 5 4) - 1) →
      Q m_8)) :
  gX4_combine_191 E L d vs x1 x2 x4 x5 x6 x7 s1 s2 m Q := by
  obtain ⟨hn_2, h⟩ := h
  refine sm_iast (Y := mX4_combine) (pc := 191) (la_7 hly _) hn_2 dX4_combine_191 (fun m_1 em_1 => ?_)
  replace h := h m_1 em_1
  refine sm_aload_n (Y := mX4_combine) (pc := 192) 0 0 rfl rfl dX4_combine_192 ?_
  refine gf_RX4_18 (Y := mX4_combine) (pc := 193) (b := 8) rfl ((lk_5 hly) _) (lf_5_2 hly _) dX4_combine_193 ?_
  refine sm_iload_n (Y := mX4_combine) (pc := 196) 2 2 rfl rfl dX4_combine_196 ?_
  refine sm_iload_n (Y := mX4_combine) (pc := 197) 1 1 rfl rfl dX4_combine_197 ?_
  refine sm_if_eq (Y := mX4_combine) (pc := 198) 209 (by decide) dX4_combine_198 (fun hc => ?_) (fun hc => ?_)
  · replace h := h.1 hc
    refine sm_iload (Y := mX4_combine) (pc := 209) 3 4 rfl dX4_combine_209 ?_
    refine sm_iload (Y := mX4_combine) (pc := 211) 6 7 rfl dX4_combine_211 ?_
    refine sm_imul (Y := mX4_combine) (pc := 213) dX4_combine_213 ?_
    refine sm_iload (Y := mX4_combine) (pc := 214) 5 6 rfl dX4_combine_214 ?_
    refine sm_iload (Y := mX4_combine) (pc := 216) 4 5 rfl dX4_combine_216 ?_
    refine sm_imul (Y := mX4_combine) (pc := 218) dX4_combine_218 ?_
    refine sm_iadd (Y := mX4_combine) (pc := 219) dX4_combine_219 ?_
    obtain ⟨hn_4, h⟩ := h
    refine sm_iast (Y := mX4_combine) (pc := 220) (la_8 hly _) hn_4 dX4_combine_220 (fun m_3 em_3 => ?_)
    replace h := h m_3 em_3
    refine sm_aload_n (Y := mX4_combine) (pc := 221) 0 0 rfl rfl dX4_combine_221 ?_
    refine sm_dup (Y := mX4_combine) (pc := 222) rfl dX4_combine_222 ?_
    refine gf_RX4_25 (Y := mX4_combine) (pc := 223) rfl ((lk_5 hly) _) dX4_combine_223 ?_
    refine sm_iconst (Y := mX4_combine) (pc := 226) 1 (by decide) dX4_combine_226 ?_
    refine sm_isub (Y := mX4_combine) (pc := 227) dX4_combine_227 ?_
    refine pf_RX4_25 (Y := mX4_combine) (pc := 228) rfl ((lk_5 hly) _) dX4_combine_228 (fun m_5 em_5 => ?_)
    replace h := h m_5 em_5
    exact sm_vret (Y := mX4_combine) (pc := 231) rfl rfl rfl dX4_combine_231 ⟨rfl, h⟩
  · replace h := h.2 hc
    refine sm_iload (Y := mX4_combine) (pc := 201) 4 5 rfl dX4_combine_201 ?_
    refine sm_iload (Y := mX4_combine) (pc := 203) 6 7 rfl dX4_combine_203 ?_
    refine sm_imul (Y := mX4_combine) (pc := 205) dX4_combine_205 ?_
    refine sm_goto (Y := mX4_combine) (pc := 206) 220 (by decide) dX4_combine_206 ?_
    obtain ⟨hn_7, h⟩ := h
    refine sm_iast (Y := mX4_combine) (pc := 220) (la_8 hly _) hn_7 dX4_combine_220 (fun m_6 em_6 => ?_)
    replace h := h m_6 em_6
    refine sm_aload_n (Y := mX4_combine) (pc := 221) 0 0 rfl rfl dX4_combine_221 ?_
    refine sm_dup (Y := mX4_combine) (pc := 222) rfl dX4_combine_222 ?_
    refine gf_RX4_25 (Y := mX4_combine) (pc := 223) rfl ((lk_5 hly) _) dX4_combine_223 ?_
    refine sm_iconst (Y := mX4_combine) (pc := 226) 1 (by decide) dX4_combine_226 ?_
    refine sm_isub (Y := mX4_combine) (pc := 227) dX4_combine_227 ?_
    refine pf_RX4_25 (Y := mX4_combine) (pc := 228) rfl ((lk_5 hly) _) dX4_combine_228 (fun m_8 em_8 => ?_)
    replace h := h m_8 em_8
    exact sm_vret (Y := mX4_combine) (pc := 231) rfl rfl rfl dX4_combine_231 ⟨rfl, h⟩
theorem dX4_combine_139 : decode cX4_combine 139 = .ok (.bastore, 1) := dk_bastore (by decide +kernel)
theorem dX4_combine_140 : decode cX4_combine 140 = .ok (.aload_n 0, 1) := dk_aload_n_0 (by decide +kernel)
theorem dX4_combine_141 : decode cX4_combine 141 = .ok (.getfield 9, 3) := dk_getfield 9 (b1 := 0) (b2 := 9) (by decide +kernel) (by decide +kernel) (by decide +kernel) (by decide +kernel)
theorem dX4_combine_144 : decode cX4_combine 144 = .ok (.iload_n 2, 1) := dk_iload_n_2 (by decide +kernel)
theorem dX4_combine_145 : decode cX4_combine 145 = .ok (.iconst 1, 1) := dk_iconst_1 (by decide +kernel)
theorem dX4_combine_146 : decode cX4_combine 146 = .ok (.aload_n 0, 1) := dk_aload_n_0 (by decide +kernel)
theorem dX4_combine_147 : decode cX4_combine 147 = .ok (.getfield 9, 3) := dk_getfield 9 (b1 := 0) (b2 := 9) (by decide +kernel) (by decide +kernel) (by decide +kernel) (by decide +kernel)
theorem dX4_combine_150 : decode cX4_combine 150 = .ok (.iload_n 2, 1) := dk_iload_n_2 (by decide +kernel)
theorem dX4_combine_151 : decode cX4_combine 151 = .ok (.iaload, 1) := dk_iaload (by decide +kernel)
theorem dX4_combine_152 : decode cX4_combine 152 = .ok (.aload_n 0, 1) := dk_aload_n_0 (by decide +kernel)
theorem dX4_combine_153 : decode cX4_combine 153 = .ok (.getfield 9, 3) := dk_getfield 9 (b1 := 0) (b2 := 9) (by decide +kernel) (by decide +kernel) (by decide +kernel) (by decide +kernel)
theorem dX4_combine_156 : decode cX4_combine 156 = .ok (.iload_n 3, 1) := dk_iload_n_3 (by decide +kernel)
theorem dX4_combine_157 : decode cX4_combine 157 = .ok (.iaload, 1) := dk_iaload (by decide +kernel)
theorem wRX4_69 : Cond.methodLink RX4 69 yJ9_max_7cf53 ∈ sm_T := sm_in 471 (by decide +kernel) (by decide +kernel)
theorem dX4_combine_158 : decode cX4_combine 158 = .ok (.invokestatic 69, 3) := dk_invokestatic 69 (b1 := 0) (b2 := 69) (by decide +kernel) (by decide +kernel) (by decide +kernel) (by decide +kernel)
theorem dX4_combine_161 : decode cX4_combine 161 = .ok (.iadd, 1) := dk_iadd (by decide +kernel)
theorem dX4_combine_162 : decode cX4_combine 162 = .ok (.iastore, 1) := dk_iastore (by decide +kernel)
theorem dX4_combine_163 : decode cX4_combine 163 = .ok (.aload_n 0, 1) := dk_aload_n_0 (by decide +kernel)
theorem dX4_combine_164 : decode cX4_combine 164 = .ok (.getfield 15, 3) := dk_getfield 15 (b1 := 0) (b2 := 15) (by decide +kernel) (by decide +kernel) (by decide +kernel) (by decide +kernel)
theorem dX4_combine_167 : decode cX4_combine 167 = .ok (.iload_n 2, 1) := dk_iload_n_2 (by decide +kernel)
theorem dX4_combine_168 : decode cX4_combine 168 = .ok (.iload_n 1, 1) := dk_iload_n_1 (by decide +kernel)
theorem dX4_combine_169 : decode cX4_combine 169 = .ok (.ifCond .eq 17, 3) := dk_ifCond_eq 17 (b1 := 0) (b2 := 17) (by decide +kernel) (by decide +kernel) (by decide +kernel) (by decide +kernel)
theorem dX4_combine_186 : decode cX4_combine 186 = .ok (.iload 4, 2) := dk_iload 4 (b := 4) (by decide +kernel) (by decide +kernel) (by decide +kernel)
theorem dX4_combine_188 : decode cX4_combine 188 = .ok (.iload 6, 2) := dk_iload 6 (b := 6) (by decide +kernel) (by decide +kernel) (by decide +kernel)
theorem dX4_combine_190 : decode cX4_combine 190 = .ok (.imul, 1) := dk_imul (by decide +kernel)
theorem dX4_combine_172 : decode cX4_combine 172 = .ok (.iload 4, 2) := dk_iload 4 (b := 4) (by decide +kernel) (by decide +kernel) (by decide +kernel)
theorem dX4_combine_174 : decode cX4_combine 174 = .ok (.iload 7, 2) := dk_iload 7 (b := 7) (by decide +kernel) (by decide +kernel) (by decide +kernel)
theorem dX4_combine_176 : decode cX4_combine 176 = .ok (.imul, 1) := dk_imul (by decide +kernel)
theorem dX4_combine_177 : decode cX4_combine 177 = .ok (.iload 6, 2) := dk_iload 6 (b := 6) (by decide +kernel) (by decide +kernel) (by decide +kernel)
theorem dX4_combine_179 : decode cX4_combine 179 = .ok (.iload 5, 2) := dk_iload 5 (b := 5) (by decide +kernel) (by decide +kernel) (by decide +kernel)
theorem dX4_combine_181 : decode cX4_combine 181 = .ok (.imul, 1) := dk_imul (by decide +kernel)
theorem dX4_combine_182 : decode cX4_combine 182 = .ok (.iadd, 1) := dk_iadd (by decide +kernel)
theorem dX4_combine_183 : decode cX4_combine 183 = .ok (.goto 8, 3) := dk_goto 8 (b1 := 0) (b2 := 8) (by decide +kernel) (by decide +kernel) (by decide +kernel) (by decide +kernel)
set_option maxRecDepth 20000 in
theorem vX4_combine_139 {E : sm_E} {L : sm_S → Prop} {d : Nat} {vs : List Value} {x1 : Int32} {x2 : Int32} {x3 : Int32} {x4 : Int32} {x5 : Int32} {x6 : Int32} {x7 : Int32} {s1 : Int32} {s2 : Int32}  {m : sm_M} {Q : sm_M → Prop} (hly : ∀ S, L S → ly S) (hd : 2 ≤ d) 
  (h : (vp_in s1 24) ∧ (s2 = 0 ∨ s2 = 1) ∧ ∀ m_1 : sm_M, m_1 = sm_wI m 9 s1.toNatClampNeg s2 →
   (vp_in x2 24) ∧ (vp_in x3 24) ∧ sm_callI E L mJ9_max_7cf53 1 0 0 [.int (m_1.1 6 x2.toNatClampNeg), .int (m_1.1 6 x3.toNatClampNeg)] m_1 (fun r_7 m_6 =>
   (vp_in x2 24) ∧ ∀ m_8 : sm_M, m_8 = sm_wI m_6 6 x2.toNatClampNeg ((1 : Int32) + r_7) →
   (x1 = 0 →
      gX4_combine_191 E L d vs x1 x2 x4 x5 x6 x7 x2 (x4 * x6) m_8 Q) ∧
   (¬ x1 = 0 →
      gX4_combine_191 E L d vs x1 x2 x4 x5 x6 x7 x2 ((x4 * x7) + (x6 * x5)) m_8 Q))) :
  gX4_combine_139 E L d vs x1 x2 x3 x4 x5 x6 x7 s1 s2 m Q := by
  obtain ⟨hn_2, h⟩ := h
  obtain ⟨hn_3, h⟩ := h
  refine sm_zast (Y := mX4_combine) (pc := 139) (la_9 hly _) hn_2 hn_3 dX4_combine_139 (fun m_1 em_1 => ?_)
  replace h := h m_1 em_1
  refine sm_aload_n (Y := mX4_combine) (pc := 140) 0 0 rfl rfl dX4_combine_140 ?_
  refine gf_RX4_9 (Y := mX4_combine) (pc := 141) (b := 6) rfl ((lk_5 hly) _) (lf_5_0 hly _) dX4_combine_141 ?_
  refine sm_iload_n (Y := mX4_combine) (pc := 144) 2 2 rfl rfl dX4_combine_144 ?_
  refine sm_iconst (Y := mX4_combine) (pc := 145) 1 (by decide) dX4_combine_145 ?_
  refine sm_aload_n (Y := mX4_combine) (pc := 146) 0 0 rfl rfl dX4_combine_146 ?_
  refine gf_RX4_9 (Y := mX4_combine) (pc := 147) (b := 6) rfl ((lk_5 hly) _) (lf_5_0 hly _) dX4_combine_147 ?_
  refine sm_iload_n (Y := mX4_combine) (pc := 150) 2 2 rfl rfl dX4_combine_150 ?_
  obtain ⟨hn_4, h⟩ := h
  refine sm_iald (Y := mX4_combine) (pc := 151) (la_6 hly _) hn_4 dX4_combine_151 ?_
  refine sm_aload_n (Y := mX4_combine) (pc := 152) 0 0 rfl rfl dX4_combine_152 ?_
  refine gf_RX4_9 (Y := mX4_combine) (pc := 153) (b := 6) rfl ((lk_5 hly) _) (lf_5_0 hly _) dX4_combine_153 ?_
  refine sm_iload_n (Y := mX4_combine) (pc := 156) 3 3 rfl rfl dX4_combine_156 ?_
  obtain ⟨hn_5, h⟩ := h
  refine sm_iald (Y := mX4_combine) (pc := 157) (la_6 hly _) hn_5 dX4_combine_157 ?_
  refine sm_is_I (Y := mX4_combine) (pc := 158) (As := [.int (m_1.1 6 x2.toNatClampNeg), .int (m_1.1 6 x3.toNatClampNeg)]) fJ9_max_7cf53 wRX4_69 rfl (Nat.le_trans (by decide) hd) (Nat.le_of_ble_eq_true rfl) ⟨Nat.le_refl _, Nat.le_refl _⟩ dX4_combine_158 rfl (sm_monoI h (fun r_7 m_6 h => ?_))
  refine sm_iadd (Y := mX4_combine) (pc := 161) dX4_combine_161 ?_
  obtain ⟨hn_9, h⟩ := h
  refine sm_iast (Y := mX4_combine) (pc := 162) (la_6 hly _) hn_9 dX4_combine_162 (fun m_8 em_8 => ?_)
  replace h := h m_8 em_8
  refine sm_aload_n (Y := mX4_combine) (pc := 163) 0 0 rfl rfl dX4_combine_163 ?_
  refine gf_RX4_15 (Y := mX4_combine) (pc := 164) (b := 7) rfl ((lk_5 hly) _) (lf_5_1 hly _) dX4_combine_164 ?_
  refine sm_iload_n (Y := mX4_combine) (pc := 167) 2 2 rfl rfl dX4_combine_167 ?_
  refine sm_iload_n (Y := mX4_combine) (pc := 168) 1 1 rfl rfl dX4_combine_168 ?_
  refine sm_if_eq (Y := mX4_combine) (pc := 169) 186 (by decide) dX4_combine_169 (fun hc => ?_) (fun hc => ?_)
  · replace h := h.1 hc
    refine sm_iload (Y := mX4_combine) (pc := 186) 4 4 rfl dX4_combine_186 ?_
    refine sm_iload (Y := mX4_combine) (pc := 188) 6 6 rfl dX4_combine_188 ?_
    refine sm_imul (Y := mX4_combine) (pc := 190) dX4_combine_190 ?_
    refine sm_sub [0, 1, 2, 4, 5, 6, 7] rfl ?_
    exact h
  · replace h := h.2 hc
    refine sm_iload (Y := mX4_combine) (pc := 172) 4 4 rfl dX4_combine_172 ?_
    refine sm_iload (Y := mX4_combine) (pc := 174) 7 7 rfl dX4_combine_174 ?_
    refine sm_imul (Y := mX4_combine) (pc := 176) dX4_combine_176 ?_
    refine sm_iload (Y := mX4_combine) (pc := 177) 6 6 rfl dX4_combine_177 ?_
    refine sm_iload (Y := mX4_combine) (pc := 179) 5 5 rfl dX4_combine_179 ?_
    refine sm_imul (Y := mX4_combine) (pc := 181) dX4_combine_181 ?_
    refine sm_iadd (Y := mX4_combine) (pc := 182) dX4_combine_182 ?_
    refine sm_goto (Y := mX4_combine) (pc := 183) 191 (by decide) dX4_combine_183 ?_
    refine sm_sub [0, 1, 2, 4, 5, 6, 7] rfl ?_
    exact h
theorem dX4_combine_104 : decode cX4_combine 104 = .ok (.istore 8, 2) := dk_istore 8 (b := 8) (by decide +kernel) (by decide +kernel) (by decide +kernel)
theorem dX4_combine_106 : decode cX4_combine 106 = .ok (.aload_n 0, 1) := dk_aload_n_0 (by decide +kernel)
theorem dX4_combine_107 : decode cX4_combine 107 = .ok (.getfield 21, 3) := dk_getfield 21 (b1 := 0) (b2 := 21) (by decide +kernel) (by decide +kernel) (by decide +kernel) (by decide +kernel)
theorem dX4_combine_110 : decode cX4_combine 110 = .ok (.iload_n 2, 1) := dk_iload_n_2 (by decide +kernel)
theorem dX4_combine_111 : decode cX4_combine 111 = .ok (.aload_n 0, 1) := dk_aload_n_0 (by decide +kernel)
theorem dX4_combine_112 : decode cX4_combine 112 = .ok (.getfield 21, 3) := dk_getfield 21 (b1 := 0) (b2 := 21) (by decide +kernel) (by decide +kernel) (by decide +kernel) (by decide +kernel)
theorem dX4_combine_115 : decode cX4_combine 115 = .ok (.iload_n 2, 1) := dk_iload_n_2 (by decide +kernel)
theorem dX4_combine_116 : decode cX4_combine 116 = .ok (.baload, 1) := dk_baload (by decide +kernel)
theorem dX4_combine_117 : decode cX4_combine 117 = .ok (.ifCond .eq 21, 3) := dk_ifCond_eq 21 (b1 := 0) (b2 := 21) (by decide +kernel) (by decide +kernel) (by decide +kernel) (by decide +kernel)
theorem dX4_combine_138 : decode cX4_combine 138 = .ok (.iconst 0, 1) := dk_iconst_0 (by decide +kernel)
theorem dX4_combine_120 : decode cX4_combine 120 = .ok (.aload_n 0, 1) := dk_aload_n_0 (by decide +kernel)
theorem dX4_combine_121 : decode cX4_combine 121 = .ok (.getfield 21, 3) := dk_getfield 21 (b1 := 0) (b2 := 21) (by decide +kernel) (by decide +kernel) (by decide +kernel) (by decide +kernel)
theorem dX4_combine_124 : decode cX4_combine 124 = .ok (.iload_n 3, 1) := dk_iload_n_3 (by decide +kernel)
theorem dX4_combine_125 : decode cX4_combine 125 = .ok (.baload, 1) := dk_baload (by decide +kernel)
theorem dX4_combine_126 : decode cX4_combine 126 = .ok (.ifCond .eq 12, 3) := dk_ifCond_eq 12 (b1 := 0) (b2 := 12) (by decide +kernel) (by decide +kernel) (by decide +kernel) (by decide +kernel)
theorem dX4_combine_129 : decode cX4_combine 129 = .ok (.iload 8, 2) := dk_iload 8 (b := 8) (by decide +kernel) (by decide +kernel) (by decide +kernel)
theorem dX4_combine_131 : decode cX4_combine 131 = .ok (.ifCond .eq 7, 3) := dk_ifCond_eq 7 (b1 := 0) (b2 := 7) (by decide +kernel) (by decide +kernel) (by decide +kernel) (by decide +kernel)
theorem dX4_combine_134 : decode cX4_combine 134 = .ok (.iconst 1, 1) := dk_iconst_1 (by decide +kernel)
theorem dX4_combine_135 : decode cX4_combine 135 = .ok (.goto 4, 3) := dk_goto 4 (b1 := 0) (b2 := 4) (by decide +kernel) (by decide +kernel) (by decide +kernel) (by decide +kernel)
set_option maxRecDepth 20000 in
theorem vX4_combine_104 {E : sm_E} {L : sm_S → Prop} {d : Nat} {vs : List Value} {x1 : Int32} {x2 : Int32} {x3 : Int32} {x4 : Int32} {x5 : Int32} {x6 : Int32} {x7 : Int32} {s0 : Int32}  {m : sm_M} {Q : sm_M → Prop} (hly : ∀ S, L S → ly S) (hd : 2 ≤ d) 
  (h : (vp_in x2 24) ∧ ((m.1 9 x2.toNatClampNeg) = 0 →
      gX4_combine_139 E L d vs x1 x2 x3 x4 x5 x6 x7 x2 0 m Q) ∧
   (¬ (m.1 9 x2.toNatClampNeg) = 0 →
      (vp_in x3 24) ∧ ((m.1 9 x3.toNatClampNeg) = 0 →
         gX4_combine_139 E L d vs x1 x2 x3 x4 x5 x6 x7 x2 0 m Q) ∧
      (¬ (m.1 9 x3.toNatClampNeg) = 0 →
         (s0 = 0 →
            gX4_combine_139 E L d vs x1 x2 x3 x4 x5 x6 x7 x2 0 m Q) ∧
         (¬ s0 = 0 →
            gX4_combine_139 E L d vs x1 x2 x3 x4 x5 x6 x7 x2 1 m Q)))) :
  gX4_combine_104 E L d vs x1 x2 x3 x4 x5 x6 x7 s0 m Q := by
  refine sm_istore0 (Y := mX4_combine) (pc := 104) [(8, .int s0), (0, .ref (sm_B E + 5)), (1, .int x1), (2, .int x2), (3, .int x3), (4, .int x4), (5, .int x5), (6, .int x6), (7, .int x7)] 8 (by decide) rfl dX4_combine_104 ?_
  refine sm_aload_n (Y := mX4_combine) (pc := 106) 1 0 rfl rfl dX4_combine_106 ?_
  refine gf_RX4_21 (Y := mX4_combine) (pc := 107) (b := 9) rfl ((lk_5 hly) _) (lf_5_3 hly _) dX4_combine_107 ?_
  refine sm_iload_n (Y := mX4_combine) (pc := 110) 3 2 rfl rfl dX4_combine_110 ?_
  refine sm_aload_n (Y := mX4_combine) (pc := 111) 1 0 rfl rfl dX4_combine_111 ?_
  refine gf_RX4_21 (Y := mX4_combine) (pc := 112) (b := 9) rfl ((lk_5 hly) _) (lf_5_3 hly _) dX4_combine_112 ?_
  refine sm_iload_n (Y := mX4_combine) (pc := 115) 3 2 rfl rfl dX4_combine_115 ?_
  obtain ⟨hn_2, h⟩ := h
  refine sm_zald (Y := mX4_combine) (pc := 116) (la_9 hly _) hn_2 dX4_combine_116 ?_
  refine sm_if_eq (Y := mX4_combine) (pc := 117) 138 (by decide) dX4_combine_117 (fun hc => ?_) (fun hc => ?_)
  · replace h := h.1 hc
    refine sm_iconst (Y := mX4_combine) (pc := 138) 0 (by decide) dX4_combine_138 ?_
    refine sm_sub [1, 2, 3, 4, 5, 6, 7, 8] rfl ?_
    exact h
  · replace h := h.2 hc
    refine sm_aload_n (Y := mX4_combine) (pc := 120) 1 0 rfl rfl dX4_combine_120 ?_
    refine gf_RX4_21 (Y := mX4_combine) (pc := 121) (b := 9) rfl ((lk_5 hly) _) (lf_5_3 hly _) dX4_combine_121 ?_
    refine sm_iload_n (Y := mX4_combine) (pc := 124) 4 3 rfl rfl dX4_combine_124 ?_
    obtain ⟨hn_3, h⟩ := h
    refine sm_zald (Y := mX4_combine) (pc := 125) (la_9 hly _) hn_3 dX4_combine_125 ?_
    refine sm_if_eq (Y := mX4_combine) (pc := 126) 138 (by decide) dX4_combine_126 (fun hc => ?_) (fun hc => ?_)
    · replace h := h.1 hc
      refine sm_iconst (Y := mX4_combine) (pc := 138) 0 (by decide) dX4_combine_138 ?_
      refine sm_sub [1, 2, 3, 4, 5, 6, 7, 8] rfl ?_
      exact h
    · replace h := h.2 hc
      refine sm_iload (Y := mX4_combine) (pc := 129) 0 8 rfl dX4_combine_129 ?_
      refine sm_if_eq (Y := mX4_combine) (pc := 131) 138 (by decide) dX4_combine_131 (fun hc => ?_) (fun hc => ?_)
      · replace h := h.1 hc
        refine sm_iconst (Y := mX4_combine) (pc := 138) 0 (by decide) dX4_combine_138 ?_
        refine sm_sub [1, 2, 3, 4, 5, 6, 7, 8] rfl ?_
        exact h
      · replace h := h.2 hc
        refine sm_iconst (Y := mX4_combine) (pc := 134) 1 (by decide) dX4_combine_134 ?_
        refine sm_goto (Y := mX4_combine) (pc := 135) 139 (by decide) dX4_combine_135 ?_
        refine sm_sub [1, 2, 3, 4, 5, 6, 7, 8] rfl ?_
        exact h
theorem dX4_combine_0 : decode cX4_combine 0 = .ok (.aload_n 0, 1) := dk_aload_n_0 (by decide +kernel)
theorem dX4_combine_1 : decode cX4_combine 1 = .ok (.getfield 25, 3) := dk_getfield 25 (b1 := 0) (b2 := 25) (by decide +kernel) (by decide +kernel) (by decide +kernel) (by decide +kernel)
theorem dX4_combine_4 : decode cX4_combine 4 = .ok (.iconst 2, 1) := dk_iconst_2 (by decide +kernel)
theorem dX4_combine_5 : decode cX4_combine 5 = .ok (.if_icmp .ge 4, 3) := dk_if_icmp_ge 4 (b1 := 0) (b2 := 4) (by decide +kernel) (by decide +kernel) (by decide +kernel) (by decide +kernel)
theorem dX4_combine_9 : decode cX4_combine 9 = .ok (.aload_n 0, 1) := dk_aload_n_0 (by decide +kernel)
theorem dX4_combine_10 : decode cX4_combine 10 = .ok (.getfield 25, 3) := dk_getfield 25 (b1 := 0) (b2 := 25) (by decide +kernel) (by decide +kernel) (by decide +kernel) (by decide +kernel)
theorem dX4_combine_13 : decode cX4_combine 13 = .ok (.iconst 2, 1) := dk_iconst_2 (by decide +kernel)
theorem dX4_combine_14 : decode cX4_combine 14 = .ok (.isub, 1) := dk_isub (by decide +kernel)
theorem dX4_combine_15 : decode cX4_combine 15 = .ok (.istore_n 2, 1) := dk_istore_n_2 (by decide +kernel)
theorem dX4_combine_16 : decode cX4_combine 16 = .ok (.aload_n 0, 1) := dk_aload_n_0 (by decide +kernel)
theorem dX4_combine_17 : decode cX4_combine 17 = .ok (.getfield 25, 3) := dk_getfield 25 (b1 := 0) (b2 := 25) (by decide +kernel) (by decide +kernel) (by decide +kernel) (by decide +kernel)
theorem dX4_combine_20 : decode cX4_combine 20 = .ok (.iconst 1, 1) := dk_iconst_1 (by decide +kernel)
theorem dX4_combine_21 : decode cX4_combine 21 = .ok (.isub, 1) := dk_isub (by decide +kernel)
theorem dX4_combine_22 : decode cX4_combine 22 = .ok (.istore_n 3, 1) := dk_istore_n_3 (by decide +kernel)
theorem dX4_combine_23 : decode cX4_combine 23 = .ok (.aload_n 0, 1) := dk_aload_n_0 (by decide +kernel)
theorem dX4_combine_24 : decode cX4_combine 24 = .ok (.getfield 15, 3) := dk_getfield 15 (b1 := 0) (b2 := 15) (by decide +kernel) (by decide +kernel) (by decide +kernel) (by decide +kernel)
theorem dX4_combine_27 : decode cX4_combine 27 = .ok (.iload_n 2, 1) := dk_iload_n_2 (by decide +kernel)
theorem dX4_combine_28 : decode cX4_combine 28 = .ok (.iaload, 1) := dk_iaload (by decide +kernel)
theorem dX4_combine_29 : decode cX4_combine 29 = .ok (.istore 4, 2) := dk_istore 4 (b := 4) (by decide +kernel) (by decide +kernel) (by decide +kernel)
theorem dX4_combine_31 : decode cX4_combine 31 = .ok (.aload_n 0, 1) := dk_aload_n_0 (by decide +kernel)
theorem dX4_combine_32 : decode cX4_combine 32 = .ok (.getfield 18, 3) := dk_getfield 18 (b1 := 0) (b2 := 18) (by decide +kernel) (by decide +kernel) (by decide +kernel) (by decide +kernel)
theorem dX4_combine_35 : decode cX4_combine 35 = .ok (.iload_n 2, 1) := dk_iload_n_2 (by decide +kernel)
theorem dX4_combine_36 : decode cX4_combine 36 = .ok (.iaload, 1) := dk_iaload (by decide +kernel)
theorem dX4_combine_37 : decode cX4_combine 37 = .ok (.istore 5, 2) := dk_istore 5 (b := 5) (by decide +kernel) (by decide +kernel) (by decide +kernel)
theorem dX4_combine_39 : decode cX4_combine 39 = .ok (.aload_n 0, 1) := dk_aload_n_0 (by decide +kernel)
theorem dX4_combine_40 : decode cX4_combine 40 = .ok (.getfield 15, 3) := dk_getfield 15 (b1 := 0) (b2 := 15) (by decide +kernel) (by decide +kernel) (by decide +kernel) (by decide +kernel)
theorem dX4_combine_43 : decode cX4_combine 43 = .ok (.iload_n 3, 1) := dk_iload_n_3 (by decide +kernel)
theorem dX4_combine_44 : decode cX4_combine 44 = .ok (.iaload, 1) := dk_iaload (by decide +kernel)
theorem dX4_combine_45 : decode cX4_combine 45 = .ok (.istore 6, 2) := dk_istore 6 (b := 6) (by decide +kernel) (by decide +kernel) (by decide +kernel)
theorem dX4_combine_47 : decode cX4_combine 47 = .ok (.aload_n 0, 1) := dk_aload_n_0 (by decide +kernel)
theorem dX4_combine_48 : decode cX4_combine 48 = .ok (.getfield 18, 3) := dk_getfield 18 (b1 := 0) (b2 := 18) (by decide +kernel) (by decide +kernel) (by decide +kernel) (by decide +kernel)
theorem dX4_combine_51 : decode cX4_combine 51 = .ok (.iload_n 3, 1) := dk_iload_n_3 (by decide +kernel)
theorem dX4_combine_52 : decode cX4_combine 52 = .ok (.iaload, 1) := dk_iaload (by decide +kernel)
theorem dX4_combine_53 : decode cX4_combine 53 = .ok (.istore 7, 2) := dk_istore 7 (b := 7) (by decide +kernel) (by decide +kernel) (by decide +kernel)
theorem dX4_combine_55 : decode cX4_combine 55 = .ok (.iload_n 1, 1) := dk_iload_n_1 (by decide +kernel)
theorem dX4_combine_56 : decode cX4_combine 56 = .ok (.ifCond .eq 27, 3) := dk_ifCond_eq 27 (b1 := 0) (b2 := 27) (by decide +kernel) (by decide +kernel) (by decide +kernel) (by decide +kernel)
theorem dX4_combine_83 : decode cX4_combine 83 = .ok (.iload 4, 2) := dk_iload 4 (b := 4) (by decide +kernel) (by decide +kernel) (by decide +kernel)
theorem wRX4_65 : Cond.methodLink RX4 65 yX4_isUnit ∈ sm_T := sm_in 468 (by decide +kernel) (by decide +kernel)
abbrev mX4_isUnit : sm_Y := (yX4_isUnit, cX4_isUnit, 1, (some FieldType.boolean))
theorem fX4_isUnit : sm_mt mX4_isUnit 1 := ⟨sm_in 470 (by decide +kernel) (by decide +kernel), sm_in 469 (by decide +kernel) (by decide +kernel), sm_in 85 (by decide +kernel) (by decide +kernel), ⟨by decide +kernel, by decide +kernel, by decide +kernel⟩, by decide⟩
theorem dX4_combine_85 : decode cX4_combine 85 = .ok (.invokestatic 65, 3) := dk_invokestatic 65 (b1 := 0) (b2 := 65) (by decide +kernel) (by decide +kernel) (by decide +kernel) (by decide +kernel)
theorem dX4_combine_88 : decode cX4_combine 88 = .ok (.ifCond .ne 11, 3) := dk_ifCond_ne 11 (b1 := 0) (b2 := 11) (by decide +kernel) (by decide +kernel) (by decide +kernel) (by decide +kernel)
theorem dX4_combine_99 : decode cX4_combine 99 = .ok (.iconst 1, 1) := dk_iconst_1 (by decide +kernel)
theorem dX4_combine_100 : decode cX4_combine 100 = .ok (.goto 4, 3) := dk_goto 4 (b1 := 0) (b2 := 4) (by decide +kernel) (by decide +kernel) (by decide +kernel) (by decide +kernel)
theorem dX4_combine_91 : decode cX4_combine 91 = .ok (.iload 6, 2) := dk_iload 6 (b := 6) (by decide +kernel) (by decide +kernel) (by decide +kernel)
theorem dX4_combine_93 : decode cX4_combine 93 = .ok (.invokestatic 65, 3) := dk_invokestatic 65 (b1 := 0) (b2 := 65) (by decide +kernel) (by decide +kernel) (by decide +kernel) (by decide +kernel)
theorem dX4_combine_96 : decode cX4_combine 96 = .ok (.ifCond .eq 7, 3) := dk_ifCond_eq 7 (b1 := 0) (b2 := 7) (by decide +kernel) (by decide +kernel) (by decide +kernel) (by decide +kernel)
theorem dX4_combine_103 : decode cX4_combine 103 = .ok (.iconst 0, 1) := dk_iconst_0 (by decide +kernel)
theorem dX4_combine_59 : decode cX4_combine 59 = .ok (.iload 5, 2) := dk_iload 5 (b := 5) (by decide +kernel) (by decide +kernel) (by decide +kernel)
theorem dX4_combine_61 : decode cX4_combine 61 = .ok (.invokestatic 65, 3) := dk_invokestatic 65 (b1 := 0) (b2 := 65) (by decide +kernel) (by decide +kernel) (by decide +kernel) (by decide +kernel)
theorem dX4_combine_64 : decode cX4_combine 64 = .ok (.ifCond .ne 11, 3) := dk_ifCond_ne 11 (b1 := 0) (b2 := 11) (by decide +kernel) (by decide +kernel) (by decide +kernel) (by decide +kernel)
theorem dX4_combine_75 : decode cX4_combine 75 = .ok (.iconst 1, 1) := dk_iconst_1 (by decide +kernel)
theorem dX4_combine_76 : decode cX4_combine 76 = .ok (.goto 28, 3) := dk_goto 28 (b1 := 0) (b2 := 28) (by decide +kernel) (by decide +kernel) (by decide +kernel) (by decide +kernel)
theorem dX4_combine_67 : decode cX4_combine 67 = .ok (.iload 7, 2) := dk_iload 7 (b := 7) (by decide +kernel) (by decide +kernel) (by decide +kernel)
theorem dX4_combine_69 : decode cX4_combine 69 = .ok (.invokestatic 65, 3) := dk_invokestatic 65 (b1 := 0) (b2 := 65) (by decide +kernel) (by decide +kernel) (by decide +kernel) (by decide +kernel)
theorem dX4_combine_72 : decode cX4_combine 72 = .ok (.ifCond .eq 7, 3) := dk_ifCond_eq 7 (b1 := 0) (b2 := 7) (by decide +kernel) (by decide +kernel) (by decide +kernel) (by decide +kernel)
theorem dX4_combine_79 : decode cX4_combine 79 = .ok (.iconst 0, 1) := dk_iconst_0 (by decide +kernel)
theorem dX4_combine_80 : decode cX4_combine 80 = .ok (.goto 24, 3) := dk_goto 24 (b1 := 0) (b2 := 24) (by decide +kernel) (by decide +kernel) (by decide +kernel) (by decide +kernel)
theorem dX4_combine_8 : decode cX4_combine 8 = .ok (.return_, 1) := dk_return_ (by decide +kernel)
set_option maxRecDepth 20000 in
theorem vX4_combine_0 {E : sm_E} {L : sm_S → Prop} {d : Nat} {x1 : Int32}  {m : sm_M} {Q : sm_M → Prop} (hly : ∀ S, L S → ly S) (hd : 2 ≤ d) 
  (h : (2 ≤ (m.1 5 4) →
      ∀ x2_1 : Int32, x2_1 = (m.1 5 4) - 2 →
      ∀ x3_2 : Int32, x3_2 = (m.1 5 4) - 1 →
      (vp_in x2_1 24) ∧ ∀ x4_4 : Int32, x4_4 = m.1 7 x2_1.toNatClampNeg →
      (vp_in x2_1 24) ∧ ∀ x5_6 : Int32, x5_6 = m.1 8 x2_1.toNatClampNeg →
      (vp_in x3_2 24) ∧ ∀ x6_8 : Int32, x6_8 = m.1 7 x3_2.toNatClampNeg →
      (vp_in x3_2 24) ∧ ∀ x7_10 : Int32, x7_10 = m.1 8 x3_2.toNatClampNeg →
      (x1 = 0 →
         sm_callI E L mX4_isUnit 1 0 0 [.int x4_4] m (fun r_12 m_11 =>
         (¬ r_12 = 0 →
            gX4_combine_104 E L d ([.ref (sm_B E + 5), .int x1]) x1 x2_1 x3_2 x4_4 x5_6 x6_8 x7_10 1 m_11 Q) ∧
         (r_12 = 0 →
            sm_callI E L mX4_isUnit 1 0 0 [.int x6_8] m_11 (fun r_14 m_13 =>
            (r_14 = 0 →
               gX4_combine_104 E L d ([.ref (sm_B E + 5), .int x1]) x1 x2_1 x3_2 x4_4 x5_6 x6_8 x7_10 0 m_13 Q) ∧
            (¬ r_14 = 0 →
               gX4_combine_104 E L d ([.ref (sm_B E + 5), .int x1]) x1 x2_1 x3_2 x4_4 x5_6 x6_8 x7_10 1 m_13 Q))))) ∧
      (¬ x1 = 0 →
         sm_callI E L mX4_isUnit 1 0 0 [.int x5_6] m (fun r_16 m_15 =>
         (¬ r_16 = 0 →
            gX4_combine_104 E L d ([.ref (sm_B E + 5), .int x1]) x1 x2_1 x3_2 x4_4 x5_6 x6_8 x7_10 1 m_15 Q) ∧
         (r_16 = 0 →
            sm_callI E L mX4_isUnit 1 0 0 [.int x7_10] m_15 (fun r_18 m_17 =>
            (r_18 = 0 →
               gX4_combine_104 E L d ([.ref (sm_B E + 5), .int x1]) x1 x2_1 x3_2 x4_4 x5_6 x6_8 x7_10 0 m_17 Q) ∧
            (¬ r_18 = 0 →
               gX4_combine_104 E L d ([.ref (sm_B E + 5), .int x1]) x1 x2_1 x3_2 x4_4 x5_6 x6_8 x7_10 1 m_17 Q)))))) ∧
   (¬ 2 ≤ (m.1 5 4) →
      Q m)) :
  sm_callV E L mX4_combine d 0 0 [.ref (sm_B E + 5), .int x1] m Q := by
  refine sm_enter (by decide +kernel) (by simp [lg_sl, Value.category]) ?_
  refine sm_aload_n (Y := mX4_combine) (pc := 0) 0 0 rfl rfl dX4_combine_0 ?_
  refine gf_RX4_25 (Y := mX4_combine) (pc := 1) rfl ((lk_5 hly) _) dX4_combine_1 ?_
  refine sm_iconst (Y := mX4_combine) (pc := 4) 2 (by decide) dX4_combine_4 ?_
  refine sm_icmp_ge (Y := mX4_combine) (pc := 5) 9 (by decide) dX4_combine_5 (fun hc => ?_) (fun hc => ?_)
  · replace h := h.1 hc
    refine sm_aload_n (Y := mX4_combine) (pc := 9) 0 0 rfl rfl dX4_combine_9 ?_
    refine gf_RX4_25 (Y := mX4_combine) (pc := 10) rfl ((lk_5 hly) _) dX4_combine_10 ?_
    refine sm_iconst (Y := mX4_combine) (pc := 13) 2 (by decide) dX4_combine_13 ?_
    refine sm_isub (Y := mX4_combine) (pc := 14) dX4_combine_14 ?_
    refine sm_istore_n (Y := mX4_combine) (pc := 15) (fun y => [(2, .int y), (0, .ref (sm_B E + 5)), (1, .int x1)]) 2 rfl (by decide) (fun _ => rfl) dX4_combine_15 (fun x2_1 ex2_1 => ?_)
    replace h := h x2_1 ex2_1
    refine sm_aload_n (Y := mX4_combine) (pc := 16) 1 0 rfl rfl dX4_combine_16 ?_
    refine gf_RX4_25 (Y := mX4_combine) (pc := 17) rfl ((lk_5 hly) _) dX4_combine_17 ?_
    refine sm_iconst (Y := mX4_combine) (pc := 20) 1 (by decide) dX4_combine_20 ?_
    refine sm_isub (Y := mX4_combine) (pc := 21) dX4_combine_21 ?_
    refine sm_istore_n (Y := mX4_combine) (pc := 22) (fun y => [(3, .int y), (2, .int x2_1), (0, .ref (sm_B E + 5)), (1, .int x1)]) 3 rfl (by decide) (fun _ => rfl) dX4_combine_22 (fun x3_2 ex3_2 => ?_)
    replace h := h x3_2 ex3_2
    refine sm_aload_n (Y := mX4_combine) (pc := 23) 2 0 rfl rfl dX4_combine_23 ?_
    refine gf_RX4_15 (Y := mX4_combine) (pc := 24) (b := 7) rfl ((lk_5 hly) _) (lf_5_1 hly _) dX4_combine_24 ?_
    refine sm_iload_n (Y := mX4_combine) (pc := 27) 1 2 rfl rfl dX4_combine_27 ?_
    obtain ⟨hn_3, h⟩ := h
    refine sm_iald (Y := mX4_combine) (pc := 28) (la_7 hly _) hn_3 dX4_combine_28 ?_
    refine sm_istore (Y := mX4_combine) (pc := 29) (fun y => [(4, .int y), (3, .int x3_2), (2, .int x2_1), (0, .ref (sm_B E + 5)), (1, .int x1)]) 4 (by decide) (fun _ => rfl) dX4_combine_29 (fun x4_4 ex4_4 => ?_)
    replace h := h x4_4 ex4_4
    refine sm_aload_n (Y := mX4_combine) (pc := 31) 3 0 rfl rfl dX4_combine_31 ?_
    refine gf_RX4_18 (Y := mX4_combine) (pc := 32) (b := 8) rfl ((lk_5 hly) _) (lf_5_2 hly _) dX4_combine_32 ?_
    refine sm_iload_n (Y := mX4_combine) (pc := 35) 2 2 rfl rfl dX4_combine_35 ?_
    obtain ⟨hn_5, h⟩ := h
    refine sm_iald (Y := mX4_combine) (pc := 36) (la_8 hly _) hn_5 dX4_combine_36 ?_
    refine sm_istore (Y := mX4_combine) (pc := 37) (fun y => [(5, .int y), (4, .int x4_4), (3, .int x3_2), (2, .int x2_1), (0, .ref (sm_B E + 5)), (1, .int x1)]) 5 (by decide) (fun _ => rfl) dX4_combine_37 (fun x5_6 ex5_6 => ?_)
    replace h := h x5_6 ex5_6
    refine sm_aload_n (Y := mX4_combine) (pc := 39) 4 0 rfl rfl dX4_combine_39 ?_
    refine gf_RX4_15 (Y := mX4_combine) (pc := 40) (b := 7) rfl ((lk_5 hly) _) (lf_5_1 hly _) dX4_combine_40 ?_
    refine sm_iload_n (Y := mX4_combine) (pc := 43) 2 3 rfl rfl dX4_combine_43 ?_
    obtain ⟨hn_7, h⟩ := h
    refine sm_iald (Y := mX4_combine) (pc := 44) (la_7 hly _) hn_7 dX4_combine_44 ?_
    refine sm_istore (Y := mX4_combine) (pc := 45) (fun y => [(6, .int y), (5, .int x5_6), (4, .int x4_4), (3, .int x3_2), (2, .int x2_1), (0, .ref (sm_B E + 5)), (1, .int x1)]) 6 (by decide) (fun _ => rfl) dX4_combine_45 (fun x6_8 ex6_8 => ?_)
    replace h := h x6_8 ex6_8
    refine sm_aload_n (Y := mX4_combine) (pc := 47) 5 0 rfl rfl dX4_combine_47 ?_
    refine gf_RX4_18 (Y := mX4_combine) (pc := 48) (b := 8) rfl ((lk_5 hly) _) (lf_5_2 hly _) dX4_combine_48 ?_
    refine sm_iload_n (Y := mX4_combine) (pc := 51) 3 3 rfl rfl dX4_combine_51 ?_
    obtain ⟨hn_9, h⟩ := h
    refine sm_iald (Y := mX4_combine) (pc := 52) (la_8 hly _) hn_9 dX4_combine_52 ?_
    refine sm_istore (Y := mX4_combine) (pc := 53) (fun y => [(7, .int y), (6, .int x6_8), (5, .int x5_6), (4, .int x4_4), (3, .int x3_2), (2, .int x2_1), (0, .ref (sm_B E + 5)), (1, .int x1)]) 7 (by decide) (fun _ => rfl) dX4_combine_53 (fun x7_10 ex7_10 => ?_)
    replace h := h x7_10 ex7_10
    refine sm_iload_n (Y := mX4_combine) (pc := 55) 7 1 rfl rfl dX4_combine_55 ?_
    refine sm_if_eq (Y := mX4_combine) (pc := 56) 83 (by decide) dX4_combine_56 (fun hc => ?_) (fun hc => ?_)
    · replace h := h.1 hc
      refine sm_iload (Y := mX4_combine) (pc := 83) 3 4 rfl dX4_combine_83 ?_
      refine sm_is_I (Y := mX4_combine) (pc := 85) (As := [.int x4_4]) fX4_isUnit wRX4_65 rfl (Nat.le_trans (by decide) hd) (Nat.le_of_ble_eq_true rfl) ⟨Nat.le_refl _, Nat.le_refl _⟩ dX4_combine_85 rfl (sm_monoI h (fun r_12 m_11 h => ?_))
      refine sm_if_ne (Y := mX4_combine) (pc := 88) 99 (by decide) dX4_combine_88 (fun hc => ?_) (fun hc => ?_)
      · replace h := h.1 hc
        refine sm_iconst (Y := mX4_combine) (pc := 99) 1 (by decide) dX4_combine_99 ?_
        refine sm_goto (Y := mX4_combine) (pc := 100) 104 (by decide) dX4_combine_100 ?_
        refine sm_sub [6, 7, 5, 4, 3, 2, 1, 0] rfl ?_
        exact h
      · replace h := h.2 hc
        refine sm_iload (Y := mX4_combine) (pc := 91) 1 6 rfl dX4_combine_91 ?_
        refine sm_is_I (Y := mX4_combine) (pc := 93) (As := [.int x6_8]) fX4_isUnit wRX4_65 rfl (Nat.le_trans (by decide) hd) (Nat.le_of_ble_eq_true rfl) ⟨Nat.le_refl _, Nat.le_refl _⟩ dX4_combine_93 rfl (sm_monoI h (fun r_14 m_13 h => ?_))
        refine sm_if_eq (Y := mX4_combine) (pc := 96) 103 (by decide) dX4_combine_96 (fun hc => ?_) (fun hc => ?_)
        · replace h := h.1 hc
          refine sm_iconst (Y := mX4_combine) (pc := 103) 0 (by decide) dX4_combine_103 ?_
          refine sm_sub [6, 7, 5, 4, 3, 2, 1, 0] rfl ?_
          exact h
        · replace h := h.2 hc
          refine sm_iconst (Y := mX4_combine) (pc := 99) 1 (by decide) dX4_combine_99 ?_
          refine sm_goto (Y := mX4_combine) (pc := 100) 104 (by decide) dX4_combine_100 ?_
          refine sm_sub [6, 7, 5, 4, 3, 2, 1, 0] rfl ?_
          exact h
    · replace h := h.2 hc
      refine sm_iload (Y := mX4_combine) (pc := 59) 2 5 rfl dX4_combine_59 ?_
      refine sm_is_I (Y := mX4_combine) (pc := 61) (As := [.int x5_6]) fX4_isUnit wRX4_65 rfl (Nat.le_trans (by decide) hd) (Nat.le_of_ble_eq_true rfl) ⟨Nat.le_refl _, Nat.le_refl _⟩ dX4_combine_61 rfl (sm_monoI h (fun r_16 m_15 h => ?_))
      refine sm_if_ne (Y := mX4_combine) (pc := 64) 75 (by decide) dX4_combine_64 (fun hc => ?_) (fun hc => ?_)
      · replace h := h.1 hc
        refine sm_iconst (Y := mX4_combine) (pc := 75) 1 (by decide) dX4_combine_75 ?_
        refine sm_goto (Y := mX4_combine) (pc := 76) 104 (by decide) dX4_combine_76 ?_
        refine sm_sub [6, 7, 5, 4, 3, 2, 1, 0] rfl ?_
        exact h
      · replace h := h.2 hc
        refine sm_iload (Y := mX4_combine) (pc := 67) 0 7 rfl dX4_combine_67 ?_
        refine sm_is_I (Y := mX4_combine) (pc := 69) (As := [.int x7_10]) fX4_isUnit wRX4_65 rfl (Nat.le_trans (by decide) hd) (Nat.le_of_ble_eq_true rfl) ⟨Nat.le_refl _, Nat.le_refl _⟩ dX4_combine_69 rfl (sm_monoI h (fun r_18 m_17 h => ?_))
        refine sm_if_eq (Y := mX4_combine) (pc := 72) 79 (by decide) dX4_combine_72 (fun hc => ?_) (fun hc => ?_)
        · replace h := h.1 hc
          refine sm_iconst (Y := mX4_combine) (pc := 79) 0 (by decide) dX4_combine_79 ?_
          refine sm_goto (Y := mX4_combine) (pc := 80) 104 (by decide) dX4_combine_80 ?_
          refine sm_sub [6, 7, 5, 4, 3, 2, 1, 0] rfl ?_
          exact h
        · replace h := h.2 hc
          refine sm_iconst (Y := mX4_combine) (pc := 75) 1 (by decide) dX4_combine_75 ?_
          refine sm_goto (Y := mX4_combine) (pc := 76) 104 (by decide) dX4_combine_76 ?_
          refine sm_sub [6, 7, 5, 4, 3, 2, 1, 0] rfl ?_
          exact h
  · replace h := h.2 hc
    exact sm_vret (Y := mX4_combine) (pc := 8) rfl rfl rfl dX4_combine_8 ⟨rfl, h⟩
theorem dX4_alter_0 : decode cX4_alter 0 = .ok (.aload_n 0, 1) := dk_aload_n_0 (by decide +kernel)
theorem dX4_alter_1 : decode cX4_alter 1 = .ok (.getfield 25, 3) := dk_getfield 25 (b1 := 0) (b2 := 25) (by decide +kernel) (by decide +kernel) (by decide +kernel) (by decide +kernel)
theorem dX4_alter_4 : decode cX4_alter 4 = .ok (.iconst 1, 1) := dk_iconst_1 (by decide +kernel)
theorem dX4_alter_5 : decode cX4_alter 5 = .ok (.if_icmp .ge 4, 3) := dk_if_icmp_ge 4 (b1 := 0) (b2 := 4) (by decide +kernel) (by decide +kernel) (by decide +kernel) (by decide +kernel)
theorem dX4_alter_9 : decode cX4_alter 9 = .ok (.aload_n 0, 1) := dk_aload_n_0 (by decide +kernel)
theorem dX4_alter_10 : decode cX4_alter 10 = .ok (.getfield 25, 3) := dk_getfield 25 (b1 := 0) (b2 := 25) (by decide +kernel) (by decide +kernel) (by decide +kernel) (by decide +kernel)
theorem dX4_alter_13 : decode cX4_alter 13 = .ok (.iconst 1, 1) := dk_iconst_1 (by decide +kernel)
theorem dX4_alter_14 : decode cX4_alter 14 = .ok (.isub, 1) := dk_isub (by decide +kernel)
theorem dX4_alter_15 : decode cX4_alter 15 = .ok (.istore_n 2, 1) := dk_istore_n_2 (by decide +kernel)
theorem dX4_alter_16 : decode cX4_alter 16 = .ok (.aload_n 0, 1) := dk_aload_n_0 (by decide +kernel)
theorem dX4_alter_17 : decode cX4_alter 17 = .ok (.getfield 15, 3) := dk_getfield 15 (b1 := 0) (b2 := 15) (by decide +kernel) (by decide +kernel) (by decide +kernel) (by decide +kernel)
theorem dX4_alter_20 : decode cX4_alter 20 = .ok (.iload_n 2, 1) := dk_iload_n_2 (by decide +kernel)
theorem dX4_alter_21 : decode cX4_alter 21 = .ok (.iaload, 1) := dk_iaload (by decide +kernel)
theorem dX4_alter_22 : decode cX4_alter 22 = .ok (.istore_n 3, 1) := dk_istore_n_3 (by decide +kernel)
theorem dX4_alter_23 : decode cX4_alter 23 = .ok (.aload_n 0, 1) := dk_aload_n_0 (by decide +kernel)
theorem dX4_alter_24 : decode cX4_alter 24 = .ok (.getfield 9, 3) := dk_getfield 9 (b1 := 0) (b2 := 9) (by decide +kernel) (by decide +kernel) (by decide +kernel) (by decide +kernel)
theorem dX4_alter_27 : decode cX4_alter 27 = .ok (.iload_n 2, 1) := dk_iload_n_2 (by decide +kernel)
theorem dX4_alter_28 : decode cX4_alter 28 = .ok (.dup2, 1) := dk_dup2 (by decide +kernel)
theorem dX4_alter_29 : decode cX4_alter 29 = .ok (.iaload, 1) := dk_iaload (by decide +kernel)
theorem dX4_alter_30 : decode cX4_alter 30 = .ok (.iconst 1, 1) := dk_iconst_1 (by decide +kernel)
theorem dX4_alter_31 : decode cX4_alter 31 = .ok (.iadd, 1) := dk_iadd (by decide +kernel)
theorem dX4_alter_32 : decode cX4_alter 32 = .ok (.iastore, 1) := dk_iastore (by decide +kernel)
theorem dX4_alter_33 : decode cX4_alter 33 = .ok (.iload_n 1, 1) := dk_iload_n_1 (by decide +kernel)
theorem dX4_alter_34 : decode cX4_alter 34 = .ok (.ifCond .eq 26, 3) := dk_ifCond_eq 26 (b1 := 0) (b2 := 26) (by decide +kernel) (by decide +kernel) (by decide +kernel) (by decide +kernel)
theorem dX4_alter_60 : decode cX4_alter 60 = .ok (.aload_n 0, 1) := dk_aload_n_0 (by decide +kernel)
theorem dX4_alter_61 : decode cX4_alter 61 = .ok (.getfield 15, 3) := dk_getfield 15 (b1 := 0) (b2 := 15) (by decide +kernel) (by decide +kernel) (by decide +kernel) (by decide +kernel)
theorem dX4_alter_64 : decode cX4_alter 64 = .ok (.iload_n 2, 1) := dk_iload_n_2 (by decide +kernel)
theorem dX4_alter_65 : decode cX4_alter 65 = .ok (.iload_n 3, 1) := dk_iload_n_3 (by decide +kernel)
theorem dX4_alter_66 : decode cX4_alter 66 = .ok (.ineg, 1) := dk_ineg (by decide +kernel)
theorem dX4_alter_67 : decode cX4_alter 67 = .ok (.iastore, 1) := dk_iastore (by decide +kernel)
theorem dX4_alter_68 : decode cX4_alter 68 = .ok (.return_, 1) := dk_return_ (by decide +kernel)
theorem dX4_alter_37 : decode cX4_alter 37 = .ok (.aload_n 0, 1) := dk_aload_n_0 (by decide +kernel)
theorem dX4_alter_38 : decode cX4_alter 38 = .ok (.getfield 15, 3) := dk_getfield 15 (b1 := 0) (b2 := 15) (by decide +kernel) (by decide +kernel) (by decide +kernel) (by decide +kernel)
theorem dX4_alter_41 : decode cX4_alter 41 = .ok (.iload_n 2, 1) := dk_iload_n_2 (by decide +kernel)
theorem dX4_alter_42 : decode cX4_alter 42 = .ok (.aload_n 0, 1) := dk_aload_n_0 (by decide +kernel)
theorem dX4_alter_43 : decode cX4_alter 43 = .ok (.getfield 18, 3) := dk_getfield 18 (b1 := 0) (b2 := 18) (by decide +kernel) (by decide +kernel) (by decide +kernel) (by decide +kernel)
theorem dX4_alter_46 : decode cX4_alter 46 = .ok (.iload_n 2, 1) := dk_iload_n_2 (by decide +kernel)
theorem dX4_alter_47 : decode cX4_alter 47 = .ok (.iaload, 1) := dk_iaload (by decide +kernel)
theorem dX4_alter_48 : decode cX4_alter 48 = .ok (.ineg, 1) := dk_ineg (by decide +kernel)
theorem dX4_alter_49 : decode cX4_alter 49 = .ok (.iastore, 1) := dk_iastore (by decide +kernel)
theorem dX4_alter_50 : decode cX4_alter 50 = .ok (.aload_n 0, 1) := dk_aload_n_0 (by decide +kernel)
theorem dX4_alter_51 : decode cX4_alter 51 = .ok (.getfield 18, 3) := dk_getfield 18 (b1 := 0) (b2 := 18) (by decide +kernel) (by decide +kernel) (by decide +kernel) (by decide +kernel)
theorem dX4_alter_54 : decode cX4_alter 54 = .ok (.iload_n 2, 1) := dk_iload_n_2 (by decide +kernel)
theorem dX4_alter_55 : decode cX4_alter 55 = .ok (.iload_n 3, 1) := dk_iload_n_3 (by decide +kernel)
theorem dX4_alter_56 : decode cX4_alter 56 = .ok (.iastore, 1) := dk_iastore (by decide +kernel)
theorem dX4_alter_57 : decode cX4_alter 57 = .ok (.goto 11, 3) := dk_goto 11 (b1 := 0) (b2 := 11) (by decide +kernel) (by decide +kernel) (by decide +kernel) (by decide +kernel)
theorem dX4_alter_8 : decode cX4_alter 8 = .ok (.return_, 1) := dk_return_ (by decide +kernel)
set_option maxRecDepth 20000 in
theorem vX4_alter_0 {E : sm_E} {L : sm_S → Prop} {d : Nat} {x1 : Int32}  {m : sm_M} {Q : sm_M → Prop} (hly : ∀ S, L S → ly S) (hd : 1 ≤ d) 
  (h : (1 ≤ (m.1 5 4) →
      ∀ x2_1 : Int32, x2_1 = (m.1 5 4) - 1 →
      (vp_in x2_1 24) ∧ ∀ x3_3 : Int32, x3_3 = m.1 7 x2_1.toNatClampNeg →
      (vp_in x2_1 24) ∧ (vp_in x2_1 24) ∧ ∀ m_5 : sm_M, m_5 = sm_wI m 6 x2_1.toNatClampNeg ((m.1 6 x2_1.toNatClampNeg) + 1) →
      (x1 = 0 →
         (vp_in x2_1 24) ∧ ∀ m_7 : sm_M, m_7 = sm_wI m_5 7 x2_1.toNatClampNeg (-x3_3) →
         Q m_7) ∧
      (¬ x1 = 0 →
         (vp_in x2_1 24) ∧ (vp_in x2_1 24) ∧ ∀ m_10 : sm_M, m_10 = sm_wI m_5 7 x2_1.toNatClampNeg (-(m_5.1 8 x2_1.toNatClampNeg)) →
         (vp_in x2_1 24) ∧ ∀ m_12 : sm_M, m_12 = sm_wI m_10 8 x2_1.toNatClampNeg x3_3 →
         Q m_12)) ∧
   (¬ 1 ≤ (m.1 5 4) →
      Q m)) :
  sm_callV E L mX4_alter d 0 0 [.ref (sm_B E + 5), .int x1] m Q := by
  refine sm_enter (by decide +kernel) (by simp [lg_sl, Value.category]) ?_
  refine sm_aload_n (Y := mX4_alter) (pc := 0) 0 0 rfl rfl dX4_alter_0 ?_
  refine gf_RX4_25 (Y := mX4_alter) (pc := 1) rfl ((lk_5 hly) _) dX4_alter_1 ?_
  refine sm_iconst (Y := mX4_alter) (pc := 4) 1 (by decide) dX4_alter_4 ?_
  refine sm_icmp_ge (Y := mX4_alter) (pc := 5) 9 (by decide) dX4_alter_5 (fun hc => ?_) (fun hc => ?_)
  · replace h := h.1 hc
    refine sm_aload_n (Y := mX4_alter) (pc := 9) 0 0 rfl rfl dX4_alter_9 ?_
    refine gf_RX4_25 (Y := mX4_alter) (pc := 10) rfl ((lk_5 hly) _) dX4_alter_10 ?_
    refine sm_iconst (Y := mX4_alter) (pc := 13) 1 (by decide) dX4_alter_13 ?_
    refine sm_isub (Y := mX4_alter) (pc := 14) dX4_alter_14 ?_
    refine sm_istore_n (Y := mX4_alter) (pc := 15) (fun y => [(2, .int y), (0, .ref (sm_B E + 5)), (1, .int x1)]) 2 rfl (by decide) (fun _ => rfl) dX4_alter_15 (fun x2_1 ex2_1 => ?_)
    replace h := h x2_1 ex2_1
    refine sm_aload_n (Y := mX4_alter) (pc := 16) 1 0 rfl rfl dX4_alter_16 ?_
    refine gf_RX4_15 (Y := mX4_alter) (pc := 17) (b := 7) rfl ((lk_5 hly) _) (lf_5_1 hly _) dX4_alter_17 ?_
    refine sm_iload_n (Y := mX4_alter) (pc := 20) 0 2 rfl rfl dX4_alter_20 ?_
    obtain ⟨hn_2, h⟩ := h
    refine sm_iald (Y := mX4_alter) (pc := 21) (la_7 hly _) hn_2 dX4_alter_21 ?_
    refine sm_istore_n (Y := mX4_alter) (pc := 22) (fun y => [(3, .int y), (2, .int x2_1), (0, .ref (sm_B E + 5)), (1, .int x1)]) 3 rfl (by decide) (fun _ => rfl) dX4_alter_22 (fun x3_3 ex3_3 => ?_)
    replace h := h x3_3 ex3_3
    refine sm_aload_n (Y := mX4_alter) (pc := 23) 2 0 rfl rfl dX4_alter_23 ?_
    refine gf_RX4_9 (Y := mX4_alter) (pc := 24) (b := 6) rfl ((lk_5 hly) _) (lf_5_0 hly _) dX4_alter_24 ?_
    refine sm_iload_n (Y := mX4_alter) (pc := 27) 1 2 rfl rfl dX4_alter_27 ?_
    refine sm_dup2_11 (Y := mX4_alter) (pc := 28) rfl rfl dX4_alter_28 ?_
    obtain ⟨hn_4, h⟩ := h
    refine sm_iald (Y := mX4_alter) (pc := 29) (la_6 hly _) hn_4 dX4_alter_29 ?_
    refine sm_iconst (Y := mX4_alter) (pc := 30) 1 (by decide) dX4_alter_30 ?_
    refine sm_iadd (Y := mX4_alter) (pc := 31) dX4_alter_31 ?_
    obtain ⟨hn_6, h⟩ := h
    refine sm_iast (Y := mX4_alter) (pc := 32) (la_6 hly _) hn_6 dX4_alter_32 (fun m_5 em_5 => ?_)
    replace h := h m_5 em_5
    refine sm_iload_n (Y := mX4_alter) (pc := 33) 3 1 rfl rfl dX4_alter_33 ?_
    refine sm_if_eq (Y := mX4_alter) (pc := 34) 60 (by decide) dX4_alter_34 (fun hc => ?_) (fun hc => ?_)
    · replace h := h.1 hc
      refine sm_aload_n (Y := mX4_alter) (pc := 60) 2 0 rfl rfl dX4_alter_60 ?_
      refine gf_RX4_15 (Y := mX4_alter) (pc := 61) (b := 7) rfl ((lk_5 hly) _) (lf_5_1 hly _) dX4_alter_61 ?_
      refine sm_iload_n (Y := mX4_alter) (pc := 64) 1 2 rfl rfl dX4_alter_64 ?_
      refine sm_iload_n (Y := mX4_alter) (pc := 65) 0 3 rfl rfl dX4_alter_65 ?_
      refine sm_ineg (Y := mX4_alter) (pc := 66) dX4_alter_66 ?_
      obtain ⟨hn_8, h⟩ := h
      refine sm_iast (Y := mX4_alter) (pc := 67) (la_7 hly _) hn_8 dX4_alter_67 (fun m_7 em_7 => ?_)
      replace h := h m_7 em_7
      exact sm_vret (Y := mX4_alter) (pc := 68) rfl rfl rfl dX4_alter_68 ⟨rfl, h⟩
    · replace h := h.2 hc
      refine sm_aload_n (Y := mX4_alter) (pc := 37) 2 0 rfl rfl dX4_alter_37 ?_
      refine gf_RX4_15 (Y := mX4_alter) (pc := 38) (b := 7) rfl ((lk_5 hly) _) (lf_5_1 hly _) dX4_alter_38 ?_
      refine sm_iload_n (Y := mX4_alter) (pc := 41) 1 2 rfl rfl dX4_alter_41 ?_
      refine sm_aload_n (Y := mX4_alter) (pc := 42) 2 0 rfl rfl dX4_alter_42 ?_
      refine gf_RX4_18 (Y := mX4_alter) (pc := 43) (b := 8) rfl ((lk_5 hly) _) (lf_5_2 hly _) dX4_alter_43 ?_
      refine sm_iload_n (Y := mX4_alter) (pc := 46) 1 2 rfl rfl dX4_alter_46 ?_
      obtain ⟨hn_9, h⟩ := h
      refine sm_iald (Y := mX4_alter) (pc := 47) (la_8 hly _) hn_9 dX4_alter_47 ?_
      refine sm_ineg (Y := mX4_alter) (pc := 48) dX4_alter_48 ?_
      obtain ⟨hn_11, h⟩ := h
      refine sm_iast (Y := mX4_alter) (pc := 49) (la_7 hly _) hn_11 dX4_alter_49 (fun m_10 em_10 => ?_)
      replace h := h m_10 em_10
      refine sm_aload_n (Y := mX4_alter) (pc := 50) 2 0 rfl rfl dX4_alter_50 ?_
      refine gf_RX4_18 (Y := mX4_alter) (pc := 51) (b := 8) rfl ((lk_5 hly) _) (lf_5_2 hly _) dX4_alter_51 ?_
      refine sm_iload_n (Y := mX4_alter) (pc := 54) 1 2 rfl rfl dX4_alter_54 ?_
      refine sm_iload_n (Y := mX4_alter) (pc := 55) 0 3 rfl rfl dX4_alter_55 ?_
      obtain ⟨hn_13, h⟩ := h
      refine sm_iast (Y := mX4_alter) (pc := 56) (la_8 hly _) hn_13 dX4_alter_56 (fun m_12 em_12 => ?_)
      replace h := h m_12 em_12
      refine sm_goto (Y := mX4_alter) (pc := 57) 68 (by decide) dX4_alter_57 ?_
      exact sm_vret (Y := mX4_alter) (pc := 68) rfl rfl rfl dX4_alter_68 ⟨rfl, h⟩
  · replace h := h.2 hc
    exact sm_vret (Y := mX4_alter) (pc := 8) rfl rfl rfl dX4_alter_8 ⟨rfl, h⟩
theorem dX4_isUnit_0 : decode cX4_isUnit 0 = .ok (.iload_n 0, 1) := dk_iload_n_0 (by decide +kernel)
theorem dX4_isUnit_1 : decode cX4_isUnit 1 = .ok (.iconst 1, 1) := dk_iconst_1 (by decide +kernel)
theorem dX4_isUnit_2 : decode cX4_isUnit 2 = .ok (.if_icmp .eq 8, 3) := dk_if_icmp_eq 8 (b1 := 0) (b2 := 8) (by decide +kernel) (by decide +kernel) (by decide +kernel) (by decide +kernel)
theorem dX4_isUnit_10 : decode cX4_isUnit 10 = .ok (.iconst 1, 1) := dk_iconst_1 (by decide +kernel)
theorem dX4_isUnit_11 : decode cX4_isUnit 11 = .ok (.goto 4, 3) := dk_goto 4 (b1 := 0) (b2 := 4) (by decide +kernel) (by decide +kernel) (by decide +kernel) (by decide +kernel)
theorem dX4_isUnit_15 : decode cX4_isUnit 15 = .ok (.ireturn, 1) := dk_ireturn (by decide +kernel)
theorem dX4_isUnit_5 : decode cX4_isUnit 5 = .ok (.iload_n 0, 1) := dk_iload_n_0 (by decide +kernel)
theorem dX4_isUnit_6 : decode cX4_isUnit 6 = .ok (.iconst (-1), 1) := dk_iconst_m1 (by decide +kernel)
theorem dX4_isUnit_7 : decode cX4_isUnit 7 = .ok (.if_icmp .ne 7, 3) := dk_if_icmp_ne 7 (b1 := 0) (b2 := 7) (by decide +kernel) (by decide +kernel) (by decide +kernel) (by decide +kernel)
theorem dX4_isUnit_14 : decode cX4_isUnit 14 = .ok (.iconst 0, 1) := dk_iconst_0 (by decide +kernel)
set_option maxRecDepth 20000 in
theorem vX4_isUnit_0 {E : sm_E} {L : sm_S → Prop} {d : Nat} {x0 : Int32}  {m : sm_M} {Q : Int32 → sm_M → Prop}  (hd : 1 ≤ d) 
  (h : (x0 = 1 →
      Q 1 m) ∧
   (¬ x0 = 1 →
      (¬ x0 = (-1) →
         Q 0 m) ∧
      (x0 = (-1) →
         Q 1 m))) :
  sm_callI E L mX4_isUnit d 0 0 [.int x0] m Q := by
  refine sm_enter (by decide +kernel) (by simp [lg_sl, Value.category]) ?_
  refine sm_iload_n (Y := mX4_isUnit) (pc := 0) 0 0 rfl rfl dX4_isUnit_0 ?_
  refine sm_iconst (Y := mX4_isUnit) (pc := 1) 1 (by decide) dX4_isUnit_1 ?_
  refine sm_icmp_eq (Y := mX4_isUnit) (pc := 2) 10 (by decide) dX4_isUnit_2 (fun hc => ?_) (fun hc => ?_)
  · replace h := h.1 hc
    refine sm_iconst (Y := mX4_isUnit) (pc := 10) 1 (by decide) dX4_isUnit_10 ?_
    refine sm_goto (Y := mX4_isUnit) (pc := 11) 15 (by decide) dX4_isUnit_11 ?_
    exact sm_zret (Y := mX4_isUnit) (pc := 15) rfl (by decide) rfl rfl dX4_isUnit_15 ⟨_, rfl, h⟩
  · replace h := h.2 hc
    refine sm_iload_n (Y := mX4_isUnit) (pc := 5) 0 0 rfl rfl dX4_isUnit_5 ?_
    refine sm_iconst (Y := mX4_isUnit) (pc := 6) (-1) (by decide) dX4_isUnit_6 ?_
    refine sm_icmp_ne (Y := mX4_isUnit) (pc := 7) 14 (by decide) dX4_isUnit_7 (fun hc => ?_) (fun hc => ?_)
    · replace h := h.1 hc
      refine sm_iconst (Y := mX4_isUnit) (pc := 14) 0 (by decide) dX4_isUnit_14 ?_
      exact sm_zret (Y := mX4_isUnit) (pc := 15) rfl (by decide) rfl rfl dX4_isUnit_15 ⟨_, rfl, h⟩
    · replace h := h.2 hc
      refine sm_iconst (Y := mX4_isUnit) (pc := 10) 1 (by decide) dX4_isUnit_10 ?_
      refine sm_goto (Y := mX4_isUnit) (pc := 11) 15 (by decide) dX4_isUnit_11 ?_
      exact sm_zret (Y := mX4_isUnit) (pc := 15) rfl (by decide) rfl rfl dX4_isUnit_15 ⟨_, rfl, h⟩
def gX4_reduce_67 (E : sm_E) (L : sm_S → Prop) (d : Nat) (vs : List Value) (a0 : Nat) (s0 : Int32) (m : sm_M) (Q : sm_M → Prop) : Prop := sm_go E L mX4_reduce d 0 0 vs 67 [(0, .ref (sm_B E + a0))] [.int s0] m 0 0 (sm_Z E L vs 0 0 (sm_QV Q))
def gX4_reduce_22 (E : sm_E) (L : sm_S → Prop) (d : Nat) (vs : List Value) (a0 : Nat) (x1 : Int32) (b0 : Nat) (s1 : Int32) (m : sm_M) (Q : sm_M → Prop) : Prop := sm_go E L mX4_reduce d 0 0 vs 22 [(0, .ref (sm_B E + a0)), (1, .int x1)] [.int s1, .ref (sm_B E + b0)] m 0 0 (sm_Z E L vs 0 0 (sm_QV Q))
theorem dX4_reduce_67 : decode cX4_reduce 67 = .ok (.istore_n 3, 1) := dk_istore_n_3 (by decide +kernel)
theorem dX4_reduce_68 : decode cX4_reduce 68 = .ok (.aload_n 0, 1) := dk_aload_n_0 (by decide +kernel)
theorem dX4_reduce_69 : decode cX4_reduce 69 = .ok (.aload_n 0, 1) := dk_aload_n_0 (by decide +kernel)
theorem dX4_reduce_70 : decode cX4_reduce 70 = .ok (.getfield 51, 3) := dk_getfield 51 (b1 := 0) (b2 := 51) (by decide +kernel) (by decide +kernel) (by decide +kernel) (by decide +kernel)
theorem dX4_reduce_73 : decode cX4_reduce 73 = .ok (.iload_n 3, 1) := dk_iload_n_3 (by decide +kernel)
theorem dX4_reduce_74 : decode cX4_reduce 74 = .ok (.idiv, 1) := dk_idiv (by decide +kernel)
theorem dX4_reduce_75 : decode cX4_reduce 75 = .ok (.putfield 83, 3) := dk_putfield 83 (b1 := 0) (b2 := 83) (by decide +kernel) (by decide +kernel) (by decide +kernel) (by decide +kernel)
theorem dX4_reduce_78 : decode cX4_reduce 78 = .ok (.aload_n 0, 1) := dk_aload_n_0 (by decide +kernel)
theorem dX4_reduce_79 : decode cX4_reduce 79 = .ok (.aload_n 0, 1) := dk_aload_n_0 (by decide +kernel)
theorem dX4_reduce_80 : decode cX4_reduce 80 = .ok (.getfield 54, 3) := dk_getfield 54 (b1 := 0) (b2 := 54) (by decide +kernel) (by decide +kernel) (by decide +kernel) (by decide +kernel)
theorem dX4_reduce_83 : decode cX4_reduce 83 = .ok (.iload_n 3, 1) := dk_iload_n_3 (by decide +kernel)
theorem dX4_reduce_84 : decode cX4_reduce 84 = .ok (.idiv, 1) := dk_idiv (by decide +kernel)
theorem dX4_reduce_85 : decode cX4_reduce 85 = .ok (.putfield 86, 3) := dk_putfield 86 (b1 := 0) (b2 := 86) (by decide +kernel) (by decide +kernel) (by decide +kernel) (by decide +kernel)
theorem dX4_reduce_88 : decode cX4_reduce 88 = .ok (.return_, 1) := dk_return_ (by decide +kernel)
set_option maxRecDepth 20000 in
theorem vX4_reduce_67 {E : sm_E} {L : sm_S → Prop} {d : Nat} {vs : List Value} {a0 : Nat} {s0 : Int32} {na0 : Nat} {m : sm_M} {Q : sm_M → Prop}  (hd : 3 ≤ d) (hTa0 : sm_tan L a0 na0)
  (h : (¬ s0 = 0) ∧ ∀ m_3 : sm_M, m_3 = sm_wI m a0 9 ((m.1 a0 5) / s0) →
   (¬ s0 = 0) ∧ ∀ m_5 : sm_M, m_5 = sm_wI m_3 a0 10 ((m_3.1 a0 6) / s0) →
   Q m_5) :
  gX4_reduce_67 E L d vs a0 s0 m Q := by
  refine sm_istore0_n (Y := mX4_reduce) (pc := 67) [(3, .int s0), (0, .ref (sm_B E + a0))] 3 rfl (by decide) rfl dX4_reduce_67 ?_
  refine sm_aload_n (Y := mX4_reduce) (pc := 68) 1 0 rfl rfl dX4_reduce_68 ?_
  refine sm_aload_n (Y := mX4_reduce) (pc := 69) 1 0 rfl rfl dX4_reduce_69 ?_
  refine gf_RX4_51 (Y := mX4_reduce) (pc := 70) rfl ((fun S hS => (hTa0 S hS).1) _) dX4_reduce_70 ?_
  refine sm_iload_n (Y := mX4_reduce) (pc := 73) 0 3 rfl rfl dX4_reduce_73 ?_
  obtain ⟨hn_2, h⟩ := h
  refine sm_idiv (Y := mX4_reduce) (pc := 74) hn_2 dX4_reduce_74 ?_
  refine pf_RX4_83 (Y := mX4_reduce) (pc := 75) rfl ((fun S hS => (hTa0 S hS).1) _) dX4_reduce_75 (fun m_3 em_3 => ?_)
  replace h := h m_3 em_3
  refine sm_aload_n (Y := mX4_reduce) (pc := 78) 1 0 rfl rfl dX4_reduce_78 ?_
  refine sm_aload_n (Y := mX4_reduce) (pc := 79) 1 0 rfl rfl dX4_reduce_79 ?_
  refine gf_RX4_54 (Y := mX4_reduce) (pc := 80) rfl ((fun S hS => (hTa0 S hS).1) _) dX4_reduce_80 ?_
  refine sm_iload_n (Y := mX4_reduce) (pc := 83) 0 3 rfl rfl dX4_reduce_83 ?_
  obtain ⟨hn_4, h⟩ := h
  refine sm_idiv (Y := mX4_reduce) (pc := 84) hn_4 dX4_reduce_84 ?_
  refine pf_RX4_86 (Y := mX4_reduce) (pc := 85) rfl ((fun S hS => (hTa0 S hS).1) _) dX4_reduce_85 (fun m_5 em_5 => ?_)
  replace h := h m_5 em_5
  exact sm_vret (Y := mX4_reduce) (pc := 88) rfl rfl rfl dX4_reduce_88 ⟨rfl, h⟩
theorem dX4_reduce_22 : decode cX4_reduce 22 = .ok (.putfield 80, 3) := dk_putfield 80 (b1 := 0) (b2 := 80) (by decide +kernel) (by decide +kernel) (by decide +kernel) (by decide +kernel)
theorem dX4_reduce_25 : decode cX4_reduce 25 = .ok (.iload_n 1, 1) := dk_iload_n_1 (by decide +kernel)
theorem dX4_reduce_26 : decode cX4_reduce 26 = .ok (.ifCond .ne 4, 3) := dk_ifCond_ne 4 (b1 := 0) (b2 := 4) (by decide +kernel) (by decide +kernel) (by decide +kernel) (by decide +kernel)
theorem dX4_reduce_30 : decode cX4_reduce 30 = .ok (.aload_n 0, 1) := dk_aload_n_0 (by decide +kernel)
theorem dX4_reduce_31 : decode cX4_reduce 31 = .ok (.getfield 54, 3) := dk_getfield 54 (b1 := 0) (b2 := 54) (by decide +kernel) (by decide +kernel) (by decide +kernel) (by decide +kernel)
theorem dX4_reduce_34 : decode cX4_reduce 34 = .ok (.ifCond .lt 17, 3) := dk_ifCond_lt 17 (b1 := 0) (b2 := 17) (by decide +kernel) (by decide +kernel) (by decide +kernel) (by decide +kernel)
theorem dX4_reduce_51 : decode cX4_reduce 51 = .ok (.iconst 1, 1) := dk_iconst_1 (by decide +kernel)
theorem dX4_reduce_52 : decode cX4_reduce 52 = .ok (.goto 4, 3) := dk_goto 4 (b1 := 0) (b2 := 4) (by decide +kernel) (by decide +kernel) (by decide +kernel) (by decide +kernel)
theorem dX4_reduce_56 : decode cX4_reduce 56 = .ok (.istore_n 2, 1) := dk_istore_n_2 (by decide +kernel)
theorem dX4_reduce_57 : decode cX4_reduce 57 = .ok (.iload_n 2, 1) := dk_iload_n_2 (by decide +kernel)
theorem dX4_reduce_58 : decode cX4_reduce 58 = .ok (.ifCond .eq 8, 3) := dk_ifCond_eq 8 (b1 := 0) (b2 := 8) (by decide +kernel) (by decide +kernel) (by decide +kernel) (by decide +kernel)
theorem dX4_reduce_61 : decode cX4_reduce 61 = .ok (.iload_n 1, 1) := dk_iload_n_1 (by decide +kernel)
theorem dX4_reduce_62 : decode cX4_reduce 62 = .ok (.ineg, 1) := dk_ineg (by decide +kernel)
theorem dX4_reduce_63 : decode cX4_reduce 63 = .ok (.goto 4, 3) := dk_goto 4 (b1 := 0) (b2 := 4) (by decide +kernel) (by decide +kernel) (by decide +kernel) (by decide +kernel)
theorem dX4_reduce_37 : decode cX4_reduce 37 = .ok (.aload_n 0, 1) := dk_aload_n_0 (by decide +kernel)
theorem dX4_reduce_38 : decode cX4_reduce 38 = .ok (.getfield 54, 3) := dk_getfield 54 (b1 := 0) (b2 := 54) (by decide +kernel) (by decide +kernel) (by decide +kernel) (by decide +kernel)
theorem dX4_reduce_41 : decode cX4_reduce 41 = .ok (.ifCond .ne 14, 3) := dk_ifCond_ne 14 (b1 := 0) (b2 := 14) (by decide +kernel) (by decide +kernel) (by decide +kernel) (by decide +kernel)
theorem dX4_reduce_55 : decode cX4_reduce 55 = .ok (.iconst 0, 1) := dk_iconst_0 (by decide +kernel)
theorem dX4_reduce_66 : decode cX4_reduce 66 = .ok (.iload_n 1, 1) := dk_iload_n_1 (by decide +kernel)
theorem dX4_reduce_44 : decode cX4_reduce 44 = .ok (.aload_n 0, 1) := dk_aload_n_0 (by decide +kernel)
theorem dX4_reduce_45 : decode cX4_reduce 45 = .ok (.getfield 51, 3) := dk_getfield 51 (b1 := 0) (b2 := 51) (by decide +kernel) (by decide +kernel) (by decide +kernel) (by decide +kernel)
theorem dX4_reduce_48 : decode cX4_reduce 48 = .ok (.ifCond .ge 7, 3) := dk_ifCond_ge 7 (b1 := 0) (b2 := 7) (by decide +kernel) (by decide +kernel) (by decide +kernel) (by decide +kernel)
theorem dX4_reduce_29 : decode cX4_reduce 29 = .ok (.return_, 1) := dk_return_ (by decide +kernel)
set_option maxRecDepth 20000 in
theorem vX4_reduce_22 {E : sm_E} {L : sm_S → Prop} {d : Nat} {vs : List Value} {a0 : Nat} {x1 : Int32} {b0 : Nat} {s1 : Int32} {na0 : Nat} {nb0 : Nat} {m : sm_M} {Q : sm_M → Prop}  (hd : 3 ≤ d) (hTa0 : sm_tan L a0 na0) (hTb0 : sm_tan L b0 nb0)
  (h : (s1 = 0 ∨ s1 = 1) ∧ ∀ m_1 : sm_M, m_1 = sm_wI m b0 8 s1 →
   (¬ x1 = 0 →
      ((m_1.1 a0 6) < 0 →
         gX4_reduce_67 E L d vs a0 (-x1) m_1 Q) ∧
      (¬ (m_1.1 a0 6) < 0 →
         (¬ (m_1.1 a0 6) = 0 →
            gX4_reduce_67 E L d vs a0 x1 m_1 Q) ∧
         ((m_1.1 a0 6) = 0 →
            (0 ≤ (m_1.1 a0 5) →
               gX4_reduce_67 E L d vs a0 x1 m_1 Q) ∧
            (¬ 0 ≤ (m_1.1 a0 5) →
               gX4_reduce_67 E L d vs a0 (-x1) m_1 Q)))) ∧
   (x1 = 0 →
      Q m_1)) :
  gX4_reduce_22 E L d vs a0 x1 b0 s1 m Q := by
  obtain ⟨hn_2, h⟩ := h
  refine pf_RX4_80 (Y := mX4_reduce) (pc := 22) rfl hn_2 ((fun S hS => (hTb0 S hS).1) _) dX4_reduce_22 (fun m_1 em_1 => ?_)
  replace h := h m_1 em_1
  refine sm_iload_n (Y := mX4_reduce) (pc := 25) 1 1 rfl rfl dX4_reduce_25 ?_
  refine sm_if_ne (Y := mX4_reduce) (pc := 26) 30 (by decide) dX4_reduce_26 (fun hc => ?_) (fun hc => ?_)
  · replace h := h.1 hc
    refine sm_aload_n (Y := mX4_reduce) (pc := 30) 0 0 rfl rfl dX4_reduce_30 ?_
    refine gf_RX4_54 (Y := mX4_reduce) (pc := 31) rfl ((fun S hS => (hTa0 S hS).1) _) dX4_reduce_31 ?_
    refine sm_if_lt (Y := mX4_reduce) (pc := 34) 51 (by decide) dX4_reduce_34 (fun hc => ?_) (fun hc => ?_)
    · replace h := h.1 hc
      refine sm_iconst (Y := mX4_reduce) (pc := 51) 1 (by decide) dX4_reduce_51 ?_
      refine sm_goto (Y := mX4_reduce) (pc := 52) 56 (by decide) dX4_reduce_52 ?_
      refine sm_istore0_n (Y := mX4_reduce) (pc := 56) [(2, .int 1), (0, .ref (sm_B E + a0)), (1, .int x1)] 2 rfl (by decide) rfl dX4_reduce_56 ?_
      refine sm_iload_n (Y := mX4_reduce) (pc := 57) 0 2 rfl rfl dX4_reduce_57 ?_
      refine sm_if_eq (Y := mX4_reduce) (pc := 58) 66 (by decide) dX4_reduce_58 (fun hc => ?_) (fun hc => ?_)
      · exact absurd hc (by decide)
      refine sm_iload_n (Y := mX4_reduce) (pc := 61) 2 1 rfl rfl dX4_reduce_61 ?_
      refine sm_ineg (Y := mX4_reduce) (pc := 62) dX4_reduce_62 ?_
      refine sm_goto (Y := mX4_reduce) (pc := 63) 67 (by decide) dX4_reduce_63 ?_
      refine sm_sub [1] rfl ?_
      exact h
    · replace h := h.2 hc
      refine sm_aload_n (Y := mX4_reduce) (pc := 37) 0 0 rfl rfl dX4_reduce_37 ?_
      refine gf_RX4_54 (Y := mX4_reduce) (pc := 38) rfl ((fun S hS => (hTa0 S hS).1) _) dX4_reduce_38 ?_
      refine sm_if_ne (Y := mX4_reduce) (pc := 41) 55 (by decide) dX4_reduce_41 (fun hc => ?_) (fun hc => ?_)
      · replace h := h.1 hc
        refine sm_iconst (Y := mX4_reduce) (pc := 55) 0 (by decide) dX4_reduce_55 ?_
        refine sm_istore0_n (Y := mX4_reduce) (pc := 56) [(2, .int 0), (0, .ref (sm_B E + a0)), (1, .int x1)] 2 rfl (by decide) rfl dX4_reduce_56 ?_
        refine sm_iload_n (Y := mX4_reduce) (pc := 57) 0 2 rfl rfl dX4_reduce_57 ?_
        refine sm_if_eq (Y := mX4_reduce) (pc := 58) 66 (by decide) dX4_reduce_58 (fun hc => ?_) (fun hc => ?_)
        rotate_left
        · exact absurd hc (by decide)
        refine sm_iload_n (Y := mX4_reduce) (pc := 66) 2 1 rfl rfl dX4_reduce_66 ?_
        refine sm_sub [1] rfl ?_
        exact h
      · replace h := h.2 hc
        refine sm_aload_n (Y := mX4_reduce) (pc := 44) 0 0 rfl rfl dX4_reduce_44 ?_
        refine gf_RX4_51 (Y := mX4_reduce) (pc := 45) rfl ((fun S hS => (hTa0 S hS).1) _) dX4_reduce_45 ?_
        refine sm_if_ge (Y := mX4_reduce) (pc := 48) 55 (by decide) dX4_reduce_48 (fun hc => ?_) (fun hc => ?_)
        · replace h := h.1 hc
          refine sm_iconst (Y := mX4_reduce) (pc := 55) 0 (by decide) dX4_reduce_55 ?_
          refine sm_istore0_n (Y := mX4_reduce) (pc := 56) [(2, .int 0), (0, .ref (sm_B E + a0)), (1, .int x1)] 2 rfl (by decide) rfl dX4_reduce_56 ?_
          refine sm_iload_n (Y := mX4_reduce) (pc := 57) 0 2 rfl rfl dX4_reduce_57 ?_
          refine sm_if_eq (Y := mX4_reduce) (pc := 58) 66 (by decide) dX4_reduce_58 (fun hc => ?_) (fun hc => ?_)
          rotate_left
          · exact absurd hc (by decide)
          refine sm_iload_n (Y := mX4_reduce) (pc := 66) 2 1 rfl rfl dX4_reduce_66 ?_
          refine sm_sub [1] rfl ?_
          exact h
        · replace h := h.2 hc
          refine sm_iconst (Y := mX4_reduce) (pc := 51) 1 (by decide) dX4_reduce_51 ?_
          refine sm_goto (Y := mX4_reduce) (pc := 52) 56 (by decide) dX4_reduce_52 ?_
          refine sm_istore0_n (Y := mX4_reduce) (pc := 56) [(2, .int 1), (0, .ref (sm_B E + a0)), (1, .int x1)] 2 rfl (by decide) rfl dX4_reduce_56 ?_
          refine sm_iload_n (Y := mX4_reduce) (pc := 57) 0 2 rfl rfl dX4_reduce_57 ?_
          refine sm_if_eq (Y := mX4_reduce) (pc := 58) 66 (by decide) dX4_reduce_58 (fun hc => ?_) (fun hc => ?_)
          · exact absurd hc (by decide)
          refine sm_iload_n (Y := mX4_reduce) (pc := 61) 2 1 rfl rfl dX4_reduce_61 ?_
          refine sm_ineg (Y := mX4_reduce) (pc := 62) dX4_reduce_62 ?_
          refine sm_goto (Y := mX4_reduce) (pc := 63) 67 (by decide) dX4_reduce_63 ?_
          refine sm_sub [1] rfl ?_
          exact h
  · replace h := h.2 hc
    exact sm_vret (Y := mX4_reduce) (pc := 29) rfl rfl rfl dX4_reduce_29 ⟨rfl, h⟩
theorem dX4_reduce_0 : decode cX4_reduce 0 = .ok (.aload_n 0, 1) := dk_aload_n_0 (by decide +kernel)
theorem dX4_reduce_1 : decode cX4_reduce 1 = .ok (.getfield 51, 3) := dk_getfield 51 (b1 := 0) (b2 := 51) (by decide +kernel) (by decide +kernel) (by decide +kernel) (by decide +kernel)
theorem dX4_reduce_4 : decode cX4_reduce 4 = .ok (.aload_n 0, 1) := dk_aload_n_0 (by decide +kernel)
theorem dX4_reduce_5 : decode cX4_reduce 5 = .ok (.getfield 54, 3) := dk_getfield 54 (b1 := 0) (b2 := 54) (by decide +kernel) (by decide +kernel) (by decide +kernel) (by decide +kernel)
theorem wRX4_75 : Cond.methodLink RX4 75 yX3_divisorOf ∈ sm_T := sm_in 479 (by decide +kernel) (by decide +kernel)
theorem dX4_reduce_8 : decode cX4_reduce 8 = .ok (.invokestatic 75, 3) := dk_invokestatic 75 (b1 := 0) (b2 := 75) (by decide +kernel) (by decide +kernel) (by decide +kernel) (by decide +kernel)
theorem dX4_reduce_11 : decode cX4_reduce 11 = .ok (.istore_n 1, 1) := dk_istore_n_1 (by decide +kernel)
theorem dX4_reduce_12 : decode cX4_reduce 12 = .ok (.aload_n 0, 1) := dk_aload_n_0 (by decide +kernel)
theorem dX4_reduce_13 : decode cX4_reduce 13 = .ok (.iload_n 1, 1) := dk_iload_n_1 (by decide +kernel)
theorem dX4_reduce_14 : decode cX4_reduce 14 = .ok (.ifCond .eq 7, 3) := dk_ifCond_eq 7 (b1 := 0) (b2 := 7) (by decide +kernel) (by decide +kernel) (by decide +kernel) (by decide +kernel)
theorem dX4_reduce_21 : decode cX4_reduce 21 = .ok (.iconst 0, 1) := dk_iconst_0 (by decide +kernel)
theorem dX4_reduce_17 : decode cX4_reduce 17 = .ok (.iconst 1, 1) := dk_iconst_1 (by decide +kernel)
theorem dX4_reduce_18 : decode cX4_reduce 18 = .ok (.goto 4, 3) := dk_goto 4 (b1 := 0) (b2 := 4) (by decide +kernel) (by decide +kernel) (by decide +kernel) (by decide +kernel)
set_option maxRecDepth 20000 in
theorem vX4_reduce_0 {E : sm_E} {L : sm_S → Prop} {d : Nat} {a0 : Nat} {na0 : Nat} {m : sm_M} {Q : sm_M → Prop}  (hd : 3 ≤ d) (hTa0 : sm_tan L a0 na0)
  (h : sm_callI E L mX3_divisorOf 2 0 0 [.int (m.1 a0 5), .int (m.1 a0 6)] m (fun r_2 m_1 =>
   (r_2 = 0 →
      gX4_reduce_22 E L d ([.ref (sm_B E + a0)]) a0 r_2 a0 0 m_1 Q) ∧
   (¬ r_2 = 0 →
      gX4_reduce_22 E L d ([.ref (sm_B E + a0)]) a0 r_2 a0 1 m_1 Q))) :
  sm_callV E L mX4_reduce d 0 0 [.ref (sm_B E + a0)] m Q := by
  refine sm_enter (by decide +kernel) (by simp [lg_sl, Value.category]) ?_
  refine sm_aload_n (Y := mX4_reduce) (pc := 0) 0 0 rfl rfl dX4_reduce_0 ?_
  refine gf_RX4_51 (Y := mX4_reduce) (pc := 1) rfl ((fun S hS => (hTa0 S hS).1) _) dX4_reduce_1 ?_
  refine sm_aload_n (Y := mX4_reduce) (pc := 4) 0 0 rfl rfl dX4_reduce_4 ?_
  refine gf_RX4_54 (Y := mX4_reduce) (pc := 5) rfl ((fun S hS => (hTa0 S hS).1) _) dX4_reduce_5 ?_
  refine sm_is_I (Y := mX4_reduce) (pc := 8) (As := [.int (m.1 a0 5), .int (m.1 a0 6)]) fX3_divisorOf wRX4_75 rfl (Nat.le_trans (by decide) hd) (Nat.le_of_ble_eq_true rfl) ⟨Nat.le_refl _, Nat.le_refl _⟩ dX4_reduce_8 rfl (sm_monoI h (fun r_2 m_1 h => ?_))
  refine sm_istore0_n (Y := mX4_reduce) (pc := 11) [(1, .int r_2), (0, .ref (sm_B E + a0))] 1 rfl (by decide) rfl dX4_reduce_11 ?_
  refine sm_aload_n (Y := mX4_reduce) (pc := 12) 1 0 rfl rfl dX4_reduce_12 ?_
  refine sm_iload_n (Y := mX4_reduce) (pc := 13) 0 1 rfl rfl dX4_reduce_13 ?_
  refine sm_if_eq (Y := mX4_reduce) (pc := 14) 21 (by decide) dX4_reduce_14 (fun hc => ?_) (fun hc => ?_)
  · replace h := h.1 hc
    refine sm_iconst (Y := mX4_reduce) (pc := 21) 0 (by decide) dX4_reduce_21 ?_
    refine sm_sub [1, 0] rfl ?_
    exact h
  · replace h := h.2 hc
    refine sm_iconst (Y := mX4_reduce) (pc := 17) 1 (by decide) dX4_reduce_17 ?_
    refine sm_goto (Y := mX4_reduce) (pc := 18) 22 (by decide) dX4_reduce_18 ?_
    refine sm_sub [1, 0] rfl ?_
    exact h
abbrev mX7_isMissing : sm_Y := (yX7_isMissing, cX7_isMissing, 1, (some FieldType.boolean))
theorem fX7_isMissing : sm_mi mX7_isMissing RX7 0 := ⟨sm_in 1065 (by decide +kernel) (by decide +kernel), sm_in 1063 (by decide +kernel) (by decide +kernel), sm_in 1064 (by decide +kernel) (by decide +kernel), sm_in 92 (by decide +kernel) (by decide +kernel), rfl, ⟨by decide +kernel, by decide +kernel, by decide +kernel⟩, by decide⟩
theorem dX7_isMissing_0 : decode cX7_isMissing 0 = .ok (.aload_n 0, 1) := dk_aload_n_0 (by decide +kernel)
theorem dX7_isMissing_1 : decode cX7_isMissing 1 = .ok (.getfield 15, 3) := dk_getfield 15 (b1 := 0) (b2 := 15) (by decide +kernel) (by decide +kernel) (by decide +kernel) (by decide +kernel)
theorem dX7_isMissing_4 : decode cX7_isMissing 4 = .ok (.ifCond .ne 7, 3) := dk_ifCond_ne 7 (b1 := 0) (b2 := 7) (by decide +kernel) (by decide +kernel) (by decide +kernel) (by decide +kernel)
theorem dX7_isMissing_11 : decode cX7_isMissing 11 = .ok (.iconst 0, 1) := dk_iconst_0 (by decide +kernel)
theorem dX7_isMissing_12 : decode cX7_isMissing 12 = .ok (.ireturn, 1) := dk_ireturn (by decide +kernel)
theorem dX7_isMissing_7 : decode cX7_isMissing 7 = .ok (.iconst 1, 1) := dk_iconst_1 (by decide +kernel)
theorem dX7_isMissing_8 : decode cX7_isMissing 8 = .ok (.goto 4, 3) := dk_goto 4 (b1 := 0) (b2 := 4) (by decide +kernel) (by decide +kernel) (by decide +kernel) (by decide +kernel)
set_option maxRecDepth 20000 in
theorem vX7_isMissing_0 {E : sm_E} {L : sm_S → Prop} {d : Nat} {a0 : Nat}  {m : sm_M} {Q : Int32 → sm_M → Prop}  (hd : 1 ≤ d) (hTa0 : sm_she L a0)
  (h : (¬ (m.1 a0 1) = 0 →
      Q 0 m) ∧
   ((m.1 a0 1) = 0 →
      Q 1 m)) :
  sm_callI E L mX7_isMissing d 0 0 [.ref (sm_B E + a0)] m Q := by
  refine sm_enter (by decide +kernel) (by simp [lg_sl, Value.category]) ?_
  refine sm_aload_n (Y := mX7_isMissing) (pc := 0) 0 0 rfl rfl dX7_isMissing_0 ?_
  refine gf_RX7_15 (Y := mX7_isMissing) (pc := 1) rfl ((fun S hS => (hTa0 S hS).1) _) dX7_isMissing_1 ?_
  refine sm_if_ne (Y := mX7_isMissing) (pc := 4) 11 (by decide) dX7_isMissing_4 (fun hc => ?_) (fun hc => ?_)
  · replace h := h.1 hc
    refine sm_iconst (Y := mX7_isMissing) (pc := 11) 0 (by decide) dX7_isMissing_11 ?_
    exact sm_zret (Y := mX7_isMissing) (pc := 12) rfl (by decide) rfl rfl dX7_isMissing_12 ⟨_, rfl, h⟩
  · replace h := h.2 hc
    refine sm_iconst (Y := mX7_isMissing) (pc := 7) 1 (by decide) dX7_isMissing_7 ?_
    refine sm_goto (Y := mX7_isMissing) (pc := 8) 12 (by decide) dX7_isMissing_8 ?_
    exact sm_zret (Y := mX7_isMissing) (pc := 12) rfl (by decide) rfl rfl dX7_isMissing_12 ⟨_, rfl, h⟩
abbrev mX7_has : sm_Y := (yX7_has, cX7_has, 2, (some FieldType.boolean))
theorem fX7_has : sm_mi mX7_has RX7 1 := ⟨sm_in 691 (by decide +kernel) (by decide +kernel), sm_in 689 (by decide +kernel) (by decide +kernel), sm_in 690 (by decide +kernel) (by decide +kernel), sm_in 92 (by decide +kernel) (by decide +kernel), rfl, ⟨by decide +kernel, by decide +kernel, by decide +kernel⟩, by decide⟩
theorem dX7_has_0 : decode cX7_has 0 = .ok (.iload_n 1, 1) := dk_iload_n_1 (by decide +kernel)
theorem dX7_has_1 : decode cX7_has 1 = .ok (.ifCond .lt 15, 3) := dk_ifCond_lt 15 (b1 := 0) (b2 := 15) (by decide +kernel) (by decide +kernel) (by decide +kernel) (by decide +kernel)
theorem dX7_has_16 : decode cX7_has 16 = .ok (.iconst 0, 1) := dk_iconst_0 (by decide +kernel)
theorem dX7_has_17 : decode cX7_has 17 = .ok (.ireturn, 1) := dk_ireturn (by decide +kernel)
theorem dX7_has_4 : decode cX7_has 4 = .ok (.iload_n 1, 1) := dk_iload_n_1 (by decide +kernel)
theorem dX7_has_5 : decode cX7_has 5 = .ok (.aload_n 0, 1) := dk_aload_n_0 (by decide +kernel)
theorem dX7_has_6 : decode cX7_has 6 = .ok (.getfield 19, 3) := dk_getfield 19 (b1 := 0) (b2 := 19) (by decide +kernel) (by decide +kernel) (by decide +kernel) (by decide +kernel)
theorem dX7_has_9 : decode cX7_has 9 = .ok (.if_icmp .ge 7, 3) := dk_if_icmp_ge 7 (b1 := 0) (b2 := 7) (by decide +kernel) (by decide +kernel) (by decide +kernel) (by decide +kernel)
theorem dX7_has_12 : decode cX7_has 12 = .ok (.iconst 1, 1) := dk_iconst_1 (by decide +kernel)
theorem dX7_has_13 : decode cX7_has 13 = .ok (.goto 4, 3) := dk_goto 4 (b1 := 0) (b2 := 4) (by decide +kernel) (by decide +kernel) (by decide +kernel) (by decide +kernel)
set_option maxRecDepth 20000 in
theorem vX7_has_0 {E : sm_E} {L : sm_S → Prop} {d : Nat} {a0 : Nat} {x1 : Int32}  {m : sm_M} {Q : Int32 → sm_M → Prop}  (hd : 1 ≤ d) (hTa0 : sm_she L a0)
  (h : (x1 < 0 →
      Q 0 m) ∧
   (¬ x1 < 0 →
      ((m.1 a0 2) ≤ x1 →
         Q 0 m) ∧
      (¬ (m.1 a0 2) ≤ x1 →
         Q 1 m))) :
  sm_callI E L mX7_has d 0 0 [.ref (sm_B E + a0), .int x1] m Q := by
  refine sm_enter (by decide +kernel) (by simp [lg_sl, Value.category]) ?_
  refine sm_iload_n (Y := mX7_has) (pc := 0) 1 1 rfl rfl dX7_has_0 ?_
  refine sm_if_lt (Y := mX7_has) (pc := 1) 16 (by decide) dX7_has_1 (fun hc => ?_) (fun hc => ?_)
  · replace h := h.1 hc
    refine sm_iconst (Y := mX7_has) (pc := 16) 0 (by decide) dX7_has_16 ?_
    exact sm_zret (Y := mX7_has) (pc := 17) rfl (by decide) rfl rfl dX7_has_17 ⟨_, rfl, h⟩
  · replace h := h.2 hc
    refine sm_iload_n (Y := mX7_has) (pc := 4) 1 1 rfl rfl dX7_has_4 ?_
    refine sm_aload_n (Y := mX7_has) (pc := 5) 0 0 rfl rfl dX7_has_5 ?_
    refine gf_RX7_19 (Y := mX7_has) (pc := 6) rfl ((fun S hS => (hTa0 S hS).1) _) dX7_has_6 ?_
    refine sm_icmp_ge (Y := mX7_has) (pc := 9) 16 (by decide) dX7_has_9 (fun hc => ?_) (fun hc => ?_)
    · replace h := h.1 hc
      refine sm_iconst (Y := mX7_has) (pc := 16) 0 (by decide) dX7_has_16 ?_
      exact sm_zret (Y := mX7_has) (pc := 17) rfl (by decide) rfl rfl dX7_has_17 ⟨_, rfl, h⟩
    · replace h := h.2 hc
      refine sm_iconst (Y := mX7_has) (pc := 12) 1 (by decide) dX7_has_12 ?_
      refine sm_goto (Y := mX7_has) (pc := 13) 17 (by decide) dX7_has_13 ?_
      exact sm_zret (Y := mX7_has) (pc := 17) rfl (by decide) rfl rfl dX7_has_17 ⟨_, rfl, h⟩
abbrev mX7_hasRun : sm_Y := (yX7_hasRun, cX7_hasRun, 3, (some FieldType.boolean))
theorem fX7_hasRun : sm_mi mX7_hasRun RX7 2 := ⟨sm_in 1082 (by decide +kernel) (by decide +kernel), sm_in 1080 (by decide +kernel) (by decide +kernel), sm_in 1081 (by decide +kernel) (by decide +kernel), sm_in 92 (by decide +kernel) (by decide +kernel), rfl, ⟨by decide +kernel, by decide +kernel, by decide +kernel⟩, by decide⟩
theorem dX7_hasRun_0 : decode cX7_hasRun 0 = .ok (.iload_n 2, 1) := dk_iload_n_2 (by decide +kernel)
theorem dX7_hasRun_1 : decode cX7_hasRun 1 = .ok (.ifCond .lt 29, 3) := dk_ifCond_lt 29 (b1 := 0) (b2 := 29) (by decide +kernel) (by decide +kernel) (by decide +kernel) (by decide +kernel)
theorem dX7_hasRun_30 : decode cX7_hasRun 30 = .ok (.iconst 0, 1) := dk_iconst_0 (by decide +kernel)
theorem dX7_hasRun_31 : decode cX7_hasRun 31 = .ok (.ireturn, 1) := dk_ireturn (by decide +kernel)
theorem dX7_hasRun_4 : decode cX7_hasRun 4 = .ok (.iload_n 1, 1) := dk_iload_n_1 (by decide +kernel)
theorem dX7_hasRun_5 : decode cX7_hasRun 5 = .ok (.ifCond .lt 25, 3) := dk_ifCond_lt 25 (b1 := 0) (b2 := 25) (by decide +kernel) (by decide +kernel) (by decide +kernel) (by decide +kernel)
theorem dX7_hasRun_8 : decode cX7_hasRun 8 = .ok (.iload_n 2, 1) := dk_iload_n_2 (by decide +kernel)
theorem dX7_hasRun_9 : decode cX7_hasRun 9 = .ok (.aload_n 0, 1) := dk_aload_n_0 (by decide +kernel)
theorem dX7_hasRun_10 : decode cX7_hasRun 10 = .ok (.getfield 19, 3) := dk_getfield 19 (b1 := 0) (b2 := 19) (by decide +kernel) (by decide +kernel) (by decide +kernel) (by decide +kernel)
theorem dX7_hasRun_13 : decode cX7_hasRun 13 = .ok (.if_icmp .gt 17, 3) := dk_if_icmp_gt 17 (b1 := 0) (b2 := 17) (by decide +kernel) (by decide +kernel) (by decide +kernel) (by decide +kernel)
theorem dX7_hasRun_16 : decode cX7_hasRun 16 = .ok (.iload_n 1, 1) := dk_iload_n_1 (by decide +kernel)
theorem dX7_hasRun_17 : decode cX7_hasRun 17 = .ok (.aload_n 0, 1) := dk_aload_n_0 (by decide +kernel)
theorem dX7_hasRun_18 : decode cX7_hasRun 18 = .ok (.getfield 19, 3) := dk_getfield 19 (b1 := 0) (b2 := 19) (by decide +kernel) (by decide +kernel) (by decide +kernel) (by decide +kernel)
theorem dX7_hasRun_21 : decode cX7_hasRun 21 = .ok (.iload_n 2, 1) := dk_iload_n_2 (by decide +kernel)
theorem dX7_hasRun_22 : decode cX7_hasRun 22 = .ok (.isub, 1) := dk_isub (by decide +kernel)
theorem dX7_hasRun_23 : decode cX7_hasRun 23 = .ok (.if_icmp .gt 7, 3) := dk_if_icmp_gt 7 (b1 := 0) (b2 := 7) (by decide +kernel) (by decide +kernel) (by decide +kernel) (by decide +kernel)
theorem dX7_hasRun_26 : decode cX7_hasRun 26 = .ok (.iconst 1, 1) := dk_iconst_1 (by decide +kernel)
theorem dX7_hasRun_27 : decode cX7_hasRun 27 = .ok (.goto 4, 3) := dk_goto 4 (b1 := 0) (b2 := 4) (by decide +kernel) (by decide +kernel) (by decide +kernel) (by decide +kernel)
set_option maxRecDepth 20000 in
theorem vX7_hasRun_0 {E : sm_E} {L : sm_S → Prop} {d : Nat} {a0 : Nat} {x1 : Int32} {x2 : Int32}  {m : sm_M} {Q : Int32 → sm_M → Prop}  (hd : 1 ≤ d) (hTa0 : sm_she L a0)
  (h : (x2 < 0 →
      Q 0 m) ∧
   (¬ x2 < 0 →
      (x1 < 0 →
         Q 0 m) ∧
      (¬ x1 < 0 →
         ((m.1 a0 2) < x2 →
            Q 0 m) ∧
         (¬ (m.1 a0 2) < x2 →
            (((m.1 a0 2) - x2) < x1 →
               Q 0 m) ∧
            (¬ ((m.1 a0 2) - x2) < x1 →
               Q 1 m))))) :
  sm_callI E L mX7_hasRun d 0 0 [.ref (sm_B E + a0), .int x1, .int x2] m Q := by
  refine sm_enter (by decide +kernel) (by simp [lg_sl, Value.category]) ?_
  refine sm_iload_n (Y := mX7_hasRun) (pc := 0) 2 2 rfl rfl dX7_hasRun_0 ?_
  refine sm_if_lt (Y := mX7_hasRun) (pc := 1) 30 (by decide) dX7_hasRun_1 (fun hc => ?_) (fun hc => ?_)
  · replace h := h.1 hc
    refine sm_iconst (Y := mX7_hasRun) (pc := 30) 0 (by decide) dX7_hasRun_30 ?_
    exact sm_zret (Y := mX7_hasRun) (pc := 31) rfl (by decide) rfl rfl dX7_hasRun_31 ⟨_, rfl, h⟩
  · replace h := h.2 hc
    refine sm_iload_n (Y := mX7_hasRun) (pc := 4) 1 1 rfl rfl dX7_hasRun_4 ?_
    refine sm_if_lt (Y := mX7_hasRun) (pc := 5) 30 (by decide) dX7_hasRun_5 (fun hc => ?_) (fun hc => ?_)
    · replace h := h.1 hc
      refine sm_iconst (Y := mX7_hasRun) (pc := 30) 0 (by decide) dX7_hasRun_30 ?_
      exact sm_zret (Y := mX7_hasRun) (pc := 31) rfl (by decide) rfl rfl dX7_hasRun_31 ⟨_, rfl, h⟩
    · replace h := h.2 hc
      refine sm_iload_n (Y := mX7_hasRun) (pc := 8) 2 2 rfl rfl dX7_hasRun_8 ?_
      refine sm_aload_n (Y := mX7_hasRun) (pc := 9) 0 0 rfl rfl dX7_hasRun_9 ?_
      refine gf_RX7_19 (Y := mX7_hasRun) (pc := 10) rfl ((fun S hS => (hTa0 S hS).1) _) dX7_hasRun_10 ?_
      refine sm_icmp_gt (Y := mX7_hasRun) (pc := 13) 30 (by decide) dX7_hasRun_13 (fun hc => ?_) (fun hc => ?_)
      · replace h := h.1 hc
        refine sm_iconst (Y := mX7_hasRun) (pc := 30) 0 (by decide) dX7_hasRun_30 ?_
        exact sm_zret (Y := mX7_hasRun) (pc := 31) rfl (by decide) rfl rfl dX7_hasRun_31 ⟨_, rfl, h⟩
      · replace h := h.2 hc
        refine sm_iload_n (Y := mX7_hasRun) (pc := 16) 1 1 rfl rfl dX7_hasRun_16 ?_
        refine sm_aload_n (Y := mX7_hasRun) (pc := 17) 0 0 rfl rfl dX7_hasRun_17 ?_
        refine gf_RX7_19 (Y := mX7_hasRun) (pc := 18) rfl ((fun S hS => (hTa0 S hS).1) _) dX7_hasRun_18 ?_
        refine sm_iload_n (Y := mX7_hasRun) (pc := 21) 2 2 rfl rfl dX7_hasRun_21 ?_
        refine sm_isub (Y := mX7_hasRun) (pc := 22) dX7_hasRun_22 ?_
        refine sm_icmp_gt (Y := mX7_hasRun) (pc := 23) 30 (by decide) dX7_hasRun_23 (fun hc => ?_) (fun hc => ?_)
        · replace h := h.1 hc
          refine sm_iconst (Y := mX7_hasRun) (pc := 30) 0 (by decide) dX7_hasRun_30 ?_
          exact sm_zret (Y := mX7_hasRun) (pc := 31) rfl (by decide) rfl rfl dX7_hasRun_31 ⟨_, rfl, h⟩
        · replace h := h.2 hc
          refine sm_iconst (Y := mX7_hasRun) (pc := 26) 1 (by decide) dX7_hasRun_26 ?_
          refine sm_goto (Y := mX7_hasRun) (pc := 27) 31 (by decide) dX7_hasRun_27 ?_
          exact sm_zret (Y := mX7_hasRun) (pc := 31) rfl (by decide) rfl rfl dX7_hasRun_31 ⟨_, rfl, h⟩
abbrev mX7_reset : sm_Y := (yX7_reset, cX7_reset, 3, none)
theorem fX7_reset : sm_mi mX7_reset RX7 2 := ⟨sm_in 662 (by decide +kernel) (by decide +kernel), sm_in 660 (by decide +kernel) (by decide +kernel), sm_in 661 (by decide +kernel) (by decide +kernel), sm_in 92 (by decide +kernel) (by decide +kernel), rfl, ⟨by decide +kernel, by decide +kernel, by decide +kernel⟩, by decide⟩
theorem dX7_reset_0 : decode cX7_reset 0 = .ok (.aload_n 0, 1) := dk_aload_n_0 (by decide +kernel)
theorem dX7_reset_1 : decode cX7_reset 1 = .ok (.iload_n 1, 1) := dk_iload_n_1 (by decide +kernel)
theorem dX7_reset_2 : decode cX7_reset 2 = .ok (.putfield 15, 3) := dk_putfield 15 (b1 := 0) (b2 := 15) (by decide +kernel) (by decide +kernel) (by decide +kernel) (by decide +kernel)
theorem dX7_reset_5 : decode cX7_reset 5 = .ok (.aload_n 0, 1) := dk_aload_n_0 (by decide +kernel)
theorem dX7_reset_6 : decode cX7_reset 6 = .ok (.iload_n 2, 1) := dk_iload_n_2 (by decide +kernel)
theorem dX7_reset_7 : decode cX7_reset 7 = .ok (.iconst 0, 1) := dk_iconst_0 (by decide +kernel)
theorem wRX7_29 : Cond.methodLink RX7 29 yJ9_max_7cf53 ∈ sm_T := sm_in 663 (by decide +kernel) (by decide +kernel)
theorem dX7_reset_8 : decode cX7_reset 8 = .ok (.invokestatic 29, 3) := dk_invokestatic 29 (b1 := 0) (b2 := 29) (by decide +kernel) (by decide +kernel) (by decide +kernel) (by decide +kernel)
theorem dX7_reset_11 : decode cX7_reset 11 = .ok (.aload_n 0, 1) := dk_aload_n_0 (by decide +kernel)
theorem dX7_reset_12 : decode cX7_reset 12 = .ok (.getfield 9, 3) := dk_getfield 9 (b1 := 0) (b2 := 9) (by decide +kernel) (by decide +kernel) (by decide +kernel) (by decide +kernel)
theorem dX7_reset_15 : decode cX7_reset 15 = .ok (.arraylength, 1) := dk_arraylength (by decide +kernel)
theorem wRX7_35 : Cond.methodLink RX7 35 yJ9_min_7cf53 ∈ sm_T := sm_in 664 (by decide +kernel) (by decide +kernel)
theorem dX7_reset_16 : decode cX7_reset 16 = .ok (.invokestatic 35, 3) := dk_invokestatic 35 (b1 := 0) (b2 := 35) (by decide +kernel) (by decide +kernel) (by decide +kernel) (by decide +kernel)
theorem dX7_reset_19 : decode cX7_reset 19 = .ok (.putfield 19, 3) := dk_putfield 19 (b1 := 0) (b2 := 19) (by decide +kernel) (by decide +kernel) (by decide +kernel) (by decide +kernel)
theorem dX7_reset_22 : decode cX7_reset 22 = .ok (.aload_n 0, 1) := dk_aload_n_0 (by decide +kernel)
theorem dX7_reset_23 : decode cX7_reset 23 = .ok (.getfield 9, 3) := dk_getfield 9 (b1 := 0) (b2 := 9) (by decide +kernel) (by decide +kernel) (by decide +kernel) (by decide +kernel)
theorem dX7_reset_26 : decode cX7_reset 26 = .ok (.lconst 0, 1) := dk_lconst_0 (by decide +kernel)
theorem wRX7_38 : Cond.methodLink RX7 38 yJ7_fill_d0a16 ∈ sm_T := sm_in 667 (by decide +kernel) (by decide +kernel)
theorem dX7_reset_27 : decode cX7_reset 27 = .ok (.invokestatic 38, 3) := dk_invokestatic 38 (b1 := 0) (b2 := 38) (by decide +kernel) (by decide +kernel) (by decide +kernel) (by decide +kernel)
theorem dX7_reset_30 : decode cX7_reset 30 = .ok (.return_, 1) := dk_return_ (by decide +kernel)
set_option maxRecDepth 20000 in
theorem vX7_reset_0 {E : sm_E} {L : sm_S → Prop} {d : Nat} {a0 : Nat} {x1 : Int32} {x2 : Int32}  {m : sm_M} {Q : sm_M → Prop}  (hd : 2 ≤ d) (hTa0 : sm_she L a0)
  (h : ∀ m_1 : sm_M, m_1 = sm_wI m a0 1 x1 →
   sm_callI E L mJ9_max_7cf53 1 0 0 [.int x2, .int 0] m_1 (fun r_3 m_2 =>
   sm_callI E L mJ9_min_7cf53 1 0 0 [.int r_3, .int (nI 48)] m_2 (fun r_5 m_4 =>
   ∀ m_6 : sm_M, m_6 = sm_wI m_4 a0 2 r_5 →
   sm_callV E L mJ7_fill_d0a16 1 0 0 [.ref (sm_B E + (a0 + 1)), .long 0] m_6 (fun m_7 =>
   Q m_7)))) :
  sm_callV E L mX7_reset d 0 0 [.ref (sm_B E + a0), .int x1, .int x2] m Q := by
  refine sm_enter (by decide +kernel) (by simp [lg_sl, Value.category]) ?_
  refine sm_aload_n (Y := mX7_reset) (pc := 0) 0 0 rfl rfl dX7_reset_0 ?_
  refine sm_iload_n (Y := mX7_reset) (pc := 1) 1 1 rfl rfl dX7_reset_1 ?_
  refine pf_RX7_15 (Y := mX7_reset) (pc := 2) rfl ((fun S hS => (hTa0 S hS).1) _) dX7_reset_2 (fun m_1 em_1 => ?_)
  replace h := h m_1 em_1
  refine sm_aload_n (Y := mX7_reset) (pc := 5) 0 0 rfl rfl dX7_reset_5 ?_
  refine sm_iload_n (Y := mX7_reset) (pc := 6) 2 2 rfl rfl dX7_reset_6 ?_
  refine sm_iconst (Y := mX7_reset) (pc := 7) 0 (by decide) dX7_reset_7 ?_
  refine sm_is_I (Y := mX7_reset) (pc := 8) (As := [.int x2, .int 0]) fJ9_max_7cf53 wRX7_29 rfl (Nat.le_trans (by decide) hd) (Nat.le_of_ble_eq_true rfl) ⟨Nat.le_refl _, Nat.le_refl _⟩ dX7_reset_8 rfl (sm_monoI h (fun r_3 m_2 h => ?_))
  refine sm_aload_n (Y := mX7_reset) (pc := 11) 0 0 rfl rfl dX7_reset_11 ?_
  refine gf_RX7_9 (Y := mX7_reset) (pc := 12) (b := a0 + 1) rfl ((fun S hS => (hTa0 S hS).1) _) (fun hS => (hTa0 _ hS).2.1) dX7_reset_12 ?_
  refine sm_alenJ (Y := mX7_reset) (pc := 15) (fun hS => (hTa0 _ hS).2.2) dX7_reset_15 ?_
  refine sm_is_I (Y := mX7_reset) (pc := 16) (As := [.int r_3, .int (nI 48)]) fJ9_min_7cf53 wRX7_35 rfl (Nat.le_trans (by decide) hd) (Nat.le_of_ble_eq_true rfl) ⟨Nat.le_refl _, Nat.le_refl _⟩ dX7_reset_16 rfl (sm_monoI h (fun r_5 m_4 h => ?_))
  refine pf_RX7_19 (Y := mX7_reset) (pc := 19) rfl ((fun S hS => (hTa0 S hS).1) _) dX7_reset_19 (fun m_6 em_6 => ?_)
  replace h := h m_6 em_6
  refine sm_aload_n (Y := mX7_reset) (pc := 22) 0 0 rfl rfl dX7_reset_22 ?_
  refine gf_RX7_9 (Y := mX7_reset) (pc := 23) (b := a0 + 1) rfl ((fun S hS => (hTa0 S hS).1) _) (fun hS => (hTa0 _ hS).2.1) dX7_reset_23 ?_
  refine sm_lconst (Y := mX7_reset) (pc := 26) 0 (by decide) dX7_reset_26 ?_
  refine sm_is_V (Y := mX7_reset) (pc := 27) (As := [.ref (sm_B E + (a0 + 1)), .long 0]) fJ7_fill_d0a16 wRX7_38 rfl (Nat.le_trans (by decide) hd) (Nat.le_of_ble_eq_true rfl) ⟨Nat.le_refl _, Nat.le_refl _⟩ dX7_reset_27 rfl (sm_monoV h (fun m_7 h => ?_))
  exact sm_vret (Y := mX7_reset) (pc := 30) rfl rfl rfl dX7_reset_30 ⟨rfl, h⟩
abbrev mX7_store : sm_Y := (yX7_store, cX7_store, 5, none)
theorem fX7_store : sm_mi mX7_store RX7 2 := ⟨sm_in 851 (by decide +kernel) (by decide +kernel), sm_in 849 (by decide +kernel) (by decide +kernel), sm_in 850 (by decide +kernel) (by decide +kernel), sm_in 92 (by decide +kernel) (by decide +kernel), rfl, ⟨by decide +kernel, by decide +kernel, by decide +kernel⟩, by decide⟩
theorem dX7_store_0 : decode cX7_store 0 = .ok (.aload_n 0, 1) := dk_aload_n_0 (by decide +kernel)
theorem dX7_store_1 : decode cX7_store 1 = .ok (.iload_n 1, 1) := dk_iload_n_1 (by decide +kernel)
theorem wRX7_44 : Cond.methodLink RX7 44 yX7_has ∈ sm_T := sm_in 696 (by decide +kernel) (by decide +kernel)
theorem dX7_store_2 : decode cX7_store 2 = .ok (.invokevirtual 44, 3) := dk_invokevirtual 44 (b1 := 0) (b2 := 44) (by decide +kernel) (by decide +kernel) (by decide +kernel) (by decide +kernel)
theorem dX7_store_5 : decode cX7_store 5 = .ok (.ifCond .eq 25, 3) := dk_ifCond_eq 25 (b1 := 0) (b2 := 25) (by decide +kernel) (by decide +kernel) (by decide +kernel) (by decide +kernel)
theorem dX7_store_30 : decode cX7_store 30 = .ok (.return_, 1) := dk_return_ (by decide +kernel)
theorem dX7_store_8 : decode cX7_store 8 = .ok (.bipush 64, 2) := dk_bipush 64 (b := 64) (by decide +kernel) (by decide +kernel) (by decide +kernel)
theorem dX7_store_10 : decode cX7_store 10 = .ok (.aload_n 0, 1) := dk_aload_n_0 (by decide +kernel)
theorem dX7_store_11 : decode cX7_store 11 = .ok (.getfield 15, 3) := dk_getfield 15 (b1 := 0) (b2 := 15) (by decide +kernel) (by decide +kernel) (by decide +kernel) (by decide +kernel)
theorem dX7_store_14 : decode cX7_store 14 = .ok (.isub, 1) := dk_isub (by decide +kernel)
theorem dX7_store_15 : decode cX7_store 15 = .ok (.istore 4, 2) := dk_istore 4 (b := 4) (by decide +kernel) (by decide +kernel) (by decide +kernel)
theorem dX7_store_17 : decode cX7_store 17 = .ok (.aload_n 0, 1) := dk_aload_n_0 (by decide +kernel)
theorem dX7_store_18 : decode cX7_store 18 = .ok (.getfield 9, 3) := dk_getfield 9 (b1 := 0) (b2 := 9) (by decide +kernel) (by decide +kernel) (by decide +kernel) (by decide +kernel)
theorem dX7_store_21 : decode cX7_store 21 = .ok (.iload_n 1, 1) := dk_iload_n_1 (by decide +kernel)
theorem dX7_store_22 : decode cX7_store 22 = .ok (.lload_n 2, 1) := dk_lload_n_2 (by decide +kernel)
theorem dX7_store_23 : decode cX7_store 23 = .ok (.iload 4, 2) := dk_iload 4 (b := 4) (by decide +kernel) (by decide +kernel) (by decide +kernel)
theorem dX7_store_25 : decode cX7_store 25 = .ok (.lshl, 1) := dk_lshl (by decide +kernel)
theorem dX7_store_26 : decode cX7_store 26 = .ok (.iload 4, 2) := dk_iload 4 (b := 4) (by decide +kernel) (by decide +kernel) (by decide +kernel)
theorem dX7_store_28 : decode cX7_store 28 = .ok (.lshr, 1) := dk_lshr (by decide +kernel)
theorem dX7_store_29 : decode cX7_store 29 = .ok (.lastore, 1) := dk_lastore (by decide +kernel)
set_option maxRecDepth 20000 in
theorem vX7_store_0 {E : sm_E} {L : sm_S → Prop} {d : Nat} {a0 : Nat} {x1 : Int32} {x2 : Int64}  {m : sm_M} {Q : sm_M → Prop}  (hd : 2 ≤ d) (hTa0 : sm_she L a0)
  (h : sm_callI E L mX7_has 1 0 0 [.ref (sm_B E + a0), .int x1] m (fun r_2 m_1 =>
   (r_2 = 0 →
      Q m_1) ∧
   (¬ r_2 = 0 →
      ∀ x4_3 : Int32, x4_3 = (64 : Int32) - (m_1.1 a0 1) →
      (vp_in x1 48) ∧ ∀ m_4 : sm_M, m_4 = sm_wJ m_1 (a0 + 1) x1.toNatClampNeg ((x2 <<< (x4_3.toInt64 &&& 63)) >>> (x4_3.toInt64 &&& 63)) →
      Q m_4))) :
  sm_callV E L mX7_store d 0 0 [.ref (sm_B E + a0), .int x1, .long x2] m Q := by
  refine sm_enter (by decide +kernel) (by simp [lg_sl, Value.category]) ?_
  refine sm_aload_n (Y := mX7_store) (pc := 0) 0 0 rfl rfl dX7_store_0 ?_
  refine sm_iload_n (Y := mX7_store) (pc := 1) 1 1 rfl rfl dX7_store_1 ?_
  refine sm_iv_I (Y := mX7_store) (pc := 2) (As := [.int x1]) (a := a0) fX7_has wRX7_44 (fun S hS => (hTa0 S hS).1) (by decide) rfl rfl rfl (Nat.le_trans (by decide) hd) (Nat.le_of_ble_eq_true rfl) ⟨Nat.le_refl _, Nat.le_refl _⟩ dX7_store_2 rfl (sm_monoI h (fun r_2 m_1 h => ?_))
  refine sm_if_eq (Y := mX7_store) (pc := 5) 30 (by decide) dX7_store_5 (fun hc => ?_) (fun hc => ?_)
  · replace h := h.1 hc
    exact sm_vret (Y := mX7_store) (pc := 30) rfl rfl rfl dX7_store_30 ⟨rfl, h⟩
  · replace h := h.2 hc
    refine sm_bipush (Y := mX7_store) (pc := 8) 64 (by decide) dX7_store_8 ?_
    refine sm_aload_n (Y := mX7_store) (pc := 10) 0 0 rfl rfl dX7_store_10 ?_
    refine gf_RX7_15 (Y := mX7_store) (pc := 11) rfl ((fun S hS => (hTa0 S hS).1) _) dX7_store_11 ?_
    refine sm_isub (Y := mX7_store) (pc := 14) dX7_store_14 ?_
    refine sm_istore (Y := mX7_store) (pc := 15) (fun y => [(4, .int y), (0, .ref (sm_B E + a0)), (1, .int x1), (2, .long x2)]) 4 (by decide) (fun _ => rfl) dX7_store_15 (fun x4_3 ex4_3 => ?_)
    replace h := h x4_3 ex4_3
    refine sm_aload_n (Y := mX7_store) (pc := 17) 1 0 rfl rfl dX7_store_17 ?_
    refine gf_RX7_9 (Y := mX7_store) (pc := 18) (b := a0 + 1) rfl ((fun S hS => (hTa0 S hS).1) _) (fun hS => (hTa0 _ hS).2.1) dX7_store_18 ?_
    refine sm_iload_n (Y := mX7_store) (pc := 21) 2 1 rfl rfl dX7_store_21 ?_
    refine sm_lload_n (Y := mX7_store) (pc := 22) 3 2 rfl rfl dX7_store_22 ?_
    refine sm_iload (Y := mX7_store) (pc := 23) 0 4 rfl dX7_store_23 ?_
    refine sm_lshl (Y := mX7_store) (pc := 25) dX7_store_25 ?_
    refine sm_iload (Y := mX7_store) (pc := 26) 0 4 rfl dX7_store_26 ?_
    refine sm_lshr (Y := mX7_store) (pc := 28) dX7_store_28 ?_
    obtain ⟨hn_5, h⟩ := h
    refine sm_last (Y := mX7_store) (pc := 29) (fun hS => (hTa0 _ hS).2.2) hn_5 dX7_store_29 (fun m_4 em_4 => ?_)
    replace h := h m_4 em_4
    exact sm_vret (Y := mX7_store) (pc := 30) rfl rfl rfl dX7_store_30 ⟨rfl, h⟩
abbrev mX7_at : sm_Y := (yX7_at, cX7_at, 2, (some FieldType.long))
theorem fX7_at : sm_mi mX7_at RX7 1 := ⟨sm_in 695 (by decide +kernel) (by decide +kernel), sm_in 693 (by decide +kernel) (by decide +kernel), sm_in 694 (by decide +kernel) (by decide +kernel), sm_in 92 (by decide +kernel) (by decide +kernel), rfl, ⟨by decide +kernel, by decide +kernel, by decide +kernel⟩, by decide⟩
theorem dX7_at_0 : decode cX7_at 0 = .ok (.aload_n 0, 1) := dk_aload_n_0 (by decide +kernel)
theorem dX7_at_1 : decode cX7_at 1 = .ok (.iload_n 1, 1) := dk_iload_n_1 (by decide +kernel)
theorem dX7_at_2 : decode cX7_at 2 = .ok (.invokevirtual 44, 3) := dk_invokevirtual 44 (b1 := 0) (b2 := 44) (by decide +kernel) (by decide +kernel) (by decide +kernel) (by decide +kernel)
theorem dX7_at_5 : decode cX7_at 5 = .ok (.ifCond .eq 12, 3) := dk_ifCond_eq 12 (b1 := 0) (b2 := 12) (by decide +kernel) (by decide +kernel) (by decide +kernel) (by decide +kernel)
theorem dX7_at_17 : decode cX7_at 17 = .ok (.lconst 0, 1) := dk_lconst_0 (by decide +kernel)
theorem dX7_at_18 : decode cX7_at 18 = .ok (.lreturn, 1) := dk_lreturn (by decide +kernel)
theorem dX7_at_8 : decode cX7_at 8 = .ok (.aload_n 0, 1) := dk_aload_n_0 (by decide +kernel)
theorem dX7_at_9 : decode cX7_at 9 = .ok (.getfield 9, 3) := dk_getfield 9 (b1 := 0) (b2 := 9) (by decide +kernel) (by decide +kernel) (by decide +kernel) (by decide +kernel)
theorem dX7_at_12 : decode cX7_at 12 = .ok (.iload_n 1, 1) := dk_iload_n_1 (by decide +kernel)
theorem dX7_at_13 : decode cX7_at 13 = .ok (.laload, 1) := dk_laload (by decide +kernel)
theorem dX7_at_14 : decode cX7_at 14 = .ok (.goto 4, 3) := dk_goto 4 (b1 := 0) (b2 := 4) (by decide +kernel) (by decide +kernel) (by decide +kernel) (by decide +kernel)
set_option maxRecDepth 20000 in
theorem vX7_at_0 {E : sm_E} {L : sm_S → Prop} {d : Nat} {a0 : Nat} {x1 : Int32}  {m : sm_M} {Q : Int64 → sm_M → Prop}  (hd : 2 ≤ d) (hTa0 : sm_she L a0)
  (h : sm_callI E L mX7_has 1 0 0 [.ref (sm_B E + a0), .int x1] m (fun r_2 m_1 =>
   (r_2 = 0 →
      Q 0 m_1) ∧
   (¬ r_2 = 0 →
      (vp_in x1 48) ∧ Q (m_1.2.1 (a0 + 1) x1.toNatClampNeg) m_1))) :
  sm_callJ E L mX7_at d 0 0 [.ref (sm_B E + a0), .int x1] m Q := by
  refine sm_enter (by decide +kernel) (by simp [lg_sl, Value.category]) ?_
  refine sm_aload_n (Y := mX7_at) (pc := 0) 0 0 rfl rfl dX7_at_0 ?_
  refine sm_iload_n (Y := mX7_at) (pc := 1) 1 1 rfl rfl dX7_at_1 ?_
  refine sm_iv_I (Y := mX7_at) (pc := 2) (As := [.int x1]) (a := a0) fX7_has wRX7_44 (fun S hS => (hTa0 S hS).1) (by decide) rfl rfl rfl (Nat.le_trans (by decide) hd) (Nat.le_of_ble_eq_true rfl) ⟨Nat.le_refl _, Nat.le_refl _⟩ dX7_at_2 rfl (sm_monoI h (fun r_2 m_1 h => ?_))
  refine sm_if_eq (Y := mX7_at) (pc := 5) 17 (by decide) dX7_at_5 (fun hc => ?_) (fun hc => ?_)
  · replace h := h.1 hc
    refine sm_lconst (Y := mX7_at) (pc := 17) 0 (by decide) dX7_at_17 ?_
    exact sm_lret (Y := mX7_at) (pc := 18) rfl rfl rfl dX7_at_18 ⟨_, rfl, h⟩
  · replace h := h.2 hc
    refine sm_aload_n (Y := mX7_at) (pc := 8) 0 0 rfl rfl dX7_at_8 ?_
    refine gf_RX7_9 (Y := mX7_at) (pc := 9) (b := a0 + 1) rfl ((fun S hS => (hTa0 S hS).1) _) (fun hS => (hTa0 _ hS).2.1) dX7_at_9 ?_
    refine sm_iload_n (Y := mX7_at) (pc := 12) 1 1 rfl rfl dX7_at_12 ?_
    obtain ⟨hn_3, h⟩ := h
    refine sm_lald (Y := mX7_at) (pc := 13) (fun hS => (hTa0 _ hS).2.2) hn_3 dX7_at_13 ?_
    refine sm_goto (Y := mX7_at) (pc := 14) 18 (by decide) dX7_at_14 ?_
    exact sm_lret (Y := mX7_at) (pc := 18) rfl rfl rfl dX7_at_18 ⟨_, rfl, h⟩
abbrev mX7_bring : sm_Y := (yX7_bring, cX7_bring, 5, none)
theorem fX7_bring : sm_mi mX7_bring RX7 4 := ⟨sm_in 1086 (by decide +kernel) (by decide +kernel), sm_in 1084 (by decide +kernel) (by decide +kernel), sm_in 1085 (by decide +kernel) (by decide +kernel), sm_in 92 (by decide +kernel) (by decide +kernel), rfl, ⟨by decide +kernel, by decide +kernel, by decide +kernel⟩, by decide⟩
theorem dX7_bring_0 : decode cX7_bring 0 = .ok (.aload_n 1, 1) := dk_aload_n_1 (by decide +kernel)
theorem dX7_bring_1 : decode cX7_bring 1 = .ok (.iload_n 2, 1) := dk_iload_n_2 (by decide +kernel)
theorem dX7_bring_2 : decode cX7_bring 2 = .ok (.iload 4, 2) := dk_iload 4 (b := 4) (by decide +kernel) (by decide +kernel) (by decide +kernel)
theorem wRX7_48 : Cond.methodLink RX7 48 yX7_hasRun ∈ sm_T := sm_in 1087 (by decide +kernel) (by decide +kernel)
theorem dX7_bring_4 : decode cX7_bring 4 = .ok (.invokevirtual 48, 3) := dk_invokevirtual 48 (b1 := 0) (b2 := 48) (by decide +kernel) (by decide +kernel) (by decide +kernel) (by decide +kernel)
theorem dX7_bring_7 : decode cX7_bring 7 = .ok (.ifCond .eq 28, 3) := dk_ifCond_eq 28 (b1 := 0) (b2 := 28) (by decide +kernel) (by decide +kernel) (by decide +kernel) (by decide +kernel)
theorem dX7_bring_35 : decode cX7_bring 35 = .ok (.return_, 1) := dk_return_ (by decide +kernel)
theorem dX7_bring_10 : decode cX7_bring 10 = .ok (.aload_n 0, 1) := dk_aload_n_0 (by decide +kernel)
theorem dX7_bring_11 : decode cX7_bring 11 = .ok (.iload_n 3, 1) := dk_iload_n_3 (by decide +kernel)
theorem dX7_bring_12 : decode cX7_bring 12 = .ok (.iload 4, 2) := dk_iload 4 (b := 4) (by decide +kernel) (by decide +kernel) (by decide +kernel)
theorem dX7_bring_14 : decode cX7_bring 14 = .ok (.invokevirtual 48, 3) := dk_invokevirtual 48 (b1 := 0) (b2 := 48) (by decide +kernel) (by decide +kernel) (by decide +kernel) (by decide +kernel)
theorem dX7_bring_17 : decode cX7_bring 17 = .ok (.ifCond .eq 18, 3) := dk_ifCond_eq 18 (b1 := 0) (b2 := 18) (by decide +kernel) (by decide +kernel) (by decide +kernel) (by decide +kernel)
theorem dX7_bring_20 : decode cX7_bring 20 = .ok (.aload_n 1, 1) := dk_aload_n_1 (by decide +kernel)
theorem dX7_bring_21 : decode cX7_bring 21 = .ok (.getfield 9, 3) := dk_getfield 9 (b1 := 0) (b2 := 9) (by decide +kernel) (by decide +kernel) (by decide +kernel) (by decide +kernel)
theorem dX7_bring_24 : decode cX7_bring 24 = .ok (.iload_n 2, 1) := dk_iload_n_2 (by decide +kernel)
theorem dX7_bring_25 : decode cX7_bring 25 = .ok (.aload_n 0, 1) := dk_aload_n_0 (by decide +kernel)
theorem dX7_bring_26 : decode cX7_bring 26 = .ok (.getfield 9, 3) := dk_getfield 9 (b1 := 0) (b2 := 9) (by decide +kernel) (by decide +kernel) (by decide +kernel) (by decide +kernel)
theorem dX7_bring_29 : decode cX7_bring 29 = .ok (.iload_n 3, 1) := dk_iload_n_3 (by decide +kernel)
theorem dX7_bring_30 : decode cX7_bring 30 = .ok (.iload 4, 2) := dk_iload 4 (b := 4) (by decide +kernel) (by decide +kernel) (by decide +kernel)
theorem wRX7_52 : Cond.methodLink RX7 52 arraycopyName ∈ sm_T := sm_in 1088 (by decide +kernel) (by decide +kernel)
theorem dX7_bring_32 : decode cX7_bring 32 = .ok (.invokestatic 52, 3) := dk_invokestatic 52 (b1 := 0) (b2 := 52) (by decide +kernel) (by decide +kernel) (by decide +kernel) (by decide +kernel)
set_option maxRecDepth 20000 in
theorem vX7_bring_0 {E : sm_E} {L : sm_S → Prop} {d : Nat} {a0 : Nat} {a1 : Nat} {x2 : Int32} {x3 : Int32} {x4 : Int32}  {m : sm_M} {Q : sm_M → Prop}  (hd : 2 ≤ d) (hTa0 : sm_she L a0) (hTa1 : sm_she L a1)
  (h : sm_callI E L mX7_hasRun 1 0 0 [.ref (sm_B E + a1), .int x2, .int x4] m (fun r_2 m_1 =>
   (r_2 = 0 →
      Q m_1) ∧
   (¬ r_2 = 0 →
      sm_callI E L mX7_hasRun 1 0 0 [.ref (sm_B E + a0), .int x3, .int x4] m_1 (fun r_4 m_3 =>
      (r_4 = 0 →
         Q m_3) ∧
      (¬ r_4 = 0 →
         (¬ x2 < 0) ∧ (¬ x3 < 0) ∧ (¬ x4 < 0) ∧ (x2.toNatClampNeg + x4.toNatClampNeg ≤ 48) ∧ (x3.toNatClampNeg + x4.toNatClampNeg ≤ 48) ∧ ∀ m_10 : sm_M, m_10 = sm_wJs m_3 (a0 + 1) (va_cpy (m_3.2.1 (a1 + 1)) (m_3.2.1 (a0 + 1)) x2.toNatClampNeg x3.toNatClampNeg x4.toNatClampNeg) →
         Q m_10))))) :
  sm_callV E L mX7_bring d 0 0 [.ref (sm_B E + a0), .ref (sm_B E + a1), .int x2, .int x3, .int x4] m Q := by
  refine sm_enter (by decide +kernel) (by simp [lg_sl, Value.category]) ?_
  refine sm_aload_n (Y := mX7_bring) (pc := 0) 1 1 rfl rfl dX7_bring_0 ?_
  refine sm_iload_n (Y := mX7_bring) (pc := 1) 2 2 rfl rfl dX7_bring_1 ?_
  refine sm_iload (Y := mX7_bring) (pc := 2) 4 4 rfl dX7_bring_2 ?_
  refine sm_iv_I (Y := mX7_bring) (pc := 4) (As := [.int x2, .int x4]) (a := a1) fX7_hasRun wRX7_48 (fun S hS => (hTa1 S hS).1) (by decide) rfl rfl rfl (Nat.le_trans (by decide) hd) (Nat.le_of_ble_eq_true rfl) ⟨Nat.le_refl _, Nat.le_refl _⟩ dX7_bring_4 rfl (sm_monoI h (fun r_2 m_1 h => ?_))
  refine sm_if_eq (Y := mX7_bring) (pc := 7) 35 (by decide) dX7_bring_7 (fun hc => ?_) (fun hc => ?_)
  · replace h := h.1 hc
    exact sm_vret (Y := mX7_bring) (pc := 35) rfl rfl rfl dX7_bring_35 ⟨rfl, h⟩
  · replace h := h.2 hc
    refine sm_aload_n (Y := mX7_bring) (pc := 10) 0 0 rfl rfl dX7_bring_10 ?_
    refine sm_iload_n (Y := mX7_bring) (pc := 11) 3 3 rfl rfl dX7_bring_11 ?_
    refine sm_iload (Y := mX7_bring) (pc := 12) 4 4 rfl dX7_bring_12 ?_
    refine sm_iv_I (Y := mX7_bring) (pc := 14) (As := [.int x3, .int x4]) (a := a0) fX7_hasRun wRX7_48 (fun S hS => (hTa0 S hS).1) (by decide) rfl rfl rfl (Nat.le_trans (by decide) hd) (Nat.le_of_ble_eq_true rfl) ⟨Nat.le_refl _, Nat.le_refl _⟩ dX7_bring_14 rfl (sm_monoI h (fun r_4 m_3 h => ?_))
    refine sm_if_eq (Y := mX7_bring) (pc := 17) 35 (by decide) dX7_bring_17 (fun hc => ?_) (fun hc => ?_)
    · replace h := h.1 hc
      exact sm_vret (Y := mX7_bring) (pc := 35) rfl rfl rfl dX7_bring_35 ⟨rfl, h⟩
    · replace h := h.2 hc
      refine sm_aload_n (Y := mX7_bring) (pc := 20) 1 1 rfl rfl dX7_bring_20 ?_
      refine gf_RX7_9 (Y := mX7_bring) (pc := 21) (b := a1 + 1) rfl ((fun S hS => (hTa1 S hS).1) _) (fun hS => (hTa1 _ hS).2.1) dX7_bring_21 ?_
      refine sm_iload_n (Y := mX7_bring) (pc := 24) 2 2 rfl rfl dX7_bring_24 ?_
      refine sm_aload_n (Y := mX7_bring) (pc := 25) 0 0 rfl rfl dX7_bring_25 ?_
      refine gf_RX7_9 (Y := mX7_bring) (pc := 26) (b := a0 + 1) rfl ((fun S hS => (hTa0 S hS).1) _) (fun hS => (hTa0 _ hS).2.1) dX7_bring_26 ?_
      refine sm_iload_n (Y := mX7_bring) (pc := 29) 3 3 rfl rfl dX7_bring_29 ?_
      refine sm_iload (Y := mX7_bring) (pc := 30) 4 4 rfl dX7_bring_30 ?_
      obtain ⟨hn_5, h⟩ := h
      obtain ⟨hn_6, h⟩ := h
      obtain ⟨hn_7, h⟩ := h
      obtain ⟨hn_8, h⟩ := h
      obtain ⟨hn_9, h⟩ := h
      refine sm_copyJ (Y := mX7_bring) (pc := 32) (fun hS => (hTa1 _ hS).2.2) (fun hS => (hTa0 _ hS).2.2) hn_5 hn_6 hn_7 hn_8 hn_9 wRX7_52 (Nat.le_trans (by decide) hd) (Nat.le_of_ble_eq_true rfl) dX7_bring_32 (fun m_10 em_10 => ?_)
      replace h := h m_10 em_10
      exact sm_vret (Y := mX7_bring) (pc := 35) rfl rfl rfl dX7_bring_35 ⟨rfl, h⟩
abbrev mX7_expand : sm_Y := (yX7_expand, cX7_expand, 13, (some FieldType.boolean))
theorem fX7_expand : sm_mi mX7_expand RX7 3 := ⟨sm_in 658 (by decide +kernel) (by decide +kernel), sm_in 656 (by decide +kernel) (by decide +kernel), sm_in 657 (by decide +kernel) (by decide +kernel), sm_in 92 (by decide +kernel) (by decide +kernel), rfl, ⟨by decide +kernel, by decide +kernel, by decide +kernel⟩, by decide⟩
def gX7_expand_154 (E : sm_E) (L : sm_S → Prop) (d : Nat) (vs : List Value) (a0 : Nat) (x4 : Int32) (x7 : Int64) (m : sm_M) (Q : Int32 → sm_M → Prop) : Prop := sm_go E L mX7_expand d 0 0 vs 154 [(0, .ref (sm_B E + a0)), (4, .int x4), (7, .long x7)] [] m 0 0 (sm_Z E L vs 0 0 (sm_QI Q))
def gX7_expand_95 (E : sm_E) (L : sm_S → Prop) (d : Nat) (vs : List Value) (a0 : Nat) (x3 : Int32) (x4 : Int32) (x7 : Int64) (x9 : Int64) (s0 : Int64) (m : sm_M) (Q : Int32 → sm_M → Prop) : Prop := sm_go E L mX7_expand d 0 0 vs 95 [(0, .ref (sm_B E + a0)), (3, .int x3), (4, .int x4), (7, .long x7), (9, .long x9)] [.long s0] m 0 0 (sm_Z E L vs 0 0 (sm_QI Q))
def gX7_expand_42 (E : sm_E) (L : sm_S → Prop) (d : Nat) (vs : List Value) (a0 : Nat) (x3 : Int32) (x4 : Int32) (x5 : Int64) (x7 : Int64) (m : sm_M) (Q : Int32 → sm_M → Prop) : Prop := sm_go E L mX7_expand d 0 0 vs 42 [(0, .ref (sm_B E + a0)), (3, .int x3), (4, .int x4), (5, .long x5), (7, .long x7)] [] m 0 0 (sm_Z E L vs 0 0 (sm_QI Q))
def gX7_expand_21 (E : sm_E) (L : sm_S → Prop) (d : Nat) (vs : List Value) (a0 : Nat) (x1 : Int32) (x2 : Int32) (x3 : Int32) (s0 : Int32) (m : sm_M) (Q : Int32 → sm_M → Prop) : Prop := sm_go E L mX7_expand d 0 0 vs 21 [(0, .ref (sm_B E + a0)), (1, .int x1), (2, .int x2), (3, .int x3)] [.int s0] m 0 0 (sm_Z E L vs 0 0 (sm_QI Q))
theorem dX7_expand_154 : decode cX7_expand 154 = .ok (.iload 4, 2) := dk_iload 4 (b := 4) (by decide +kernel) (by decide +kernel) (by decide +kernel)
theorem dX7_expand_156 : decode cX7_expand 156 = .ok (.ifCond .eq 7, 3) := dk_ifCond_eq 7 (b1 := 0) (b2 := 7) (by decide +kernel) (by decide +kernel) (by decide +kernel) (by decide +kernel)
theorem dX7_expand_163 : decode cX7_expand 163 = .ok (.lload 7, 2) := dk_lload 7 (b := 7) (by decide +kernel) (by decide +kernel) (by decide +kernel)
theorem dX7_expand_165 : decode cX7_expand 165 = .ok (.lconst 0, 1) := dk_lconst_0 (by decide +kernel)
theorem dX7_expand_166 : decode cX7_expand 166 = .ok (.lcmp, 1) := dk_lcmp (by decide +kernel)
theorem dX7_expand_167 : decode cX7_expand 167 = .ok (.ifCond .ne 7, 3) := dk_ifCond_ne 7 (b1 := 0) (b2 := 7) (by decide +kernel) (by decide +kernel) (by decide +kernel) (by decide +kernel)
theorem dX7_expand_174 : decode cX7_expand 174 = .ok (.iconst 0, 1) := dk_iconst_0 (by decide +kernel)
theorem dX7_expand_175 : decode cX7_expand 175 = .ok (.ireturn, 1) := dk_ireturn (by decide +kernel)
theorem dX7_expand_170 : decode cX7_expand 170 = .ok (.iconst 1, 1) := dk_iconst_1 (by decide +kernel)
theorem dX7_expand_171 : decode cX7_expand 171 = .ok (.goto 4, 3) := dk_goto 4 (b1 := 0) (b2 := 4) (by decide +kernel) (by decide +kernel) (by decide +kernel) (by decide +kernel)
theorem dX7_expand_159 : decode cX7_expand 159 = .ok (.aload_n 0, 1) := dk_aload_n_0 (by decide +kernel)
theorem wRX7_73 : Cond.methodLink RX7 73 yX7_negate ∈ sm_T := sm_in 684 (by decide +kernel) (by decide +kernel)
abbrev mX7_negate : sm_Y := (yX7_negate, cX7_negate, 2, none)
theorem fX7_negate : sm_mi mX7_negate RX7 0 := ⟨sm_in 687 (by decide +kernel) (by decide +kernel), sm_in 686 (by decide +kernel) (by decide +kernel), sm_in 14 (by decide +kernel) (by decide +kernel), sm_in 92 (by decide +kernel) (by decide +kernel), rfl, ⟨by decide +kernel, by decide +kernel, by decide +kernel⟩, by decide⟩
theorem dX7_expand_160 : decode cX7_expand 160 = .ok (.invokevirtual 73, 3) := dk_invokevirtual 73 (b1 := 0) (b2 := 73) (by decide +kernel) (by decide +kernel) (by decide +kernel) (by decide +kernel)
set_option maxRecDepth 20000 in
theorem vX7_expand_154 {E : sm_E} {L : sm_S → Prop} {d : Nat} {vs : List Value} {a0 : Nat} {x4 : Int32} {x7 : Int64}  {m : sm_M} {Q : Int32 → sm_M → Prop}  (hd : 3 ≤ d) (hTa0 : sm_she L a0)
  (h : (x4 = 0 →
      (¬ x7 = 0 →
         Q 0 m) ∧
      (x7 = 0 →
         Q 1 m)) ∧
   (¬ x4 = 0 →
      sm_callV E L mX7_negate 1 0 0 [.ref (sm_B E + a0)] m (fun m_1 =>
      (¬ x7 = 0 →
         Q 0 m_1) ∧
      (x7 = 0 →
         Q 1 m_1)))) :
  gX7_expand_154 E L d vs a0 x4 x7 m Q := by
  refine sm_iload (Y := mX7_expand) (pc := 154) 1 4 rfl dX7_expand_154 ?_
  refine sm_if_eq (Y := mX7_expand) (pc := 156) 163 (by decide) dX7_expand_156 (fun hc => ?_) (fun hc => ?_)
  · replace h := h.1 hc
    refine sm_lload (Y := mX7_expand) (pc := 163) 2 7 rfl dX7_expand_163 ?_
    refine sm_lconst (Y := mX7_expand) (pc := 165) 0 (by decide) dX7_expand_165 ?_
    refine sm_lif_ne (Y := mX7_expand) (pc := 166) 174 (by decide) dX7_expand_166 dX7_expand_167 (fun hc => ?_) (fun hc => ?_)
    · replace h := h.1 hc
      refine sm_iconst (Y := mX7_expand) (pc := 174) 0 (by decide) dX7_expand_174 ?_
      exact sm_zret (Y := mX7_expand) (pc := 175) rfl (by decide) rfl rfl dX7_expand_175 ⟨_, rfl, h⟩
    · replace h := h.2 hc
      refine sm_iconst (Y := mX7_expand) (pc := 170) 1 (by decide) dX7_expand_170 ?_
      refine sm_goto (Y := mX7_expand) (pc := 171) 175 (by decide) dX7_expand_171 ?_
      exact sm_zret (Y := mX7_expand) (pc := 175) rfl (by decide) rfl rfl dX7_expand_175 ⟨_, rfl, h⟩
  · replace h := h.2 hc
    refine sm_aload_n (Y := mX7_expand) (pc := 159) 0 0 rfl rfl dX7_expand_159 ?_
    refine sm_iv_V (Y := mX7_expand) (pc := 160) (As := []) (a := a0) fX7_negate wRX7_73 (fun S hS => (hTa0 S hS).1) (by decide) rfl rfl rfl (Nat.le_trans (by decide) hd) (Nat.le_of_ble_eq_true rfl) ⟨Nat.le_refl _, Nat.le_refl _⟩ dX7_expand_160 rfl (sm_monoV h (fun m_1 h => ?_))
    refine sm_lload (Y := mX7_expand) (pc := 163) 2 7 rfl dX7_expand_163 ?_
    refine sm_lconst (Y := mX7_expand) (pc := 165) 0 (by decide) dX7_expand_165 ?_
    refine sm_lif_ne (Y := mX7_expand) (pc := 166) 174 (by decide) dX7_expand_166 dX7_expand_167 (fun hc => ?_) (fun hc => ?_)
    · replace h := h.1 hc
      refine sm_iconst (Y := mX7_expand) (pc := 174) 0 (by decide) dX7_expand_174 ?_
      exact sm_zret (Y := mX7_expand) (pc := 175) rfl (by decide) rfl rfl dX7_expand_175 ⟨_, rfl, h⟩
    · replace h := h.2 hc
      refine sm_iconst (Y := mX7_expand) (pc := 170) 1 (by decide) dX7_expand_170 ?_
      refine sm_goto (Y := mX7_expand) (pc := 171) 175 (by decide) dX7_expand_171 ?_
      exact sm_zret (Y := mX7_expand) (pc := 175) rfl (by decide) rfl rfl dX7_expand_175 ⟨_, rfl, h⟩
theorem dX7_expand_95 : decode cX7_expand 95 = .ok (.lstore 11, 2) := dk_lstore 11 (b := 11) (by decide +kernel) (by decide +kernel) (by decide +kernel)
theorem dX7_expand_97 : decode cX7_expand 97 = .ok (.aload_n 0, 1) := dk_aload_n_0 (by decide +kernel)
theorem dX7_expand_98 : decode cX7_expand 98 = .ok (.getfield 9, 3) := dk_getfield 9 (b1 := 0) (b2 := 9) (by decide +kernel) (by decide +kernel) (by decide +kernel) (by decide +kernel)
theorem dX7_expand_101 : decode cX7_expand 101 = .ok (.aload_n 0, 1) := dk_aload_n_0 (by decide +kernel)
theorem dX7_expand_102 : decode cX7_expand 102 = .ok (.getfield 19, 3) := dk_getfield 19 (b1 := 0) (b2 := 19) (by decide +kernel) (by decide +kernel) (by decide +kernel) (by decide +kernel)
theorem dX7_expand_105 : decode cX7_expand 105 = .ok (.lload 9, 2) := dk_lload 9 (b := 9) (by decide +kernel) (by decide +kernel) (by decide +kernel)
theorem dX7_expand_107 : decode cX7_expand 107 = .ok (.lastore, 1) := dk_lastore (by decide +kernel)
theorem dX7_expand_108 : decode cX7_expand 108 = .ok (.aload_n 0, 1) := dk_aload_n_0 (by decide +kernel)
theorem dX7_expand_109 : decode cX7_expand 109 = .ok (.dup, 1) := dk_dup (by decide +kernel)
theorem dX7_expand_110 : decode cX7_expand 110 = .ok (.getfield 19, 3) := dk_getfield 19 (b1 := 0) (b2 := 19) (by decide +kernel) (by decide +kernel) (by decide +kernel) (by decide +kernel)
theorem dX7_expand_113 : decode cX7_expand 113 = .ok (.iconst 1, 1) := dk_iconst_1 (by decide +kernel)
theorem dX7_expand_114 : decode cX7_expand 114 = .ok (.iadd, 1) := dk_iadd (by decide +kernel)
theorem dX7_expand_115 : decode cX7_expand 115 = .ok (.putfield 19, 3) := dk_putfield 19 (b1 := 0) (b2 := 19) (by decide +kernel) (by decide +kernel) (by decide +kernel) (by decide +kernel)
theorem dX7_expand_118 : decode cX7_expand 118 = .ok (.lload 11, 2) := dk_lload 11 (b := 11) (by decide +kernel) (by decide +kernel) (by decide +kernel)
theorem dX7_expand_120 : decode cX7_expand 120 = .ok (.lconst 0, 1) := dk_lconst_0 (by decide +kernel)
theorem dX7_expand_121 : decode cX7_expand 121 = .ok (.lcmp, 1) := dk_lcmp (by decide +kernel)
theorem dX7_expand_122 : decode cX7_expand 122 = .ok (.ifCond .ge 9, 3) := dk_ifCond_ge 9 (b1 := 0) (b2 := 9) (by decide +kernel) (by decide +kernel) (by decide +kernel) (by decide +kernel)
theorem dX7_expand_131 : decode cX7_expand 131 = .ok (.lload 7, 2) := dk_lload 7 (b := 7) (by decide +kernel) (by decide +kernel) (by decide +kernel)
theorem dX7_expand_133 : decode cX7_expand 133 = .ok (.lstore 5, 2) := dk_lstore 5 (b := 5) (by decide +kernel) (by decide +kernel) (by decide +kernel)
theorem dX7_expand_135 : decode cX7_expand 135 = .ok (.lload 11, 2) := dk_lload 11 (b := 11) (by decide +kernel) (by decide +kernel) (by decide +kernel)
theorem wRX7_66 : Cond.methodLink RX7 66 yJ9_abs_067f4 ∈ sm_T := sm_in 677 (by decide +kernel) (by decide +kernel)
theorem dX7_expand_137 : decode cX7_expand 137 = .ok (.invokestatic 66, 3) := dk_invokestatic 66 (b1 := 0) (b2 := 66) (by decide +kernel) (by decide +kernel) (by decide +kernel) (by decide +kernel)
theorem dX7_expand_140 : decode cX7_expand 140 = .ok (.lstore 7, 2) := dk_lstore 7 (b := 7) (by decide +kernel) (by decide +kernel) (by decide +kernel)
theorem dX7_expand_142 : decode cX7_expand 142 = .ok (.goto (-100), 3) := dk_goto (-100) (b1 := 255) (b2 := 156) (by decide +kernel) (by decide +kernel) (by decide +kernel) (by decide +kernel)
theorem dX7_expand_125 : decode cX7_expand 125 = .ok (.lload 7, 2) := dk_lload 7 (b := 7) (by decide +kernel) (by decide +kernel) (by decide +kernel)
theorem dX7_expand_127 : decode cX7_expand 127 = .ok (.lneg, 1) := dk_lneg (by decide +kernel)
theorem dX7_expand_128 : decode cX7_expand 128 = .ok (.goto 5, 3) := dk_goto 5 (b1 := 0) (b2 := 5) (by decide +kernel) (by decide +kernel) (by decide +kernel) (by decide +kernel)
set_option maxRecDepth 20000 in
theorem vX7_expand_95 {E : sm_E} {L : sm_S → Prop} {d : Nat} {vs : List Value} {a0 : Nat} {x3 : Int32} {x4 : Int32} {x7 : Int64} {x9 : Int64} {s0 : Int64}  {m : sm_M} {Q : Int32 → sm_M → Prop}  (hd : 3 ≤ d) (hTa0 : sm_she L a0)
  (h : (vp_in (m.1 a0 2) 48) ∧ ∀ m_2 : sm_M, m_2 = sm_wJ m (a0 + 1) (m.1 a0 2).toNatClampNeg x9 →
   ∀ m_4 : sm_M, m_4 = sm_wI m_2 a0 2 ((m_2.1 a0 2) + 1) →
   (0 ≤ s0 →
      sm_callJ E L mJ9_abs_067f4 1 0 0 [.long s0] m_4 (fun r_7 m_6 =>
      gX7_expand_42 E L d vs a0 x3 x4 x7 r_7 m_6 Q)) ∧
   (¬ 0 ≤ s0 →
      ∀ x5_9 : Int64, x5_9 = -x7 →
      sm_callJ E L mJ9_abs_067f4 1 0 0 [.long s0] m_4 (fun r_11 m_10 =>
      gX7_expand_42 E L d vs a0 x3 x4 x5_9 r_11 m_10 Q))) :
  gX7_expand_95 E L d vs a0 x3 x4 x7 x9 s0 m Q := by
  refine sm_lstore0 (Y := mX7_expand) (pc := 95) [(11, .long s0), (0, .ref (sm_B E + a0)), (3, .int x3), (4, .int x4), (7, .long x7), (9, .long x9)] 11 (by decide) rfl dX7_expand_95 ?_
  refine sm_aload_n (Y := mX7_expand) (pc := 97) 1 0 rfl rfl dX7_expand_97 ?_
  refine gf_RX7_9 (Y := mX7_expand) (pc := 98) (b := a0 + 1) rfl ((fun S hS => (hTa0 S hS).1) _) (fun hS => (hTa0 _ hS).2.1) dX7_expand_98 ?_
  refine sm_aload_n (Y := mX7_expand) (pc := 101) 1 0 rfl rfl dX7_expand_101 ?_
  refine gf_RX7_19 (Y := mX7_expand) (pc := 102) rfl ((fun S hS => (hTa0 S hS).1) _) dX7_expand_102 ?_
  refine sm_lload (Y := mX7_expand) (pc := 105) 5 9 rfl dX7_expand_105 ?_
  obtain ⟨hn_3, h⟩ := h
  refine sm_last (Y := mX7_expand) (pc := 107) (fun hS => (hTa0 _ hS).2.2) hn_3 dX7_expand_107 (fun m_2 em_2 => ?_)
  replace h := h m_2 em_2
  refine sm_aload_n (Y := mX7_expand) (pc := 108) 1 0 rfl rfl dX7_expand_108 ?_
  refine sm_dup (Y := mX7_expand) (pc := 109) rfl dX7_expand_109 ?_
  refine gf_RX7_19 (Y := mX7_expand) (pc := 110) rfl ((fun S hS => (hTa0 S hS).1) _) dX7_expand_110 ?_
  refine sm_iconst (Y := mX7_expand) (pc := 113) 1 (by decide) dX7_expand_113 ?_
  refine sm_iadd (Y := mX7_expand) (pc := 114) dX7_expand_114 ?_
  refine pf_RX7_19 (Y := mX7_expand) (pc := 115) rfl ((fun S hS => (hTa0 S hS).1) _) dX7_expand_115 (fun m_4 em_4 => ?_)
  replace h := h m_4 em_4
  refine sm_lload (Y := mX7_expand) (pc := 118) 0 11 rfl dX7_expand_118 ?_
  refine sm_lconst (Y := mX7_expand) (pc := 120) 0 (by decide) dX7_expand_120 ?_
  refine sm_lif_ge (Y := mX7_expand) (pc := 121) 131 (by decide) dX7_expand_121 dX7_expand_122 (fun hc => ?_) (fun hc => ?_)
  · replace h := h.1 hc
    refine sm_lload (Y := mX7_expand) (pc := 131) 4 7 rfl dX7_expand_131 ?_
    refine sm_lstore0 (Y := mX7_expand) (pc := 133) [(5, .long x7), (11, .long s0), (0, .ref (sm_B E + a0)), (3, .int x3), (4, .int x4), (7, .long x7), (9, .long x9)] 5 (by decide) rfl dX7_expand_133 ?_
    refine sm_lload (Y := mX7_expand) (pc := 135) 1 11 rfl dX7_expand_135 ?_
    refine sm_is_J (Y := mX7_expand) (pc := 137) (As := [.long s0]) fJ9_abs_067f4 wRX7_66 rfl (Nat.le_trans (by decide) hd) (Nat.le_of_ble_eq_true rfl) ⟨Nat.le_refl _, Nat.le_refl _⟩ dX7_expand_137 rfl (sm_monoJ h (fun r_7 m_6 h => ?_))
    refine sm_lstore0 (Y := mX7_expand) (pc := 140) [(7, .long r_7), (5, .long x7), (11, .long s0), (0, .ref (sm_B E + a0)), (3, .int x3), (4, .int x4), (9, .long x9)] 7 (by decide) rfl dX7_expand_140 ?_
    refine sm_goto (Y := mX7_expand) (pc := 142) 42 (by decide) dX7_expand_142 ?_
    refine sm_sub [3, 4, 5, 1, 0] rfl ?_
    exact h
  · replace h := h.2 hc
    refine sm_lload (Y := mX7_expand) (pc := 125) 4 7 rfl dX7_expand_125 ?_
    refine sm_lneg (Y := mX7_expand) (pc := 127) dX7_expand_127 ?_
    refine sm_goto (Y := mX7_expand) (pc := 128) 133 (by decide) dX7_expand_128 ?_
    refine sm_lstore (Y := mX7_expand) (pc := 133) (fun y => [(5, .long y), (11, .long s0), (0, .ref (sm_B E + a0)), (3, .int x3), (4, .int x4), (7, .long x7), (9, .long x9)]) 5 (by decide) (fun _ => rfl) dX7_expand_133 (fun x5_9 ex5_9 => ?_)
    replace h := h x5_9 ex5_9
    refine sm_lload (Y := mX7_expand) (pc := 135) 1 11 rfl dX7_expand_135 ?_
    refine sm_is_J (Y := mX7_expand) (pc := 137) (As := [.long s0]) fJ9_abs_067f4 wRX7_66 rfl (Nat.le_trans (by decide) hd) (Nat.le_of_ble_eq_true rfl) ⟨Nat.le_refl _, Nat.le_refl _⟩ dX7_expand_137 rfl (sm_monoJ h (fun r_11 m_10 h => ?_))
    refine sm_lstore0 (Y := mX7_expand) (pc := 140) [(7, .long r_11), (5, .long x5_9), (11, .long s0), (0, .ref (sm_B E + a0)), (3, .int x3), (4, .int x4), (9, .long x9)] 7 (by decide) rfl dX7_expand_140 ?_
    refine sm_goto (Y := mX7_expand) (pc := 142) 42 (by decide) dX7_expand_142 ?_
    refine sm_sub [3, 4, 5, 1, 0] rfl ?_
    exact h
theorem dX7_expand_42 : decode cX7_expand 42 = .ok (.aload_n 0, 1) := dk_aload_n_0 (by decide +kernel)
theorem dX7_expand_43 : decode cX7_expand 43 = .ok (.getfield 19, 3) := dk_getfield 19 (b1 := 0) (b2 := 19) (by decide +kernel) (by decide +kernel) (by decide +kernel) (by decide +kernel)
theorem dX7_expand_46 : decode cX7_expand 46 = .ok (.aload_n 0, 1) := dk_aload_n_0 (by decide +kernel)
theorem dX7_expand_47 : decode cX7_expand 47 = .ok (.getfield 9, 3) := dk_getfield 9 (b1 := 0) (b2 := 9) (by decide +kernel) (by decide +kernel) (by decide +kernel) (by decide +kernel)
theorem dX7_expand_50 : decode cX7_expand 50 = .ok (.arraylength, 1) := dk_arraylength (by decide +kernel)
theorem dX7_expand_51 : decode cX7_expand 51 = .ok (.if_icmp .ge 94, 3) := dk_if_icmp_ge 94 (b1 := 0) (b2 := 94) (by decide +kernel) (by decide +kernel) (by decide +kernel) (by decide +kernel)
theorem dX7_expand_145 : decode cX7_expand 145 = .ok (.iload_n 3, 1) := dk_iload_n_3 (by decide +kernel)
theorem dX7_expand_146 : decode cX7_expand 146 = .ok (.iconst 3, 1) := dk_iconst_3 (by decide +kernel)
theorem dX7_expand_147 : decode cX7_expand 147 = .ok (.if_icmp .ne 7, 3) := dk_if_icmp_ne 7 (b1 := 0) (b2 := 7) (by decide +kernel) (by decide +kernel) (by decide +kernel) (by decide +kernel)
theorem dX7_expand_150 : decode cX7_expand 150 = .ok (.aload_n 0, 1) := dk_aload_n_0 (by decide +kernel)
theorem wRX7_70 : Cond.methodLink RX7 70 yX7_makeOdd ∈ sm_T := sm_in 680 (by decide +kernel) (by decide +kernel)
abbrev mX7_makeOdd : sm_Y := (yX7_makeOdd, cX7_makeOdd, 1, none)
theorem fX7_makeOdd : sm_mi mX7_makeOdd RX7 0 := ⟨sm_in 683 (by decide +kernel) (by decide +kernel), sm_in 682 (by decide +kernel) (by decide +kernel), sm_in 13 (by decide +kernel) (by decide +kernel), sm_in 92 (by decide +kernel) (by decide +kernel), rfl, ⟨by decide +kernel, by decide +kernel, by decide +kernel⟩, by decide⟩
theorem dX7_expand_151 : decode cX7_expand 151 = .ok (.invokevirtual 70, 3) := dk_invokevirtual 70 (b1 := 0) (b2 := 70) (by decide +kernel) (by decide +kernel) (by decide +kernel) (by decide +kernel)
theorem dX7_expand_54 : decode cX7_expand 54 = .ok (.lload 7, 2) := dk_lload 7 (b := 7) (by decide +kernel) (by decide +kernel) (by decide +kernel)
theorem dX7_expand_56 : decode cX7_expand 56 = .ok (.lconst 0, 1) := dk_lconst_0 (by decide +kernel)
theorem dX7_expand_57 : decode cX7_expand 57 = .ok (.lcmp, 1) := dk_lcmp (by decide +kernel)
theorem dX7_expand_58 : decode cX7_expand 58 = .ok (.ifCond .eq 87, 3) := dk_ifCond_eq 87 (b1 := 0) (b2 := 87) (by decide +kernel) (by decide +kernel) (by decide +kernel) (by decide +kernel)
theorem dX7_expand_61 : decode cX7_expand 61 = .ok (.lload 5, 2) := dk_lload 5 (b := 5) (by decide +kernel) (by decide +kernel) (by decide +kernel)
theorem dX7_expand_63 : decode cX7_expand 63 = .ok (.lload 7, 2) := dk_lload 7 (b := 7) (by decide +kernel) (by decide +kernel) (by decide +kernel)
theorem dX7_expand_65 : decode cX7_expand 65 = .ok (.iload_n 3, 1) := dk_iload_n_3 (by decide +kernel)
theorem wRX7_62 : Cond.methodLink RX7 62 yX7_termOf ∈ sm_T := sm_in 670 (by decide +kernel) (by decide +kernel)
abbrev mX7_termOf : sm_Y := (yX7_termOf, cX7_termOf, 5, (some FieldType.long))
theorem fX7_termOf : sm_mt mX7_termOf 3 := ⟨sm_in 672 (by decide +kernel) (by decide +kernel), sm_in 671 (by decide +kernel) (by decide +kernel), sm_in 92 (by decide +kernel) (by decide +kernel), ⟨by decide +kernel, by decide +kernel, by decide +kernel⟩, by decide⟩
theorem dX7_expand_66 : decode cX7_expand 66 = .ok (.invokestatic 62, 3) := dk_invokestatic 62 (b1 := 0) (b2 := 62) (by decide +kernel) (by decide +kernel) (by decide +kernel) (by decide +kernel)
theorem dX7_expand_69 : decode cX7_expand 69 = .ok (.lstore 9, 2) := dk_lstore 9 (b := 9) (by decide +kernel) (by decide +kernel) (by decide +kernel)
theorem dX7_expand_71 : decode cX7_expand 71 = .ok (.iload_n 3, 1) := dk_iload_n_3 (by decide +kernel)
theorem dX7_expand_72 : decode cX7_expand 72 = .ok (.iconst 1, 1) := dk_iconst_1 (by decide +kernel)
theorem dX7_expand_73 : decode cX7_expand 73 = .ok (.if_icmp .ne 14, 3) := dk_if_icmp_ne 14 (b1 := 0) (b2 := 14) (by decide +kernel) (by decide +kernel) (by decide +kernel) (by decide +kernel)
theorem dX7_expand_87 : decode cX7_expand 87 = .ok (.lload 5, 2) := dk_lload 5 (b := 5) (by decide +kernel) (by decide +kernel) (by decide +kernel)
theorem dX7_expand_89 : decode cX7_expand 89 = .ok (.lload 9, 2) := dk_lload 9 (b := 9) (by decide +kernel) (by decide +kernel) (by decide +kernel)
theorem dX7_expand_91 : decode cX7_expand 91 = .ok (.lload 7, 2) := dk_lload 7 (b := 7) (by decide +kernel) (by decide +kernel) (by decide +kernel)
theorem dX7_expand_93 : decode cX7_expand 93 = .ok (.lmul, 1) := dk_lmul (by decide +kernel)
theorem dX7_expand_94 : decode cX7_expand 94 = .ok (.lsub, 1) := dk_lsub (by decide +kernel)
theorem dX7_expand_76 : decode cX7_expand 76 = .ok (.lload 9, 2) := dk_lload 9 (b := 9) (by decide +kernel) (by decide +kernel) (by decide +kernel)
theorem dX7_expand_78 : decode cX7_expand 78 = .ok (.lload 7, 2) := dk_lload 7 (b := 7) (by decide +kernel) (by decide +kernel) (by decide +kernel)
theorem dX7_expand_80 : decode cX7_expand 80 = .ok (.lmul, 1) := dk_lmul (by decide +kernel)
theorem dX7_expand_81 : decode cX7_expand 81 = .ok (.lload 5, 2) := dk_lload 5 (b := 5) (by decide +kernel) (by decide +kernel) (by decide +kernel)
theorem dX7_expand_83 : decode cX7_expand 83 = .ok (.lsub, 1) := dk_lsub (by decide +kernel)
theorem dX7_expand_84 : decode cX7_expand 84 = .ok (.goto 11, 3) := dk_goto 11 (b1 := 0) (b2 := 11) (by decide +kernel) (by decide +kernel) (by decide +kernel) (by decide +kernel)
set_option maxRecDepth 20000 in
theorem vX7_expand_42 {E : sm_E} {L : sm_S → Prop} {d : Nat} {vs : List Value} {a0 : Nat} {x3 : Int32} {x4 : Int32} {x5 : Int64} {x7 : Int64}  {m : sm_M} {Q : Int32 → sm_M → Prop}  (hd : 3 ≤ d) (hTa0 : sm_she L a0)
  (h : ((nI 48) ≤ (m.1 a0 2) →
      (¬ x3 = 3 →
         gX7_expand_154 E L d vs a0 x4 x7 m Q) ∧
      (x3 = 3 →
         sm_callV E L mX7_makeOdd 1 0 0 [.ref (sm_B E + a0)] m (fun m_1 =>
         gX7_expand_154 E L d vs a0 x4 x7 m_1 Q))) ∧
   (¬ (nI 48) ≤ (m.1 a0 2) →
      (x7 = 0 →
         (¬ x3 = 3 →
            gX7_expand_154 E L d vs a0 x4 x7 m Q) ∧
         (x3 = 3 →
            sm_callV E L mX7_makeOdd 1 0 0 [.ref (sm_B E + a0)] m (fun m_2 =>
            gX7_expand_154 E L d vs a0 x4 x7 m_2 Q))) ∧
      (¬ x7 = 0 →
         sm_callJ E L mX7_termOf 2 0 0 [.long x5, .long x7, .int x3] m (fun r_4 m_3 =>
         (¬ x3 = 1 →
            gX7_expand_95 E L d vs a0 x3 x4 x7 r_4 (x5 - (r_4 * x7)) m_3 Q) ∧
         (x3 = 1 →
            gX7_expand_95 E L d vs a0 x3 x4 x7 r_4 ((r_4 * x7) - x5) m_3 Q))))) :
  gX7_expand_42 E L d vs a0 x3 x4 x5 x7 m Q := by
  refine sm_aload_n (Y := mX7_expand) (pc := 42) 0 0 rfl rfl dX7_expand_42 ?_
  refine gf_RX7_19 (Y := mX7_expand) (pc := 43) rfl ((fun S hS => (hTa0 S hS).1) _) dX7_expand_43 ?_
  refine sm_aload_n (Y := mX7_expand) (pc := 46) 0 0 rfl rfl dX7_expand_46 ?_
  refine gf_RX7_9 (Y := mX7_expand) (pc := 47) (b := a0 + 1) rfl ((fun S hS => (hTa0 S hS).1) _) (fun hS => (hTa0 _ hS).2.1) dX7_expand_47 ?_
  refine sm_alenJ (Y := mX7_expand) (pc := 50) (fun hS => (hTa0 _ hS).2.2) dX7_expand_50 ?_
  refine sm_icmp_ge (Y := mX7_expand) (pc := 51) 145 (by decide) dX7_expand_51 (fun hc => ?_) (fun hc => ?_)
  · replace h := h.1 hc
    refine sm_iload_n (Y := mX7_expand) (pc := 145) 1 3 rfl rfl dX7_expand_145 ?_
    refine sm_iconst (Y := mX7_expand) (pc := 146) 3 (by decide) dX7_expand_146 ?_
    refine sm_icmp_ne (Y := mX7_expand) (pc := 147) 154 (by decide) dX7_expand_147 (fun hc => ?_) (fun hc => ?_)
    · replace h := h.1 hc
      refine sm_sub [0, 2, 4] rfl ?_
      exact h
    · replace h := h.2 hc
      refine sm_aload_n (Y := mX7_expand) (pc := 150) 0 0 rfl rfl dX7_expand_150 ?_
      refine sm_iv_V (Y := mX7_expand) (pc := 151) (As := []) (a := a0) fX7_makeOdd wRX7_70 (fun S hS => (hTa0 S hS).1) (by decide) rfl rfl rfl (Nat.le_trans (by decide) hd) (Nat.le_of_ble_eq_true rfl) ⟨Nat.le_refl _, Nat.le_refl _⟩ dX7_expand_151 rfl (sm_monoV h (fun m_1 h => ?_))
      refine sm_sub [0, 2, 4] rfl ?_
      exact h
  · replace h := h.2 hc
    refine sm_lload (Y := mX7_expand) (pc := 54) 4 7 rfl dX7_expand_54 ?_
    refine sm_lconst (Y := mX7_expand) (pc := 56) 0 (by decide) dX7_expand_56 ?_
    refine sm_lif_eq (Y := mX7_expand) (pc := 57) 145 (by decide) dX7_expand_57 dX7_expand_58 (fun hc => ?_) (fun hc => ?_)
    · replace h := h.1 hc
      refine sm_iload_n (Y := mX7_expand) (pc := 145) 1 3 rfl rfl dX7_expand_145 ?_
      refine sm_iconst (Y := mX7_expand) (pc := 146) 3 (by decide) dX7_expand_146 ?_
      refine sm_icmp_ne (Y := mX7_expand) (pc := 147) 154 (by decide) dX7_expand_147 (fun hc => ?_) (fun hc => ?_)
      · replace h := h.1 hc
        refine sm_sub [0, 2, 4] rfl ?_
        exact h
      · replace h := h.2 hc
        refine sm_aload_n (Y := mX7_expand) (pc := 150) 0 0 rfl rfl dX7_expand_150 ?_
        refine sm_iv_V (Y := mX7_expand) (pc := 151) (As := []) (a := a0) fX7_makeOdd wRX7_70 (fun S hS => (hTa0 S hS).1) (by decide) rfl rfl rfl (Nat.le_trans (by decide) hd) (Nat.le_of_ble_eq_true rfl) ⟨Nat.le_refl _, Nat.le_refl _⟩ dX7_expand_151 rfl (sm_monoV h (fun m_2 h => ?_))
        refine sm_sub [0, 2, 4] rfl ?_
        exact h
    · replace h := h.2 hc
      refine sm_lload (Y := mX7_expand) (pc := 61) 3 5 rfl dX7_expand_61 ?_
      refine sm_lload (Y := mX7_expand) (pc := 63) 4 7 rfl dX7_expand_63 ?_
      refine sm_iload_n (Y := mX7_expand) (pc := 65) 1 3 rfl rfl dX7_expand_65 ?_
      refine sm_is_J (Y := mX7_expand) (pc := 66) (As := [.long x5, .long x7, .int x3]) fX7_termOf wRX7_62 rfl (Nat.le_trans (by decide) hd) (Nat.le_of_ble_eq_true rfl) ⟨Nat.le_refl _, Nat.le_refl _⟩ dX7_expand_66 rfl (sm_monoJ h (fun r_4 m_3 h => ?_))
      refine sm_lstore0 (Y := mX7_expand) (pc := 69) [(9, .long r_4), (0, .ref (sm_B E + a0)), (3, .int x3), (4, .int x4), (5, .long x5), (7, .long x7)] 9 (by decide) rfl dX7_expand_69 ?_
      refine sm_iload_n (Y := mX7_expand) (pc := 71) 2 3 rfl rfl dX7_expand_71 ?_
      refine sm_iconst (Y := mX7_expand) (pc := 72) 1 (by decide) dX7_expand_72 ?_
      refine sm_icmp_ne (Y := mX7_expand) (pc := 73) 87 (by decide) dX7_expand_73 (fun hc => ?_) (fun hc => ?_)
      · replace h := h.1 hc
        refine sm_lload (Y := mX7_expand) (pc := 87) 4 5 rfl dX7_expand_87 ?_
        refine sm_lload (Y := mX7_expand) (pc := 89) 0 9 rfl dX7_expand_89 ?_
        refine sm_lload (Y := mX7_expand) (pc := 91) 5 7 rfl dX7_expand_91 ?_
        refine sm_lmul (Y := mX7_expand) (pc := 93) dX7_expand_93 ?_
        refine sm_lsub (Y := mX7_expand) (pc := 94) dX7_expand_94 ?_
        refine sm_sub [1, 2, 3, 5, 0] rfl ?_
        exact h
      · replace h := h.2 hc
        refine sm_lload (Y := mX7_expand) (pc := 76) 0 9 rfl dX7_expand_76 ?_
        refine sm_lload (Y := mX7_expand) (pc := 78) 5 7 rfl dX7_expand_78 ?_
        refine sm_lmul (Y := mX7_expand) (pc := 80) dX7_expand_80 ?_
        refine sm_lload (Y := mX7_expand) (pc := 81) 4 5 rfl dX7_expand_81 ?_
        refine sm_lsub (Y := mX7_expand) (pc := 83) dX7_expand_83 ?_
        refine sm_goto (Y := mX7_expand) (pc := 84) 95 (by decide) dX7_expand_84 ?_
        refine sm_sub [1, 2, 3, 5, 0] rfl ?_
        exact h
theorem dX7_expand_21 : decode cX7_expand 21 = .ok (.istore 4, 2) := dk_istore 4 (b := 4) (by decide +kernel) (by decide +kernel) (by decide +kernel)
theorem dX7_expand_23 : decode cX7_expand 23 = .ok (.iload 4, 2) := dk_iload 4 (b := 4) (by decide +kernel) (by decide +kernel) (by decide +kernel)
theorem dX7_expand_25 : decode cX7_expand 25 = .ok (.ifCond .eq 9, 3) := dk_ifCond_eq 9 (b1 := 0) (b2 := 9) (by decide +kernel) (by decide +kernel) (by decide +kernel) (by decide +kernel)
theorem dX7_expand_34 : decode cX7_expand 34 = .ok (.iload_n 1, 1) := dk_iload_n_1 (by decide +kernel)
theorem dX7_expand_35 : decode cX7_expand 35 = .ok (.i2l, 1) := dk_i2l (by decide +kernel)
theorem dX7_expand_36 : decode cX7_expand 36 = .ok (.lstore 5, 2) := dk_lstore 5 (b := 5) (by decide +kernel) (by decide +kernel) (by decide +kernel)
theorem dX7_expand_38 : decode cX7_expand 38 = .ok (.iload_n 2, 1) := dk_iload_n_2 (by decide +kernel)
theorem dX7_expand_39 : decode cX7_expand 39 = .ok (.i2l, 1) := dk_i2l (by decide +kernel)
theorem dX7_expand_40 : decode cX7_expand 40 = .ok (.lstore 7, 2) := dk_lstore 7 (b := 7) (by decide +kernel) (by decide +kernel) (by decide +kernel)
theorem dX7_expand_28 : decode cX7_expand 28 = .ok (.iload_n 1, 1) := dk_iload_n_1 (by decide +kernel)
theorem dX7_expand_29 : decode cX7_expand 29 = .ok (.i2l, 1) := dk_i2l (by decide +kernel)
theorem dX7_expand_30 : decode cX7_expand 30 = .ok (.lneg, 1) := dk_lneg (by decide +kernel)
theorem dX7_expand_31 : decode cX7_expand 31 = .ok (.goto 5, 3) := dk_goto 5 (b1 := 0) (b2 := 5) (by decide +kernel) (by decide +kernel) (by decide +kernel) (by decide +kernel)
set_option maxRecDepth 20000 in
theorem vX7_expand_21 {E : sm_E} {L : sm_S → Prop} {d : Nat} {vs : List Value} {a0 : Nat} {x1 : Int32} {x2 : Int32} {x3 : Int32} {s0 : Int32}  {m : sm_M} {Q : Int32 → sm_M → Prop}  (hd : 3 ≤ d) (hTa0 : sm_she L a0)
  (h : (s0 = 0 →
      ∀ x5_2 : Int64, x5_2 = x1.toInt64 →
      ∀ x7_3 : Int64, x7_3 = x2.toInt64 →
      gX7_expand_42 E L d vs a0 x3 s0 x5_2 x7_3 m Q) ∧
   (¬ s0 = 0 →
      ∀ x5_4 : Int64, x5_4 = -(x1.toInt64) →
      ∀ x7_5 : Int64, x7_5 = x2.toInt64 →
      gX7_expand_42 E L d vs a0 x3 s0 x5_4 x7_5 m Q)) :
  gX7_expand_21 E L d vs a0 x1 x2 x3 s0 m Q := by
  refine sm_istore0 (Y := mX7_expand) (pc := 21) [(4, .int s0), (0, .ref (sm_B E + a0)), (1, .int x1), (2, .int x2), (3, .int x3)] 4 (by decide) rfl dX7_expand_21 ?_
  refine sm_iload (Y := mX7_expand) (pc := 23) 0 4 rfl dX7_expand_23 ?_
  refine sm_if_eq (Y := mX7_expand) (pc := 25) 34 (by decide) dX7_expand_25 (fun hc => ?_) (fun hc => ?_)
  · replace h := h.1 hc
    refine sm_iload_n (Y := mX7_expand) (pc := 34) 2 1 rfl rfl dX7_expand_34 ?_
    refine sm_i2l (Y := mX7_expand) (pc := 35) dX7_expand_35 ?_
    refine sm_lstore (Y := mX7_expand) (pc := 36) (fun y => [(5, .long y), (4, .int s0), (0, .ref (sm_B E + a0)), (1, .int x1), (2, .int x2), (3, .int x3)]) 5 (by decide) (fun _ => rfl) dX7_expand_36 (fun x5_2 ex5_2 => ?_)
    replace h := h x5_2 ex5_2
    refine sm_iload_n (Y := mX7_expand) (pc := 38) 4 2 rfl rfl dX7_expand_38 ?_
    refine sm_i2l (Y := mX7_expand) (pc := 39) dX7_expand_39 ?_
    refine sm_lstore (Y := mX7_expand) (pc := 40) (fun y => [(7, .long y), (5, .long x5_2), (4, .int s0), (0, .ref (sm_B E + a0)), (1, .int x1), (2, .int x2), (3, .int x3)]) 7 (by decide) (fun _ => rfl) dX7_expand_40 (fun x7_3 ex7_3 => ?_)
    replace h := h x7_3 ex7_3
    refine sm_sub [3, 6, 2, 1, 0] rfl ?_
    exact h
  · replace h := h.2 hc
    refine sm_iload_n (Y := mX7_expand) (pc := 28) 2 1 rfl rfl dX7_expand_28 ?_
    refine sm_i2l (Y := mX7_expand) (pc := 29) dX7_expand_29 ?_
    refine sm_lneg (Y := mX7_expand) (pc := 30) dX7_expand_30 ?_
    refine sm_goto (Y := mX7_expand) (pc := 31) 36 (by decide) dX7_expand_31 ?_
    refine sm_lstore (Y := mX7_expand) (pc := 36) (fun y => [(5, .long y), (4, .int s0), (0, .ref (sm_B E + a0)), (1, .int x1), (2, .int x2), (3, .int x3)]) 5 (by decide) (fun _ => rfl) dX7_expand_36 (fun x5_4 ex5_4 => ?_)
    replace h := h x5_4 ex5_4
    refine sm_iload_n (Y := mX7_expand) (pc := 38) 4 2 rfl rfl dX7_expand_38 ?_
    refine sm_i2l (Y := mX7_expand) (pc := 39) dX7_expand_39 ?_
    refine sm_lstore (Y := mX7_expand) (pc := 40) (fun y => [(7, .long y), (5, .long x5_4), (4, .int s0), (0, .ref (sm_B E + a0)), (1, .int x1), (2, .int x2), (3, .int x3)]) 7 (by decide) (fun _ => rfl) dX7_expand_40 (fun x7_5 ex7_5 => ?_)
    replace h := h x7_5 ex7_5
    refine sm_sub [3, 6, 2, 1, 0] rfl ?_
    exact h
theorem dX7_expand_0 : decode cX7_expand 0 = .ok (.aload_n 0, 1) := dk_aload_n_0 (by decide +kernel)
theorem dX7_expand_1 : decode cX7_expand 1 = .ok (.bipush 64, 2) := dk_bipush 64 (b := 64) (by decide +kernel) (by decide +kernel) (by decide +kernel)
theorem dX7_expand_3 : decode cX7_expand 3 = .ok (.iconst 0, 1) := dk_iconst_0 (by decide +kernel)
theorem wRX7_58 : Cond.methodLink RX7 58 yX7_reset ∈ sm_T := sm_in 659 (by decide +kernel) (by decide +kernel)
theorem dX7_expand_4 : decode cX7_expand 4 = .ok (.invokevirtual 58, 3) := dk_invokevirtual 58 (b1 := 0) (b2 := 58) (by decide +kernel) (by decide +kernel) (by decide +kernel) (by decide +kernel)
theorem dX7_expand_7 : decode cX7_expand 7 = .ok (.iload_n 3, 1) := dk_iload_n_3 (by decide +kernel)
theorem dX7_expand_8 : decode cX7_expand 8 = .ok (.iconst 3, 1) := dk_iconst_3 (by decide +kernel)
theorem dX7_expand_9 : decode cX7_expand 9 = .ok (.if_icmp .ne 11, 3) := dk_if_icmp_ne 11 (b1 := 0) (b2 := 11) (by decide +kernel) (by decide +kernel) (by decide +kernel) (by decide +kernel)
theorem dX7_expand_20 : decode cX7_expand 20 = .ok (.iconst 0, 1) := dk_iconst_0 (by decide +kernel)
theorem dX7_expand_12 : decode cX7_expand 12 = .ok (.iload_n 1, 1) := dk_iload_n_1 (by decide +kernel)
theorem dX7_expand_13 : decode cX7_expand 13 = .ok (.ifCond .ge 7, 3) := dk_ifCond_ge 7 (b1 := 0) (b2 := 7) (by decide +kernel) (by decide +kernel) (by decide +kernel) (by decide +kernel)
theorem dX7_expand_16 : decode cX7_expand 16 = .ok (.iconst 1, 1) := dk_iconst_1 (by decide +kernel)
theorem dX7_expand_17 : decode cX7_expand 17 = .ok (.goto 4, 3) := dk_goto 4 (b1 := 0) (b2 := 4) (by decide +kernel) (by decide +kernel) (by decide +kernel) (by decide +kernel)
set_option maxRecDepth 20000 in
theorem vX7_expand_0 {E : sm_E} {L : sm_S → Prop} {d : Nat} {a0 : Nat} {x1 : Int32} {x2 : Int32} {x3 : Int32}  {m : sm_M} {Q : Int32 → sm_M → Prop}  (hd : 3 ≤ d) (hTa0 : sm_she L a0)
  (h : sm_callV E L mX7_reset 2 0 0 [.ref (sm_B E + a0), .int 64, .int 0] m (fun m_1 =>
   (¬ x3 = 3 →
      gX7_expand_21 E L d ([.ref (sm_B E + a0), .int x1, .int x2, .int x3]) a0 x1 x2 x3 0 m_1 Q) ∧
   (x3 = 3 →
      (0 ≤ x1 →
         gX7_expand_21 E L d ([.ref (sm_B E + a0), .int x1, .int x2, .int x3]) a0 x1 x2 x3 0 m_1 Q) ∧
      (¬ 0 ≤ x1 →
         gX7_expand_21 E L d ([.ref (sm_B E + a0), .int x1, .int x2, .int x3]) a0 x1 x2 x3 1 m_1 Q)))) :
  sm_callI E L mX7_expand d 0 0 [.ref (sm_B E + a0), .int x1, .int x2, .int x3] m Q := by
  refine sm_enter (by decide +kernel) (by simp [lg_sl, Value.category]) ?_
  refine sm_aload_n (Y := mX7_expand) (pc := 0) 0 0 rfl rfl dX7_expand_0 ?_
  refine sm_bipush (Y := mX7_expand) (pc := 1) 64 (by decide) dX7_expand_1 ?_
  refine sm_iconst (Y := mX7_expand) (pc := 3) 0 (by decide) dX7_expand_3 ?_
  refine sm_iv_V (Y := mX7_expand) (pc := 4) (As := [.int 64, .int 0]) (a := a0) fX7_reset wRX7_58 (fun S hS => (hTa0 S hS).1) (by decide) rfl rfl rfl (Nat.le_trans (by decide) hd) (Nat.le_of_ble_eq_true rfl) ⟨Nat.le_refl _, Nat.le_refl _⟩ dX7_expand_4 rfl (sm_monoV h (fun m_1 h => ?_))
  refine sm_iload_n (Y := mX7_expand) (pc := 7) 3 3 rfl rfl dX7_expand_7 ?_
  refine sm_iconst (Y := mX7_expand) (pc := 8) 3 (by decide) dX7_expand_8 ?_
  refine sm_icmp_ne (Y := mX7_expand) (pc := 9) 20 (by decide) dX7_expand_9 (fun hc => ?_) (fun hc => ?_)
  · replace h := h.1 hc
    refine sm_iconst (Y := mX7_expand) (pc := 20) 0 (by decide) dX7_expand_20 ?_
    exact h
  · replace h := h.2 hc
    refine sm_iload_n (Y := mX7_expand) (pc := 12) 1 1 rfl rfl dX7_expand_12 ?_
    refine sm_if_ge (Y := mX7_expand) (pc := 13) 20 (by decide) dX7_expand_13 (fun hc => ?_) (fun hc => ?_)
    · replace h := h.1 hc
      refine sm_iconst (Y := mX7_expand) (pc := 20) 0 (by decide) dX7_expand_20 ?_
      exact h
    · replace h := h.2 hc
      refine sm_iconst (Y := mX7_expand) (pc := 16) 1 (by decide) dX7_expand_16 ?_
      refine sm_goto (Y := mX7_expand) (pc := 17) 21 (by decide) dX7_expand_17 ?_
      exact h
theorem dX7_termOf_0 : decode cX7_termOf 0 = .ok (.lload_n 2, 1) := dk_lload_n_2 (by decide +kernel)
theorem dX7_termOf_1 : decode cX7_termOf 1 = .ok (.lconst 0, 1) := dk_lconst_0 (by decide +kernel)
theorem dX7_termOf_2 : decode cX7_termOf 2 = .ok (.lcmp, 1) := dk_lcmp (by decide +kernel)
theorem dX7_termOf_3 : decode cX7_termOf 3 = .ok (.ifCond .ne 5, 3) := dk_ifCond_ne 5 (b1 := 0) (b2 := 5) (by decide +kernel) (by decide +kernel) (by decide +kernel) (by decide +kernel)
theorem dX7_termOf_8 : decode cX7_termOf 8 = .ok (.iload 4, 2) := dk_iload 4 (b := 4) (by decide +kernel) (by decide +kernel) (by decide +kernel)
theorem dX7_termOf_10 : decode cX7_termOf 10 = .ok (.lookupswitch 50 #[(1, 26), (2, 34)], 26) := by decide +kernel
theorem dX7_termOf_36 : decode cX7_termOf 36 = .ok (.lload_n 0, 1) := dk_lload_n_0 (by decide +kernel)
theorem dX7_termOf_37 : decode cX7_termOf 37 = .ok (.lneg, 1) := dk_lneg (by decide +kernel)
theorem dX7_termOf_38 : decode cX7_termOf 38 = .ok (.lload_n 2, 1) := dk_lload_n_2 (by decide +kernel)
theorem wRX7_76 : Cond.methodLink RX7 76 yJ9_floorDiv_f86c9 ∈ sm_T := sm_in 673 (by decide +kernel) (by decide +kernel)
theorem dX7_termOf_39 : decode cX7_termOf 39 = .ok (.invokestatic 76, 3) := dk_invokestatic 76 (b1 := 0) (b2 := 76) (by decide +kernel) (by decide +kernel) (by decide +kernel) (by decide +kernel)
theorem dX7_termOf_42 : decode cX7_termOf 42 = .ok (.lneg, 1) := dk_lneg (by decide +kernel)
theorem dX7_termOf_43 : decode cX7_termOf 43 = .ok (.lreturn, 1) := dk_lreturn (by decide +kernel)
theorem wRX7_80 : Cond.constantLong RX7 80 2 ∈ sm_T := sm_in 676 (by decide +kernel) (by decide +kernel)
theorem dX7_termOf_44 : decode cX7_termOf 44 = .ok (.ldc2_w 80, 3) := dk_ldc2_w 80 (b1 := 0) (b2 := 80) (by decide +kernel) (by decide +kernel) (by decide +kernel) (by decide +kernel)
theorem dX7_termOf_47 : decode cX7_termOf 47 = .ok (.lload_n 0, 1) := dk_lload_n_0 (by decide +kernel)
theorem dX7_termOf_48 : decode cX7_termOf 48 = .ok (.lload_n 2, 1) := dk_lload_n_2 (by decide +kernel)
theorem dX7_termOf_49 : decode cX7_termOf 49 = .ok (.ladd, 1) := dk_ladd (by decide +kernel)
theorem dX7_termOf_50 : decode cX7_termOf 50 = .ok (.ldc2_w 80, 3) := dk_ldc2_w 80 (b1 := 0) (b2 := 80) (by decide +kernel) (by decide +kernel) (by decide +kernel) (by decide +kernel)
theorem dX7_termOf_53 : decode cX7_termOf 53 = .ok (.lload_n 2, 1) := dk_lload_n_2 (by decide +kernel)
theorem dX7_termOf_54 : decode cX7_termOf 54 = .ok (.lmul, 1) := dk_lmul (by decide +kernel)
theorem dX7_termOf_55 : decode cX7_termOf 55 = .ok (.invokestatic 76, 3) := dk_invokestatic 76 (b1 := 0) (b2 := 76) (by decide +kernel) (by decide +kernel) (by decide +kernel) (by decide +kernel)
theorem dX7_termOf_58 : decode cX7_termOf 58 = .ok (.lmul, 1) := dk_lmul (by decide +kernel)
theorem dX7_termOf_59 : decode cX7_termOf 59 = .ok (.lreturn, 1) := dk_lreturn (by decide +kernel)
theorem dX7_termOf_60 : decode cX7_termOf 60 = .ok (.lload_n 0, 1) := dk_lload_n_0 (by decide +kernel)
theorem dX7_termOf_61 : decode cX7_termOf 61 = .ok (.lload_n 2, 1) := dk_lload_n_2 (by decide +kernel)
theorem dX7_termOf_62 : decode cX7_termOf 62 = .ok (.invokestatic 76, 3) := dk_invokestatic 76 (b1 := 0) (b2 := 76) (by decide +kernel) (by decide +kernel) (by decide +kernel) (by decide +kernel)
theorem dX7_termOf_65 : decode cX7_termOf 65 = .ok (.lreturn, 1) := dk_lreturn (by decide +kernel)
theorem dX7_termOf_6 : decode cX7_termOf 6 = .ok (.lconst 0, 1) := dk_lconst_0 (by decide +kernel)
theorem dX7_termOf_7 : decode cX7_termOf 7 = .ok (.lreturn, 1) := dk_lreturn (by decide +kernel)
set_option maxRecDepth 20000 in
theorem vX7_termOf_0 {E : sm_E} {L : sm_S → Prop} {d : Nat} {x0 : Int64} {x2 : Int64} {x4 : Int32}  {m : sm_M} {Q : Int64 → sm_M → Prop}  (hd : 2 ≤ d) 
  (h : (¬ x2 = 0 →
      (x4 = 1 →
         sm_callJ E L mJ9_floorDiv_f86c9 1 0 0 [.long (-x0), .long x2] m (fun r_2 m_1 =>
         Q (-r_2) m_1)) ∧
      (x4 = 2 →
         sm_callJ E L mJ9_floorDiv_f86c9 1 0 0 [.long (x0 + x2), .long ((2 : Int64) * x2)] m (fun r_4 m_3 =>
         Q ((2 : Int64) * r_4) m_3)) ∧
      ((¬ x4 = 1 ∧ ¬ x4 = 2) →
         sm_callJ E L mJ9_floorDiv_f86c9 1 0 0 [.long x0, .long x2] m (fun r_6 m_5 =>
      Q r_6 m_5))) ∧
   (x2 = 0 →
      Q 0 m)) :
  sm_callJ E L mX7_termOf d 0 0 [.long x0, .long x2, .int x4] m Q := by
  refine sm_enter (by decide +kernel) (by simp [lg_sl, Value.category]) ?_
  refine sm_lload_n (Y := mX7_termOf) (pc := 0) 1 2 rfl rfl dX7_termOf_0 ?_
  refine sm_lconst (Y := mX7_termOf) (pc := 1) 0 (by decide) dX7_termOf_1 ?_
  refine sm_lif_ne (Y := mX7_termOf) (pc := 2) 8 (by decide) dX7_termOf_2 dX7_termOf_3 (fun hc => ?_) (fun hc => ?_)
  · replace h := h.1 hc
    refine sm_iload (Y := mX7_termOf) (pc := 8) 2 4 rfl dX7_termOf_8 ?_
    by_cases hs10_0 : x4 = 1
    · refine sm_lookup (Y := mX7_termOf) (pc := 10) (off := 26) 36 (by first | (rw [hs10_0]; done) | (rw [hs10_0]; rfl)) (by decide) (by decide) dX7_termOf_10 ?_
      replace h := h.1 hs10_0
      refine sm_lload_n (Y := mX7_termOf) (pc := 36) 0 0 rfl rfl dX7_termOf_36 ?_
      refine sm_lneg (Y := mX7_termOf) (pc := 37) dX7_termOf_37 ?_
      refine sm_lload_n (Y := mX7_termOf) (pc := 38) 1 2 rfl rfl dX7_termOf_38 ?_
      refine sm_is_J (Y := mX7_termOf) (pc := 39) (As := [.long (-x0), .long x2]) fJ9_floorDiv_f86c9 wRX7_76 rfl (Nat.le_trans (by decide) hd) (Nat.le_of_ble_eq_true rfl) ⟨Nat.le_refl _, Nat.le_refl _⟩ dX7_termOf_39 rfl (sm_monoJ h (fun r_2 m_1 h => ?_))
      refine sm_lneg (Y := mX7_termOf) (pc := 42) dX7_termOf_42 ?_
      exact sm_lret (Y := mX7_termOf) (pc := 43) rfl rfl rfl dX7_termOf_43 ⟨_, rfl, h⟩
    replace h := h.2
    by_cases hs10_1 : x4 = 2
    · refine sm_lookup (Y := mX7_termOf) (pc := 10) (off := 34) 44 (by first | (rw [hs10_1]; done) | (rw [hs10_1]; rfl)) (by decide) (by decide) dX7_termOf_10 ?_
      replace h := h.1 hs10_1
      refine sm_ldc2_w (Y := mX7_termOf) (pc := 44) 2 wRX7_80 dX7_termOf_44 ?_
      refine sm_lload_n (Y := mX7_termOf) (pc := 47) 0 0 rfl rfl dX7_termOf_47 ?_
      refine sm_lload_n (Y := mX7_termOf) (pc := 48) 1 2 rfl rfl dX7_termOf_48 ?_
      refine sm_ladd (Y := mX7_termOf) (pc := 49) dX7_termOf_49 ?_
      refine sm_ldc2_w (Y := mX7_termOf) (pc := 50) 2 wRX7_80 dX7_termOf_50 ?_
      refine sm_lload_n (Y := mX7_termOf) (pc := 53) 1 2 rfl rfl dX7_termOf_53 ?_
      refine sm_lmul (Y := mX7_termOf) (pc := 54) dX7_termOf_54 ?_
      refine sm_is_J (Y := mX7_termOf) (pc := 55) (As := [.long (x0 + x2), .long ((2 : Int64) * x2)]) fJ9_floorDiv_f86c9 wRX7_76 rfl (Nat.le_trans (by decide) hd) (Nat.le_of_ble_eq_true rfl) ⟨Nat.le_refl _, Nat.le_refl _⟩ dX7_termOf_55 rfl (sm_monoJ h (fun r_4 m_3 h => ?_))
      refine sm_lmul (Y := mX7_termOf) (pc := 58) dX7_termOf_58 ?_
      exact sm_lret (Y := mX7_termOf) (pc := 59) rfl rfl rfl dX7_termOf_59 ⟨_, rfl, h⟩
    replace h := h.2
    refine sm_lookup (Y := mX7_termOf) (pc := 10) (off := 50) 60 (by show Op.lookupswitch.offset _ _ _ = _; first | (rw [lv_osw hs10_0 (by decide), lv_osw hs10_1 (by decide)]; done) | (rw [lv_osw hs10_0 (by decide), lv_osw hs10_1 (by decide)]; rfl)) (by decide) (by decide) dX7_termOf_10 ?_
    replace h := h ⟨hs10_0, hs10_1⟩
    refine sm_lload_n (Y := mX7_termOf) (pc := 60) 0 0 rfl rfl dX7_termOf_60 ?_
    refine sm_lload_n (Y := mX7_termOf) (pc := 61) 1 2 rfl rfl dX7_termOf_61 ?_
    refine sm_is_J (Y := mX7_termOf) (pc := 62) (As := [.long x0, .long x2]) fJ9_floorDiv_f86c9 wRX7_76 rfl (Nat.le_trans (by decide) hd) (Nat.le_of_ble_eq_true rfl) ⟨Nat.le_refl _, Nat.le_refl _⟩ dX7_termOf_62 rfl (sm_monoJ h (fun r_6 m_5 h => ?_))
    exact sm_lret (Y := mX7_termOf) (pc := 65) rfl rfl rfl dX7_termOf_65 ⟨_, rfl, h⟩
  · replace h := h.2 hc
    refine sm_lconst (Y := mX7_termOf) (pc := 6) 0 (by decide) dX7_termOf_6 ?_
    exact sm_lret (Y := mX7_termOf) (pc := 7) rfl rfl rfl dX7_termOf_7 ⟨_, rfl, h⟩
theorem dX7_makeOdd_0 : decode cX7_makeOdd 0 = .ok (.aload_n 0, 1) := dk_aload_n_0 (by decide +kernel)
theorem dX7_makeOdd_1 : decode cX7_makeOdd 1 = .ok (.getfield 19, 3) := dk_getfield 19 (b1 := 0) (b2 := 19) (by decide +kernel) (by decide +kernel) (by decide +kernel) (by decide +kernel)
theorem dX7_makeOdd_4 : decode cX7_makeOdd 4 = .ok (.ifCond .le 59, 3) := dk_ifCond_le 59 (b1 := 0) (b2 := 59) (by decide +kernel) (by decide +kernel) (by decide +kernel) (by decide +kernel)
theorem dX7_makeOdd_63 : decode cX7_makeOdd 63 = .ok (.return_, 1) := dk_return_ (by decide +kernel)
theorem dX7_makeOdd_7 : decode cX7_makeOdd 7 = .ok (.aload_n 0, 1) := dk_aload_n_0 (by decide +kernel)
theorem dX7_makeOdd_8 : decode cX7_makeOdd 8 = .ok (.getfield 19, 3) := dk_getfield 19 (b1 := 0) (b2 := 19) (by decide +kernel) (by decide +kernel) (by decide +kernel) (by decide +kernel)
theorem dX7_makeOdd_11 : decode cX7_makeOdd 11 = .ok (.iconst 2, 1) := dk_iconst_2 (by decide +kernel)
theorem dX7_makeOdd_12 : decode cX7_makeOdd 12 = .ok (.irem, 1) := dk_irem (by decide +kernel)
theorem dX7_makeOdd_13 : decode cX7_makeOdd 13 = .ok (.ifCond .ne 50, 3) := dk_ifCond_ne 50 (b1 := 0) (b2 := 50) (by decide +kernel) (by decide +kernel) (by decide +kernel) (by decide +kernel)
theorem dX7_makeOdd_16 : decode cX7_makeOdd 16 = .ok (.aload_n 0, 1) := dk_aload_n_0 (by decide +kernel)
theorem dX7_makeOdd_17 : decode cX7_makeOdd 17 = .ok (.getfield 19, 3) := dk_getfield 19 (b1 := 0) (b2 := 19) (by decide +kernel) (by decide +kernel) (by decide +kernel) (by decide +kernel)
theorem dX7_makeOdd_20 : decode cX7_makeOdd 20 = .ok (.aload_n 0, 1) := dk_aload_n_0 (by decide +kernel)
theorem dX7_makeOdd_21 : decode cX7_makeOdd 21 = .ok (.getfield 9, 3) := dk_getfield 9 (b1 := 0) (b2 := 9) (by decide +kernel) (by decide +kernel) (by decide +kernel) (by decide +kernel)
theorem dX7_makeOdd_24 : decode cX7_makeOdd 24 = .ok (.arraylength, 1) := dk_arraylength (by decide +kernel)
theorem dX7_makeOdd_25 : decode cX7_makeOdd 25 = .ok (.if_icmp .ge 38, 3) := dk_if_icmp_ge 38 (b1 := 0) (b2 := 38) (by decide +kernel) (by decide +kernel) (by decide +kernel) (by decide +kernel)
theorem dX7_makeOdd_28 : decode cX7_makeOdd 28 = .ok (.aload_n 0, 1) := dk_aload_n_0 (by decide +kernel)
theorem dX7_makeOdd_29 : decode cX7_makeOdd 29 = .ok (.getfield 9, 3) := dk_getfield 9 (b1 := 0) (b2 := 9) (by decide +kernel) (by decide +kernel) (by decide +kernel) (by decide +kernel)
theorem dX7_makeOdd_32 : decode cX7_makeOdd 32 = .ok (.aload_n 0, 1) := dk_aload_n_0 (by decide +kernel)
theorem dX7_makeOdd_33 : decode cX7_makeOdd 33 = .ok (.getfield 19, 3) := dk_getfield 19 (b1 := 0) (b2 := 19) (by decide +kernel) (by decide +kernel) (by decide +kernel) (by decide +kernel)
theorem dX7_makeOdd_36 : decode cX7_makeOdd 36 = .ok (.iconst 1, 1) := dk_iconst_1 (by decide +kernel)
theorem dX7_makeOdd_37 : decode cX7_makeOdd 37 = .ok (.isub, 1) := dk_isub (by decide +kernel)
theorem dX7_makeOdd_38 : decode cX7_makeOdd 38 = .ok (.dup2, 1) := dk_dup2 (by decide +kernel)
theorem dX7_makeOdd_39 : decode cX7_makeOdd 39 = .ok (.laload, 1) := dk_laload (by decide +kernel)
theorem dX7_makeOdd_40 : decode cX7_makeOdd 40 = .ok (.lconst 1, 1) := dk_lconst_1 (by decide +kernel)
theorem dX7_makeOdd_41 : decode cX7_makeOdd 41 = .ok (.lsub, 1) := dk_lsub (by decide +kernel)
theorem dX7_makeOdd_42 : decode cX7_makeOdd 42 = .ok (.lastore, 1) := dk_lastore (by decide +kernel)
theorem dX7_makeOdd_43 : decode cX7_makeOdd 43 = .ok (.aload_n 0, 1) := dk_aload_n_0 (by decide +kernel)
theorem dX7_makeOdd_44 : decode cX7_makeOdd 44 = .ok (.getfield 9, 3) := dk_getfield 9 (b1 := 0) (b2 := 9) (by decide +kernel) (by decide +kernel) (by decide +kernel) (by decide +kernel)
theorem dX7_makeOdd_47 : decode cX7_makeOdd 47 = .ok (.aload_n 0, 1) := dk_aload_n_0 (by decide +kernel)
theorem dX7_makeOdd_48 : decode cX7_makeOdd 48 = .ok (.getfield 19, 3) := dk_getfield 19 (b1 := 0) (b2 := 19) (by decide +kernel) (by decide +kernel) (by decide +kernel) (by decide +kernel)
theorem dX7_makeOdd_51 : decode cX7_makeOdd 51 = .ok (.lconst 1, 1) := dk_lconst_1 (by decide +kernel)
theorem dX7_makeOdd_52 : decode cX7_makeOdd 52 = .ok (.lastore, 1) := dk_lastore (by decide +kernel)
theorem dX7_makeOdd_53 : decode cX7_makeOdd 53 = .ok (.aload_n 0, 1) := dk_aload_n_0 (by decide +kernel)
theorem dX7_makeOdd_54 : decode cX7_makeOdd 54 = .ok (.dup, 1) := dk_dup (by decide +kernel)
theorem dX7_makeOdd_55 : decode cX7_makeOdd 55 = .ok (.getfield 19, 3) := dk_getfield 19 (b1 := 0) (b2 := 19) (by decide +kernel) (by decide +kernel) (by decide +kernel) (by decide +kernel)
theorem dX7_makeOdd_58 : decode cX7_makeOdd 58 = .ok (.iconst 1, 1) := dk_iconst_1 (by decide +kernel)
theorem dX7_makeOdd_59 : decode cX7_makeOdd 59 = .ok (.iadd, 1) := dk_iadd (by decide +kernel)
theorem dX7_makeOdd_60 : decode cX7_makeOdd 60 = .ok (.putfield 19, 3) := dk_putfield 19 (b1 := 0) (b2 := 19) (by decide +kernel) (by decide +kernel) (by decide +kernel) (by decide +kernel)
set_option maxRecDepth 20000 in
theorem vX7_makeOdd_0 {E : sm_E} {L : sm_S → Prop} {d : Nat} {a0 : Nat}  {m : sm_M} {Q : sm_M → Prop}  (hd : 1 ≤ d) (hTa0 : sm_she L a0)
  (h : ((m.1 a0 2) ≤ 0 →
      Q m) ∧
   (¬ (m.1 a0 2) ≤ 0 →
      (¬ (sm_rem (m.1 a0 2) 2) = 0 →
         Q m) ∧
      ((sm_rem (m.1 a0 2) 2) = 0 →
         ((nI 48) ≤ (m.1 a0 2) →
            Q m) ∧
         (¬ (nI 48) ≤ (m.1 a0 2) →
            (vp_in ((m.1 a0 2) - 1) 48) ∧ (vp_in ((m.1 a0 2) - 1) 48) ∧ ∀ m_2 : sm_M, m_2 = sm_wJ m (a0 + 1) ((m.1 a0 2) - 1).toNatClampNeg ((m.2.1 (a0 + 1) ((m.1 a0 2) - 1).toNatClampNeg) - 1) →
            (vp_in (m_2.1 a0 2) 48) ∧ ∀ m_4 : sm_M, m_4 = sm_wJ m_2 (a0 + 1) (m_2.1 a0 2).toNatClampNeg 1 →
            ∀ m_6 : sm_M, m_6 = sm_wI m_4 a0 2 ((m_4.1 a0 2) + 1) →
            Q m_6)))) :
  sm_callV E L mX7_makeOdd d 0 0 [.ref (sm_B E + a0)] m Q := by
  refine sm_enter (by decide +kernel) (by simp [lg_sl, Value.category]) ?_
  refine sm_aload_n (Y := mX7_makeOdd) (pc := 0) 0 0 rfl rfl dX7_makeOdd_0 ?_
  refine gf_RX7_19 (Y := mX7_makeOdd) (pc := 1) rfl ((fun S hS => (hTa0 S hS).1) _) dX7_makeOdd_1 ?_
  refine sm_if_le (Y := mX7_makeOdd) (pc := 4) 63 (by decide) dX7_makeOdd_4 (fun hc => ?_) (fun hc => ?_)
  · replace h := h.1 hc
    exact sm_vret (Y := mX7_makeOdd) (pc := 63) rfl rfl rfl dX7_makeOdd_63 ⟨rfl, h⟩
  · replace h := h.2 hc
    refine sm_aload_n (Y := mX7_makeOdd) (pc := 7) 0 0 rfl rfl dX7_makeOdd_7 ?_
    refine gf_RX7_19 (Y := mX7_makeOdd) (pc := 8) rfl ((fun S hS => (hTa0 S hS).1) _) dX7_makeOdd_8 ?_
    refine sm_iconst (Y := mX7_makeOdd) (pc := 11) 2 (by decide) dX7_makeOdd_11 ?_
    refine sm_irem (Y := mX7_makeOdd) (pc := 12) (by decide) dX7_makeOdd_12 ?_
    refine sm_if_ne (Y := mX7_makeOdd) (pc := 13) 63 (by decide) dX7_makeOdd_13 (fun hc => ?_) (fun hc => ?_)
    · replace h := h.1 hc
      exact sm_vret (Y := mX7_makeOdd) (pc := 63) rfl rfl rfl dX7_makeOdd_63 ⟨rfl, h⟩
    · replace h := h.2 hc
      refine sm_aload_n (Y := mX7_makeOdd) (pc := 16) 0 0 rfl rfl dX7_makeOdd_16 ?_
      refine gf_RX7_19 (Y := mX7_makeOdd) (pc := 17) rfl ((fun S hS => (hTa0 S hS).1) _) dX7_makeOdd_17 ?_
      refine sm_aload_n (Y := mX7_makeOdd) (pc := 20) 0 0 rfl rfl dX7_makeOdd_20 ?_
      refine gf_RX7_9 (Y := mX7_makeOdd) (pc := 21) (b := a0 + 1) rfl ((fun S hS => (hTa0 S hS).1) _) (fun hS => (hTa0 _ hS).2.1) dX7_makeOdd_21 ?_
      refine sm_alenJ (Y := mX7_makeOdd) (pc := 24) (fun hS => (hTa0 _ hS).2.2) dX7_makeOdd_24 ?_
      refine sm_icmp_ge (Y := mX7_makeOdd) (pc := 25) 63 (by decide) dX7_makeOdd_25 (fun hc => ?_) (fun hc => ?_)
      · replace h := h.1 hc
        exact sm_vret (Y := mX7_makeOdd) (pc := 63) rfl rfl rfl dX7_makeOdd_63 ⟨rfl, h⟩
      · replace h := h.2 hc
        refine sm_aload_n (Y := mX7_makeOdd) (pc := 28) 0 0 rfl rfl dX7_makeOdd_28 ?_
        refine gf_RX7_9 (Y := mX7_makeOdd) (pc := 29) (b := a0 + 1) rfl ((fun S hS => (hTa0 S hS).1) _) (fun hS => (hTa0 _ hS).2.1) dX7_makeOdd_29 ?_
        refine sm_aload_n (Y := mX7_makeOdd) (pc := 32) 0 0 rfl rfl dX7_makeOdd_32 ?_
        refine gf_RX7_19 (Y := mX7_makeOdd) (pc := 33) rfl ((fun S hS => (hTa0 S hS).1) _) dX7_makeOdd_33 ?_
        refine sm_iconst (Y := mX7_makeOdd) (pc := 36) 1 (by decide) dX7_makeOdd_36 ?_
        refine sm_isub (Y := mX7_makeOdd) (pc := 37) dX7_makeOdd_37 ?_
        refine sm_dup2_11 (Y := mX7_makeOdd) (pc := 38) rfl rfl dX7_makeOdd_38 ?_
        obtain ⟨hn_1, h⟩ := h
        refine sm_lald (Y := mX7_makeOdd) (pc := 39) (fun hS => (hTa0 _ hS).2.2) hn_1 dX7_makeOdd_39 ?_
        refine sm_lconst (Y := mX7_makeOdd) (pc := 40) 1 (by decide) dX7_makeOdd_40 ?_
        refine sm_lsub (Y := mX7_makeOdd) (pc := 41) dX7_makeOdd_41 ?_
        obtain ⟨hn_3, h⟩ := h
        refine sm_last (Y := mX7_makeOdd) (pc := 42) (fun hS => (hTa0 _ hS).2.2) hn_3 dX7_makeOdd_42 (fun m_2 em_2 => ?_)
        replace h := h m_2 em_2
        refine sm_aload_n (Y := mX7_makeOdd) (pc := 43) 0 0 rfl rfl dX7_makeOdd_43 ?_
        refine gf_RX7_9 (Y := mX7_makeOdd) (pc := 44) (b := a0 + 1) rfl ((fun S hS => (hTa0 S hS).1) _) (fun hS => (hTa0 _ hS).2.1) dX7_makeOdd_44 ?_
        refine sm_aload_n (Y := mX7_makeOdd) (pc := 47) 0 0 rfl rfl dX7_makeOdd_47 ?_
        refine gf_RX7_19 (Y := mX7_makeOdd) (pc := 48) rfl ((fun S hS => (hTa0 S hS).1) _) dX7_makeOdd_48 ?_
        refine sm_lconst (Y := mX7_makeOdd) (pc := 51) 1 (by decide) dX7_makeOdd_51 ?_
        obtain ⟨hn_5, h⟩ := h
        refine sm_last (Y := mX7_makeOdd) (pc := 52) (fun hS => (hTa0 _ hS).2.2) hn_5 dX7_makeOdd_52 (fun m_4 em_4 => ?_)
        replace h := h m_4 em_4
        refine sm_aload_n (Y := mX7_makeOdd) (pc := 53) 0 0 rfl rfl dX7_makeOdd_53 ?_
        refine sm_dup (Y := mX7_makeOdd) (pc := 54) rfl dX7_makeOdd_54 ?_
        refine gf_RX7_19 (Y := mX7_makeOdd) (pc := 55) rfl ((fun S hS => (hTa0 S hS).1) _) dX7_makeOdd_55 ?_
        refine sm_iconst (Y := mX7_makeOdd) (pc := 58) 1 (by decide) dX7_makeOdd_58 ?_
        refine sm_iadd (Y := mX7_makeOdd) (pc := 59) dX7_makeOdd_59 ?_
        refine pf_RX7_19 (Y := mX7_makeOdd) (pc := 60) rfl ((fun S hS => (hTa0 S hS).1) _) dX7_makeOdd_60 (fun m_6 em_6 => ?_)
        replace h := h m_6 em_6
        exact sm_vret (Y := mX7_makeOdd) (pc := 63) rfl rfl rfl dX7_makeOdd_63 ⟨rfl, h⟩
def gX7_negate_2 (E : sm_E) (L : sm_S → Prop) (d : Nat) (vs : List Value) (a0 : Nat) (x1 : Int32) (m : sm_M) (Q : sm_M → Prop) : Prop := sm_go E L mX7_negate d 0 0 vs 2 [(0, .ref (sm_B E + a0)), (1, .int x1)] [] m 0 0 (sm_Z E L vs 0 0 (sm_QV Q))
theorem dX7_negate_2 : decode cX7_negate 2 = .ok (.iload_n 1, 1) := dk_iload_n_1 (by decide +kernel)
theorem dX7_negate_3 : decode cX7_negate 3 = .ok (.aload_n 0, 1) := dk_aload_n_0 (by decide +kernel)
theorem dX7_negate_4 : decode cX7_negate 4 = .ok (.getfield 19, 3) := dk_getfield 19 (b1 := 0) (b2 := 19) (by decide +kernel) (by decide +kernel) (by decide +kernel) (by decide +kernel)
theorem dX7_negate_7 : decode cX7_negate 7 = .ok (.if_icmp .ge 22, 3) := dk_if_icmp_ge 22 (b1 := 0) (b2 := 22) (by decide +kernel) (by decide +kernel) (by decide +kernel) (by decide +kernel)
theorem dX7_negate_29 : decode cX7_negate 29 = .ok (.return_, 1) := dk_return_ (by decide +kernel)
theorem dX7_negate_10 : decode cX7_negate 10 = .ok (.aload_n 0, 1) := dk_aload_n_0 (by decide +kernel)
theorem dX7_negate_11 : decode cX7_negate 11 = .ok (.getfield 9, 3) := dk_getfield 9 (b1 := 0) (b2 := 9) (by decide +kernel) (by decide +kernel) (by decide +kernel) (by decide +kernel)
theorem dX7_negate_14 : decode cX7_negate 14 = .ok (.iload_n 1, 1) := dk_iload_n_1 (by decide +kernel)
theorem dX7_negate_15 : decode cX7_negate 15 = .ok (.aload_n 0, 1) := dk_aload_n_0 (by decide +kernel)
theorem dX7_negate_16 : decode cX7_negate 16 = .ok (.getfield 9, 3) := dk_getfield 9 (b1 := 0) (b2 := 9) (by decide +kernel) (by decide +kernel) (by decide +kernel) (by decide +kernel)
theorem dX7_negate_19 : decode cX7_negate 19 = .ok (.iload_n 1, 1) := dk_iload_n_1 (by decide +kernel)
theorem dX7_negate_20 : decode cX7_negate 20 = .ok (.laload, 1) := dk_laload (by decide +kernel)
theorem dX7_negate_21 : decode cX7_negate 21 = .ok (.lneg, 1) := dk_lneg (by decide +kernel)
theorem dX7_negate_22 : decode cX7_negate 22 = .ok (.lastore, 1) := dk_lastore (by decide +kernel)
theorem dX7_negate_23 : decode cX7_negate 23 = .ok (.iinc 1 1, 3) := dk_iinc 1 1 (b1 := 1) (b2 := 1) (by decide +kernel) (by decide +kernel) (by decide +kernel) (by decide +kernel) (by decide +kernel)
theorem dX7_negate_26 : decode cX7_negate 26 = .ok (.goto (-24), 3) := dk_goto (-24) (b1 := 255) (b2 := 232) (by decide +kernel) (by decide +kernel) (by decide +kernel) (by decide +kernel)
set_option maxRecDepth 20000 in
theorem vX7_negate_2 {E : sm_E} {L : sm_S → Prop} {d : Nat} {vs : List Value} {a0 : Nat} {x1 : Int32}  {m : sm_M} {Q : sm_M → Prop}  (hd : 1 ≤ d) (hTa0 : sm_she L a0)
  (h : ((m.1 a0 2) ≤ x1 →
      Q m) ∧
   (¬ (m.1 a0 2) ≤ x1 →
      (vp_in x1 48) ∧ (vp_in x1 48) ∧ ∀ m_2 : sm_M, m_2 = sm_wJ m (a0 + 1) x1.toNatClampNeg (-(m.2.1 (a0 + 1) x1.toNatClampNeg)) →
      ∀ x1_4 : Int32, x1_4 = x1 + 1 →
      gX7_negate_2 E L d vs a0 x1_4 m_2 Q)) :
  gX7_negate_2 E L d vs a0 x1 m Q := by
  refine sm_iload_n (Y := mX7_negate) (pc := 2) 1 1 rfl rfl dX7_negate_2 ?_
  refine sm_aload_n (Y := mX7_negate) (pc := 3) 0 0 rfl rfl dX7_negate_3 ?_
  refine gf_RX7_19 (Y := mX7_negate) (pc := 4) rfl ((fun S hS => (hTa0 S hS).1) _) dX7_negate_4 ?_
  refine sm_icmp_ge (Y := mX7_negate) (pc := 7) 29 (by decide) dX7_negate_7 (fun hc => ?_) (fun hc => ?_)
  · replace h := h.1 hc
    exact sm_vret (Y := mX7_negate) (pc := 29) rfl rfl rfl dX7_negate_29 ⟨rfl, h⟩
  · replace h := h.2 hc
    refine sm_aload_n (Y := mX7_negate) (pc := 10) 0 0 rfl rfl dX7_negate_10 ?_
    refine gf_RX7_9 (Y := mX7_negate) (pc := 11) (b := a0 + 1) rfl ((fun S hS => (hTa0 S hS).1) _) (fun hS => (hTa0 _ hS).2.1) dX7_negate_11 ?_
    refine sm_iload_n (Y := mX7_negate) (pc := 14) 1 1 rfl rfl dX7_negate_14 ?_
    refine sm_aload_n (Y := mX7_negate) (pc := 15) 0 0 rfl rfl dX7_negate_15 ?_
    refine gf_RX7_9 (Y := mX7_negate) (pc := 16) (b := a0 + 1) rfl ((fun S hS => (hTa0 S hS).1) _) (fun hS => (hTa0 _ hS).2.1) dX7_negate_16 ?_
    refine sm_iload_n (Y := mX7_negate) (pc := 19) 1 1 rfl rfl dX7_negate_19 ?_
    obtain ⟨hn_1, h⟩ := h
    refine sm_lald (Y := mX7_negate) (pc := 20) (fun hS => (hTa0 _ hS).2.2) hn_1 dX7_negate_20 ?_
    refine sm_lneg (Y := mX7_negate) (pc := 21) dX7_negate_21 ?_
    obtain ⟨hn_3, h⟩ := h
    refine sm_last (Y := mX7_negate) (pc := 22) (fun hS => (hTa0 _ hS).2.2) hn_3 dX7_negate_22 (fun m_2 em_2 => ?_)
    replace h := h m_2 em_2
    refine sm_iinc (Y := mX7_negate) (pc := 23) (fun y => [(1, .int y), (0, .ref (sm_B E + a0))]) 1 1 rfl (by decide) (fun _ => rfl) dX7_negate_23 (fun x1_4 ex1_4 => ?_)
    replace h := h x1_4 ex1_4
    refine sm_goto (Y := mX7_negate) (pc := 26) 2 (by decide) dX7_negate_26 ?_
    refine sm_sub [1, 0] rfl ?_
    exact h
theorem dX7_negate_0 : decode cX7_negate 0 = .ok (.iconst 0, 1) := dk_iconst_0 (by decide +kernel)
theorem dX7_negate_1 : decode cX7_negate 1 = .ok (.istore_n 1, 1) := dk_istore_n_1 (by decide +kernel)
set_option maxRecDepth 20000 in
theorem vX7_negate_0 {E : sm_E} {L : sm_S → Prop} {d : Nat} {a0 : Nat}  {m : sm_M} {Q : sm_M → Prop}  (hd : 1 ≤ d) (hTa0 : sm_she L a0)
  (h : gX7_negate_2 E L d ([.ref (sm_B E + a0)]) a0 0 m Q) :
  sm_callV E L mX7_negate d 0 0 [.ref (sm_B E + a0)] m Q := by
  refine sm_enter (by decide +kernel) (by simp [lg_sl, Value.category]) ?_
  refine sm_iconst (Y := mX7_negate) (pc := 0) 0 (by decide) dX7_negate_0 ?_
  refine sm_istore0_n (Y := mX7_negate) (pc := 1) [(1, .int 0), (0, .ref (sm_B E + a0))] 1 rfl (by decide) rfl dX7_negate_1 ?_
  refine sm_sub [1, 0] rfl ?_
  exact h
abbrev mX7_workOut : sm_Y := (yX7_workOut, cX7_workOut, 11, (some FieldType.boolean))
theorem fX7_workOut : sm_mi mX7_workOut RX7 1 := ⟨sm_in 1106 (by decide +kernel) (by decide +kernel), sm_in 1104 (by decide +kernel) (by decide +kernel), sm_in 1105 (by decide +kernel) (by decide +kernel), sm_in 92 (by decide +kernel) (by decide +kernel), rfl, ⟨by decide +kernel, by decide +kernel, by decide +kernel⟩, by decide⟩
def gX7_workOut_82 (E : sm_E) (L : sm_S → Prop) (d : Nat) (vs : List Value) (a0 : Nat) (x1 : Int32) (x2 : Int64) (x4 : Int64) (x6 : Int32) (x7 : Int64) (m : sm_M) (Q : Int32 → sm_M → Prop) : Prop := sm_go E L mX7_workOut d 0 0 vs 82 [(0, .ref (sm_B E + a0)), (1, .int x1), (2, .long x2), (4, .long x4), (6, .int x6), (7, .long x7)] [] m 0 0 (sm_Z E L vs 0 0 (sm_QI Q))
def gX7_workOut_44 (E : sm_E) (L : sm_S → Prop) (d : Nat) (vs : List Value) (a0 : Nat) (x1 : Int32) (x2 : Int64) (x4 : Int64) (x6 : Int32) (m : sm_M) (Q : Int32 → sm_M → Prop) : Prop := sm_go E L mX7_workOut d 0 0 vs 44 [(0, .ref (sm_B E + a0)), (1, .int x1), (2, .long x2), (4, .long x4), (6, .int x6)] [] m 0 0 (sm_Z E L vs 0 0 (sm_QI Q))
theorem dX7_workOut_82 : decode cX7_workOut 82 = .ok (.lload 7, 2) := dk_lload 7 (b := 7) (by decide +kernel) (by decide +kernel) (by decide +kernel)
theorem dX7_workOut_84 : decode cX7_workOut 84 = .ok (.lload_n 2, 1) := dk_lload_n_2 (by decide +kernel)
theorem dX7_workOut_85 : decode cX7_workOut 85 = .ok (.lmul, 1) := dk_lmul (by decide +kernel)
theorem dX7_workOut_86 : decode cX7_workOut 86 = .ok (.iload_n 1, 1) := dk_iload_n_1 (by decide +kernel)
theorem dX7_workOut_87 : decode cX7_workOut 87 = .ok (.i2l, 1) := dk_i2l (by decide +kernel)
theorem dX7_workOut_88 : decode cX7_workOut 88 = .ok (.lload 4, 2) := dk_lload 4 (b := 4) (by decide +kernel) (by decide +kernel) (by decide +kernel)
theorem dX7_workOut_90 : decode cX7_workOut 90 = .ok (.lmul, 1) := dk_lmul (by decide +kernel)
theorem dX7_workOut_91 : decode cX7_workOut 91 = .ok (.ladd, 1) := dk_ladd (by decide +kernel)
theorem dX7_workOut_92 : decode cX7_workOut 92 = .ok (.lstore 9, 2) := dk_lstore 9 (b := 9) (by decide +kernel) (by decide +kernel) (by decide +kernel)
theorem dX7_workOut_94 : decode cX7_workOut 94 = .ok (.lload 9, 2) := dk_lload 9 (b := 9) (by decide +kernel) (by decide +kernel) (by decide +kernel)
theorem wRX7_82 : Cond.constantLong RX7 82 1000000000000000000 ∈ sm_T := sm_in 1107 (by decide +kernel) (by decide +kernel)
theorem dX7_workOut_96 : decode cX7_workOut 96 = .ok (.ldc2_w 82, 3) := dk_ldc2_w 82 (b1 := 0) (b2 := 82) (by decide +kernel) (by decide +kernel) (by decide +kernel) (by decide +kernel)
theorem wRX7_84 : Cond.methodLink RX7 84 yX7_isTooBig ∈ sm_T := sm_in 1108 (by decide +kernel) (by decide +kernel)
abbrev mX7_isTooBig : sm_Y := (yX7_isTooBig, cX7_isTooBig, 4, (some FieldType.boolean))
theorem fX7_isTooBig : sm_mt mX7_isTooBig 2 := ⟨sm_in 1110 (by decide +kernel) (by decide +kernel), sm_in 1109 (by decide +kernel) (by decide +kernel), sm_in 92 (by decide +kernel) (by decide +kernel), ⟨by decide +kernel, by decide +kernel, by decide +kernel⟩, by decide⟩
theorem dX7_workOut_99 : decode cX7_workOut 99 = .ok (.invokestatic 84, 3) := dk_invokestatic 84 (b1 := 0) (b2 := 84) (by decide +kernel) (by decide +kernel) (by decide +kernel) (by decide +kernel)
theorem dX7_workOut_102 : decode cX7_workOut 102 = .ok (.ifCond .eq 5, 3) := dk_ifCond_eq 5 (b1 := 0) (b2 := 5) (by decide +kernel) (by decide +kernel) (by decide +kernel) (by decide +kernel)
theorem dX7_workOut_107 : decode cX7_workOut 107 = .ok (.lload_n 2, 1) := dk_lload_n_2 (by decide +kernel)
theorem dX7_workOut_108 : decode cX7_workOut 108 = .ok (.lstore 4, 2) := dk_lstore 4 (b := 4) (by decide +kernel) (by decide +kernel) (by decide +kernel)
theorem dX7_workOut_110 : decode cX7_workOut 110 = .ok (.lload 9, 2) := dk_lload 9 (b := 9) (by decide +kernel) (by decide +kernel) (by decide +kernel)
theorem dX7_workOut_112 : decode cX7_workOut 112 = .ok (.lstore_n 2, 1) := dk_lstore_n_2 (by decide +kernel)
theorem dX7_workOut_113 : decode cX7_workOut 113 = .ok (.iinc 6 (-1), 3) := dk_iinc 6 (-1) (b1 := 6) (b2 := 255) (by decide +kernel) (by decide +kernel) (by decide +kernel) (by decide +kernel) (by decide +kernel)
theorem dX7_workOut_116 : decode cX7_workOut 116 = .ok (.goto (-72), 3) := dk_goto (-72) (b1 := 255) (b2 := 184) (by decide +kernel) (by decide +kernel) (by decide +kernel) (by decide +kernel)
theorem dX7_workOut_105 : decode cX7_workOut 105 = .ok (.iconst 0, 1) := dk_iconst_0 (by decide +kernel)
theorem dX7_workOut_106 : decode cX7_workOut 106 = .ok (.ireturn, 1) := dk_ireturn (by decide +kernel)
set_option maxRecDepth 20000 in
theorem vX7_workOut_82 {E : sm_E} {L : sm_S → Prop} {d : Nat} {vs : List Value} {a0 : Nat} {x1 : Int32} {x2 : Int64} {x4 : Int64} {x6 : Int32} {x7 : Int64}  {m : sm_M} {Q : Int32 → sm_M → Prop}  (hd : 2 ≤ d) (hTa0 : sm_she L a0)
  (h : ∀ x9_1 : Int64, x9_1 = (x7 * x2) + ((x1.toInt64) * x4) →
   sm_callI E L mX7_isTooBig 1 0 0 [.long x9_1, .long 1000000000000000000] m (fun r_3 m_2 =>
   (r_3 = 0 →
      ∀ x6_6 : Int32, x6_6 = x6 + (-1) →
      gX7_workOut_44 E L d vs a0 x1 x9_1 x2 x6_6 m_2 Q) ∧
   (¬ r_3 = 0 →
      Q 0 m_2))) :
  gX7_workOut_82 E L d vs a0 x1 x2 x4 x6 x7 m Q := by
  refine sm_lload (Y := mX7_workOut) (pc := 82) 5 7 rfl dX7_workOut_82 ?_
  refine sm_lload_n (Y := mX7_workOut) (pc := 84) 2 2 rfl rfl dX7_workOut_84 ?_
  refine sm_lmul (Y := mX7_workOut) (pc := 85) dX7_workOut_85 ?_
  refine sm_iload_n (Y := mX7_workOut) (pc := 86) 1 1 rfl rfl dX7_workOut_86 ?_
  refine sm_i2l (Y := mX7_workOut) (pc := 87) dX7_workOut_87 ?_
  refine sm_lload (Y := mX7_workOut) (pc := 88) 3 4 rfl dX7_workOut_88 ?_
  refine sm_lmul (Y := mX7_workOut) (pc := 90) dX7_workOut_90 ?_
  refine sm_ladd (Y := mX7_workOut) (pc := 91) dX7_workOut_91 ?_
  refine sm_lstore (Y := mX7_workOut) (pc := 92) (fun y => [(9, .long y), (0, .ref (sm_B E + a0)), (1, .int x1), (2, .long x2), (4, .long x4), (6, .int x6), (7, .long x7)]) 9 (by decide) (fun _ => rfl) dX7_workOut_92 (fun x9_1 ex9_1 => ?_)
  replace h := h x9_1 ex9_1
  refine sm_lload (Y := mX7_workOut) (pc := 94) 0 9 rfl dX7_workOut_94 ?_
  refine sm_ldc2_w (Y := mX7_workOut) (pc := 96) 1000000000000000000 wRX7_82 dX7_workOut_96 ?_
  refine sm_is_I (Y := mX7_workOut) (pc := 99) (As := [.long x9_1, .long 1000000000000000000]) fX7_isTooBig wRX7_84 rfl (Nat.le_trans (by decide) hd) (Nat.le_of_ble_eq_true rfl) ⟨Nat.le_refl _, Nat.le_refl _⟩ dX7_workOut_99 rfl (sm_monoI h (fun r_3 m_2 h => ?_))
  refine sm_if_eq (Y := mX7_workOut) (pc := 102) 107 (by decide) dX7_workOut_102 (fun hc => ?_) (fun hc => ?_)
  · replace h := h.1 hc
    refine sm_lload_n (Y := mX7_workOut) (pc := 107) 3 2 rfl rfl dX7_workOut_107 ?_
    refine sm_lstore0 (Y := mX7_workOut) (pc := 108) [(4, .long x2), (9, .long x9_1), (0, .ref (sm_B E + a0)), (1, .int x1), (2, .long x2), (6, .int x6), (7, .long x7)] 4 (by decide) rfl dX7_workOut_108 ?_
    refine sm_lload (Y := mX7_workOut) (pc := 110) 1 9 rfl dX7_workOut_110 ?_
    refine sm_lstore0_n (Y := mX7_workOut) (pc := 112) [(2, .long x9_1), (4, .long x2), (9, .long x9_1), (0, .ref (sm_B E + a0)), (1, .int x1), (6, .int x6), (7, .long x7)] 2 rfl (by decide) rfl dX7_workOut_112 ?_
    refine sm_iinc (Y := mX7_workOut) (pc := 113) (fun y => [(6, .int y), (2, .long x9_1), (4, .long x2), (9, .long x9_1), (0, .ref (sm_B E + a0)), (1, .int x1), (7, .long x7)]) 5 6 rfl (by decide) (fun _ => rfl) dX7_workOut_113 (fun x6_6 ex6_6 => ?_)
    replace h := h x6_6 ex6_6
    refine sm_goto (Y := mX7_workOut) (pc := 116) 44 (by decide) dX7_workOut_116 ?_
    refine sm_sub [4, 5, 1, 2, 0] rfl ?_
    exact h
  · replace h := h.2 hc
    refine sm_iconst (Y := mX7_workOut) (pc := 105) 0 (by decide) dX7_workOut_105 ?_
    exact sm_zret (Y := mX7_workOut) (pc := 106) rfl (by decide) rfl rfl dX7_workOut_106 ⟨_, rfl, h⟩
theorem dX7_workOut_44 : decode cX7_workOut 44 = .ok (.iload 6, 2) := dk_iload 6 (b := 6) (by decide +kernel) (by decide +kernel) (by decide +kernel)
theorem dX7_workOut_46 : decode cX7_workOut 46 = .ok (.ifCond .lt 73, 3) := dk_ifCond_lt 73 (b1 := 0) (b2 := 73) (by decide +kernel) (by decide +kernel) (by decide +kernel) (by decide +kernel)
theorem dX7_workOut_119 : decode cX7_workOut 119 = .ok (.aload_n 0, 1) := dk_aload_n_0 (by decide +kernel)
theorem dX7_workOut_120 : decode cX7_workOut 120 = .ok (.lload_n 2, 1) := dk_lload_n_2 (by decide +kernel)
theorem dX7_workOut_121 : decode cX7_workOut 121 = .ok (.putfield 22, 3) := dk_putfield 22 (b1 := 0) (b2 := 22) (by decide +kernel) (by decide +kernel) (by decide +kernel) (by decide +kernel)
theorem dX7_workOut_124 : decode cX7_workOut 124 = .ok (.aload_n 0, 1) := dk_aload_n_0 (by decide +kernel)
theorem dX7_workOut_125 : decode cX7_workOut 125 = .ok (.lload 4, 2) := dk_lload 4 (b := 4) (by decide +kernel) (by decide +kernel) (by decide +kernel)
theorem dX7_workOut_127 : decode cX7_workOut 127 = .ok (.putfield 26, 3) := dk_putfield 26 (b1 := 0) (b2 := 26) (by decide +kernel) (by decide +kernel) (by decide +kernel) (by decide +kernel)
theorem dX7_workOut_130 : decode cX7_workOut 130 = .ok (.iconst 1, 1) := dk_iconst_1 (by decide +kernel)
theorem dX7_workOut_131 : decode cX7_workOut 131 = .ok (.ireturn, 1) := dk_ireturn (by decide +kernel)
theorem dX7_workOut_49 : decode cX7_workOut 49 = .ok (.aload_n 0, 1) := dk_aload_n_0 (by decide +kernel)
theorem dX7_workOut_50 : decode cX7_workOut 50 = .ok (.getfield 9, 3) := dk_getfield 9 (b1 := 0) (b2 := 9) (by decide +kernel) (by decide +kernel) (by decide +kernel) (by decide +kernel)
theorem dX7_workOut_53 : decode cX7_workOut 53 = .ok (.iload 6, 2) := dk_iload 6 (b := 6) (by decide +kernel) (by decide +kernel) (by decide +kernel)
theorem dX7_workOut_55 : decode cX7_workOut 55 = .ok (.laload, 1) := dk_laload (by decide +kernel)
theorem dX7_workOut_56 : decode cX7_workOut 56 = .ok (.lstore 7, 2) := dk_lstore 7 (b := 7) (by decide +kernel) (by decide +kernel) (by decide +kernel)
theorem dX7_workOut_58 : decode cX7_workOut 58 = .ok (.lload_n 2, 1) := dk_lload_n_2 (by decide +kernel)
theorem dX7_workOut_59 : decode cX7_workOut 59 = .ok (.lconst 0, 1) := dk_lconst_0 (by decide +kernel)
theorem dX7_workOut_60 : decode cX7_workOut 60 = .ok (.lcmp, 1) := dk_lcmp (by decide +kernel)
theorem dX7_workOut_61 : decode cX7_workOut 61 = .ok (.ifCond .eq 21, 3) := dk_ifCond_eq 21 (b1 := 0) (b2 := 21) (by decide +kernel) (by decide +kernel) (by decide +kernel) (by decide +kernel)
theorem dX7_workOut_64 : decode cX7_workOut 64 = .ok (.lload 7, 2) := dk_lload 7 (b := 7) (by decide +kernel) (by decide +kernel) (by decide +kernel)
theorem wRX7_88 : Cond.constantLong RX7 88 2000000000000000000 ∈ sm_T := sm_in 1111 (by decide +kernel) (by decide +kernel)
theorem dX7_workOut_66 : decode cX7_workOut 66 = .ok (.ldc2_w 88, 3) := dk_ldc2_w 88 (b1 := 0) (b2 := 88) (by decide +kernel) (by decide +kernel) (by decide +kernel) (by decide +kernel)
theorem dX7_workOut_69 : decode cX7_workOut 69 = .ok (.lload_n 2, 1) := dk_lload_n_2 (by decide +kernel)
theorem dX7_workOut_70 : decode cX7_workOut 70 = .ok (.invokestatic 66, 3) := dk_invokestatic 66 (b1 := 0) (b2 := 66) (by decide +kernel) (by decide +kernel) (by decide +kernel) (by decide +kernel)
theorem dX7_workOut_73 : decode cX7_workOut 73 = .ok (.ldiv, 1) := dk_ldiv (by decide +kernel)
theorem dX7_workOut_74 : decode cX7_workOut 74 = .ok (.invokestatic 84, 3) := dk_invokestatic 84 (b1 := 0) (b2 := 84) (by decide +kernel) (by decide +kernel) (by decide +kernel) (by decide +kernel)
theorem dX7_workOut_77 : decode cX7_workOut 77 = .ok (.ifCond .eq 5, 3) := dk_ifCond_eq 5 (b1 := 0) (b2 := 5) (by decide +kernel) (by decide +kernel) (by decide +kernel) (by decide +kernel)
theorem dX7_workOut_80 : decode cX7_workOut 80 = .ok (.iconst 0, 1) := dk_iconst_0 (by decide +kernel)
theorem dX7_workOut_81 : decode cX7_workOut 81 = .ok (.ireturn, 1) := dk_ireturn (by decide +kernel)
set_option maxRecDepth 20000 in
theorem vX7_workOut_44 {E : sm_E} {L : sm_S → Prop} {d : Nat} {vs : List Value} {a0 : Nat} {x1 : Int32} {x2 : Int64} {x4 : Int64} {x6 : Int32}  {m : sm_M} {Q : Int32 → sm_M → Prop}  (hd : 2 ≤ d) (hTa0 : sm_she L a0)
  (h : (x6 < 0 →
      ∀ m_1 : sm_M, m_1 = sm_wJ m a0 3 x2 →
      ∀ m_2 : sm_M, m_2 = sm_wJ m_1 a0 4 x4 →
      Q 1 m_2) ∧
   (¬ x6 < 0 →
      (vp_in x6 48) ∧ ∀ x7_4 : Int64, x7_4 = m.2.1 (a0 + 1) x6.toNatClampNeg →
      (x2 = 0 →
         gX7_workOut_82 E L d vs a0 x1 x2 x4 x6 x7_4 m Q) ∧
      (¬ x2 = 0 →
         sm_callJ E L mJ9_abs_067f4 1 0 0 [.long x2] m (fun r_6 m_5 =>
         (¬ r_6 = 0) ∧ sm_callI E L mX7_isTooBig 1 0 0 [.long x7_4, .long ((2000000000000000000 : Int64) / r_6)] m_5 (fun r_9 m_8 =>
         (r_9 = 0 →
            gX7_workOut_82 E L d vs a0 x1 x2 x4 x6 x7_4 m_8 Q) ∧
         (¬ r_9 = 0 →
            Q 0 m_8)))))) :
  gX7_workOut_44 E L d vs a0 x1 x2 x4 x6 m Q := by
  refine sm_iload (Y := mX7_workOut) (pc := 44) 4 6 rfl dX7_workOut_44 ?_
  refine sm_if_lt (Y := mX7_workOut) (pc := 46) 119 (by decide) dX7_workOut_46 (fun hc => ?_) (fun hc => ?_)
  · replace h := h.1 hc
    refine sm_aload_n (Y := mX7_workOut) (pc := 119) 0 0 rfl rfl dX7_workOut_119 ?_
    refine sm_lload_n (Y := mX7_workOut) (pc := 120) 2 2 rfl rfl dX7_workOut_120 ?_
    refine pf_RX7_22 (Y := mX7_workOut) (pc := 121) rfl ((fun S hS => (hTa0 S hS).1) _) dX7_workOut_121 (fun m_1 em_1 => ?_)
    replace h := h m_1 em_1
    refine sm_aload_n (Y := mX7_workOut) (pc := 124) 0 0 rfl rfl dX7_workOut_124 ?_
    refine sm_lload (Y := mX7_workOut) (pc := 125) 3 4 rfl dX7_workOut_125 ?_
    refine pf_RX7_26 (Y := mX7_workOut) (pc := 127) rfl ((fun S hS => (hTa0 S hS).1) _) dX7_workOut_127 (fun m_2 em_2 => ?_)
    replace h := h m_2 em_2
    refine sm_iconst (Y := mX7_workOut) (pc := 130) 1 (by decide) dX7_workOut_130 ?_
    exact sm_zret (Y := mX7_workOut) (pc := 131) rfl (by decide) rfl rfl dX7_workOut_131 ⟨_, rfl, h⟩
  · replace h := h.2 hc
    refine sm_aload_n (Y := mX7_workOut) (pc := 49) 0 0 rfl rfl dX7_workOut_49 ?_
    refine gf_RX7_9 (Y := mX7_workOut) (pc := 50) (b := a0 + 1) rfl ((fun S hS => (hTa0 S hS).1) _) (fun hS => (hTa0 _ hS).2.1) dX7_workOut_50 ?_
    refine sm_iload (Y := mX7_workOut) (pc := 53) 4 6 rfl dX7_workOut_53 ?_
    obtain ⟨hn_3, h⟩ := h
    refine sm_lald (Y := mX7_workOut) (pc := 55) (fun hS => (hTa0 _ hS).2.2) hn_3 dX7_workOut_55 ?_
    refine sm_lstore (Y := mX7_workOut) (pc := 56) (fun y => [(7, .long y), (0, .ref (sm_B E + a0)), (1, .int x1), (2, .long x2), (4, .long x4), (6, .int x6)]) 7 (by decide) (fun _ => rfl) dX7_workOut_56 (fun x7_4 ex7_4 => ?_)
    replace h := h x7_4 ex7_4
    refine sm_lload_n (Y := mX7_workOut) (pc := 58) 3 2 rfl rfl dX7_workOut_58 ?_
    refine sm_lconst (Y := mX7_workOut) (pc := 59) 0 (by decide) dX7_workOut_59 ?_
    refine sm_lif_eq (Y := mX7_workOut) (pc := 60) 82 (by decide) dX7_workOut_60 dX7_workOut_61 (fun hc => ?_) (fun hc => ?_)
    · replace h := h.1 hc
      refine sm_sub [1, 2, 3, 4, 5, 0] rfl ?_
      exact h
    · replace h := h.2 hc
      refine sm_lload (Y := mX7_workOut) (pc := 64) 0 7 rfl dX7_workOut_64 ?_
      refine sm_ldc2_w (Y := mX7_workOut) (pc := 66) 2000000000000000000 wRX7_88 dX7_workOut_66 ?_
      refine sm_lload_n (Y := mX7_workOut) (pc := 69) 3 2 rfl rfl dX7_workOut_69 ?_
      refine sm_is_J (Y := mX7_workOut) (pc := 70) (As := [.long x2]) fJ9_abs_067f4 wRX7_66 rfl (Nat.le_trans (by decide) hd) (Nat.le_of_ble_eq_true rfl) ⟨Nat.le_refl _, Nat.le_refl _⟩ dX7_workOut_70 rfl (sm_monoJ h (fun r_6 m_5 h => ?_))
      obtain ⟨hn_7, h⟩ := h
      refine sm_ldiv (Y := mX7_workOut) (pc := 73) hn_7 dX7_workOut_73 ?_
      refine sm_is_I (Y := mX7_workOut) (pc := 74) (As := [.long x7_4, .long ((2000000000000000000 : Int64) / r_6)]) fX7_isTooBig wRX7_84 rfl (Nat.le_trans (by decide) hd) (Nat.le_of_ble_eq_true rfl) ⟨Nat.le_refl _, Nat.le_refl _⟩ dX7_workOut_74 rfl (sm_monoI h (fun r_9 m_8 h => ?_))
      refine sm_if_eq (Y := mX7_workOut) (pc := 77) 82 (by decide) dX7_workOut_77 (fun hc => ?_) (fun hc => ?_)
      · replace h := h.1 hc
        refine sm_sub [1, 2, 3, 4, 5, 0] rfl ?_
        exact h
      · replace h := h.2 hc
        refine sm_iconst (Y := mX7_workOut) (pc := 80) 0 (by decide) dX7_workOut_80 ?_
        exact sm_zret (Y := mX7_workOut) (pc := 81) rfl (by decide) rfl rfl dX7_workOut_81 ⟨_, rfl, h⟩
theorem dX7_workOut_0 : decode cX7_workOut 0 = .ok (.aload_n 0, 1) := dk_aload_n_0 (by decide +kernel)
theorem dX7_workOut_1 : decode cX7_workOut 1 = .ok (.getfield 19, 3) := dk_getfield 19 (b1 := 0) (b2 := 19) (by decide +kernel) (by decide +kernel) (by decide +kernel) (by decide +kernel)
theorem dX7_workOut_4 : decode cX7_workOut 4 = .ok (.ifCond .ne 5, 3) := dk_ifCond_ne 5 (b1 := 0) (b2 := 5) (by decide +kernel) (by decide +kernel) (by decide +kernel) (by decide +kernel)
theorem dX7_workOut_9 : decode cX7_workOut 9 = .ok (.aload_n 0, 1) := dk_aload_n_0 (by decide +kernel)
theorem dX7_workOut_10 : decode cX7_workOut 10 = .ok (.getfield 9, 3) := dk_getfield 9 (b1 := 0) (b2 := 9) (by decide +kernel) (by decide +kernel) (by decide +kernel) (by decide +kernel)
theorem dX7_workOut_13 : decode cX7_workOut 13 = .ok (.aload_n 0, 1) := dk_aload_n_0 (by decide +kernel)
theorem dX7_workOut_14 : decode cX7_workOut 14 = .ok (.getfield 19, 3) := dk_getfield 19 (b1 := 0) (b2 := 19) (by decide +kernel) (by decide +kernel) (by decide +kernel) (by decide +kernel)
theorem dX7_workOut_17 : decode cX7_workOut 17 = .ok (.iconst 1, 1) := dk_iconst_1 (by decide +kernel)
theorem dX7_workOut_18 : decode cX7_workOut 18 = .ok (.isub, 1) := dk_isub (by decide +kernel)
theorem dX7_workOut_19 : decode cX7_workOut 19 = .ok (.laload, 1) := dk_laload (by decide +kernel)
theorem dX7_workOut_20 : decode cX7_workOut 20 = .ok (.lstore_n 2, 1) := dk_lstore_n_2 (by decide +kernel)
theorem dX7_workOut_21 : decode cX7_workOut 21 = .ok (.lconst 1, 1) := dk_lconst_1 (by decide +kernel)
theorem dX7_workOut_22 : decode cX7_workOut 22 = .ok (.lstore 4, 2) := dk_lstore 4 (b := 4) (by decide +kernel) (by decide +kernel) (by decide +kernel)
theorem dX7_workOut_24 : decode cX7_workOut 24 = .ok (.lload_n 2, 1) := dk_lload_n_2 (by decide +kernel)
theorem dX7_workOut_25 : decode cX7_workOut 25 = .ok (.ldc2_w 82, 3) := dk_ldc2_w 82 (b1 := 0) (b2 := 82) (by decide +kernel) (by decide +kernel) (by decide +kernel) (by decide +kernel)
theorem dX7_workOut_28 : decode cX7_workOut 28 = .ok (.invokestatic 84, 3) := dk_invokestatic 84 (b1 := 0) (b2 := 84) (by decide +kernel) (by decide +kernel) (by decide +kernel) (by decide +kernel)
theorem dX7_workOut_31 : decode cX7_workOut 31 = .ok (.ifCond .eq 5, 3) := dk_ifCond_eq 5 (b1 := 0) (b2 := 5) (by decide +kernel) (by decide +kernel) (by decide +kernel) (by decide +kernel)
theorem dX7_workOut_36 : decode cX7_workOut 36 = .ok (.aload_n 0, 1) := dk_aload_n_0 (by decide +kernel)
theorem dX7_workOut_37 : decode cX7_workOut 37 = .ok (.getfield 19, 3) := dk_getfield 19 (b1 := 0) (b2 := 19) (by decide +kernel) (by decide +kernel) (by decide +kernel) (by decide +kernel)
theorem dX7_workOut_40 : decode cX7_workOut 40 = .ok (.iconst 2, 1) := dk_iconst_2 (by decide +kernel)
theorem dX7_workOut_41 : decode cX7_workOut 41 = .ok (.isub, 1) := dk_isub (by decide +kernel)
theorem dX7_workOut_42 : decode cX7_workOut 42 = .ok (.istore 6, 2) := dk_istore 6 (b := 6) (by decide +kernel) (by decide +kernel) (by decide +kernel)
theorem dX7_workOut_34 : decode cX7_workOut 34 = .ok (.iconst 0, 1) := dk_iconst_0 (by decide +kernel)
theorem dX7_workOut_35 : decode cX7_workOut 35 = .ok (.ireturn, 1) := dk_ireturn (by decide +kernel)
theorem dX7_workOut_7 : decode cX7_workOut 7 = .ok (.iconst 0, 1) := dk_iconst_0 (by decide +kernel)
theorem dX7_workOut_8 : decode cX7_workOut 8 = .ok (.ireturn, 1) := dk_ireturn (by decide +kernel)
set_option maxRecDepth 20000 in
theorem vX7_workOut_0 {E : sm_E} {L : sm_S → Prop} {d : Nat} {a0 : Nat} {x1 : Int32}  {m : sm_M} {Q : Int32 → sm_M → Prop}  (hd : 2 ≤ d) (hTa0 : sm_she L a0)
  (h : (¬ (m.1 a0 2) = 0 →
      (vp_in ((m.1 a0 2) - 1) 48) ∧ ∀ x2_2 : Int64, x2_2 = m.2.1 (a0 + 1) ((m.1 a0 2) - 1).toNatClampNeg →
      sm_callI E L mX7_isTooBig 1 0 0 [.long x2_2, .long 1000000000000000000] m (fun r_5 m_4 =>
      (r_5 = 0 →
         ∀ x6_6 : Int32, x6_6 = (m_4.1 a0 2) - 2 →
         gX7_workOut_44 E L d ([.ref (sm_B E + a0), .int x1]) a0 x1 x2_2 1 x6_6 m_4 Q) ∧
      (¬ r_5 = 0 →
         Q 0 m_4))) ∧
   ((m.1 a0 2) = 0 →
      Q 0 m)) :
  sm_callI E L mX7_workOut d 0 0 [.ref (sm_B E + a0), .int x1] m Q := by
  refine sm_enter (by decide +kernel) (by simp [lg_sl, Value.category]) ?_
  refine sm_aload_n (Y := mX7_workOut) (pc := 0) 0 0 rfl rfl dX7_workOut_0 ?_
  refine gf_RX7_19 (Y := mX7_workOut) (pc := 1) rfl ((fun S hS => (hTa0 S hS).1) _) dX7_workOut_1 ?_
  refine sm_if_ne (Y := mX7_workOut) (pc := 4) 9 (by decide) dX7_workOut_4 (fun hc => ?_) (fun hc => ?_)
  · replace h := h.1 hc
    refine sm_aload_n (Y := mX7_workOut) (pc := 9) 0 0 rfl rfl dX7_workOut_9 ?_
    refine gf_RX7_9 (Y := mX7_workOut) (pc := 10) (b := a0 + 1) rfl ((fun S hS => (hTa0 S hS).1) _) (fun hS => (hTa0 _ hS).2.1) dX7_workOut_10 ?_
    refine sm_aload_n (Y := mX7_workOut) (pc := 13) 0 0 rfl rfl dX7_workOut_13 ?_
    refine gf_RX7_19 (Y := mX7_workOut) (pc := 14) rfl ((fun S hS => (hTa0 S hS).1) _) dX7_workOut_14 ?_
    refine sm_iconst (Y := mX7_workOut) (pc := 17) 1 (by decide) dX7_workOut_17 ?_
    refine sm_isub (Y := mX7_workOut) (pc := 18) dX7_workOut_18 ?_
    obtain ⟨hn_1, h⟩ := h
    refine sm_lald (Y := mX7_workOut) (pc := 19) (fun hS => (hTa0 _ hS).2.2) hn_1 dX7_workOut_19 ?_
    refine sm_lstore_n (Y := mX7_workOut) (pc := 20) (fun y => [(2, .long y), (0, .ref (sm_B E + a0)), (1, .int x1)]) 2 rfl (by decide) (fun _ => rfl) dX7_workOut_20 (fun x2_2 ex2_2 => ?_)
    replace h := h x2_2 ex2_2
    refine sm_lconst (Y := mX7_workOut) (pc := 21) 1 (by decide) dX7_workOut_21 ?_
    refine sm_lstore0 (Y := mX7_workOut) (pc := 22) [(4, .long 1), (2, .long x2_2), (0, .ref (sm_B E + a0)), (1, .int x1)] 4 (by decide) rfl dX7_workOut_22 ?_
    refine sm_lload_n (Y := mX7_workOut) (pc := 24) 1 2 rfl rfl dX7_workOut_24 ?_
    refine sm_ldc2_w (Y := mX7_workOut) (pc := 25) 1000000000000000000 wRX7_82 dX7_workOut_25 ?_
    refine sm_is_I (Y := mX7_workOut) (pc := 28) (As := [.long x2_2, .long 1000000000000000000]) fX7_isTooBig wRX7_84 rfl (Nat.le_trans (by decide) hd) (Nat.le_of_ble_eq_true rfl) ⟨Nat.le_refl _, Nat.le_refl _⟩ dX7_workOut_28 rfl (sm_monoI h (fun r_5 m_4 h => ?_))
    refine sm_if_eq (Y := mX7_workOut) (pc := 31) 36 (by decide) dX7_workOut_31 (fun hc => ?_) (fun hc => ?_)
    · replace h := h.1 hc
      refine sm_aload_n (Y := mX7_workOut) (pc := 36) 2 0 rfl rfl dX7_workOut_36 ?_
      refine gf_RX7_19 (Y := mX7_workOut) (pc := 37) rfl ((fun S hS => (hTa0 S hS).1) _) dX7_workOut_37 ?_
      refine sm_iconst (Y := mX7_workOut) (pc := 40) 2 (by decide) dX7_workOut_40 ?_
      refine sm_isub (Y := mX7_workOut) (pc := 41) dX7_workOut_41 ?_
      refine sm_istore (Y := mX7_workOut) (pc := 42) (fun y => [(6, .int y), (4, .long 1), (2, .long x2_2), (0, .ref (sm_B E + a0)), (1, .int x1)]) 6 (by decide) (fun _ => rfl) dX7_workOut_42 (fun x6_6 ex6_6 => ?_)
      replace h := h x6_6 ex6_6
      refine sm_sub [3, 4, 2, 1, 0] rfl ?_
      exact h
    · replace h := h.2 hc
      refine sm_iconst (Y := mX7_workOut) (pc := 34) 0 (by decide) dX7_workOut_34 ?_
      exact sm_zret (Y := mX7_workOut) (pc := 35) rfl (by decide) rfl rfl dX7_workOut_35 ⟨_, rfl, h⟩
  · replace h := h.2 hc
    refine sm_iconst (Y := mX7_workOut) (pc := 7) 0 (by decide) dX7_workOut_7 ?_
    exact sm_zret (Y := mX7_workOut) (pc := 8) rfl (by decide) rfl rfl dX7_workOut_8 ⟨_, rfl, h⟩
theorem dX7_isTooBig_0 : decode cX7_isTooBig 0 = .ok (.lload_n 0, 1) := dk_lload_n_0 (by decide +kernel)
theorem dX7_isTooBig_1 : decode cX7_isTooBig 1 = .ok (.lload_n 2, 1) := dk_lload_n_2 (by decide +kernel)
theorem dX7_isTooBig_2 : decode cX7_isTooBig 2 = .ok (.lcmp, 1) := dk_lcmp (by decide +kernel)
theorem dX7_isTooBig_3 : decode cX7_isTooBig 3 = .ok (.ifCond .gt 10, 3) := dk_ifCond_gt 10 (b1 := 0) (b2 := 10) (by decide +kernel) (by decide +kernel) (by decide +kernel) (by decide +kernel)
theorem dX7_isTooBig_13 : decode cX7_isTooBig 13 = .ok (.iconst 1, 1) := dk_iconst_1 (by decide +kernel)
theorem dX7_isTooBig_14 : decode cX7_isTooBig 14 = .ok (.goto 4, 3) := dk_goto 4 (b1 := 0) (b2 := 4) (by decide +kernel) (by decide +kernel) (by decide +kernel) (by decide +kernel)
theorem dX7_isTooBig_18 : decode cX7_isTooBig 18 = .ok (.ireturn, 1) := dk_ireturn (by decide +kernel)
theorem dX7_isTooBig_6 : decode cX7_isTooBig 6 = .ok (.lload_n 0, 1) := dk_lload_n_0 (by decide +kernel)
theorem dX7_isTooBig_7 : decode cX7_isTooBig 7 = .ok (.lload_n 2, 1) := dk_lload_n_2 (by decide +kernel)
theorem dX7_isTooBig_8 : decode cX7_isTooBig 8 = .ok (.lneg, 1) := dk_lneg (by decide +kernel)
theorem dX7_isTooBig_9 : decode cX7_isTooBig 9 = .ok (.lcmp, 1) := dk_lcmp (by decide +kernel)
theorem dX7_isTooBig_10 : decode cX7_isTooBig 10 = .ok (.ifCond .ge 7, 3) := dk_ifCond_ge 7 (b1 := 0) (b2 := 7) (by decide +kernel) (by decide +kernel) (by decide +kernel) (by decide +kernel)
theorem dX7_isTooBig_17 : decode cX7_isTooBig 17 = .ok (.iconst 0, 1) := dk_iconst_0 (by decide +kernel)
set_option maxRecDepth 20000 in
theorem vX7_isTooBig_0 {E : sm_E} {L : sm_S → Prop} {d : Nat} {x0 : Int64} {x2 : Int64}  {m : sm_M} {Q : Int32 → sm_M → Prop}  (hd : 1 ≤ d) 
  (h : (x2 < x0 →
      Q 1 m) ∧
   (¬ x2 < x0 →
      ((-x2) ≤ x0 →
         Q 0 m) ∧
      (¬ (-x2) ≤ x0 →
         Q 1 m))) :
  sm_callI E L mX7_isTooBig d 0 0 [.long x0, .long x2] m Q := by
  refine sm_enter (by decide +kernel) (by simp [lg_sl, Value.category]) ?_
  refine sm_lload_n (Y := mX7_isTooBig) (pc := 0) 0 0 rfl rfl dX7_isTooBig_0 ?_
  refine sm_lload_n (Y := mX7_isTooBig) (pc := 1) 1 2 rfl rfl dX7_isTooBig_1 ?_
  refine sm_lif_gt (Y := mX7_isTooBig) (pc := 2) 13 (by decide) dX7_isTooBig_2 dX7_isTooBig_3 (fun hc => ?_) (fun hc => ?_)
  · replace h := h.1 hc
    refine sm_iconst (Y := mX7_isTooBig) (pc := 13) 1 (by decide) dX7_isTooBig_13 ?_
    refine sm_goto (Y := mX7_isTooBig) (pc := 14) 18 (by decide) dX7_isTooBig_14 ?_
    exact sm_zret (Y := mX7_isTooBig) (pc := 18) rfl (by decide) rfl rfl dX7_isTooBig_18 ⟨_, rfl, h⟩
  · replace h := h.2 hc
    refine sm_lload_n (Y := mX7_isTooBig) (pc := 6) 0 0 rfl rfl dX7_isTooBig_6 ?_
    refine sm_lload_n (Y := mX7_isTooBig) (pc := 7) 1 2 rfl rfl dX7_isTooBig_7 ?_
    refine sm_lneg (Y := mX7_isTooBig) (pc := 8) dX7_isTooBig_8 ?_
    refine sm_lif_ge (Y := mX7_isTooBig) (pc := 9) 17 (by decide) dX7_isTooBig_9 dX7_isTooBig_10 (fun hc => ?_) (fun hc => ?_)
    · replace h := h.1 hc
      refine sm_iconst (Y := mX7_isTooBig) (pc := 17) 0 (by decide) dX7_isTooBig_17 ?_
      exact sm_zret (Y := mX7_isTooBig) (pc := 18) rfl (by decide) rfl rfl dX7_isTooBig_18 ⟨_, rfl, h⟩
    · replace h := h.2 hc
      refine sm_iconst (Y := mX7_isTooBig) (pc := 13) 1 (by decide) dX7_isTooBig_13 ?_
      refine sm_goto (Y := mX7_isTooBig) (pc := 14) 18 (by decide) dX7_isTooBig_14 ?_
      exact sm_zret (Y := mX7_isTooBig) (pc := 18) rfl (by decide) rfl rfl dX7_isTooBig_18 ⟨_, rfl, h⟩
abbrev mX7_firstUnlike : sm_Y := (yX7_firstUnlike, cX7_firstUnlike, 4, (some FieldType.int))
theorem fX7_firstUnlike : sm_mi mX7_firstUnlike RX7 1 := ⟨sm_in 1119 (by decide +kernel) (by decide +kernel), sm_in 1117 (by decide +kernel) (by decide +kernel), sm_in 1118 (by decide +kernel) (by decide +kernel), sm_in 92 (by decide +kernel) (by decide +kernel), rfl, ⟨by decide +kernel, by decide +kernel, by decide +kernel⟩, by decide⟩
def gX7_firstUnlike_14 (E : sm_E) (L : sm_S → Prop) (d : Nat) (vs : List Value) (a0 : Nat) (a1 : Nat) (x2 : Int32) (x3 : Int32) (m : sm_M) (Q : Int32 → sm_M → Prop) : Prop := sm_go E L mX7_firstUnlike d 0 0 vs 14 [(0, .ref (sm_B E + a0)), (1, .ref (sm_B E + a1)), (2, .int x2), (3, .int x3)] [] m 0 0 (sm_Z E L vs 0 0 (sm_QI Q))
theorem dX7_firstUnlike_14 : decode cX7_firstUnlike 14 = .ok (.iload_n 3, 1) := dk_iload_n_3 (by decide +kernel)
theorem dX7_firstUnlike_15 : decode cX7_firstUnlike 15 = .ok (.iload_n 2, 1) := dk_iload_n_2 (by decide +kernel)
theorem dX7_firstUnlike_16 : decode cX7_firstUnlike 16 = .ok (.if_icmp .ge 27, 3) := dk_if_icmp_ge 27 (b1 := 0) (b2 := 27) (by decide +kernel) (by decide +kernel) (by decide +kernel) (by decide +kernel)
theorem dX7_firstUnlike_43 : decode cX7_firstUnlike 43 = .ok (.aload_n 0, 1) := dk_aload_n_0 (by decide +kernel)
theorem dX7_firstUnlike_44 : decode cX7_firstUnlike 44 = .ok (.getfield 19, 3) := dk_getfield 19 (b1 := 0) (b2 := 19) (by decide +kernel) (by decide +kernel) (by decide +kernel) (by decide +kernel)
theorem dX7_firstUnlike_47 : decode cX7_firstUnlike 47 = .ok (.aload_n 1, 1) := dk_aload_n_1 (by decide +kernel)
theorem dX7_firstUnlike_48 : decode cX7_firstUnlike 48 = .ok (.getfield 19, 3) := dk_getfield 19 (b1 := 0) (b2 := 19) (by decide +kernel) (by decide +kernel) (by decide +kernel) (by decide +kernel)
theorem dX7_firstUnlike_51 : decode cX7_firstUnlike 51 = .ok (.if_icmp .ne 7, 3) := dk_if_icmp_ne 7 (b1 := 0) (b2 := 7) (by decide +kernel) (by decide +kernel) (by decide +kernel) (by decide +kernel)
theorem dX7_firstUnlike_58 : decode cX7_firstUnlike 58 = .ok (.iload_n 2, 1) := dk_iload_n_2 (by decide +kernel)
theorem dX7_firstUnlike_59 : decode cX7_firstUnlike 59 = .ok (.ireturn, 1) := dk_ireturn (by decide +kernel)
theorem dX7_firstUnlike_54 : decode cX7_firstUnlike 54 = .ok (.iconst (-1), 1) := dk_iconst_m1 (by decide +kernel)
theorem dX7_firstUnlike_55 : decode cX7_firstUnlike 55 = .ok (.goto 4, 3) := dk_goto 4 (b1 := 0) (b2 := 4) (by decide +kernel) (by decide +kernel) (by decide +kernel) (by decide +kernel)
theorem dX7_firstUnlike_19 : decode cX7_firstUnlike 19 = .ok (.aload_n 0, 1) := dk_aload_n_0 (by decide +kernel)
theorem dX7_firstUnlike_20 : decode cX7_firstUnlike 20 = .ok (.getfield 9, 3) := dk_getfield 9 (b1 := 0) (b2 := 9) (by decide +kernel) (by decide +kernel) (by decide +kernel) (by decide +kernel)
theorem dX7_firstUnlike_23 : decode cX7_firstUnlike 23 = .ok (.iload_n 3, 1) := dk_iload_n_3 (by decide +kernel)
theorem dX7_firstUnlike_24 : decode cX7_firstUnlike 24 = .ok (.laload, 1) := dk_laload (by decide +kernel)
theorem dX7_firstUnlike_25 : decode cX7_firstUnlike 25 = .ok (.aload_n 1, 1) := dk_aload_n_1 (by decide +kernel)
theorem dX7_firstUnlike_26 : decode cX7_firstUnlike 26 = .ok (.getfield 9, 3) := dk_getfield 9 (b1 := 0) (b2 := 9) (by decide +kernel) (by decide +kernel) (by decide +kernel) (by decide +kernel)
theorem dX7_firstUnlike_29 : decode cX7_firstUnlike 29 = .ok (.iload_n 3, 1) := dk_iload_n_3 (by decide +kernel)
theorem dX7_firstUnlike_30 : decode cX7_firstUnlike 30 = .ok (.laload, 1) := dk_laload (by decide +kernel)
theorem dX7_firstUnlike_31 : decode cX7_firstUnlike 31 = .ok (.lcmp, 1) := dk_lcmp (by decide +kernel)
theorem dX7_firstUnlike_32 : decode cX7_firstUnlike 32 = .ok (.ifCond .eq 5, 3) := dk_ifCond_eq 5 (b1 := 0) (b2 := 5) (by decide +kernel) (by decide +kernel) (by decide +kernel) (by decide +kernel)
theorem dX7_firstUnlike_37 : decode cX7_firstUnlike 37 = .ok (.iinc 3 1, 3) := dk_iinc 3 1 (b1 := 3) (b2 := 1) (by decide +kernel) (by decide +kernel) (by decide +kernel) (by decide +kernel) (by decide +kernel)
theorem dX7_firstUnlike_40 : decode cX7_firstUnlike 40 = .ok (.goto (-26), 3) := dk_goto (-26) (b1 := 255) (b2 := 230) (by decide +kernel) (by decide +kernel) (by decide +kernel) (by decide +kernel)
theorem dX7_firstUnlike_35 : decode cX7_firstUnlike 35 = .ok (.iload_n 3, 1) := dk_iload_n_3 (by decide +kernel)
theorem dX7_firstUnlike_36 : decode cX7_firstUnlike 36 = .ok (.ireturn, 1) := dk_ireturn (by decide +kernel)
set_option maxRecDepth 20000 in
theorem vX7_firstUnlike_14 {E : sm_E} {L : sm_S → Prop} {d : Nat} {vs : List Value} {a0 : Nat} {a1 : Nat} {x2 : Int32} {x3 : Int32}  {m : sm_M} {Q : Int32 → sm_M → Prop}  (hd : 2 ≤ d) (hTa0 : sm_she L a0) (hTa1 : sm_she L a1)
  (h : (x2 ≤ x3 →
      (¬ (m.1 a0 2) = (m.1 a1 2) →
         Q x2 m) ∧
      ((m.1 a0 2) = (m.1 a1 2) →
         Q (-1) m)) ∧
   (¬ x2 ≤ x3 →
      (vp_in x3 48) ∧ (vp_in x3 48) ∧ ((m.2.1 (a0 + 1) x3.toNatClampNeg) = (m.2.1 (a1 + 1) x3.toNatClampNeg) →
         ∀ x3_3 : Int32, x3_3 = x3 + 1 →
         gX7_firstUnlike_14 E L d vs a0 a1 x2 x3_3 m Q) ∧
      (¬ (m.2.1 (a0 + 1) x3.toNatClampNeg) = (m.2.1 (a1 + 1) x3.toNatClampNeg) →
         Q x3 m))) :
  gX7_firstUnlike_14 E L d vs a0 a1 x2 x3 m Q := by
  refine sm_iload_n (Y := mX7_firstUnlike) (pc := 14) 3 3 rfl rfl dX7_firstUnlike_14 ?_
  refine sm_iload_n (Y := mX7_firstUnlike) (pc := 15) 2 2 rfl rfl dX7_firstUnlike_15 ?_
  refine sm_icmp_ge (Y := mX7_firstUnlike) (pc := 16) 43 (by decide) dX7_firstUnlike_16 (fun hc => ?_) (fun hc => ?_)
  · replace h := h.1 hc
    refine sm_aload_n (Y := mX7_firstUnlike) (pc := 43) 0 0 rfl rfl dX7_firstUnlike_43 ?_
    refine gf_RX7_19 (Y := mX7_firstUnlike) (pc := 44) rfl ((fun S hS => (hTa0 S hS).1) _) dX7_firstUnlike_44 ?_
    refine sm_aload_n (Y := mX7_firstUnlike) (pc := 47) 1 1 rfl rfl dX7_firstUnlike_47 ?_
    refine gf_RX7_19 (Y := mX7_firstUnlike) (pc := 48) rfl ((fun S hS => (hTa1 S hS).1) _) dX7_firstUnlike_48 ?_
    refine sm_icmp_ne (Y := mX7_firstUnlike) (pc := 51) 58 (by decide) dX7_firstUnlike_51 (fun hc => ?_) (fun hc => ?_)
    · replace h := h.1 hc
      refine sm_iload_n (Y := mX7_firstUnlike) (pc := 58) 2 2 rfl rfl dX7_firstUnlike_58 ?_
      exact sm_iret (Y := mX7_firstUnlike) (pc := 59) rfl rfl rfl dX7_firstUnlike_59 ⟨_, rfl, h⟩
    · replace h := h.2 hc
      refine sm_iconst (Y := mX7_firstUnlike) (pc := 54) (-1) (by decide) dX7_firstUnlike_54 ?_
      refine sm_goto (Y := mX7_firstUnlike) (pc := 55) 59 (by decide) dX7_firstUnlike_55 ?_
      exact sm_iret (Y := mX7_firstUnlike) (pc := 59) rfl rfl rfl dX7_firstUnlike_59 ⟨_, rfl, h⟩
  · replace h := h.2 hc
    refine sm_aload_n (Y := mX7_firstUnlike) (pc := 19) 0 0 rfl rfl dX7_firstUnlike_19 ?_
    refine gf_RX7_9 (Y := mX7_firstUnlike) (pc := 20) (b := a0 + 1) rfl ((fun S hS => (hTa0 S hS).1) _) (fun hS => (hTa0 _ hS).2.1) dX7_firstUnlike_20 ?_
    refine sm_iload_n (Y := mX7_firstUnlike) (pc := 23) 3 3 rfl rfl dX7_firstUnlike_23 ?_
    obtain ⟨hn_1, h⟩ := h
    refine sm_lald (Y := mX7_firstUnlike) (pc := 24) (fun hS => (hTa0 _ hS).2.2) hn_1 dX7_firstUnlike_24 ?_
    refine sm_aload_n (Y := mX7_firstUnlike) (pc := 25) 1 1 rfl rfl dX7_firstUnlike_25 ?_
    refine gf_RX7_9 (Y := mX7_firstUnlike) (pc := 26) (b := a1 + 1) rfl ((fun S hS => (hTa1 S hS).1) _) (fun hS => (hTa1 _ hS).2.1) dX7_firstUnlike_26 ?_
    refine sm_iload_n (Y := mX7_firstUnlike) (pc := 29) 3 3 rfl rfl dX7_firstUnlike_29 ?_
    obtain ⟨hn_2, h⟩ := h
    refine sm_lald (Y := mX7_firstUnlike) (pc := 30) (fun hS => (hTa1 _ hS).2.2) hn_2 dX7_firstUnlike_30 ?_
    refine sm_lif_eq (Y := mX7_firstUnlike) (pc := 31) 37 (by decide) dX7_firstUnlike_31 dX7_firstUnlike_32 (fun hc => ?_) (fun hc => ?_)
    · replace h := h.1 hc
      refine sm_iinc (Y := mX7_firstUnlike) (pc := 37) (fun y => [(3, .int y), (0, .ref (sm_B E + a0)), (1, .ref (sm_B E + a1)), (2, .int x2)]) 3 3 rfl (by decide) (fun _ => rfl) dX7_firstUnlike_37 (fun x3_3 ex3_3 => ?_)
      replace h := h x3_3 ex3_3
      refine sm_goto (Y := mX7_firstUnlike) (pc := 40) 14 (by decide) dX7_firstUnlike_40 ?_
      refine sm_sub [1, 2, 3, 0] rfl ?_
      exact h
    · replace h := h.2 hc
      refine sm_iload_n (Y := mX7_firstUnlike) (pc := 35) 3 3 rfl rfl dX7_firstUnlike_35 ?_
      exact sm_iret (Y := mX7_firstUnlike) (pc := 36) rfl rfl rfl dX7_firstUnlike_36 ⟨_, rfl, h⟩
theorem dX7_firstUnlike_0 : decode cX7_firstUnlike 0 = .ok (.aload_n 0, 1) := dk_aload_n_0 (by decide +kernel)
theorem dX7_firstUnlike_1 : decode cX7_firstUnlike 1 = .ok (.getfield 19, 3) := dk_getfield 19 (b1 := 0) (b2 := 19) (by decide +kernel) (by decide +kernel) (by decide +kernel) (by decide +kernel)
theorem dX7_firstUnlike_4 : decode cX7_firstUnlike 4 = .ok (.aload_n 1, 1) := dk_aload_n_1 (by decide +kernel)
theorem dX7_firstUnlike_5 : decode cX7_firstUnlike 5 = .ok (.getfield 19, 3) := dk_getfield 19 (b1 := 0) (b2 := 19) (by decide +kernel) (by decide +kernel) (by decide +kernel) (by decide +kernel)
theorem dX7_firstUnlike_8 : decode cX7_firstUnlike 8 = .ok (.invokestatic 35, 3) := dk_invokestatic 35 (b1 := 0) (b2 := 35) (by decide +kernel) (by decide +kernel) (by decide +kernel) (by decide +kernel)
theorem dX7_firstUnlike_11 : decode cX7_firstUnlike 11 = .ok (.istore_n 2, 1) := dk_istore_n_2 (by decide +kernel)
theorem dX7_firstUnlike_12 : decode cX7_firstUnlike 12 = .ok (.iconst 0, 1) := dk_iconst_0 (by decide +kernel)
theorem dX7_firstUnlike_13 : decode cX7_firstUnlike 13 = .ok (.istore_n 3, 1) := dk_istore_n_3 (by decide +kernel)
set_option maxRecDepth 20000 in
theorem vX7_firstUnlike_0 {E : sm_E} {L : sm_S → Prop} {d : Nat} {a0 : Nat} {a1 : Nat}  {m : sm_M} {Q : Int32 → sm_M → Prop}  (hd : 2 ≤ d) (hTa0 : sm_she L a0) (hTa1 : sm_she L a1)
  (h : sm_callI E L mJ9_min_7cf53 1 0 0 [.int (m.1 a0 2), .int (m.1 a1 2)] m (fun r_2 m_1 =>
   gX7_firstUnlike_14 E L d ([.ref (sm_B E + a0), .ref (sm_B E + a1)]) a0 a1 r_2 0 m_1 Q)) :
  sm_callI E L mX7_firstUnlike d 0 0 [.ref (sm_B E + a0), .ref (sm_B E + a1)] m Q := by
  refine sm_enter (by decide +kernel) (by simp [lg_sl, Value.category]) ?_
  refine sm_aload_n (Y := mX7_firstUnlike) (pc := 0) 0 0 rfl rfl dX7_firstUnlike_0 ?_
  refine gf_RX7_19 (Y := mX7_firstUnlike) (pc := 1) rfl ((fun S hS => (hTa0 S hS).1) _) dX7_firstUnlike_1 ?_
  refine sm_aload_n (Y := mX7_firstUnlike) (pc := 4) 1 1 rfl rfl dX7_firstUnlike_4 ?_
  refine gf_RX7_19 (Y := mX7_firstUnlike) (pc := 5) rfl ((fun S hS => (hTa1 S hS).1) _) dX7_firstUnlike_5 ?_
  refine sm_is_I (Y := mX7_firstUnlike) (pc := 8) (As := [.int (m.1 a0 2), .int (m.1 a1 2)]) fJ9_min_7cf53 wRX7_35 rfl (Nat.le_trans (by decide) hd) (Nat.le_of_ble_eq_true rfl) ⟨Nat.le_refl _, Nat.le_refl _⟩ dX7_firstUnlike_8 rfl (sm_monoI h (fun r_2 m_1 h => ?_))
  refine sm_istore0_n (Y := mX7_firstUnlike) (pc := 11) [(2, .int r_2), (0, .ref (sm_B E + a0)), (1, .ref (sm_B E + a1))] 2 rfl (by decide) rfl dX7_firstUnlike_11 ?_
  refine sm_iconst (Y := mX7_firstUnlike) (pc := 12) 0 (by decide) dX7_firstUnlike_12 ?_
  refine sm_istore0_n (Y := mX7_firstUnlike) (pc := 13) [(3, .int 0), (2, .int r_2), (0, .ref (sm_B E + a0)), (1, .ref (sm_B E + a1))] 3 rfl (by decide) rfl dX7_firstUnlike_13 ?_
  refine sm_sub [2, 3, 1, 0] rfl ?_
  exact h
abbrev mX0_has : sm_Y := (yX0_has, cX0_has, 2, (some FieldType.boolean))
theorem fX0_has : sm_mi mX0_has RX0 1 := ⟨sm_in 1026 (by decide +kernel) (by decide +kernel), sm_in 1024 (by decide +kernel) (by decide +kernel), sm_in 1025 (by decide +kernel) (by decide +kernel), sm_in 91 (by decide +kernel) (by decide +kernel), rfl, ⟨by decide +kernel, by decide +kernel, by decide +kernel⟩, by decide⟩
theorem dX0_has_0 : decode cX0_has 0 = .ok (.iload_n 1, 1) := dk_iload_n_1 (by decide +kernel)
theorem dX0_has_1 : decode cX0_has 1 = .ok (.ifCond .lt 15, 3) := dk_ifCond_lt 15 (b1 := 0) (b2 := 15) (by decide +kernel) (by decide +kernel) (by decide +kernel) (by decide +kernel)
theorem dX0_has_16 : decode cX0_has 16 = .ok (.iconst 0, 1) := dk_iconst_0 (by decide +kernel)
theorem dX0_has_17 : decode cX0_has 17 = .ok (.ireturn, 1) := dk_ireturn (by decide +kernel)
theorem dX0_has_4 : decode cX0_has 4 = .ok (.iload_n 1, 1) := dk_iload_n_1 (by decide +kernel)
theorem dX0_has_5 : decode cX0_has 5 = .ok (.aload_n 0, 1) := dk_aload_n_0 (by decide +kernel)
theorem dX0_has_6 : decode cX0_has 6 = .ok (.getfield 19, 3) := dk_getfield 19 (b1 := 0) (b2 := 19) (by decide +kernel) (by decide +kernel) (by decide +kernel) (by decide +kernel)
theorem dX0_has_9 : decode cX0_has 9 = .ok (.if_icmp .ge 7, 3) := dk_if_icmp_ge 7 (b1 := 0) (b2 := 7) (by decide +kernel) (by decide +kernel) (by decide +kernel) (by decide +kernel)
theorem dX0_has_12 : decode cX0_has 12 = .ok (.iconst 1, 1) := dk_iconst_1 (by decide +kernel)
theorem dX0_has_13 : decode cX0_has 13 = .ok (.goto 4, 3) := dk_goto 4 (b1 := 0) (b2 := 4) (by decide +kernel) (by decide +kernel) (by decide +kernel) (by decide +kernel)
set_option maxRecDepth 20000 in
theorem vX0_has_0 {E : sm_E} {L : sm_S → Prop} {d : Nat} {x1 : Int32}  {m : sm_M} {Q : Int32 → sm_M → Prop} (hly : ∀ S, L S → ly S) (hd : 1 ≤ d) 
  (h : (x1 < 0 →
      Q 0 m) ∧
   (¬ x1 < 0 →
      ((m.1 70 2) ≤ x1 →
         Q 0 m) ∧
      (¬ (m.1 70 2) ≤ x1 →
         Q 1 m))) :
  sm_callI E L mX0_has d 0 0 [.ref (sm_B E + 70), .int x1] m Q := by
  refine sm_enter (by decide +kernel) (by simp [lg_sl, Value.category]) ?_
  refine sm_iload_n (Y := mX0_has) (pc := 0) 1 1 rfl rfl dX0_has_0 ?_
  refine sm_if_lt (Y := mX0_has) (pc := 1) 16 (by decide) dX0_has_1 (fun hc => ?_) (fun hc => ?_)
  · replace h := h.1 hc
    refine sm_iconst (Y := mX0_has) (pc := 16) 0 (by decide) dX0_has_16 ?_
    exact sm_zret (Y := mX0_has) (pc := 17) rfl (by decide) rfl rfl dX0_has_17 ⟨_, rfl, h⟩
  · replace h := h.2 hc
    refine sm_iload_n (Y := mX0_has) (pc := 4) 1 1 rfl rfl dX0_has_4 ?_
    refine sm_aload_n (Y := mX0_has) (pc := 5) 0 0 rfl rfl dX0_has_5 ?_
    refine gf_RX0_19 (Y := mX0_has) (pc := 6) rfl ((lk_70 hly) _) dX0_has_6 ?_
    refine sm_icmp_ge (Y := mX0_has) (pc := 9) 16 (by decide) dX0_has_9 (fun hc => ?_) (fun hc => ?_)
    · replace h := h.1 hc
      refine sm_iconst (Y := mX0_has) (pc := 16) 0 (by decide) dX0_has_16 ?_
      exact sm_zret (Y := mX0_has) (pc := 17) rfl (by decide) rfl rfl dX0_has_17 ⟨_, rfl, h⟩
    · replace h := h.2 hc
      refine sm_iconst (Y := mX0_has) (pc := 12) 1 (by decide) dX0_has_12 ?_
      refine sm_goto (Y := mX0_has) (pc := 13) 17 (by decide) dX0_has_13 ?_
      exact sm_zret (Y := mX0_has) (pc := 17) rfl (by decide) rfl rfl dX0_has_17 ⟨_, rfl, h⟩
abbrev mX0_inscribe : sm_Y := (yX0_inscribe, cX0_inscribe, 4, (some FieldType.int))
theorem fX0_inscribe : sm_mi mX0_inscribe RX0 1 := ⟨sm_in 1014 (by decide +kernel) (by decide +kernel), sm_in 1012 (by decide +kernel) (by decide +kernel), sm_in 1013 (by decide +kernel) (by decide +kernel), sm_in 91 (by decide +kernel) (by decide +kernel), rfl, ⟨by decide +kernel, by decide +kernel, by decide +kernel⟩, by decide⟩
def gX0_inscribe_49 (E : sm_E) (L : sm_S → Prop) (d : Nat) (vs : List Value) (x3 : Int32) (m : sm_M) (Q : Int32 → sm_M → Prop) : Prop := sm_go E L mX0_inscribe d 0 0 vs 49 [(0, .ref (sm_B E + 70)), (3, .int x3)] [] m 0 0 (sm_Z E L vs 0 0 (sm_QI Q))
theorem dX0_inscribe_49 : decode cX0_inscribe 49 = .ok (.aload_n 0, 1) := dk_aload_n_0 (by decide +kernel)
theorem dX0_inscribe_50 : decode cX0_inscribe 50 = .ok (.getfield 15, 3) := dk_getfield 15 (b1 := 0) (b2 := 15) (by decide +kernel) (by decide +kernel) (by decide +kernel) (by decide +kernel)
theorem dX0_inscribe_53 : decode cX0_inscribe 53 = .ok (.iload_n 3, 1) := dk_iload_n_3 (by decide +kernel)
theorem dX0_inscribe_54 : decode cX0_inscribe 54 = .ok (.dup2, 1) := dk_dup2 (by decide +kernel)
theorem dX0_inscribe_55 : decode cX0_inscribe 55 = .ok (.iaload, 1) := dk_iaload (by decide +kernel)
theorem dX0_inscribe_56 : decode cX0_inscribe 56 = .ok (.iconst 1, 1) := dk_iconst_1 (by decide +kernel)
theorem dX0_inscribe_57 : decode cX0_inscribe 57 = .ok (.iadd, 1) := dk_iadd (by decide +kernel)
theorem dX0_inscribe_58 : decode cX0_inscribe 58 = .ok (.iastore, 1) := dk_iastore (by decide +kernel)
theorem dX0_inscribe_59 : decode cX0_inscribe 59 = .ok (.aload_n 0, 1) := dk_aload_n_0 (by decide +kernel)
theorem dX0_inscribe_60 : decode cX0_inscribe 60 = .ok (.dup, 1) := dk_dup (by decide +kernel)
theorem dX0_inscribe_61 : decode cX0_inscribe 61 = .ok (.getfield 23, 3) := dk_getfield 23 (b1 := 0) (b2 := 23) (by decide +kernel) (by decide +kernel) (by decide +kernel) (by decide +kernel)
theorem dX0_inscribe_64 : decode cX0_inscribe 64 = .ok (.iconst 1, 1) := dk_iconst_1 (by decide +kernel)
theorem dX0_inscribe_65 : decode cX0_inscribe 65 = .ok (.iadd, 1) := dk_iadd (by decide +kernel)
theorem dX0_inscribe_66 : decode cX0_inscribe 66 = .ok (.putfield 23, 3) := dk_putfield 23 (b1 := 0) (b2 := 23) (by decide +kernel) (by decide +kernel) (by decide +kernel) (by decide +kernel)
theorem dX0_inscribe_69 : decode cX0_inscribe 69 = .ok (.aload_n 0, 1) := dk_aload_n_0 (by decide +kernel)
theorem dX0_inscribe_70 : decode cX0_inscribe 70 = .ok (.getfield 15, 3) := dk_getfield 15 (b1 := 0) (b2 := 15) (by decide +kernel) (by decide +kernel) (by decide +kernel) (by decide +kernel)
theorem dX0_inscribe_73 : decode cX0_inscribe 73 = .ok (.iload_n 3, 1) := dk_iload_n_3 (by decide +kernel)
theorem dX0_inscribe_74 : decode cX0_inscribe 74 = .ok (.iaload, 1) := dk_iaload (by decide +kernel)
theorem dX0_inscribe_75 : decode cX0_inscribe 75 = .ok (.ireturn, 1) := dk_ireturn (by decide +kernel)
set_option maxRecDepth 20000 in
theorem vX0_inscribe_49 {E : sm_E} {L : sm_S → Prop} {d : Nat} {vs : List Value} {x3 : Int32}  {m : sm_M} {Q : Int32 → sm_M → Prop} (hly : ∀ S, L S → ly S) (hd : 2 ≤ d) 
  (h : (vp_in x3 40) ∧ (vp_in x3 40) ∧ ∀ m_2 : sm_M, m_2 = sm_wI m 72 x3.toNatClampNeg ((m.1 72 x3.toNatClampNeg) + 1) →
   ∀ m_4 : sm_M, m_4 = sm_wI m_2 70 3 ((m_2.1 70 3) + 1) →
   (vp_in x3 40) ∧ Q (m_4.1 72 x3.toNatClampNeg) m_4) :
  gX0_inscribe_49 E L d vs x3 m Q := by
  refine sm_aload_n (Y := mX0_inscribe) (pc := 49) 0 0 rfl rfl dX0_inscribe_49 ?_
  refine gf_RX0_15 (Y := mX0_inscribe) (pc := 50) (b := 72) rfl ((lk_70 hly) _) (lf_70_1 hly _) dX0_inscribe_50 ?_
  refine sm_iload_n (Y := mX0_inscribe) (pc := 53) 1 3 rfl rfl dX0_inscribe_53 ?_
  refine sm_dup2_11 (Y := mX0_inscribe) (pc := 54) rfl rfl dX0_inscribe_54 ?_
  obtain ⟨hn_1, h⟩ := h
  refine sm_iald (Y := mX0_inscribe) (pc := 55) (la_72 hly _) hn_1 dX0_inscribe_55 ?_
  refine sm_iconst (Y := mX0_inscribe) (pc := 56) 1 (by decide) dX0_inscribe_56 ?_
  refine sm_iadd (Y := mX0_inscribe) (pc := 57) dX0_inscribe_57 ?_
  obtain ⟨hn_3, h⟩ := h
  refine sm_iast (Y := mX0_inscribe) (pc := 58) (la_72 hly _) hn_3 dX0_inscribe_58 (fun m_2 em_2 => ?_)
  replace h := h m_2 em_2
  refine sm_aload_n (Y := mX0_inscribe) (pc := 59) 0 0 rfl rfl dX0_inscribe_59 ?_
  refine sm_dup (Y := mX0_inscribe) (pc := 60) rfl dX0_inscribe_60 ?_
  refine gf_RX0_23 (Y := mX0_inscribe) (pc := 61) rfl ((lk_70 hly) _) dX0_inscribe_61 ?_
  refine sm_iconst (Y := mX0_inscribe) (pc := 64) 1 (by decide) dX0_inscribe_64 ?_
  refine sm_iadd (Y := mX0_inscribe) (pc := 65) dX0_inscribe_65 ?_
  refine pf_RX0_23 (Y := mX0_inscribe) (pc := 66) rfl ((lk_70 hly) _) dX0_inscribe_66 (fun m_4 em_4 => ?_)
  replace h := h m_4 em_4
  refine sm_aload_n (Y := mX0_inscribe) (pc := 69) 0 0 rfl rfl dX0_inscribe_69 ?_
  refine gf_RX0_15 (Y := mX0_inscribe) (pc := 70) (b := 72) rfl ((lk_70 hly) _) (lf_70_1 hly _) dX0_inscribe_70 ?_
  refine sm_iload_n (Y := mX0_inscribe) (pc := 73) 1 3 rfl rfl dX0_inscribe_73 ?_
  obtain ⟨hn_5, h⟩ := h
  refine sm_iald (Y := mX0_inscribe) (pc := 74) (la_72 hly _) hn_5 dX0_inscribe_74 ?_
  exact sm_iret (Y := mX0_inscribe) (pc := 75) rfl rfl rfl dX0_inscribe_75 ⟨_, rfl, h⟩
theorem dX0_inscribe_0 : decode cX0_inscribe 0 = .ok (.aload_n 0, 1) := dk_aload_n_0 (by decide +kernel)
theorem dX0_inscribe_1 : decode cX0_inscribe 1 = .ok (.lload_n 1, 1) := dk_lload_n_1 (by decide +kernel)
theorem wRX0_26 : Cond.methodLink RX0 26 yX0_placeOf ∈ sm_T := sm_in 1015 (by decide +kernel) (by decide +kernel)
abbrev mX0_placeOf : sm_Y := (yX0_placeOf, cX0_placeOf, 4, (some FieldType.int))
theorem fX0_placeOf : sm_mi mX0_placeOf RX0 1 := ⟨sm_in 1018 (by decide +kernel) (by decide +kernel), sm_in 1017 (by decide +kernel) (by decide +kernel), sm_in 35 (by decide +kernel) (by decide +kernel), sm_in 91 (by decide +kernel) (by decide +kernel), rfl, ⟨by decide +kernel, by decide +kernel, by decide +kernel⟩, by decide⟩
theorem dX0_inscribe_2 : decode cX0_inscribe 2 = .ok (.invokevirtual 26, 3) := dk_invokevirtual 26 (b1 := 0) (b2 := 26) (by decide +kernel) (by decide +kernel) (by decide +kernel) (by decide +kernel)
theorem dX0_inscribe_5 : decode cX0_inscribe 5 = .ok (.istore_n 3, 1) := dk_istore_n_3 (by decide +kernel)
theorem dX0_inscribe_6 : decode cX0_inscribe 6 = .ok (.iload_n 3, 1) := dk_iload_n_3 (by decide +kernel)
theorem dX0_inscribe_7 : decode cX0_inscribe 7 = .ok (.aload_n 0, 1) := dk_aload_n_0 (by decide +kernel)
theorem dX0_inscribe_8 : decode cX0_inscribe 8 = .ok (.getfield 9, 3) := dk_getfield 9 (b1 := 0) (b2 := 9) (by decide +kernel) (by decide +kernel) (by decide +kernel) (by decide +kernel)
theorem dX0_inscribe_11 : decode cX0_inscribe 11 = .ok (.arraylength, 1) := dk_arraylength (by decide +kernel)
theorem dX0_inscribe_12 : decode cX0_inscribe 12 = .ok (.if_icmp .lt 5, 3) := dk_if_icmp_lt 5 (b1 := 0) (b2 := 5) (by decide +kernel) (by decide +kernel) (by decide +kernel) (by decide +kernel)
theorem dX0_inscribe_17 : decode cX0_inscribe 17 = .ok (.iload_n 3, 1) := dk_iload_n_3 (by decide +kernel)
theorem dX0_inscribe_18 : decode cX0_inscribe 18 = .ok (.aload_n 0, 1) := dk_aload_n_0 (by decide +kernel)
theorem dX0_inscribe_19 : decode cX0_inscribe 19 = .ok (.getfield 19, 3) := dk_getfield 19 (b1 := 0) (b2 := 19) (by decide +kernel) (by decide +kernel) (by decide +kernel) (by decide +kernel)
theorem dX0_inscribe_22 : decode cX0_inscribe 22 = .ok (.if_icmp .ne 27, 3) := dk_if_icmp_ne 27 (b1 := 0) (b2 := 27) (by decide +kernel) (by decide +kernel) (by decide +kernel) (by decide +kernel)
theorem dX0_inscribe_25 : decode cX0_inscribe 25 = .ok (.aload_n 0, 1) := dk_aload_n_0 (by decide +kernel)
theorem dX0_inscribe_26 : decode cX0_inscribe 26 = .ok (.getfield 9, 3) := dk_getfield 9 (b1 := 0) (b2 := 9) (by decide +kernel) (by decide +kernel) (by decide +kernel) (by decide +kernel)
theorem dX0_inscribe_29 : decode cX0_inscribe 29 = .ok (.iload_n 3, 1) := dk_iload_n_3 (by decide +kernel)
theorem dX0_inscribe_30 : decode cX0_inscribe 30 = .ok (.lload_n 1, 1) := dk_lload_n_1 (by decide +kernel)
theorem dX0_inscribe_31 : decode cX0_inscribe 31 = .ok (.lastore, 1) := dk_lastore (by decide +kernel)
theorem dX0_inscribe_32 : decode cX0_inscribe 32 = .ok (.aload_n 0, 1) := dk_aload_n_0 (by decide +kernel)
theorem dX0_inscribe_33 : decode cX0_inscribe 33 = .ok (.getfield 15, 3) := dk_getfield 15 (b1 := 0) (b2 := 15) (by decide +kernel) (by decide +kernel) (by decide +kernel) (by decide +kernel)
theorem dX0_inscribe_36 : decode cX0_inscribe 36 = .ok (.iload_n 3, 1) := dk_iload_n_3 (by decide +kernel)
theorem dX0_inscribe_37 : decode cX0_inscribe 37 = .ok (.iconst 0, 1) := dk_iconst_0 (by decide +kernel)
theorem dX0_inscribe_38 : decode cX0_inscribe 38 = .ok (.iastore, 1) := dk_iastore (by decide +kernel)
theorem dX0_inscribe_39 : decode cX0_inscribe 39 = .ok (.aload_n 0, 1) := dk_aload_n_0 (by decide +kernel)
theorem dX0_inscribe_40 : decode cX0_inscribe 40 = .ok (.dup, 1) := dk_dup (by decide +kernel)
theorem dX0_inscribe_41 : decode cX0_inscribe 41 = .ok (.getfield 19, 3) := dk_getfield 19 (b1 := 0) (b2 := 19) (by decide +kernel) (by decide +kernel) (by decide +kernel) (by decide +kernel)
theorem dX0_inscribe_44 : decode cX0_inscribe 44 = .ok (.iconst 1, 1) := dk_iconst_1 (by decide +kernel)
theorem dX0_inscribe_45 : decode cX0_inscribe 45 = .ok (.iadd, 1) := dk_iadd (by decide +kernel)
theorem dX0_inscribe_46 : decode cX0_inscribe 46 = .ok (.putfield 19, 3) := dk_putfield 19 (b1 := 0) (b2 := 19) (by decide +kernel) (by decide +kernel) (by decide +kernel) (by decide +kernel)
theorem dX0_inscribe_15 : decode cX0_inscribe 15 = .ok (.iconst 0, 1) := dk_iconst_0 (by decide +kernel)
theorem dX0_inscribe_16 : decode cX0_inscribe 16 = .ok (.ireturn, 1) := dk_ireturn (by decide +kernel)
set_option maxRecDepth 20000 in
theorem vX0_inscribe_0 {E : sm_E} {L : sm_S → Prop} {d : Nat} {x1 : Int64}  {m : sm_M} {Q : Int32 → sm_M → Prop} (hly : ∀ S, L S → ly S) (hd : 2 ≤ d) 
  (h : sm_callI E L mX0_placeOf 1 0 0 [.ref (sm_B E + 70), .long x1] m (fun r_2 m_1 =>
   (r_2 < (nI 40) →
      (¬ r_2 = (m_1.1 70 2) →
         gX0_inscribe_49 E L d ([.ref (sm_B E + 70), .long x1]) r_2 m_1 Q) ∧
      (r_2 = (m_1.1 70 2) →
         (vp_in r_2 40) ∧ ∀ m_4 : sm_M, m_4 = sm_wJ m_1 71 r_2.toNatClampNeg x1 →
         (vp_in r_2 40) ∧ ∀ m_6 : sm_M, m_6 = sm_wI m_4 72 r_2.toNatClampNeg 0 →
         ∀ m_8 : sm_M, m_8 = sm_wI m_6 70 2 ((m_6.1 70 2) + 1) →
         gX0_inscribe_49 E L d ([.ref (sm_B E + 70), .long x1]) r_2 m_8 Q)) ∧
   (¬ r_2 < (nI 40) →
      Q 0 m_1))) :
  sm_callI E L mX0_inscribe d 0 0 [.ref (sm_B E + 70), .long x1] m Q := by
  refine sm_enter (by decide +kernel) (by simp [lg_sl, Value.category]) ?_
  refine sm_aload_n (Y := mX0_inscribe) (pc := 0) 0 0 rfl rfl dX0_inscribe_0 ?_
  refine sm_lload_n (Y := mX0_inscribe) (pc := 1) 1 1 rfl rfl dX0_inscribe_1 ?_
  refine sm_iv_I (Y := mX0_inscribe) (pc := 2) (As := [.long x1]) (a := 70) fX0_placeOf wRX0_26 (lk_70 hly) (by decide) rfl rfl rfl (Nat.le_trans (by decide) hd) (Nat.le_of_ble_eq_true rfl) ⟨Nat.le_refl _, Nat.le_refl _⟩ dX0_inscribe_2 rfl (sm_monoI h (fun r_2 m_1 h => ?_))
  refine sm_istore0_n (Y := mX0_inscribe) (pc := 5) [(3, .int r_2), (0, .ref (sm_B E + 70)), (1, .long x1)] 3 rfl (by decide) rfl dX0_inscribe_5 ?_
  refine sm_iload_n (Y := mX0_inscribe) (pc := 6) 0 3 rfl rfl dX0_inscribe_6 ?_
  refine sm_aload_n (Y := mX0_inscribe) (pc := 7) 1 0 rfl rfl dX0_inscribe_7 ?_
  refine gf_RX0_9 (Y := mX0_inscribe) (pc := 8) (b := 71) rfl ((lk_70 hly) _) (lf_70_0 hly _) dX0_inscribe_8 ?_
  refine sm_alenJ (Y := mX0_inscribe) (pc := 11) (la_71 hly _) dX0_inscribe_11 ?_
  refine sm_icmp_lt (Y := mX0_inscribe) (pc := 12) 17 (by decide) dX0_inscribe_12 (fun hc => ?_) (fun hc => ?_)
  · replace h := h.1 hc
    refine sm_iload_n (Y := mX0_inscribe) (pc := 17) 0 3 rfl rfl dX0_inscribe_17 ?_
    refine sm_aload_n (Y := mX0_inscribe) (pc := 18) 1 0 rfl rfl dX0_inscribe_18 ?_
    refine gf_RX0_19 (Y := mX0_inscribe) (pc := 19) rfl ((lk_70 hly) _) dX0_inscribe_19 ?_
    refine sm_icmp_ne (Y := mX0_inscribe) (pc := 22) 49 (by decide) dX0_inscribe_22 (fun hc => ?_) (fun hc => ?_)
    · replace h := h.1 hc
      refine sm_sub [1, 0] rfl ?_
      exact h
    · replace h := h.2 hc
      refine sm_aload_n (Y := mX0_inscribe) (pc := 25) 1 0 rfl rfl dX0_inscribe_25 ?_
      refine gf_RX0_9 (Y := mX0_inscribe) (pc := 26) (b := 71) rfl ((lk_70 hly) _) (lf_70_0 hly _) dX0_inscribe_26 ?_
      refine sm_iload_n (Y := mX0_inscribe) (pc := 29) 0 3 rfl rfl dX0_inscribe_29 ?_
      refine sm_lload_n (Y := mX0_inscribe) (pc := 30) 2 1 rfl rfl dX0_inscribe_30 ?_
      obtain ⟨hn_5, h⟩ := h
      refine sm_last (Y := mX0_inscribe) (pc := 31) (la_71 hly _) hn_5 dX0_inscribe_31 (fun m_4 em_4 => ?_)
      replace h := h m_4 em_4
      refine sm_aload_n (Y := mX0_inscribe) (pc := 32) 1 0 rfl rfl dX0_inscribe_32 ?_
      refine gf_RX0_15 (Y := mX0_inscribe) (pc := 33) (b := 72) rfl ((lk_70 hly) _) (lf_70_1 hly _) dX0_inscribe_33 ?_
      refine sm_iload_n (Y := mX0_inscribe) (pc := 36) 0 3 rfl rfl dX0_inscribe_36 ?_
      refine sm_iconst (Y := mX0_inscribe) (pc := 37) 0 (by decide) dX0_inscribe_37 ?_
      obtain ⟨hn_7, h⟩ := h
      refine sm_iast (Y := mX0_inscribe) (pc := 38) (la_72 hly _) hn_7 dX0_inscribe_38 (fun m_6 em_6 => ?_)
      replace h := h m_6 em_6
      refine sm_aload_n (Y := mX0_inscribe) (pc := 39) 1 0 rfl rfl dX0_inscribe_39 ?_
      refine sm_dup (Y := mX0_inscribe) (pc := 40) rfl dX0_inscribe_40 ?_
      refine gf_RX0_19 (Y := mX0_inscribe) (pc := 41) rfl ((lk_70 hly) _) dX0_inscribe_41 ?_
      refine sm_iconst (Y := mX0_inscribe) (pc := 44) 1 (by decide) dX0_inscribe_44 ?_
      refine sm_iadd (Y := mX0_inscribe) (pc := 45) dX0_inscribe_45 ?_
      refine pf_RX0_19 (Y := mX0_inscribe) (pc := 46) rfl ((lk_70 hly) _) dX0_inscribe_46 (fun m_8 em_8 => ?_)
      replace h := h m_8 em_8
      refine sm_sub [1, 0] rfl ?_
      exact h
  · replace h := h.2 hc
    refine sm_iconst (Y := mX0_inscribe) (pc := 15) 0 (by decide) dX0_inscribe_15 ?_
    exact sm_iret (Y := mX0_inscribe) (pc := 16) rfl rfl rfl dX0_inscribe_16 ⟨_, rfl, h⟩
def gX0_placeOf_2 (E : sm_E) (L : sm_S → Prop) (d : Nat) (vs : List Value) (x1 : Int64) (x3 : Int32) (m : sm_M) (Q : Int32 → sm_M → Prop) : Prop := sm_go E L mX0_placeOf d 0 0 vs 2 [(0, .ref (sm_B E + 70)), (1, .long x1), (3, .int x3)] [] m 0 0 (sm_Z E L vs 0 0 (sm_QI Q))
theorem dX0_placeOf_2 : decode cX0_placeOf 2 = .ok (.iload_n 3, 1) := dk_iload_n_3 (by decide +kernel)
theorem dX0_placeOf_3 : decode cX0_placeOf 3 = .ok (.aload_n 0, 1) := dk_aload_n_0 (by decide +kernel)
theorem dX0_placeOf_4 : decode cX0_placeOf 4 = .ok (.getfield 19, 3) := dk_getfield 19 (b1 := 0) (b2 := 19) (by decide +kernel) (by decide +kernel) (by decide +kernel) (by decide +kernel)
theorem dX0_placeOf_7 : decode cX0_placeOf 7 = .ok (.if_icmp .ge 20, 3) := dk_if_icmp_ge 20 (b1 := 0) (b2 := 20) (by decide +kernel) (by decide +kernel) (by decide +kernel) (by decide +kernel)
theorem dX0_placeOf_27 : decode cX0_placeOf 27 = .ok (.iload_n 3, 1) := dk_iload_n_3 (by decide +kernel)
theorem dX0_placeOf_28 : decode cX0_placeOf 28 = .ok (.ireturn, 1) := dk_ireturn (by decide +kernel)
theorem dX0_placeOf_10 : decode cX0_placeOf 10 = .ok (.aload_n 0, 1) := dk_aload_n_0 (by decide +kernel)
theorem dX0_placeOf_11 : decode cX0_placeOf 11 = .ok (.getfield 9, 3) := dk_getfield 9 (b1 := 0) (b2 := 9) (by decide +kernel) (by decide +kernel) (by decide +kernel) (by decide +kernel)
theorem dX0_placeOf_14 : decode cX0_placeOf 14 = .ok (.iload_n 3, 1) := dk_iload_n_3 (by decide +kernel)
theorem dX0_placeOf_15 : decode cX0_placeOf 15 = .ok (.laload, 1) := dk_laload (by decide +kernel)
theorem dX0_placeOf_16 : decode cX0_placeOf 16 = .ok (.lload_n 1, 1) := dk_lload_n_1 (by decide +kernel)
theorem dX0_placeOf_17 : decode cX0_placeOf 17 = .ok (.lcmp, 1) := dk_lcmp (by decide +kernel)
theorem dX0_placeOf_18 : decode cX0_placeOf 18 = .ok (.ifCond .eq 9, 3) := dk_ifCond_eq 9 (b1 := 0) (b2 := 9) (by decide +kernel) (by decide +kernel) (by decide +kernel) (by decide +kernel)
theorem dX0_placeOf_21 : decode cX0_placeOf 21 = .ok (.iinc 3 1, 3) := dk_iinc 3 1 (b1 := 3) (b2 := 1) (by decide +kernel) (by decide +kernel) (by decide +kernel) (by decide +kernel) (by decide +kernel)
theorem dX0_placeOf_24 : decode cX0_placeOf 24 = .ok (.goto (-22), 3) := dk_goto (-22) (b1 := 255) (b2 := 234) (by decide +kernel) (by decide +kernel) (by decide +kernel) (by decide +kernel)
set_option maxRecDepth 20000 in
theorem vX0_placeOf_2 {E : sm_E} {L : sm_S → Prop} {d : Nat} {vs : List Value} {x1 : Int64} {x3 : Int32}  {m : sm_M} {Q : Int32 → sm_M → Prop} (hly : ∀ S, L S → ly S) (hd : 1 ≤ d) 
  (h : ((m.1 70 2) ≤ x3 →
      Q x3 m) ∧
   (¬ (m.1 70 2) ≤ x3 →
      (vp_in x3 40) ∧ ((m.2.1 71 x3.toNatClampNeg) = x1 →
         Q x3 m) ∧
      (¬ (m.2.1 71 x3.toNatClampNeg) = x1 →
         ∀ x3_2 : Int32, x3_2 = x3 + 1 →
         gX0_placeOf_2 E L d vs x1 x3_2 m Q))) :
  gX0_placeOf_2 E L d vs x1 x3 m Q := by
  refine sm_iload_n (Y := mX0_placeOf) (pc := 2) 2 3 rfl rfl dX0_placeOf_2 ?_
  refine sm_aload_n (Y := mX0_placeOf) (pc := 3) 0 0 rfl rfl dX0_placeOf_3 ?_
  refine gf_RX0_19 (Y := mX0_placeOf) (pc := 4) rfl ((lk_70 hly) _) dX0_placeOf_4 ?_
  refine sm_icmp_ge (Y := mX0_placeOf) (pc := 7) 27 (by decide) dX0_placeOf_7 (fun hc => ?_) (fun hc => ?_)
  · replace h := h.1 hc
    refine sm_iload_n (Y := mX0_placeOf) (pc := 27) 2 3 rfl rfl dX0_placeOf_27 ?_
    exact sm_iret (Y := mX0_placeOf) (pc := 28) rfl rfl rfl dX0_placeOf_28 ⟨_, rfl, h⟩
  · replace h := h.2 hc
    refine sm_aload_n (Y := mX0_placeOf) (pc := 10) 0 0 rfl rfl dX0_placeOf_10 ?_
    refine gf_RX0_9 (Y := mX0_placeOf) (pc := 11) (b := 71) rfl ((lk_70 hly) _) (lf_70_0 hly _) dX0_placeOf_11 ?_
    refine sm_iload_n (Y := mX0_placeOf) (pc := 14) 2 3 rfl rfl dX0_placeOf_14 ?_
    obtain ⟨hn_1, h⟩ := h
    refine sm_lald (Y := mX0_placeOf) (pc := 15) (la_71 hly _) hn_1 dX0_placeOf_15 ?_
    refine sm_lload_n (Y := mX0_placeOf) (pc := 16) 1 1 rfl rfl dX0_placeOf_16 ?_
    refine sm_lif_eq (Y := mX0_placeOf) (pc := 17) 27 (by decide) dX0_placeOf_17 dX0_placeOf_18 (fun hc => ?_) (fun hc => ?_)
    · replace h := h.1 hc
      refine sm_iload_n (Y := mX0_placeOf) (pc := 27) 2 3 rfl rfl dX0_placeOf_27 ?_
      exact sm_iret (Y := mX0_placeOf) (pc := 28) rfl rfl rfl dX0_placeOf_28 ⟨_, rfl, h⟩
    · replace h := h.2 hc
      refine sm_iinc (Y := mX0_placeOf) (pc := 21) (fun y => [(3, .int y), (0, .ref (sm_B E + 70)), (1, .long x1)]) 2 3 rfl (by decide) (fun _ => rfl) dX0_placeOf_21 (fun x3_2 ex3_2 => ?_)
      replace h := h x3_2 ex3_2
      refine sm_goto (Y := mX0_placeOf) (pc := 24) 2 (by decide) dX0_placeOf_24 ?_
      refine sm_sub [1, 2, 0] rfl ?_
      exact h
theorem dX0_placeOf_0 : decode cX0_placeOf 0 = .ok (.iconst 0, 1) := dk_iconst_0 (by decide +kernel)
theorem dX0_placeOf_1 : decode cX0_placeOf 1 = .ok (.istore_n 3, 1) := dk_istore_n_3 (by decide +kernel)
set_option maxRecDepth 20000 in
theorem vX0_placeOf_0 {E : sm_E} {L : sm_S → Prop} {d : Nat} {x1 : Int64}  {m : sm_M} {Q : Int32 → sm_M → Prop}  (hd : 1 ≤ d) 
  (h : gX0_placeOf_2 E L d ([.ref (sm_B E + 70), .long x1]) x1 0 m Q) :
  sm_callI E L mX0_placeOf d 0 0 [.ref (sm_B E + 70), .long x1] m Q := by
  refine sm_enter (by decide +kernel) (by simp [lg_sl, Value.category]) ?_
  refine sm_iconst (Y := mX0_placeOf) (pc := 0) 0 (by decide) dX0_placeOf_0 ?_
  refine sm_istore0_n (Y := mX0_placeOf) (pc := 1) [(3, .int 0), (0, .ref (sm_B E + 70)), (1, .long x1)] 3 rfl (by decide) rfl dX0_placeOf_1 ?_
  refine sm_sub [1, 2, 0] rfl ?_
  exact h
abbrev mX0_timesOf : sm_Y := (yX0_timesOf, cX0_timesOf, 4, (some FieldType.int))
theorem fX0_timesOf : sm_mi mX0_timesOf RX0 2 := ⟨sm_in 1053 (by decide +kernel) (by decide +kernel), sm_in 1051 (by decide +kernel) (by decide +kernel), sm_in 1052 (by decide +kernel) (by decide +kernel), sm_in 91 (by decide +kernel) (by decide +kernel), rfl, ⟨by decide +kernel, by decide +kernel, by decide +kernel⟩, by decide⟩
def gX0_timesOf_2 (E : sm_E) (L : sm_S → Prop) (d : Nat) (vs : List Value) (x1 : Int32) (x2 : Int32) (x3 : Int32) (m : sm_M) (Q : Int32 → sm_M → Prop) : Prop := sm_go E L mX0_timesOf d 0 0 vs 2 [(0, .ref (sm_B E + 70)), (1, .int x1), (2, .int x2), (3, .int x3)] [] m 0 0 (sm_Z E L vs 0 0 (sm_QI Q))
theorem dX0_timesOf_2 : decode cX0_timesOf 2 = .ok (.iload_n 3, 1) := dk_iload_n_3 (by decide +kernel)
theorem dX0_timesOf_3 : decode cX0_timesOf 3 = .ok (.aload_n 0, 1) := dk_aload_n_0 (by decide +kernel)
theorem dX0_timesOf_4 : decode cX0_timesOf 4 = .ok (.getfield 19, 3) := dk_getfield 19 (b1 := 0) (b2 := 19) (by decide +kernel) (by decide +kernel) (by decide +kernel) (by decide +kernel)
theorem dX0_timesOf_7 : decode cX0_timesOf 7 = .ok (.if_icmp .ge 42, 3) := dk_if_icmp_ge 42 (b1 := 0) (b2 := 42) (by decide +kernel) (by decide +kernel) (by decide +kernel) (by decide +kernel)
theorem dX0_timesOf_49 : decode cX0_timesOf 49 = .ok (.iconst 0, 1) := dk_iconst_0 (by decide +kernel)
theorem dX0_timesOf_50 : decode cX0_timesOf 50 = .ok (.ireturn, 1) := dk_ireturn (by decide +kernel)
theorem dX0_timesOf_10 : decode cX0_timesOf 10 = .ok (.aload_n 0, 1) := dk_aload_n_0 (by decide +kernel)
theorem dX0_timesOf_11 : decode cX0_timesOf 11 = .ok (.getfield 9, 3) := dk_getfield 9 (b1 := 0) (b2 := 9) (by decide +kernel) (by decide +kernel) (by decide +kernel) (by decide +kernel)
theorem dX0_timesOf_14 : decode cX0_timesOf 14 = .ok (.iload_n 3, 1) := dk_iload_n_3 (by decide +kernel)
theorem dX0_timesOf_15 : decode cX0_timesOf 15 = .ok (.laload, 1) := dk_laload (by decide +kernel)
theorem wRX0_30 : Cond.methodLink RX0 30 yX6_topOf ∈ sm_T := sm_in 1032 (by decide +kernel) (by decide +kernel)
theorem dX0_timesOf_16 : decode cX0_timesOf 16 = .ok (.invokestatic 30, 3) := dk_invokestatic 30 (b1 := 0) (b2 := 30) (by decide +kernel) (by decide +kernel) (by decide +kernel) (by decide +kernel)
theorem dX0_timesOf_19 : decode cX0_timesOf 19 = .ok (.iload_n 1, 1) := dk_iload_n_1 (by decide +kernel)
theorem dX0_timesOf_20 : decode cX0_timesOf 20 = .ok (.if_icmp .ne 23, 3) := dk_if_icmp_ne 23 (b1 := 0) (b2 := 23) (by decide +kernel) (by decide +kernel) (by decide +kernel) (by decide +kernel)
theorem dX0_timesOf_43 : decode cX0_timesOf 43 = .ok (.iinc 3 1, 3) := dk_iinc 3 1 (b1 := 3) (b2 := 1) (by decide +kernel) (by decide +kernel) (by decide +kernel) (by decide +kernel) (by decide +kernel)
theorem dX0_timesOf_46 : decode cX0_timesOf 46 = .ok (.goto (-44), 3) := dk_goto (-44) (b1 := 255) (b2 := 212) (by decide +kernel) (by decide +kernel) (by decide +kernel) (by decide +kernel)
theorem dX0_timesOf_23 : decode cX0_timesOf 23 = .ok (.aload_n 0, 1) := dk_aload_n_0 (by decide +kernel)
theorem dX0_timesOf_24 : decode cX0_timesOf 24 = .ok (.getfield 9, 3) := dk_getfield 9 (b1 := 0) (b2 := 9) (by decide +kernel) (by decide +kernel) (by decide +kernel) (by decide +kernel)
theorem dX0_timesOf_27 : decode cX0_timesOf 27 = .ok (.iload_n 3, 1) := dk_iload_n_3 (by decide +kernel)
theorem dX0_timesOf_28 : decode cX0_timesOf 28 = .ok (.laload, 1) := dk_laload (by decide +kernel)
theorem wRX0_35 : Cond.methodLink RX0 35 yX6_bottomOf ∈ sm_T := sm_in 1033 (by decide +kernel) (by decide +kernel)
theorem dX0_timesOf_29 : decode cX0_timesOf 29 = .ok (.invokestatic 35, 3) := dk_invokestatic 35 (b1 := 0) (b2 := 35) (by decide +kernel) (by decide +kernel) (by decide +kernel) (by decide +kernel)
theorem dX0_timesOf_32 : decode cX0_timesOf 32 = .ok (.iload_n 2, 1) := dk_iload_n_2 (by decide +kernel)
theorem dX0_timesOf_33 : decode cX0_timesOf 33 = .ok (.if_icmp .ne 10, 3) := dk_if_icmp_ne 10 (b1 := 0) (b2 := 10) (by decide +kernel) (by decide +kernel) (by decide +kernel) (by decide +kernel)
theorem dX0_timesOf_36 : decode cX0_timesOf 36 = .ok (.aload_n 0, 1) := dk_aload_n_0 (by decide +kernel)
theorem dX0_timesOf_37 : decode cX0_timesOf 37 = .ok (.getfield 15, 3) := dk_getfield 15 (b1 := 0) (b2 := 15) (by decide +kernel) (by decide +kernel) (by decide +kernel) (by decide +kernel)
theorem dX0_timesOf_40 : decode cX0_timesOf 40 = .ok (.iload_n 3, 1) := dk_iload_n_3 (by decide +kernel)
theorem dX0_timesOf_41 : decode cX0_timesOf 41 = .ok (.iaload, 1) := dk_iaload (by decide +kernel)
theorem dX0_timesOf_42 : decode cX0_timesOf 42 = .ok (.ireturn, 1) := dk_ireturn (by decide +kernel)
set_option maxRecDepth 20000 in
theorem vX0_timesOf_2 {E : sm_E} {L : sm_S → Prop} {d : Nat} {vs : List Value} {x1 : Int32} {x2 : Int32} {x3 : Int32}  {m : sm_M} {Q : Int32 → sm_M → Prop} (hly : ∀ S, L S → ly S) (hd : 2 ≤ d) 
  (h : ((m.1 70 2) ≤ x3 →
      Q 0 m) ∧
   (¬ (m.1 70 2) ≤ x3 →
      (vp_in x3 40) ∧ sm_callI E L mX6_topOf 1 0 0 [.long (m.2.1 71 x3.toNatClampNeg)] m (fun r_3 m_2 =>
      (¬ r_3 = x1 →
         ∀ x3_4 : Int32, x3_4 = x3 + 1 →
         gX0_timesOf_2 E L d vs x1 x2 x3_4 m_2 Q) ∧
      (r_3 = x1 →
         (vp_in x3 40) ∧ sm_callI E L mX6_bottomOf 1 0 0 [.long (m_2.2.1 71 x3.toNatClampNeg)] m_2 (fun r_7 m_6 =>
         (¬ r_7 = x2 →
            ∀ x3_8 : Int32, x3_8 = x3 + 1 →
            gX0_timesOf_2 E L d vs x1 x2 x3_8 m_6 Q) ∧
         (r_7 = x2 →
            (vp_in x3 40) ∧ Q (m_6.1 72 x3.toNatClampNeg) m_6)))))) :
  gX0_timesOf_2 E L d vs x1 x2 x3 m Q := by
  refine sm_iload_n (Y := mX0_timesOf) (pc := 2) 3 3 rfl rfl dX0_timesOf_2 ?_
  refine sm_aload_n (Y := mX0_timesOf) (pc := 3) 0 0 rfl rfl dX0_timesOf_3 ?_
  refine gf_RX0_19 (Y := mX0_timesOf) (pc := 4) rfl ((lk_70 hly) _) dX0_timesOf_4 ?_
  refine sm_icmp_ge (Y := mX0_timesOf) (pc := 7) 49 (by decide) dX0_timesOf_7 (fun hc => ?_) (fun hc => ?_)
  · replace h := h.1 hc
    refine sm_iconst (Y := mX0_timesOf) (pc := 49) 0 (by decide) dX0_timesOf_49 ?_
    exact sm_iret (Y := mX0_timesOf) (pc := 50) rfl rfl rfl dX0_timesOf_50 ⟨_, rfl, h⟩
  · replace h := h.2 hc
    refine sm_aload_n (Y := mX0_timesOf) (pc := 10) 0 0 rfl rfl dX0_timesOf_10 ?_
    refine gf_RX0_9 (Y := mX0_timesOf) (pc := 11) (b := 71) rfl ((lk_70 hly) _) (lf_70_0 hly _) dX0_timesOf_11 ?_
    refine sm_iload_n (Y := mX0_timesOf) (pc := 14) 3 3 rfl rfl dX0_timesOf_14 ?_
    obtain ⟨hn_1, h⟩ := h
    refine sm_lald (Y := mX0_timesOf) (pc := 15) (la_71 hly _) hn_1 dX0_timesOf_15 ?_
    refine sm_is_I (Y := mX0_timesOf) (pc := 16) (As := [.long (m.2.1 71 x3.toNatClampNeg)]) fX6_topOf wRX0_30 rfl (Nat.le_trans (by decide) hd) (Nat.le_of_ble_eq_true rfl) ⟨Nat.le_refl _, Nat.le_refl _⟩ dX0_timesOf_16 rfl (sm_monoI h (fun r_3 m_2 h => ?_))
    refine sm_iload_n (Y := mX0_timesOf) (pc := 19) 1 1 rfl rfl dX0_timesOf_19 ?_
    refine sm_icmp_ne (Y := mX0_timesOf) (pc := 20) 43 (by decide) dX0_timesOf_20 (fun hc => ?_) (fun hc => ?_)
    · replace h := h.1 hc
      refine sm_iinc (Y := mX0_timesOf) (pc := 43) (fun y => [(3, .int y), (0, .ref (sm_B E + 70)), (1, .int x1), (2, .int x2)]) 3 3 rfl (by decide) (fun _ => rfl) dX0_timesOf_43 (fun x3_4 ex3_4 => ?_)
      replace h := h x3_4 ex3_4
      refine sm_goto (Y := mX0_timesOf) (pc := 46) 2 (by decide) dX0_timesOf_46 ?_
      refine sm_sub [1, 2, 3, 0] rfl ?_
      exact h
    · replace h := h.2 hc
      refine sm_aload_n (Y := mX0_timesOf) (pc := 23) 0 0 rfl rfl dX0_timesOf_23 ?_
      refine gf_RX0_9 (Y := mX0_timesOf) (pc := 24) (b := 71) rfl ((lk_70 hly) _) (lf_70_0 hly _) dX0_timesOf_24 ?_
      refine sm_iload_n (Y := mX0_timesOf) (pc := 27) 3 3 rfl rfl dX0_timesOf_27 ?_
      obtain ⟨hn_5, h⟩ := h
      refine sm_lald (Y := mX0_timesOf) (pc := 28) (la_71 hly _) hn_5 dX0_timesOf_28 ?_
      refine sm_is_I (Y := mX0_timesOf) (pc := 29) (As := [.long (m_2.2.1 71 x3.toNatClampNeg)]) fX6_bottomOf wRX0_35 rfl (Nat.le_trans (by decide) hd) (Nat.le_of_ble_eq_true rfl) ⟨Nat.le_refl _, Nat.le_refl _⟩ dX0_timesOf_29 rfl (sm_monoI h (fun r_7 m_6 h => ?_))
      refine sm_iload_n (Y := mX0_timesOf) (pc := 32) 2 2 rfl rfl dX0_timesOf_32 ?_
      refine sm_icmp_ne (Y := mX0_timesOf) (pc := 33) 43 (by decide) dX0_timesOf_33 (fun hc => ?_) (fun hc => ?_)
      · replace h := h.1 hc
        refine sm_iinc (Y := mX0_timesOf) (pc := 43) (fun y => [(3, .int y), (0, .ref (sm_B E + 70)), (1, .int x1), (2, .int x2)]) 3 3 rfl (by decide) (fun _ => rfl) dX0_timesOf_43 (fun x3_8 ex3_8 => ?_)
        replace h := h x3_8 ex3_8
        refine sm_goto (Y := mX0_timesOf) (pc := 46) 2 (by decide) dX0_timesOf_46 ?_
        refine sm_sub [1, 2, 3, 0] rfl ?_
        exact h
      · replace h := h.2 hc
        refine sm_aload_n (Y := mX0_timesOf) (pc := 36) 0 0 rfl rfl dX0_timesOf_36 ?_
        refine gf_RX0_15 (Y := mX0_timesOf) (pc := 37) (b := 72) rfl ((lk_70 hly) _) (lf_70_1 hly _) dX0_timesOf_37 ?_
        refine sm_iload_n (Y := mX0_timesOf) (pc := 40) 3 3 rfl rfl dX0_timesOf_40 ?_
        obtain ⟨hn_9, h⟩ := h
        refine sm_iald (Y := mX0_timesOf) (pc := 41) (la_72 hly _) hn_9 dX0_timesOf_41 ?_
        exact sm_iret (Y := mX0_timesOf) (pc := 42) rfl rfl rfl dX0_timesOf_42 ⟨_, rfl, h⟩
theorem dX0_timesOf_0 : decode cX0_timesOf 0 = .ok (.iconst 0, 1) := dk_iconst_0 (by decide +kernel)
theorem dX0_timesOf_1 : decode cX0_timesOf 1 = .ok (.istore_n 3, 1) := dk_istore_n_3 (by decide +kernel)
set_option maxRecDepth 20000 in
theorem vX0_timesOf_0 {E : sm_E} {L : sm_S → Prop} {d : Nat} {x1 : Int32} {x2 : Int32}  {m : sm_M} {Q : Int32 → sm_M → Prop}  (hd : 2 ≤ d) 
  (h : gX0_timesOf_2 E L d ([.ref (sm_B E + 70), .int x1, .int x2]) x1 x2 0 m Q) :
  sm_callI E L mX0_timesOf d 0 0 [.ref (sm_B E + 70), .int x1, .int x2] m Q := by
  refine sm_enter (by decide +kernel) (by simp [lg_sl, Value.category]) ?_
  refine sm_iconst (Y := mX0_timesOf) (pc := 0) 0 (by decide) dX0_timesOf_0 ?_
  refine sm_istore0_n (Y := mX0_timesOf) (pc := 1) [(3, .int 0), (0, .ref (sm_B E + 70)), (1, .int x1), (2, .int x2)] 3 rfl (by decide) rfl dX0_timesOf_1 ?_
  refine sm_sub [1, 2, 3, 0] rfl ?_
  exact h
abbrev mX0_tell : sm_Y := (yX0_tell, cX0_tell, 3, (some FieldType.int))
theorem fX0_tell : sm_mi mX0_tell RX0 2 := ⟨sm_in 1030 (by decide +kernel) (by decide +kernel), sm_in 1028 (by decide +kernel) (by decide +kernel), sm_in 1029 (by decide +kernel) (by decide +kernel), sm_in 91 (by decide +kernel) (by decide +kernel), rfl, ⟨by decide +kernel, by decide +kernel, by decide +kernel⟩, by decide⟩
theorem dX0_tell_0 : decode cX0_tell 0 = .ok (.aload_n 0, 1) := dk_aload_n_0 (by decide +kernel)
theorem dX0_tell_1 : decode cX0_tell 1 = .ok (.iload_n 1, 1) := dk_iload_n_1 (by decide +kernel)
theorem wRX0_38 : Cond.methodLink RX0 38 yX0_has ∈ sm_T := sm_in 1031 (by decide +kernel) (by decide +kernel)
theorem dX0_tell_2 : decode cX0_tell 2 = .ok (.invokevirtual 38, 3) := dk_invokevirtual 38 (b1 := 0) (b2 := 38) (by decide +kernel) (by decide +kernel) (by decide +kernel) (by decide +kernel)
theorem dX0_tell_5 : decode cX0_tell 5 = .ok (.ifCond .ne 5, 3) := dk_ifCond_ne 5 (b1 := 0) (b2 := 5) (by decide +kernel) (by decide +kernel) (by decide +kernel) (by decide +kernel)
theorem dX0_tell_10 : decode cX0_tell 10 = .ok (.iload_n 2, 1) := dk_iload_n_2 (by decide +kernel)
theorem dX0_tell_11 : decode cX0_tell 11 = .ok (.lookupswitch 45 #[(0, 25), (1, 35)], 25) := by decide +kernel
theorem dX0_tell_36 : decode cX0_tell 36 = .ok (.aload_n 0, 1) := dk_aload_n_0 (by decide +kernel)
theorem dX0_tell_37 : decode cX0_tell 37 = .ok (.getfield 9, 3) := dk_getfield 9 (b1 := 0) (b2 := 9) (by decide +kernel) (by decide +kernel) (by decide +kernel) (by decide +kernel)
theorem dX0_tell_40 : decode cX0_tell 40 = .ok (.iload_n 1, 1) := dk_iload_n_1 (by decide +kernel)
theorem dX0_tell_41 : decode cX0_tell 41 = .ok (.laload, 1) := dk_laload (by decide +kernel)
theorem dX0_tell_42 : decode cX0_tell 42 = .ok (.invokestatic 30, 3) := dk_invokestatic 30 (b1 := 0) (b2 := 30) (by decide +kernel) (by decide +kernel) (by decide +kernel) (by decide +kernel)
theorem dX0_tell_45 : decode cX0_tell 45 = .ok (.ireturn, 1) := dk_ireturn (by decide +kernel)
theorem dX0_tell_46 : decode cX0_tell 46 = .ok (.aload_n 0, 1) := dk_aload_n_0 (by decide +kernel)
theorem dX0_tell_47 : decode cX0_tell 47 = .ok (.getfield 9, 3) := dk_getfield 9 (b1 := 0) (b2 := 9) (by decide +kernel) (by decide +kernel) (by decide +kernel) (by decide +kernel)
theorem dX0_tell_50 : decode cX0_tell 50 = .ok (.iload_n 1, 1) := dk_iload_n_1 (by decide +kernel)
theorem dX0_tell_51 : decode cX0_tell 51 = .ok (.laload, 1) := dk_laload (by decide +kernel)
theorem dX0_tell_52 : decode cX0_tell 52 = .ok (.invokestatic 35, 3) := dk_invokestatic 35 (b1 := 0) (b2 := 35) (by decide +kernel) (by decide +kernel) (by decide +kernel) (by decide +kernel)
theorem dX0_tell_55 : decode cX0_tell 55 = .ok (.ireturn, 1) := dk_ireturn (by decide +kernel)
theorem dX0_tell_56 : decode cX0_tell 56 = .ok (.aload_n 0, 1) := dk_aload_n_0 (by decide +kernel)
theorem dX0_tell_57 : decode cX0_tell 57 = .ok (.getfield 15, 3) := dk_getfield 15 (b1 := 0) (b2 := 15) (by decide +kernel) (by decide +kernel) (by decide +kernel) (by decide +kernel)
theorem dX0_tell_60 : decode cX0_tell 60 = .ok (.iload_n 1, 1) := dk_iload_n_1 (by decide +kernel)
theorem dX0_tell_61 : decode cX0_tell 61 = .ok (.iaload, 1) := dk_iaload (by decide +kernel)
theorem dX0_tell_62 : decode cX0_tell 62 = .ok (.ireturn, 1) := dk_ireturn (by decide +kernel)
theorem dX0_tell_8 : decode cX0_tell 8 = .ok (.iconst 0, 1) := dk_iconst_0 (by decide +kernel)
theorem dX0_tell_9 : decode cX0_tell 9 = .ok (.ireturn, 1) := dk_ireturn (by decide +kernel)
set_option maxRecDepth 20000 in
theorem vX0_tell_0 {E : sm_E} {L : sm_S → Prop} {d : Nat} {x1 : Int32} {x2 : Int32}  {m : sm_M} {Q : Int32 → sm_M → Prop} (hly : ∀ S, L S → ly S) (hd : 2 ≤ d) 
  (h : sm_callI E L mX0_has 1 0 0 [.ref (sm_B E + 70), .int x1] m (fun r_2 m_1 =>
   (¬ r_2 = 0 →
      (x2 = 0 →
         (vp_in x1 40) ∧ sm_callI E L mX6_topOf 1 0 0 [.long (m_1.2.1 71 x1.toNatClampNeg)] m_1 (fun r_5 m_4 =>
         Q r_5 m_4)) ∧
      (x2 = 1 →
         (vp_in x1 40) ∧ sm_callI E L mX6_bottomOf 1 0 0 [.long (m_1.2.1 71 x1.toNatClampNeg)] m_1 (fun r_8 m_7 =>
         Q r_8 m_7)) ∧
      ((¬ x2 = 0 ∧ ¬ x2 = 1) →
         (vp_in x1 40) ∧ Q (m_1.1 72 x1.toNatClampNeg) m_1)) ∧
   (r_2 = 0 →
      Q 0 m_1))) :
  sm_callI E L mX0_tell d 0 0 [.ref (sm_B E + 70), .int x1, .int x2] m Q := by
  refine sm_enter (by decide +kernel) (by simp [lg_sl, Value.category]) ?_
  refine sm_aload_n (Y := mX0_tell) (pc := 0) 0 0 rfl rfl dX0_tell_0 ?_
  refine sm_iload_n (Y := mX0_tell) (pc := 1) 1 1 rfl rfl dX0_tell_1 ?_
  refine sm_iv_I (Y := mX0_tell) (pc := 2) (As := [.int x1]) (a := 70) fX0_has wRX0_38 (lk_70 hly) (by decide) rfl rfl rfl (Nat.le_trans (by decide) hd) (Nat.le_of_ble_eq_true rfl) ⟨Nat.le_refl _, Nat.le_refl _⟩ dX0_tell_2 rfl (sm_monoI h (fun r_2 m_1 h => ?_))
  refine sm_if_ne (Y := mX0_tell) (pc := 5) 10 (by decide) dX0_tell_5 (fun hc => ?_) (fun hc => ?_)
  · replace h := h.1 hc
    refine sm_iload_n (Y := mX0_tell) (pc := 10) 2 2 rfl rfl dX0_tell_10 ?_
    by_cases hs11_0 : x2 = 0
    · refine sm_lookup (Y := mX0_tell) (pc := 11) (off := 25) 36 (by first | (rw [hs11_0]; done) | (rw [hs11_0]; rfl)) (by decide) (by decide) dX0_tell_11 ?_
      replace h := h.1 hs11_0
      refine sm_aload_n (Y := mX0_tell) (pc := 36) 0 0 rfl rfl dX0_tell_36 ?_
      refine gf_RX0_9 (Y := mX0_tell) (pc := 37) (b := 71) rfl ((lk_70 hly) _) (lf_70_0 hly _) dX0_tell_37 ?_
      refine sm_iload_n (Y := mX0_tell) (pc := 40) 1 1 rfl rfl dX0_tell_40 ?_
      obtain ⟨hn_3, h⟩ := h
      refine sm_lald (Y := mX0_tell) (pc := 41) (la_71 hly _) hn_3 dX0_tell_41 ?_
      refine sm_is_I (Y := mX0_tell) (pc := 42) (As := [.long (m_1.2.1 71 x1.toNatClampNeg)]) fX6_topOf wRX0_30 rfl (Nat.le_trans (by decide) hd) (Nat.le_of_ble_eq_true rfl) ⟨Nat.le_refl _, Nat.le_refl _⟩ dX0_tell_42 rfl (sm_monoI h (fun r_5 m_4 h => ?_))
      exact sm_iret (Y := mX0_tell) (pc := 45) rfl rfl rfl dX0_tell_45 ⟨_, rfl, h⟩
    replace h := h.2
    by_cases hs11_1 : x2 = 1
    · refine sm_lookup (Y := mX0_tell) (pc := 11) (off := 35) 46 (by first | (rw [hs11_1]; done) | (rw [hs11_1]; rfl)) (by decide) (by decide) dX0_tell_11 ?_
      replace h := h.1 hs11_1
      refine sm_aload_n (Y := mX0_tell) (pc := 46) 0 0 rfl rfl dX0_tell_46 ?_
      refine gf_RX0_9 (Y := mX0_tell) (pc := 47) (b := 71) rfl ((lk_70 hly) _) (lf_70_0 hly _) dX0_tell_47 ?_
      refine sm_iload_n (Y := mX0_tell) (pc := 50) 1 1 rfl rfl dX0_tell_50 ?_
      obtain ⟨hn_6, h⟩ := h
      refine sm_lald (Y := mX0_tell) (pc := 51) (la_71 hly _) hn_6 dX0_tell_51 ?_
      refine sm_is_I (Y := mX0_tell) (pc := 52) (As := [.long (m_1.2.1 71 x1.toNatClampNeg)]) fX6_bottomOf wRX0_35 rfl (Nat.le_trans (by decide) hd) (Nat.le_of_ble_eq_true rfl) ⟨Nat.le_refl _, Nat.le_refl _⟩ dX0_tell_52 rfl (sm_monoI h (fun r_8 m_7 h => ?_))
      exact sm_iret (Y := mX0_tell) (pc := 55) rfl rfl rfl dX0_tell_55 ⟨_, rfl, h⟩
    replace h := h.2
    refine sm_lookup (Y := mX0_tell) (pc := 11) (off := 45) 56 (by show Op.lookupswitch.offset _ _ _ = _; first | (rw [lv_osw hs11_0 (by decide), lv_osw hs11_1 (by decide)]; done) | (rw [lv_osw hs11_0 (by decide), lv_osw hs11_1 (by decide)]; rfl)) (by decide) (by decide) dX0_tell_11 ?_
    replace h := h ⟨hs11_0, hs11_1⟩
    refine sm_aload_n (Y := mX0_tell) (pc := 56) 0 0 rfl rfl dX0_tell_56 ?_
    refine gf_RX0_15 (Y := mX0_tell) (pc := 57) (b := 72) rfl ((lk_70 hly) _) (lf_70_1 hly _) dX0_tell_57 ?_
    refine sm_iload_n (Y := mX0_tell) (pc := 60) 1 1 rfl rfl dX0_tell_60 ?_
    obtain ⟨hn_9, h⟩ := h
    refine sm_iald (Y := mX0_tell) (pc := 61) (la_72 hly _) hn_9 dX0_tell_61 ?_
    exact sm_iret (Y := mX0_tell) (pc := 62) rfl rfl rfl dX0_tell_62 ⟨_, rfl, h⟩
  · replace h := h.2 hc
    refine sm_iconst (Y := mX0_tell) (pc := 8) 0 (by decide) dX0_tell_8 ?_
    exact sm_iret (Y := mX0_tell) (pc := 9) rfl rfl rfl dX0_tell_9 ⟨_, rfl, h⟩
abbrev mX0_atRank : sm_Y := (yX0_atRank, cX0_atRank, 5, (some FieldType.int))
theorem fX0_atRank : sm_mi mX0_atRank RX0 1 := ⟨sm_in 1041 (by decide +kernel) (by decide +kernel), sm_in 1039 (by decide +kernel) (by decide +kernel), sm_in 1040 (by decide +kernel) (by decide +kernel), sm_in 91 (by decide +kernel) (by decide +kernel), rfl, ⟨by decide +kernel, by decide +kernel, by decide +kernel⟩, by decide⟩
def gX0_atRank_15 (E : sm_E) (L : sm_S → Prop) (d : Nat) (vs : List Value) (x1 : Int32) (x2 : Int32) (x3 : Int32) (x4 : Int32) (m : sm_M) (Q : Int32 → sm_M → Prop) : Prop := sm_go E L mX0_atRank d 0 0 vs 15 [(0, .ref (sm_B E + 70)), (1, .int x1), (2, .int x2), (3, .int x3), (4, .int x4)] [] m 0 0 (sm_Z E L vs 0 0 (sm_QI Q))
def gX0_atRank_2 (E : sm_E) (L : sm_S → Prop) (d : Nat) (vs : List Value) (x1 : Int32) (x2 : Int32) (m : sm_M) (Q : Int32 → sm_M → Prop) : Prop := sm_go E L mX0_atRank d 0 0 vs 2 [(0, .ref (sm_B E + 70)), (1, .int x1), (2, .int x2)] [] m 0 0 (sm_Z E L vs 0 0 (sm_QI Q))
theorem dX0_atRank_15 : decode cX0_atRank 15 = .ok (.iload 4, 2) := dk_iload 4 (b := 4) (by decide +kernel) (by decide +kernel) (by decide +kernel)
theorem dX0_atRank_17 : decode cX0_atRank 17 = .ok (.aload_n 0, 1) := dk_aload_n_0 (by decide +kernel)
theorem dX0_atRank_18 : decode cX0_atRank 18 = .ok (.getfield 19, 3) := dk_getfield 19 (b1 := 0) (b2 := 19) (by decide +kernel) (by decide +kernel) (by decide +kernel) (by decide +kernel)
theorem dX0_atRank_21 : decode cX0_atRank 21 = .ok (.if_icmp .ge 22, 3) := dk_if_icmp_ge 22 (b1 := 0) (b2 := 22) (by decide +kernel) (by decide +kernel) (by decide +kernel) (by decide +kernel)
theorem dX0_atRank_43 : decode cX0_atRank 43 = .ok (.iload_n 3, 1) := dk_iload_n_3 (by decide +kernel)
theorem dX0_atRank_44 : decode cX0_atRank 44 = .ok (.iload_n 1, 1) := dk_iload_n_1 (by decide +kernel)
theorem dX0_atRank_45 : decode cX0_atRank 45 = .ok (.if_icmp .ne 5, 3) := dk_if_icmp_ne 5 (b1 := 0) (b2 := 5) (by decide +kernel) (by decide +kernel) (by decide +kernel) (by decide +kernel)
theorem dX0_atRank_50 : decode cX0_atRank 50 = .ok (.iinc 2 1, 3) := dk_iinc 2 1 (b1 := 2) (b2 := 1) (by decide +kernel) (by decide +kernel) (by decide +kernel) (by decide +kernel) (by decide +kernel)
theorem dX0_atRank_53 : decode cX0_atRank 53 = .ok (.goto (-51), 3) := dk_goto (-51) (b1 := 255) (b2 := 205) (by decide +kernel) (by decide +kernel) (by decide +kernel) (by decide +kernel)
theorem dX0_atRank_48 : decode cX0_atRank 48 = .ok (.iload_n 2, 1) := dk_iload_n_2 (by decide +kernel)
theorem dX0_atRank_49 : decode cX0_atRank 49 = .ok (.ireturn, 1) := dk_ireturn (by decide +kernel)
theorem dX0_atRank_24 : decode cX0_atRank 24 = .ok (.aload_n 0, 1) := dk_aload_n_0 (by decide +kernel)
theorem dX0_atRank_25 : decode cX0_atRank 25 = .ok (.iload 4, 2) := dk_iload 4 (b := 4) (by decide +kernel) (by decide +kernel) (by decide +kernel)
theorem dX0_atRank_27 : decode cX0_atRank 27 = .ok (.iload_n 2, 1) := dk_iload_n_2 (by decide +kernel)
theorem wRX0_42 : Cond.methodLink RX0 42 yX0_isAhead ∈ sm_T := sm_in 1042 (by decide +kernel) (by decide +kernel)
abbrev mX0_isAhead : sm_Y := (yX0_isAhead, cX0_isAhead, 3, (some FieldType.boolean))
theorem fX0_isAhead : sm_mi mX0_isAhead RX0 2 := ⟨sm_in 1045 (by decide +kernel) (by decide +kernel), sm_in 1044 (by decide +kernel) (by decide +kernel), sm_in 36 (by decide +kernel) (by decide +kernel), sm_in 91 (by decide +kernel) (by decide +kernel), rfl, ⟨by decide +kernel, by decide +kernel, by decide +kernel⟩, by decide⟩
theorem dX0_atRank_28 : decode cX0_atRank 28 = .ok (.invokevirtual 42, 3) := dk_invokevirtual 42 (b1 := 0) (b2 := 42) (by decide +kernel) (by decide +kernel) (by decide +kernel) (by decide +kernel)
theorem dX0_atRank_31 : decode cX0_atRank 31 = .ok (.ifCond .eq 6, 3) := dk_ifCond_eq 6 (b1 := 0) (b2 := 6) (by decide +kernel) (by decide +kernel) (by decide +kernel) (by decide +kernel)
theorem dX0_atRank_37 : decode cX0_atRank 37 = .ok (.iinc 4 1, 3) := dk_iinc 4 1 (b1 := 4) (b2 := 1) (by decide +kernel) (by decide +kernel) (by decide +kernel) (by decide +kernel) (by decide +kernel)
theorem dX0_atRank_40 : decode cX0_atRank 40 = .ok (.goto (-25), 3) := dk_goto (-25) (b1 := 255) (b2 := 231) (by decide +kernel) (by decide +kernel) (by decide +kernel) (by decide +kernel)
theorem dX0_atRank_34 : decode cX0_atRank 34 = .ok (.iinc 3 1, 3) := dk_iinc 3 1 (b1 := 3) (b2 := 1) (by decide +kernel) (by decide +kernel) (by decide +kernel) (by decide +kernel) (by decide +kernel)
set_option maxRecDepth 20000 in
theorem vX0_atRank_15 {E : sm_E} {L : sm_S → Prop} {d : Nat} {vs : List Value} {x1 : Int32} {x2 : Int32} {x3 : Int32} {x4 : Int32}  {m : sm_M} {Q : Int32 → sm_M → Prop} (hly : ∀ S, L S → ly S) (hd : 2 ≤ d) 
  (h : ((m.1 70 2) ≤ x4 →
      (¬ x3 = x1 →
         ∀ x2_1 : Int32, x2_1 = x2 + 1 →
         gX0_atRank_2 E L d vs x1 x2_1 m Q) ∧
      (x3 = x1 →
         Q x2 m)) ∧
   (¬ (m.1 70 2) ≤ x4 →
      sm_callI E L mX0_isAhead 1 0 0 [.ref (sm_B E + 70), .int x4, .int x2] m (fun r_3 m_2 =>
      (r_3 = 0 →
         ∀ x4_4 : Int32, x4_4 = x4 + 1 →
         gX0_atRank_15 E L d vs x1 x2 x3 x4_4 m_2 Q) ∧
      (¬ r_3 = 0 →
         ∀ x3_5 : Int32, x3_5 = x3 + 1 →
         ∀ x4_6 : Int32, x4_6 = x4 + 1 →
         gX0_atRank_15 E L d vs x1 x2 x3_5 x4_6 m_2 Q)))) :
  gX0_atRank_15 E L d vs x1 x2 x3 x4 m Q := by
  refine sm_iload (Y := mX0_atRank) (pc := 15) 4 4 rfl dX0_atRank_15 ?_
  refine sm_aload_n (Y := mX0_atRank) (pc := 17) 0 0 rfl rfl dX0_atRank_17 ?_
  refine gf_RX0_19 (Y := mX0_atRank) (pc := 18) rfl ((lk_70 hly) _) dX0_atRank_18 ?_
  refine sm_icmp_ge (Y := mX0_atRank) (pc := 21) 43 (by decide) dX0_atRank_21 (fun hc => ?_) (fun hc => ?_)
  · replace h := h.1 hc
    refine sm_iload_n (Y := mX0_atRank) (pc := 43) 3 3 rfl rfl dX0_atRank_43 ?_
    refine sm_iload_n (Y := mX0_atRank) (pc := 44) 1 1 rfl rfl dX0_atRank_44 ?_
    refine sm_icmp_ne (Y := mX0_atRank) (pc := 45) 50 (by decide) dX0_atRank_45 (fun hc => ?_) (fun hc => ?_)
    · replace h := h.1 hc
      refine sm_iinc (Y := mX0_atRank) (pc := 50) (fun y => [(2, .int y), (0, .ref (sm_B E + 70)), (1, .int x1), (3, .int x3), (4, .int x4)]) 2 2 rfl (by decide) (fun _ => rfl) dX0_atRank_50 (fun x2_1 ex2_1 => ?_)
      replace h := h x2_1 ex2_1
      refine sm_goto (Y := mX0_atRank) (pc := 53) 2 (by decide) dX0_atRank_53 ?_
      refine sm_sub [1, 2, 0] rfl ?_
      exact h
    · replace h := h.2 hc
      refine sm_iload_n (Y := mX0_atRank) (pc := 48) 2 2 rfl rfl dX0_atRank_48 ?_
      exact sm_iret (Y := mX0_atRank) (pc := 49) rfl rfl rfl dX0_atRank_49 ⟨_, rfl, h⟩
  · replace h := h.2 hc
    refine sm_aload_n (Y := mX0_atRank) (pc := 24) 0 0 rfl rfl dX0_atRank_24 ?_
    refine sm_iload (Y := mX0_atRank) (pc := 25) 4 4 rfl dX0_atRank_25 ?_
    refine sm_iload_n (Y := mX0_atRank) (pc := 27) 2 2 rfl rfl dX0_atRank_27 ?_
    refine sm_iv_I (Y := mX0_atRank) (pc := 28) (As := [.int x4, .int x2]) (a := 70) fX0_isAhead wRX0_42 (lk_70 hly) (by decide) rfl rfl rfl (Nat.le_trans (by decide) hd) (Nat.le_of_ble_eq_true rfl) ⟨Nat.le_refl _, Nat.le_refl _⟩ dX0_atRank_28 rfl (sm_monoI h (fun r_3 m_2 h => ?_))
    refine sm_if_eq (Y := mX0_atRank) (pc := 31) 37 (by decide) dX0_atRank_31 (fun hc => ?_) (fun hc => ?_)
    · replace h := h.1 hc
      refine sm_iinc (Y := mX0_atRank) (pc := 37) (fun y => [(4, .int y), (0, .ref (sm_B E + 70)), (1, .int x1), (2, .int x2), (3, .int x3)]) 4 4 rfl (by decide) (fun _ => rfl) dX0_atRank_37 (fun x4_4 ex4_4 => ?_)
      replace h := h x4_4 ex4_4
      refine sm_goto (Y := mX0_atRank) (pc := 40) 15 (by decide) dX0_atRank_40 ?_
      refine sm_sub [1, 2, 3, 4, 0] rfl ?_
      exact h
    · replace h := h.2 hc
      refine sm_iinc (Y := mX0_atRank) (pc := 34) (fun y => [(3, .int y), (0, .ref (sm_B E + 70)), (1, .int x1), (2, .int x2), (4, .int x4)]) 3 3 rfl (by decide) (fun _ => rfl) dX0_atRank_34 (fun x3_5 ex3_5 => ?_)
      replace h := h x3_5 ex3_5
      refine sm_iinc (Y := mX0_atRank) (pc := 37) (fun y => [(4, .int y), (3, .int x3_5), (0, .ref (sm_B E + 70)), (1, .int x1), (2, .int x2)]) 4 4 rfl (by decide) (fun _ => rfl) dX0_atRank_37 (fun x4_6 ex4_6 => ?_)
      replace h := h x4_6 ex4_6
      refine sm_goto (Y := mX0_atRank) (pc := 40) 15 (by decide) dX0_atRank_40 ?_
      refine sm_sub [2, 3, 4, 1, 0] rfl ?_
      exact h
theorem dX0_atRank_2 : decode cX0_atRank 2 = .ok (.iload_n 2, 1) := dk_iload_n_2 (by decide +kernel)
theorem dX0_atRank_3 : decode cX0_atRank 3 = .ok (.aload_n 0, 1) := dk_aload_n_0 (by decide +kernel)
theorem dX0_atRank_4 : decode cX0_atRank 4 = .ok (.getfield 19, 3) := dk_getfield 19 (b1 := 0) (b2 := 19) (by decide +kernel) (by decide +kernel) (by decide +kernel) (by decide +kernel)
theorem dX0_atRank_7 : decode cX0_atRank 7 = .ok (.if_icmp .ge 49, 3) := dk_if_icmp_ge 49 (b1 := 0) (b2 := 49) (by decide +kernel) (by decide +kernel) (by decide +kernel) (by decide +kernel)
theorem dX0_atRank_56 : decode cX0_atRank 56 = .ok (.iconst (-1), 1) := dk_iconst_m1 (by decide +kernel)
theorem dX0_atRank_57 : decode cX0_atRank 57 = .ok (.ireturn, 1) := dk_ireturn (by decide +kernel)
theorem dX0_atRank_10 : decode cX0_atRank 10 = .ok (.iconst 0, 1) := dk_iconst_0 (by decide +kernel)
theorem dX0_atRank_11 : decode cX0_atRank 11 = .ok (.istore_n 3, 1) := dk_istore_n_3 (by decide +kernel)
theorem dX0_atRank_12 : decode cX0_atRank 12 = .ok (.iconst 0, 1) := dk_iconst_0 (by decide +kernel)
theorem dX0_atRank_13 : decode cX0_atRank 13 = .ok (.istore 4, 2) := dk_istore 4 (b := 4) (by decide +kernel) (by decide +kernel) (by decide +kernel)
set_option maxRecDepth 20000 in
theorem vX0_atRank_2 {E : sm_E} {L : sm_S → Prop} {d : Nat} {vs : List Value} {x1 : Int32} {x2 : Int32}  {m : sm_M} {Q : Int32 → sm_M → Prop} (hly : ∀ S, L S → ly S) (hd : 2 ≤ d) 
  (h : ((m.1 70 2) ≤ x2 →
      Q (-1) m) ∧
   (¬ (m.1 70 2) ≤ x2 →
      gX0_atRank_15 E L d vs x1 x2 0 0 m Q)) :
  gX0_atRank_2 E L d vs x1 x2 m Q := by
  refine sm_iload_n (Y := mX0_atRank) (pc := 2) 2 2 rfl rfl dX0_atRank_2 ?_
  refine sm_aload_n (Y := mX0_atRank) (pc := 3) 0 0 rfl rfl dX0_atRank_3 ?_
  refine gf_RX0_19 (Y := mX0_atRank) (pc := 4) rfl ((lk_70 hly) _) dX0_atRank_4 ?_
  refine sm_icmp_ge (Y := mX0_atRank) (pc := 7) 56 (by decide) dX0_atRank_7 (fun hc => ?_) (fun hc => ?_)
  · replace h := h.1 hc
    refine sm_iconst (Y := mX0_atRank) (pc := 56) (-1) (by decide) dX0_atRank_56 ?_
    exact sm_iret (Y := mX0_atRank) (pc := 57) rfl rfl rfl dX0_atRank_57 ⟨_, rfl, h⟩
  · replace h := h.2 hc
    refine sm_iconst (Y := mX0_atRank) (pc := 10) 0 (by decide) dX0_atRank_10 ?_
    refine sm_istore0_n (Y := mX0_atRank) (pc := 11) [(3, .int 0), (0, .ref (sm_B E + 70)), (1, .int x1), (2, .int x2)] 3 rfl (by decide) rfl dX0_atRank_11 ?_
    refine sm_iconst (Y := mX0_atRank) (pc := 12) 0 (by decide) dX0_atRank_12 ?_
    refine sm_istore0 (Y := mX0_atRank) (pc := 13) [(4, .int 0), (3, .int 0), (0, .ref (sm_B E + 70)), (1, .int x1), (2, .int x2)] 4 (by decide) rfl dX0_atRank_13 ?_
    refine sm_sub [2, 3, 4, 1, 0] rfl ?_
    exact h
theorem dX0_atRank_0 : decode cX0_atRank 0 = .ok (.iconst 0, 1) := dk_iconst_0 (by decide +kernel)
theorem dX0_atRank_1 : decode cX0_atRank 1 = .ok (.istore_n 2, 1) := dk_istore_n_2 (by decide +kernel)
set_option maxRecDepth 20000 in
theorem vX0_atRank_0 {E : sm_E} {L : sm_S → Prop} {d : Nat} {x1 : Int32}  {m : sm_M} {Q : Int32 → sm_M → Prop}  (hd : 2 ≤ d) 
  (h : gX0_atRank_2 E L d ([.ref (sm_B E + 70), .int x1]) x1 0 m Q) :
  sm_callI E L mX0_atRank d 0 0 [.ref (sm_B E + 70), .int x1] m Q := by
  refine sm_enter (by decide +kernel) (by simp [lg_sl, Value.category]) ?_
  refine sm_iconst (Y := mX0_atRank) (pc := 0) 0 (by decide) dX0_atRank_0 ?_
  refine sm_istore0_n (Y := mX0_atRank) (pc := 1) [(2, .int 0), (0, .ref (sm_B E + 70)), (1, .int x1)] 2 rfl (by decide) rfl dX0_atRank_1 ?_
  refine sm_sub [1, 2, 0] rfl ?_
  exact h
theorem dX0_isAhead_0 : decode cX0_isAhead 0 = .ok (.aload_n 0, 1) := dk_aload_n_0 (by decide +kernel)
theorem dX0_isAhead_1 : decode cX0_isAhead 1 = .ok (.getfield 15, 3) := dk_getfield 15 (b1 := 0) (b2 := 15) (by decide +kernel) (by decide +kernel) (by decide +kernel) (by decide +kernel)
theorem dX0_isAhead_4 : decode cX0_isAhead 4 = .ok (.iload_n 1, 1) := dk_iload_n_1 (by decide +kernel)
theorem dX0_isAhead_5 : decode cX0_isAhead 5 = .ok (.iaload, 1) := dk_iaload (by decide +kernel)
theorem dX0_isAhead_6 : decode cX0_isAhead 6 = .ok (.aload_n 0, 1) := dk_aload_n_0 (by decide +kernel)
theorem dX0_isAhead_7 : decode cX0_isAhead 7 = .ok (.getfield 15, 3) := dk_getfield 15 (b1 := 0) (b2 := 15) (by decide +kernel) (by decide +kernel) (by decide +kernel) (by decide +kernel)
theorem dX0_isAhead_10 : decode cX0_isAhead 10 = .ok (.iload_n 2, 1) := dk_iload_n_2 (by decide +kernel)
theorem dX0_isAhead_11 : decode cX0_isAhead 11 = .ok (.iaload, 1) := dk_iaload (by decide +kernel)
theorem dX0_isAhead_12 : decode cX0_isAhead 12 = .ok (.if_icmp .eq 24, 3) := dk_if_icmp_eq 24 (b1 := 0) (b2 := 24) (by decide +kernel) (by decide +kernel) (by decide +kernel) (by decide +kernel)
theorem dX0_isAhead_36 : decode cX0_isAhead 36 = .ok (.aload_n 0, 1) := dk_aload_n_0 (by decide +kernel)
theorem dX0_isAhead_37 : decode cX0_isAhead 37 = .ok (.getfield 9, 3) := dk_getfield 9 (b1 := 0) (b2 := 9) (by decide +kernel) (by decide +kernel) (by decide +kernel) (by decide +kernel)
theorem dX0_isAhead_40 : decode cX0_isAhead 40 = .ok (.iload_n 1, 1) := dk_iload_n_1 (by decide +kernel)
theorem dX0_isAhead_41 : decode cX0_isAhead 41 = .ok (.laload, 1) := dk_laload (by decide +kernel)
theorem dX0_isAhead_42 : decode cX0_isAhead 42 = .ok (.aload_n 0, 1) := dk_aload_n_0 (by decide +kernel)
theorem dX0_isAhead_43 : decode cX0_isAhead 43 = .ok (.getfield 9, 3) := dk_getfield 9 (b1 := 0) (b2 := 9) (by decide +kernel) (by decide +kernel) (by decide +kernel) (by decide +kernel)
theorem dX0_isAhead_46 : decode cX0_isAhead 46 = .ok (.iload_n 2, 1) := dk_iload_n_2 (by decide +kernel)
theorem dX0_isAhead_47 : decode cX0_isAhead 47 = .ok (.laload, 1) := dk_laload (by decide +kernel)
theorem dX0_isAhead_48 : decode cX0_isAhead 48 = .ok (.lcmp, 1) := dk_lcmp (by decide +kernel)
theorem dX0_isAhead_49 : decode cX0_isAhead 49 = .ok (.ifCond .ge 7, 3) := dk_ifCond_ge 7 (b1 := 0) (b2 := 7) (by decide +kernel) (by decide +kernel) (by decide +kernel) (by decide +kernel)
theorem dX0_isAhead_56 : decode cX0_isAhead 56 = .ok (.iconst 0, 1) := dk_iconst_0 (by decide +kernel)
theorem dX0_isAhead_57 : decode cX0_isAhead 57 = .ok (.ireturn, 1) := dk_ireturn (by decide +kernel)
theorem dX0_isAhead_52 : decode cX0_isAhead 52 = .ok (.iconst 1, 1) := dk_iconst_1 (by decide +kernel)
theorem dX0_isAhead_53 : decode cX0_isAhead 53 = .ok (.goto 4, 3) := dk_goto 4 (b1 := 0) (b2 := 4) (by decide +kernel) (by decide +kernel) (by decide +kernel) (by decide +kernel)
theorem dX0_isAhead_15 : decode cX0_isAhead 15 = .ok (.aload_n 0, 1) := dk_aload_n_0 (by decide +kernel)
theorem dX0_isAhead_16 : decode cX0_isAhead 16 = .ok (.getfield 15, 3) := dk_getfield 15 (b1 := 0) (b2 := 15) (by decide +kernel) (by decide +kernel) (by decide +kernel) (by decide +kernel)
theorem dX0_isAhead_19 : decode cX0_isAhead 19 = .ok (.iload_n 1, 1) := dk_iload_n_1 (by decide +kernel)
theorem dX0_isAhead_20 : decode cX0_isAhead 20 = .ok (.iaload, 1) := dk_iaload (by decide +kernel)
theorem dX0_isAhead_21 : decode cX0_isAhead 21 = .ok (.aload_n 0, 1) := dk_aload_n_0 (by decide +kernel)
theorem dX0_isAhead_22 : decode cX0_isAhead 22 = .ok (.getfield 15, 3) := dk_getfield 15 (b1 := 0) (b2 := 15) (by decide +kernel) (by decide +kernel) (by decide +kernel) (by decide +kernel)
theorem dX0_isAhead_25 : decode cX0_isAhead 25 = .ok (.iload_n 2, 1) := dk_iload_n_2 (by decide +kernel)
theorem dX0_isAhead_26 : decode cX0_isAhead 26 = .ok (.iaload, 1) := dk_iaload (by decide +kernel)
theorem dX0_isAhead_27 : decode cX0_isAhead 27 = .ok (.if_icmp .le 7, 3) := dk_if_icmp_le 7 (b1 := 0) (b2 := 7) (by decide +kernel) (by decide +kernel) (by decide +kernel) (by decide +kernel)
theorem dX0_isAhead_34 : decode cX0_isAhead 34 = .ok (.iconst 0, 1) := dk_iconst_0 (by decide +kernel)
theorem dX0_isAhead_35 : decode cX0_isAhead 35 = .ok (.ireturn, 1) := dk_ireturn (by decide +kernel)
theorem dX0_isAhead_30 : decode cX0_isAhead 30 = .ok (.iconst 1, 1) := dk_iconst_1 (by decide +kernel)
theorem dX0_isAhead_31 : decode cX0_isAhead 31 = .ok (.goto 4, 3) := dk_goto 4 (b1 := 0) (b2 := 4) (by decide +kernel) (by decide +kernel) (by decide +kernel) (by decide +kernel)
set_option maxRecDepth 20000 in
theorem vX0_isAhead_0 {E : sm_E} {L : sm_S → Prop} {d : Nat} {x1 : Int32} {x2 : Int32}  {m : sm_M} {Q : Int32 → sm_M → Prop} (hly : ∀ S, L S → ly S) (hd : 1 ≤ d) 
  (h : (vp_in x1 40) ∧ (vp_in x2 40) ∧ ((m.1 72 x1.toNatClampNeg) = (m.1 72 x2.toNatClampNeg) →
      (vp_in x1 40) ∧ (vp_in x2 40) ∧ ((m.2.1 71 x2.toNatClampNeg) ≤ (m.2.1 71 x1.toNatClampNeg) →
         Q 0 m) ∧
      (¬ (m.2.1 71 x2.toNatClampNeg) ≤ (m.2.1 71 x1.toNatClampNeg) →
         Q 1 m)) ∧
   (¬ (m.1 72 x1.toNatClampNeg) = (m.1 72 x2.toNatClampNeg) →
      (vp_in x1 40) ∧ (vp_in x2 40) ∧ ((m.1 72 x1.toNatClampNeg) ≤ (m.1 72 x2.toNatClampNeg) →
         Q 0 m) ∧
      (¬ (m.1 72 x1.toNatClampNeg) ≤ (m.1 72 x2.toNatClampNeg) →
         Q 1 m))) :
  sm_callI E L mX0_isAhead d 0 0 [.ref (sm_B E + 70), .int x1, .int x2] m Q := by
  refine sm_enter (by decide +kernel) (by simp [lg_sl, Value.category]) ?_
  refine sm_aload_n (Y := mX0_isAhead) (pc := 0) 0 0 rfl rfl dX0_isAhead_0 ?_
  refine gf_RX0_15 (Y := mX0_isAhead) (pc := 1) (b := 72) rfl ((lk_70 hly) _) (lf_70_1 hly _) dX0_isAhead_1 ?_
  refine sm_iload_n (Y := mX0_isAhead) (pc := 4) 1 1 rfl rfl dX0_isAhead_4 ?_
  obtain ⟨hn_1, h⟩ := h
  refine sm_iald (Y := mX0_isAhead) (pc := 5) (la_72 hly _) hn_1 dX0_isAhead_5 ?_
  refine sm_aload_n (Y := mX0_isAhead) (pc := 6) 0 0 rfl rfl dX0_isAhead_6 ?_
  refine gf_RX0_15 (Y := mX0_isAhead) (pc := 7) (b := 72) rfl ((lk_70 hly) _) (lf_70_1 hly _) dX0_isAhead_7 ?_
  refine sm_iload_n (Y := mX0_isAhead) (pc := 10) 2 2 rfl rfl dX0_isAhead_10 ?_
  obtain ⟨hn_2, h⟩ := h
  refine sm_iald (Y := mX0_isAhead) (pc := 11) (la_72 hly _) hn_2 dX0_isAhead_11 ?_
  refine sm_icmp_eq (Y := mX0_isAhead) (pc := 12) 36 (by decide) dX0_isAhead_12 (fun hc => ?_) (fun hc => ?_)
  · replace h := h.1 hc
    refine sm_aload_n (Y := mX0_isAhead) (pc := 36) 0 0 rfl rfl dX0_isAhead_36 ?_
    refine gf_RX0_9 (Y := mX0_isAhead) (pc := 37) (b := 71) rfl ((lk_70 hly) _) (lf_70_0 hly _) dX0_isAhead_37 ?_
    refine sm_iload_n (Y := mX0_isAhead) (pc := 40) 1 1 rfl rfl dX0_isAhead_40 ?_
    obtain ⟨hn_3, h⟩ := h
    refine sm_lald (Y := mX0_isAhead) (pc := 41) (la_71 hly _) hn_3 dX0_isAhead_41 ?_
    refine sm_aload_n (Y := mX0_isAhead) (pc := 42) 0 0 rfl rfl dX0_isAhead_42 ?_
    refine gf_RX0_9 (Y := mX0_isAhead) (pc := 43) (b := 71) rfl ((lk_70 hly) _) (lf_70_0 hly _) dX0_isAhead_43 ?_
    refine sm_iload_n (Y := mX0_isAhead) (pc := 46) 2 2 rfl rfl dX0_isAhead_46 ?_
    obtain ⟨hn_4, h⟩ := h
    refine sm_lald (Y := mX0_isAhead) (pc := 47) (la_71 hly _) hn_4 dX0_isAhead_47 ?_
    refine sm_lif_ge (Y := mX0_isAhead) (pc := 48) 56 (by decide) dX0_isAhead_48 dX0_isAhead_49 (fun hc => ?_) (fun hc => ?_)
    · replace h := h.1 hc
      refine sm_iconst (Y := mX0_isAhead) (pc := 56) 0 (by decide) dX0_isAhead_56 ?_
      exact sm_zret (Y := mX0_isAhead) (pc := 57) rfl (by decide) rfl rfl dX0_isAhead_57 ⟨_, rfl, h⟩
    · replace h := h.2 hc
      refine sm_iconst (Y := mX0_isAhead) (pc := 52) 1 (by decide) dX0_isAhead_52 ?_
      refine sm_goto (Y := mX0_isAhead) (pc := 53) 57 (by decide) dX0_isAhead_53 ?_
      exact sm_zret (Y := mX0_isAhead) (pc := 57) rfl (by decide) rfl rfl dX0_isAhead_57 ⟨_, rfl, h⟩
  · replace h := h.2 hc
    refine sm_aload_n (Y := mX0_isAhead) (pc := 15) 0 0 rfl rfl dX0_isAhead_15 ?_
    refine gf_RX0_15 (Y := mX0_isAhead) (pc := 16) (b := 72) rfl ((lk_70 hly) _) (lf_70_1 hly _) dX0_isAhead_16 ?_
    refine sm_iload_n (Y := mX0_isAhead) (pc := 19) 1 1 rfl rfl dX0_isAhead_19 ?_
    obtain ⟨hn_5, h⟩ := h
    refine sm_iald (Y := mX0_isAhead) (pc := 20) (la_72 hly _) hn_5 dX0_isAhead_20 ?_
    refine sm_aload_n (Y := mX0_isAhead) (pc := 21) 0 0 rfl rfl dX0_isAhead_21 ?_
    refine gf_RX0_15 (Y := mX0_isAhead) (pc := 22) (b := 72) rfl ((lk_70 hly) _) (lf_70_1 hly _) dX0_isAhead_22 ?_
    refine sm_iload_n (Y := mX0_isAhead) (pc := 25) 2 2 rfl rfl dX0_isAhead_25 ?_
    obtain ⟨hn_6, h⟩ := h
    refine sm_iald (Y := mX0_isAhead) (pc := 26) (la_72 hly _) hn_6 dX0_isAhead_26 ?_
    refine sm_icmp_le (Y := mX0_isAhead) (pc := 27) 34 (by decide) dX0_isAhead_27 (fun hc => ?_) (fun hc => ?_)
    · replace h := h.1 hc
      refine sm_iconst (Y := mX0_isAhead) (pc := 34) 0 (by decide) dX0_isAhead_34 ?_
      exact sm_zret (Y := mX0_isAhead) (pc := 35) rfl (by decide) rfl rfl dX0_isAhead_35 ⟨_, rfl, h⟩
    · replace h := h.2 hc
      refine sm_iconst (Y := mX0_isAhead) (pc := 30) 1 (by decide) dX0_isAhead_30 ?_
      refine sm_goto (Y := mX0_isAhead) (pc := 31) 35 (by decide) dX0_isAhead_31 ?_
      exact sm_zret (Y := mX0_isAhead) (pc := 35) rfl (by decide) rfl rfl dX0_isAhead_35 ⟨_, rfl, h⟩
