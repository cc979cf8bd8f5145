abbrev mX5_made : sm_Y := (yX5_made, cX5_made, 9, (some (FieldType.array FieldType.int)))
theorem fX5_made : sm_mt mX5_made 1 := ⟨sm_in 981 (by decide +kernel) (by decide +kernel), sm_in 980 (by decide +kernel) (by decide +kernel), sm_in 90 (by decide +kernel) (by decide +kernel), ⟨by decide +kernel, by decide +kernel, by decide +kernel⟩, by decide⟩
def gX5_made_30 (E : sm_E) (L : sm_S → Prop) (d : Nat) (vs : List Value) (x0 : Int32) (x1 : Int32) (a2 : Nat) (x3 : Int32) (x4 : Int32) (x5 : Int32) (x6 : Int32) (x7 : Int32) (w : Nat) (m : sm_M) (Q : Nat → sm_M → Prop) : Prop := sm_go E L mX5_made d 2 2048 vs 30 [(0, .int x0), (1, .int x1), (2, .ref (sm_B E + a2)), (3, .int x3), (4, .int x4), (5, .int x5), (6, .int x6), (7, .int x7)] [] m 1 w (sm_Z E L vs 2 2048 (sm_QA E Q))
def gX5_made_15 (E : sm_E) (L : sm_S → Prop) (d : Nat) (vs : List Value) (x0 : Int32) (x1 : Int32) (a2 : Nat) (x3 : Int32) (x4 : Int32) (w : Nat) (m : sm_M) (Q : Nat → sm_M → Prop) : Prop := sm_go E L mX5_made d 2 2048 vs 15 [(0, .int x0), (1, .int x1), (2, .ref (sm_B E + a2)), (3, .int x3), (4, .int x4)] [] m 1 w (sm_Z E L vs 2 2048 (sm_QA E Q))
theorem dX5_made_30 : decode cX5_made 30 = .ok (.iload 7, 2) := dk_iload 7 (b := 7) (by decide +kernel) (by decide +kernel) (by decide +kernel)
theorem dX5_made_32 : decode cX5_made 32 = .ok (.iload_n 0, 1) := dk_iload_n_0 (by decide +kernel)
theorem dX5_made_33 : decode cX5_made 33 = .ok (.iconst 2, 1) := dk_iconst_2 (by decide +kernel)
theorem dX5_made_34 : decode cX5_made 34 = .ok (.isub, 1) := dk_isub (by decide +kernel)
theorem dX5_made_35 : decode cX5_made 35 = .ok (.if_icmp .ge 39, 3) := dk_if_icmp_ge 39 (b1 := 0) (b2 := 39) (by decide +kernel) (by decide +kernel) (by decide +kernel) (by decide +kernel)
theorem dX5_made_74 : decode cX5_made 74 = .ok (.iload 5, 2) := dk_iload 5 (b := 5) (by decide +kernel) (by decide +kernel) (by decide +kernel)
theorem dX5_made_76 : decode cX5_made 76 = .ok (.iload 6, 2) := dk_iload 6 (b := 6) (by decide +kernel) (by decide +kernel) (by decide +kernel)
theorem wRX5_33 : Cond.methodLink RX5 33 yX6_named ∈ sm_T := sm_in 982 (by decide +kernel) (by decide +kernel)
theorem dX5_made_78 : decode cX5_made 78 = .ok (.invokestatic 33, 3) := dk_invokestatic 33 (b1 := 0) (b2 := 33) (by decide +kernel) (by decide +kernel) (by decide +kernel) (by decide +kernel)
theorem wRX5_39 : Cond.methodLink RX5 39 yX6_bottomOf ∈ sm_T := sm_in 983 (by decide +kernel) (by decide +kernel)
theorem dX5_made_81 : decode cX5_made 81 = .ok (.invokestatic 39, 3) := dk_invokestatic 39 (b1 := 0) (b2 := 39) (by decide +kernel) (by decide +kernel) (by decide +kernel) (by decide +kernel)
theorem dX5_made_84 : decode cX5_made 84 = .ok (.iload 6, 2) := dk_iload 6 (b := 6) (by decide +kernel) (by decide +kernel) (by decide +kernel)
theorem dX5_made_86 : decode cX5_made 86 = .ok (.if_icmp .ne 18, 3) := dk_if_icmp_ne 18 (b1 := 0) (b2 := 18) (by decide +kernel) (by decide +kernel) (by decide +kernel) (by decide +kernel)
theorem dX5_made_104 : decode cX5_made 104 = .ok (.iinc 4 1, 3) := dk_iinc 4 1 (b1 := 4) (b2 := 1) (by decide +kernel) (by decide +kernel) (by decide +kernel) (by decide +kernel) (by decide +kernel)
theorem dX5_made_107 : decode cX5_made 107 = .ok (.goto (-92), 3) := dk_goto (-92) (b1 := 255) (b2 := 164) (by decide +kernel) (by decide +kernel) (by decide +kernel) (by decide +kernel)
theorem dX5_made_89 : decode cX5_made 89 = .ok (.aload_n 2, 1) := dk_aload_n_2 (by decide +kernel)
theorem dX5_made_90 : decode cX5_made 90 = .ok (.iload_n 3, 1) := dk_iload_n_3 (by decide +kernel)
theorem dX5_made_91 : decode cX5_made 91 = .ok (.iload 5, 2) := dk_iload 5 (b := 5) (by decide +kernel) (by decide +kernel) (by decide +kernel)
theorem dX5_made_93 : decode cX5_made 93 = .ok (.sipush 1024, 3) := dk_sipush 1024 (b1 := 4) (b2 := 0) (by decide +kernel) (by decide +kernel) (by decide +kernel) (by decide +kernel)
theorem dX5_made_96 : decode cX5_made 96 = .ok (.imul, 1) := dk_imul (by decide +kernel)
theorem dX5_made_97 : decode cX5_made 97 = .ok (.iload 6, 2) := dk_iload 6 (b := 6) (by decide +kernel) (by decide +kernel) (by decide +kernel)
theorem dX5_made_99 : decode cX5_made 99 = .ok (.iadd, 1) := dk_iadd (by decide +kernel)
theorem dX5_made_100 : decode cX5_made 100 = .ok (.iastore, 1) := dk_iastore (by decide +kernel)
theorem dX5_made_101 : decode cX5_made 101 = .ok (.iinc 3 1, 3) := dk_iinc 3 1 (b1 := 3) (b2 := 1) (by decide +kernel) (by decide +kernel) (by decide +kernel) (by decide +kernel) (by decide +kernel)
theorem dX5_made_38 : decode cX5_made 38 = .ok (.iload 5, 2) := dk_iload 5 (b := 5) (by decide +kernel) (by decide +kernel) (by decide +kernel)
theorem dX5_made_40 : decode cX5_made 40 = .ok (.iload 6, 2) := dk_iload 6 (b := 6) (by decide +kernel) (by decide +kernel) (by decide +kernel)
theorem dX5_made_42 : decode cX5_made 42 = .ok (.iadd, 1) := dk_iadd (by decide +kernel)
theorem dX5_made_43 : decode cX5_made 43 = .ok (.istore 8, 2) := dk_istore 8 (b := 8) (by decide +kernel) (by decide +kernel) (by decide +kernel)
theorem dX5_made_45 : decode cX5_made 45 = .ok (.iload 4, 2) := dk_iload 4 (b := 4) (by decide +kernel) (by decide +kernel) (by decide +kernel)
theorem dX5_made_47 : decode cX5_made 47 = .ok (.iload 7, 2) := dk_iload 7 (b := 7) (by decide +kernel) (by decide +kernel) (by decide +kernel)
theorem dX5_made_49 : decode cX5_made 49 = .ok (.ishr, 1) := dk_ishr (by decide +kernel)
theorem dX5_made_50 : decode cX5_made 50 = .ok (.iconst 1, 1) := dk_iconst_1 (by decide +kernel)
theorem dX5_made_51 : decode cX5_made 51 = .ok (.iand, 1) := dk_iand (by decide +kernel)
theorem dX5_made_52 : decode cX5_made 52 = .ok (.ifCond .ne 8, 3) := dk_ifCond_ne 8 (b1 := 0) (b2 := 8) (by decide +kernel) (by decide +kernel) (by decide +kernel) (by decide +kernel)
theorem dX5_made_60 : decode cX5_made 60 = .ok (.iload 5, 2) := dk_iload 5 (b := 5) (by decide +kernel) (by decide +kernel) (by decide +kernel)
theorem dX5_made_62 : decode cX5_made 62 = .ok (.istore 6, 2) := dk_istore 6 (b := 6) (by decide +kernel) (by decide +kernel) (by decide +kernel)
theorem dX5_made_64 : decode cX5_made 64 = .ok (.iload 8, 2) := dk_iload 8 (b := 8) (by decide +kernel) (by decide +kernel) (by decide +kernel)
theorem dX5_made_66 : decode cX5_made 66 = .ok (.istore 5, 2) := dk_istore 5 (b := 5) (by decide +kernel) (by decide +kernel) (by decide +kernel)
theorem dX5_made_68 : decode cX5_made 68 = .ok (.iinc 7 1, 3) := dk_iinc 7 1 (b1 := 7) (b2 := 1) (by decide +kernel) (by decide +kernel) (by decide +kernel) (by decide +kernel) (by decide +kernel)
theorem dX5_made_71 : decode cX5_made 71 = .ok (.goto (-41), 3) := dk_goto (-41) (b1 := 255) (b2 := 215) (by decide +kernel) (by decide +kernel) (by decide +kernel) (by decide +kernel)
theorem dX5_made_55 : decode cX5_made 55 = .ok (.iload 6, 2) := dk_iload 6 (b := 6) (by decide +kernel) (by decide +kernel) (by decide +kernel)
theorem dX5_made_57 : decode cX5_made 57 = .ok (.goto 5, 3) := dk_goto 5 (b1 := 0) (b2 := 5) (by decide +kernel) (by decide +kernel) (by decide +kernel) (by decide +kernel)
set_option maxRecDepth 20000 in
theorem vX5_made_30 {E : sm_E} {L : sm_S → Prop} {d : Nat} {vs : List Value} {x0 : Int32} {x1 : Int32} {a2 : Nat} {x3 : Int32} {x4 : Int32} {x5 : Int32} {x6 : Int32} {x7 : Int32} {na2 : Nat} {w : Nat} {m : sm_M} {Q : Nat → sm_M → Prop}  (hw : w ≤ 1024) (hd : 3 ≤ d) (hTa2 : ∀ S, L S → sm_K S a2 = 11 ∧ sm_N S a2 = na2)
  (h : ((x0 - 2) ≤ x7 →
      sm_callJ E L mX6_named 2 0 0 [.int x5, .int x6] m (fun r_2 m_1 =>
      sm_callI E L mX6_bottomOf 1 0 0 [.long r_2] m_1 (fun r_4 m_3 =>
      (¬ r_4 = x6 →
         ∀ x4_5 : Int32, x4_5 = x4 + 1 →
         gX5_made_15 E L d vs x0 x1 a2 x3 x4_5 w m_3 Q) ∧
      (r_4 = x6 →
         (vp_in x3 na2) ∧ ∀ m_6 : sm_M, m_6 = sm_wI m_3 a2 x3.toNatClampNeg ((x5 * 1024) + x6) →
         ∀ x3_8 : Int32, x3_8 = x3 + 1 →
         ∀ x4_9 : Int32, x4_9 = x4 + 1 →
         gX5_made_15 E L d vs x0 x1 a2 x3_8 x4_9 w m_6 Q)))) ∧
   (¬ (x0 - 2) ≤ x7 →
      ∀ x8_10 : Int32, x8_10 = x5 + x6 →
      (¬ ((x4 >>> (x7 &&& 31)) &&& 1) = 0 →
         ∀ x7_13 : Int32, x7_13 = x7 + 1 →
         gX5_made_30 E L d vs x0 x1 a2 x3 x4 x8_10 x5 x7_13 w m Q) ∧
      (((x4 >>> (x7 &&& 31)) &&& 1) = 0 →
         ∀ x7_16 : Int32, x7_16 = x7 + 1 →
         gX5_made_30 E L d vs x0 x1 a2 x3 x4 x8_10 x6 x7_16 w m Q))) :
  gX5_made_30 E L d vs x0 x1 a2 x3 x4 x5 x6 x7 w m Q := by
  refine sm_iload (Y := mX5_made) (pc := 30) 7 7 rfl dX5_made_30 ?_
  refine sm_iload_n (Y := mX5_made) (pc := 32) 0 0 rfl rfl dX5_made_32 ?_
  refine sm_iconst (Y := mX5_made) (pc := 33) 2 (by decide) dX5_made_33 ?_
  refine sm_isub (Y := mX5_made) (pc := 34) dX5_made_34 ?_
  refine sm_icmp_ge (Y := mX5_made) (pc := 35) 74 (by decide) dX5_made_35 (fun hc => ?_) (fun hc => ?_)
  · replace h := h.1 hc
    refine sm_iload (Y := mX5_made) (pc := 74) 5 5 rfl dX5_made_74 ?_
    refine sm_iload (Y := mX5_made) (pc := 76) 6 6 rfl dX5_made_76 ?_
    refine sm_is_J (Y := mX5_made) (pc := 78) (As := [.int x5, .int x6]) fX6_named wRX5_33 rfl (Nat.le_trans (by decide) hd) (Nat.le_of_ble_eq_true rfl) ⟨by omega, by omega⟩ dX5_made_78 rfl (sm_monoJ h (fun r_2 m_1 h => ?_))
    refine sm_is_I (Y := mX5_made) (pc := 81) (As := [.long r_2]) fX6_bottomOf wRX5_39 rfl (Nat.le_trans (by decide) hd) (Nat.le_of_ble_eq_true rfl) ⟨by omega, by omega⟩ dX5_made_81 rfl (sm_monoI h (fun r_4 m_3 h => ?_))
    refine sm_iload (Y := mX5_made) (pc := 84) 6 6 rfl dX5_made_84 ?_
    refine sm_icmp_ne (Y := mX5_made) (pc := 86) 104 (by decide) dX5_made_86 (fun hc => ?_) (fun hc => ?_)
    · replace h := h.1 hc
      refine sm_iinc (Y := mX5_made) (pc := 104) (fun y => [(4, .int y), (0, .int x0), (1, .int x1), (2, .ref (sm_B E + a2)), (3, .int x3), (5, .int x5), (6, .int x6), (7, .int x7)]) 4 4 rfl (by decide) (fun _ => rfl) dX5_made_104 (fun x4_5 ex4_5 => ?_)
      replace h := h x4_5 ex4_5
      refine sm_goto (Y := mX5_made) (pc := 107) 15 (by decide) dX5_made_107 ?_
      refine sm_sub [1, 2, 3, 4, 0] rfl ?_
      exact h
    · replace h := h.2 hc
      refine sm_aload_n (Y := mX5_made) (pc := 89) 2 2 rfl rfl dX5_made_89 ?_
      refine sm_iload_n (Y := mX5_made) (pc := 90) 3 3 rfl rfl dX5_made_90 ?_
      refine sm_iload (Y := mX5_made) (pc := 91) 5 5 rfl dX5_made_91 ?_
      refine sm_sipush (Y := mX5_made) (pc := 93) 1024 (by decide) dX5_made_93 ?_
      refine sm_imul (Y := mX5_made) (pc := 96) dX5_made_96 ?_
      refine sm_iload (Y := mX5_made) (pc := 97) 6 6 rfl dX5_made_97 ?_
      refine sm_iadd (Y := mX5_made) (pc := 99) dX5_made_99 ?_
      obtain ⟨hn_7, h⟩ := h
      refine sm_iast (Y := mX5_made) (pc := 100) (fun hS => hTa2 _ hS) hn_7 dX5_made_100 (fun m_6 em_6 => ?_)
      replace h := h m_6 em_6
      refine sm_iinc (Y := mX5_made) (pc := 101) (fun y => [(3, .int y), (0, .int x0), (1, .int x1), (2, .ref (sm_B E + a2)), (4, .int x4), (5, .int x5), (6, .int x6), (7, .int x7)]) 3 3 rfl (by decide) (fun _ => rfl) dX5_made_101 (fun x3_8 ex3_8 => ?_)
      replace h := h x3_8 ex3_8
      refine sm_iinc (Y := mX5_made) (pc := 104) (fun y => [(4, .int y), (3, .int x3_8), (0, .int x0), (1, .int x1), (2, .ref (sm_B E + a2)), (5, .int x5), (6, .int x6), (7, .int x7)]) 4 4 rfl (by decide) (fun _ => rfl) dX5_made_104 (fun x4_9 ex4_9 => ?_)
      replace h := h x4_9 ex4_9
      refine sm_goto (Y := mX5_made) (pc := 107) 15 (by decide) dX5_made_107 ?_
      refine sm_sub [2, 3, 4, 1, 0] rfl ?_
      exact h
  · replace h := h.2 hc
    refine sm_iload (Y := mX5_made) (pc := 38) 5 5 rfl dX5_made_38 ?_
    refine sm_iload (Y := mX5_made) (pc := 40) 6 6 rfl dX5_made_40 ?_
    refine sm_iadd (Y := mX5_made) (pc := 42) dX5_made_42 ?_
    refine sm_istore (Y := mX5_made) (pc := 43) (fun y => [(8, .int y), (0, .int x0), (1, .int x1), (2, .ref (sm_B E + a2)), (3, .int x3), (4, .int x4), (5, .int x5), (6, .int x6), (7, .int x7)]) 8 (by decide) (fun _ => rfl) dX5_made_43 (fun x8_10 ex8_10 => ?_)
    replace h := h x8_10 ex8_10
    refine sm_iload (Y := mX5_made) (pc := 45) 5 4 rfl dX5_made_45 ?_
    refine sm_iload (Y := mX5_made) (pc := 47) 8 7 rfl dX5_made_47 ?_
    refine sm_ishr (Y := mX5_made) (pc := 49) dX5_made_49 ?_
    refine sm_iconst (Y := mX5_made) (pc := 50) 1 (by decide) dX5_made_50 ?_
    refine sm_iand (Y := mX5_made) (pc := 51) dX5_made_51 ?_
    refine sm_if_ne (Y := mX5_made) (pc := 52) 60 (by decide) dX5_made_52 (fun hc => ?_) (fun hc => ?_)
    · replace h := h.1 hc
      refine sm_iload (Y := mX5_made) (pc := 60) 6 5 rfl dX5_made_60 ?_
      refine sm_istore0 (Y := mX5_made) (pc := 62) [(6, .int x5), (8, .int x8_10), (0, .int x0), (1, .int x1), (2, .ref (sm_B E + a2)), (3, .int x3), (4, .int x4), (5, .int x5), (7, .int x7)] 6 (by decide) rfl dX5_made_62 ?_
      refine sm_iload (Y := mX5_made) (pc := 64) 1 8 rfl dX5_made_64 ?_
      refine sm_istore0 (Y := mX5_made) (pc := 66) [(5, .int x8_10), (6, .int x5), (8, .int x8_10), (0, .int x0), (1, .int x1), (2, .ref (sm_B E + a2)), (3, .int x3), (4, .int x4), (7, .int x7)] 5 (by decide) rfl dX5_made_66 ?_
      refine sm_iinc (Y := mX5_made) (pc := 68) (fun y => [(7, .int y), (5, .int x8_10), (6, .int x5), (8, .int x8_10), (0, .int x0), (1, .int x1), (2, .ref (sm_B E + a2)), (3, .int x3), (4, .int x4)]) 8 7 rfl (by decide) (fun _ => rfl) dX5_made_68 (fun x7_13 ex7_13 => ?_)
      replace h := h x7_13 ex7_13
      refine sm_goto (Y := mX5_made) (pc := 71) 30 (by decide) dX5_made_71 ?_
      refine sm_sub [4, 5, 6, 7, 8, 1, 2, 0] rfl ?_
      exact h
    · replace h := h.2 hc
      refine sm_iload (Y := mX5_made) (pc := 55) 7 6 rfl dX5_made_55 ?_
      refine sm_goto (Y := mX5_made) (pc := 57) 62 (by decide) dX5_made_57 ?_
      refine sm_istore0 (Y := mX5_made) (pc := 62) [(6, .int x6), (8, .int x8_10), (0, .int x0), (1, .int x1), (2, .ref (sm_B E + a2)), (3, .int x3), (4, .int x4), (5, .int x5), (7, .int x7)] 6 (by decide) rfl dX5_made_62 ?_
      refine sm_iload (Y := mX5_made) (pc := 64) 1 8 rfl dX5_made_64 ?_
      refine sm_istore0 (Y := mX5_made) (pc := 66) [(5, .int x8_10), (6, .int x6), (8, .int x8_10), (0, .int x0), (1, .int x1), (2, .ref (sm_B E + a2)), (3, .int x3), (4, .int x4), (7, .int x7)] 5 (by decide) rfl dX5_made_66 ?_
      refine sm_iinc (Y := mX5_made) (pc := 68) (fun y => [(7, .int y), (5, .int x8_10), (6, .int x6), (8, .int x8_10), (0, .int x0), (1, .int x1), (2, .ref (sm_B E + a2)), (3, .int x3), (4, .int x4)]) 8 7 rfl (by decide) (fun _ => rfl) dX5_made_68 (fun x7_16 ex7_16 => ?_)
      replace h := h x7_16 ex7_16
      refine sm_goto (Y := mX5_made) (pc := 71) 30 (by decide) dX5_made_71 ?_
      refine sm_sub [4, 5, 6, 7, 8, 1, 2, 0] rfl ?_
      exact h
theorem dX5_made_15 : decode cX5_made 15 = .ok (.iload 4, 2) := dk_iload 4 (b := 4) (by decide +kernel) (by decide +kernel) (by decide +kernel)
theorem dX5_made_17 : decode cX5_made 17 = .ok (.iload_n 1, 1) := dk_iload_n_1 (by decide +kernel)
theorem dX5_made_18 : decode cX5_made 18 = .ok (.if_icmp .ge 92, 3) := dk_if_icmp_ge 92 (b1 := 0) (b2 := 92) (by decide +kernel) (by decide +kernel) (by decide +kernel) (by decide +kernel)
theorem dX5_made_110 : decode cX5_made 110 = .ok (.aload_n 2, 1) := dk_aload_n_2 (by decide +kernel)
theorem dX5_made_111 : decode cX5_made 111 = .ok (.iload_n 3, 1) := dk_iload_n_3 (by decide +kernel)
theorem wRX5_43 : Cond.methodLink RX5 43 yX5_sort ∈ sm_T := sm_in 984 (by decide +kernel) (by decide +kernel)
theorem dX5_made_112 : decode cX5_made 112 = .ok (.invokestatic 43, 3) := dk_invokestatic 43 (b1 := 0) (b2 := 43) (by decide +kernel) (by decide +kernel) (by decide +kernel) (by decide +kernel)
theorem dX5_made_115 : decode cX5_made 115 = .ok (.aload_n 2, 1) := dk_aload_n_2 (by decide +kernel)
theorem dX5_made_116 : decode cX5_made 116 = .ok (.iload_n 3, 1) := dk_iload_n_3 (by decide +kernel)
theorem wRX5_47 : Cond.methodLink RX5 47 yJ7_copyOf_59c91 ∈ sm_T := sm_in 987 (by decide +kernel) (by decide +kernel)
theorem dX5_made_117 : decode cX5_made 117 = .ok (.invokestatic 47, 3) := dk_invokestatic 47 (b1 := 0) (b2 := 47) (by decide +kernel) (by decide +kernel) (by decide +kernel) (by decide +kernel)
theorem dX5_made_120 : decode cX5_made 120 = .ok (.areturn, 1) := dk_areturn (by decide +kernel)
theorem dX5_made_21 : decode cX5_made 21 = .ok (.iconst 2, 1) := dk_iconst_2 (by decide +kernel)
theorem dX5_made_22 : decode cX5_made 22 = .ok (.istore 5, 2) := dk_istore 5 (b := 5) (by decide +kernel) (by decide +kernel) (by decide +kernel)
theorem dX5_made_24 : decode cX5_made 24 = .ok (.iconst 1, 1) := dk_iconst_1 (by decide +kernel)
theorem dX5_made_25 : decode cX5_made 25 = .ok (.istore 6, 2) := dk_istore 6 (b := 6) (by decide +kernel) (by decide +kernel) (by decide +kernel)
theorem dX5_made_27 : decode cX5_made 27 = .ok (.iconst 0, 1) := dk_iconst_0 (by decide +kernel)
theorem dX5_made_28 : decode cX5_made 28 = .ok (.istore 7, 2) := dk_istore 7 (b := 7) (by decide +kernel) (by decide +kernel) (by decide +kernel)
set_option maxRecDepth 20000 in
theorem vX5_made_15 {E : sm_E} {L : sm_S → Prop} {d : Nat} {vs : List Value} {x0 : Int32} {x1 : Int32} {a2 : Nat} {x3 : Int32} {x4 : Int32} {na2 : Nat} {w : Nat} {m : sm_M} {Q : Nat → sm_M → Prop}  (hw : w ≤ 1024) (hd : 3 ≤ d) (hTa2 : ∀ S, L S → sm_K S a2 = 11 ∧ sm_N S a2 = na2)
  (h : (x1 ≤ x4 →
      sm_callV E L mX5_sort 1 0 0 [.ref (sm_B E + a2), .int x3] m (fun m_1 =>
      sm_callA E L mJ7_copyOf_59c91 2 1 1024 [.ref (sm_B E + a2), .int x3] m_1 (fun r_3 m_2 =>
      Q r_3 m_2))) ∧
   (¬ x1 ≤ x4 →
      gX5_made_30 E L d vs x0 x1 a2 x3 x4 2 1 0 w m Q)) :
  gX5_made_15 E L d vs x0 x1 a2 x3 x4 w m Q := by
  refine sm_iload (Y := mX5_made) (pc := 15) 4 4 rfl dX5_made_15 ?_
  refine sm_iload_n (Y := mX5_made) (pc := 17) 1 1 rfl rfl dX5_made_17 ?_
  refine sm_icmp_ge (Y := mX5_made) (pc := 18) 110 (by decide) dX5_made_18 (fun hc => ?_) (fun hc => ?_)
  · replace h := h.1 hc
    refine sm_aload_n (Y := mX5_made) (pc := 110) 2 2 rfl rfl dX5_made_110 ?_
    refine sm_iload_n (Y := mX5_made) (pc := 111) 3 3 rfl rfl dX5_made_111 ?_
    refine sm_is_V (Y := mX5_made) (pc := 112) (As := [.ref (sm_B E + a2), .int x3]) fX5_sort wRX5_43 rfl (Nat.le_trans (by decide) hd) (Nat.le_of_ble_eq_true rfl) ⟨by omega, by omega⟩ dX5_made_112 rfl (sm_monoV h (fun m_1 h => ?_))
    refine sm_aload_n (Y := mX5_made) (pc := 115) 2 2 rfl rfl dX5_made_115 ?_
    refine sm_iload_n (Y := mX5_made) (pc := 116) 3 3 rfl rfl dX5_made_116 ?_
    refine sm_is_A (Y := mX5_made) (pc := 117) (As := [.ref (sm_B E + a2), .int x3]) fJ7_copyOf_59c91 wRX5_47 rfl (Nat.le_trans (by decide) hd) (Nat.le_of_ble_eq_true rfl) ⟨by omega, by omega⟩ dX5_made_117 rfl (sm_monoA h (fun r_3 m_2 h => ?_))
    refine sm_widen (k := 2) (n := 2048) (by omega) (by omega) ?_
    exact sm_aret (Y := mX5_made) (pc := 120) rfl (Or.inr ⟨_, rfl⟩) rfl rfl dX5_made_120 ⟨_, rfl, h⟩
  · replace h := h.2 hc
    refine sm_iconst (Y := mX5_made) (pc := 21) 2 (by decide) dX5_made_21 ?_
    refine sm_istore0 (Y := mX5_made) (pc := 22) [(5, .int 2), (0, .int x0), (1, .int x1), (2, .ref (sm_B E + a2)), (3, .int x3), (4, .int x4)] 5 (by decide) rfl dX5_made_22 ?_
    refine sm_iconst (Y := mX5_made) (pc := 24) 1 (by decide) dX5_made_24 ?_
    refine sm_istore0 (Y := mX5_made) (pc := 25) [(6, .int 1), (5, .int 2), (0, .int x0), (1, .int x1), (2, .ref (sm_B E + a2)), (3, .int x3), (4, .int x4)] 6 (by decide) rfl dX5_made_25 ?_
    refine sm_iconst (Y := mX5_made) (pc := 27) 0 (by decide) dX5_made_27 ?_
    refine sm_istore0 (Y := mX5_made) (pc := 28) [(7, .int 0), (6, .int 1), (5, .int 2), (0, .int x0), (1, .int x1), (2, .ref (sm_B E + a2)), (3, .int x3), (4, .int x4)] 7 (by decide) rfl dX5_made_28 ?_
    refine sm_sub [3, 4, 5, 6, 7, 2, 1, 0] rfl ?_
    exact h
theorem dX5_made_0 : decode cX5_made 0 = .ok (.iconst 1, 1) := dk_iconst_1 (by decide +kernel)
theorem dX5_made_1 : decode cX5_made 1 = .ok (.iload_n 0, 1) := dk_iload_n_0 (by decide +kernel)
theorem dX5_made_2 : decode cX5_made 2 = .ok (.iconst 2, 1) := dk_iconst_2 (by decide +kernel)
theorem dX5_made_3 : decode cX5_made 3 = .ok (.isub, 1) := dk_isub (by decide +kernel)
theorem dX5_made_4 : decode cX5_made 4 = .ok (.ishl, 1) := dk_ishl (by decide +kernel)
theorem dX5_made_5 : decode cX5_made 5 = .ok (.istore_n 1, 1) := dk_istore_n_1 (by decide +kernel)
theorem dX5_made_6 : decode cX5_made 6 = .ok (.iload_n 1, 1) := dk_iload_n_1 (by decide +kernel)
theorem dX5_made_7 : decode cX5_made 7 = .ok (.newarray .int, 2) := by decide +kernel
theorem dX5_made_9 : decode cX5_made 9 = .ok (.astore_n 2, 1) := dk_astore_n_2 (by decide +kernel)
theorem dX5_made_10 : decode cX5_made 10 = .ok (.iconst 0, 1) := dk_iconst_0 (by decide +kernel)
theorem dX5_made_11 : decode cX5_made 11 = .ok (.istore_n 3, 1) := dk_istore_n_3 (by decide +kernel)
theorem dX5_made_12 : decode cX5_made 12 = .ok (.iconst 0, 1) := dk_iconst_0 (by decide +kernel)
theorem dX5_made_13 : decode cX5_made 13 = .ok (.istore 4, 2) := dk_istore 4 (b := 4) (by decide +kernel) (by decide +kernel) (by decide +kernel)
abbrev mX5_codesOf : sm_Y := (yX5_codesOf, cX5_codesOf, 3, (some (FieldType.array FieldType.int)))
theorem fX5_codesOf : sm_mi mX5_codesOf RX5 1 := ⟨sm_in 976 (by decide +kernel) (by decide +kernel), sm_in 975 (by decide +kernel) (by decide +kernel), sm_in 34 (by decide +kernel) (by decide +kernel), sm_in 90 (by decide +kernel) (by decide +kernel), rfl, ⟨by decide +kernel, by decide +kernel, by decide +kernel⟩, by decide⟩
theorem dX5_codesOf_0 : decode cX5_codesOf 0 = .ok (.iload_n 1, 1) := dk_iload_n_1 (by decide +kernel)
theorem dX5_codesOf_1 : decode cX5_codesOf 1 = .ok (.iconst 2, 1) := dk_iconst_2 (by decide +kernel)
theorem dX5_codesOf_2 : decode cX5_codesOf 2 = .ok (.invokestatic 21, 3) := dk_invokestatic 21 (b1 := 0) (b2 := 21) (by decide +kernel) (by decide +kernel) (by decide +kernel) (by decide +kernel)
theorem wRX5_21 : Cond.methodLink RX5 21 yJ9_max_7cf53 ∈ sm_T := sm_in 977 (by decide +kernel) (by decide +kernel)
/-! X5_codesOf 2: wRX5_21 -/
theorem dX5_codesOf_5 : decode cX5_codesOf 5 = .ok (.bipush 12, 2) := dk_bipush 12 (b := 12) (by decide +kernel) (by decide +kernel) (by decide +kernel)
theorem dX5_codesOf_7 : decode cX5_codesOf 7 = .ok (.invokestatic 27, 3) := dk_invokestatic 27 (b1 := 0) (b2 := 27) (by decide +kernel) (by decide +kernel) (by decide +kernel) (by decide +kernel)
theorem wRX5_27 : Cond.methodLink RX5 27 yJ9_min_7cf53 ∈ sm_T := sm_in 978 (by decide +kernel) (by decide +kernel)
/-! X5_codesOf 7: wRX5_27 -/
theorem dX5_codesOf_10 : decode cX5_codesOf 10 = .ok (.istore_n 2, 1) := dk_istore_n_2 (by decide +kernel)
theorem dX5_codesOf_11 : decode cX5_codesOf 11 = .ok (.aload_n 0, 1) := dk_aload_n_0 (by decide +kernel)
theorem dX5_codesOf_12 : decode cX5_codesOf 12 = .ok (.getfield 11, 3) := dk_getfield 11 (b1 := 0) (b2 := 11) (by decide +kernel) (by decide +kernel) (by decide +kernel) (by decide +kernel)
theorem dX5_codesOf_15 : decode cX5_codesOf 15 = .ok (.iload_n 2, 1) := dk_iload_n_2 (by decide +kernel)
theorem dX5_codesOf_16 : decode cX5_codesOf 16 = .ok (.aaload, 1) := dk_aaload (by decide +kernel)
theorem dX5_codesOf_17 : decode cX5_codesOf 17 = .ok (.ifnonnull 13, 3) := dk_ifnonnull 13 (b1 := 0) (b2 := 13) (by decide +kernel) (by decide +kernel) (by decide +kernel) (by decide +kernel)
theorem dX5_codesOf_20 : decode cX5_codesOf 20 = .ok (.aload_n 0, 1) := dk_aload_n_0 (by decide +kernel)
theorem dX5_codesOf_21 : decode cX5_codesOf 21 = .ok (.getfield 11, 3) := dk_getfield 11 (b1 := 0) (b2 := 11) (by decide +kernel) (by decide +kernel) (by decide +kernel) (by decide +kernel)
theorem dX5_codesOf_24 : decode cX5_codesOf 24 = .ok (.iload_n 2, 1) := dk_iload_n_2 (by decide +kernel)
theorem dX5_codesOf_25 : decode cX5_codesOf 25 = .ok (.iload_n 2, 1) := dk_iload_n_2 (by decide +kernel)
theorem dX5_codesOf_26 : decode cX5_codesOf 26 = .ok (.invokestatic 30, 3) := dk_invokestatic 30 (b1 := 0) (b2 := 30) (by decide +kernel) (by decide +kernel) (by decide +kernel) (by decide +kernel)
theorem wRX5_30 : Cond.methodLink RX5 30 yX5_made ∈ sm_T := sm_in 979 (by decide +kernel) (by decide +kernel)
/-! X5_codesOf 26: wRX5_30 -/
theorem dX5_codesOf_29 : decode cX5_codesOf 29 = .ok (.aastore, 1) := dk_aastore (by decide +kernel)
theorem dX5_codesOf_30 : decode cX5_codesOf 30 = .ok (.aload_n 0, 1) := dk_aload_n_0 (by decide +kernel)
theorem dX5_codesOf_31 : decode cX5_codesOf 31 = .ok (.getfield 11, 3) := dk_getfield 11 (b1 := 0) (b2 := 11) (by decide +kernel) (by decide +kernel) (by decide +kernel) (by decide +kernel)
theorem dX5_codesOf_34 : decode cX5_codesOf 34 = .ok (.iload_n 2, 1) := dk_iload_n_2 (by decide +kernel)
theorem dX5_codesOf_35 : decode cX5_codesOf 35 = .ok (.aaload, 1) := dk_aaload (by decide +kernel)
theorem dX5_codesOf_36 : decode cX5_codesOf 36 = .ok (.areturn, 1) := dk_areturn (by decide +kernel)
theorem dX5_lengthOf_0 : decode cX5_lengthOf 0 = .ok (.aload_n 0, 1) := dk_aload_n_0 (by decide +kernel)
theorem dX5_lengthOf_1 : decode cX5_lengthOf 1 = .ok (.iload_n 1, 1) := dk_iload_n_1 (by decide +kernel)
theorem dX5_lengthOf_2 : decode cX5_lengthOf 2 = .ok (.invokevirtual 17, 3) := dk_invokevirtual 17 (b1 := 0) (b2 := 17) (by decide +kernel) (by decide +kernel) (by decide +kernel) (by decide +kernel)
theorem wRX5_17 : Cond.methodLink RX5 17 yX5_codesOf ∈ sm_T := sm_in 973 (by decide +kernel) (by decide +kernel)
/-! X5_lengthOf 2: wRX5_17 -/
theorem dX5_lengthOf_5 : decode cX5_lengthOf 5 = .ok (.arraylength, 1) := dk_arraylength (by decide +kernel)
theorem dX5_lengthOf_6 : decode cX5_lengthOf 6 = .ok (.ireturn, 1) := dk_ireturn (by decide +kernel)
theorem dX5_topAt_0 : decode cX5_topAt 0 = .ok (.aload_n 0, 1) := dk_aload_n_0 (by decide +kernel)
theorem dX5_topAt_1 : decode cX5_topAt 1 = .ok (.iload_n 1, 1) := dk_iload_n_1 (by decide +kernel)
theorem dX5_topAt_2 : decode cX5_topAt 2 = .ok (.invokevirtual 17, 3) := dk_invokevirtual 17 (b1 := 0) (b2 := 17) (by decide +kernel) (by decide +kernel) (by decide +kernel) (by decide +kernel)
/-! X5_topAt 2: wRX5_17 -/
theorem dX5_topAt_5 : decode cX5_topAt 5 = .ok (.astore_n 3, 1) := dk_astore_n_3 (by decide +kernel)
theorem dX5_topAt_6 : decode cX5_topAt 6 = .ok (.iload_n 2, 1) := dk_iload_n_2 (by decide +kernel)
theorem dX5_topAt_7 : decode cX5_topAt 7 = .ok (.ifCond .lt 19, 3) := dk_ifCond_lt 19 (b1 := 0) (b2 := 19) (by decide +kernel) (by decide +kernel) (by decide +kernel) (by decide +kernel)
theorem dX5_topAt_10 : decode cX5_topAt 10 = .ok (.iload_n 2, 1) := dk_iload_n_2 (by decide +kernel)
theorem dX5_topAt_11 : decode cX5_topAt 11 = .ok (.aload_n 3, 1) := dk_aload_n_3 (by decide +kernel)
theorem dX5_topAt_12 : decode cX5_topAt 12 = .ok (.arraylength, 1) := dk_arraylength (by decide +kernel)
theorem dX5_topAt_13 : decode cX5_topAt 13 = .ok (.if_icmp .ge 13, 3) := dk_if_icmp_ge 13 (b1 := 0) (b2 := 13) (by decide +kernel) (by decide +kernel) (by decide +kernel) (by decide +kernel)
theorem dX5_topAt_16 : decode cX5_topAt 16 = .ok (.aload_n 3, 1) := dk_aload_n_3 (by decide +kernel)
theorem dX5_topAt_17 : decode cX5_topAt 17 = .ok (.iload_n 2, 1) := dk_iload_n_2 (by decide +kernel)
theorem dX5_topAt_18 : decode cX5_topAt 18 = .ok (.iaload, 1) := dk_iaload (by decide +kernel)
theorem dX5_topAt_19 : decode cX5_topAt 19 = .ok (.sipush 1024, 3) := dk_sipush 1024 (b1 := 4) (b2 := 0) (by decide +kernel) (by decide +kernel) (by decide +kernel) (by decide +kernel)
theorem dX5_topAt_22 : decode cX5_topAt 22 = .ok (.idiv, 1) := dk_idiv (by decide +kernel)
theorem dX5_topAt_23 : decode cX5_topAt 23 = .ok (.goto 4, 3) := dk_goto 4 (b1 := 0) (b2 := 4) (by decide +kernel) (by decide +kernel) (by decide +kernel) (by decide +kernel)
theorem dX5_topAt_26 : decode cX5_topAt 26 = .ok (.iconst 0, 1) := dk_iconst_0 (by decide +kernel)
theorem dX5_topAt_27 : decode cX5_topAt 27 = .ok (.ireturn, 1) := dk_ireturn (by decide +kernel)
theorem dX5_bottomAt_0 : decode cX5_bottomAt 0 = .ok (.aload_n 0, 1) := dk_aload_n_0 (by decide +kernel)
theorem dX5_bottomAt_1 : decode cX5_bottomAt 1 = .ok (.iload_n 1, 1) := dk_iload_n_1 (by decide +kernel)
theorem dX5_bottomAt_2 : decode cX5_bottomAt 2 = .ok (.invokevirtual 17, 3) := dk_invokevirtual 17 (b1 := 0) (b2 := 17) (by decide +kernel) (by decide +kernel) (by decide +kernel) (by decide +kernel)
/-! X5_bottomAt 2: wRX5_17 -/
theorem dX5_bottomAt_5 : decode cX5_bottomAt 5 = .ok (.astore_n 3, 1) := dk_astore_n_3 (by decide +kernel)
theorem dX5_bottomAt_6 : decode cX5_bottomAt 6 = .ok (.iload_n 2, 1) := dk_iload_n_2 (by decide +kernel)
theorem dX5_bottomAt_7 : decode cX5_bottomAt 7 = .ok (.ifCond .lt 19, 3) := dk_ifCond_lt 19 (b1 := 0) (b2 := 19) (by decide +kernel) (by decide +kernel) (by decide +kernel) (by decide +kernel)
theorem dX5_bottomAt_10 : decode cX5_bottomAt 10 = .ok (.iload_n 2, 1) := dk_iload_n_2 (by decide +kernel)
theorem dX5_bottomAt_11 : decode cX5_bottomAt 11 = .ok (.aload_n 3, 1) := dk_aload_n_3 (by decide +kernel)
theorem dX5_bottomAt_12 : decode cX5_bottomAt 12 = .ok (.arraylength, 1) := dk_arraylength (by decide +kernel)
theorem dX5_bottomAt_13 : decode cX5_bottomAt 13 = .ok (.if_icmp .ge 13, 3) := dk_if_icmp_ge 13 (b1 := 0) (b2 := 13) (by decide +kernel) (by decide +kernel) (by decide +kernel) (by decide +kernel)
theorem dX5_bottomAt_16 : decode cX5_bottomAt 16 = .ok (.aload_n 3, 1) := dk_aload_n_3 (by decide +kernel)
theorem dX5_bottomAt_17 : decode cX5_bottomAt 17 = .ok (.iload_n 2, 1) := dk_iload_n_2 (by decide +kernel)
theorem dX5_bottomAt_18 : decode cX5_bottomAt 18 = .ok (.iaload, 1) := dk_iaload (by decide +kernel)
theorem dX5_bottomAt_19 : decode cX5_bottomAt 19 = .ok (.sipush 1024, 3) := dk_sipush 1024 (b1 := 4) (b2 := 0) (by decide +kernel) (by decide +kernel) (by decide +kernel) (by decide +kernel)
theorem dX5_bottomAt_22 : decode cX5_bottomAt 22 = .ok (.irem, 1) := dk_irem (by decide +kernel)
theorem dX5_bottomAt_23 : decode cX5_bottomAt 23 = .ok (.goto 4, 3) := dk_goto 4 (b1 := 0) (b2 := 4) (by decide +kernel) (by decide +kernel) (by decide +kernel) (by decide +kernel)
theorem dX5_bottomAt_26 : decode cX5_bottomAt 26 = .ok (.iconst 0, 1) := dk_iconst_0 (by decide +kernel)
theorem dX5_bottomAt_27 : decode cX5_bottomAt 27 = .ok (.ireturn, 1) := dk_ireturn (by decide +kernel)
set_option maxRecDepth 20000 in
theorem vX11_listed_r {E : sm_E} {L : sm_S → Prop} {d : Nat} {x1 : Int32} {x2 : Int32} {x3 : Int32}  {m : sm_M} {Q : Int32 → sm_M → Prop} (hly : ∀ S, L S → ly S) (hd : 6 ≤ d) 
  (h : (x1 < 2 →
      sm_callI E L mX11_error 1 0 0 [.ref (sm_B E + 0), .int 1] m (fun r_2 m_1 =>
      Q r_2 m_1)) ∧
   (¬ x1 < 2 →
      (12 < x1 →
         sm_callI E L mX11_error 1 0 0 [.ref (sm_B E + 0), .int 1] m (fun r_4 m_3 =>
         Q r_4 m_3)) ∧
      (¬ 12 < x1 →
         (x3 < (-1) →
            sm_callI E L mX11_error 1 0 0 [.ref (sm_B E + 0), .int 1] m (fun r_6 m_5 =>
            Q r_6 m_5)) ∧
         (¬ x3 < (-1) →
            (x3 ≤ 1 →
               (¬ x3 = (-1) →
                  (0 ≤ x2 →
                     sm_callI E L mX5_lengthOf 5 2 2048 [.ref (sm_B E + 68), .int x1] m (fun r_8 m_7 =>
                     (x2 < r_8 →
                        (¬ x3 = 0 →
                           sm_callI E L mX5_bottomAt 5 2 2048 [.ref (sm_B E + 68), .int x1, .int x2] m_7 (fun r_10 m_9 =>
                           Q r_10 m_9)) ∧
                        (x3 = 0 →
                           sm_callI E L mX5_topAt 5 2 2048 [.ref (sm_B E + 68), .int x1, .int x2] m_7 (fun r_12 m_11 =>
                           Q r_12 m_11))) ∧
                     (¬ x2 < r_8 →
                        sm_callI E L mX11_error 1 0 0 [.ref (sm_B E + 0), .int 2] m_7 (fun r_14 m_13 =>
                        Q r_14 m_13)))) ∧
                  (¬ 0 ≤ x2 →
                     sm_callI E L mX11_error 1 0 0 [.ref (sm_B E + 0), .int 1] m (fun r_16 m_15 =>
                     Q r_16 m_15))) ∧
               (x3 = (-1) →
                  sm_callI E L mX5_lengthOf 5 2 2048 [.ref (sm_B E + 68), .int x1] m (fun r_18 m_17 =>
                  Q r_18 m_17))) ∧
            (¬ x3 ≤ 1 →
               sm_callI E L mX11_error 1 0 0 [.ref (sm_B E + 0), .int 1] m (fun r_20 m_19 =>
               Q r_20 m_19)))))) :
  sm_callI E L mX11_listed d 4 4096 [.ref (sm_B E + 0), .int x1, .int x2, .int x3] m Q := by
  refine sm_enter (by decide +kernel) (by simp [lg_sl, Value.category]) ?_
  refine sm_iload_n (Y := mX11_listed) (pc := 0) 1 1 rfl rfl dX11_listed_0 ?_
  refine sm_iconst (Y := mX11_listed) (pc := 1) 2 (by decide) dX11_listed_1 ?_
  refine sm_icmp_lt (Y := mX11_listed) (pc := 2) 21 (by decide) dX11_listed_2 (fun hc => ?_) (fun hc => ?_)
  · replace h := h.1 hc
    refine sm_aload_n (Y := mX11_listed) (pc := 21) 0 0 rfl rfl dX11_listed_21 ?_
    refine sm_iconst (Y := mX11_listed) (pc := 22) 1 (by decide) dX11_listed_22 ?_
    refine sm_iv_I (Y := mX11_listed) (pc := 23) (As := [.int 1]) (a := 0) fX11_error wRX11_103 (lk_0 hly) (by decide) rfl rfl rfl (Nat.le_trans (by decide) hd) (Nat.le_of_ble_eq_true rfl) ⟨by omega, by omega⟩ dX11_listed_23 rfl (sm_monoI h (fun r_2 m_1 h => ?_))
    refine sm_widen (k := 4) (n := 4096) (by omega) (by omega) ?_
    exact sm_iret (Y := mX11_listed) (pc := 26) rfl rfl rfl dX11_listed_26 ⟨_, rfl, h⟩
  · replace h := h.2 hc
    refine sm_iload_n (Y := mX11_listed) (pc := 5) 1 1 rfl rfl dX11_listed_5 ?_
    refine sm_bipush (Y := mX11_listed) (pc := 6) 12 (by decide) dX11_listed_6 ?_
    refine sm_icmp_gt (Y := mX11_listed) (pc := 8) 21 (by decide) dX11_listed_8 (fun hc => ?_) (fun hc => ?_)
    · replace h := h.1 hc
      refine sm_aload_n (Y := mX11_listed) (pc := 21) 0 0 rfl rfl dX11_listed_21 ?_
      refine sm_iconst (Y := mX11_listed) (pc := 22) 1 (by decide) dX11_listed_22 ?_
      refine sm_iv_I (Y := mX11_listed) (pc := 23) (As := [.int 1]) (a := 0) fX11_error wRX11_103 (lk_0 hly) (by decide) rfl rfl rfl (Nat.le_trans (by decide) hd) (Nat.le_of_ble_eq_true rfl) ⟨by omega, by omega⟩ dX11_listed_23 rfl (sm_monoI h (fun r_4 m_3 h => ?_))
      refine sm_widen (k := 4) (n := 4096) (by omega) (by omega) ?_
      exact sm_iret (Y := mX11_listed) (pc := 26) rfl rfl rfl dX11_listed_26 ⟨_, rfl, h⟩
    · replace h := h.2 hc
      refine sm_iload_n (Y := mX11_listed) (pc := 11) 3 3 rfl rfl dX11_listed_11 ?_
      refine sm_iconst (Y := mX11_listed) (pc := 12) (-1) (by decide) dX11_listed_12 ?_
      refine sm_icmp_lt (Y := mX11_listed) (pc := 13) 21 (by decide) dX11_listed_13 (fun hc => ?_) (fun hc => ?_)
      · replace h := h.1 hc
        refine sm_aload_n (Y := mX11_listed) (pc := 21) 0 0 rfl rfl dX11_listed_21 ?_
        refine sm_iconst (Y := mX11_listed) (pc := 22) 1 (by decide) dX11_listed_22 ?_
        refine sm_iv_I (Y := mX11_listed) (pc := 23) (As := [.int 1]) (a := 0) fX11_error wRX11_103 (lk_0 hly) (by decide) rfl rfl rfl (Nat.le_trans (by decide) hd) (Nat.le_of_ble_eq_true rfl) ⟨by omega, by omega⟩ dX11_listed_23 rfl (sm_monoI h (fun r_6 m_5 h => ?_))
        refine sm_widen (k := 4) (n := 4096) (by omega) (by omega) ?_
        exact sm_iret (Y := mX11_listed) (pc := 26) rfl rfl rfl dX11_listed_26 ⟨_, rfl, h⟩
      · replace h := h.2 hc
        refine sm_iload_n (Y := mX11_listed) (pc := 16) 3 3 rfl rfl dX11_listed_16 ?_
        refine sm_iconst (Y := mX11_listed) (pc := 17) 1 (by decide) dX11_listed_17 ?_
        refine sm_icmp_le (Y := mX11_listed) (pc := 18) 27 (by decide) dX11_listed_18 (fun hc => ?_) (fun hc => ?_)
        · replace h := h.1 hc
          refine sm_iload_n (Y := mX11_listed) (pc := 27) 3 3 rfl rfl dX11_listed_27 ?_
          refine sm_iconst (Y := mX11_listed) (pc := 28) (-1) (by decide) dX11_listed_28 ?_
          refine sm_icmp_ne (Y := mX11_listed) (pc := 29) 41 (by decide) dX11_listed_29 (fun hc => ?_) (fun hc => ?_)
          · replace h := h.1 hc
            refine sm_iload_n (Y := mX11_listed) (pc := 41) 2 2 rfl rfl dX11_listed_41 ?_
            refine sm_if_ge (Y := mX11_listed) (pc := 42) 51 (by decide) dX11_listed_42 (fun hc => ?_) (fun hc => ?_)
            · replace h := h.1 hc
              refine sm_iload_n (Y := mX11_listed) (pc := 51) 2 2 rfl rfl dX11_listed_51 ?_
              refine sm_aload_n (Y := mX11_listed) (pc := 52) 0 0 rfl rfl dX11_listed_52 ?_
              refine gf_RX11_63 (Y := mX11_listed) (pc := 53) (b := 68) rfl ((lk_0 hly) _) (lf_0_8 hly _) dX11_listed_53 ?_
              refine sm_iload_n (Y := mX11_listed) (pc := 56) 1 1 rfl rfl dX11_listed_56 ?_
              refine sm_iv_I (Y := mX11_listed) (pc := 57) (As := [.int x1]) (a := 68) fX5_lengthOf wRX11_312 (lk_68 hly) (by decide) rfl rfl rfl (Nat.le_trans (by decide) hd) (Nat.le_of_ble_eq_true rfl) ⟨by omega, by omega⟩ dX11_listed_57 rfl (sm_monoI h (fun r_8 m_7 h => ?_))
              refine sm_icmp_lt (Y := mX11_listed) (pc := 60) 69 (by decide) dX11_listed_60 (fun hc => ?_) (fun hc => ?_)
              · replace h := h.1 hc
                refine sm_iload_n (Y := mX11_listed) (pc := 69) 3 3 rfl rfl dX11_listed_69 ?_
                refine sm_if_ne (Y := mX11_listed) (pc := 70) 85 (by decide) dX11_listed_70 (fun hc => ?_) (fun hc => ?_)
                · replace h := h.1 hc
                  refine sm_aload_n (Y := mX11_listed) (pc := 85) 0 0 rfl rfl dX11_listed_85 ?_
                  refine gf_RX11_63 (Y := mX11_listed) (pc := 86) (b := 68) rfl ((lk_0 hly) _) (lf_0_8 hly _) dX11_listed_86 ?_
                  refine sm_iload_n (Y := mX11_listed) (pc := 89) 1 1 rfl rfl dX11_listed_89 ?_
                  refine sm_iload_n (Y := mX11_listed) (pc := 90) 2 2 rfl rfl dX11_listed_90 ?_
                  refine sm_iv_I (Y := mX11_listed) (pc := 91) (As := [.int x1, .int x2]) (a := 68) fX5_bottomAt wRX11_318 (lk_68 hly) (by decide) rfl rfl rfl (Nat.le_trans (by decide) hd) (Nat.le_of_ble_eq_true rfl) ⟨by omega, by omega⟩ dX11_listed_91 rfl (sm_monoI h (fun r_10 m_9 h => ?_))
                  refine sm_widen (k := 4) (n := 4096) (by omega) (by omega) ?_
                  exact sm_iret (Y := mX11_listed) (pc := 94) rfl rfl rfl dX11_listed_94 ⟨_, rfl, h⟩
                · replace h := h.2 hc
                  refine sm_aload_n (Y := mX11_listed) (pc := 73) 0 0 rfl rfl dX11_listed_73 ?_
                  refine gf_RX11_63 (Y := mX11_listed) (pc := 74) (b := 68) rfl ((lk_0 hly) _) (lf_0_8 hly _) dX11_listed_74 ?_
                  refine sm_iload_n (Y := mX11_listed) (pc := 77) 1 1 rfl rfl dX11_listed_77 ?_
                  refine sm_iload_n (Y := mX11_listed) (pc := 78) 2 2 rfl rfl dX11_listed_78 ?_
                  refine sm_iv_I (Y := mX11_listed) (pc := 79) (As := [.int x1, .int x2]) (a := 68) fX5_topAt wRX11_315 (lk_68 hly) (by decide) rfl rfl rfl (Nat.le_trans (by decide) hd) (Nat.le_of_ble_eq_true rfl) ⟨by omega, by omega⟩ dX11_listed_79 rfl (sm_monoI h (fun r_12 m_11 h => ?_))
                  refine sm_goto (Y := mX11_listed) (pc := 82) 94 (by decide) dX11_listed_82 ?_
                  refine sm_widen (k := 4) (n := 4096) (by omega) (by omega) ?_
                  exact sm_iret (Y := mX11_listed) (pc := 94) rfl rfl rfl dX11_listed_94 ⟨_, rfl, h⟩
              · replace h := h.2 hc
                refine sm_aload_n (Y := mX11_listed) (pc := 63) 0 0 rfl rfl dX11_listed_63 ?_
                refine sm_iconst (Y := mX11_listed) (pc := 64) 2 (by decide) dX11_listed_64 ?_
                refine sm_iv_I (Y := mX11_listed) (pc := 65) (As := [.int 2]) (a := 0) fX11_error wRX11_103 (lk_0 hly) (by decide) rfl rfl rfl (Nat.le_trans (by decide) hd) (Nat.le_of_ble_eq_true rfl) ⟨by omega, by omega⟩ dX11_listed_65 rfl (sm_monoI h (fun r_14 m_13 h => ?_))
                refine sm_widen (k := 4) (n := 4096) (by omega) (by omega) ?_
                exact sm_iret (Y := mX11_listed) (pc := 68) rfl rfl rfl dX11_listed_68 ⟨_, rfl, h⟩
            · replace h := h.2 hc
              refine sm_aload_n (Y := mX11_listed) (pc := 45) 0 0 rfl rfl dX11_listed_45 ?_
              refine sm_iconst (Y := mX11_listed) (pc := 46) 1 (by decide) dX11_listed_46 ?_
              refine sm_iv_I (Y := mX11_listed) (pc := 47) (As := [.int 1]) (a := 0) fX11_error wRX11_103 (lk_0 hly) (by decide) rfl rfl rfl (Nat.le_trans (by decide) hd) (Nat.le_of_ble_eq_true rfl) ⟨by omega, by omega⟩ dX11_listed_47 rfl (sm_monoI h (fun r_16 m_15 h => ?_))
              refine sm_widen (k := 4) (n := 4096) (by omega) (by omega) ?_
              exact sm_iret (Y := mX11_listed) (pc := 50) rfl rfl rfl dX11_listed_50 ⟨_, rfl, h⟩
          · replace h := h.2 hc
            refine sm_aload_n (Y := mX11_listed) (pc := 32) 0 0 rfl rfl dX11_listed_32 ?_
            refine gf_RX11_63 (Y := mX11_listed) (pc := 33) (b := 68) rfl ((lk_0 hly) _) (lf_0_8 hly _) dX11_listed_33 ?_
            refine sm_iload_n (Y := mX11_listed) (pc := 36) 1 1 rfl rfl dX11_listed_36 ?_
            refine sm_iv_I (Y := mX11_listed) (pc := 37) (As := [.int x1]) (a := 68) fX5_lengthOf wRX11_312 (lk_68 hly) (by decide) rfl rfl rfl (Nat.le_trans (by decide) hd) (Nat.le_of_ble_eq_true rfl) ⟨by omega, by omega⟩ dX11_listed_37 rfl (sm_monoI h (fun r_18 m_17 h => ?_))
            refine sm_widen (k := 4) (n := 4096) (by omega) (by omega) ?_
            exact sm_iret (Y := mX11_listed) (pc := 40) rfl rfl rfl dX11_listed_40 ⟨_, rfl, h⟩
        · replace h := h.2 hc
          refine sm_aload_n (Y := mX11_listed) (pc := 21) 0 0 rfl rfl dX11_listed_21 ?_
          refine sm_iconst (Y := mX11_listed) (pc := 22) 1 (by decide) dX11_listed_22 ?_
          refine sm_iv_I (Y := mX11_listed) (pc := 23) (As := [.int 1]) (a := 0) fX11_error wRX11_103 (lk_0 hly) (by decide) rfl rfl rfl (Nat.le_trans (by decide) hd) (Nat.le_of_ble_eq_true rfl) ⟨by omega, by omega⟩ dX11_listed_23 rfl (sm_monoI h (fun r_20 m_19 h => ?_))
          refine sm_widen (k := 4) (n := 4096) (by omega) (by omega) ?_
          exact sm_iret (Y := mX11_listed) (pc := 26) rfl rfl rfl dX11_listed_26 ⟨_, rfl, h⟩
