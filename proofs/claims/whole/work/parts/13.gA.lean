abbrev mX3_divisorOf : sm_Y := (yX3_divisorOf, cX3_divisorOf, 6, (some FieldType.int))
theorem fX3_divisorOf : sm_mt mX3_divisorOf 2 := ⟨sm_in 481 (by decide +kernel) (by decide +kernel), sm_in 480 (by decide +kernel) (by decide +kernel), sm_in 94 (by decide +kernel) (by decide +kernel), ⟨by decide +kernel, by decide +kernel, by decide +kernel⟩, by decide⟩
def gX3_divisorOf_13 (E : sm_E) (L : sm_S → Prop) (d : Nat) (vs : List Value) (x2 : Int32) (x3 : Int32) (x4 : Int32) (m : sm_M) (Q : Int32 → sm_M → Prop) : Prop := sm_go E L mX3_divisorOf d 0 0 vs 13 [(2, .int x2), (3, .int x3), (4, .int x4)] [] m 0 0 (sm_Z E L vs 0 0 (sm_QI Q))
theorem dX3_divisorOf_13 : decode cX3_divisorOf 13 = .ok (.iload 4, 2) := dk_iload 4 (b := 4) (by decide +kernel) (by decide +kernel) (by decide +kernel)
theorem wRX3_17 : Cond.constant RX3 17 1000000 ∈ sm_T := sm_in 483 (by decide +kernel) (by decide +kernel)
theorem dX3_divisorOf_15 : decode cX3_divisorOf 15 = .ok (.ldc 17, 2) := dk_ldc 17 (b := 17) (by decide +kernel) (by decide +kernel) (by decide +kernel)
theorem dX3_divisorOf_17 : decode cX3_divisorOf 17 = .ok (.if_icmp .ge 23, 3) := dk_if_icmp_ge 23 (b1 := 0) (b2 := 23) (by decide +kernel) (by decide +kernel) (by decide +kernel) (by decide +kernel)
theorem dX3_divisorOf_40 : decode cX3_divisorOf 40 = .ok (.iload_n 2, 1) := dk_iload_n_2 (by decide +kernel)
theorem dX3_divisorOf_41 : decode cX3_divisorOf 41 = .ok (.ireturn, 1) := dk_ireturn (by decide +kernel)
theorem dX3_divisorOf_20 : decode cX3_divisorOf 20 = .ok (.iload_n 3, 1) := dk_iload_n_3 (by decide +kernel)
theorem dX3_divisorOf_21 : decode cX3_divisorOf 21 = .ok (.ifCond .eq 19, 3) := dk_ifCond_eq 19 (b1 := 0) (b2 := 19) (by decide +kernel) (by decide +kernel) (by decide +kernel) (by decide +kernel)
theorem dX3_divisorOf_24 : decode cX3_divisorOf 24 = .ok (.iload_n 2, 1) := dk_iload_n_2 (by decide +kernel)
theorem dX3_divisorOf_25 : decode cX3_divisorOf 25 = .ok (.iload_n 3, 1) := dk_iload_n_3 (by decide +kernel)
theorem dX3_divisorOf_26 : decode cX3_divisorOf 26 = .ok (.irem, 1) := dk_irem (by decide +kernel)
theorem dX3_divisorOf_27 : decode cX3_divisorOf 27 = .ok (.istore 5, 2) := dk_istore 5 (b := 5) (by decide +kernel) (by decide +kernel) (by decide +kernel)
theorem dX3_divisorOf_29 : decode cX3_divisorOf 29 = .ok (.iload_n 3, 1) := dk_iload_n_3 (by decide +kernel)
theorem dX3_divisorOf_30 : decode cX3_divisorOf 30 = .ok (.istore_n 2, 1) := dk_istore_n_2 (by decide +kernel)
theorem dX3_divisorOf_31 : decode cX3_divisorOf 31 = .ok (.iload 5, 2) := dk_iload 5 (b := 5) (by decide +kernel) (by decide +kernel) (by decide +kernel)
theorem dX3_divisorOf_33 : decode cX3_divisorOf 33 = .ok (.istore_n 3, 1) := dk_istore_n_3 (by decide +kernel)
theorem dX3_divisorOf_34 : decode cX3_divisorOf 34 = .ok (.iinc 4 1, 3) := dk_iinc 4 1 (b1 := 4) (b2 := 1) (by decide +kernel) (by decide +kernel) (by decide +kernel) (by decide +kernel) (by decide +kernel)
theorem dX3_divisorOf_37 : decode cX3_divisorOf 37 = .ok (.goto (-24), 3) := dk_goto (-24) (b1 := 255) (b2 := 232) (by decide +kernel) (by decide +kernel) (by decide +kernel) (by decide +kernel)
set_option maxRecDepth 20000 in
theorem vX3_divisorOf_13 {E : sm_E} {L : sm_S → Prop} {d : Nat} {vs : List Value} {x2 : Int32} {x3 : Int32} {x4 : Int32}  {m : sm_M} {Q : Int32 → sm_M → Prop}  (hd : 2 ≤ d) 
  (h : (1000000 ≤ x4 →
      Q x2 m) ∧
   (¬ 1000000 ≤ x4 →
      (x3 = 0 →
         Q x2 m) ∧
      (¬ x3 = 0 →
         (¬ x3 = 0) ∧ ∀ x5_2 : Int32, x5_2 = sm_rem x2 x3 →
         ∀ x4_5 : Int32, x4_5 = x4 + 1 →
         gX3_divisorOf_13 E L d vs x3 x5_2 x4_5 m Q))) :
  gX3_divisorOf_13 E L d vs x2 x3 x4 m Q := by
  refine sm_iload (Y := mX3_divisorOf) (pc := 13) 2 4 rfl dX3_divisorOf_13 ?_
  refine sm_ldc (Y := mX3_divisorOf) (pc := 15) 1000000 wRX3_17 dX3_divisorOf_15 ?_
  refine sm_icmp_ge (Y := mX3_divisorOf) (pc := 17) 40 (by decide) dX3_divisorOf_17 (fun hc => ?_) (fun hc => ?_)
  · replace h := h.1 hc
    refine sm_iload_n (Y := mX3_divisorOf) (pc := 40) 0 2 rfl rfl dX3_divisorOf_40 ?_
    exact sm_iret (Y := mX3_divisorOf) (pc := 41) rfl rfl rfl dX3_divisorOf_41 ⟨_, rfl, h⟩
  · replace h := h.2 hc
    refine sm_iload_n (Y := mX3_divisorOf) (pc := 20) 1 3 rfl rfl dX3_divisorOf_20 ?_
    refine sm_if_eq (Y := mX3_divisorOf) (pc := 21) 40 (by decide) dX3_divisorOf_21 (fun hc => ?_) (fun hc => ?_)
    · replace h := h.1 hc
      refine sm_iload_n (Y := mX3_divisorOf) (pc := 40) 0 2 rfl rfl dX3_divisorOf_40 ?_
      exact sm_iret (Y := mX3_divisorOf) (pc := 41) rfl rfl rfl dX3_divisorOf_41 ⟨_, rfl, h⟩
    · replace h := h.2 hc
      refine sm_iload_n (Y := mX3_divisorOf) (pc := 24) 0 2 rfl rfl dX3_divisorOf_24 ?_
      refine sm_iload_n (Y := mX3_divisorOf) (pc := 25) 1 3 rfl rfl dX3_divisorOf_25 ?_
      obtain ⟨hn_1, h⟩ := h
      refine sm_irem (Y := mX3_divisorOf) (pc := 26) hn_1 dX3_divisorOf_26 ?_
      refine sm_istore (Y := mX3_divisorOf) (pc := 27) (fun y => [(5, .int y), (2, .int x2), (3, .int x3), (4, .int x4)]) 5 (by decide) (fun _ => rfl) dX3_divisorOf_27 (fun x5_2 ex5_2 => ?_)
      replace h := h x5_2 ex5_2
      refine sm_iload_n (Y := mX3_divisorOf) (pc := 29) 2 3 rfl rfl dX3_divisorOf_29 ?_
      refine sm_istore0_n (Y := mX3_divisorOf) (pc := 30) [(2, .int x3), (5, .int x5_2), (3, .int x3), (4, .int x4)] 2 rfl (by decide) rfl dX3_divisorOf_30 ?_
      refine sm_iload (Y := mX3_divisorOf) (pc := 31) 1 5 rfl dX3_divisorOf_31 ?_
      refine sm_istore0_n (Y := mX3_divisorOf) (pc := 33) [(3, .int x5_2), (2, .int x3), (5, .int x5_2), (4, .int x4)] 3 rfl (by decide) rfl dX3_divisorOf_33 ?_
      refine sm_iinc (Y := mX3_divisorOf) (pc := 34) (fun y => [(4, .int y), (3, .int x5_2), (2, .int x3), (5, .int x5_2)]) 3 4 rfl (by decide) (fun _ => rfl) dX3_divisorOf_34 (fun x4_5 ex4_5 => ?_)
      replace h := h x4_5 ex4_5
      refine sm_goto (Y := mX3_divisorOf) (pc := 37) 13 (by decide) dX3_divisorOf_37 ?_
      refine sm_sub [2, 1, 0] rfl ?_
      exact h
theorem dX3_divisorOf_0 : decode cX3_divisorOf 0 = .ok (.iload_n 0, 1) := dk_iload_n_0 (by decide +kernel)
theorem wRX3_9 : Cond.methodLink RX3 9 yJ9_abs_0f7a4 ∈ sm_T := sm_in 482 (by decide +kernel) (by decide +kernel)
theorem dX3_divisorOf_1 : decode cX3_divisorOf 1 = .ok (.invokestatic 9, 3) := dk_invokestatic 9 (b1 := 0) (b2 := 9) (by decide +kernel) (by decide +kernel) (by decide +kernel) (by decide +kernel)
theorem dX3_divisorOf_4 : decode cX3_divisorOf 4 = .ok (.istore_n 2, 1) := dk_istore_n_2 (by decide +kernel)
theorem dX3_divisorOf_5 : decode cX3_divisorOf 5 = .ok (.iload_n 1, 1) := dk_iload_n_1 (by decide +kernel)
theorem dX3_divisorOf_6 : decode cX3_divisorOf 6 = .ok (.invokestatic 9, 3) := dk_invokestatic 9 (b1 := 0) (b2 := 9) (by decide +kernel) (by decide +kernel) (by decide +kernel) (by decide +kernel)
theorem dX3_divisorOf_9 : decode cX3_divisorOf 9 = .ok (.istore_n 3, 1) := dk_istore_n_3 (by decide +kernel)
theorem dX3_divisorOf_10 : decode cX3_divisorOf 10 = .ok (.iconst 0, 1) := dk_iconst_0 (by decide +kernel)
theorem dX3_divisorOf_11 : decode cX3_divisorOf 11 = .ok (.istore 4, 2) := dk_istore 4 (b := 4) (by decide +kernel) (by decide +kernel) (by decide +kernel)
set_option maxRecDepth 20000 in
theorem vX3_divisorOf_0 {E : sm_E} {L : sm_S → Prop} {d : Nat} {x0 : Int32} {x1 : Int32}  {m : sm_M} {Q : Int32 → sm_M → Prop}  (hd : 2 ≤ d) 
  (h : sm_callI E L mJ9_abs_0f7a4 1 0 0 [.int x0] m (fun r_2 m_1 =>
   sm_callI E L mJ9_abs_0f7a4 1 0 0 [.int x1] m_1 (fun r_5 m_4 =>
   gX3_divisorOf_13 E L d ([.int x0, .int x1]) r_2 r_5 0 m_4 Q))) :
  sm_callI E L mX3_divisorOf d 0 0 [.int x0, .int x1] m Q := by
  refine sm_enter (by decide +kernel) (by simp [lg_sl, Value.category]) ?_
  refine sm_iload_n (Y := mX3_divisorOf) (pc := 0) 0 0 rfl rfl dX3_divisorOf_0 ?_
  refine sm_is_I (Y := mX3_divisorOf) (pc := 1) (As := [.int x0]) fJ9_abs_0f7a4 wRX3_9 rfl (Nat.le_trans (by decide) hd) (Nat.le_of_ble_eq_true rfl) ⟨Nat.le_refl _, Nat.le_refl _⟩ dX3_divisorOf_1 rfl (sm_monoI h (fun r_2 m_1 h => ?_))
  refine sm_istore0_n (Y := mX3_divisorOf) (pc := 4) [(2, .int r_2), (0, .int x0), (1, .int x1)] 2 rfl (by decide) rfl dX3_divisorOf_4 ?_
  refine sm_iload_n (Y := mX3_divisorOf) (pc := 5) 2 1 rfl rfl dX3_divisorOf_5 ?_
  refine sm_is_I (Y := mX3_divisorOf) (pc := 6) (As := [.int x1]) fJ9_abs_0f7a4 wRX3_9 rfl (Nat.le_trans (by decide) hd) (Nat.le_of_ble_eq_true rfl) ⟨Nat.le_refl _, Nat.le_refl _⟩ dX3_divisorOf_6 rfl (sm_monoI h (fun r_5 m_4 h => ?_))
  refine sm_istore0_n (Y := mX3_divisorOf) (pc := 9) [(3, .int r_5), (2, .int r_2), (0, .int x0), (1, .int x1)] 3 rfl (by decide) rfl dX3_divisorOf_9 ?_
  refine sm_iconst (Y := mX3_divisorOf) (pc := 10) 0 (by decide) dX3_divisorOf_10 ?_
  refine sm_istore0 (Y := mX3_divisorOf) (pc := 11) [(4, .int 0), (3, .int r_5), (2, .int r_2), (0, .int x0), (1, .int x1)] 4 (by decide) rfl dX3_divisorOf_11 ?_
  refine sm_sub [2, 1, 0] rfl ?_
  exact h
abbrev mX3_danced : sm_Y := (yX3_danced, cX3_danced, 12, (some FieldType.int))
theorem fX3_danced : sm_mt mX3_danced 3 := ⟨sm_in 703 (by decide +kernel) (by decide +kernel), sm_in 702 (by decide +kernel) (by decide +kernel), sm_in 94 (by decide +kernel) (by decide +kernel), ⟨by decide +kernel, by decide +kernel, by decide +kernel⟩, by decide⟩
def gX3_danced_154 (E : sm_E) (L : sm_S → Prop) (d : Nat) (vs : List Value) (x2 : Int32) (x3 : Int32) (x4 : Int32) (x5 : Int32) (x6 : Int32) (x7 : Int32) (x8 : Int32) (x9 : Int32) (x10 : Int32) (m : sm_M) (Q : Int32 → sm_M → Prop) : Prop := sm_go E L mX3_danced d 0 0 vs 154 [(2, .int x2), (3, .int x3), (4, .int x4), (5, .int x5), (6, .int x6), (7, .int x7), (8, .int x8), (9, .int x9), (10, .int x10)] [] m 0 0 (sm_Z E L vs 0 0 (sm_QI Q))
def gX3_danced_114 (E : sm_E) (L : sm_S → Prop) (d : Nat) (vs : List Value) (x2 : Int32) (x3 : Int32) (x4 : Int32) (x5 : Int32) (x6 : Int32) (x7 : Int32) (x8 : Int32) (s0 : Int32) (m : sm_M) (Q : Int32 → sm_M → Prop) : Prop := sm_go E L mX3_danced d 0 0 vs 114 [(2, .int x2), (3, .int x3), (4, .int x4), (5, .int x5), (6, .int x6), (7, .int x7), (8, .int x8)] [.int s0] m 0 0 (sm_Z E L vs 0 0 (sm_QI Q))
def gX3_danced_63 (E : sm_E) (L : sm_S → Prop) (d : Nat) (vs : List Value) (x2 : Int32) (x3 : Int32) (x4 : Int32) (x5 : Int32) (x6 : Int32) (m : sm_M) (Q : Int32 → sm_M → Prop) : Prop := sm_go E L mX3_danced d 0 0 vs 63 [(2, .int x2), (3, .int x3), (4, .int x4), (5, .int x5), (6, .int x6)] [] m 0 0 (sm_Z E L vs 0 0 (sm_QI Q))
def gX3_danced_50 (E : sm_E) (L : sm_S → Prop) (d : Nat) (vs : List Value) (x0 : Int32) (x1 : Int32) (x2 : Int32) (x3 : Int32) (m : sm_M) (Q : Int32 → sm_M → Prop) : Prop := sm_go E L mX3_danced d 0 0 vs 50 [(0, .int x0), (1, .int x1), (2, .int x2), (3, .int x3)] [] m 0 0 (sm_Z E L vs 0 0 (sm_QI Q))
theorem dX3_danced_154 : decode cX3_danced 154 = .ok (.iload_n 3, 1) := dk_iload_n_3 (by decide +kernel)
theorem dX3_danced_155 : decode cX3_danced 155 = .ok (.iload 10, 2) := dk_iload 10 (b := 10) (by decide +kernel) (by decide +kernel) (by decide +kernel)
theorem dX3_danced_157 : decode cX3_danced 157 = .ok (.iadd, 1) := dk_iadd (by decide +kernel)
theorem dX3_danced_158 : decode cX3_danced 158 = .ok (.istore_n 3, 1) := dk_istore_n_3 (by decide +kernel)
theorem dX3_danced_159 : decode cX3_danced 159 = .ok (.iload 7, 2) := dk_iload 7 (b := 7) (by decide +kernel) (by decide +kernel) (by decide +kernel)
theorem dX3_danced_161 : decode cX3_danced 161 = .ok (.iconst 2, 1) := dk_iconst_2 (by decide +kernel)
theorem dX3_danced_162 : decode cX3_danced 162 = .ok (.if_icmp .ne 23, 3) := dk_if_icmp_ne 23 (b1 := 0) (b2 := 23) (by decide +kernel) (by decide +kernel) (by decide +kernel) (by decide +kernel)
theorem dX3_danced_185 : decode cX3_danced 185 = .ok (.iload 4, 2) := dk_iload 4 (b := 4) (by decide +kernel) (by decide +kernel) (by decide +kernel)
theorem dX3_danced_187 : decode cX3_danced 187 = .ok (.istore 11, 2) := dk_istore 11 (b := 11) (by decide +kernel) (by decide +kernel) (by decide +kernel)
theorem dX3_danced_189 : decode cX3_danced 189 = .ok (.iload 7, 2) := dk_iload 7 (b := 7) (by decide +kernel) (by decide +kernel) (by decide +kernel)
theorem dX3_danced_191 : decode cX3_danced 191 = .ok (.iload 4, 2) := dk_iload 4 (b := 4) (by decide +kernel) (by decide +kernel) (by decide +kernel)
theorem dX3_danced_193 : decode cX3_danced 193 = .ok (.imul, 1) := dk_imul (by decide +kernel)
theorem dX3_danced_194 : decode cX3_danced 194 = .ok (.iload 5, 2) := dk_iload 5 (b := 5) (by decide +kernel) (by decide +kernel) (by decide +kernel)
theorem dX3_danced_196 : decode cX3_danced 196 = .ok (.isub, 1) := dk_isub (by decide +kernel)
theorem dX3_danced_197 : decode cX3_danced 197 = .ok (.istore 4, 2) := dk_istore 4 (b := 4) (by decide +kernel) (by decide +kernel) (by decide +kernel)
theorem dX3_danced_199 : decode cX3_danced 199 = .ok (.iload 11, 2) := dk_iload 11 (b := 11) (by decide +kernel) (by decide +kernel) (by decide +kernel)
theorem dX3_danced_201 : decode cX3_danced 201 = .ok (.istore 5, 2) := dk_istore 5 (b := 5) (by decide +kernel) (by decide +kernel) (by decide +kernel)
theorem dX3_danced_203 : decode cX3_danced 203 = .ok (.iinc 6 1, 3) := dk_iinc 6 1 (b1 := 6) (b2 := 1) (by decide +kernel) (by decide +kernel) (by decide +kernel) (by decide +kernel) (by decide +kernel)
theorem dX3_danced_206 : decode cX3_danced 206 = .ok (.goto (-143), 3) := dk_goto (-143) (b1 := 255) (b2 := 113) (by decide +kernel) (by decide +kernel) (by decide +kernel) (by decide +kernel)
theorem dX3_danced_165 : decode cX3_danced 165 = .ok (.iload 4, 2) := dk_iload 4 (b := 4) (by decide +kernel) (by decide +kernel) (by decide +kernel)
theorem dX3_danced_167 : decode cX3_danced 167 = .ok (.iload 9, 2) := dk_iload 9 (b := 9) (by decide +kernel) (by decide +kernel) (by decide +kernel)
theorem dX3_danced_169 : decode cX3_danced 169 = .ok (.iload 8, 2) := dk_iload 8 (b := 8) (by decide +kernel) (by decide +kernel) (by decide +kernel)
theorem dX3_danced_171 : decode cX3_danced 171 = .ok (.imul, 1) := dk_imul (by decide +kernel)
theorem dX3_danced_172 : decode cX3_danced 172 = .ok (.isub, 1) := dk_isub (by decide +kernel)
theorem dX3_danced_173 : decode cX3_danced 173 = .ok (.istore 4, 2) := dk_istore 4 (b := 4) (by decide +kernel) (by decide +kernel) (by decide +kernel)
theorem dX3_danced_175 : decode cX3_danced 175 = .ok (.iload 4, 2) := dk_iload 4 (b := 4) (by decide +kernel) (by decide +kernel) (by decide +kernel)
theorem dX3_danced_177 : decode cX3_danced 177 = .ok (.iload 8, 2) := dk_iload 8 (b := 8) (by decide +kernel) (by decide +kernel) (by decide +kernel)
theorem dX3_danced_179 : decode cX3_danced 179 = .ok (.iadd, 1) := dk_iadd (by decide +kernel)
theorem dX3_danced_180 : decode cX3_danced 180 = .ok (.istore 5, 2) := dk_istore 5 (b := 5) (by decide +kernel) (by decide +kernel) (by decide +kernel)
theorem dX3_danced_182 : decode cX3_danced 182 = .ok (.goto 21, 3) := dk_goto 21 (b1 := 0) (b2 := 21) (by decide +kernel) (by decide +kernel) (by decide +kernel) (by decide +kernel)
set_option maxRecDepth 20000 in
theorem vX3_danced_154 {E : sm_E} {L : sm_S → Prop} {d : Nat} {vs : List Value} {x2 : Int32} {x3 : Int32} {x4 : Int32} {x5 : Int32} {x6 : Int32} {x7 : Int32} {x8 : Int32} {x9 : Int32} {x10 : Int32}  {m : sm_M} {Q : Int32 → sm_M → Prop}  (hd : 1 ≤ d) 
  (h : ∀ x3_1 : Int32, x3_1 = x3 + x10 →
   (¬ x7 = 2 →
      ∀ x4_3 : Int32, x4_3 = (x7 * x4) - x5 →
      ∀ x6_5 : Int32, x6_5 = x6 + 1 →
      gX3_danced_63 E L d vs x2 x3_1 x4_3 x4 x6_5 m Q) ∧
   (x7 = 2 →
      ∀ x4_6 : Int32, x4_6 = x4 - (x9 * x8) →
      ∀ x5_7 : Int32, x5_7 = x4_6 + x8 →
      ∀ x6_8 : Int32, x6_8 = x6 + 1 →
      gX3_danced_63 E L d vs x2 x3_1 x4_6 x5_7 x6_8 m Q)) :
  gX3_danced_154 E L d vs x2 x3 x4 x5 x6 x7 x8 x9 x10 m Q := by
  refine sm_iload_n (Y := mX3_danced) (pc := 154) 1 3 rfl rfl dX3_danced_154 ?_
  refine sm_iload (Y := mX3_danced) (pc := 155) 8 10 rfl dX3_danced_155 ?_
  refine sm_iadd (Y := mX3_danced) (pc := 157) dX3_danced_157 ?_
  refine sm_istore_n (Y := mX3_danced) (pc := 158) (fun y => [(3, .int y), (2, .int x2), (4, .int x4), (5, .int x5), (6, .int x6), (7, .int x7), (8, .int x8), (9, .int x9), (10, .int x10)]) 3 rfl (by decide) (fun _ => rfl) dX3_danced_158 (fun x3_1 ex3_1 => ?_)
  replace h := h x3_1 ex3_1
  refine sm_iload (Y := mX3_danced) (pc := 159) 5 7 rfl dX3_danced_159 ?_
  refine sm_iconst (Y := mX3_danced) (pc := 161) 2 (by decide) dX3_danced_161 ?_
  refine sm_icmp_ne (Y := mX3_danced) (pc := 162) 185 (by decide) dX3_danced_162 (fun hc => ?_) (fun hc => ?_)
  · replace h := h.1 hc
    refine sm_iload (Y := mX3_danced) (pc := 185) 2 4 rfl dX3_danced_185 ?_
    refine sm_istore0 (Y := mX3_danced) (pc := 187) [(11, .int x4), (3, .int x3_1), (2, .int x2), (4, .int x4), (5, .int x5), (6, .int x6), (7, .int x7), (8, .int x8), (9, .int x9), (10, .int x10)] 11 (by decide) rfl dX3_danced_187 ?_
    refine sm_iload (Y := mX3_danced) (pc := 189) 6 7 rfl dX3_danced_189 ?_
    refine sm_iload (Y := mX3_danced) (pc := 191) 3 4 rfl dX3_danced_191 ?_
    refine sm_imul (Y := mX3_danced) (pc := 193) dX3_danced_193 ?_
    refine sm_iload (Y := mX3_danced) (pc := 194) 4 5 rfl dX3_danced_194 ?_
    refine sm_isub (Y := mX3_danced) (pc := 196) dX3_danced_196 ?_
    refine sm_istore (Y := mX3_danced) (pc := 197) (fun y => [(4, .int y), (11, .int x4), (3, .int x3_1), (2, .int x2), (5, .int x5), (6, .int x6), (7, .int x7), (8, .int x8), (9, .int x9), (10, .int x10)]) 4 (by decide) (fun _ => rfl) dX3_danced_197 (fun x4_3 ex4_3 => ?_)
    replace h := h x4_3 ex4_3
    refine sm_iload (Y := mX3_danced) (pc := 199) 1 11 rfl dX3_danced_199 ?_
    refine sm_istore0 (Y := mX3_danced) (pc := 201) [(5, .int x4), (4, .int x4_3), (11, .int x4), (3, .int x3_1), (2, .int x2), (6, .int x6), (7, .int x7), (8, .int x8), (9, .int x9), (10, .int x10)] 5 (by decide) rfl dX3_danced_201 ?_
    refine sm_iinc (Y := mX3_danced) (pc := 203) (fun y => [(6, .int y), (5, .int x4), (4, .int x4_3), (11, .int x4), (3, .int x3_1), (2, .int x2), (7, .int x7), (8, .int x8), (9, .int x9), (10, .int x10)]) 5 6 rfl (by decide) (fun _ => rfl) dX3_danced_203 (fun x6_5 ex6_5 => ?_)
    replace h := h x6_5 ex6_5
    refine sm_goto (Y := mX3_danced) (pc := 206) 63 (by decide) dX3_danced_206 ?_
    refine sm_sub [5, 4, 2, 1, 0] rfl ?_
    exact h
  · replace h := h.2 hc
    refine sm_iload (Y := mX3_danced) (pc := 165) 2 4 rfl dX3_danced_165 ?_
    refine sm_iload (Y := mX3_danced) (pc := 167) 7 9 rfl dX3_danced_167 ?_
    refine sm_iload (Y := mX3_danced) (pc := 169) 6 8 rfl dX3_danced_169 ?_
    refine sm_imul (Y := mX3_danced) (pc := 171) dX3_danced_171 ?_
    refine sm_isub (Y := mX3_danced) (pc := 172) dX3_danced_172 ?_
    refine sm_istore (Y := mX3_danced) (pc := 173) (fun y => [(4, .int y), (3, .int x3_1), (2, .int x2), (5, .int x5), (6, .int x6), (7, .int x7), (8, .int x8), (9, .int x9), (10, .int x10)]) 4 (by decide) (fun _ => rfl) dX3_danced_173 (fun x4_6 ex4_6 => ?_)
    replace h := h x4_6 ex4_6
    refine sm_iload (Y := mX3_danced) (pc := 175) 0 4 rfl dX3_danced_175 ?_
    refine sm_iload (Y := mX3_danced) (pc := 177) 6 8 rfl dX3_danced_177 ?_
    refine sm_iadd (Y := mX3_danced) (pc := 179) dX3_danced_179 ?_
    refine sm_istore (Y := mX3_danced) (pc := 180) (fun y => [(5, .int y), (4, .int x4_6), (3, .int x3_1), (2, .int x2), (6, .int x6), (7, .int x7), (8, .int x8), (9, .int x9), (10, .int x10)]) 5 (by decide) (fun _ => rfl) dX3_danced_180 (fun x5_7 ex5_7 => ?_)
    replace h := h x5_7 ex5_7
    refine sm_goto (Y := mX3_danced) (pc := 182) 203 (by decide) dX3_danced_182 ?_
    refine sm_iinc (Y := mX3_danced) (pc := 203) (fun y => [(6, .int y), (5, .int x5_7), (4, .int x4_6), (3, .int x3_1), (2, .int x2), (7, .int x7), (8, .int x8), (9, .int x9), (10, .int x10)]) 4 6 rfl (by decide) (fun _ => rfl) dX3_danced_203 (fun x6_8 ex6_8 => ?_)
    replace h := h x6_8 ex6_8
    refine sm_goto (Y := mX3_danced) (pc := 206) 63 (by decide) dX3_danced_206 ?_
    refine sm_sub [4, 3, 2, 1, 0] rfl ?_
    exact h
theorem dX3_danced_114 : decode cX3_danced 114 = .ok (.istore 9, 2) := dk_istore 9 (b := 9) (by decide +kernel) (by decide +kernel) (by decide +kernel)
theorem dX3_danced_116 : decode cX3_danced 116 = .ok (.iload 9, 2) := dk_iload 9 (b := 9) (by decide +kernel) (by decide +kernel) (by decide +kernel)
theorem dX3_danced_118 : decode cX3_danced 118 = .ok (.iload 7, 2) := dk_iload 7 (b := 7) (by decide +kernel) (by decide +kernel) (by decide +kernel)
theorem dX3_danced_120 : decode cX3_danced 120 = .ok (.iconst 1, 1) := dk_iconst_1 (by decide +kernel)
theorem dX3_danced_121 : decode cX3_danced 121 = .ok (.iadd, 1) := dk_iadd (by decide +kernel)
theorem dX3_danced_122 : decode cX3_danced 122 = .ok (.imul, 1) := dk_imul (by decide +kernel)
theorem dX3_danced_123 : decode cX3_danced 123 = .ok (.istore 10, 2) := dk_istore 10 (b := 10) (by decide +kernel) (by decide +kernel) (by decide +kernel)
theorem dX3_danced_125 : decode cX3_danced 125 = .ok (.iload_n 2, 1) := dk_iload_n_2 (by decide +kernel)
theorem dX3_danced_126 : decode cX3_danced 126 = .ok (.ifCond .lt 28, 3) := dk_ifCond_lt 28 (b1 := 0) (b2 := 28) (by decide +kernel) (by decide +kernel) (by decide +kernel) (by decide +kernel)
theorem dX3_danced_129 : decode cX3_danced 129 = .ok (.iload_n 2, 1) := dk_iload_n_2 (by decide +kernel)
theorem dX3_danced_130 : decode cX3_danced 130 = .ok (.iload_n 3, 1) := dk_iload_n_3 (by decide +kernel)
theorem dX3_danced_131 : decode cX3_danced 131 = .ok (.iload 10, 2) := dk_iload 10 (b := 10) (by decide +kernel) (by decide +kernel) (by decide +kernel)
theorem dX3_danced_133 : decode cX3_danced 133 = .ok (.iadd, 1) := dk_iadd (by decide +kernel)
theorem dX3_danced_134 : decode cX3_danced 134 = .ok (.if_icmp .ge 20, 3) := dk_if_icmp_ge 20 (b1 := 0) (b2 := 20) (by decide +kernel) (by decide +kernel) (by decide +kernel) (by decide +kernel)
theorem dX3_danced_137 : decode cX3_danced 137 = .ok (.iload_n 2, 1) := dk_iload_n_2 (by decide +kernel)
theorem dX3_danced_138 : decode cX3_danced 138 = .ok (.iload_n 3, 1) := dk_iload_n_3 (by decide +kernel)
theorem dX3_danced_139 : decode cX3_danced 139 = .ok (.isub, 1) := dk_isub (by decide +kernel)
theorem dX3_danced_140 : decode cX3_danced 140 = .ok (.iload 7, 2) := dk_iload 7 (b := 7) (by decide +kernel) (by decide +kernel) (by decide +kernel)
theorem dX3_danced_142 : decode cX3_danced 142 = .ok (.iconst 1, 1) := dk_iconst_1 (by decide +kernel)
theorem dX3_danced_143 : decode cX3_danced 143 = .ok (.iadd, 1) := dk_iadd (by decide +kernel)
theorem dX3_danced_144 : decode cX3_danced 144 = .ok (.irem, 1) := dk_irem (by decide +kernel)
theorem dX3_danced_145 : decode cX3_danced 145 = .ok (.ifCond .ne 7, 3) := dk_ifCond_ne 7 (b1 := 0) (b2 := 7) (by decide +kernel) (by decide +kernel) (by decide +kernel) (by decide +kernel)
theorem dX3_danced_152 : decode cX3_danced 152 = .ok (.iconst 0, 1) := dk_iconst_0 (by decide +kernel)
theorem dX3_danced_153 : decode cX3_danced 153 = .ok (.ireturn, 1) := dk_ireturn (by decide +kernel)
theorem dX3_danced_148 : decode cX3_danced 148 = .ok (.iconst 2, 1) := dk_iconst_2 (by decide +kernel)
theorem dX3_danced_149 : decode cX3_danced 149 = .ok (.goto 4, 3) := dk_goto 4 (b1 := 0) (b2 := 4) (by decide +kernel) (by decide +kernel) (by decide +kernel) (by decide +kernel)
set_option maxRecDepth 20000 in
theorem vX3_danced_114 {E : sm_E} {L : sm_S → Prop} {d : Nat} {vs : List Value} {x2 : Int32} {x3 : Int32} {x4 : Int32} {x5 : Int32} {x6 : Int32} {x7 : Int32} {x8 : Int32} {s0 : Int32}  {m : sm_M} {Q : Int32 → sm_M → Prop}  (hd : 1 ≤ d) 
  (h : ∀ x10_2 : Int32, x10_2 = s0 * (x7 + 1) →
   (x2 < 0 →
      gX3_danced_154 E L d vs x2 x3 x4 x5 x6 x7 x8 s0 x10_2 m Q) ∧
   (¬ x2 < 0 →
      ((x3 + x10_2) ≤ x2 →
         gX3_danced_154 E L d vs x2 x3 x4 x5 x6 x7 x8 s0 x10_2 m Q) ∧
      (¬ (x3 + x10_2) ≤ x2 →
         (¬ (x7 + 1) = 0) ∧ (¬ (sm_rem (x2 - x3) (x7 + 1)) = 0 →
            Q 0 m) ∧
         ((sm_rem (x2 - x3) (x7 + 1)) = 0 →
            Q 2 m)))) :
  gX3_danced_114 E L d vs x2 x3 x4 x5 x6 x7 x8 s0 m Q := by
  refine sm_istore0 (Y := mX3_danced) (pc := 114) [(9, .int s0), (2, .int x2), (3, .int x3), (4, .int x4), (5, .int x5), (6, .int x6), (7, .int x7), (8, .int x8)] 9 (by decide) rfl dX3_danced_114 ?_
  refine sm_iload (Y := mX3_danced) (pc := 116) 0 9 rfl dX3_danced_116 ?_
  refine sm_iload (Y := mX3_danced) (pc := 118) 6 7 rfl dX3_danced_118 ?_
  refine sm_iconst (Y := mX3_danced) (pc := 120) 1 (by decide) dX3_danced_120 ?_
  refine sm_iadd (Y := mX3_danced) (pc := 121) dX3_danced_121 ?_
  refine sm_imul (Y := mX3_danced) (pc := 122) dX3_danced_122 ?_
  refine sm_istore (Y := mX3_danced) (pc := 123) (fun y => [(10, .int y), (9, .int s0), (2, .int x2), (3, .int x3), (4, .int x4), (5, .int x5), (6, .int x6), (7, .int x7), (8, .int x8)]) 10 (by decide) (fun _ => rfl) dX3_danced_123 (fun x10_2 ex10_2 => ?_)
  replace h := h x10_2 ex10_2
  refine sm_iload_n (Y := mX3_danced) (pc := 125) 2 2 rfl rfl dX3_danced_125 ?_
  refine sm_if_lt (Y := mX3_danced) (pc := 126) 154 (by decide) dX3_danced_126 (fun hc => ?_) (fun hc => ?_)
  · replace h := h.1 hc
    refine sm_sub [2, 3, 4, 5, 6, 7, 8, 1, 0] rfl ?_
    exact h
  · replace h := h.2 hc
    refine sm_iload_n (Y := mX3_danced) (pc := 129) 2 2 rfl rfl dX3_danced_129 ?_
    refine sm_iload_n (Y := mX3_danced) (pc := 130) 3 3 rfl rfl dX3_danced_130 ?_
    refine sm_iload (Y := mX3_danced) (pc := 131) 0 10 rfl dX3_danced_131 ?_
    refine sm_iadd (Y := mX3_danced) (pc := 133) dX3_danced_133 ?_
    refine sm_icmp_ge (Y := mX3_danced) (pc := 134) 154 (by decide) dX3_danced_134 (fun hc => ?_) (fun hc => ?_)
    · replace h := h.1 hc
      refine sm_sub [2, 3, 4, 5, 6, 7, 8, 1, 0] rfl ?_
      exact h
    · replace h := h.2 hc
      refine sm_iload_n (Y := mX3_danced) (pc := 137) 2 2 rfl rfl dX3_danced_137 ?_
      refine sm_iload_n (Y := mX3_danced) (pc := 138) 3 3 rfl rfl dX3_danced_138 ?_
      refine sm_isub (Y := mX3_danced) (pc := 139) dX3_danced_139 ?_
      refine sm_iload (Y := mX3_danced) (pc := 140) 7 7 rfl dX3_danced_140 ?_
      refine sm_iconst (Y := mX3_danced) (pc := 142) 1 (by decide) dX3_danced_142 ?_
      refine sm_iadd (Y := mX3_danced) (pc := 143) dX3_danced_143 ?_
      obtain ⟨hn_3, h⟩ := h
      refine sm_irem (Y := mX3_danced) (pc := 144) hn_3 dX3_danced_144 ?_
      refine sm_if_ne (Y := mX3_danced) (pc := 145) 152 (by decide) dX3_danced_145 (fun hc => ?_) (fun hc => ?_)
      · replace h := h.1 hc
        refine sm_iconst (Y := mX3_danced) (pc := 152) 0 (by decide) dX3_danced_152 ?_
        exact sm_iret (Y := mX3_danced) (pc := 153) rfl rfl rfl dX3_danced_153 ⟨_, rfl, h⟩
      · replace h := h.2 hc
        refine sm_iconst (Y := mX3_danced) (pc := 148) 2 (by decide) dX3_danced_148 ?_
        refine sm_goto (Y := mX3_danced) (pc := 149) 153 (by decide) dX3_danced_149 ?_
        exact sm_iret (Y := mX3_danced) (pc := 153) rfl rfl rfl dX3_danced_153 ⟨_, rfl, h⟩
theorem dX3_danced_63 : decode cX3_danced 63 = .ok (.iload 6, 2) := dk_iload 6 (b := 6) (by decide +kernel) (by decide +kernel) (by decide +kernel)
theorem dX3_danced_65 : decode cX3_danced 65 = .ok (.ldc 17, 2) := dk_ldc 17 (b := 17) (by decide +kernel) (by decide +kernel) (by decide +kernel)
theorem dX3_danced_67 : decode cX3_danced 67 = .ok (.if_icmp .ge 142, 3) := dk_if_icmp_ge 142 (b1 := 0) (b2 := 142) (by decide +kernel) (by decide +kernel) (by decide +kernel) (by decide +kernel)
theorem dX3_danced_209 : decode cX3_danced 209 = .ok (.iload_n 2, 1) := dk_iload_n_2 (by decide +kernel)
theorem dX3_danced_210 : decode cX3_danced 210 = .ok (.iconst (-1), 1) := dk_iconst_m1 (by decide +kernel)
theorem dX3_danced_211 : decode cX3_danced 211 = .ok (.if_icmp .ne 7, 3) := dk_if_icmp_ne 7 (b1 := 0) (b2 := 7) (by decide +kernel) (by decide +kernel) (by decide +kernel) (by decide +kernel)
theorem dX3_danced_218 : decode cX3_danced 218 = .ok (.iconst (-1), 1) := dk_iconst_m1 (by decide +kernel)
theorem dX3_danced_219 : decode cX3_danced 219 = .ok (.ireturn, 1) := dk_ireturn (by decide +kernel)
theorem dX3_danced_214 : decode cX3_danced 214 = .ok (.iload_n 3, 1) := dk_iload_n_3 (by decide +kernel)
theorem dX3_danced_215 : decode cX3_danced 215 = .ok (.goto 4, 3) := dk_goto 4 (b1 := 0) (b2 := 4) (by decide +kernel) (by decide +kernel) (by decide +kernel) (by decide +kernel)
theorem dX3_danced_70 : decode cX3_danced 70 = .ok (.iload 4, 2) := dk_iload 4 (b := 4) (by decide +kernel) (by decide +kernel) (by decide +kernel)
theorem dX3_danced_72 : decode cX3_danced 72 = .ok (.ifCond .le 137, 3) := dk_ifCond_le 137 (b1 := 0) (b2 := 137) (by decide +kernel) (by decide +kernel) (by decide +kernel) (by decide +kernel)
theorem dX3_danced_75 : decode cX3_danced 75 = .ok (.iload 5, 2) := dk_iload 5 (b := 5) (by decide +kernel) (by decide +kernel) (by decide +kernel)
theorem dX3_danced_77 : decode cX3_danced 77 = .ok (.iload 4, 2) := dk_iload 4 (b := 4) (by decide +kernel) (by decide +kernel) (by decide +kernel)
theorem dX3_danced_79 : decode cX3_danced 79 = .ok (.iadd, 1) := dk_iadd (by decide +kernel)
theorem dX3_danced_80 : decode cX3_danced 80 = .ok (.iconst 1, 1) := dk_iconst_1 (by decide +kernel)
theorem dX3_danced_81 : decode cX3_danced 81 = .ok (.isub, 1) := dk_isub (by decide +kernel)
theorem dX3_danced_82 : decode cX3_danced 82 = .ok (.iload 4, 2) := dk_iload 4 (b := 4) (by decide +kernel) (by decide +kernel) (by decide +kernel)
theorem dX3_danced_84 : decode cX3_danced 84 = .ok (.idiv, 1) := dk_idiv (by decide +kernel)
theorem dX3_danced_85 : decode cX3_danced 85 = .ok (.istore 7, 2) := dk_istore 7 (b := 7) (by decide +kernel) (by decide +kernel) (by decide +kernel)
theorem dX3_danced_87 : decode cX3_danced 87 = .ok (.iload 5, 2) := dk_iload 5 (b := 5) (by decide +kernel) (by decide +kernel) (by decide +kernel)
theorem dX3_danced_89 : decode cX3_danced 89 = .ok (.iload 4, 2) := dk_iload 4 (b := 4) (by decide +kernel) (by decide +kernel) (by decide +kernel)
theorem dX3_danced_91 : decode cX3_danced 91 = .ok (.isub, 1) := dk_isub (by decide +kernel)
theorem dX3_danced_92 : decode cX3_danced 92 = .ok (.istore 8, 2) := dk_istore 8 (b := 8) (by decide +kernel) (by decide +kernel) (by decide +kernel)
theorem dX3_danced_94 : decode cX3_danced 94 = .ok (.iload 7, 2) := dk_iload 7 (b := 7) (by decide +kernel) (by decide +kernel) (by decide +kernel)
theorem dX3_danced_96 : decode cX3_danced 96 = .ok (.iconst 2, 1) := dk_iconst_2 (by decide +kernel)
theorem dX3_danced_97 : decode cX3_danced 97 = .ok (.if_icmp .ne 16, 3) := dk_if_icmp_ne 16 (b1 := 0) (b2 := 16) (by decide +kernel) (by decide +kernel) (by decide +kernel) (by decide +kernel)
theorem dX3_danced_113 : decode cX3_danced 113 = .ok (.iconst 1, 1) := dk_iconst_1 (by decide +kernel)
theorem dX3_danced_100 : decode cX3_danced 100 = .ok (.iload 8, 2) := dk_iload 8 (b := 8) (by decide +kernel) (by decide +kernel) (by decide +kernel)
theorem dX3_danced_102 : decode cX3_danced 102 = .ok (.ifCond .le 11, 3) := dk_ifCond_le 11 (b1 := 0) (b2 := 11) (by decide +kernel) (by decide +kernel) (by decide +kernel) (by decide +kernel)
theorem dX3_danced_105 : decode cX3_danced 105 = .ok (.iload 4, 2) := dk_iload 4 (b := 4) (by decide +kernel) (by decide +kernel) (by decide +kernel)
theorem dX3_danced_107 : decode cX3_danced 107 = .ok (.iload 8, 2) := dk_iload 8 (b := 8) (by decide +kernel) (by decide +kernel) (by decide +kernel)
theorem dX3_danced_109 : decode cX3_danced 109 = .ok (.idiv, 1) := dk_idiv (by decide +kernel)
theorem dX3_danced_110 : decode cX3_danced 110 = .ok (.goto 4, 3) := dk_goto 4 (b1 := 0) (b2 := 4) (by decide +kernel) (by decide +kernel) (by decide +kernel) (by decide +kernel)
set_option maxRecDepth 20000 in
theorem vX3_danced_63 {E : sm_E} {L : sm_S → Prop} {d : Nat} {vs : List Value} {x2 : Int32} {x3 : Int32} {x4 : Int32} {x5 : Int32} {x6 : Int32}  {m : sm_M} {Q : Int32 → sm_M → Prop}  (hd : 1 ≤ d) 
  (h : (1000000 ≤ x6 →
      (¬ x2 = (-1) →
         Q (-1) m) ∧
      (x2 = (-1) →
         Q x3 m)) ∧
   (¬ 1000000 ≤ x6 →
      (x4 ≤ 0 →
         (¬ x2 = (-1) →
            Q (-1) m) ∧
         (x2 = (-1) →
            Q x3 m)) ∧
      (¬ x4 ≤ 0 →
         (¬ x4 = 0) ∧ ∀ x7_2 : Int32, x7_2 = ((x5 + x4) - 1) / x4 →
         ∀ x8_3 : Int32, x8_3 = x5 - x4 →
         (¬ x7_2 = 2 →
            gX3_danced_114 E L d vs x2 x3 x4 x5 x6 x7_2 x8_3 1 m Q) ∧
         (x7_2 = 2 →
            (x8_3 ≤ 0 →
               gX3_danced_114 E L d vs x2 x3 x4 x5 x6 x7_2 x8_3 1 m Q) ∧
            (¬ x8_3 ≤ 0 →
               (¬ x8_3 = 0) ∧ gX3_danced_114 E L d vs x2 x3 x4 x5 x6 x7_2 x8_3 (x4 / x8_3) m Q))))) :
  gX3_danced_63 E L d vs x2 x3 x4 x5 x6 m Q := by
  refine sm_iload (Y := mX3_danced) (pc := 63) 4 6 rfl dX3_danced_63 ?_
  refine sm_ldc (Y := mX3_danced) (pc := 65) 1000000 wRX3_17 dX3_danced_65 ?_
  refine sm_icmp_ge (Y := mX3_danced) (pc := 67) 209 (by decide) dX3_danced_67 (fun hc => ?_) (fun hc => ?_)
  · replace h := h.1 hc
    refine sm_iload_n (Y := mX3_danced) (pc := 209) 0 2 rfl rfl dX3_danced_209 ?_
    refine sm_iconst (Y := mX3_danced) (pc := 210) (-1) (by decide) dX3_danced_210 ?_
    refine sm_icmp_ne (Y := mX3_danced) (pc := 211) 218 (by decide) dX3_danced_211 (fun hc => ?_) (fun hc => ?_)
    · replace h := h.1 hc
      refine sm_iconst (Y := mX3_danced) (pc := 218) (-1) (by decide) dX3_danced_218 ?_
      exact sm_iret (Y := mX3_danced) (pc := 219) rfl rfl rfl dX3_danced_219 ⟨_, rfl, h⟩
    · replace h := h.2 hc
      refine sm_iload_n (Y := mX3_danced) (pc := 214) 1 3 rfl rfl dX3_danced_214 ?_
      refine sm_goto (Y := mX3_danced) (pc := 215) 219 (by decide) dX3_danced_215 ?_
      exact sm_iret (Y := mX3_danced) (pc := 219) rfl rfl rfl dX3_danced_219 ⟨_, rfl, h⟩
  · replace h := h.2 hc
    refine sm_iload (Y := mX3_danced) (pc := 70) 2 4 rfl dX3_danced_70 ?_
    refine sm_if_le (Y := mX3_danced) (pc := 72) 209 (by decide) dX3_danced_72 (fun hc => ?_) (fun hc => ?_)
    · replace h := h.1 hc
      refine sm_iload_n (Y := mX3_danced) (pc := 209) 0 2 rfl rfl dX3_danced_209 ?_
      refine sm_iconst (Y := mX3_danced) (pc := 210) (-1) (by decide) dX3_danced_210 ?_
      refine sm_icmp_ne (Y := mX3_danced) (pc := 211) 218 (by decide) dX3_danced_211 (fun hc => ?_) (fun hc => ?_)
      · replace h := h.1 hc
        refine sm_iconst (Y := mX3_danced) (pc := 218) (-1) (by decide) dX3_danced_218 ?_
        exact sm_iret (Y := mX3_danced) (pc := 219) rfl rfl rfl dX3_danced_219 ⟨_, rfl, h⟩
      · replace h := h.2 hc
        refine sm_iload_n (Y := mX3_danced) (pc := 214) 1 3 rfl rfl dX3_danced_214 ?_
        refine sm_goto (Y := mX3_danced) (pc := 215) 219 (by decide) dX3_danced_215 ?_
        exact sm_iret (Y := mX3_danced) (pc := 219) rfl rfl rfl dX3_danced_219 ⟨_, rfl, h⟩
    · replace h := h.2 hc
      refine sm_iload (Y := mX3_danced) (pc := 75) 3 5 rfl dX3_danced_75 ?_
      refine sm_iload (Y := mX3_danced) (pc := 77) 2 4 rfl dX3_danced_77 ?_
      refine sm_iadd (Y := mX3_danced) (pc := 79) dX3_danced_79 ?_
      refine sm_iconst (Y := mX3_danced) (pc := 80) 1 (by decide) dX3_danced_80 ?_
      refine sm_isub (Y := mX3_danced) (pc := 81) dX3_danced_81 ?_
      refine sm_iload (Y := mX3_danced) (pc := 82) 2 4 rfl dX3_danced_82 ?_
      obtain ⟨hn_1, h⟩ := h
      refine sm_idiv (Y := mX3_danced) (pc := 84) hn_1 dX3_danced_84 ?_
      refine sm_istore (Y := mX3_danced) (pc := 85) (fun y => [(7, .int y), (2, .int x2), (3, .int x3), (4, .int x4), (5, .int x5), (6, .int x6)]) 7 (by decide) (fun _ => rfl) dX3_danced_85 (fun x7_2 ex7_2 => ?_)
      replace h := h x7_2 ex7_2
      refine sm_iload (Y := mX3_danced) (pc := 87) 4 5 rfl dX3_danced_87 ?_
      refine sm_iload (Y := mX3_danced) (pc := 89) 3 4 rfl dX3_danced_89 ?_
      refine sm_isub (Y := mX3_danced) (pc := 91) dX3_danced_91 ?_
      refine sm_istore (Y := mX3_danced) (pc := 92) (fun y => [(8, .int y), (7, .int x7_2), (2, .int x2), (3, .int x3), (4, .int x4), (5, .int x5), (6, .int x6)]) 8 (by decide) (fun _ => rfl) dX3_danced_92 (fun x8_3 ex8_3 => ?_)
      replace h := h x8_3 ex8_3
      refine sm_iload (Y := mX3_danced) (pc := 94) 1 7 rfl dX3_danced_94 ?_
      refine sm_iconst (Y := mX3_danced) (pc := 96) 2 (by decide) dX3_danced_96 ?_
      refine sm_icmp_ne (Y := mX3_danced) (pc := 97) 113 (by decide) dX3_danced_97 (fun hc => ?_) (fun hc => ?_)
      · replace h := h.1 hc
        refine sm_iconst (Y := mX3_danced) (pc := 113) 1 (by decide) dX3_danced_113 ?_
        refine sm_sub [2, 3, 4, 5, 6, 1, 0] rfl ?_
        exact h
      · replace h := h.2 hc
        refine sm_iload (Y := mX3_danced) (pc := 100) 0 8 rfl dX3_danced_100 ?_
        refine sm_if_le (Y := mX3_danced) (pc := 102) 113 (by decide) dX3_danced_102 (fun hc => ?_) (fun hc => ?_)
        · replace h := h.1 hc
          refine sm_iconst (Y := mX3_danced) (pc := 113) 1 (by decide) dX3_danced_113 ?_
          refine sm_sub [2, 3, 4, 5, 6, 1, 0] rfl ?_
          exact h
        · replace h := h.2 hc
          refine sm_iload (Y := mX3_danced) (pc := 105) 4 4 rfl dX3_danced_105 ?_
          refine sm_iload (Y := mX3_danced) (pc := 107) 0 8 rfl dX3_danced_107 ?_
          obtain ⟨hn_4, h⟩ := h
          refine sm_idiv (Y := mX3_danced) (pc := 109) hn_4 dX3_danced_109 ?_
          refine sm_goto (Y := mX3_danced) (pc := 110) 114 (by decide) dX3_danced_110 ?_
          refine sm_sub [2, 3, 4, 5, 6, 1, 0] rfl ?_
          exact h
theorem dX3_danced_50 : decode cX3_danced 50 = .ok (.iload_n 0, 1) := dk_iload_n_0 (by decide +kernel)
theorem dX3_danced_51 : decode cX3_danced 51 = .ok (.iload_n 3, 1) := dk_iload_n_3 (by decide +kernel)
theorem dX3_danced_52 : decode cX3_danced 52 = .ok (.iload_n 1, 1) := dk_iload_n_1 (by decide +kernel)
theorem dX3_danced_53 : decode cX3_danced 53 = .ok (.imul, 1) := dk_imul (by decide +kernel)
theorem dX3_danced_54 : decode cX3_danced 54 = .ok (.iadd, 1) := dk_iadd (by decide +kernel)
theorem dX3_danced_55 : decode cX3_danced 55 = .ok (.istore 4, 2) := dk_istore 4 (b := 4) (by decide +kernel) (by decide +kernel) (by decide +kernel)
theorem dX3_danced_57 : decode cX3_danced 57 = .ok (.iload_n 1, 1) := dk_iload_n_1 (by decide +kernel)
theorem dX3_danced_58 : decode cX3_danced 58 = .ok (.istore 5, 2) := dk_istore 5 (b := 5) (by decide +kernel) (by decide +kernel) (by decide +kernel)
theorem dX3_danced_60 : decode cX3_danced 60 = .ok (.iconst 0, 1) := dk_iconst_0 (by decide +kernel)
theorem dX3_danced_61 : decode cX3_danced 61 = .ok (.istore 6, 2) := dk_istore 6 (b := 6) (by decide +kernel) (by decide +kernel) (by decide +kernel)
set_option maxRecDepth 20000 in
theorem vX3_danced_50 {E : sm_E} {L : sm_S → Prop} {d : Nat} {vs : List Value} {x0 : Int32} {x1 : Int32} {x2 : Int32} {x3 : Int32}  {m : sm_M} {Q : Int32 → sm_M → Prop}  (hd : 1 ≤ d) 
  (h : ∀ x4_1 : Int32, x4_1 = x0 + (x3 * x1) →
   gX3_danced_63 E L d vs x2 x3 x4_1 x1 0 m Q) :
  gX3_danced_50 E L d vs x0 x1 x2 x3 m Q := by
  refine sm_iload_n (Y := mX3_danced) (pc := 50) 0 0 rfl rfl dX3_danced_50 ?_
  refine sm_iload_n (Y := mX3_danced) (pc := 51) 3 3 rfl rfl dX3_danced_51 ?_
  refine sm_iload_n (Y := mX3_danced) (pc := 52) 1 1 rfl rfl dX3_danced_52 ?_
  refine sm_imul (Y := mX3_danced) (pc := 53) dX3_danced_53 ?_
  refine sm_iadd (Y := mX3_danced) (pc := 54) dX3_danced_54 ?_
  refine sm_istore (Y := mX3_danced) (pc := 55) (fun y => [(4, .int y), (0, .int x0), (1, .int x1), (2, .int x2), (3, .int x3)]) 4 (by decide) (fun _ => rfl) dX3_danced_55 (fun x4_1 ex4_1 => ?_)
  replace h := h x4_1 ex4_1
  refine sm_iload_n (Y := mX3_danced) (pc := 57) 2 1 rfl rfl dX3_danced_57 ?_
  refine sm_istore0 (Y := mX3_danced) (pc := 58) [(5, .int x1), (4, .int x4_1), (0, .int x0), (1, .int x1), (2, .int x2), (3, .int x3)] 5 (by decide) rfl dX3_danced_58 ?_
  refine sm_iconst (Y := mX3_danced) (pc := 60) 0 (by decide) dX3_danced_60 ?_
  refine sm_istore0 (Y := mX3_danced) (pc := 61) [(6, .int 0), (5, .int x1), (4, .int x4_1), (0, .int x0), (1, .int x1), (2, .int x2), (3, .int x3)] 6 (by decide) rfl dX3_danced_61 ?_
  refine sm_sub [5, 6, 2, 1, 0] rfl ?_
  exact h
theorem dX3_danced_0 : decode cX3_danced 0 = .ok (.iload_n 1, 1) := dk_iload_n_1 (by decide +kernel)
theorem dX3_danced_1 : decode cX3_danced 1 = .ok (.ifCond .ne 22, 3) := dk_ifCond_ne 22 (b1 := 0) (b2 := 22) (by decide +kernel) (by decide +kernel) (by decide +kernel) (by decide +kernel)
theorem dX3_danced_23 : decode cX3_danced 23 = .ok (.iload_n 0, 1) := dk_iload_n_0 (by decide +kernel)
theorem dX3_danced_24 : decode cX3_danced 24 = .ok (.ifCond .ge 13, 3) := dk_ifCond_ge 13 (b1 := 0) (b2 := 13) (by decide +kernel) (by decide +kernel) (by decide +kernel) (by decide +kernel)
theorem dX3_danced_37 : decode cX3_danced 37 = .ok (.iconst 0, 1) := dk_iconst_0 (by decide +kernel)
theorem dX3_danced_38 : decode cX3_danced 38 = .ok (.istore_n 3, 1) := dk_istore_n_3 (by decide +kernel)
theorem dX3_danced_39 : decode cX3_danced 39 = .ok (.iload_n 2, 1) := dk_iload_n_2 (by decide +kernel)
theorem dX3_danced_40 : decode cX3_danced 40 = .ok (.ifCond .lt 10, 3) := dk_ifCond_lt 10 (b1 := 0) (b2 := 10) (by decide +kernel) (by decide +kernel) (by decide +kernel) (by decide +kernel)
theorem dX3_danced_43 : decode cX3_danced 43 = .ok (.iload_n 2, 1) := dk_iload_n_2 (by decide +kernel)
theorem dX3_danced_44 : decode cX3_danced 44 = .ok (.iload_n 3, 1) := dk_iload_n_3 (by decide +kernel)
theorem dX3_danced_45 : decode cX3_danced 45 = .ok (.if_icmp .ge 5, 3) := dk_if_icmp_ge 5 (b1 := 0) (b2 := 5) (by decide +kernel) (by decide +kernel) (by decide +kernel) (by decide +kernel)
theorem dX3_danced_48 : decode cX3_danced 48 = .ok (.iconst 0, 1) := dk_iconst_0 (by decide +kernel)
theorem dX3_danced_49 : decode cX3_danced 49 = .ok (.ireturn, 1) := dk_ireturn (by decide +kernel)
theorem dX3_danced_27 : decode cX3_danced 27 = .ok (.iload_n 1, 1) := dk_iload_n_1 (by decide +kernel)
theorem dX3_danced_28 : decode cX3_danced 28 = .ok (.iconst 1, 1) := dk_iconst_1 (by decide +kernel)
theorem dX3_danced_29 : decode cX3_danced 29 = .ok (.isub, 1) := dk_isub (by decide +kernel)
theorem dX3_danced_30 : decode cX3_danced 30 = .ok (.iload_n 0, 1) := dk_iload_n_0 (by decide +kernel)
theorem dX3_danced_31 : decode cX3_danced 31 = .ok (.isub, 1) := dk_isub (by decide +kernel)
theorem dX3_danced_32 : decode cX3_danced 32 = .ok (.iload_n 1, 1) := dk_iload_n_1 (by decide +kernel)
theorem dX3_danced_33 : decode cX3_danced 33 = .ok (.idiv, 1) := dk_idiv (by decide +kernel)
theorem dX3_danced_34 : decode cX3_danced 34 = .ok (.goto 4, 3) := dk_goto 4 (b1 := 0) (b2 := 4) (by decide +kernel) (by decide +kernel) (by decide +kernel) (by decide +kernel)
theorem dX3_danced_4 : decode cX3_danced 4 = .ok (.iload_n 2, 1) := dk_iload_n_2 (by decide +kernel)
theorem dX3_danced_5 : decode cX3_danced 5 = .ok (.iconst (-1), 1) := dk_iconst_m1 (by decide +kernel)
theorem dX3_danced_6 : decode cX3_danced 6 = .ok (.if_icmp .ne 7, 3) := dk_if_icmp_ne 7 (b1 := 0) (b2 := 7) (by decide +kernel) (by decide +kernel) (by decide +kernel) (by decide +kernel)
theorem dX3_danced_13 : decode cX3_danced 13 = .ok (.iload_n 2, 1) := dk_iload_n_2 (by decide +kernel)
theorem dX3_danced_14 : decode cX3_danced 14 = .ok (.ifCond .ne 7, 3) := dk_ifCond_ne 7 (b1 := 0) (b2 := 7) (by decide +kernel) (by decide +kernel) (by decide +kernel) (by decide +kernel)
theorem dX3_danced_21 : decode cX3_danced 21 = .ok (.iconst (-1), 1) := dk_iconst_m1 (by decide +kernel)
theorem dX3_danced_22 : decode cX3_danced 22 = .ok (.ireturn, 1) := dk_ireturn (by decide +kernel)
theorem dX3_danced_17 : decode cX3_danced 17 = .ok (.iconst 2, 1) := dk_iconst_2 (by decide +kernel)
theorem dX3_danced_18 : decode cX3_danced 18 = .ok (.goto 4, 3) := dk_goto 4 (b1 := 0) (b2 := 4) (by decide +kernel) (by decide +kernel) (by decide +kernel) (by decide +kernel)
theorem dX3_danced_9 : decode cX3_danced 9 = .ok (.iconst 1, 1) := dk_iconst_1 (by decide +kernel)
theorem dX3_danced_10 : decode cX3_danced 10 = .ok (.goto 12, 3) := dk_goto 12 (b1 := 0) (b2 := 12) (by decide +kernel) (by decide +kernel) (by decide +kernel) (by decide +kernel)
set_option maxRecDepth 20000 in
theorem vX3_danced_0 {E : sm_E} {L : sm_S → Prop} {d : Nat} {x0 : Int32} {x1 : Int32} {x2 : Int32}  {m : sm_M} {Q : Int32 → sm_M → Prop}  (hd : 1 ≤ d) 
  (h : (¬ x1 = 0 →
      (0 ≤ x0 →
         (x2 < 0 →
            gX3_danced_50 E L d ([.int x0, .int x1, .int x2]) x0 x1 x2 0 m Q) ∧
         (¬ x2 < 0 →
            (0 ≤ x2 →
               gX3_danced_50 E L d ([.int x0, .int x1, .int x2]) x0 x1 x2 0 m Q) ∧
            (¬ 0 ≤ x2 →
               Q 0 m))) ∧
      (¬ 0 ≤ x0 →
         (¬ x1 = 0) ∧ ∀ x3_3 : Int32, x3_3 = ((x1 - 1) - x0) / x1 →
         (x2 < 0 →
            gX3_danced_50 E L d ([.int x0, .int x1, .int x2]) x0 x1 x2 x3_3 m Q) ∧
         (¬ x2 < 0 →
            (x3_3 ≤ x2 →
               gX3_danced_50 E L d ([.int x0, .int x1, .int x2]) x0 x1 x2 x3_3 m Q) ∧
            (¬ x3_3 ≤ x2 →
               Q 0 m)))) ∧
   (x1 = 0 →
      (¬ x2 = (-1) →
         (¬ x2 = 0 →
            Q (-1) m) ∧
         (x2 = 0 →
            Q 2 m)) ∧
      (x2 = (-1) →
         Q 1 m))) :
  sm_callI E L mX3_danced d 0 0 [.int x0, .int x1, .int x2] m Q := by
  refine sm_enter (by decide +kernel) (by simp [lg_sl, Value.category]) ?_
  refine sm_iload_n (Y := mX3_danced) (pc := 0) 1 1 rfl rfl dX3_danced_0 ?_
  refine sm_if_ne (Y := mX3_danced) (pc := 1) 23 (by decide) dX3_danced_1 (fun hc => ?_) (fun hc => ?_)
  · replace h := h.1 hc
    refine sm_iload_n (Y := mX3_danced) (pc := 23) 0 0 rfl rfl dX3_danced_23 ?_
    refine sm_if_ge (Y := mX3_danced) (pc := 24) 37 (by decide) dX3_danced_24 (fun hc => ?_) (fun hc => ?_)
    · replace h := h.1 hc
      refine sm_iconst (Y := mX3_danced) (pc := 37) 0 (by decide) dX3_danced_37 ?_
      refine sm_istore0_n (Y := mX3_danced) (pc := 38) [(3, .int 0), (0, .int x0), (1, .int x1), (2, .int x2)] 3 rfl (by decide) rfl dX3_danced_38 ?_
      refine sm_iload_n (Y := mX3_danced) (pc := 39) 3 2 rfl rfl dX3_danced_39 ?_
      refine sm_if_lt (Y := mX3_danced) (pc := 40) 50 (by decide) dX3_danced_40 (fun hc => ?_) (fun hc => ?_)
      · replace h := h.1 hc
        refine sm_sub [1, 2, 3, 0] rfl ?_
        exact h
      · replace h := h.2 hc
        refine sm_iload_n (Y := mX3_danced) (pc := 43) 3 2 rfl rfl dX3_danced_43 ?_
        refine sm_iload_n (Y := mX3_danced) (pc := 44) 0 3 rfl rfl dX3_danced_44 ?_
        refine sm_icmp_ge (Y := mX3_danced) (pc := 45) 50 (by decide) dX3_danced_45 (fun hc => ?_) (fun hc => ?_)
        · replace h := h.1 hc
          refine sm_sub [1, 2, 3, 0] rfl ?_
          exact h
        · replace h := h.2 hc
          refine sm_iconst (Y := mX3_danced) (pc := 48) 0 (by decide) dX3_danced_48 ?_
          exact sm_iret (Y := mX3_danced) (pc := 49) rfl rfl rfl dX3_danced_49 ⟨_, rfl, h⟩
    · replace h := h.2 hc
      refine sm_iload_n (Y := mX3_danced) (pc := 27) 1 1 rfl rfl dX3_danced_27 ?_
      refine sm_iconst (Y := mX3_danced) (pc := 28) 1 (by decide) dX3_danced_28 ?_
      refine sm_isub (Y := mX3_danced) (pc := 29) dX3_danced_29 ?_
      refine sm_iload_n (Y := mX3_danced) (pc := 30) 0 0 rfl rfl dX3_danced_30 ?_
      refine sm_isub (Y := mX3_danced) (pc := 31) dX3_danced_31 ?_
      refine sm_iload_n (Y := mX3_danced) (pc := 32) 1 1 rfl rfl dX3_danced_32 ?_
      obtain ⟨hn_2, h⟩ := h
      refine sm_idiv (Y := mX3_danced) (pc := 33) hn_2 dX3_danced_33 ?_
      refine sm_goto (Y := mX3_danced) (pc := 34) 38 (by decide) dX3_danced_34 ?_
      refine sm_istore_n (Y := mX3_danced) (pc := 38) (fun y => [(3, .int y), (0, .int x0), (1, .int x1), (2, .int x2)]) 3 rfl (by decide) (fun _ => rfl) dX3_danced_38 (fun x3_3 ex3_3 => ?_)
      replace h := h x3_3 ex3_3
      refine sm_iload_n (Y := mX3_danced) (pc := 39) 3 2 rfl rfl dX3_danced_39 ?_
      refine sm_if_lt (Y := mX3_danced) (pc := 40) 50 (by decide) dX3_danced_40 (fun hc => ?_) (fun hc => ?_)
      · replace h := h.1 hc
        refine sm_sub [1, 2, 3, 0] rfl ?_
        exact h
      · replace h := h.2 hc
        refine sm_iload_n (Y := mX3_danced) (pc := 43) 3 2 rfl rfl dX3_danced_43 ?_
        refine sm_iload_n (Y := mX3_danced) (pc := 44) 0 3 rfl rfl dX3_danced_44 ?_
        refine sm_icmp_ge (Y := mX3_danced) (pc := 45) 50 (by decide) dX3_danced_45 (fun hc => ?_) (fun hc => ?_)
        · replace h := h.1 hc
          refine sm_sub [1, 2, 3, 0] rfl ?_
          exact h
        · replace h := h.2 hc
          refine sm_iconst (Y := mX3_danced) (pc := 48) 0 (by decide) dX3_danced_48 ?_
          exact sm_iret (Y := mX3_danced) (pc := 49) rfl rfl rfl dX3_danced_49 ⟨_, rfl, h⟩
  · replace h := h.2 hc
    refine sm_iload_n (Y := mX3_danced) (pc := 4) 2 2 rfl rfl dX3_danced_4 ?_
    refine sm_iconst (Y := mX3_danced) (pc := 5) (-1) (by decide) dX3_danced_5 ?_
    refine sm_icmp_ne (Y := mX3_danced) (pc := 6) 13 (by decide) dX3_danced_6 (fun hc => ?_) (fun hc => ?_)
    · replace h := h.1 hc
      refine sm_iload_n (Y := mX3_danced) (pc := 13) 2 2 rfl rfl dX3_danced_13 ?_
      refine sm_if_ne (Y := mX3_danced) (pc := 14) 21 (by decide) dX3_danced_14 (fun hc => ?_) (fun hc => ?_)
      · replace h := h.1 hc
        refine sm_iconst (Y := mX3_danced) (pc := 21) (-1) (by decide) dX3_danced_21 ?_
        exact sm_iret (Y := mX3_danced) (pc := 22) rfl rfl rfl dX3_danced_22 ⟨_, rfl, h⟩
      · replace h := h.2 hc
        refine sm_iconst (Y := mX3_danced) (pc := 17) 2 (by decide) dX3_danced_17 ?_
        refine sm_goto (Y := mX3_danced) (pc := 18) 22 (by decide) dX3_danced_18 ?_
        exact sm_iret (Y := mX3_danced) (pc := 22) rfl rfl rfl dX3_danced_22 ⟨_, rfl, h⟩
    · replace h := h.2 hc
      refine sm_iconst (Y := mX3_danced) (pc := 9) 1 (by decide) dX3_danced_9 ?_
      refine sm_goto (Y := mX3_danced) (pc := 10) 22 (by decide) dX3_danced_10 ?_
      exact sm_iret (Y := mX3_danced) (pc := 22) rfl rfl rfl dX3_danced_22 ⟨_, rfl, h⟩
abbrev mX3_rowOf : sm_Y := (yX3_rowOf, cX3_rowOf, 3, (some FieldType.int))
theorem fX3_rowOf : sm_mt mX3_rowOf 3 := ⟨sm_in 710 (by decide +kernel) (by decide +kernel), sm_in 709 (by decide +kernel) (by decide +kernel), sm_in 94 (by decide +kernel) (by decide +kernel), ⟨by decide +kernel, by decide +kernel, by decide +kernel⟩, by decide⟩
theorem dX3_rowOf_0 : decode cX3_rowOf 0 = .ok (.aload_n 0, 1) := dk_aload_n_0 (by decide +kernel)
theorem dX3_rowOf_1 : decode cX3_rowOf 1 = .ok (.getfield 18, 3) := dk_getfield 18 (b1 := 0) (b2 := 18) (by decide +kernel) (by decide +kernel) (by decide +kernel) (by decide +kernel)
theorem dX3_rowOf_4 : decode cX3_rowOf 4 = .ok (.aload_n 0, 1) := dk_aload_n_0 (by decide +kernel)
theorem dX3_rowOf_5 : decode cX3_rowOf 5 = .ok (.getfield 24, 3) := dk_getfield 24 (b1 := 0) (b2 := 24) (by decide +kernel) (by decide +kernel) (by decide +kernel) (by decide +kernel)
theorem dX3_rowOf_8 : decode cX3_rowOf 8 = .ok (.aload_n 1, 1) := dk_aload_n_1 (by decide +kernel)
theorem dX3_rowOf_9 : decode cX3_rowOf 9 = .ok (.getfield 18, 3) := dk_getfield 18 (b1 := 0) (b2 := 18) (by decide +kernel) (by decide +kernel) (by decide +kernel) (by decide +kernel)
theorem dX3_rowOf_12 : decode cX3_rowOf 12 = .ok (.aload_n 1, 1) := dk_aload_n_1 (by decide +kernel)
theorem dX3_rowOf_13 : decode cX3_rowOf 13 = .ok (.getfield 24, 3) := dk_getfield 24 (b1 := 0) (b2 := 24) (by decide +kernel) (by decide +kernel) (by decide +kernel) (by decide +kernel)
theorem dX3_rowOf_16 : decode cX3_rowOf 16 = .ok (.iload_n 2, 1) := dk_iload_n_2 (by decide +kernel)
theorem dX3_rowOf_17 : decode cX3_rowOf 17 = .ok (.bipush 8, 2) := dk_bipush 8 (b := 8) (by decide +kernel) (by decide +kernel) (by decide +kernel)
theorem wRX3_27 : Cond.methodLink RX3 27 yJ9_min_7cf53 ∈ sm_T := sm_in 711 (by decide +kernel) (by decide +kernel)
theorem dX3_rowOf_19 : decode cX3_rowOf 19 = .ok (.invokestatic 27, 3) := dk_invokestatic 27 (b1 := 0) (b2 := 27) (by decide +kernel) (by decide +kernel) (by decide +kernel) (by decide +kernel)
theorem dX3_rowOf_22 : decode cX3_rowOf 22 = .ok (.iconst 1, 1) := dk_iconst_1 (by decide +kernel)
theorem wRX3_31 : Cond.methodLink RX3 31 yX3_path ∈ sm_T := sm_in 712 (by decide +kernel) (by decide +kernel)
abbrev mX3_path : sm_Y := (yX3_path, cX3_path, 10, (some FieldType.int))
theorem fX3_path : sm_mt mX3_path 6 := ⟨sm_in 714 (by decide +kernel) (by decide +kernel), sm_in 713 (by decide +kernel) (by decide +kernel), sm_in 94 (by decide +kernel) (by decide +kernel), ⟨by decide +kernel, by decide +kernel, by decide +kernel⟩, by decide⟩
theorem dX3_rowOf_23 : decode cX3_rowOf 23 = .ok (.invokestatic 31, 3) := dk_invokestatic 31 (b1 := 0) (b2 := 31) (by decide +kernel) (by decide +kernel) (by decide +kernel) (by decide +kernel)
theorem dX3_rowOf_26 : decode cX3_rowOf 26 = .ok (.ireturn, 1) := dk_ireturn (by decide +kernel)
set_option maxRecDepth 20000 in
theorem vX3_rowOf_0 {E : sm_E} {L : sm_S → Prop} {d : Nat} {a0 : Nat} {a1 : Nat} {x2 : Int32} {na0 : Nat} {na1 : Nat} {m : sm_M} {Q : Int32 → sm_M → Prop}  (hd : 61 ≤ d) (hTa0 : sm_tan L a0 na0) (hTa1 : sm_tan L a1 na1)
  (h : sm_callI E L mJ9_min_7cf53 1 0 0 [.int x2, .int 8] m (fun r_2 m_1 =>
   sm_callI E L mX3_path 60 0 0 [.int (m.1 a0 9), .int (m.1 a0 10), .int (m.1 a1 9), .int (m.1 a1 10), .int r_2, .int 1] m_1 (fun r_4 m_3 =>
   Q r_4 m_3))) :
  sm_callI E L mX3_rowOf d 0 0 [.ref (sm_B E + a0), .ref (sm_B E + a1), .int x2] m Q := by
  refine sm_enter (by decide +kernel) (by simp [lg_sl, Value.category]) ?_
  refine sm_aload_n (Y := mX3_rowOf) (pc := 0) 0 0 rfl rfl dX3_rowOf_0 ?_
  refine gf_RX3_18 (Y := mX3_rowOf) (pc := 1) rfl ((fun S hS => (hTa0 S hS).1) _) dX3_rowOf_1 ?_
  refine sm_aload_n (Y := mX3_rowOf) (pc := 4) 0 0 rfl rfl dX3_rowOf_4 ?_
  refine gf_RX3_24 (Y := mX3_rowOf) (pc := 5) rfl ((fun S hS => (hTa0 S hS).1) _) dX3_rowOf_5 ?_
  refine sm_aload_n (Y := mX3_rowOf) (pc := 8) 1 1 rfl rfl dX3_rowOf_8 ?_
  refine gf_RX3_18 (Y := mX3_rowOf) (pc := 9) rfl ((fun S hS => (hTa1 S hS).1) _) dX3_rowOf_9 ?_
  refine sm_aload_n (Y := mX3_rowOf) (pc := 12) 1 1 rfl rfl dX3_rowOf_12 ?_
  refine gf_RX3_24 (Y := mX3_rowOf) (pc := 13) rfl ((fun S hS => (hTa1 S hS).1) _) dX3_rowOf_13 ?_
  refine sm_iload_n (Y := mX3_rowOf) (pc := 16) 2 2 rfl rfl dX3_rowOf_16 ?_
  refine sm_bipush (Y := mX3_rowOf) (pc := 17) 8 (by decide) dX3_rowOf_17 ?_
  refine sm_is_I (Y := mX3_rowOf) (pc := 19) (As := [.int x2, .int 8]) fJ9_min_7cf53 wRX3_27 rfl (Nat.le_trans (by decide) hd) (Nat.le_of_ble_eq_true rfl) ⟨Nat.le_refl _, Nat.le_refl _⟩ dX3_rowOf_19 rfl (sm_monoI h (fun r_2 m_1 h => ?_))
  refine sm_iconst (Y := mX3_rowOf) (pc := 22) 1 (by decide) dX3_rowOf_22 ?_
  refine sm_is_I (Y := mX3_rowOf) (pc := 23) (As := [.int (m.1 a0 9), .int (m.1 a0 10), .int (m.1 a1 9), .int (m.1 a1 10), .int r_2, .int 1]) fX3_path wRX3_31 rfl (Nat.le_trans (by decide) hd) (Nat.le_of_ble_eq_true rfl) ⟨Nat.le_refl _, Nat.le_refl _⟩ dX3_rowOf_23 rfl (sm_monoI h (fun r_4 m_3 h => ?_))
  exact sm_iret (Y := mX3_rowOf) (pc := 26) rfl rfl rfl dX3_rowOf_26 ⟨_, rfl, h⟩
def gX3_path_97 (E : sm_E) (L : sm_S → Prop) (d : Nat) (vs : List Value) (x0 : Int32) (x1 : Int32) (x2 : Int32) (x3 : Int32) (x4 : Int32) (x5 : Int32) (x6 : Int32) (x7 : Int32) (s0 : Int32) (m : sm_M) (Q : Int32 → sm_M → Prop) : Prop := sm_go E L mX3_path d 0 0 vs 97 [(0, .int x0), (1, .int x1), (2, .int x2), (3, .int x3), (4, .int x4), (5, .int x5), (6, .int x6), (7, .int x7)] [.int s0] m 0 0 (sm_Z E L vs 0 0 (sm_QI Q))
def gX3_path_53 (E : sm_E) (L : sm_S → Prop) (d : Nat) (vs : List Value) (x0 : Int32) (x1 : Int32) (x2 : Int32) (x3 : Int32) (x4 : Int32) (x5 : Int32) (x6 : Int32) (m : sm_M) (Q : Int32 → sm_M → Prop) : Prop := sm_go E L mX3_path d 0 0 vs 53 [(0, .int x0), (1, .int x1), (2, .int x2), (3, .int x3), (4, .int x4), (5, .int x5), (6, .int x6)] [] m 0 0 (sm_Z E L vs 0 0 (sm_QI Q))
def gX3_path_25 (E : sm_E) (L : sm_S → Prop) (d : Nat) (vs : List Value) (x0 : Int32) (x1 : Int32) (x2 : Int32) (x3 : Int32) (x4 : Int32) (x5 : Int32) (x6 : Int32) (m : sm_M) (Q : Int32 → sm_M → Prop) : Prop := sm_go E L mX3_path d 0 0 vs 25 [(0, .int x0), (1, .int x1), (2, .int x2), (3, .int x3), (4, .int x4), (5, .int x5), (6, .int x6)] [] m 0 0 (sm_Z E L vs 0 0 (sm_QI Q))
theorem dX3_path_97 : decode cX3_path 97 = .ok (.istore 8, 2) := dk_istore 8 (b := 8) (by decide +kernel) (by decide +kernel) (by decide +kernel)
theorem dX3_path_99 : decode cX3_path 99 = .ok (.iload 7, 2) := dk_iload 7 (b := 7) (by decide +kernel) (by decide +kernel) (by decide +kernel)
theorem dX3_path_101 : decode cX3_path 101 = .ok (.iload 8, 2) := dk_iload 8 (b := 8) (by decide +kernel) (by decide +kernel) (by decide +kernel)
theorem dX3_path_103 : decode cX3_path 103 = .ok (.iload_n 2, 1) := dk_iload_n_2 (by decide +kernel)
theorem dX3_path_104 : decode cX3_path 104 = .ok (.iload_n 3, 1) := dk_iload_n_3 (by decide +kernel)
theorem dX3_path_105 : decode cX3_path 105 = .ok (.iload 4, 2) := dk_iload 4 (b := 4) (by decide +kernel) (by decide +kernel) (by decide +kernel)
theorem dX3_path_107 : decode cX3_path 107 = .ok (.iconst 1, 1) := dk_iconst_1 (by decide +kernel)
theorem dX3_path_108 : decode cX3_path 108 = .ok (.isub, 1) := dk_isub (by decide +kernel)
theorem dX3_path_109 : decode cX3_path 109 = .ok (.iload 5, 2) := dk_iload 5 (b := 5) (by decide +kernel) (by decide +kernel) (by decide +kernel)
theorem dX3_path_111 : decode cX3_path 111 = .ok (.bipush 10, 2) := dk_bipush 10 (b := 10) (by decide +kernel) (by decide +kernel) (by decide +kernel)
theorem dX3_path_113 : decode cX3_path 113 = .ok (.imul, 1) := dk_imul (by decide +kernel)
theorem dX3_path_114 : decode cX3_path 114 = .ok (.iload 6, 2) := dk_iload 6 (b := 6) (by decide +kernel) (by decide +kernel) (by decide +kernel)
theorem dX3_path_116 : decode cX3_path 116 = .ok (.iadd, 1) := dk_iadd (by decide +kernel)
theorem dX3_path_117 : decode cX3_path 117 = .ok (.invokestatic 31, 3) := dk_invokestatic 31 (b1 := 0) (b2 := 31) (by decide +kernel) (by decide +kernel) (by decide +kernel) (by decide +kernel)
theorem dX3_path_120 : decode cX3_path 120 = .ok (.istore 9, 2) := dk_istore 9 (b := 9) (by decide +kernel) (by decide +kernel) (by decide +kernel)
theorem dX3_path_122 : decode cX3_path 122 = .ok (.iload 9, 2) := dk_iload 9 (b := 9) (by decide +kernel) (by decide +kernel) (by decide +kernel)
theorem dX3_path_124 : decode cX3_path 124 = .ok (.ifCond .le 6, 3) := dk_ifCond_le 6 (b1 := 0) (b2 := 6) (by decide +kernel) (by decide +kernel) (by decide +kernel) (by decide +kernel)
theorem dX3_path_130 : decode cX3_path 130 = .ok (.iinc 6 1, 3) := dk_iinc 6 1 (b1 := 6) (b2 := 1) (by decide +kernel) (by decide +kernel) (by decide +kernel) (by decide +kernel) (by decide +kernel)
theorem dX3_path_133 : decode cX3_path 133 = .ok (.goto (-108), 3) := dk_goto (-108) (b1 := 255) (b2 := 148) (by decide +kernel) (by decide +kernel) (by decide +kernel) (by decide +kernel)
theorem dX3_path_127 : decode cX3_path 127 = .ok (.iload 9, 2) := dk_iload 9 (b := 9) (by decide +kernel) (by decide +kernel) (by decide +kernel)
theorem dX3_path_129 : decode cX3_path 129 = .ok (.ireturn, 1) := dk_ireturn (by decide +kernel)
set_option maxRecDepth 20000 in
theorem vX3_path_97 {E : sm_E} {L : sm_S → Prop} {d : Nat} {vs : List Value} {x0 : Int32} {x1 : Int32} {x2 : Int32} {x3 : Int32} {x4 : Int32} {x5 : Int32} {x6 : Int32} {x7 : Int32} {s0 : Int32}  {m : sm_M} {Q : Int32 → sm_M → Prop}  {dr : Nat} (hd : 4 ≤ d) (hr : dr + 1 ≤ d) 
  (h : sm_callI E L mX3_path dr 0 0 [.int x7, .int s0, .int x2, .int x3, .int (x4 - 1), .int ((x5 * 10) + x6)] m (fun r_3 m_2 =>
   (r_3 ≤ 0 →
      ∀ x6_5 : Int32, x6_5 = x6 + 1 →
      gX3_path_25 E L d vs x0 x1 x2 x3 x4 x5 x6_5 m_2 Q) ∧
   (¬ r_3 ≤ 0 →
      Q r_3 m_2))) :
  gX3_path_97 E L d vs x0 x1 x2 x3 x4 x5 x6 x7 s0 m Q := by
  refine sm_istore0 (Y := mX3_path) (pc := 97) [(8, .int s0), (0, .int x0), (1, .int x1), (2, .int x2), (3, .int x3), (4, .int x4), (5, .int x5), (6, .int x6), (7, .int x7)] 8 (by decide) rfl dX3_path_97 ?_
  refine sm_iload (Y := mX3_path) (pc := 99) 8 7 rfl dX3_path_99 ?_
  refine sm_iload (Y := mX3_path) (pc := 101) 0 8 rfl dX3_path_101 ?_
  refine sm_iload_n (Y := mX3_path) (pc := 103) 3 2 rfl rfl dX3_path_103 ?_
  refine sm_iload_n (Y := mX3_path) (pc := 104) 4 3 rfl rfl dX3_path_104 ?_
  refine sm_iload (Y := mX3_path) (pc := 105) 5 4 rfl dX3_path_105 ?_
  refine sm_iconst (Y := mX3_path) (pc := 107) 1 (by decide) dX3_path_107 ?_
  refine sm_isub (Y := mX3_path) (pc := 108) dX3_path_108 ?_
  refine sm_iload (Y := mX3_path) (pc := 109) 6 5 rfl dX3_path_109 ?_
  refine sm_bipush (Y := mX3_path) (pc := 111) 10 (by decide) dX3_path_111 ?_
  refine sm_imul (Y := mX3_path) (pc := 113) dX3_path_113 ?_
  refine sm_iload (Y := mX3_path) (pc := 114) 7 6 rfl dX3_path_114 ?_
  refine sm_iadd (Y := mX3_path) (pc := 116) dX3_path_116 ?_
  refine sm_is_I (Y := mX3_path) (pc := 117) (As := [.int x7, .int s0, .int x2, .int x3, .int (x4 - 1), .int ((x5 * 10) + x6)]) fX3_path wRX3_31 rfl hr (Nat.le_of_ble_eq_true rfl) ⟨Nat.le_refl _, Nat.le_refl _⟩ dX3_path_117 rfl (sm_monoI h (fun r_3 m_2 h => ?_))
  refine sm_istore0 (Y := mX3_path) (pc := 120) [(9, .int r_3), (8, .int s0), (0, .int x0), (1, .int x1), (2, .int x2), (3, .int x3), (4, .int x4), (5, .int x5), (6, .int x6), (7, .int x7)] 9 (by decide) rfl dX3_path_120 ?_
  refine sm_iload (Y := mX3_path) (pc := 122) 0 9 rfl dX3_path_122 ?_
  refine sm_if_le (Y := mX3_path) (pc := 124) 130 (by decide) dX3_path_124 (fun hc => ?_) (fun hc => ?_)
  · replace h := h.1 hc
    refine sm_iinc (Y := mX3_path) (pc := 130) (fun y => [(6, .int y), (9, .int r_3), (8, .int s0), (0, .int x0), (1, .int x1), (2, .int x2), (3, .int x3), (4, .int x4), (5, .int x5), (7, .int x7)]) 8 6 rfl (by decide) (fun _ => rfl) dX3_path_130 (fun x6_5 ex6_5 => ?_)
    replace h := h x6_5 ex6_5
    refine sm_goto (Y := mX3_path) (pc := 133) 25 (by decide) dX3_path_133 ?_
    refine sm_sub [3, 4, 5, 6, 7, 8, 0] rfl ?_
    exact h
  · replace h := h.2 hc
    refine sm_iload (Y := mX3_path) (pc := 127) 0 9 rfl dX3_path_127 ?_
    exact sm_iret (Y := mX3_path) (pc := 129) rfl rfl rfl dX3_path_129 ⟨_, rfl, h⟩
theorem dX3_path_53 : decode cX3_path 53 = .ok (.iload 6, 2) := dk_iload 6 (b := 6) (by decide +kernel) (by decide +kernel) (by decide +kernel)
theorem dX3_path_55 : decode cX3_path 55 = .ok (.iconst 2, 1) := dk_iconst_2 (by decide +kernel)
theorem dX3_path_56 : decode cX3_path 56 = .ok (.if_icmp .ne 11, 3) := dk_if_icmp_ne 11 (b1 := 0) (b2 := 11) (by decide +kernel) (by decide +kernel) (by decide +kernel) (by decide +kernel)
theorem dX3_path_67 : decode cX3_path 67 = .ok (.iload 6, 2) := dk_iload 6 (b := 6) (by decide +kernel) (by decide +kernel) (by decide +kernel)
theorem dX3_path_69 : decode cX3_path 69 = .ok (.ifCond .ne 9, 3) := dk_ifCond_ne 9 (b1 := 0) (b2 := 9) (by decide +kernel) (by decide +kernel) (by decide +kernel) (by decide +kernel)
theorem dX3_path_78 : decode cX3_path 78 = .ok (.iload_n 0, 1) := dk_iload_n_0 (by decide +kernel)
theorem dX3_path_79 : decode cX3_path 79 = .ok (.iload_n 1, 1) := dk_iload_n_1 (by decide +kernel)
theorem dX3_path_80 : decode cX3_path 80 = .ok (.isub, 1) := dk_isub (by decide +kernel)
theorem dX3_path_81 : decode cX3_path 81 = .ok (.istore 7, 2) := dk_istore 7 (b := 7) (by decide +kernel) (by decide +kernel) (by decide +kernel)
theorem dX3_path_83 : decode cX3_path 83 = .ok (.iload 6, 2) := dk_iload 6 (b := 6) (by decide +kernel) (by decide +kernel) (by decide +kernel)
theorem dX3_path_85 : decode cX3_path 85 = .ok (.iconst 2, 1) := dk_iconst_2 (by decide +kernel)
theorem dX3_path_86 : decode cX3_path 86 = .ok (.if_icmp .ne 10, 3) := dk_if_icmp_ne 10 (b1 := 0) (b2 := 10) (by decide +kernel) (by decide +kernel) (by decide +kernel) (by decide +kernel)
theorem dX3_path_96 : decode cX3_path 96 = .ok (.iload_n 1, 1) := dk_iload_n_1 (by decide +kernel)
theorem dX3_path_89 : decode cX3_path 89 = .ok (.iload_n 0, 1) := dk_iload_n_0 (by decide +kernel)
theorem dX3_path_90 : decode cX3_path 90 = .ok (.invokestatic 9, 3) := dk_invokestatic 9 (b1 := 0) (b2 := 9) (by decide +kernel) (by decide +kernel) (by decide +kernel) (by decide +kernel)
theorem dX3_path_93 : decode cX3_path 93 = .ok (.goto 4, 3) := dk_goto 4 (b1 := 0) (b2 := 4) (by decide +kernel) (by decide +kernel) (by decide +kernel) (by decide +kernel)
theorem dX3_path_72 : decode cX3_path 72 = .ok (.iload_n 0, 1) := dk_iload_n_0 (by decide +kernel)
theorem dX3_path_73 : decode cX3_path 73 = .ok (.iload_n 1, 1) := dk_iload_n_1 (by decide +kernel)
theorem dX3_path_74 : decode cX3_path 74 = .ok (.iadd, 1) := dk_iadd (by decide +kernel)
theorem dX3_path_75 : decode cX3_path 75 = .ok (.goto 6, 3) := dk_goto 6 (b1 := 0) (b2 := 6) (by decide +kernel) (by decide +kernel) (by decide +kernel) (by decide +kernel)
theorem dX3_path_59 : decode cX3_path 59 = .ok (.iload_n 0, 1) := dk_iload_n_0 (by decide +kernel)
theorem dX3_path_60 : decode cX3_path 60 = .ok (.iload_n 1, 1) := dk_iload_n_1 (by decide +kernel)
theorem wRX3_39 : Cond.methodLink RX3 39 yX3_turnedTop ∈ sm_T := sm_in 718 (by decide +kernel) (by decide +kernel)
abbrev mX3_turnedTop : sm_Y := (yX3_turnedTop, cX3_turnedTop, 2, (some FieldType.int))
theorem fX3_turnedTop : sm_mt mX3_turnedTop 2 := ⟨sm_in 720 (by decide +kernel) (by decide +kernel), sm_in 719 (by decide +kernel) (by decide +kernel), sm_in 94 (by decide +kernel) (by decide +kernel), ⟨by decide +kernel, by decide +kernel, by decide +kernel⟩, by decide⟩
theorem dX3_path_61 : decode cX3_path 61 = .ok (.invokestatic 39, 3) := dk_invokestatic 39 (b1 := 0) (b2 := 39) (by decide +kernel) (by decide +kernel) (by decide +kernel) (by decide +kernel)
theorem dX3_path_64 : decode cX3_path 64 = .ok (.goto 17, 3) := dk_goto 17 (b1 := 0) (b2 := 17) (by decide +kernel) (by decide +kernel) (by decide +kernel) (by decide +kernel)
set_option maxRecDepth 20000 in
theorem vX3_path_53 {E : sm_E} {L : sm_S → Prop} {d : Nat} {vs : List Value} {x0 : Int32} {x1 : Int32} {x2 : Int32} {x3 : Int32} {x4 : Int32} {x5 : Int32} {x6 : Int32}  {m : sm_M} {Q : Int32 → sm_M → Prop}  {dr : Nat} (hd : 4 ≤ d) (hr : dr + 1 ≤ d) 
  (h : (¬ x6 = 2 →
      (¬ x6 = 0 →
         ∀ x7_1 : Int32, x7_1 = x0 - x1 →
         (¬ x6 = 2 →
            gX3_path_97 E L d vs x0 x1 x2 x3 x4 x5 x6 x7_1 x1 m Q) ∧
         (x6 = 2 →
            sm_callI E L mJ9_abs_0f7a4 1 0 0 [.int x0] m (fun r_3 m_2 =>
            gX3_path_97 E L d vs x0 x1 x2 x3 x4 x5 x6 x7_1 r_3 m_2 Q))) ∧
      (x6 = 0 →
         ∀ x7_4 : Int32, x7_4 = x0 + x1 →
         (¬ x6 = 2 →
            gX3_path_97 E L d vs x0 x1 x2 x3 x4 x5 x6 x7_4 x1 m Q) ∧
         (x6 = 2 →
            sm_callI E L mJ9_abs_0f7a4 1 0 0 [.int x0] m (fun r_6 m_5 =>
            gX3_path_97 E L d vs x0 x1 x2 x3 x4 x5 x6 x7_4 r_6 m_5 Q)))) ∧
   (x6 = 2 →
      sm_callI E L mX3_turnedTop 1 0 0 [.int x0, .int x1] m (fun r_8 m_7 =>
      (¬ x6 = 2 →
         gX3_path_97 E L d vs x0 x1 x2 x3 x4 x5 x6 r_8 x1 m_7 Q) ∧
      (x6 = 2 →
         sm_callI E L mJ9_abs_0f7a4 1 0 0 [.int x0] m_7 (fun r_11 m_10 =>
         gX3_path_97 E L d vs x0 x1 x2 x3 x4 x5 x6 r_8 r_11 m_10 Q))))) :
  gX3_path_53 E L d vs x0 x1 x2 x3 x4 x5 x6 m Q := by
  refine sm_iload (Y := mX3_path) (pc := 53) 6 6 rfl dX3_path_53 ?_
  refine sm_iconst (Y := mX3_path) (pc := 55) 2 (by decide) dX3_path_55 ?_
  refine sm_icmp_ne (Y := mX3_path) (pc := 56) 67 (by decide) dX3_path_56 (fun hc => ?_) (fun hc => ?_)
  · replace h := h.1 hc
    refine sm_iload (Y := mX3_path) (pc := 67) 6 6 rfl dX3_path_67 ?_
    refine sm_if_ne (Y := mX3_path) (pc := 69) 78 (by decide) dX3_path_69 (fun hc => ?_) (fun hc => ?_)
    · replace h := h.1 hc
      refine sm_iload_n (Y := mX3_path) (pc := 78) 0 0 rfl rfl dX3_path_78 ?_
      refine sm_iload_n (Y := mX3_path) (pc := 79) 1 1 rfl rfl dX3_path_79 ?_
      refine sm_isub (Y := mX3_path) (pc := 80) dX3_path_80 ?_
      refine sm_istore (Y := mX3_path) (pc := 81) (fun y => [(7, .int y), (0, .int x0), (1, .int x1), (2, .int x2), (3, .int x3), (4, .int x4), (5, .int x5), (6, .int x6)]) 7 (by decide) (fun _ => rfl) dX3_path_81 (fun x7_1 ex7_1 => ?_)
      replace h := h x7_1 ex7_1
      refine sm_iload (Y := mX3_path) (pc := 83) 7 6 rfl dX3_path_83 ?_
      refine sm_iconst (Y := mX3_path) (pc := 85) 2 (by decide) dX3_path_85 ?_
      refine sm_icmp_ne (Y := mX3_path) (pc := 86) 96 (by decide) dX3_path_86 (fun hc => ?_) (fun hc => ?_)
      · replace h := h.1 hc
        refine sm_iload_n (Y := mX3_path) (pc := 96) 2 1 rfl rfl dX3_path_96 ?_
        refine sm_sub [1, 2, 3, 4, 5, 6, 7, 0] rfl ?_
        exact h
      · replace h := h.2 hc
        refine sm_iload_n (Y := mX3_path) (pc := 89) 1 0 rfl rfl dX3_path_89 ?_
        refine sm_is_I (Y := mX3_path) (pc := 90) (As := [.int x0]) fJ9_abs_0f7a4 wRX3_9 rfl (Nat.le_trans (by decide) hd) (Nat.le_of_ble_eq_true rfl) ⟨Nat.le_refl _, Nat.le_refl _⟩ dX3_path_90 rfl (sm_monoI h (fun r_3 m_2 h => ?_))
        refine sm_goto (Y := mX3_path) (pc := 93) 97 (by decide) dX3_path_93 ?_
        refine sm_sub [1, 2, 3, 4, 5, 6, 7, 0] rfl ?_
        exact h
    · replace h := h.2 hc
      refine sm_iload_n (Y := mX3_path) (pc := 72) 0 0 rfl rfl dX3_path_72 ?_
      refine sm_iload_n (Y := mX3_path) (pc := 73) 1 1 rfl rfl dX3_path_73 ?_
      refine sm_iadd (Y := mX3_path) (pc := 74) dX3_path_74 ?_
      refine sm_goto (Y := mX3_path) (pc := 75) 81 (by decide) dX3_path_75 ?_
      refine sm_istore (Y := mX3_path) (pc := 81) (fun y => [(7, .int y), (0, .int x0), (1, .int x1), (2, .int x2), (3, .int x3), (4, .int x4), (5, .int x5), (6, .int x6)]) 7 (by decide) (fun _ => rfl) dX3_path_81 (fun x7_4 ex7_4 => ?_)
      replace h := h x7_4 ex7_4
      refine sm_iload (Y := mX3_path) (pc := 83) 7 6 rfl dX3_path_83 ?_
      refine sm_iconst (Y := mX3_path) (pc := 85) 2 (by decide) dX3_path_85 ?_
      refine sm_icmp_ne (Y := mX3_path) (pc := 86) 96 (by decide) dX3_path_86 (fun hc => ?_) (fun hc => ?_)
      · replace h := h.1 hc
        refine sm_iload_n (Y := mX3_path) (pc := 96) 2 1 rfl rfl dX3_path_96 ?_
        refine sm_sub [1, 2, 3, 4, 5, 6, 7, 0] rfl ?_
        exact h
      · replace h := h.2 hc
        refine sm_iload_n (Y := mX3_path) (pc := 89) 1 0 rfl rfl dX3_path_89 ?_
        refine sm_is_I (Y := mX3_path) (pc := 90) (As := [.int x0]) fJ9_abs_0f7a4 wRX3_9 rfl (Nat.le_trans (by decide) hd) (Nat.le_of_ble_eq_true rfl) ⟨Nat.le_refl _, Nat.le_refl _⟩ dX3_path_90 rfl (sm_monoI h (fun r_6 m_5 h => ?_))
        refine sm_goto (Y := mX3_path) (pc := 93) 97 (by decide) dX3_path_93 ?_
        refine sm_sub [1, 2, 3, 4, 5, 6, 7, 0] rfl ?_
        exact h
  · replace h := h.2 hc
    refine sm_iload_n (Y := mX3_path) (pc := 59) 0 0 rfl rfl dX3_path_59 ?_
    refine sm_iload_n (Y := mX3_path) (pc := 60) 1 1 rfl rfl dX3_path_60 ?_
    refine sm_is_I (Y := mX3_path) (pc := 61) (As := [.int x0, .int x1]) fX3_turnedTop wRX3_39 rfl (Nat.le_trans (by decide) hd) (Nat.le_of_ble_eq_true rfl) ⟨Nat.le_refl _, Nat.le_refl _⟩ dX3_path_61 rfl (sm_monoI h (fun r_8 m_7 h => ?_))
    refine sm_goto (Y := mX3_path) (pc := 64) 81 (by decide) dX3_path_64 ?_
    refine sm_istore0 (Y := mX3_path) (pc := 81) [(7, .int r_8), (0, .int x0), (1, .int x1), (2, .int x2), (3, .int x3), (4, .int x4), (5, .int x5), (6, .int x6)] 7 (by decide) rfl dX3_path_81 ?_
    refine sm_iload (Y := mX3_path) (pc := 83) 7 6 rfl dX3_path_83 ?_
    refine sm_iconst (Y := mX3_path) (pc := 85) 2 (by decide) dX3_path_85 ?_
    refine sm_icmp_ne (Y := mX3_path) (pc := 86) 96 (by decide) dX3_path_86 (fun hc => ?_) (fun hc => ?_)
    · replace h := h.1 hc
      refine sm_iload_n (Y := mX3_path) (pc := 96) 2 1 rfl rfl dX3_path_96 ?_
      refine sm_sub [1, 2, 3, 4, 5, 6, 7, 0] rfl ?_
      exact h
    · replace h := h.2 hc
      refine sm_iload_n (Y := mX3_path) (pc := 89) 1 0 rfl rfl dX3_path_89 ?_
      refine sm_is_I (Y := mX3_path) (pc := 90) (As := [.int x0]) fJ9_abs_0f7a4 wRX3_9 rfl (Nat.le_trans (by decide) hd) (Nat.le_of_ble_eq_true rfl) ⟨Nat.le_refl _, Nat.le_refl _⟩ dX3_path_90 rfl (sm_monoI h (fun r_11 m_10 h => ?_))
      refine sm_goto (Y := mX3_path) (pc := 93) 97 (by decide) dX3_path_93 ?_
      refine sm_sub [1, 2, 3, 4, 5, 6, 7, 0] rfl ?_
      exact h
theorem dX3_path_25 : decode cX3_path 25 = .ok (.iload 6, 2) := dk_iload 6 (b := 6) (by decide +kernel) (by decide +kernel) (by decide +kernel)
theorem dX3_path_27 : decode cX3_path 27 = .ok (.iconst 2, 1) := dk_iconst_2 (by decide +kernel)
theorem dX3_path_28 : decode cX3_path 28 = .ok (.if_icmp .gt 108, 3) := dk_if_icmp_gt 108 (b1 := 0) (b2 := 108) (by decide +kernel) (by decide +kernel) (by decide +kernel) (by decide +kernel)
theorem dX3_path_136 : decode cX3_path 136 = .ok (.iconst (-1), 1) := dk_iconst_m1 (by decide +kernel)
theorem dX3_path_137 : decode cX3_path 137 = .ok (.ireturn, 1) := dk_ireturn (by decide +kernel)
theorem dX3_path_31 : decode cX3_path 31 = .ok (.iload 5, 2) := dk_iload 5 (b := 5) (by decide +kernel) (by decide +kernel) (by decide +kernel)
theorem dX3_path_33 : decode cX3_path 33 = .ok (.iconst 1, 1) := dk_iconst_1 (by decide +kernel)
theorem dX3_path_34 : decode cX3_path 34 = .ok (.if_icmp .le 19, 3) := dk_if_icmp_le 19 (b1 := 0) (b2 := 19) (by decide +kernel) (by decide +kernel) (by decide +kernel) (by decide +kernel)
theorem dX3_path_37 : decode cX3_path 37 = .ok (.iload 5, 2) := dk_iload 5 (b := 5) (by decide +kernel) (by decide +kernel) (by decide +kernel)
theorem dX3_path_39 : decode cX3_path 39 = .ok (.bipush 10, 2) := dk_bipush 10 (b := 10) (by decide +kernel) (by decide +kernel) (by decide +kernel)
theorem dX3_path_41 : decode cX3_path 41 = .ok (.irem, 1) := dk_irem (by decide +kernel)
theorem dX3_path_42 : decode cX3_path 42 = .ok (.iload 6, 2) := dk_iload 6 (b := 6) (by decide +kernel) (by decide +kernel) (by decide +kernel)
theorem wRX3_35 : Cond.methodLink RX3 35 yX3_undoes ∈ sm_T := sm_in 715 (by decide +kernel) (by decide +kernel)
abbrev mX3_undoes : sm_Y := (yX3_undoes, cX3_undoes, 2, (some FieldType.boolean))
theorem fX3_undoes : sm_mt mX3_undoes 2 := ⟨sm_in 717 (by decide +kernel) (by decide +kernel), sm_in 716 (by decide +kernel) (by decide +kernel), sm_in 94 (by decide +kernel) (by decide +kernel), ⟨by decide +kernel, by decide +kernel, by decide +kernel⟩, by decide⟩
theorem dX3_path_44 : decode cX3_path 44 = .ok (.invokestatic 35, 3) := dk_invokestatic 35 (b1 := 0) (b2 := 35) (by decide +kernel) (by decide +kernel) (by decide +kernel) (by decide +kernel)
theorem dX3_path_47 : decode cX3_path 47 = .ok (.ifCond .eq 6, 3) := dk_ifCond_eq 6 (b1 := 0) (b2 := 6) (by decide +kernel) (by decide +kernel) (by decide +kernel) (by decide +kernel)
theorem dX3_path_50 : decode cX3_path 50 = .ok (.goto 80, 3) := dk_goto 80 (b1 := 0) (b2 := 80) (by decide +kernel) (by decide +kernel) (by decide +kernel) (by decide +kernel)
set_option maxRecDepth 20000 in
theorem vX3_path_25 {E : sm_E} {L : sm_S → Prop} {d : Nat} {vs : List Value} {x0 : Int32} {x1 : Int32} {x2 : Int32} {x3 : Int32} {x4 : Int32} {x5 : Int32} {x6 : Int32}  {m : sm_M} {Q : Int32 → sm_M → Prop}  {dr : Nat} (hd : 4 ≤ d) (hr : dr + 1 ≤ d) 
  (h : (2 < x6 →
      Q (-1) m) ∧
   (¬ 2 < x6 →
      (x5 ≤ 1 →
         gX3_path_53 E L d vs x0 x1 x2 x3 x4 x5 x6 m Q) ∧
      (¬ x5 ≤ 1 →
         sm_callI E L mX3_undoes 1 0 0 [.int (sm_rem x5 10), .int x6] m (fun r_2 m_1 =>
         (r_2 = 0 →
            gX3_path_53 E L d vs x0 x1 x2 x3 x4 x5 x6 m_1 Q) ∧
         (¬ r_2 = 0 →
            ∀ x6_3 : Int32, x6_3 = x6 + 1 →
            gX3_path_25 E L d vs x0 x1 x2 x3 x4 x5 x6_3 m_1 Q))))) :
  gX3_path_25 E L d vs x0 x1 x2 x3 x4 x5 x6 m Q := by
  refine sm_iload (Y := mX3_path) (pc := 25) 6 6 rfl dX3_path_25 ?_
  refine sm_iconst (Y := mX3_path) (pc := 27) 2 (by decide) dX3_path_27 ?_
  refine sm_icmp_gt (Y := mX3_path) (pc := 28) 136 (by decide) dX3_path_28 (fun hc => ?_) (fun hc => ?_)
  · replace h := h.1 hc
    refine sm_iconst (Y := mX3_path) (pc := 136) (-1) (by decide) dX3_path_136 ?_
    exact sm_iret (Y := mX3_path) (pc := 137) rfl rfl rfl dX3_path_137 ⟨_, rfl, h⟩
  · replace h := h.2 hc
    refine sm_iload (Y := mX3_path) (pc := 31) 5 5 rfl dX3_path_31 ?_
    refine sm_iconst (Y := mX3_path) (pc := 33) 1 (by decide) dX3_path_33 ?_
    refine sm_icmp_le (Y := mX3_path) (pc := 34) 53 (by decide) dX3_path_34 (fun hc => ?_) (fun hc => ?_)
    · replace h := h.1 hc
      exact h
    · replace h := h.2 hc
      refine sm_iload (Y := mX3_path) (pc := 37) 5 5 rfl dX3_path_37 ?_
      refine sm_bipush (Y := mX3_path) (pc := 39) 10 (by decide) dX3_path_39 ?_
      refine sm_irem (Y := mX3_path) (pc := 41) (by decide) dX3_path_41 ?_
      refine sm_iload (Y := mX3_path) (pc := 42) 6 6 rfl dX3_path_42 ?_
      refine sm_is_I (Y := mX3_path) (pc := 44) (As := [.int (sm_rem x5 10), .int x6]) fX3_undoes wRX3_35 rfl (Nat.le_trans (by decide) hd) (Nat.le_of_ble_eq_true rfl) ⟨Nat.le_refl _, Nat.le_refl _⟩ dX3_path_44 rfl (sm_monoI h (fun r_2 m_1 h => ?_))
      refine sm_if_eq (Y := mX3_path) (pc := 47) 53 (by decide) dX3_path_47 (fun hc => ?_) (fun hc => ?_)
      · replace h := h.1 hc
        exact h
      · replace h := h.2 hc
        refine sm_goto (Y := mX3_path) (pc := 50) 130 (by decide) dX3_path_50 ?_
        refine sm_iinc (Y := mX3_path) (pc := 130) (fun y => [(6, .int y), (0, .int x0), (1, .int x1), (2, .int x2), (3, .int x3), (4, .int x4), (5, .int x5)]) 6 6 rfl (by decide) (fun _ => rfl) dX3_path_130 (fun x6_3 ex6_3 => ?_)
        replace h := h x6_3 ex6_3
        refine sm_goto (Y := mX3_path) (pc := 133) 25 (by decide) dX3_path_133 ?_
        refine sm_sub [1, 2, 3, 4, 5, 6, 0] rfl ?_
        exact h
theorem dX3_path_0 : decode cX3_path 0 = .ok (.iload 4, 2) := dk_iload 4 (b := 4) (by decide +kernel) (by decide +kernel) (by decide +kernel)
theorem dX3_path_2 : decode cX3_path 2 = .ok (.ifCond .gt 20, 3) := dk_ifCond_gt 20 (b1 := 0) (b2 := 20) (by decide +kernel) (by decide +kernel) (by decide +kernel) (by decide +kernel)
theorem dX3_path_22 : decode cX3_path 22 = .ok (.iconst 0, 1) := dk_iconst_0 (by decide +kernel)
theorem dX3_path_23 : decode cX3_path 23 = .ok (.istore 6, 2) := dk_istore 6 (b := 6) (by decide +kernel) (by decide +kernel) (by decide +kernel)
theorem dX3_path_5 : decode cX3_path 5 = .ok (.iload_n 0, 1) := dk_iload_n_0 (by decide +kernel)
theorem dX3_path_6 : decode cX3_path 6 = .ok (.iload_n 2, 1) := dk_iload_n_2 (by decide +kernel)
theorem dX3_path_7 : decode cX3_path 7 = .ok (.if_icmp .ne 13, 3) := dk_if_icmp_ne 13 (b1 := 0) (b2 := 13) (by decide +kernel) (by decide +kernel) (by decide +kernel) (by decide +kernel)
theorem dX3_path_20 : decode cX3_path 20 = .ok (.iconst (-1), 1) := dk_iconst_m1 (by decide +kernel)
theorem dX3_path_21 : decode cX3_path 21 = .ok (.ireturn, 1) := dk_ireturn (by decide +kernel)
theorem dX3_path_10 : decode cX3_path 10 = .ok (.iload_n 1, 1) := dk_iload_n_1 (by decide +kernel)
theorem dX3_path_11 : decode cX3_path 11 = .ok (.iload_n 3, 1) := dk_iload_n_3 (by decide +kernel)
theorem dX3_path_12 : decode cX3_path 12 = .ok (.if_icmp .ne 8, 3) := dk_if_icmp_ne 8 (b1 := 0) (b2 := 8) (by decide +kernel) (by decide +kernel) (by decide +kernel) (by decide +kernel)
theorem dX3_path_15 : decode cX3_path 15 = .ok (.iload 5, 2) := dk_iload 5 (b := 5) (by decide +kernel) (by decide +kernel) (by decide +kernel)
theorem dX3_path_17 : decode cX3_path 17 = .ok (.goto 4, 3) := dk_goto 4 (b1 := 0) (b2 := 4) (by decide +kernel) (by decide +kernel) (by decide +kernel) (by decide +kernel)
set_option maxRecDepth 20000 in
theorem vX3_path_0 {E : sm_E} {L : sm_S → Prop} {d : Nat} {x0 : Int32} {x1 : Int32} {x2 : Int32} {x3 : Int32} {x4 : Int32} {x5 : Int32}  {m : sm_M} {Q : Int32 → sm_M → Prop}  {dr : Nat} (hd : 4 ≤ d) (hr : dr + 1 ≤ d) 
  (h : (0 < x4 →
      gX3_path_25 E L d ([.int x0, .int x1, .int x2, .int x3, .int x4, .int x5]) x0 x1 x2 x3 x4 x5 0 m Q) ∧
   (¬ 0 < x4 →
      (¬ x0 = x2 →
         Q (-1) m) ∧
      (x0 = x2 →
         (¬ x1 = x3 →
            Q (-1) m) ∧
         (x1 = x3 →
            Q x5 m)))) :
  sm_callI E L mX3_path d 0 0 [.int x0, .int x1, .int x2, .int x3, .int x4, .int x5] m Q := by
  refine sm_enter (by decide +kernel) (by simp [lg_sl, Value.category]) ?_
  refine sm_iload (Y := mX3_path) (pc := 0) 4 4 rfl dX3_path_0 ?_
  refine sm_if_gt (Y := mX3_path) (pc := 2) 22 (by decide) dX3_path_2 (fun hc => ?_) (fun hc => ?_)
  · replace h := h.1 hc
    refine sm_iconst (Y := mX3_path) (pc := 22) 0 (by decide) dX3_path_22 ?_
    refine sm_istore0 (Y := mX3_path) (pc := 23) [(6, .int 0), (0, .int x0), (1, .int x1), (2, .int x2), (3, .int x3), (4, .int x4), (5, .int x5)] 6 (by decide) rfl dX3_path_23 ?_
    refine sm_sub [1, 2, 3, 4, 5, 6, 0] rfl ?_
    exact h
  · replace h := h.2 hc
    refine sm_iload_n (Y := mX3_path) (pc := 5) 0 0 rfl rfl dX3_path_5 ?_
    refine sm_iload_n (Y := mX3_path) (pc := 6) 2 2 rfl rfl dX3_path_6 ?_
    refine sm_icmp_ne (Y := mX3_path) (pc := 7) 20 (by decide) dX3_path_7 (fun hc => ?_) (fun hc => ?_)
    · replace h := h.1 hc
      refine sm_iconst (Y := mX3_path) (pc := 20) (-1) (by decide) dX3_path_20 ?_
      exact sm_iret (Y := mX3_path) (pc := 21) rfl rfl rfl dX3_path_21 ⟨_, rfl, h⟩
    · replace h := h.2 hc
      refine sm_iload_n (Y := mX3_path) (pc := 10) 1 1 rfl rfl dX3_path_10 ?_
      refine sm_iload_n (Y := mX3_path) (pc := 11) 3 3 rfl rfl dX3_path_11 ?_
      refine sm_icmp_ne (Y := mX3_path) (pc := 12) 20 (by decide) dX3_path_12 (fun hc => ?_) (fun hc => ?_)
      · replace h := h.1 hc
        refine sm_iconst (Y := mX3_path) (pc := 20) (-1) (by decide) dX3_path_20 ?_
        exact sm_iret (Y := mX3_path) (pc := 21) rfl rfl rfl dX3_path_21 ⟨_, rfl, h⟩
      · replace h := h.2 hc
        refine sm_iload (Y := mX3_path) (pc := 15) 5 5 rfl dX3_path_15 ?_
        refine sm_goto (Y := mX3_path) (pc := 17) 21 (by decide) dX3_path_17 ?_
        exact sm_iret (Y := mX3_path) (pc := 21) rfl rfl rfl dX3_path_21 ⟨_, rfl, h⟩
theorem dX3_turnedTop_0 : decode cX3_turnedTop 0 = .ok (.iload_n 0, 1) := dk_iload_n_0 (by decide +kernel)
theorem dX3_turnedTop_1 : decode cX3_turnedTop 1 = .ok (.ifCond .ne 5, 3) := dk_ifCond_ne 5 (b1 := 0) (b2 := 5) (by decide +kernel) (by decide +kernel) (by decide +kernel) (by decide +kernel)
theorem dX3_turnedTop_6 : decode cX3_turnedTop 6 = .ok (.iload_n 0, 1) := dk_iload_n_0 (by decide +kernel)
theorem dX3_turnedTop_7 : decode cX3_turnedTop 7 = .ok (.ifCond .le 8, 3) := dk_ifCond_le 8 (b1 := 0) (b2 := 8) (by decide +kernel) (by decide +kernel) (by decide +kernel) (by decide +kernel)
theorem dX3_turnedTop_15 : decode cX3_turnedTop 15 = .ok (.iload_n 1, 1) := dk_iload_n_1 (by decide +kernel)
theorem dX3_turnedTop_16 : decode cX3_turnedTop 16 = .ok (.ireturn, 1) := dk_ireturn (by decide +kernel)
theorem dX3_turnedTop_10 : decode cX3_turnedTop 10 = .ok (.iload_n 1, 1) := dk_iload_n_1 (by decide +kernel)
theorem dX3_turnedTop_11 : decode cX3_turnedTop 11 = .ok (.ineg, 1) := dk_ineg (by decide +kernel)
theorem dX3_turnedTop_12 : decode cX3_turnedTop 12 = .ok (.goto 4, 3) := dk_goto 4 (b1 := 0) (b2 := 4) (by decide +kernel) (by decide +kernel) (by decide +kernel) (by decide +kernel)
theorem dX3_turnedTop_4 : decode cX3_turnedTop 4 = .ok (.iconst 1, 1) := dk_iconst_1 (by decide +kernel)
theorem dX3_turnedTop_5 : decode cX3_turnedTop 5 = .ok (.ireturn, 1) := dk_ireturn (by decide +kernel)
set_option maxRecDepth 20000 in
theorem vX3_turnedTop_0 {E : sm_E} {L : sm_S → Prop} {d : Nat} {x0 : Int32} {x1 : Int32}  {m : sm_M} {Q : Int32 → sm_M → Prop}  (hd : 1 ≤ d) 
  (h : (¬ x0 = 0 →
      (x0 ≤ 0 →
         Q x1 m) ∧
      (¬ x0 ≤ 0 →
         Q (-x1) m)) ∧
   (x0 = 0 →
      Q 1 m)) :
  sm_callI E L mX3_turnedTop d 0 0 [.int x0, .int x1] m Q := by
  refine sm_enter (by decide +kernel) (by simp [lg_sl, Value.category]) ?_
  refine sm_iload_n (Y := mX3_turnedTop) (pc := 0) 0 0 rfl rfl dX3_turnedTop_0 ?_
  refine sm_if_ne (Y := mX3_turnedTop) (pc := 1) 6 (by decide) dX3_turnedTop_1 (fun hc => ?_) (fun hc => ?_)
  · replace h := h.1 hc
    refine sm_iload_n (Y := mX3_turnedTop) (pc := 6) 0 0 rfl rfl dX3_turnedTop_6 ?_
    refine sm_if_le (Y := mX3_turnedTop) (pc := 7) 15 (by decide) dX3_turnedTop_7 (fun hc => ?_) (fun hc => ?_)
    · replace h := h.1 hc
      refine sm_iload_n (Y := mX3_turnedTop) (pc := 15) 1 1 rfl rfl dX3_turnedTop_15 ?_
      exact sm_iret (Y := mX3_turnedTop) (pc := 16) rfl rfl rfl dX3_turnedTop_16 ⟨_, rfl, h⟩
    · replace h := h.2 hc
      refine sm_iload_n (Y := mX3_turnedTop) (pc := 10) 1 1 rfl rfl dX3_turnedTop_10 ?_
      refine sm_ineg (Y := mX3_turnedTop) (pc := 11) dX3_turnedTop_11 ?_
      refine sm_goto (Y := mX3_turnedTop) (pc := 12) 16 (by decide) dX3_turnedTop_12 ?_
      exact sm_iret (Y := mX3_turnedTop) (pc := 16) rfl rfl rfl dX3_turnedTop_16 ⟨_, rfl, h⟩
  · replace h := h.2 hc
    refine sm_iconst (Y := mX3_turnedTop) (pc := 4) 1 (by decide) dX3_turnedTop_4 ?_
    exact sm_iret (Y := mX3_turnedTop) (pc := 5) rfl rfl rfl dX3_turnedTop_5 ⟨_, rfl, h⟩
theorem dX3_undoes_0 : decode cX3_undoes 0 = .ok (.iload_n 0, 1) := dk_iload_n_0 (by decide +kernel)
theorem dX3_undoes_1 : decode cX3_undoes 1 = .ok (.iconst 2, 1) := dk_iconst_2 (by decide +kernel)
theorem dX3_undoes_2 : decode cX3_undoes 2 = .ok (.if_icmp .ne 16, 3) := dk_if_icmp_ne 16 (b1 := 0) (b2 := 16) (by decide +kernel) (by decide +kernel) (by decide +kernel) (by decide +kernel)
theorem dX3_undoes_18 : decode cX3_undoes 18 = .ok (.iload_n 0, 1) := dk_iload_n_0 (by decide +kernel)
theorem dX3_undoes_19 : decode cX3_undoes 19 = .ok (.iload_n 1, 1) := dk_iload_n_1 (by decide +kernel)
theorem dX3_undoes_20 : decode cX3_undoes 20 = .ok (.iadd, 1) := dk_iadd (by decide +kernel)
theorem dX3_undoes_21 : decode cX3_undoes 21 = .ok (.iconst 1, 1) := dk_iconst_1 (by decide +kernel)
theorem dX3_undoes_22 : decode cX3_undoes 22 = .ok (.if_icmp .ne 7, 3) := dk_if_icmp_ne 7 (b1 := 0) (b2 := 7) (by decide +kernel) (by decide +kernel) (by decide +kernel) (by decide +kernel)
theorem dX3_undoes_29 : decode cX3_undoes 29 = .ok (.iconst 0, 1) := dk_iconst_0 (by decide +kernel)
theorem dX3_undoes_30 : decode cX3_undoes 30 = .ok (.ireturn, 1) := dk_ireturn (by decide +kernel)
theorem dX3_undoes_25 : decode cX3_undoes 25 = .ok (.iconst 1, 1) := dk_iconst_1 (by decide +kernel)
theorem dX3_undoes_26 : decode cX3_undoes 26 = .ok (.goto 4, 3) := dk_goto 4 (b1 := 0) (b2 := 4) (by decide +kernel) (by decide +kernel) (by decide +kernel) (by decide +kernel)
theorem dX3_undoes_5 : decode cX3_undoes 5 = .ok (.iload_n 1, 1) := dk_iload_n_1 (by decide +kernel)
theorem dX3_undoes_6 : decode cX3_undoes 6 = .ok (.iconst 2, 1) := dk_iconst_2 (by decide +kernel)
theorem dX3_undoes_7 : decode cX3_undoes 7 = .ok (.if_icmp .ne 7, 3) := dk_if_icmp_ne 7 (b1 := 0) (b2 := 7) (by decide +kernel) (by decide +kernel) (by decide +kernel) (by decide +kernel)
theorem dX3_undoes_14 : decode cX3_undoes 14 = .ok (.iconst 0, 1) := dk_iconst_0 (by decide +kernel)
theorem dX3_undoes_15 : decode cX3_undoes 15 = .ok (.goto 15, 3) := dk_goto 15 (b1 := 0) (b2 := 15) (by decide +kernel) (by decide +kernel) (by decide +kernel) (by decide +kernel)
theorem dX3_undoes_10 : decode cX3_undoes 10 = .ok (.iconst 1, 1) := dk_iconst_1 (by decide +kernel)
theorem dX3_undoes_11 : decode cX3_undoes 11 = .ok (.goto 19, 3) := dk_goto 19 (b1 := 0) (b2 := 19) (by decide +kernel) (by decide +kernel) (by decide +kernel) (by decide +kernel)
set_option maxRecDepth 20000 in
theorem vX3_undoes_0 {E : sm_E} {L : sm_S → Prop} {d : Nat} {x0 : Int32} {x1 : Int32}  {m : sm_M} {Q : Int32 → sm_M → Prop}  (hd : 1 ≤ d) 
  (h : (¬ x0 = 2 →
      (¬ (x0 + x1) = 1 →
         Q 0 m) ∧
      ((x0 + x1) = 1 →
         Q 1 m)) ∧
   (x0 = 2 →
      (¬ x1 = 2 →
         Q 0 m) ∧
      (x1 = 2 →
         Q 1 m))) :
  sm_callI E L mX3_undoes d 0 0 [.int x0, .int x1] m Q := by
  refine sm_enter (by decide +kernel) (by simp [lg_sl, Value.category]) ?_
  refine sm_iload_n (Y := mX3_undoes) (pc := 0) 0 0 rfl rfl dX3_undoes_0 ?_
  refine sm_iconst (Y := mX3_undoes) (pc := 1) 2 (by decide) dX3_undoes_1 ?_
  refine sm_icmp_ne (Y := mX3_undoes) (pc := 2) 18 (by decide) dX3_undoes_2 (fun hc => ?_) (fun hc => ?_)
  · replace h := h.1 hc
    refine sm_iload_n (Y := mX3_undoes) (pc := 18) 0 0 rfl rfl dX3_undoes_18 ?_
    refine sm_iload_n (Y := mX3_undoes) (pc := 19) 1 1 rfl rfl dX3_undoes_19 ?_
    refine sm_iadd (Y := mX3_undoes) (pc := 20) dX3_undoes_20 ?_
    refine sm_iconst (Y := mX3_undoes) (pc := 21) 1 (by decide) dX3_undoes_21 ?_
    refine sm_icmp_ne (Y := mX3_undoes) (pc := 22) 29 (by decide) dX3_undoes_22 (fun hc => ?_) (fun hc => ?_)
    · replace h := h.1 hc
      refine sm_iconst (Y := mX3_undoes) (pc := 29) 0 (by decide) dX3_undoes_29 ?_
      exact sm_zret (Y := mX3_undoes) (pc := 30) rfl (by decide) rfl rfl dX3_undoes_30 ⟨_, rfl, h⟩
    · replace h := h.2 hc
      refine sm_iconst (Y := mX3_undoes) (pc := 25) 1 (by decide) dX3_undoes_25 ?_
      refine sm_goto (Y := mX3_undoes) (pc := 26) 30 (by decide) dX3_undoes_26 ?_
      exact sm_zret (Y := mX3_undoes) (pc := 30) rfl (by decide) rfl rfl dX3_undoes_30 ⟨_, rfl, h⟩
  · replace h := h.2 hc
    refine sm_iload_n (Y := mX3_undoes) (pc := 5) 1 1 rfl rfl dX3_undoes_5 ?_
    refine sm_iconst (Y := mX3_undoes) (pc := 6) 2 (by decide) dX3_undoes_6 ?_
    refine sm_icmp_ne (Y := mX3_undoes) (pc := 7) 14 (by decide) dX3_undoes_7 (fun hc => ?_) (fun hc => ?_)
    · replace h := h.1 hc
      refine sm_iconst (Y := mX3_undoes) (pc := 14) 0 (by decide) dX3_undoes_14 ?_
      refine sm_goto (Y := mX3_undoes) (pc := 15) 30 (by decide) dX3_undoes_15 ?_
      exact sm_zret (Y := mX3_undoes) (pc := 30) rfl (by decide) rfl rfl dX3_undoes_30 ⟨_, rfl, h⟩
    · replace h := h.2 hc
      refine sm_iconst (Y := mX3_undoes) (pc := 10) 1 (by decide) dX3_undoes_10 ?_
      refine sm_goto (Y := mX3_undoes) (pc := 11) 30 (by decide) dX3_undoes_11 ?_
      exact sm_zret (Y := mX3_undoes) (pc := 30) rfl (by decide) rfl rfl dX3_undoes_30 ⟨_, rfl, h⟩
abbrev mX6_topOf : sm_Y := (yX6_topOf, cX6_topOf, 2, (some FieldType.int))
theorem fX6_topOf : sm_mt mX6_topOf 1 := ⟨sm_in 918 (by decide +kernel) (by decide +kernel), sm_in 917 (by decide +kernel) (by decide +kernel), sm_in 101 (by decide +kernel) (by decide +kernel), ⟨by decide +kernel, by decide +kernel, by decide +kernel⟩, by decide⟩
theorem dX6_topOf_0 : decode cX6_topOf 0 = .ok (.lload_n 0, 1) := dk_lload_n_0 (by decide +kernel)
theorem dX6_topOf_1 : decode cX6_topOf 1 = .ok (.bipush 32, 2) := dk_bipush 32 (b := 32) (by decide +kernel) (by decide +kernel) (by decide +kernel)
theorem dX6_topOf_3 : decode cX6_topOf 3 = .ok (.lshr, 1) := dk_lshr (by decide +kernel)
theorem dX6_topOf_4 : decode cX6_topOf 4 = .ok (.l2i, 1) := dk_l2i (by decide +kernel)
theorem dX6_topOf_5 : decode cX6_topOf 5 = .ok (.ireturn, 1) := dk_ireturn (by decide +kernel)
set_option maxRecDepth 20000 in
theorem vX6_topOf_0 {E : sm_E} {L : sm_S → Prop} {d : Nat} {x0 : Int64}  {m : sm_M} {Q : Int32 → sm_M → Prop}  (hd : 1 ≤ d) 
  (h : Q ((x0 >>> ((32 : Int32).toInt64 &&& 63)).toInt32) m) :
  sm_callI E L mX6_topOf d 0 0 [.long x0] m Q := by
  refine sm_enter (by decide +kernel) (by simp [lg_sl, Value.category]) ?_
  refine sm_lload_n (Y := mX6_topOf) (pc := 0) 0 0 rfl rfl dX6_topOf_0 ?_
  refine sm_bipush (Y := mX6_topOf) (pc := 1) 32 (by decide) dX6_topOf_1 ?_
  refine sm_lshr (Y := mX6_topOf) (pc := 3) dX6_topOf_3 ?_
  refine sm_l2i (Y := mX6_topOf) (pc := 4) dX6_topOf_4 ?_
  exact sm_iret (Y := mX6_topOf) (pc := 5) rfl rfl rfl dX6_topOf_5 ⟨_, rfl, h⟩
abbrev mX6_bottomOf : sm_Y := (yX6_bottomOf, cX6_bottomOf, 2, (some FieldType.int))
theorem fX6_bottomOf : sm_mt mX6_bottomOf 1 := ⟨sm_in 921 (by decide +kernel) (by decide +kernel), sm_in 920 (by decide +kernel) (by decide +kernel), sm_in 101 (by decide +kernel) (by decide +kernel), ⟨by decide +kernel, by decide +kernel, by decide +kernel⟩, by decide⟩
theorem dX6_bottomOf_0 : decode cX6_bottomOf 0 = .ok (.lload_n 0, 1) := dk_lload_n_0 (by decide +kernel)
theorem dX6_bottomOf_1 : decode cX6_bottomOf 1 = .ok (.l2i, 1) := dk_l2i (by decide +kernel)
theorem dX6_bottomOf_2 : decode cX6_bottomOf 2 = .ok (.ireturn, 1) := dk_ireturn (by decide +kernel)
set_option maxRecDepth 20000 in
theorem vX6_bottomOf_0 {E : sm_E} {L : sm_S → Prop} {d : Nat} {x0 : Int64}  {m : sm_M} {Q : Int32 → sm_M → Prop}  (hd : 1 ≤ d) 
  (h : Q (x0.toInt32) m) :
  sm_callI E L mX6_bottomOf d 0 0 [.long x0] m Q := by
  refine sm_enter (by decide +kernel) (by simp [lg_sl, Value.category]) ?_
  refine sm_lload_n (Y := mX6_bottomOf) (pc := 0) 0 0 rfl rfl dX6_bottomOf_0 ?_
  refine sm_l2i (Y := mX6_bottomOf) (pc := 1) dX6_bottomOf_1 ?_
  exact sm_iret (Y := mX6_bottomOf) (pc := 2) rfl rfl rfl dX6_bottomOf_2 ⟨_, rfl, h⟩
abbrev mX6_pair : sm_Y := (yX6_pair, cX6_pair, 2, (some FieldType.long))
theorem fX6_pair : sm_mt mX6_pair 2 := ⟨sm_in 907 (by decide +kernel) (by decide +kernel), sm_in 906 (by decide +kernel) (by decide +kernel), sm_in 101 (by decide +kernel) (by decide +kernel), ⟨by decide +kernel, by decide +kernel, by decide +kernel⟩, by decide⟩
theorem dX6_pair_0 : decode cX6_pair 0 = .ok (.iload_n 0, 1) := dk_iload_n_0 (by decide +kernel)
theorem dX6_pair_1 : decode cX6_pair 1 = .ok (.i2l, 1) := dk_i2l (by decide +kernel)
theorem dX6_pair_2 : decode cX6_pair 2 = .ok (.bipush 32, 2) := dk_bipush 32 (b := 32) (by decide +kernel) (by decide +kernel) (by decide +kernel)
theorem dX6_pair_4 : decode cX6_pair 4 = .ok (.lshl, 1) := dk_lshl (by decide +kernel)
theorem dX6_pair_5 : decode cX6_pair 5 = .ok (.iload_n 1, 1) := dk_iload_n_1 (by decide +kernel)
theorem dX6_pair_6 : decode cX6_pair 6 = .ok (.i2l, 1) := dk_i2l (by decide +kernel)
theorem dX6_pair_7 : decode cX6_pair 7 = .ok (.lor, 1) := dk_lor (by decide +kernel)
theorem dX6_pair_8 : decode cX6_pair 8 = .ok (.lreturn, 1) := dk_lreturn (by decide +kernel)
set_option maxRecDepth 20000 in
theorem vX6_pair_0 {E : sm_E} {L : sm_S → Prop} {d : Nat} {x0 : Int32} {x1 : Int32}  {m : sm_M} {Q : Int64 → sm_M → Prop}  (hd : 1 ≤ d) 
  (h : Q (((x0.toInt64) <<< ((32 : Int32).toInt64 &&& 63)) ||| (x1.toInt64)) m) :
  sm_callJ E L mX6_pair d 0 0 [.int x0, .int x1] m Q := by
  refine sm_enter (by decide +kernel) (by simp [lg_sl, Value.category]) ?_
  refine sm_iload_n (Y := mX6_pair) (pc := 0) 0 0 rfl rfl dX6_pair_0 ?_
  refine sm_i2l (Y := mX6_pair) (pc := 1) dX6_pair_1 ?_
  refine sm_bipush (Y := mX6_pair) (pc := 2) 32 (by decide) dX6_pair_2 ?_
  refine sm_lshl (Y := mX6_pair) (pc := 4) dX6_pair_4 ?_
  refine sm_iload_n (Y := mX6_pair) (pc := 5) 1 1 rfl rfl dX6_pair_5 ?_
  refine sm_i2l (Y := mX6_pair) (pc := 6) dX6_pair_6 ?_
  refine sm_lor (Y := mX6_pair) (pc := 7) dX6_pair_7 ?_
  exact sm_lret (Y := mX6_pair) (pc := 8) rfl rfl rfl dX6_pair_8 ⟨_, rfl, h⟩
abbrev mX6_named : sm_Y := (yX6_named, cX6_named, 4, (some FieldType.long))
theorem fX6_named : sm_mt mX6_named 2 := ⟨sm_in 903 (by decide +kernel) (by decide +kernel), sm_in 902 (by decide +kernel) (by decide +kernel), sm_in 101 (by decide +kernel) (by decide +kernel), ⟨by decide +kernel, by decide +kernel, by decide +kernel⟩, by decide⟩
def gX6_named_36 (E : sm_E) (L : sm_S → Prop) (d : Nat) (vs : List Value) (x2 : Int32) (s0 : Int32) (m : sm_M) (Q : Int64 → sm_M → Prop) : Prop := sm_go E L mX6_named d 0 0 vs 36 [(2, .int x2)] [.int s0] m 0 0 (sm_Z E L vs 0 0 (sm_QJ Q))
theorem dX6_named_36 : decode cX6_named 36 = .ok (.iload_n 2, 1) := dk_iload_n_2 (by decide +kernel)
theorem wRX6_19 : Cond.methodLink RX6 19 yJ9_floorMod_7cf53 ∈ sm_T := sm_in 908 (by decide +kernel) (by decide +kernel)
theorem dX6_named_37 : decode cX6_named 37 = .ok (.invokestatic 19, 3) := dk_invokestatic 19 (b1 := 0) (b2 := 19) (by decide +kernel) (by decide +kernel) (by decide +kernel) (by decide +kernel)
theorem dX6_named_40 : decode cX6_named 40 = .ok (.istore_n 3, 1) := dk_istore_n_3 (by decide +kernel)
theorem dX6_named_41 : decode cX6_named 41 = .ok (.iload_n 2, 1) := dk_iload_n_2 (by decide +kernel)
theorem dX6_named_42 : decode cX6_named 42 = .ok (.iload_n 3, 1) := dk_iload_n_3 (by decide +kernel)
theorem dX6_named_43 : decode cX6_named 43 = .ok (.iload_n 3, 1) := dk_iload_n_3 (by decide +kernel)
theorem dX6_named_44 : decode cX6_named 44 = .ok (.iload_n 2, 1) := dk_iload_n_2 (by decide +kernel)
theorem wRX6_23 : Cond.methodLink RX6 23 yX6_inverseOf ∈ sm_T := sm_in 911 (by decide +kernel) (by decide +kernel)
abbrev mX6_inverseOf : sm_Y := (yX6_inverseOf, cX6_inverseOf, 17, (some FieldType.int))
theorem fX6_inverseOf : sm_mt mX6_inverseOf 2 := ⟨sm_in 913 (by decide +kernel) (by decide +kernel), sm_in 912 (by decide +kernel) (by decide +kernel), sm_in 101 (by decide +kernel) (by decide +kernel), ⟨by decide +kernel, by decide +kernel, by decide +kernel⟩, by decide⟩
theorem dX6_named_45 : decode cX6_named 45 = .ok (.invokestatic 23, 3) := dk_invokestatic 23 (b1 := 0) (b2 := 23) (by decide +kernel) (by decide +kernel) (by decide +kernel) (by decide +kernel)
theorem wRX6_26 : Cond.methodLink RX6 26 yJ9_min_7cf53 ∈ sm_T := sm_in 915 (by decide +kernel) (by decide +kernel)
theorem dX6_named_48 : decode cX6_named 48 = .ok (.invokestatic 26, 3) := dk_invokestatic 26 (b1 := 0) (b2 := 26) (by decide +kernel) (by decide +kernel) (by decide +kernel) (by decide +kernel)
theorem wRX6_13 : Cond.methodLink RX6 13 yX6_pair ∈ sm_T := sm_in 905 (by decide +kernel) (by decide +kernel)
theorem dX6_named_51 : decode cX6_named 51 = .ok (.invokestatic 13, 3) := dk_invokestatic 13 (b1 := 0) (b2 := 13) (by decide +kernel) (by decide +kernel) (by decide +kernel) (by decide +kernel)
theorem dX6_named_54 : decode cX6_named 54 = .ok (.lreturn, 1) := dk_lreturn (by decide +kernel)
set_option maxRecDepth 20000 in
theorem vX6_named_36 {E : sm_E} {L : sm_S → Prop} {d : Nat} {vs : List Value} {x2 : Int32} {s0 : Int32}  {m : sm_M} {Q : Int64 → sm_M → Prop}  (hd : 2 ≤ d) 
  (h : sm_callI E L mJ9_floorMod_7cf53 1 0 0 [.int s0, .int x2] m (fun r_2 m_1 =>
   sm_callI E L mX6_inverseOf 1 0 0 [.int r_2, .int x2] m_1 (fun r_5 m_4 =>
   sm_callI E L mJ9_min_7cf53 1 0 0 [.int r_2, .int r_5] m_4 (fun r_7 m_6 =>
   sm_callJ E L mX6_pair 1 0 0 [.int x2, .int r_7] m_6 (fun r_9 m_8 =>
   Q r_9 m_8))))) :
  gX6_named_36 E L d vs x2 s0 m Q := by
  refine sm_iload_n (Y := mX6_named) (pc := 36) 0 2 rfl rfl dX6_named_36 ?_
  refine sm_is_I (Y := mX6_named) (pc := 37) (As := [.int s0, .int x2]) fJ9_floorMod_7cf53 wRX6_19 rfl (Nat.le_trans (by decide) hd) (Nat.le_of_ble_eq_true rfl) ⟨Nat.le_refl _, Nat.le_refl _⟩ dX6_named_37 rfl (sm_monoI h (fun r_2 m_1 h => ?_))
  refine sm_istore0_n (Y := mX6_named) (pc := 40) [(3, .int r_2), (2, .int x2)] 3 rfl (by decide) rfl dX6_named_40 ?_
  refine sm_iload_n (Y := mX6_named) (pc := 41) 1 2 rfl rfl dX6_named_41 ?_
  refine sm_iload_n (Y := mX6_named) (pc := 42) 0 3 rfl rfl dX6_named_42 ?_
  refine sm_iload_n (Y := mX6_named) (pc := 43) 0 3 rfl rfl dX6_named_43 ?_
  refine sm_iload_n (Y := mX6_named) (pc := 44) 1 2 rfl rfl dX6_named_44 ?_
  refine sm_is_I (Y := mX6_named) (pc := 45) (As := [.int r_2, .int x2]) fX6_inverseOf wRX6_23 rfl (Nat.le_trans (by decide) hd) (Nat.le_of_ble_eq_true rfl) ⟨Nat.le_refl _, Nat.le_refl _⟩ dX6_named_45 rfl (sm_monoI h (fun r_5 m_4 h => ?_))
  refine sm_is_I (Y := mX6_named) (pc := 48) (As := [.int r_2, .int r_5]) fJ9_min_7cf53 wRX6_26 rfl (Nat.le_trans (by decide) hd) (Nat.le_of_ble_eq_true rfl) ⟨Nat.le_refl _, Nat.le_refl _⟩ dX6_named_48 rfl (sm_monoI h (fun r_7 m_6 h => ?_))
  refine sm_is_J (Y := mX6_named) (pc := 51) (As := [.int x2, .int r_7]) fX6_pair wRX6_13 rfl (Nat.le_trans (by decide) hd) (Nat.le_of_ble_eq_true rfl) ⟨Nat.le_refl _, Nat.le_refl _⟩ dX6_named_51 rfl (sm_monoJ h (fun r_9 m_8 h => ?_))
  exact sm_lret (Y := mX6_named) (pc := 54) rfl rfl rfl dX6_named_54 ⟨_, rfl, h⟩
theorem dX6_named_0 : decode cX6_named 0 = .ok (.iload_n 0, 1) := dk_iload_n_0 (by decide +kernel)
theorem wRX6_7 : Cond.methodLink RX6 7 yJ9_abs_0f7a4 ∈ sm_T := sm_in 904 (by decide +kernel) (by decide +kernel)
theorem dX6_named_1 : decode cX6_named 1 = .ok (.invokestatic 7, 3) := dk_invokestatic 7 (b1 := 0) (b2 := 7) (by decide +kernel) (by decide +kernel) (by decide +kernel) (by decide +kernel)
theorem dX6_named_4 : decode cX6_named 4 = .ok (.istore_n 2, 1) := dk_istore_n_2 (by decide +kernel)
theorem dX6_named_5 : decode cX6_named 5 = .ok (.iload_n 2, 1) := dk_iload_n_2 (by decide +kernel)
theorem dX6_named_6 : decode cX6_named 6 = .ok (.ifCond .ne 9, 3) := dk_ifCond_ne 9 (b1 := 0) (b2 := 9) (by decide +kernel) (by decide +kernel) (by decide +kernel) (by decide +kernel)
theorem dX6_named_15 : decode cX6_named 15 = .ok (.iload_n 2, 1) := dk_iload_n_2 (by decide +kernel)
theorem dX6_named_16 : decode cX6_named 16 = .ok (.iconst 1, 1) := dk_iconst_1 (by decide +kernel)
theorem dX6_named_17 : decode cX6_named 17 = .ok (.if_icmp .ne 9, 3) := dk_if_icmp_ne 9 (b1 := 0) (b2 := 9) (by decide +kernel) (by decide +kernel) (by decide +kernel) (by decide +kernel)
theorem dX6_named_26 : decode cX6_named 26 = .ok (.iload_n 0, 1) := dk_iload_n_0 (by decide +kernel)
theorem dX6_named_27 : decode cX6_named 27 = .ok (.ifCond .ge 8, 3) := dk_ifCond_ge 8 (b1 := 0) (b2 := 8) (by decide +kernel) (by decide +kernel) (by decide +kernel) (by decide +kernel)
theorem dX6_named_35 : decode cX6_named 35 = .ok (.iload_n 1, 1) := dk_iload_n_1 (by decide +kernel)
theorem dX6_named_30 : decode cX6_named 30 = .ok (.iload_n 1, 1) := dk_iload_n_1 (by decide +kernel)
theorem dX6_named_31 : decode cX6_named 31 = .ok (.ineg, 1) := dk_ineg (by decide +kernel)
theorem dX6_named_32 : decode cX6_named 32 = .ok (.goto 4, 3) := dk_goto 4 (b1 := 0) (b2 := 4) (by decide +kernel) (by decide +kernel) (by decide +kernel) (by decide +kernel)
theorem dX6_named_20 : decode cX6_named 20 = .ok (.iconst 1, 1) := dk_iconst_1 (by decide +kernel)
theorem dX6_named_21 : decode cX6_named 21 = .ok (.iconst 0, 1) := dk_iconst_0 (by decide +kernel)
theorem dX6_named_22 : decode cX6_named 22 = .ok (.invokestatic 13, 3) := dk_invokestatic 13 (b1 := 0) (b2 := 13) (by decide +kernel) (by decide +kernel) (by decide +kernel) (by decide +kernel)
theorem dX6_named_25 : decode cX6_named 25 = .ok (.lreturn, 1) := dk_lreturn (by decide +kernel)
theorem dX6_named_9 : decode cX6_named 9 = .ok (.iconst 0, 1) := dk_iconst_0 (by decide +kernel)
theorem dX6_named_10 : decode cX6_named 10 = .ok (.iconst 1, 1) := dk_iconst_1 (by decide +kernel)
theorem dX6_named_11 : decode cX6_named 11 = .ok (.invokestatic 13, 3) := dk_invokestatic 13 (b1 := 0) (b2 := 13) (by decide +kernel) (by decide +kernel) (by decide +kernel) (by decide +kernel)
theorem dX6_named_14 : decode cX6_named 14 = .ok (.lreturn, 1) := dk_lreturn (by decide +kernel)
set_option maxRecDepth 20000 in
theorem vX6_named_0 {E : sm_E} {L : sm_S → Prop} {d : Nat} {x0 : Int32} {x1 : Int32}  {m : sm_M} {Q : Int64 → sm_M → Prop}  (hd : 2 ≤ d) 
  (h : sm_callI E L mJ9_abs_0f7a4 1 0 0 [.int x0] m (fun r_2 m_1 =>
   (¬ r_2 = 0 →
      (¬ r_2 = 1 →
         (0 ≤ x0 →
            gX6_named_36 E L d ([.int x0, .int x1]) r_2 x1 m_1 Q) ∧
         (¬ 0 ≤ x0 →
            gX6_named_36 E L d ([.int x0, .int x1]) r_2 (-x1) m_1 Q)) ∧
      (r_2 = 1 →
         sm_callJ E L mX6_pair 1 0 0 [.int 1, .int 0] m_1 (fun r_5 m_4 =>
         Q r_5 m_4))) ∧
   (r_2 = 0 →
      sm_callJ E L mX6_pair 1 0 0 [.int 0, .int 1] m_1 (fun r_7 m_6 =>
      Q r_7 m_6)))) :
  sm_callJ E L mX6_named d 0 0 [.int x0, .int x1] m Q := by
  refine sm_enter (by decide +kernel) (by simp [lg_sl, Value.category]) ?_
  refine sm_iload_n (Y := mX6_named) (pc := 0) 0 0 rfl rfl dX6_named_0 ?_
  refine sm_is_I (Y := mX6_named) (pc := 1) (As := [.int x0]) fJ9_abs_0f7a4 wRX6_7 rfl (Nat.le_trans (by decide) hd) (Nat.le_of_ble_eq_true rfl) ⟨Nat.le_refl _, Nat.le_refl _⟩ dX6_named_1 rfl (sm_monoI h (fun r_2 m_1 h => ?_))
  refine sm_istore0_n (Y := mX6_named) (pc := 4) [(2, .int r_2), (0, .int x0), (1, .int x1)] 2 rfl (by decide) rfl dX6_named_4 ?_
  refine sm_iload_n (Y := mX6_named) (pc := 5) 0 2 rfl rfl dX6_named_5 ?_
  refine sm_if_ne (Y := mX6_named) (pc := 6) 15 (by decide) dX6_named_6 (fun hc => ?_) (fun hc => ?_)
  · replace h := h.1 hc
    refine sm_iload_n (Y := mX6_named) (pc := 15) 0 2 rfl rfl dX6_named_15 ?_
    refine sm_iconst (Y := mX6_named) (pc := 16) 1 (by decide) dX6_named_16 ?_
    refine sm_icmp_ne (Y := mX6_named) (pc := 17) 26 (by decide) dX6_named_17 (fun hc => ?_) (fun hc => ?_)
    · replace h := h.1 hc
      refine sm_iload_n (Y := mX6_named) (pc := 26) 1 0 rfl rfl dX6_named_26 ?_
      refine sm_if_ge (Y := mX6_named) (pc := 27) 35 (by decide) dX6_named_27 (fun hc => ?_) (fun hc => ?_)
      · replace h := h.1 hc
        refine sm_iload_n (Y := mX6_named) (pc := 35) 2 1 rfl rfl dX6_named_35 ?_
        refine sm_sub [0] rfl ?_
        exact h
      · replace h := h.2 hc
        refine sm_iload_n (Y := mX6_named) (pc := 30) 2 1 rfl rfl dX6_named_30 ?_
        refine sm_ineg (Y := mX6_named) (pc := 31) dX6_named_31 ?_
        refine sm_goto (Y := mX6_named) (pc := 32) 36 (by decide) dX6_named_32 ?_
        refine sm_sub [0] rfl ?_
        exact h
    · replace h := h.2 hc
      refine sm_iconst (Y := mX6_named) (pc := 20) 1 (by decide) dX6_named_20 ?_
      refine sm_iconst (Y := mX6_named) (pc := 21) 0 (by decide) dX6_named_21 ?_
      refine sm_is_J (Y := mX6_named) (pc := 22) (As := [.int 1, .int 0]) fX6_pair wRX6_13 rfl (Nat.le_trans (by decide) hd) (Nat.le_of_ble_eq_true rfl) ⟨Nat.le_refl _, Nat.le_refl _⟩ dX6_named_22 rfl (sm_monoJ h (fun r_5 m_4 h => ?_))
      exact sm_lret (Y := mX6_named) (pc := 25) rfl rfl rfl dX6_named_25 ⟨_, rfl, h⟩
  · replace h := h.2 hc
    refine sm_iconst (Y := mX6_named) (pc := 9) 0 (by decide) dX6_named_9 ?_
    refine sm_iconst (Y := mX6_named) (pc := 10) 1 (by decide) dX6_named_10 ?_
    refine sm_is_J (Y := mX6_named) (pc := 11) (As := [.int 0, .int 1]) fX6_pair wRX6_13 rfl (Nat.le_trans (by decide) hd) (Nat.le_of_ble_eq_true rfl) ⟨Nat.le_refl _, Nat.le_refl _⟩ dX6_named_11 rfl (sm_monoJ h (fun r_7 m_6 h => ?_))
    exact sm_lret (Y := mX6_named) (pc := 14) rfl rfl rfl dX6_named_14 ⟨_, rfl, h⟩
def gX6_inverseOf_76 (E : sm_E) (L : sm_S → Prop) (d : Nat) (vs : List Value) (x1 : Int32) (x6 : Int64) (m : sm_M) (Q : Int32 → sm_M → Prop) : Prop := sm_go E L mX6_inverseOf d 0 0 vs 76 [(1, .int x1), (6, .long x6)] [] m 0 0 (sm_Z E L vs 0 0 (sm_QI Q))
def gX6_inverseOf_16 (E : sm_E) (L : sm_S → Prop) (d : Nat) (vs : List Value) (x1 : Int32) (x2 : Int64) (x4 : Int64) (x6 : Int64) (x8 : Int64) (x10 : Int32) (m : sm_M) (Q : Int32 → sm_M → Prop) : Prop := sm_go E L mX6_inverseOf d 0 0 vs 16 [(1, .int x1), (2, .long x2), (4, .long x4), (6, .long x6), (8, .long x8), (10, .int x10)] [] m 0 0 (sm_Z E L vs 0 0 (sm_QI Q))
theorem dX6_inverseOf_76 : decode cX6_inverseOf 76 = .ok (.lload 6, 2) := dk_lload 6 (b := 6) (by decide +kernel) (by decide +kernel) (by decide +kernel)
theorem dX6_inverseOf_78 : decode cX6_inverseOf 78 = .ok (.lconst 0, 1) := dk_lconst_0 (by decide +kernel)
theorem dX6_inverseOf_79 : decode cX6_inverseOf 79 = .ok (.lcmp, 1) := dk_lcmp (by decide +kernel)
theorem dX6_inverseOf_80 : decode cX6_inverseOf 80 = .ok (.ifCond .ge 11, 3) := dk_ifCond_ge 11 (b1 := 0) (b2 := 11) (by decide +kernel) (by decide +kernel) (by decide +kernel) (by decide +kernel)
theorem dX6_inverseOf_91 : decode cX6_inverseOf 91 = .ok (.lload 6, 2) := dk_lload 6 (b := 6) (by decide +kernel) (by decide +kernel) (by decide +kernel)
theorem dX6_inverseOf_93 : decode cX6_inverseOf 93 = .ok (.l2i, 1) := dk_l2i (by decide +kernel)
theorem dX6_inverseOf_94 : decode cX6_inverseOf 94 = .ok (.ireturn, 1) := dk_ireturn (by decide +kernel)
theorem dX6_inverseOf_83 : decode cX6_inverseOf 83 = .ok (.lload 6, 2) := dk_lload 6 (b := 6) (by decide +kernel) (by decide +kernel) (by decide +kernel)
theorem dX6_inverseOf_85 : decode cX6_inverseOf 85 = .ok (.iload_n 1, 1) := dk_iload_n_1 (by decide +kernel)
theorem dX6_inverseOf_86 : decode cX6_inverseOf 86 = .ok (.i2l, 1) := dk_i2l (by decide +kernel)
theorem dX6_inverseOf_87 : decode cX6_inverseOf 87 = .ok (.ladd, 1) := dk_ladd (by decide +kernel)
theorem dX6_inverseOf_88 : decode cX6_inverseOf 88 = .ok (.goto 5, 3) := dk_goto 5 (b1 := 0) (b2 := 5) (by decide +kernel) (by decide +kernel) (by decide +kernel) (by decide +kernel)
set_option maxRecDepth 20000 in
theorem vX6_inverseOf_76 {E : sm_E} {L : sm_S → Prop} {d : Nat} {vs : List Value} {x1 : Int32} {x6 : Int64}  {m : sm_M} {Q : Int32 → sm_M → Prop}  (hd : 1 ≤ d) 
  (h : (0 ≤ x6 →
      Q (x6.toInt32) m) ∧
   (¬ 0 ≤ x6 →
      Q ((x6 + (x1.toInt64)).toInt32) m)) :
  gX6_inverseOf_76 E L d vs x1 x6 m Q := by
  refine sm_lload (Y := mX6_inverseOf) (pc := 76) 1 6 rfl dX6_inverseOf_76 ?_
  refine sm_lconst (Y := mX6_inverseOf) (pc := 78) 0 (by decide) dX6_inverseOf_78 ?_
  refine sm_lif_ge (Y := mX6_inverseOf) (pc := 79) 91 (by decide) dX6_inverseOf_79 dX6_inverseOf_80 (fun hc => ?_) (fun hc => ?_)
  · replace h := h.1 hc
    refine sm_lload (Y := mX6_inverseOf) (pc := 91) 1 6 rfl dX6_inverseOf_91 ?_
    refine sm_l2i (Y := mX6_inverseOf) (pc := 93) dX6_inverseOf_93 ?_
    exact sm_iret (Y := mX6_inverseOf) (pc := 94) rfl rfl rfl dX6_inverseOf_94 ⟨_, rfl, h⟩
  · replace h := h.2 hc
    refine sm_lload (Y := mX6_inverseOf) (pc := 83) 1 6 rfl dX6_inverseOf_83 ?_
    refine sm_iload_n (Y := mX6_inverseOf) (pc := 85) 0 1 rfl rfl dX6_inverseOf_85 ?_
    refine sm_i2l (Y := mX6_inverseOf) (pc := 86) dX6_inverseOf_86 ?_
    refine sm_ladd (Y := mX6_inverseOf) (pc := 87) dX6_inverseOf_87 ?_
    refine sm_goto (Y := mX6_inverseOf) (pc := 88) 93 (by decide) dX6_inverseOf_88 ?_
    refine sm_l2i (Y := mX6_inverseOf) (pc := 93) dX6_inverseOf_93 ?_
    exact sm_iret (Y := mX6_inverseOf) (pc := 94) rfl rfl rfl dX6_inverseOf_94 ⟨_, rfl, h⟩
theorem dX6_inverseOf_16 : decode cX6_inverseOf 16 = .ok (.iload 10, 2) := dk_iload 10 (b := 10) (by decide +kernel) (by decide +kernel) (by decide +kernel)
theorem wRX6_29 : Cond.constant RX6 29 1000000 ∈ sm_T := sm_in 914 (by decide +kernel) (by decide +kernel)
theorem dX6_inverseOf_18 : decode cX6_inverseOf 18 = .ok (.ldc 29, 2) := dk_ldc 29 (b := 29) (by decide +kernel) (by decide +kernel) (by decide +kernel)
theorem dX6_inverseOf_20 : decode cX6_inverseOf 20 = .ok (.if_icmp .ge 56, 3) := dk_if_icmp_ge 56 (b1 := 0) (b2 := 56) (by decide +kernel) (by decide +kernel) (by decide +kernel) (by decide +kernel)
theorem dX6_inverseOf_23 : decode cX6_inverseOf 23 = .ok (.lload 4, 2) := dk_lload 4 (b := 4) (by decide +kernel) (by decide +kernel) (by decide +kernel)
theorem dX6_inverseOf_25 : decode cX6_inverseOf 25 = .ok (.lconst 0, 1) := dk_lconst_0 (by decide +kernel)
theorem dX6_inverseOf_26 : decode cX6_inverseOf 26 = .ok (.lcmp, 1) := dk_lcmp (by decide +kernel)
theorem dX6_inverseOf_27 : decode cX6_inverseOf 27 = .ok (.ifCond .eq 49, 3) := dk_ifCond_eq 49 (b1 := 0) (b2 := 49) (by decide +kernel) (by decide +kernel) (by decide +kernel) (by decide +kernel)
theorem dX6_inverseOf_30 : decode cX6_inverseOf 30 = .ok (.lload_n 2, 1) := dk_lload_n_2 (by decide +kernel)
theorem dX6_inverseOf_31 : decode cX6_inverseOf 31 = .ok (.lload 4, 2) := dk_lload 4 (b := 4) (by decide +kernel) (by decide +kernel) (by decide +kernel)
theorem dX6_inverseOf_33 : decode cX6_inverseOf 33 = .ok (.ldiv, 1) := dk_ldiv (by decide +kernel)
theorem dX6_inverseOf_34 : decode cX6_inverseOf 34 = .ok (.lstore 11, 2) := dk_lstore 11 (b := 11) (by decide +kernel) (by decide +kernel) (by decide +kernel)
theorem dX6_inverseOf_36 : decode cX6_inverseOf 36 = .ok (.lload_n 2, 1) := dk_lload_n_2 (by decide +kernel)
theorem dX6_inverseOf_37 : decode cX6_inverseOf 37 = .ok (.lload 11, 2) := dk_lload 11 (b := 11) (by decide +kernel) (by decide +kernel) (by decide +kernel)
theorem dX6_inverseOf_39 : decode cX6_inverseOf 39 = .ok (.lload 4, 2) := dk_lload 4 (b := 4) (by decide +kernel) (by decide +kernel) (by decide +kernel)
theorem dX6_inverseOf_41 : decode cX6_inverseOf 41 = .ok (.lmul, 1) := dk_lmul (by decide +kernel)
theorem dX6_inverseOf_42 : decode cX6_inverseOf 42 = .ok (.lsub, 1) := dk_lsub (by decide +kernel)
theorem dX6_inverseOf_43 : decode cX6_inverseOf 43 = .ok (.lstore 13, 2) := dk_lstore 13 (b := 13) (by decide +kernel) (by decide +kernel) (by decide +kernel)
theorem dX6_inverseOf_45 : decode cX6_inverseOf 45 = .ok (.lload 6, 2) := dk_lload 6 (b := 6) (by decide +kernel) (by decide +kernel) (by decide +kernel)
theorem dX6_inverseOf_47 : decode cX6_inverseOf 47 = .ok (.lload 11, 2) := dk_lload 11 (b := 11) (by decide +kernel) (by decide +kernel) (by decide +kernel)
theorem dX6_inverseOf_49 : decode cX6_inverseOf 49 = .ok (.lload 8, 2) := dk_lload 8 (b := 8) (by decide +kernel) (by decide +kernel) (by decide +kernel)
theorem dX6_inverseOf_51 : decode cX6_inverseOf 51 = .ok (.lmul, 1) := dk_lmul (by decide +kernel)
theorem dX6_inverseOf_52 : decode cX6_inverseOf 52 = .ok (.lsub, 1) := dk_lsub (by decide +kernel)
theorem dX6_inverseOf_53 : decode cX6_inverseOf 53 = .ok (.lstore 15, 2) := dk_lstore 15 (b := 15) (by decide +kernel) (by decide +kernel) (by decide +kernel)
theorem dX6_inverseOf_55 : decode cX6_inverseOf 55 = .ok (.lload 4, 2) := dk_lload 4 (b := 4) (by decide +kernel) (by decide +kernel) (by decide +kernel)
theorem dX6_inverseOf_57 : decode cX6_inverseOf 57 = .ok (.lstore_n 2, 1) := dk_lstore_n_2 (by decide +kernel)
theorem dX6_inverseOf_58 : decode cX6_inverseOf 58 = .ok (.lload 13, 2) := dk_lload 13 (b := 13) (by decide +kernel) (by decide +kernel) (by decide +kernel)
theorem dX6_inverseOf_60 : decode cX6_inverseOf 60 = .ok (.lstore 4, 2) := dk_lstore 4 (b := 4) (by decide +kernel) (by decide +kernel) (by decide +kernel)
theorem dX6_inverseOf_62 : decode cX6_inverseOf 62 = .ok (.lload 8, 2) := dk_lload 8 (b := 8) (by decide +kernel) (by decide +kernel) (by decide +kernel)
theorem dX6_inverseOf_64 : decode cX6_inverseOf 64 = .ok (.lstore 6, 2) := dk_lstore 6 (b := 6) (by decide +kernel) (by decide +kernel) (by decide +kernel)
theorem dX6_inverseOf_66 : decode cX6_inverseOf 66 = .ok (.lload 15, 2) := dk_lload 15 (b := 15) (by decide +kernel) (by decide +kernel) (by decide +kernel)
theorem dX6_inverseOf_68 : decode cX6_inverseOf 68 = .ok (.lstore 8, 2) := dk_lstore 8 (b := 8) (by decide +kernel) (by decide +kernel) (by decide +kernel)
theorem dX6_inverseOf_70 : decode cX6_inverseOf 70 = .ok (.iinc 10 1, 3) := dk_iinc 10 1 (b1 := 10) (b2 := 1) (by decide +kernel) (by decide +kernel) (by decide +kernel) (by decide +kernel) (by decide +kernel)
theorem dX6_inverseOf_73 : decode cX6_inverseOf 73 = .ok (.goto (-57), 3) := dk_goto (-57) (b1 := 255) (b2 := 199) (by decide +kernel) (by decide +kernel) (by decide +kernel) (by decide +kernel)
set_option maxRecDepth 20000 in
theorem vX6_inverseOf_16 {E : sm_E} {L : sm_S → Prop} {d : Nat} {vs : List Value} {x1 : Int32} {x2 : Int64} {x4 : Int64} {x6 : Int64} {x8 : Int64} {x10 : Int32}  {m : sm_M} {Q : Int32 → sm_M → Prop}  (hd : 1 ≤ d) 
  (h : (1000000 ≤ x10 →
      gX6_inverseOf_76 E L d vs x1 x6 m Q) ∧
   (¬ 1000000 ≤ x10 →
      (x4 = 0 →
         gX6_inverseOf_76 E L d vs x1 x6 m Q) ∧
      (¬ x4 = 0 →
         (¬ x4 = 0) ∧ ∀ x11_2 : Int64, x11_2 = x2 / x4 →
         ∀ x13_3 : Int64, x13_3 = x2 - (x11_2 * x4) →
         ∀ x15_4 : Int64, x15_4 = x6 - (x11_2 * x8) →
         ∀ x10_9 : Int32, x10_9 = x10 + 1 →
         gX6_inverseOf_16 E L d vs x1 x4 x13_3 x8 x15_4 x10_9 m Q))) :
  gX6_inverseOf_16 E L d vs x1 x2 x4 x6 x8 x10 m Q := by
  refine sm_iload (Y := mX6_inverseOf) (pc := 16) 5 10 rfl dX6_inverseOf_16 ?_
  refine sm_ldc (Y := mX6_inverseOf) (pc := 18) 1000000 wRX6_29 dX6_inverseOf_18 ?_
  refine sm_icmp_ge (Y := mX6_inverseOf) (pc := 20) 76 (by decide) dX6_inverseOf_20 (fun hc => ?_) (fun hc => ?_)
  · replace h := h.1 hc
    refine sm_sub [0, 3] rfl ?_
    exact h
  · replace h := h.2 hc
    refine sm_lload (Y := mX6_inverseOf) (pc := 23) 2 4 rfl dX6_inverseOf_23 ?_
    refine sm_lconst (Y := mX6_inverseOf) (pc := 25) 0 (by decide) dX6_inverseOf_25 ?_
    refine sm_lif_eq (Y := mX6_inverseOf) (pc := 26) 76 (by decide) dX6_inverseOf_26 dX6_inverseOf_27 (fun hc => ?_) (fun hc => ?_)
    · replace h := h.1 hc
      refine sm_sub [0, 3] rfl ?_
      exact h
    · replace h := h.2 hc
      refine sm_lload_n (Y := mX6_inverseOf) (pc := 30) 1 2 rfl rfl dX6_inverseOf_30 ?_
      refine sm_lload (Y := mX6_inverseOf) (pc := 31) 2 4 rfl dX6_inverseOf_31 ?_
      obtain ⟨hn_1, h⟩ := h
      refine sm_ldiv (Y := mX6_inverseOf) (pc := 33) hn_1 dX6_inverseOf_33 ?_
      refine sm_lstore (Y := mX6_inverseOf) (pc := 34) (fun y => [(11, .long y), (1, .int x1), (2, .long x2), (4, .long x4), (6, .long x6), (8, .long x8), (10, .int x10)]) 11 (by decide) (fun _ => rfl) dX6_inverseOf_34 (fun x11_2 ex11_2 => ?_)
      replace h := h x11_2 ex11_2
      refine sm_lload_n (Y := mX6_inverseOf) (pc := 36) 2 2 rfl rfl dX6_inverseOf_36 ?_
      refine sm_lload (Y := mX6_inverseOf) (pc := 37) 0 11 rfl dX6_inverseOf_37 ?_
      refine sm_lload (Y := mX6_inverseOf) (pc := 39) 3 4 rfl dX6_inverseOf_39 ?_
      refine sm_lmul (Y := mX6_inverseOf) (pc := 41) dX6_inverseOf_41 ?_
      refine sm_lsub (Y := mX6_inverseOf) (pc := 42) dX6_inverseOf_42 ?_
      refine sm_lstore (Y := mX6_inverseOf) (pc := 43) (fun y => [(13, .long y), (11, .long x11_2), (1, .int x1), (2, .long x2), (4, .long x4), (6, .long x6), (8, .long x8), (10, .int x10)]) 13 (by decide) (fun _ => rfl) dX6_inverseOf_43 (fun x13_3 ex13_3 => ?_)
      replace h := h x13_3 ex13_3
      refine sm_lload (Y := mX6_inverseOf) (pc := 45) 5 6 rfl dX6_inverseOf_45 ?_
      refine sm_lload (Y := mX6_inverseOf) (pc := 47) 1 11 rfl dX6_inverseOf_47 ?_
      refine sm_lload (Y := mX6_inverseOf) (pc := 49) 6 8 rfl dX6_inverseOf_49 ?_
      refine sm_lmul (Y := mX6_inverseOf) (pc := 51) dX6_inverseOf_51 ?_
      refine sm_lsub (Y := mX6_inverseOf) (pc := 52) dX6_inverseOf_52 ?_
      refine sm_lstore (Y := mX6_inverseOf) (pc := 53) (fun y => [(15, .long y), (13, .long x13_3), (11, .long x11_2), (1, .int x1), (2, .long x2), (4, .long x4), (6, .long x6), (8, .long x8), (10, .int x10)]) 15 (by decide) (fun _ => rfl) dX6_inverseOf_53 (fun x15_4 ex15_4 => ?_)
      replace h := h x15_4 ex15_4
      refine sm_lload (Y := mX6_inverseOf) (pc := 55) 5 4 rfl dX6_inverseOf_55 ?_
      refine sm_lstore0_n (Y := mX6_inverseOf) (pc := 57) [(2, .long x4), (15, .long x15_4), (13, .long x13_3), (11, .long x11_2), (1, .int x1), (4, .long x4), (6, .long x6), (8, .long x8), (10, .int x10)] 2 rfl (by decide) rfl dX6_inverseOf_57 ?_
      refine sm_lload (Y := mX6_inverseOf) (pc := 58) 2 13 rfl dX6_inverseOf_58 ?_
      refine sm_lstore0 (Y := mX6_inverseOf) (pc := 60) [(4, .long x13_3), (2, .long x4), (15, .long x15_4), (13, .long x13_3), (11, .long x11_2), (1, .int x1), (6, .long x6), (8, .long x8), (10, .int x10)] 4 (by decide) rfl dX6_inverseOf_60 ?_
      refine sm_lload (Y := mX6_inverseOf) (pc := 62) 7 8 rfl dX6_inverseOf_62 ?_
      refine sm_lstore0 (Y := mX6_inverseOf) (pc := 64) [(6, .long x8), (4, .long x13_3), (2, .long x4), (15, .long x15_4), (13, .long x13_3), (11, .long x11_2), (1, .int x1), (8, .long x8), (10, .int x10)] 6 (by decide) rfl dX6_inverseOf_64 ?_
      refine sm_lload (Y := mX6_inverseOf) (pc := 66) 3 15 rfl dX6_inverseOf_66 ?_
      refine sm_lstore0 (Y := mX6_inverseOf) (pc := 68) [(8, .long x15_4), (6, .long x8), (4, .long x13_3), (2, .long x4), (15, .long x15_4), (13, .long x13_3), (11, .long x11_2), (1, .int x1), (10, .int x10)] 8 (by decide) rfl dX6_inverseOf_68 ?_
      refine sm_iinc (Y := mX6_inverseOf) (pc := 70) (fun y => [(10, .int y), (8, .long x15_4), (6, .long x8), (4, .long x13_3), (2, .long x4), (15, .long x15_4), (13, .long x13_3), (11, .long x11_2), (1, .int x1)]) 8 10 rfl (by decide) (fun _ => rfl) dX6_inverseOf_70 (fun x10_9 ex10_9 => ?_)
      replace h := h x10_9 ex10_9
      refine sm_goto (Y := mX6_inverseOf) (pc := 73) 16 (by decide) dX6_inverseOf_73 ?_
      refine sm_sub [8, 4, 3, 2, 1, 0] rfl ?_
      exact h
theorem dX6_inverseOf_0 : decode cX6_inverseOf 0 = .ok (.iload_n 1, 1) := dk_iload_n_1 (by decide +kernel)
theorem dX6_inverseOf_1 : decode cX6_inverseOf 1 = .ok (.i2l, 1) := dk_i2l (by decide +kernel)
theorem dX6_inverseOf_2 : decode cX6_inverseOf 2 = .ok (.lstore_n 2, 1) := dk_lstore_n_2 (by decide +kernel)
theorem dX6_inverseOf_3 : decode cX6_inverseOf 3 = .ok (.iload_n 0, 1) := dk_iload_n_0 (by decide +kernel)
theorem dX6_inverseOf_4 : decode cX6_inverseOf 4 = .ok (.i2l, 1) := dk_i2l (by decide +kernel)
theorem dX6_inverseOf_5 : decode cX6_inverseOf 5 = .ok (.lstore 4, 2) := dk_lstore 4 (b := 4) (by decide +kernel) (by decide +kernel) (by decide +kernel)
theorem dX6_inverseOf_7 : decode cX6_inverseOf 7 = .ok (.lconst 0, 1) := dk_lconst_0 (by decide +kernel)
theorem dX6_inverseOf_8 : decode cX6_inverseOf 8 = .ok (.lstore 6, 2) := dk_lstore 6 (b := 6) (by decide +kernel) (by decide +kernel) (by decide +kernel)
theorem dX6_inverseOf_10 : decode cX6_inverseOf 10 = .ok (.lconst 1, 1) := dk_lconst_1 (by decide +kernel)
theorem dX6_inverseOf_11 : decode cX6_inverseOf 11 = .ok (.lstore 8, 2) := dk_lstore 8 (b := 8) (by decide +kernel) (by decide +kernel) (by decide +kernel)
theorem dX6_inverseOf_13 : decode cX6_inverseOf 13 = .ok (.iconst 0, 1) := dk_iconst_0 (by decide +kernel)
theorem dX6_inverseOf_14 : decode cX6_inverseOf 14 = .ok (.istore 10, 2) := dk_istore 10 (b := 10) (by decide +kernel) (by decide +kernel) (by decide +kernel)
set_option maxRecDepth 20000 in
theorem vX6_inverseOf_0 {E : sm_E} {L : sm_S → Prop} {d : Nat} {x0 : Int32} {x1 : Int32}  {m : sm_M} {Q : Int32 → sm_M → Prop}  (hd : 1 ≤ d) 
  (h : ∀ x2_1 : Int64, x2_1 = x1.toInt64 →
   ∀ x4_2 : Int64, x4_2 = x0.toInt64 →
   gX6_inverseOf_16 E L d ([.int x0, .int x1]) x1 x2_1 x4_2 0 1 0 m Q) :
  sm_callI E L mX6_inverseOf d 0 0 [.int x0, .int x1] m Q := by
  refine sm_enter (by decide +kernel) (by simp [lg_sl, Value.category]) ?_
  refine sm_iload_n (Y := mX6_inverseOf) (pc := 0) 1 1 rfl rfl dX6_inverseOf_0 ?_
  refine sm_i2l (Y := mX6_inverseOf) (pc := 1) dX6_inverseOf_1 ?_
  refine sm_lstore_n (Y := mX6_inverseOf) (pc := 2) (fun y => [(2, .long y), (0, .int x0), (1, .int x1)]) 2 rfl (by decide) (fun _ => rfl) dX6_inverseOf_2 (fun x2_1 ex2_1 => ?_)
  replace h := h x2_1 ex2_1
  refine sm_iload_n (Y := mX6_inverseOf) (pc := 3) 1 0 rfl rfl dX6_inverseOf_3 ?_
  refine sm_i2l (Y := mX6_inverseOf) (pc := 4) dX6_inverseOf_4 ?_
  refine sm_lstore (Y := mX6_inverseOf) (pc := 5) (fun y => [(4, .long y), (2, .long x2_1), (0, .int x0), (1, .int x1)]) 4 (by decide) (fun _ => rfl) dX6_inverseOf_5 (fun x4_2 ex4_2 => ?_)
  replace h := h x4_2 ex4_2
  refine sm_lconst (Y := mX6_inverseOf) (pc := 7) 0 (by decide) dX6_inverseOf_7 ?_
  refine sm_lstore0 (Y := mX6_inverseOf) (pc := 8) [(6, .long 0), (4, .long x4_2), (2, .long x2_1), (0, .int x0), (1, .int x1)] 6 (by decide) rfl dX6_inverseOf_8 ?_
  refine sm_lconst (Y := mX6_inverseOf) (pc := 10) 1 (by decide) dX6_inverseOf_10 ?_
  refine sm_lstore0 (Y := mX6_inverseOf) (pc := 11) [(8, .long 1), (6, .long 0), (4, .long x4_2), (2, .long x2_1), (0, .int x0), (1, .int x1)] 8 (by decide) rfl dX6_inverseOf_11 ?_
  refine sm_iconst (Y := mX6_inverseOf) (pc := 13) 0 (by decide) dX6_inverseOf_13 ?_
  refine sm_istore0 (Y := mX6_inverseOf) (pc := 14) [(10, .int 0), (8, .long 1), (6, .long 0), (4, .long x4_2), (2, .long x2_1), (0, .int x0), (1, .int x1)] 10 (by decide) rfl dX6_inverseOf_14 ?_
  refine sm_sub [6, 4, 3, 2, 1, 0] rfl ?_
  exact h
abbrev mX6_glassOf : sm_Y := (yX6_glassOf, cX6_glassOf, 3, (some FieldType.long))
theorem fX6_glassOf : sm_mt mX6_glassOf 1 := ⟨sm_in 933 (by decide +kernel) (by decide +kernel), sm_in 932 (by decide +kernel) (by decide +kernel), sm_in 101 (by decide +kernel) (by decide +kernel), ⟨by decide +kernel, by decide +kernel, by decide +kernel⟩, by decide⟩
theorem dX6_glassOf_0 : decode cX6_glassOf 0 = .ok (.lload_n 0, 1) := dk_lload_n_0 (by decide +kernel)
theorem wRX6_30 : Cond.methodLink RX6 30 yX6_topOf ∈ sm_T := sm_in 925 (by decide +kernel) (by decide +kernel)
theorem dX6_glassOf_1 : decode cX6_glassOf 1 = .ok (.invokestatic 30, 3) := dk_invokestatic 30 (b1 := 0) (b2 := 30) (by decide +kernel) (by decide +kernel) (by decide +kernel) (by decide +kernel)
theorem dX6_glassOf_4 : decode cX6_glassOf 4 = .ok (.istore_n 2, 1) := dk_istore_n_2 (by decide +kernel)
theorem dX6_glassOf_5 : decode cX6_glassOf 5 = .ok (.iload_n 2, 1) := dk_iload_n_2 (by decide +kernel)
theorem dX6_glassOf_6 : decode cX6_glassOf 6 = .ok (.iconst 1, 1) := dk_iconst_1 (by decide +kernel)
theorem dX6_glassOf_7 : decode cX6_glassOf 7 = .ok (.if_icmp .le 16, 3) := dk_if_icmp_le 16 (b1 := 0) (b2 := 16) (by decide +kernel) (by decide +kernel) (by decide +kernel) (by decide +kernel)
theorem dX6_glassOf_23 : decode cX6_glassOf 23 = .ok (.lload_n 0, 1) := dk_lload_n_0 (by decide +kernel)
theorem dX6_glassOf_24 : decode cX6_glassOf 24 = .ok (.lreturn, 1) := dk_lreturn (by decide +kernel)
theorem dX6_glassOf_10 : decode cX6_glassOf 10 = .ok (.iload_n 2, 1) := dk_iload_n_2 (by decide +kernel)
theorem dX6_glassOf_11 : decode cX6_glassOf 11 = .ok (.iload_n 2, 1) := dk_iload_n_2 (by decide +kernel)
theorem dX6_glassOf_12 : decode cX6_glassOf 12 = .ok (.lload_n 0, 1) := dk_lload_n_0 (by decide +kernel)
theorem wRX6_34 : Cond.methodLink RX6 34 yX6_bottomOf ∈ sm_T := sm_in 926 (by decide +kernel) (by decide +kernel)
theorem dX6_glassOf_13 : decode cX6_glassOf 13 = .ok (.invokestatic 34, 3) := dk_invokestatic 34 (b1 := 0) (b2 := 34) (by decide +kernel) (by decide +kernel) (by decide +kernel) (by decide +kernel)
theorem dX6_glassOf_16 : decode cX6_glassOf 16 = .ok (.isub, 1) := dk_isub (by decide +kernel)
theorem wRX6_37 : Cond.methodLink RX6 37 yX6_named ∈ sm_T := sm_in 934 (by decide +kernel) (by decide +kernel)
theorem dX6_glassOf_17 : decode cX6_glassOf 17 = .ok (.invokestatic 37, 3) := dk_invokestatic 37 (b1 := 0) (b2 := 37) (by decide +kernel) (by decide +kernel) (by decide +kernel) (by decide +kernel)
theorem dX6_glassOf_20 : decode cX6_glassOf 20 = .ok (.goto 4, 3) := dk_goto 4 (b1 := 0) (b2 := 4) (by decide +kernel) (by decide +kernel) (by decide +kernel) (by decide +kernel)
set_option maxRecDepth 20000 in
theorem vX6_glassOf_0 {E : sm_E} {L : sm_S → Prop} {d : Nat} {x0 : Int64}  {m : sm_M} {Q : Int64 → sm_M → Prop}  (hd : 3 ≤ d) 
  (h : sm_callI E L mX6_topOf 1 0 0 [.long x0] m (fun r_2 m_1 =>
   (r_2 ≤ 1 →
      Q x0 m_1) ∧
   (¬ r_2 ≤ 1 →
      sm_callI E L mX6_bottomOf 1 0 0 [.long x0] m_1 (fun r_5 m_4 =>
      sm_callJ E L mX6_named 2 0 0 [.int r_2, .int (r_2 - r_5)] m_4 (fun r_7 m_6 =>
      Q r_7 m_6))))) :
  sm_callJ E L mX6_glassOf d 0 0 [.long x0] m Q := by
  refine sm_enter (by decide +kernel) (by simp [lg_sl, Value.category]) ?_
  refine sm_lload_n (Y := mX6_glassOf) (pc := 0) 0 0 rfl rfl dX6_glassOf_0 ?_
  refine sm_is_I (Y := mX6_glassOf) (pc := 1) (As := [.long x0]) fX6_topOf wRX6_30 rfl (Nat.le_trans (by decide) hd) (Nat.le_of_ble_eq_true rfl) ⟨Nat.le_refl _, Nat.le_refl _⟩ dX6_glassOf_1 rfl (sm_monoI h (fun r_2 m_1 h => ?_))
  refine sm_istore0_n (Y := mX6_glassOf) (pc := 4) [(2, .int r_2), (0, .long x0)] 2 rfl (by decide) rfl dX6_glassOf_4 ?_
  refine sm_iload_n (Y := mX6_glassOf) (pc := 5) 0 2 rfl rfl dX6_glassOf_5 ?_
  refine sm_iconst (Y := mX6_glassOf) (pc := 6) 1 (by decide) dX6_glassOf_6 ?_
  refine sm_icmp_le (Y := mX6_glassOf) (pc := 7) 23 (by decide) dX6_glassOf_7 (fun hc => ?_) (fun hc => ?_)
  · replace h := h.1 hc
    refine sm_lload_n (Y := mX6_glassOf) (pc := 23) 1 0 rfl rfl dX6_glassOf_23 ?_
    exact sm_lret (Y := mX6_glassOf) (pc := 24) rfl rfl rfl dX6_glassOf_24 ⟨_, rfl, h⟩
  · replace h := h.2 hc
    refine sm_iload_n (Y := mX6_glassOf) (pc := 10) 0 2 rfl rfl dX6_glassOf_10 ?_
    refine sm_iload_n (Y := mX6_glassOf) (pc := 11) 0 2 rfl rfl dX6_glassOf_11 ?_
    refine sm_lload_n (Y := mX6_glassOf) (pc := 12) 1 0 rfl rfl dX6_glassOf_12 ?_
    refine sm_is_I (Y := mX6_glassOf) (pc := 13) (As := [.long x0]) fX6_bottomOf wRX6_34 rfl (Nat.le_trans (by decide) hd) (Nat.le_of_ble_eq_true rfl) ⟨Nat.le_refl _, Nat.le_refl _⟩ dX6_glassOf_13 rfl (sm_monoI h (fun r_5 m_4 h => ?_))
    refine sm_isub (Y := mX6_glassOf) (pc := 16) dX6_glassOf_16 ?_
    refine sm_is_J (Y := mX6_glassOf) (pc := 17) (As := [.int r_2, .int (r_2 - r_5)]) fX6_named wRX6_37 rfl (Nat.le_trans (by decide) hd) (Nat.le_of_ble_eq_true rfl) ⟨Nat.le_refl _, Nat.le_refl _⟩ dX6_glassOf_17 rfl (sm_monoJ h (fun r_7 m_6 h => ?_))
    refine sm_goto (Y := mX6_glassOf) (pc := 20) 24 (by decide) dX6_glassOf_20 ?_
    exact sm_lret (Y := mX6_glassOf) (pc := 24) rfl rfl rfl dX6_glassOf_24 ⟨_, rfl, h⟩
abbrev mX6_sizeOf : sm_Y := (yX6_sizeOf, cX6_sizeOf, 7, (some FieldType.int))
theorem fX6_sizeOf : sm_mt mX6_sizeOf 1 := ⟨sm_in 924 (by decide +kernel) (by decide +kernel), sm_in 923 (by decide +kernel) (by decide +kernel), sm_in 101 (by decide +kernel) (by decide +kernel), ⟨by decide +kernel, by decide +kernel, by decide +kernel⟩, by decide⟩
def gX6_sizeOf_23 (E : sm_E) (L : sm_S → Prop) (d : Nat) (vs : List Value) (x2 : Int32) (x3 : Int32) (x4 : Int32) (x5 : Int32) (m : sm_M) (Q : Int32 → sm_M → Prop) : Prop := sm_go E L mX6_sizeOf d 0 0 vs 23 [(2, .int x2), (3, .int x3), (4, .int x4), (5, .int x5)] [] m 0 0 (sm_Z E L vs 0 0 (sm_QI Q))
theorem dX6_sizeOf_23 : decode cX6_sizeOf 23 = .ok (.iload 5, 2) := dk_iload 5 (b := 5) (by decide +kernel) (by decide +kernel) (by decide +kernel)
theorem dX6_sizeOf_25 : decode cX6_sizeOf 25 = .ok (.ldc 29, 2) := dk_ldc 29 (b := 29) (by decide +kernel) (by decide +kernel) (by decide +kernel)
theorem dX6_sizeOf_27 : decode cX6_sizeOf 27 = .ok (.if_icmp .ge 31, 3) := dk_if_icmp_ge 31 (b1 := 0) (b2 := 31) (by decide +kernel) (by decide +kernel) (by decide +kernel) (by decide +kernel)
theorem dX6_sizeOf_58 : decode cX6_sizeOf 58 = .ok (.iload 4, 2) := dk_iload 4 (b := 4) (by decide +kernel) (by decide +kernel) (by decide +kernel)
theorem dX6_sizeOf_60 : decode cX6_sizeOf 60 = .ok (.ireturn, 1) := dk_ireturn (by decide +kernel)
theorem dX6_sizeOf_30 : decode cX6_sizeOf 30 = .ok (.iload_n 3, 1) := dk_iload_n_3 (by decide +kernel)
theorem dX6_sizeOf_31 : decode cX6_sizeOf 31 = .ok (.ifCond .eq 27, 3) := dk_ifCond_eq 27 (b1 := 0) (b2 := 27) (by decide +kernel) (by decide +kernel) (by decide +kernel) (by decide +kernel)
theorem dX6_sizeOf_34 : decode cX6_sizeOf 34 = .ok (.iload_n 2, 1) := dk_iload_n_2 (by decide +kernel)
theorem dX6_sizeOf_35 : decode cX6_sizeOf 35 = .ok (.iload_n 3, 1) := dk_iload_n_3 (by decide +kernel)
theorem dX6_sizeOf_36 : decode cX6_sizeOf 36 = .ok (.irem, 1) := dk_irem (by decide +kernel)
theorem dX6_sizeOf_37 : decode cX6_sizeOf 37 = .ok (.istore 6, 2) := dk_istore 6 (b := 6) (by decide +kernel) (by decide +kernel) (by decide +kernel)
theorem dX6_sizeOf_39 : decode cX6_sizeOf 39 = .ok (.iload 4, 2) := dk_iload 4 (b := 4) (by decide +kernel) (by decide +kernel) (by decide +kernel)
theorem dX6_sizeOf_41 : decode cX6_sizeOf 41 = .ok (.iload_n 2, 1) := dk_iload_n_2 (by decide +kernel)
theorem dX6_sizeOf_42 : decode cX6_sizeOf 42 = .ok (.iload_n 3, 1) := dk_iload_n_3 (by decide +kernel)
theorem dX6_sizeOf_43 : decode cX6_sizeOf 43 = .ok (.idiv, 1) := dk_idiv (by decide +kernel)
theorem dX6_sizeOf_44 : decode cX6_sizeOf 44 = .ok (.iadd, 1) := dk_iadd (by decide +kernel)
theorem dX6_sizeOf_45 : decode cX6_sizeOf 45 = .ok (.istore 4, 2) := dk_istore 4 (b := 4) (by decide +kernel) (by decide +kernel) (by decide +kernel)
theorem dX6_sizeOf_47 : decode cX6_sizeOf 47 = .ok (.iload_n 3, 1) := dk_iload_n_3 (by decide +kernel)
theorem dX6_sizeOf_48 : decode cX6_sizeOf 48 = .ok (.istore_n 2, 1) := dk_istore_n_2 (by decide +kernel)
theorem dX6_sizeOf_49 : decode cX6_sizeOf 49 = .ok (.iload 6, 2) := dk_iload 6 (b := 6) (by decide +kernel) (by decide +kernel) (by decide +kernel)
theorem dX6_sizeOf_51 : decode cX6_sizeOf 51 = .ok (.istore_n 3, 1) := dk_istore_n_3 (by decide +kernel)
theorem dX6_sizeOf_52 : decode cX6_sizeOf 52 = .ok (.iinc 5 1, 3) := dk_iinc 5 1 (b1 := 5) (b2 := 1) (by decide +kernel) (by decide +kernel) (by decide +kernel) (by decide +kernel) (by decide +kernel)
theorem dX6_sizeOf_55 : decode cX6_sizeOf 55 = .ok (.goto (-32), 3) := dk_goto (-32) (b1 := 255) (b2 := 224) (by decide +kernel) (by decide +kernel) (by decide +kernel) (by decide +kernel)
set_option maxRecDepth 20000 in
theorem vX6_sizeOf_23 {E : sm_E} {L : sm_S → Prop} {d : Nat} {vs : List Value} {x2 : Int32} {x3 : Int32} {x4 : Int32} {x5 : Int32}  {m : sm_M} {Q : Int32 → sm_M → Prop}  (hd : 2 ≤ d) 
  (h : (1000000 ≤ x5 →
      Q x4 m) ∧
   (¬ 1000000 ≤ x5 →
      (x3 = 0 →
         Q x4 m) ∧
      (¬ x3 = 0 →
         (¬ x3 = 0) ∧ ∀ x6_2 : Int32, x6_2 = sm_rem x2 x3 →
         (¬ x3 = 0) ∧ ∀ x4_4 : Int32, x4_4 = x4 + (x2 / x3) →
         ∀ x5_7 : Int32, x5_7 = x5 + 1 →
         gX6_sizeOf_23 E L d vs x3 x6_2 x4_4 x5_7 m Q))) :
  gX6_sizeOf_23 E L d vs x2 x3 x4 x5 m Q := by
  refine sm_iload (Y := mX6_sizeOf) (pc := 23) 3 5 rfl dX6_sizeOf_23 ?_
  refine sm_ldc (Y := mX6_sizeOf) (pc := 25) 1000000 wRX6_29 dX6_sizeOf_25 ?_
  refine sm_icmp_ge (Y := mX6_sizeOf) (pc := 27) 58 (by decide) dX6_sizeOf_27 (fun hc => ?_) (fun hc => ?_)
  · replace h := h.1 hc
    refine sm_iload (Y := mX6_sizeOf) (pc := 58) 2 4 rfl dX6_sizeOf_58 ?_
    exact sm_iret (Y := mX6_sizeOf) (pc := 60) rfl rfl rfl dX6_sizeOf_60 ⟨_, rfl, h⟩
  · replace h := h.2 hc
    refine sm_iload_n (Y := mX6_sizeOf) (pc := 30) 1 3 rfl rfl dX6_sizeOf_30 ?_
    refine sm_if_eq (Y := mX6_sizeOf) (pc := 31) 58 (by decide) dX6_sizeOf_31 (fun hc => ?_) (fun hc => ?_)
    · replace h := h.1 hc
      refine sm_iload (Y := mX6_sizeOf) (pc := 58) 2 4 rfl dX6_sizeOf_58 ?_
      exact sm_iret (Y := mX6_sizeOf) (pc := 60) rfl rfl rfl dX6_sizeOf_60 ⟨_, rfl, h⟩
    · replace h := h.2 hc
      refine sm_iload_n (Y := mX6_sizeOf) (pc := 34) 0 2 rfl rfl dX6_sizeOf_34 ?_
      refine sm_iload_n (Y := mX6_sizeOf) (pc := 35) 1 3 rfl rfl dX6_sizeOf_35 ?_
      obtain ⟨hn_1, h⟩ := h
      refine sm_irem (Y := mX6_sizeOf) (pc := 36) hn_1 dX6_sizeOf_36 ?_
      refine sm_istore (Y := mX6_sizeOf) (pc := 37) (fun y => [(6, .int y), (2, .int x2), (3, .int x3), (4, .int x4), (5, .int x5)]) 6 (by decide) (fun _ => rfl) dX6_sizeOf_37 (fun x6_2 ex6_2 => ?_)
      replace h := h x6_2 ex6_2
      refine sm_iload (Y := mX6_sizeOf) (pc := 39) 3 4 rfl dX6_sizeOf_39 ?_
      refine sm_iload_n (Y := mX6_sizeOf) (pc := 41) 1 2 rfl rfl dX6_sizeOf_41 ?_
      refine sm_iload_n (Y := mX6_sizeOf) (pc := 42) 2 3 rfl rfl dX6_sizeOf_42 ?_
      obtain ⟨hn_3, h⟩ := h
      refine sm_idiv (Y := mX6_sizeOf) (pc := 43) hn_3 dX6_sizeOf_43 ?_
      refine sm_iadd (Y := mX6_sizeOf) (pc := 44) dX6_sizeOf_44 ?_
      refine sm_istore (Y := mX6_sizeOf) (pc := 45) (fun y => [(4, .int y), (6, .int x6_2), (2, .int x2), (3, .int x3), (5, .int x5)]) 4 (by decide) (fun _ => rfl) dX6_sizeOf_45 (fun x4_4 ex4_4 => ?_)
      replace h := h x4_4 ex4_4
      refine sm_iload_n (Y := mX6_sizeOf) (pc := 47) 3 3 rfl rfl dX6_sizeOf_47 ?_
      refine sm_istore0_n (Y := mX6_sizeOf) (pc := 48) [(2, .int x3), (4, .int x4_4), (6, .int x6_2), (3, .int x3), (5, .int x5)] 2 rfl (by decide) rfl dX6_sizeOf_48 ?_
      refine sm_iload (Y := mX6_sizeOf) (pc := 49) 2 6 rfl dX6_sizeOf_49 ?_
      refine sm_istore0_n (Y := mX6_sizeOf) (pc := 51) [(3, .int x6_2), (2, .int x3), (4, .int x4_4), (6, .int x6_2), (5, .int x5)] 3 rfl (by decide) rfl dX6_sizeOf_51 ?_
      refine sm_iinc (Y := mX6_sizeOf) (pc := 52) (fun y => [(5, .int y), (3, .int x6_2), (2, .int x3), (4, .int x4_4), (6, .int x6_2)]) 4 5 rfl (by decide) (fun _ => rfl) dX6_sizeOf_52 (fun x5_7 ex5_7 => ?_)
      replace h := h x5_7 ex5_7
      refine sm_goto (Y := mX6_sizeOf) (pc := 55) 23 (by decide) dX6_sizeOf_55 ?_
      refine sm_sub [2, 1, 3, 0] rfl ?_
      exact h
theorem dX6_sizeOf_0 : decode cX6_sizeOf 0 = .ok (.lload_n 0, 1) := dk_lload_n_0 (by decide +kernel)
theorem dX6_sizeOf_1 : decode cX6_sizeOf 1 = .ok (.invokestatic 30, 3) := dk_invokestatic 30 (b1 := 0) (b2 := 30) (by decide +kernel) (by decide +kernel) (by decide +kernel) (by decide +kernel)
theorem dX6_sizeOf_4 : decode cX6_sizeOf 4 = .ok (.istore_n 2, 1) := dk_istore_n_2 (by decide +kernel)
theorem dX6_sizeOf_5 : decode cX6_sizeOf 5 = .ok (.lload_n 0, 1) := dk_lload_n_0 (by decide +kernel)
theorem dX6_sizeOf_6 : decode cX6_sizeOf 6 = .ok (.invokestatic 34, 3) := dk_invokestatic 34 (b1 := 0) (b2 := 34) (by decide +kernel) (by decide +kernel) (by decide +kernel) (by decide +kernel)
theorem dX6_sizeOf_9 : decode cX6_sizeOf 9 = .ok (.istore_n 3, 1) := dk_istore_n_3 (by decide +kernel)
theorem dX6_sizeOf_10 : decode cX6_sizeOf 10 = .ok (.iload_n 2, 1) := dk_iload_n_2 (by decide +kernel)
theorem dX6_sizeOf_11 : decode cX6_sizeOf 11 = .ok (.iconst 1, 1) := dk_iconst_1 (by decide +kernel)
theorem dX6_sizeOf_12 : decode cX6_sizeOf 12 = .ok (.if_icmp .gt 5, 3) := dk_if_icmp_gt 5 (b1 := 0) (b2 := 5) (by decide +kernel) (by decide +kernel) (by decide +kernel) (by decide +kernel)
theorem dX6_sizeOf_17 : decode cX6_sizeOf 17 = .ok (.iconst 0, 1) := dk_iconst_0 (by decide +kernel)
theorem dX6_sizeOf_18 : decode cX6_sizeOf 18 = .ok (.istore 4, 2) := dk_istore 4 (b := 4) (by decide +kernel) (by decide +kernel) (by decide +kernel)
theorem dX6_sizeOf_20 : decode cX6_sizeOf 20 = .ok (.iconst 0, 1) := dk_iconst_0 (by decide +kernel)
theorem dX6_sizeOf_21 : decode cX6_sizeOf 21 = .ok (.istore 5, 2) := dk_istore 5 (b := 5) (by decide +kernel) (by decide +kernel) (by decide +kernel)
theorem dX6_sizeOf_15 : decode cX6_sizeOf 15 = .ok (.iconst 0, 1) := dk_iconst_0 (by decide +kernel)
theorem dX6_sizeOf_16 : decode cX6_sizeOf 16 = .ok (.ireturn, 1) := dk_ireturn (by decide +kernel)
set_option maxRecDepth 20000 in
theorem vX6_sizeOf_0 {E : sm_E} {L : sm_S → Prop} {d : Nat} {x0 : Int64}  {m : sm_M} {Q : Int32 → sm_M → Prop}  (hd : 2 ≤ d) 
  (h : sm_callI E L mX6_topOf 1 0 0 [.long x0] m (fun r_2 m_1 =>
   sm_callI E L mX6_bottomOf 1 0 0 [.long x0] m_1 (fun r_5 m_4 =>
   (1 < r_2 →
      gX6_sizeOf_23 E L d ([.long x0]) r_2 r_5 0 0 m_4 Q) ∧
   (¬ 1 < r_2 →
      Q 0 m_4)))) :
  sm_callI E L mX6_sizeOf d 0 0 [.long x0] m Q := by
  refine sm_enter (by decide +kernel) (by simp [lg_sl, Value.category]) ?_
  refine sm_lload_n (Y := mX6_sizeOf) (pc := 0) 0 0 rfl rfl dX6_sizeOf_0 ?_
  refine sm_is_I (Y := mX6_sizeOf) (pc := 1) (As := [.long x0]) fX6_topOf wRX6_30 rfl (Nat.le_trans (by decide) hd) (Nat.le_of_ble_eq_true rfl) ⟨Nat.le_refl _, Nat.le_refl _⟩ dX6_sizeOf_1 rfl (sm_monoI h (fun r_2 m_1 h => ?_))
  refine sm_istore0_n (Y := mX6_sizeOf) (pc := 4) [(2, .int r_2), (0, .long x0)] 2 rfl (by decide) rfl dX6_sizeOf_4 ?_
  refine sm_lload_n (Y := mX6_sizeOf) (pc := 5) 1 0 rfl rfl dX6_sizeOf_5 ?_
  refine sm_is_I (Y := mX6_sizeOf) (pc := 6) (As := [.long x0]) fX6_bottomOf wRX6_34 rfl (Nat.le_trans (by decide) hd) (Nat.le_of_ble_eq_true rfl) ⟨Nat.le_refl _, Nat.le_refl _⟩ dX6_sizeOf_6 rfl (sm_monoI h (fun r_5 m_4 h => ?_))
  refine sm_istore0_n (Y := mX6_sizeOf) (pc := 9) [(3, .int r_5), (2, .int r_2), (0, .long x0)] 3 rfl (by decide) rfl dX6_sizeOf_9 ?_
  refine sm_iload_n (Y := mX6_sizeOf) (pc := 10) 1 2 rfl rfl dX6_sizeOf_10 ?_
  refine sm_iconst (Y := mX6_sizeOf) (pc := 11) 1 (by decide) dX6_sizeOf_11 ?_
  refine sm_icmp_gt (Y := mX6_sizeOf) (pc := 12) 17 (by decide) dX6_sizeOf_12 (fun hc => ?_) (fun hc => ?_)
  · replace h := h.1 hc
    refine sm_iconst (Y := mX6_sizeOf) (pc := 17) 0 (by decide) dX6_sizeOf_17 ?_
    refine sm_istore0 (Y := mX6_sizeOf) (pc := 18) [(4, .int 0), (3, .int r_5), (2, .int r_2), (0, .long x0)] 4 (by decide) rfl dX6_sizeOf_18 ?_
    refine sm_iconst (Y := mX6_sizeOf) (pc := 20) 0 (by decide) dX6_sizeOf_20 ?_
    refine sm_istore0 (Y := mX6_sizeOf) (pc := 21) [(5, .int 0), (4, .int 0), (3, .int r_5), (2, .int r_2), (0, .long x0)] 5 (by decide) rfl dX6_sizeOf_21 ?_
    refine sm_sub [3, 2, 1, 0] rfl ?_
    exact h
  · replace h := h.2 hc
    refine sm_iconst (Y := mX6_sizeOf) (pc := 15) 0 (by decide) dX6_sizeOf_15 ?_
    exact sm_iret (Y := mX6_sizeOf) (pc := 16) rfl rfl rfl dX6_sizeOf_16 ⟨_, rfl, h⟩
abbrev mX8_clear : sm_Y := (yX8_clear, cX8_clear, 1, none)
theorem fX8_clear : sm_mi mX8_clear RX8 0 := ⟨sm_in 448 (by decide +kernel) (by decide +kernel), sm_in 446 (by decide +kernel) (by decide +kernel), sm_in 447 (by decide +kernel) (by decide +kernel), sm_in 83 (by decide +kernel) (by decide +kernel), rfl, ⟨by decide +kernel, by decide +kernel, by decide +kernel⟩, by decide⟩
theorem dX8_clear_0 : decode cX8_clear 0 = .ok (.aload_n 0, 1) := dk_aload_n_0 (by decide +kernel)
theorem dX8_clear_1 : decode cX8_clear 1 = .ok (.iconst 0, 1) := dk_iconst_0 (by decide +kernel)
theorem dX8_clear_2 : decode cX8_clear 2 = .ok (.putfield 9, 3) := dk_putfield 9 (b1 := 0) (b2 := 9) (by decide +kernel) (by decide +kernel) (by decide +kernel) (by decide +kernel)
theorem dX8_clear_5 : decode cX8_clear 5 = .ok (.aload_n 0, 1) := dk_aload_n_0 (by decide +kernel)
theorem dX8_clear_6 : decode cX8_clear 6 = .ok (.iconst 0, 1) := dk_iconst_0 (by decide +kernel)
theorem dX8_clear_7 : decode cX8_clear 7 = .ok (.putfield 15, 3) := dk_putfield 15 (b1 := 0) (b2 := 15) (by decide +kernel) (by decide +kernel) (by decide +kernel) (by decide +kernel)
theorem dX8_clear_10 : decode cX8_clear 10 = .ok (.aload_n 0, 1) := dk_aload_n_0 (by decide +kernel)
theorem dX8_clear_11 : decode cX8_clear 11 = .ok (.iconst 0, 1) := dk_iconst_0 (by decide +kernel)
theorem dX8_clear_12 : decode cX8_clear 12 = .ok (.putfield 18, 3) := dk_putfield 18 (b1 := 0) (b2 := 18) (by decide +kernel) (by decide +kernel) (by decide +kernel) (by decide +kernel)
theorem dX8_clear_15 : decode cX8_clear 15 = .ok (.return_, 1) := dk_return_ (by decide +kernel)
set_option maxRecDepth 20000 in
theorem vX8_clear_0 {E : sm_E} {L : sm_S → Prop} {d : Nat} {a0 : Nat} {na0 : Nat} {m : sm_M} {Q : sm_M → Prop}  (hd : 1 ≤ d) (hTa0 : sm_tan L a0 na0)
  (h : ∀ m_1 : sm_M, m_1 = sm_wI m a0 1 0 →
   ∀ m_2 : sm_M, m_2 = sm_wI m_1 a0 2 0 →
   ∀ m_3 : sm_M, m_3 = sm_wI m_2 a0 3 0 →
   Q m_3) :
  sm_callV E L mX8_clear d 0 0 [.ref (sm_B E + a0)] m Q := by
  refine sm_enter (by decide +kernel) (by simp [lg_sl, Value.category]) ?_
  refine sm_aload_n (Y := mX8_clear) (pc := 0) 0 0 rfl rfl dX8_clear_0 ?_
  refine sm_iconst (Y := mX8_clear) (pc := 1) 0 (by decide) dX8_clear_1 ?_
  refine pf_RX8_9 (Y := mX8_clear) (pc := 2) rfl ((fun S hS => (hTa0 S hS).1) _) dX8_clear_2 (fun m_1 em_1 => ?_)
  replace h := h m_1 em_1
  refine sm_aload_n (Y := mX8_clear) (pc := 5) 0 0 rfl rfl dX8_clear_5 ?_
  refine sm_iconst (Y := mX8_clear) (pc := 6) 0 (by decide) dX8_clear_6 ?_
  refine pf_RX8_15 (Y := mX8_clear) (pc := 7) rfl ((fun S hS => (hTa0 S hS).1) _) dX8_clear_7 (fun m_2 em_2 => ?_)
  replace h := h m_2 em_2
  refine sm_aload_n (Y := mX8_clear) (pc := 10) 0 0 rfl rfl dX8_clear_10 ?_
  refine sm_iconst (Y := mX8_clear) (pc := 11) 0 (by decide) dX8_clear_11 ?_
  refine pf_RX8_18 (Y := mX8_clear) (pc := 12) rfl ((fun S hS => (hTa0 S hS).1) _) dX8_clear_12 (fun m_3 em_3 => ?_)
  replace h := h m_3 em_3
  exact sm_vret (Y := mX8_clear) (pc := 15) rfl rfl rfl dX8_clear_15 ⟨rfl, h⟩
abbrev mX8_add : sm_Y := (yX8_add, cX8_add, 2, none)
theorem fX8_add : sm_mi mX8_add RX8 1 := ⟨sm_in 452 (by decide +kernel) (by decide +kernel), sm_in 450 (by decide +kernel) (by decide +kernel), sm_in 451 (by decide +kernel) (by decide +kernel), sm_in 83 (by decide +kernel) (by decide +kernel), rfl, ⟨by decide +kernel, by decide +kernel, by decide +kernel⟩, by decide⟩
theorem dX8_add_0 : decode cX8_add 0 = .ok (.aload_n 0, 1) := dk_aload_n_0 (by decide +kernel)
theorem dX8_add_1 : decode cX8_add 1 = .ok (.getfield 9, 3) := dk_getfield 9 (b1 := 0) (b2 := 9) (by decide +kernel) (by decide +kernel) (by decide +kernel) (by decide +kernel)
theorem dX8_add_4 : decode cX8_add 4 = .ok (.aload_n 0, 1) := dk_aload_n_0 (by decide +kernel)
theorem dX8_add_5 : decode cX8_add 5 = .ok (.getfield 49, 3) := dk_getfield 49 (b1 := 0) (b2 := 49) (by decide +kernel) (by decide +kernel) (by decide +kernel) (by decide +kernel)
theorem dX8_add_8 : decode cX8_add 8 = .ok (.arraylength, 1) := dk_arraylength (by decide +kernel)
theorem dX8_add_9 : decode cX8_add 9 = .ok (.if_icmp .lt 4, 3) := dk_if_icmp_lt 4 (b1 := 0) (b2 := 4) (by decide +kernel) (by decide +kernel) (by decide +kernel) (by decide +kernel)
theorem dX8_add_13 : decode cX8_add 13 = .ok (.aload_n 0, 1) := dk_aload_n_0 (by decide +kernel)
theorem dX8_add_14 : decode cX8_add 14 = .ok (.getfield 49, 3) := dk_getfield 49 (b1 := 0) (b2 := 49) (by decide +kernel) (by decide +kernel) (by decide +kernel) (by decide +kernel)
theorem dX8_add_17 : decode cX8_add 17 = .ok (.aload_n 0, 1) := dk_aload_n_0 (by decide +kernel)
theorem dX8_add_18 : decode cX8_add 18 = .ok (.getfield 9, 3) := dk_getfield 9 (b1 := 0) (b2 := 9) (by decide +kernel) (by decide +kernel) (by decide +kernel) (by decide +kernel)
theorem dX8_add_21 : decode cX8_add 21 = .ok (.iload_n 1, 1) := dk_iload_n_1 (by decide +kernel)
theorem dX8_add_22 : decode cX8_add 22 = .ok (.iastore, 1) := dk_iastore (by decide +kernel)
theorem dX8_add_23 : decode cX8_add 23 = .ok (.aload_n 0, 1) := dk_aload_n_0 (by decide +kernel)
theorem dX8_add_24 : decode cX8_add 24 = .ok (.dup, 1) := dk_dup (by decide +kernel)
theorem dX8_add_25 : decode cX8_add 25 = .ok (.getfield 9, 3) := dk_getfield 9 (b1 := 0) (b2 := 9) (by decide +kernel) (by decide +kernel) (by decide +kernel) (by decide +kernel)
theorem dX8_add_28 : decode cX8_add 28 = .ok (.iconst 1, 1) := dk_iconst_1 (by decide +kernel)
theorem dX8_add_29 : decode cX8_add 29 = .ok (.iadd, 1) := dk_iadd (by decide +kernel)
theorem dX8_add_30 : decode cX8_add 30 = .ok (.putfield 9, 3) := dk_putfield 9 (b1 := 0) (b2 := 9) (by decide +kernel) (by decide +kernel) (by decide +kernel) (by decide +kernel)
theorem dX8_add_33 : decode cX8_add 33 = .ok (.iload_n 1, 1) := dk_iload_n_1 (by decide +kernel)
theorem dX8_add_34 : decode cX8_add 34 = .ok (.bipush 10, 2) := dk_bipush 10 (b := 10) (by decide +kernel) (by decide +kernel) (by decide +kernel)
theorem dX8_add_36 : decode cX8_add 36 = .ok (.if_icmp .gt 36, 3) := dk_if_icmp_gt 36 (b1 := 0) (b2 := 36) (by decide +kernel) (by decide +kernel) (by decide +kernel) (by decide +kernel)
theorem dX8_add_72 : decode cX8_add 72 = .ok (.return_, 1) := dk_return_ (by decide +kernel)
theorem dX8_add_39 : decode cX8_add 39 = .ok (.aload_n 0, 1) := dk_aload_n_0 (by decide +kernel)
theorem dX8_add_40 : decode cX8_add 40 = .ok (.dup, 1) := dk_dup (by decide +kernel)
theorem dX8_add_41 : decode cX8_add 41 = .ok (.getfield 15, 3) := dk_getfield 15 (b1 := 0) (b2 := 15) (by decide +kernel) (by decide +kernel) (by decide +kernel) (by decide +kernel)
theorem dX8_add_44 : decode cX8_add 44 = .ok (.iconst 1, 1) := dk_iconst_1 (by decide +kernel)
theorem dX8_add_45 : decode cX8_add 45 = .ok (.iadd, 1) := dk_iadd (by decide +kernel)
theorem dX8_add_46 : decode cX8_add 46 = .ok (.putfield 15, 3) := dk_putfield 15 (b1 := 0) (b2 := 15) (by decide +kernel) (by decide +kernel) (by decide +kernel) (by decide +kernel)
theorem dX8_add_49 : decode cX8_add 49 = .ok (.aload_n 0, 1) := dk_aload_n_0 (by decide +kernel)
theorem dX8_add_50 : decode cX8_add 50 = .ok (.dup, 1) := dk_dup (by decide +kernel)
theorem dX8_add_51 : decode cX8_add 51 = .ok (.getfield 18, 3) := dk_getfield 18 (b1 := 0) (b2 := 18) (by decide +kernel) (by decide +kernel) (by decide +kernel) (by decide +kernel)
theorem dX8_add_54 : decode cX8_add 54 = .ok (.iload_n 1, 1) := dk_iload_n_1 (by decide +kernel)
theorem dX8_add_55 : decode cX8_add 55 = .ok (.bipush 10, 2) := dk_bipush 10 (b := 10) (by decide +kernel) (by decide +kernel) (by decide +kernel)
theorem dX8_add_57 : decode cX8_add 57 = .ok (.if_icmp .ne 7, 3) := dk_if_icmp_ne 7 (b1 := 0) (b2 := 7) (by decide +kernel) (by decide +kernel) (by decide +kernel) (by decide +kernel)
theorem dX8_add_64 : decode cX8_add 64 = .ok (.iload_n 1, 1) := dk_iload_n_1 (by decide +kernel)
theorem wRX8_53 : Cond.methodLink RX8 53 yJ9_abs_0f7a4 ∈ sm_T := sm_in 453 (by decide +kernel) (by decide +kernel)
theorem dX8_add_65 : decode cX8_add 65 = .ok (.invokestatic 53, 3) := dk_invokestatic 53 (b1 := 0) (b2 := 53) (by decide +kernel) (by decide +kernel) (by decide +kernel) (by decide +kernel)
theorem dX8_add_68 : decode cX8_add 68 = .ok (.iadd, 1) := dk_iadd (by decide +kernel)
theorem dX8_add_69 : decode cX8_add 69 = .ok (.putfield 18, 3) := dk_putfield 18 (b1 := 0) (b2 := 18) (by decide +kernel) (by decide +kernel) (by decide +kernel) (by decide +kernel)
theorem dX8_add_60 : decode cX8_add 60 = .ok (.iconst 0, 1) := dk_iconst_0 (by decide +kernel)
theorem dX8_add_61 : decode cX8_add 61 = .ok (.goto 7, 3) := dk_goto 7 (b1 := 0) (b2 := 7) (by decide +kernel) (by decide +kernel) (by decide +kernel) (by decide +kernel)
theorem dX8_add_12 : decode cX8_add 12 = .ok (.return_, 1) := dk_return_ (by decide +kernel)
set_option maxRecDepth 20000 in
theorem vX8_add_0 {E : sm_E} {L : sm_S → Prop} {d : Nat} {a0 : Nat} {x1 : Int32} {na0 : Nat} {m : sm_M} {Q : sm_M → Prop}  (hd : 2 ≤ d) (hTa0 : sm_tan L a0 na0)
  (h : ((m.1 a0 1) < (nI na0) →
      (vp_in (m.1 a0 1) na0) ∧ ∀ m_1 : sm_M, m_1 = sm_wI m (a0 + 1) (m.1 a0 1).toNatClampNeg x1 →
      ∀ m_3 : sm_M, m_3 = sm_wI m_1 a0 1 ((m_1.1 a0 1) + 1) →
      (10 < x1 →
         Q m_3) ∧
      (¬ 10 < x1 →
         ∀ m_4 : sm_M, m_4 = sm_wI m_3 a0 2 ((m_3.1 a0 2) + 1) →
         (¬ x1 = 10 →
            sm_callI E L mJ9_abs_0f7a4 1 0 0 [.int x1] m_4 (fun r_6 m_5 =>
            ∀ m_7 : sm_M, m_7 = sm_wI m_5 a0 3 ((m_4.1 a0 3) + r_6) →
            Q m_7)) ∧
         (x1 = 10 →
            ∀ m_8 : sm_M, m_8 = sm_wI m_4 a0 3 ((m_4.1 a0 3) + 0) →
            Q m_8))) ∧
   (¬ (m.1 a0 1) < (nI na0) →
      Q m)) :
  sm_callV E L mX8_add d 0 0 [.ref (sm_B E + a0), .int x1] m Q := by
  refine sm_enter (by decide +kernel) (by simp [lg_sl, Value.category]) ?_
  refine sm_aload_n (Y := mX8_add) (pc := 0) 0 0 rfl rfl dX8_add_0 ?_
  refine gf_RX8_9 (Y := mX8_add) (pc := 1) rfl ((fun S hS => (hTa0 S hS).1) _) dX8_add_1 ?_
  refine sm_aload_n (Y := mX8_add) (pc := 4) 0 0 rfl rfl dX8_add_4 ?_
  refine gf_RX8_49 (Y := mX8_add) (pc := 5) (b := a0 + 1) rfl ((fun S hS => (hTa0 S hS).1) _) (fun hS => (hTa0 _ hS).2.1) dX8_add_5 ?_
  refine sm_alenI (Y := mX8_add) (pc := 8) (fun hS => (hTa0 _ hS).2.2) dX8_add_8 ?_
  refine sm_icmp_lt (Y := mX8_add) (pc := 9) 13 (by decide) dX8_add_9 (fun hc => ?_) (fun hc => ?_)
  · replace h := h.1 hc
    refine sm_aload_n (Y := mX8_add) (pc := 13) 0 0 rfl rfl dX8_add_13 ?_
    refine gf_RX8_49 (Y := mX8_add) (pc := 14) (b := a0 + 1) rfl ((fun S hS => (hTa0 S hS).1) _) (fun hS => (hTa0 _ hS).2.1) dX8_add_14 ?_
    refine sm_aload_n (Y := mX8_add) (pc := 17) 0 0 rfl rfl dX8_add_17 ?_
    refine gf_RX8_9 (Y := mX8_add) (pc := 18) rfl ((fun S hS => (hTa0 S hS).1) _) dX8_add_18 ?_
    refine sm_iload_n (Y := mX8_add) (pc := 21) 1 1 rfl rfl dX8_add_21 ?_
    obtain ⟨hn_2, h⟩ := h
    refine sm_iast (Y := mX8_add) (pc := 22) (fun hS => (hTa0 _ hS).2.2) hn_2 dX8_add_22 (fun m_1 em_1 => ?_)
    replace h := h m_1 em_1
    refine sm_aload_n (Y := mX8_add) (pc := 23) 0 0 rfl rfl dX8_add_23 ?_
    refine sm_dup (Y := mX8_add) (pc := 24) rfl dX8_add_24 ?_
    refine gf_RX8_9 (Y := mX8_add) (pc := 25) rfl ((fun S hS => (hTa0 S hS).1) _) dX8_add_25 ?_
    refine sm_iconst (Y := mX8_add) (pc := 28) 1 (by decide) dX8_add_28 ?_
    refine sm_iadd (Y := mX8_add) (pc := 29) dX8_add_29 ?_
    refine pf_RX8_9 (Y := mX8_add) (pc := 30) rfl ((fun S hS => (hTa0 S hS).1) _) dX8_add_30 (fun m_3 em_3 => ?_)
    replace h := h m_3 em_3
    refine sm_iload_n (Y := mX8_add) (pc := 33) 1 1 rfl rfl dX8_add_33 ?_
    refine sm_bipush (Y := mX8_add) (pc := 34) 10 (by decide) dX8_add_34 ?_
    refine sm_icmp_gt (Y := mX8_add) (pc := 36) 72 (by decide) dX8_add_36 (fun hc => ?_) (fun hc => ?_)
    · replace h := h.1 hc
      exact sm_vret (Y := mX8_add) (pc := 72) rfl rfl rfl dX8_add_72 ⟨rfl, h⟩
    · replace h := h.2 hc
      refine sm_aload_n (Y := mX8_add) (pc := 39) 0 0 rfl rfl dX8_add_39 ?_
      refine sm_dup (Y := mX8_add) (pc := 40) rfl dX8_add_40 ?_
      refine gf_RX8_15 (Y := mX8_add) (pc := 41) rfl ((fun S hS => (hTa0 S hS).1) _) dX8_add_41 ?_
      refine sm_iconst (Y := mX8_add) (pc := 44) 1 (by decide) dX8_add_44 ?_
      refine sm_iadd (Y := mX8_add) (pc := 45) dX8_add_45 ?_
      refine pf_RX8_15 (Y := mX8_add) (pc := 46) rfl ((fun S hS => (hTa0 S hS).1) _) dX8_add_46 (fun m_4 em_4 => ?_)
      replace h := h m_4 em_4
      refine sm_aload_n (Y := mX8_add) (pc := 49) 0 0 rfl rfl dX8_add_49 ?_
      refine sm_dup (Y := mX8_add) (pc := 50) rfl dX8_add_50 ?_
      refine gf_RX8_18 (Y := mX8_add) (pc := 51) rfl ((fun S hS => (hTa0 S hS).1) _) dX8_add_51 ?_
      refine sm_iload_n (Y := mX8_add) (pc := 54) 1 1 rfl rfl dX8_add_54 ?_
      refine sm_bipush (Y := mX8_add) (pc := 55) 10 (by decide) dX8_add_55 ?_
      refine sm_icmp_ne (Y := mX8_add) (pc := 57) 64 (by decide) dX8_add_57 (fun hc => ?_) (fun hc => ?_)
      · replace h := h.1 hc
        refine sm_iload_n (Y := mX8_add) (pc := 64) 1 1 rfl rfl dX8_add_64 ?_
        refine sm_is_I (Y := mX8_add) (pc := 65) (As := [.int x1]) fJ9_abs_0f7a4 wRX8_53 rfl (Nat.le_trans (by decide) hd) (Nat.le_of_ble_eq_true rfl) ⟨Nat.le_refl _, Nat.le_refl _⟩ dX8_add_65 rfl (sm_monoI h (fun r_6 m_5 h => ?_))
        refine sm_iadd (Y := mX8_add) (pc := 68) dX8_add_68 ?_
        refine pf_RX8_18 (Y := mX8_add) (pc := 69) rfl ((fun S hS => (hTa0 S hS).1) _) dX8_add_69 (fun m_7 em_7 => ?_)
        replace h := h m_7 em_7
        exact sm_vret (Y := mX8_add) (pc := 72) rfl rfl rfl dX8_add_72 ⟨rfl, h⟩
      · replace h := h.2 hc
        refine sm_iconst (Y := mX8_add) (pc := 60) 0 (by decide) dX8_add_60 ?_
        refine sm_goto (Y := mX8_add) (pc := 61) 68 (by decide) dX8_add_61 ?_
        refine sm_iadd (Y := mX8_add) (pc := 68) dX8_add_68 ?_
        refine pf_RX8_18 (Y := mX8_add) (pc := 69) rfl ((fun S hS => (hTa0 S hS).1) _) dX8_add_69 (fun m_8 em_8 => ?_)
        replace h := h m_8 em_8
        exact sm_vret (Y := mX8_add) (pc := 72) rfl rfl rfl dX8_add_72 ⟨rfl, h⟩
  · replace h := h.2 hc
    exact sm_vret (Y := mX8_add) (pc := 12) rfl rfl rfl dX8_add_12 ⟨rfl, h⟩
abbrev mX8_append : sm_Y := (yX8_append, cX8_append, 3, none)
theorem fX8_append : sm_mi mX8_append RX8 1 := ⟨sm_in 505 (by decide +kernel) (by decide +kernel), sm_in 503 (by decide +kernel) (by decide +kernel), sm_in 504 (by decide +kernel) (by decide +kernel), sm_in 83 (by decide +kernel) (by decide +kernel), rfl, ⟨by decide +kernel, by decide +kernel, by decide +kernel⟩, by decide⟩
def gX8_append_2 (E : sm_E) (L : sm_S → Prop) (d : Nat) (vs : List Value) (a0 : Nat) (a1 : Nat) (x2 : Int32) (m : sm_M) (Q : sm_M → Prop) : Prop := sm_go E L mX8_append d 0 0 vs 2 [(0, .ref (sm_B E + a0)), (1, .ref (sm_B E + a1)), (2, .int x2)] [] m 0 0 (sm_Z E L vs 0 0 (sm_QV Q))
theorem dX8_append_2 : decode cX8_append 2 = .ok (.iload_n 2, 1) := dk_iload_n_2 (by decide +kernel)
theorem dX8_append_3 : decode cX8_append 3 = .ok (.aload_n 1, 1) := dk_aload_n_1 (by decide +kernel)
theorem dX8_append_4 : decode cX8_append 4 = .ok (.getfield 9, 3) := dk_getfield 9 (b1 := 0) (b2 := 9) (by decide +kernel) (by decide +kernel) (by decide +kernel) (by decide +kernel)
theorem dX8_append_7 : decode cX8_append 7 = .ok (.if_icmp .ge 19, 3) := dk_if_icmp_ge 19 (b1 := 0) (b2 := 19) (by decide +kernel) (by decide +kernel) (by decide +kernel) (by decide +kernel)
theorem dX8_append_26 : decode cX8_append 26 = .ok (.return_, 1) := dk_return_ (by decide +kernel)
theorem dX8_append_10 : decode cX8_append 10 = .ok (.aload_n 0, 1) := dk_aload_n_0 (by decide +kernel)
theorem dX8_append_11 : decode cX8_append 11 = .ok (.aload_n 1, 1) := dk_aload_n_1 (by decide +kernel)
theorem dX8_append_12 : decode cX8_append 12 = .ok (.getfield 49, 3) := dk_getfield 49 (b1 := 0) (b2 := 49) (by decide +kernel) (by decide +kernel) (by decide +kernel) (by decide +kernel)
theorem dX8_append_15 : decode cX8_append 15 = .ok (.iload_n 2, 1) := dk_iload_n_2 (by decide +kernel)
theorem dX8_append_16 : decode cX8_append 16 = .ok (.iaload, 1) := dk_iaload (by decide +kernel)
theorem wRX8_57 : Cond.methodLink RX8 57 yX8_add ∈ sm_T := sm_in 506 (by decide +kernel) (by decide +kernel)
theorem dX8_append_17 : decode cX8_append 17 = .ok (.invokevirtual 57, 3) := dk_invokevirtual 57 (b1 := 0) (b2 := 57) (by decide +kernel) (by decide +kernel) (by decide +kernel) (by decide +kernel)
theorem dX8_append_20 : decode cX8_append 20 = .ok (.iinc 2 1, 3) := dk_iinc 2 1 (b1 := 2) (b2 := 1) (by decide +kernel) (by decide +kernel) (by decide +kernel) (by decide +kernel) (by decide +kernel)
theorem dX8_append_23 : decode cX8_append 23 = .ok (.goto (-21), 3) := dk_goto (-21) (b1 := 255) (b2 := 235) (by decide +kernel) (by decide +kernel) (by decide +kernel) (by decide +kernel)
set_option maxRecDepth 20000 in
theorem vX8_append_2 {E : sm_E} {L : sm_S → Prop} {d : Nat} {vs : List Value} {a0 : Nat} {a1 : Nat} {x2 : Int32} {na0 : Nat} {na1 : Nat} {m : sm_M} {Q : sm_M → Prop}  (hd : 3 ≤ d) (hTa0 : sm_tan L a0 na0) (hTa1 : sm_tan L a1 na1)
  (h : ((m.1 a1 1) ≤ x2 →
      Q m) ∧
   (¬ (m.1 a1 1) ≤ x2 →
      (vp_in x2 na1) ∧ sm_callV E L mX8_add 2 0 0 [.ref (sm_B E + a0), .int (m.1 (a1 + 1) x2.toNatClampNeg)] m (fun m_2 =>
      ∀ x2_3 : Int32, x2_3 = x2 + 1 →
      gX8_append_2 E L d vs a0 a1 x2_3 m_2 Q))) :
  gX8_append_2 E L d vs a0 a1 x2 m Q := by
  refine sm_iload_n (Y := mX8_append) (pc := 2) 2 2 rfl rfl dX8_append_2 ?_
  refine sm_aload_n (Y := mX8_append) (pc := 3) 1 1 rfl rfl dX8_append_3 ?_
  refine gf_RX8_9 (Y := mX8_append) (pc := 4) rfl ((fun S hS => (hTa1 S hS).1) _) dX8_append_4 ?_
  refine sm_icmp_ge (Y := mX8_append) (pc := 7) 26 (by decide) dX8_append_7 (fun hc => ?_) (fun hc => ?_)
  · replace h := h.1 hc
    exact sm_vret (Y := mX8_append) (pc := 26) rfl rfl rfl dX8_append_26 ⟨rfl, h⟩
  · replace h := h.2 hc
    refine sm_aload_n (Y := mX8_append) (pc := 10) 0 0 rfl rfl dX8_append_10 ?_
    refine sm_aload_n (Y := mX8_append) (pc := 11) 1 1 rfl rfl dX8_append_11 ?_
    refine gf_RX8_49 (Y := mX8_append) (pc := 12) (b := a1 + 1) rfl ((fun S hS => (hTa1 S hS).1) _) (fun hS => (hTa1 _ hS).2.1) dX8_append_12 ?_
    refine sm_iload_n (Y := mX8_append) (pc := 15) 2 2 rfl rfl dX8_append_15 ?_
    obtain ⟨hn_1, h⟩ := h
    refine sm_iald (Y := mX8_append) (pc := 16) (fun hS => (hTa1 _ hS).2.2) hn_1 dX8_append_16 ?_
    refine sm_iv_V (Y := mX8_append) (pc := 17) (As := [.int (m.1 (a1 + 1) x2.toNatClampNeg)]) (a := a0) fX8_add wRX8_57 (fun S hS => (hTa0 S hS).1) (by decide) rfl rfl rfl (Nat.le_trans (by decide) hd) (Nat.le_of_ble_eq_true rfl) ⟨Nat.le_refl _, Nat.le_refl _⟩ dX8_append_17 rfl (sm_monoV h (fun m_2 h => ?_))
    refine sm_iinc (Y := mX8_append) (pc := 20) (fun y => [(2, .int y), (0, .ref (sm_B E + a0)), (1, .ref (sm_B E + a1))]) 2 2 rfl (by decide) (fun _ => rfl) dX8_append_20 (fun x2_3 ex2_3 => ?_)
    replace h := h x2_3 ex2_3
    refine sm_goto (Y := mX8_append) (pc := 23) 2 (by decide) dX8_append_23 ?_
    refine sm_sub [1, 2, 0] rfl ?_
    exact h
theorem dX8_append_0 : decode cX8_append 0 = .ok (.iconst 0, 1) := dk_iconst_0 (by decide +kernel)
theorem dX8_append_1 : decode cX8_append 1 = .ok (.istore_n 2, 1) := dk_istore_n_2 (by decide +kernel)
set_option maxRecDepth 20000 in
theorem vX8_append_0 {E : sm_E} {L : sm_S → Prop} {d : Nat} {a0 : Nat} {a1 : Nat} {na0 : Nat} {na1 : Nat} {m : sm_M} {Q : sm_M → Prop}  (hd : 3 ≤ d) (hTa0 : sm_tan L a0 na0) (hTa1 : sm_tan L a1 na1)
  (h : gX8_append_2 E L d ([.ref (sm_B E + a0), .ref (sm_B E + a1)]) a0 a1 0 m Q) :
  sm_callV E L mX8_append d 0 0 [.ref (sm_B E + a0), .ref (sm_B E + a1)] m Q := by
  refine sm_enter (by decide +kernel) (by simp [lg_sl, Value.category]) ?_
  refine sm_iconst (Y := mX8_append) (pc := 0) 0 (by decide) dX8_append_0 ?_
  refine sm_istore0_n (Y := mX8_append) (pc := 1) [(2, .int 0), (0, .ref (sm_B E + a0)), (1, .ref (sm_B E + a1))] 2 rfl (by decide) rfl dX8_append_1 ?_
  refine sm_sub [1, 2, 0] rfl ?_
  exact h
abbrev mX8_copy : sm_Y := (yX8_copy, cX8_copy, 2, none)
theorem fX8_copy : sm_mi mX8_copy RX8 1 := ⟨sm_in 498 (by decide +kernel) (by decide +kernel), sm_in 496 (by decide +kernel) (by decide +kernel), sm_in 497 (by decide +kernel) (by decide +kernel), sm_in 83 (by decide +kernel) (by decide +kernel), rfl, ⟨by decide +kernel, by decide +kernel, by decide +kernel⟩, by decide⟩
theorem dX8_copy_0 : decode cX8_copy 0 = .ok (.aload_n 1, 1) := dk_aload_n_1 (by decide +kernel)
theorem dX8_copy_1 : decode cX8_copy 1 = .ok (.getfield 9, 3) := dk_getfield 9 (b1 := 0) (b2 := 9) (by decide +kernel) (by decide +kernel) (by decide +kernel) (by decide +kernel)
theorem dX8_copy_4 : decode cX8_copy 4 = .ok (.aload_n 0, 1) := dk_aload_n_0 (by decide +kernel)
theorem dX8_copy_5 : decode cX8_copy 5 = .ok (.getfield 49, 3) := dk_getfield 49 (b1 := 0) (b2 := 49) (by decide +kernel) (by decide +kernel) (by decide +kernel) (by decide +kernel)
theorem dX8_copy_8 : decode cX8_copy 8 = .ok (.arraylength, 1) := dk_arraylength (by decide +kernel)
theorem dX8_copy_9 : decode cX8_copy 9 = .ok (.if_icmp .le 4, 3) := dk_if_icmp_le 4 (b1 := 0) (b2 := 4) (by decide +kernel) (by decide +kernel) (by decide +kernel) (by decide +kernel)
theorem dX8_copy_13 : decode cX8_copy 13 = .ok (.aload_n 1, 1) := dk_aload_n_1 (by decide +kernel)
theorem dX8_copy_14 : decode cX8_copy 14 = .ok (.getfield 49, 3) := dk_getfield 49 (b1 := 0) (b2 := 49) (by decide +kernel) (by decide +kernel) (by decide +kernel) (by decide +kernel)
theorem dX8_copy_17 : decode cX8_copy 17 = .ok (.iconst 0, 1) := dk_iconst_0 (by decide +kernel)
theorem dX8_copy_18 : decode cX8_copy 18 = .ok (.aload_n 0, 1) := dk_aload_n_0 (by decide +kernel)
theorem dX8_copy_19 : decode cX8_copy 19 = .ok (.getfield 49, 3) := dk_getfield 49 (b1 := 0) (b2 := 49) (by decide +kernel) (by decide +kernel) (by decide +kernel) (by decide +kernel)
theorem dX8_copy_22 : decode cX8_copy 22 = .ok (.iconst 0, 1) := dk_iconst_0 (by decide +kernel)
theorem dX8_copy_23 : decode cX8_copy 23 = .ok (.aload_n 1, 1) := dk_aload_n_1 (by decide +kernel)
theorem dX8_copy_24 : decode cX8_copy 24 = .ok (.getfield 9, 3) := dk_getfield 9 (b1 := 0) (b2 := 9) (by decide +kernel) (by decide +kernel) (by decide +kernel) (by decide +kernel)
theorem wRX8_61 : Cond.methodLink RX8 61 arraycopyName ∈ sm_T := sm_in 499 (by decide +kernel) (by decide +kernel)
theorem dX8_copy_27 : decode cX8_copy 27 = .ok (.invokestatic 61, 3) := dk_invokestatic 61 (b1 := 0) (b2 := 61) (by decide +kernel) (by decide +kernel) (by decide +kernel) (by decide +kernel)
theorem dX8_copy_30 : decode cX8_copy 30 = .ok (.aload_n 0, 1) := dk_aload_n_0 (by decide +kernel)
theorem dX8_copy_31 : decode cX8_copy 31 = .ok (.aload_n 1, 1) := dk_aload_n_1 (by decide +kernel)
theorem dX8_copy_32 : decode cX8_copy 32 = .ok (.getfield 9, 3) := dk_getfield 9 (b1 := 0) (b2 := 9) (by decide +kernel) (by decide +kernel) (by decide +kernel) (by decide +kernel)
theorem dX8_copy_35 : decode cX8_copy 35 = .ok (.putfield 9, 3) := dk_putfield 9 (b1 := 0) (b2 := 9) (by decide +kernel) (by decide +kernel) (by decide +kernel) (by decide +kernel)
theorem dX8_copy_38 : decode cX8_copy 38 = .ok (.aload_n 0, 1) := dk_aload_n_0 (by decide +kernel)
theorem dX8_copy_39 : decode cX8_copy 39 = .ok (.aload_n 1, 1) := dk_aload_n_1 (by decide +kernel)
theorem dX8_copy_40 : decode cX8_copy 40 = .ok (.getfield 15, 3) := dk_getfield 15 (b1 := 0) (b2 := 15) (by decide +kernel) (by decide +kernel) (by decide +kernel) (by decide +kernel)
theorem dX8_copy_43 : decode cX8_copy 43 = .ok (.putfield 15, 3) := dk_putfield 15 (b1 := 0) (b2 := 15) (by decide +kernel) (by decide +kernel) (by decide +kernel) (by decide +kernel)
theorem dX8_copy_46 : decode cX8_copy 46 = .ok (.aload_n 0, 1) := dk_aload_n_0 (by decide +kernel)
theorem dX8_copy_47 : decode cX8_copy 47 = .ok (.aload_n 1, 1) := dk_aload_n_1 (by decide +kernel)
theorem dX8_copy_48 : decode cX8_copy 48 = .ok (.getfield 18, 3) := dk_getfield 18 (b1 := 0) (b2 := 18) (by decide +kernel) (by decide +kernel) (by decide +kernel) (by decide +kernel)
theorem dX8_copy_51 : decode cX8_copy 51 = .ok (.putfield 18, 3) := dk_putfield 18 (b1 := 0) (b2 := 18) (by decide +kernel) (by decide +kernel) (by decide +kernel) (by decide +kernel)
theorem dX8_copy_54 : decode cX8_copy 54 = .ok (.aload_n 0, 1) := dk_aload_n_0 (by decide +kernel)
theorem dX8_copy_55 : decode cX8_copy 55 = .ok (.aload_n 1, 1) := dk_aload_n_1 (by decide +kernel)
theorem dX8_copy_56 : decode cX8_copy 56 = .ok (.getfield 21, 3) := dk_getfield 21 (b1 := 0) (b2 := 21) (by decide +kernel) (by decide +kernel) (by decide +kernel) (by decide +kernel)
theorem dX8_copy_59 : decode cX8_copy 59 = .ok (.putfield 21, 3) := dk_putfield 21 (b1 := 0) (b2 := 21) (by decide +kernel) (by decide +kernel) (by decide +kernel) (by decide +kernel)
theorem dX8_copy_62 : decode cX8_copy 62 = .ok (.aload_n 0, 1) := dk_aload_n_0 (by decide +kernel)
theorem dX8_copy_63 : decode cX8_copy 63 = .ok (.aload_n 1, 1) := dk_aload_n_1 (by decide +kernel)
theorem dX8_copy_64 : decode cX8_copy 64 = .ok (.getfield 24, 3) := dk_getfield 24 (b1 := 0) (b2 := 24) (by decide +kernel) (by decide +kernel) (by decide +kernel) (by decide +kernel)
theorem dX8_copy_67 : decode cX8_copy 67 = .ok (.putfield 24, 3) := dk_putfield 24 (b1 := 0) (b2 := 24) (by decide +kernel) (by decide +kernel) (by decide +kernel) (by decide +kernel)
theorem dX8_copy_70 : decode cX8_copy 70 = .ok (.aload_n 0, 1) := dk_aload_n_0 (by decide +kernel)
theorem dX8_copy_71 : decode cX8_copy 71 = .ok (.aload_n 1, 1) := dk_aload_n_1 (by decide +kernel)
theorem dX8_copy_72 : decode cX8_copy 72 = .ok (.getfield 27, 3) := dk_getfield 27 (b1 := 0) (b2 := 27) (by decide +kernel) (by decide +kernel) (by decide +kernel) (by decide +kernel)
theorem dX8_copy_75 : decode cX8_copy 75 = .ok (.putfield 27, 3) := dk_putfield 27 (b1 := 0) (b2 := 27) (by decide +kernel) (by decide +kernel) (by decide +kernel) (by decide +kernel)
theorem dX8_copy_78 : decode cX8_copy 78 = .ok (.aload_n 0, 1) := dk_aload_n_0 (by decide +kernel)
theorem dX8_copy_79 : decode cX8_copy 79 = .ok (.aload_n 1, 1) := dk_aload_n_1 (by decide +kernel)
theorem dX8_copy_80 : decode cX8_copy 80 = .ok (.getfield 30, 3) := dk_getfield 30 (b1 := 0) (b2 := 30) (by decide +kernel) (by decide +kernel) (by decide +kernel) (by decide +kernel)
theorem dX8_copy_83 : decode cX8_copy 83 = .ok (.putfield 30, 3) := dk_putfield 30 (b1 := 0) (b2 := 30) (by decide +kernel) (by decide +kernel) (by decide +kernel) (by decide +kernel)
theorem dX8_copy_86 : decode cX8_copy 86 = .ok (.aload_n 0, 1) := dk_aload_n_0 (by decide +kernel)
theorem dX8_copy_87 : decode cX8_copy 87 = .ok (.aload_n 1, 1) := dk_aload_n_1 (by decide +kernel)
theorem dX8_copy_88 : decode cX8_copy 88 = .ok (.getfield 34, 3) := dk_getfield 34 (b1 := 0) (b2 := 34) (by decide +kernel) (by decide +kernel) (by decide +kernel) (by decide +kernel)
theorem dX8_copy_91 : decode cX8_copy 91 = .ok (.putfield 34, 3) := dk_putfield 34 (b1 := 0) (b2 := 34) (by decide +kernel) (by decide +kernel) (by decide +kernel) (by decide +kernel)
theorem dX8_copy_94 : decode cX8_copy 94 = .ok (.aload_n 0, 1) := dk_aload_n_0 (by decide +kernel)
theorem dX8_copy_95 : decode cX8_copy 95 = .ok (.aload_n 1, 1) := dk_aload_n_1 (by decide +kernel)
theorem dX8_copy_96 : decode cX8_copy 96 = .ok (.getfield 37, 3) := dk_getfield 37 (b1 := 0) (b2 := 37) (by decide +kernel) (by decide +kernel) (by decide +kernel) (by decide +kernel)
theorem dX8_copy_99 : decode cX8_copy 99 = .ok (.putfield 37, 3) := dk_putfield 37 (b1 := 0) (b2 := 37) (by decide +kernel) (by decide +kernel) (by decide +kernel) (by decide +kernel)
theorem dX8_copy_102 : decode cX8_copy 102 = .ok (.aload_n 0, 1) := dk_aload_n_0 (by decide +kernel)
theorem dX8_copy_103 : decode cX8_copy 103 = .ok (.aload_n 1, 1) := dk_aload_n_1 (by decide +kernel)
theorem dX8_copy_104 : decode cX8_copy 104 = .ok (.getfield 40, 3) := dk_getfield 40 (b1 := 0) (b2 := 40) (by decide +kernel) (by decide +kernel) (by decide +kernel) (by decide +kernel)
theorem dX8_copy_107 : decode cX8_copy 107 = .ok (.putfield 40, 3) := dk_putfield 40 (b1 := 0) (b2 := 40) (by decide +kernel) (by decide +kernel) (by decide +kernel) (by decide +kernel)
theorem dX8_copy_110 : decode cX8_copy 110 = .ok (.return_, 1) := dk_return_ (by decide +kernel)
theorem dX8_copy_12 : decode cX8_copy 12 = .ok (.return_, 1) := dk_return_ (by decide +kernel)
set_option maxRecDepth 20000 in
theorem vX8_copy_0 {E : sm_E} {L : sm_S → Prop} {d : Nat} {a0 : Nat} {a1 : Nat} {na0 : Nat} {na1 : Nat} {m : sm_M} {Q : sm_M → Prop}  (hd : 1 ≤ d) (hTa0 : sm_tan L a0 na0) (hTa1 : sm_tan L a1 na1)
  (h : ((m.1 a1 1) ≤ (nI na0) →
      (¬ (m.1 a1 1) < 0) ∧ ((0 : Int32).toNatClampNeg + (m.1 a1 1).toNatClampNeg ≤ na1) ∧ ((0 : Int32).toNatClampNeg + (m.1 a1 1).toNatClampNeg ≤ na0) ∧ ∀ m_4 : sm_M, m_4 = sm_wIs m (a0 + 1) (va_cpy (m.1 (a1 + 1)) (m.1 (a0 + 1)) (0 : Int32).toNatClampNeg (0 : Int32).toNatClampNeg (m.1 a1 1).toNatClampNeg) →
      ∀ m_5 : sm_M, m_5 = sm_wI m_4 a0 1 (m_4.1 a1 1) →
      ∀ m_6 : sm_M, m_6 = sm_wI m_5 a0 2 (m_5.1 a1 2) →
      ∀ m_7 : sm_M, m_7 = sm_wI m_6 a0 3 (m_6.1 a1 3) →
      ∀ m_8 : sm_M, m_8 = sm_wI m_7 a0 4 (m_7.1 a1 4) →
      ∀ m_9 : sm_M, m_9 = sm_wI m_8 a0 5 (m_8.1 a1 5) →
      ∀ m_10 : sm_M, m_10 = sm_wI m_9 a0 6 (m_9.1 a1 6) →
      ((m_10.1 a1 7) = 0 ∨ (m_10.1 a1 7) = 1) ∧ ∀ m_11 : sm_M, m_11 = sm_wI m_10 a0 7 (m_10.1 a1 7) →
      ((m_11.1 a1 8) = 0 ∨ (m_11.1 a1 8) = 1) ∧ ∀ m_13 : sm_M, m_13 = sm_wI m_11 a0 8 (m_11.1 a1 8) →
      ∀ m_15 : sm_M, m_15 = sm_wI m_13 a0 9 (m_13.1 a1 9) →
      ∀ m_16 : sm_M, m_16 = sm_wI m_15 a0 10 (m_15.1 a1 10) →
      Q m_16) ∧
   (¬ (m.1 a1 1) ≤ (nI na0) →
      Q m)) :
  sm_callV E L mX8_copy d 0 0 [.ref (sm_B E + a0), .ref (sm_B E + a1)] m Q := by
  refine sm_enter (by decide +kernel) (by simp [lg_sl, Value.category]) ?_
  refine sm_aload_n (Y := mX8_copy) (pc := 0) 1 1 rfl rfl dX8_copy_0 ?_
  refine gf_RX8_9 (Y := mX8_copy) (pc := 1) rfl ((fun S hS => (hTa1 S hS).1) _) dX8_copy_1 ?_
  refine sm_aload_n (Y := mX8_copy) (pc := 4) 0 0 rfl rfl dX8_copy_4 ?_
  refine gf_RX8_49 (Y := mX8_copy) (pc := 5) (b := a0 + 1) rfl ((fun S hS => (hTa0 S hS).1) _) (fun hS => (hTa0 _ hS).2.1) dX8_copy_5 ?_
  refine sm_alenI (Y := mX8_copy) (pc := 8) (fun hS => (hTa0 _ hS).2.2) dX8_copy_8 ?_
  refine sm_icmp_le (Y := mX8_copy) (pc := 9) 13 (by decide) dX8_copy_9 (fun hc => ?_) (fun hc => ?_)
  · replace h := h.1 hc
    refine sm_aload_n (Y := mX8_copy) (pc := 13) 1 1 rfl rfl dX8_copy_13 ?_
    refine gf_RX8_49 (Y := mX8_copy) (pc := 14) (b := a1 + 1) rfl ((fun S hS => (hTa1 S hS).1) _) (fun hS => (hTa1 _ hS).2.1) dX8_copy_14 ?_
    refine sm_iconst (Y := mX8_copy) (pc := 17) 0 (by decide) dX8_copy_17 ?_
    refine sm_aload_n (Y := mX8_copy) (pc := 18) 0 0 rfl rfl dX8_copy_18 ?_
    refine gf_RX8_49 (Y := mX8_copy) (pc := 19) (b := a0 + 1) rfl ((fun S hS => (hTa0 S hS).1) _) (fun hS => (hTa0 _ hS).2.1) dX8_copy_19 ?_
    refine sm_iconst (Y := mX8_copy) (pc := 22) 0 (by decide) dX8_copy_22 ?_
    refine sm_aload_n (Y := mX8_copy) (pc := 23) 1 1 rfl rfl dX8_copy_23 ?_
    refine gf_RX8_9 (Y := mX8_copy) (pc := 24) rfl ((fun S hS => (hTa1 S hS).1) _) dX8_copy_24 ?_
    obtain ⟨hn_1, h⟩ := h
    obtain ⟨hn_2, h⟩ := h
    obtain ⟨hn_3, h⟩ := h
    refine sm_copyI (Y := mX8_copy) (pc := 27) (fun hS => (hTa1 _ hS).2.2) (fun hS => (hTa0 _ hS).2.2) (by decide) (by decide) hn_1 hn_2 hn_3 wRX8_61 (Nat.le_trans (by decide) hd) (Nat.le_of_ble_eq_true rfl) dX8_copy_27 (fun m_4 em_4 => ?_)
    replace h := h m_4 em_4
    refine sm_aload_n (Y := mX8_copy) (pc := 30) 0 0 rfl rfl dX8_copy_30 ?_
    refine sm_aload_n (Y := mX8_copy) (pc := 31) 1 1 rfl rfl dX8_copy_31 ?_
    refine gf_RX8_9 (Y := mX8_copy) (pc := 32) rfl ((fun S hS => (hTa1 S hS).1) _) dX8_copy_32 ?_
    refine pf_RX8_9 (Y := mX8_copy) (pc := 35) rfl ((fun S hS => (hTa0 S hS).1) _) dX8_copy_35 (fun m_5 em_5 => ?_)
    replace h := h m_5 em_5
    refine sm_aload_n (Y := mX8_copy) (pc := 38) 0 0 rfl rfl dX8_copy_38 ?_
    refine sm_aload_n (Y := mX8_copy) (pc := 39) 1 1 rfl rfl dX8_copy_39 ?_
    refine gf_RX8_15 (Y := mX8_copy) (pc := 40) rfl ((fun S hS => (hTa1 S hS).1) _) dX8_copy_40 ?_
    refine pf_RX8_15 (Y := mX8_copy) (pc := 43) rfl ((fun S hS => (hTa0 S hS).1) _) dX8_copy_43 (fun m_6 em_6 => ?_)
    replace h := h m_6 em_6
    refine sm_aload_n (Y := mX8_copy) (pc := 46) 0 0 rfl rfl dX8_copy_46 ?_
    refine sm_aload_n (Y := mX8_copy) (pc := 47) 1 1 rfl rfl dX8_copy_47 ?_
    refine gf_RX8_18 (Y := mX8_copy) (pc := 48) rfl ((fun S hS => (hTa1 S hS).1) _) dX8_copy_48 ?_
    refine pf_RX8_18 (Y := mX8_copy) (pc := 51) rfl ((fun S hS => (hTa0 S hS).1) _) dX8_copy_51 (fun m_7 em_7 => ?_)
    replace h := h m_7 em_7
    refine sm_aload_n (Y := mX8_copy) (pc := 54) 0 0 rfl rfl dX8_copy_54 ?_
    refine sm_aload_n (Y := mX8_copy) (pc := 55) 1 1 rfl rfl dX8_copy_55 ?_
    refine gf_RX8_21 (Y := mX8_copy) (pc := 56) rfl ((fun S hS => (hTa1 S hS).1) _) dX8_copy_56 ?_
    refine pf_RX8_21 (Y := mX8_copy) (pc := 59) rfl ((fun S hS => (hTa0 S hS).1) _) dX8_copy_59 (fun m_8 em_8 => ?_)
    replace h := h m_8 em_8
    refine sm_aload_n (Y := mX8_copy) (pc := 62) 0 0 rfl rfl dX8_copy_62 ?_
    refine sm_aload_n (Y := mX8_copy) (pc := 63) 1 1 rfl rfl dX8_copy_63 ?_
    refine gf_RX8_24 (Y := mX8_copy) (pc := 64) rfl ((fun S hS => (hTa1 S hS).1) _) dX8_copy_64 ?_
    refine pf_RX8_24 (Y := mX8_copy) (pc := 67) rfl ((fun S hS => (hTa0 S hS).1) _) dX8_copy_67 (fun m_9 em_9 => ?_)
    replace h := h m_9 em_9
    refine sm_aload_n (Y := mX8_copy) (pc := 70) 0 0 rfl rfl dX8_copy_70 ?_
    refine sm_aload_n (Y := mX8_copy) (pc := 71) 1 1 rfl rfl dX8_copy_71 ?_
    refine gf_RX8_27 (Y := mX8_copy) (pc := 72) rfl ((fun S hS => (hTa1 S hS).1) _) dX8_copy_72 ?_
    refine pf_RX8_27 (Y := mX8_copy) (pc := 75) rfl ((fun S hS => (hTa0 S hS).1) _) dX8_copy_75 (fun m_10 em_10 => ?_)
    replace h := h m_10 em_10
    refine sm_aload_n (Y := mX8_copy) (pc := 78) 0 0 rfl rfl dX8_copy_78 ?_
    refine sm_aload_n (Y := mX8_copy) (pc := 79) 1 1 rfl rfl dX8_copy_79 ?_
    refine gf_RX8_30 (Y := mX8_copy) (pc := 80) rfl ((fun S hS => (hTa1 S hS).1) _) dX8_copy_80 ?_
    obtain ⟨hn_12, h⟩ := h
    refine pf_RX8_30 (Y := mX8_copy) (pc := 83) rfl hn_12 ((fun S hS => (hTa0 S hS).1) _) dX8_copy_83 (fun m_11 em_11 => ?_)
    replace h := h m_11 em_11
    refine sm_aload_n (Y := mX8_copy) (pc := 86) 0 0 rfl rfl dX8_copy_86 ?_
    refine sm_aload_n (Y := mX8_copy) (pc := 87) 1 1 rfl rfl dX8_copy_87 ?_
    refine gf_RX8_34 (Y := mX8_copy) (pc := 88) rfl ((fun S hS => (hTa1 S hS).1) _) dX8_copy_88 ?_
    obtain ⟨hn_14, h⟩ := h
    refine pf_RX8_34 (Y := mX8_copy) (pc := 91) rfl hn_14 ((fun S hS => (hTa0 S hS).1) _) dX8_copy_91 (fun m_13 em_13 => ?_)
    replace h := h m_13 em_13
    refine sm_aload_n (Y := mX8_copy) (pc := 94) 0 0 rfl rfl dX8_copy_94 ?_
    refine sm_aload_n (Y := mX8_copy) (pc := 95) 1 1 rfl rfl dX8_copy_95 ?_
    refine gf_RX8_37 (Y := mX8_copy) (pc := 96) rfl ((fun S hS => (hTa1 S hS).1) _) dX8_copy_96 ?_
    refine pf_RX8_37 (Y := mX8_copy) (pc := 99) rfl ((fun S hS => (hTa0 S hS).1) _) dX8_copy_99 (fun m_15 em_15 => ?_)
    replace h := h m_15 em_15
    refine sm_aload_n (Y := mX8_copy) (pc := 102) 0 0 rfl rfl dX8_copy_102 ?_
    refine sm_aload_n (Y := mX8_copy) (pc := 103) 1 1 rfl rfl dX8_copy_103 ?_
    refine gf_RX8_40 (Y := mX8_copy) (pc := 104) rfl ((fun S hS => (hTa1 S hS).1) _) dX8_copy_104 ?_
    refine pf_RX8_40 (Y := mX8_copy) (pc := 107) rfl ((fun S hS => (hTa0 S hS).1) _) dX8_copy_107 (fun m_16 em_16 => ?_)
    replace h := h m_16 em_16
    exact sm_vret (Y := mX8_copy) (pc := 110) rfl rfl rfl dX8_copy_110 ⟨rfl, h⟩
  · replace h := h.2 hc
    exact sm_vret (Y := mX8_copy) (pc := 12) rfl rfl rfl dX8_copy_12 ⟨rfl, h⟩
abbrev mX8_hasRoom : sm_Y := (yX8_hasRoom, cX8_hasRoom, 4, (some FieldType.boolean))
theorem fX8_hasRoom : sm_mi mX8_hasRoom RX8 3 := ⟨sm_in 494 (by decide +kernel) (by decide +kernel), sm_in 492 (by decide +kernel) (by decide +kernel), sm_in 493 (by decide +kernel) (by decide +kernel), sm_in 83 (by decide +kernel) (by decide +kernel), rfl, ⟨by decide +kernel, by decide +kernel, by decide +kernel⟩, by decide⟩
theorem dX8_hasRoom_0 : decode cX8_hasRoom 0 = .ok (.aload_n 0, 1) := dk_aload_n_0 (by decide +kernel)
theorem dX8_hasRoom_1 : decode cX8_hasRoom 1 = .ok (.getfield 15, 3) := dk_getfield 15 (b1 := 0) (b2 := 15) (by decide +kernel) (by decide +kernel) (by decide +kernel) (by decide +kernel)
theorem dX8_hasRoom_4 : decode cX8_hasRoom 4 = .ok (.iload_n 1, 1) := dk_iload_n_1 (by decide +kernel)
theorem dX8_hasRoom_5 : decode cX8_hasRoom 5 = .ok (.iadd, 1) := dk_iadd (by decide +kernel)
theorem dX8_hasRoom_6 : decode cX8_hasRoom 6 = .ok (.bipush 24, 2) := dk_bipush 24 (b := 24) (by decide +kernel) (by decide +kernel) (by decide +kernel)
theorem dX8_hasRoom_8 : decode cX8_hasRoom 8 = .ok (.if_icmp .gt 29, 3) := dk_if_icmp_gt 29 (b1 := 0) (b2 := 29) (by decide +kernel) (by decide +kernel) (by decide +kernel) (by decide +kernel)
theorem dX8_hasRoom_37 : decode cX8_hasRoom 37 = .ok (.iconst 0, 1) := dk_iconst_0 (by decide +kernel)
theorem dX8_hasRoom_38 : decode cX8_hasRoom 38 = .ok (.ireturn, 1) := dk_ireturn (by decide +kernel)
theorem dX8_hasRoom_11 : decode cX8_hasRoom 11 = .ok (.aload_n 0, 1) := dk_aload_n_0 (by decide +kernel)
theorem dX8_hasRoom_12 : decode cX8_hasRoom 12 = .ok (.getfield 18, 3) := dk_getfield 18 (b1 := 0) (b2 := 18) (by decide +kernel) (by decide +kernel) (by decide +kernel) (by decide +kernel)
theorem dX8_hasRoom_15 : decode cX8_hasRoom 15 = .ok (.iload_n 2, 1) := dk_iload_n_2 (by decide +kernel)
theorem dX8_hasRoom_16 : decode cX8_hasRoom 16 = .ok (.iadd, 1) := dk_iadd (by decide +kernel)
theorem dX8_hasRoom_17 : decode cX8_hasRoom 17 = .ok (.bipush 24, 2) := dk_bipush 24 (b := 24) (by decide +kernel) (by decide +kernel) (by decide +kernel)
theorem dX8_hasRoom_19 : decode cX8_hasRoom 19 = .ok (.if_icmp .gt 18, 3) := dk_if_icmp_gt 18 (b1 := 0) (b2 := 18) (by decide +kernel) (by decide +kernel) (by decide +kernel) (by decide +kernel)
theorem dX8_hasRoom_22 : decode cX8_hasRoom 22 = .ok (.aload_n 0, 1) := dk_aload_n_0 (by decide +kernel)
theorem dX8_hasRoom_23 : decode cX8_hasRoom 23 = .ok (.getfield 9, 3) := dk_getfield 9 (b1 := 0) (b2 := 9) (by decide +kernel) (by decide +kernel) (by decide +kernel) (by decide +kernel)
theorem dX8_hasRoom_26 : decode cX8_hasRoom 26 = .ok (.iload_n 3, 1) := dk_iload_n_3 (by decide +kernel)
theorem dX8_hasRoom_27 : decode cX8_hasRoom 27 = .ok (.iadd, 1) := dk_iadd (by decide +kernel)
theorem dX8_hasRoom_28 : decode cX8_hasRoom 28 = .ok (.bipush 60, 2) := dk_bipush 60 (b := 60) (by decide +kernel) (by decide +kernel) (by decide +kernel)
theorem dX8_hasRoom_30 : decode cX8_hasRoom 30 = .ok (.if_icmp .gt 7, 3) := dk_if_icmp_gt 7 (b1 := 0) (b2 := 7) (by decide +kernel) (by decide +kernel) (by decide +kernel) (by decide +kernel)
theorem dX8_hasRoom_33 : decode cX8_hasRoom 33 = .ok (.iconst 1, 1) := dk_iconst_1 (by decide +kernel)
theorem dX8_hasRoom_34 : decode cX8_hasRoom 34 = .ok (.goto 4, 3) := dk_goto 4 (b1 := 0) (b2 := 4) (by decide +kernel) (by decide +kernel) (by decide +kernel) (by decide +kernel)
set_option maxRecDepth 20000 in
theorem vX8_hasRoom_0 {E : sm_E} {L : sm_S → Prop} {d : Nat} {a0 : Nat} {x1 : Int32} {x2 : Int32} {x3 : Int32} {na0 : Nat} {m : sm_M} {Q : Int32 → sm_M → Prop}  (hd : 1 ≤ d) (hTa0 : sm_tan L a0 na0)
  (h : (24 < ((m.1 a0 2) + x1) →
      Q 0 m) ∧
   (¬ 24 < ((m.1 a0 2) + x1) →
      (24 < ((m.1 a0 3) + x2) →
         Q 0 m) ∧
      (¬ 24 < ((m.1 a0 3) + x2) →
         (60 < ((m.1 a0 1) + x3) →
            Q 0 m) ∧
         (¬ 60 < ((m.1 a0 1) + x3) →
            Q 1 m)))) :
  sm_callI E L mX8_hasRoom d 0 0 [.ref (sm_B E + a0), .int x1, .int x2, .int x3] m Q := by
  refine sm_enter (by decide +kernel) (by simp [lg_sl, Value.category]) ?_
  refine sm_aload_n (Y := mX8_hasRoom) (pc := 0) 0 0 rfl rfl dX8_hasRoom_0 ?_
  refine gf_RX8_15 (Y := mX8_hasRoom) (pc := 1) rfl ((fun S hS => (hTa0 S hS).1) _) dX8_hasRoom_1 ?_
  refine sm_iload_n (Y := mX8_hasRoom) (pc := 4) 1 1 rfl rfl dX8_hasRoom_4 ?_
  refine sm_iadd (Y := mX8_hasRoom) (pc := 5) dX8_hasRoom_5 ?_
  refine sm_bipush (Y := mX8_hasRoom) (pc := 6) 24 (by decide) dX8_hasRoom_6 ?_
  refine sm_icmp_gt (Y := mX8_hasRoom) (pc := 8) 37 (by decide) dX8_hasRoom_8 (fun hc => ?_) (fun hc => ?_)
  · replace h := h.1 hc
    refine sm_iconst (Y := mX8_hasRoom) (pc := 37) 0 (by decide) dX8_hasRoom_37 ?_
    exact sm_zret (Y := mX8_hasRoom) (pc := 38) rfl (by decide) rfl rfl dX8_hasRoom_38 ⟨_, rfl, h⟩
  · replace h := h.2 hc
    refine sm_aload_n (Y := mX8_hasRoom) (pc := 11) 0 0 rfl rfl dX8_hasRoom_11 ?_
    refine gf_RX8_18 (Y := mX8_hasRoom) (pc := 12) rfl ((fun S hS => (hTa0 S hS).1) _) dX8_hasRoom_12 ?_
    refine sm_iload_n (Y := mX8_hasRoom) (pc := 15) 2 2 rfl rfl dX8_hasRoom_15 ?_
    refine sm_iadd (Y := mX8_hasRoom) (pc := 16) dX8_hasRoom_16 ?_
    refine sm_bipush (Y := mX8_hasRoom) (pc := 17) 24 (by decide) dX8_hasRoom_17 ?_
    refine sm_icmp_gt (Y := mX8_hasRoom) (pc := 19) 37 (by decide) dX8_hasRoom_19 (fun hc => ?_) (fun hc => ?_)
    · replace h := h.1 hc
      refine sm_iconst (Y := mX8_hasRoom) (pc := 37) 0 (by decide) dX8_hasRoom_37 ?_
      exact sm_zret (Y := mX8_hasRoom) (pc := 38) rfl (by decide) rfl rfl dX8_hasRoom_38 ⟨_, rfl, h⟩
    · replace h := h.2 hc
      refine sm_aload_n (Y := mX8_hasRoom) (pc := 22) 0 0 rfl rfl dX8_hasRoom_22 ?_
      refine gf_RX8_9 (Y := mX8_hasRoom) (pc := 23) rfl ((fun S hS => (hTa0 S hS).1) _) dX8_hasRoom_23 ?_
      refine sm_iload_n (Y := mX8_hasRoom) (pc := 26) 3 3 rfl rfl dX8_hasRoom_26 ?_
      refine sm_iadd (Y := mX8_hasRoom) (pc := 27) dX8_hasRoom_27 ?_
      refine sm_bipush (Y := mX8_hasRoom) (pc := 28) 60 (by decide) dX8_hasRoom_28 ?_
      refine sm_icmp_gt (Y := mX8_hasRoom) (pc := 30) 37 (by decide) dX8_hasRoom_30 (fun hc => ?_) (fun hc => ?_)
      · replace h := h.1 hc
        refine sm_iconst (Y := mX8_hasRoom) (pc := 37) 0 (by decide) dX8_hasRoom_37 ?_
        exact sm_zret (Y := mX8_hasRoom) (pc := 38) rfl (by decide) rfl rfl dX8_hasRoom_38 ⟨_, rfl, h⟩
      · replace h := h.2 hc
        refine sm_iconst (Y := mX8_hasRoom) (pc := 33) 1 (by decide) dX8_hasRoom_33 ?_
        refine sm_goto (Y := mX8_hasRoom) (pc := 34) 38 (by decide) dX8_hasRoom_34 ?_
        exact sm_zret (Y := mX8_hasRoom) (pc := 38) rfl (by decide) rfl rfl dX8_hasRoom_38 ⟨_, rfl, h⟩
abbrev mX8_isWithinLimits : sm_Y := (yX8_isWithinLimits, cX8_isWithinLimits, 1, (some FieldType.boolean))
theorem fX8_isWithinLimits : sm_mi mX8_isWithinLimits RX8 0 := ⟨sm_in 572 (by decide +kernel) (by decide +kernel), sm_in 570 (by decide +kernel) (by decide +kernel), sm_in 571 (by decide +kernel) (by decide +kernel), sm_in 83 (by decide +kernel) (by decide +kernel), rfl, ⟨by decide +kernel, by decide +kernel, by decide +kernel⟩, by decide⟩
theorem dX8_isWithinLimits_0 : decode cX8_isWithinLimits 0 = .ok (.aload_n 0, 1) := dk_aload_n_0 (by decide +kernel)
theorem dX8_isWithinLimits_1 : decode cX8_isWithinLimits 1 = .ok (.iconst 0, 1) := dk_iconst_0 (by decide +kernel)
theorem dX8_isWithinLimits_2 : decode cX8_isWithinLimits 2 = .ok (.iconst 0, 1) := dk_iconst_0 (by decide +kernel)
theorem dX8_isWithinLimits_3 : decode cX8_isWithinLimits 3 = .ok (.iconst 0, 1) := dk_iconst_0 (by decide +kernel)
theorem wRX8_67 : Cond.methodLink RX8 67 yX8_hasRoom ∈ sm_T := sm_in 519 (by decide +kernel) (by decide +kernel)
theorem dX8_isWithinLimits_4 : decode cX8_isWithinLimits 4 = .ok (.invokevirtual 67, 3) := dk_invokevirtual 67 (b1 := 0) (b2 := 67) (by decide +kernel) (by decide +kernel) (by decide +kernel) (by decide +kernel)
theorem dX8_isWithinLimits_7 : decode cX8_isWithinLimits 7 = .ok (.ireturn, 1) := dk_ireturn (by decide +kernel)
set_option maxRecDepth 20000 in
theorem vX8_isWithinLimits_0 {E : sm_E} {L : sm_S → Prop} {d : Nat} {a0 : Nat} {na0 : Nat} {m : sm_M} {Q : Int32 → sm_M → Prop}  (hd : 2 ≤ d) (hTa0 : sm_tan L a0 na0)
  (h : sm_callI E L mX8_hasRoom 1 0 0 [.ref (sm_B E + a0), .int 0, .int 0, .int 0] m (fun r_2 m_1 =>
   (r_2 = 0 ∨ r_2 = 1) ∧ Q r_2 m_1)) :
  sm_callI E L mX8_isWithinLimits d 0 0 [.ref (sm_B E + a0)] m Q := by
  refine sm_enter (by decide +kernel) (by simp [lg_sl, Value.category]) ?_
  refine sm_aload_n (Y := mX8_isWithinLimits) (pc := 0) 0 0 rfl rfl dX8_isWithinLimits_0 ?_
  refine sm_iconst (Y := mX8_isWithinLimits) (pc := 1) 0 (by decide) dX8_isWithinLimits_1 ?_
  refine sm_iconst (Y := mX8_isWithinLimits) (pc := 2) 0 (by decide) dX8_isWithinLimits_2 ?_
  refine sm_iconst (Y := mX8_isWithinLimits) (pc := 3) 0 (by decide) dX8_isWithinLimits_3 ?_
  refine sm_iv_I (Y := mX8_isWithinLimits) (pc := 4) (As := [.int 0, .int 0, .int 0]) (a := a0) fX8_hasRoom wRX8_67 (fun S hS => (hTa0 S hS).1) (by decide) rfl rfl rfl (Nat.le_trans (by decide) hd) (Nat.le_of_ble_eq_true rfl) ⟨Nat.le_refl _, Nat.le_refl _⟩ dX8_isWithinLimits_4 rfl (sm_monoI h (fun r_2 m_1 h => ?_))
  obtain ⟨hn_3, h⟩ := h
  exact sm_zret (Y := mX8_isWithinLimits) (pc := 7) rfl hn_3 rfl rfl dX8_isWithinLimits_7 ⟨_, rfl, h⟩
abbrev mX8_advance : sm_Y := (yX8_advance, cX8_advance, 3, (some FieldType.boolean))
theorem fX8_advance : sm_mi mX8_advance RX8 1 := ⟨sm_in 518 (by decide +kernel) (by decide +kernel), sm_in 516 (by decide +kernel) (by decide +kernel), sm_in 517 (by decide +kernel) (by decide +kernel), sm_in 83 (by decide +kernel) (by decide +kernel), rfl, ⟨by decide +kernel, by decide +kernel, by decide +kernel⟩, by decide⟩
def gX8_advance_45 (E : sm_E) (L : sm_S → Prop) (d : Nat) (vs : List Value) (a0 : Nat) (x1 : Int32) (m : sm_M) (Q : Int32 → sm_M → Prop) : Prop := sm_go E L mX8_advance d 0 0 vs 45 [(0, .ref (sm_B E + a0)), (1, .int x1)] [] m 0 0 (sm_Z E L vs 0 0 (sm_QI Q))
def gX8_advance_15 (E : sm_E) (L : sm_S → Prop) (d : Nat) (vs : List Value) (a0 : Nat) (x1 : Int32) (s0 : Int32) (m : sm_M) (Q : Int32 → sm_M → Prop) : Prop := sm_go E L mX8_advance d 0 0 vs 15 [(0, .ref (sm_B E + a0)), (1, .int x1)] [.int s0] m 0 0 (sm_Z E L vs 0 0 (sm_QI Q))
theorem dX8_advance_45 : decode cX8_advance 45 = .ok (.iload_n 1, 1) := dk_iload_n_1 (by decide +kernel)
theorem dX8_advance_46 : decode cX8_advance 46 = .ok (.tableswitch 112 0 5 #[38, 52, 66, 75, 84, 98], 38) := by decide +kernel
theorem dX8_advance_84 : decode cX8_advance 84 = .ok (.aload_n 0, 1) := dk_aload_n_0 (by decide +kernel)
theorem dX8_advance_85 : decode cX8_advance 85 = .ok (.iconst 1, 1) := dk_iconst_1 (by decide +kernel)
theorem dX8_advance_86 : decode cX8_advance 86 = .ok (.invokevirtual 57, 3) := dk_invokevirtual 57 (b1 := 0) (b2 := 57) (by decide +kernel) (by decide +kernel) (by decide +kernel) (by decide +kernel)
theorem dX8_advance_89 : decode cX8_advance 89 = .ok (.aload_n 0, 1) := dk_aload_n_0 (by decide +kernel)
theorem dX8_advance_90 : decode cX8_advance 90 = .ok (.bipush 11, 2) := dk_bipush 11 (b := 11) (by decide +kernel) (by decide +kernel) (by decide +kernel)
theorem dX8_advance_92 : decode cX8_advance 92 = .ok (.invokevirtual 57, 3) := dk_invokevirtual 57 (b1 := 0) (b2 := 57) (by decide +kernel) (by decide +kernel) (by decide +kernel) (by decide +kernel)
theorem dX8_advance_95 : decode cX8_advance 95 = .ok (.goto 65, 3) := dk_goto 65 (b1 := 0) (b2 := 65) (by decide +kernel) (by decide +kernel) (by decide +kernel) (by decide +kernel)
theorem dX8_advance_160 : decode cX8_advance 160 = .ok (.iconst 1, 1) := dk_iconst_1 (by decide +kernel)
theorem dX8_advance_161 : decode cX8_advance 161 = .ok (.ireturn, 1) := dk_ireturn (by decide +kernel)
theorem dX8_advance_98 : decode cX8_advance 98 = .ok (.aload_n 0, 1) := dk_aload_n_0 (by decide +kernel)
theorem dX8_advance_99 : decode cX8_advance 99 = .ok (.iconst (-1), 1) := dk_iconst_m1 (by decide +kernel)
theorem dX8_advance_100 : decode cX8_advance 100 = .ok (.invokevirtual 57, 3) := dk_invokevirtual 57 (b1 := 0) (b2 := 57) (by decide +kernel) (by decide +kernel) (by decide +kernel) (by decide +kernel)
theorem dX8_advance_103 : decode cX8_advance 103 = .ok (.aload_n 0, 1) := dk_aload_n_0 (by decide +kernel)
theorem dX8_advance_104 : decode cX8_advance 104 = .ok (.bipush 11, 2) := dk_bipush 11 (b := 11) (by decide +kernel) (by decide +kernel) (by decide +kernel)
theorem dX8_advance_106 : decode cX8_advance 106 = .ok (.invokevirtual 57, 3) := dk_invokevirtual 57 (b1 := 0) (b2 := 57) (by decide +kernel) (by decide +kernel) (by decide +kernel) (by decide +kernel)
theorem dX8_advance_109 : decode cX8_advance 109 = .ok (.goto 51, 3) := dk_goto 51 (b1 := 0) (b2 := 51) (by decide +kernel) (by decide +kernel) (by decide +kernel) (by decide +kernel)
theorem dX8_advance_112 : decode cX8_advance 112 = .ok (.aload_n 0, 1) := dk_aload_n_0 (by decide +kernel)
theorem dX8_advance_113 : decode cX8_advance 113 = .ok (.bipush 13, 2) := dk_bipush 13 (b := 13) (by decide +kernel) (by decide +kernel) (by decide +kernel)
theorem dX8_advance_115 : decode cX8_advance 115 = .ok (.invokevirtual 57, 3) := dk_invokevirtual 57 (b1 := 0) (b2 := 57) (by decide +kernel) (by decide +kernel) (by decide +kernel) (by decide +kernel)
theorem dX8_advance_118 : decode cX8_advance 118 = .ok (.goto 42, 3) := dk_goto 42 (b1 := 0) (b2 := 42) (by decide +kernel) (by decide +kernel) (by decide +kernel) (by decide +kernel)
theorem dX8_advance_121 : decode cX8_advance 121 = .ok (.aload_n 0, 1) := dk_aload_n_0 (by decide +kernel)
theorem dX8_advance_122 : decode cX8_advance 122 = .ok (.bipush 14, 2) := dk_bipush 14 (b := 14) (by decide +kernel) (by decide +kernel) (by decide +kernel)
theorem dX8_advance_124 : decode cX8_advance 124 = .ok (.invokevirtual 57, 3) := dk_invokevirtual 57 (b1 := 0) (b2 := 57) (by decide +kernel) (by decide +kernel) (by decide +kernel) (by decide +kernel)
theorem dX8_advance_127 : decode cX8_advance 127 = .ok (.goto 33, 3) := dk_goto 33 (b1 := 0) (b2 := 33) (by decide +kernel) (by decide +kernel) (by decide +kernel) (by decide +kernel)
theorem dX8_advance_130 : decode cX8_advance 130 = .ok (.aload_n 0, 1) := dk_aload_n_0 (by decide +kernel)
theorem dX8_advance_131 : decode cX8_advance 131 = .ok (.iconst 1, 1) := dk_iconst_1 (by decide +kernel)
theorem dX8_advance_132 : decode cX8_advance 132 = .ok (.invokevirtual 57, 3) := dk_invokevirtual 57 (b1 := 0) (b2 := 57) (by decide +kernel) (by decide +kernel) (by decide +kernel) (by decide +kernel)
theorem dX8_advance_135 : decode cX8_advance 135 = .ok (.aload_n 0, 1) := dk_aload_n_0 (by decide +kernel)
theorem dX8_advance_136 : decode cX8_advance 136 = .ok (.bipush 12, 2) := dk_bipush 12 (b := 12) (by decide +kernel) (by decide +kernel) (by decide +kernel)
theorem dX8_advance_138 : decode cX8_advance 138 = .ok (.invokevirtual 57, 3) := dk_invokevirtual 57 (b1 := 0) (b2 := 57) (by decide +kernel) (by decide +kernel) (by decide +kernel) (by decide +kernel)
theorem dX8_advance_141 : decode cX8_advance 141 = .ok (.goto 19, 3) := dk_goto 19 (b1 := 0) (b2 := 19) (by decide +kernel) (by decide +kernel) (by decide +kernel) (by decide +kernel)
theorem dX8_advance_144 : decode cX8_advance 144 = .ok (.aload_n 0, 1) := dk_aload_n_0 (by decide +kernel)
theorem dX8_advance_145 : decode cX8_advance 145 = .ok (.iconst (-1), 1) := dk_iconst_m1 (by decide +kernel)
theorem dX8_advance_146 : decode cX8_advance 146 = .ok (.invokevirtual 57, 3) := dk_invokevirtual 57 (b1 := 0) (b2 := 57) (by decide +kernel) (by decide +kernel) (by decide +kernel) (by decide +kernel)
theorem dX8_advance_149 : decode cX8_advance 149 = .ok (.aload_n 0, 1) := dk_aload_n_0 (by decide +kernel)
theorem dX8_advance_150 : decode cX8_advance 150 = .ok (.bipush 12, 2) := dk_bipush 12 (b := 12) (by decide +kernel) (by decide +kernel) (by decide +kernel)
theorem dX8_advance_152 : decode cX8_advance 152 = .ok (.invokevirtual 57, 3) := dk_invokevirtual 57 (b1 := 0) (b2 := 57) (by decide +kernel) (by decide +kernel) (by decide +kernel) (by decide +kernel)
theorem dX8_advance_155 : decode cX8_advance 155 = .ok (.goto 5, 3) := dk_goto 5 (b1 := 0) (b2 := 5) (by decide +kernel) (by decide +kernel) (by decide +kernel) (by decide +kernel)
theorem dX8_advance_158 : decode cX8_advance 158 = .ok (.iconst 0, 1) := dk_iconst_0 (by decide +kernel)
theorem dX8_advance_159 : decode cX8_advance 159 = .ok (.ireturn, 1) := dk_ireturn (by decide +kernel)
set_option maxRecDepth 20000 in
theorem vX8_advance_45 {E : sm_E} {L : sm_S → Prop} {d : Nat} {vs : List Value} {a0 : Nat} {x1 : Int32} {na0 : Nat} {m : sm_M} {Q : Int32 → sm_M → Prop}  (hd : 3 ≤ d) (hTa0 : sm_tan L a0 na0)
  (h : (x1 = 0 →
      sm_callV E L mX8_add 2 0 0 [.ref (sm_B E + a0), .int 1] m (fun m_1 =>
      sm_callV E L mX8_add 2 0 0 [.ref (sm_B E + a0), .int 11] m_1 (fun m_2 =>
      Q 1 m_2))) ∧
   (x1 = 1 →
      sm_callV E L mX8_add 2 0 0 [.ref (sm_B E + a0), .int (-1)] m (fun m_3 =>
      sm_callV E L mX8_add 2 0 0 [.ref (sm_B E + a0), .int 11] m_3 (fun m_4 =>
      Q 1 m_4))) ∧
   (x1 = 2 →
      sm_callV E L mX8_add 2 0 0 [.ref (sm_B E + a0), .int 13] m (fun m_5 =>
      Q 1 m_5)) ∧
   (x1 = 3 →
      sm_callV E L mX8_add 2 0 0 [.ref (sm_B E + a0), .int 14] m (fun m_6 =>
      Q 1 m_6)) ∧
   (x1 = 4 →
      sm_callV E L mX8_add 2 0 0 [.ref (sm_B E + a0), .int 1] m (fun m_7 =>
      sm_callV E L mX8_add 2 0 0 [.ref (sm_B E + a0), .int 12] m_7 (fun m_8 =>
      Q 1 m_8))) ∧
   (x1 = 5 →
      sm_callV E L mX8_add 2 0 0 [.ref (sm_B E + a0), .int (-1)] m (fun m_9 =>
      sm_callV E L mX8_add 2 0 0 [.ref (sm_B E + a0), .int 12] m_9 (fun m_10 =>
      Q 1 m_10))) ∧
   ((¬ x1 = 0 ∧ ¬ x1 = 1 ∧ ¬ x1 = 2 ∧ ¬ x1 = 3 ∧ ¬ x1 = 4 ∧ ¬ x1 = 5) →
      Q 0 m)) :
  gX8_advance_45 E L d vs a0 x1 m Q := by
  refine sm_iload_n (Y := mX8_advance) (pc := 45) 1 1 rfl rfl dX8_advance_45 ?_
  by_cases hs46_0 : x1 = 0
  · refine sm_tableIn (Y := mX8_advance) (pc := 46) 84 (by rw [hs46_0]; decide) (by rw [hs46_0]; decide) (by first | (rw [hs46_0]; done) | (rw [hs46_0]; rfl)) (by decide) dX8_advance_46 ?_
    replace h := h.1 hs46_0
    refine sm_aload_n (Y := mX8_advance) (pc := 84) 0 0 rfl rfl dX8_advance_84 ?_
    refine sm_iconst (Y := mX8_advance) (pc := 85) 1 (by decide) dX8_advance_85 ?_
    refine sm_iv_V (Y := mX8_advance) (pc := 86) (As := [.int 1]) (a := a0) fX8_add wRX8_57 (fun S hS => (hTa0 S hS).1) (by decide) rfl rfl rfl (Nat.le_trans (by decide) hd) (Nat.le_of_ble_eq_true rfl) ⟨Nat.le_refl _, Nat.le_refl _⟩ dX8_advance_86 rfl (sm_monoV h (fun m_1 h => ?_))
    refine sm_aload_n (Y := mX8_advance) (pc := 89) 0 0 rfl rfl dX8_advance_89 ?_
    refine sm_bipush (Y := mX8_advance) (pc := 90) 11 (by decide) dX8_advance_90 ?_
    refine sm_iv_V (Y := mX8_advance) (pc := 92) (As := [.int 11]) (a := a0) fX8_add wRX8_57 (fun S hS => (hTa0 S hS).1) (by decide) rfl rfl rfl (Nat.le_trans (by decide) hd) (Nat.le_of_ble_eq_true rfl) ⟨Nat.le_refl _, Nat.le_refl _⟩ dX8_advance_92 rfl (sm_monoV h (fun m_2 h => ?_))
    refine sm_goto (Y := mX8_advance) (pc := 95) 160 (by decide) dX8_advance_95 ?_
    refine sm_iconst (Y := mX8_advance) (pc := 160) 1 (by decide) dX8_advance_160 ?_
    exact sm_zret (Y := mX8_advance) (pc := 161) rfl (by decide) rfl rfl dX8_advance_161 ⟨_, rfl, h⟩
  replace h := h.2
  by_cases hs46_1 : x1 = 1
  · refine sm_tableIn (Y := mX8_advance) (pc := 46) 98 (by rw [hs46_1]; decide) (by rw [hs46_1]; decide) (by first | (rw [hs46_1]; done) | (rw [hs46_1]; rfl)) (by decide) dX8_advance_46 ?_
    replace h := h.1 hs46_1
    refine sm_aload_n (Y := mX8_advance) (pc := 98) 0 0 rfl rfl dX8_advance_98 ?_
    refine sm_iconst (Y := mX8_advance) (pc := 99) (-1) (by decide) dX8_advance_99 ?_
    refine sm_iv_V (Y := mX8_advance) (pc := 100) (As := [.int (-1)]) (a := a0) fX8_add wRX8_57 (fun S hS => (hTa0 S hS).1) (by decide) rfl rfl rfl (Nat.le_trans (by decide) hd) (Nat.le_of_ble_eq_true rfl) ⟨Nat.le_refl _, Nat.le_refl _⟩ dX8_advance_100 rfl (sm_monoV h (fun m_3 h => ?_))
    refine sm_aload_n (Y := mX8_advance) (pc := 103) 0 0 rfl rfl dX8_advance_103 ?_
    refine sm_bipush (Y := mX8_advance) (pc := 104) 11 (by decide) dX8_advance_104 ?_
    refine sm_iv_V (Y := mX8_advance) (pc := 106) (As := [.int 11]) (a := a0) fX8_add wRX8_57 (fun S hS => (hTa0 S hS).1) (by decide) rfl rfl rfl (Nat.le_trans (by decide) hd) (Nat.le_of_ble_eq_true rfl) ⟨Nat.le_refl _, Nat.le_refl _⟩ dX8_advance_106 rfl (sm_monoV h (fun m_4 h => ?_))
    refine sm_goto (Y := mX8_advance) (pc := 109) 160 (by decide) dX8_advance_109 ?_
    refine sm_iconst (Y := mX8_advance) (pc := 160) 1 (by decide) dX8_advance_160 ?_
    exact sm_zret (Y := mX8_advance) (pc := 161) rfl (by decide) rfl rfl dX8_advance_161 ⟨_, rfl, h⟩
  replace h := h.2
  by_cases hs46_2 : x1 = 2
  · refine sm_tableIn (Y := mX8_advance) (pc := 46) 112 (by rw [hs46_2]; decide) (by rw [hs46_2]; decide) (by first | (rw [hs46_2]; done) | (rw [hs46_2]; rfl)) (by decide) dX8_advance_46 ?_
    replace h := h.1 hs46_2
    refine sm_aload_n (Y := mX8_advance) (pc := 112) 0 0 rfl rfl dX8_advance_112 ?_
    refine sm_bipush (Y := mX8_advance) (pc := 113) 13 (by decide) dX8_advance_113 ?_
    refine sm_iv_V (Y := mX8_advance) (pc := 115) (As := [.int 13]) (a := a0) fX8_add wRX8_57 (fun S hS => (hTa0 S hS).1) (by decide) rfl rfl rfl (Nat.le_trans (by decide) hd) (Nat.le_of_ble_eq_true rfl) ⟨Nat.le_refl _, Nat.le_refl _⟩ dX8_advance_115 rfl (sm_monoV h (fun m_5 h => ?_))
    refine sm_goto (Y := mX8_advance) (pc := 118) 160 (by decide) dX8_advance_118 ?_
    refine sm_iconst (Y := mX8_advance) (pc := 160) 1 (by decide) dX8_advance_160 ?_
    exact sm_zret (Y := mX8_advance) (pc := 161) rfl (by decide) rfl rfl dX8_advance_161 ⟨_, rfl, h⟩
  replace h := h.2
  by_cases hs46_3 : x1 = 3
  · refine sm_tableIn (Y := mX8_advance) (pc := 46) 121 (by rw [hs46_3]; decide) (by rw [hs46_3]; decide) (by first | (rw [hs46_3]; done) | (rw [hs46_3]; rfl)) (by decide) dX8_advance_46 ?_
    replace h := h.1 hs46_3
    refine sm_aload_n (Y := mX8_advance) (pc := 121) 0 0 rfl rfl dX8_advance_121 ?_
    refine sm_bipush (Y := mX8_advance) (pc := 122) 14 (by decide) dX8_advance_122 ?_
    refine sm_iv_V (Y := mX8_advance) (pc := 124) (As := [.int 14]) (a := a0) fX8_add wRX8_57 (fun S hS => (hTa0 S hS).1) (by decide) rfl rfl rfl (Nat.le_trans (by decide) hd) (Nat.le_of_ble_eq_true rfl) ⟨Nat.le_refl _, Nat.le_refl _⟩ dX8_advance_124 rfl (sm_monoV h (fun m_6 h => ?_))
    refine sm_goto (Y := mX8_advance) (pc := 127) 160 (by decide) dX8_advance_127 ?_
    refine sm_iconst (Y := mX8_advance) (pc := 160) 1 (by decide) dX8_advance_160 ?_
    exact sm_zret (Y := mX8_advance) (pc := 161) rfl (by decide) rfl rfl dX8_advance_161 ⟨_, rfl, h⟩
  replace h := h.2
  by_cases hs46_4 : x1 = 4
  · refine sm_tableIn (Y := mX8_advance) (pc := 46) 130 (by rw [hs46_4]; decide) (by rw [hs46_4]; decide) (by first | (rw [hs46_4]; done) | (rw [hs46_4]; rfl)) (by decide) dX8_advance_46 ?_
    replace h := h.1 hs46_4
    refine sm_aload_n (Y := mX8_advance) (pc := 130) 0 0 rfl rfl dX8_advance_130 ?_
    refine sm_iconst (Y := mX8_advance) (pc := 131) 1 (by decide) dX8_advance_131 ?_
    refine sm_iv_V (Y := mX8_advance) (pc := 132) (As := [.int 1]) (a := a0) fX8_add wRX8_57 (fun S hS => (hTa0 S hS).1) (by decide) rfl rfl rfl (Nat.le_trans (by decide) hd) (Nat.le_of_ble_eq_true rfl) ⟨Nat.le_refl _, Nat.le_refl _⟩ dX8_advance_132 rfl (sm_monoV h (fun m_7 h => ?_))
    refine sm_aload_n (Y := mX8_advance) (pc := 135) 0 0 rfl rfl dX8_advance_135 ?_
    refine sm_bipush (Y := mX8_advance) (pc := 136) 12 (by decide) dX8_advance_136 ?_
    refine sm_iv_V (Y := mX8_advance) (pc := 138) (As := [.int 12]) (a := a0) fX8_add wRX8_57 (fun S hS => (hTa0 S hS).1) (by decide) rfl rfl rfl (Nat.le_trans (by decide) hd) (Nat.le_of_ble_eq_true rfl) ⟨Nat.le_refl _, Nat.le_refl _⟩ dX8_advance_138 rfl (sm_monoV h (fun m_8 h => ?_))
    refine sm_goto (Y := mX8_advance) (pc := 141) 160 (by decide) dX8_advance_141 ?_
    refine sm_iconst (Y := mX8_advance) (pc := 160) 1 (by decide) dX8_advance_160 ?_
    exact sm_zret (Y := mX8_advance) (pc := 161) rfl (by decide) rfl rfl dX8_advance_161 ⟨_, rfl, h⟩
  replace h := h.2
  by_cases hs46_5 : x1 = 5
  · refine sm_tableIn (Y := mX8_advance) (pc := 46) 144 (by rw [hs46_5]; decide) (by rw [hs46_5]; decide) (by first | (rw [hs46_5]; done) | (rw [hs46_5]; rfl)) (by decide) dX8_advance_46 ?_
    replace h := h.1 hs46_5
    refine sm_aload_n (Y := mX8_advance) (pc := 144) 0 0 rfl rfl dX8_advance_144 ?_
    refine sm_iconst (Y := mX8_advance) (pc := 145) (-1) (by decide) dX8_advance_145 ?_
    refine sm_iv_V (Y := mX8_advance) (pc := 146) (As := [.int (-1)]) (a := a0) fX8_add wRX8_57 (fun S hS => (hTa0 S hS).1) (by decide) rfl rfl rfl (Nat.le_trans (by decide) hd) (Nat.le_of_ble_eq_true rfl) ⟨Nat.le_refl _, Nat.le_refl _⟩ dX8_advance_146 rfl (sm_monoV h (fun m_9 h => ?_))
    refine sm_aload_n (Y := mX8_advance) (pc := 149) 0 0 rfl rfl dX8_advance_149 ?_
    refine sm_bipush (Y := mX8_advance) (pc := 150) 12 (by decide) dX8_advance_150 ?_
    refine sm_iv_V (Y := mX8_advance) (pc := 152) (As := [.int 12]) (a := a0) fX8_add wRX8_57 (fun S hS => (hTa0 S hS).1) (by decide) rfl rfl rfl (Nat.le_trans (by decide) hd) (Nat.le_of_ble_eq_true rfl) ⟨Nat.le_refl _, Nat.le_refl _⟩ dX8_advance_152 rfl (sm_monoV h (fun m_10 h => ?_))
    refine sm_goto (Y := mX8_advance) (pc := 155) 160 (by decide) dX8_advance_155 ?_
    refine sm_iconst (Y := mX8_advance) (pc := 160) 1 (by decide) dX8_advance_160 ?_
    exact sm_zret (Y := mX8_advance) (pc := 161) rfl (by decide) rfl rfl dX8_advance_161 ⟨_, rfl, h⟩
  replace h := h.2
  refine sm_tableOut (Y := mX8_advance) (pc := 46) 158 (sm_tout (lo := 0) 6 (fun j hj => by
      match j, hj with
      | 0, _ => exact lv_neT hs46_0 (by decide)
      | 1, _ => exact lv_neT hs46_1 (by decide)
      | 2, _ => exact lv_neT hs46_2 (by decide)
      | 3, _ => exact lv_neT hs46_3 (by decide)
      | 4, _ => exact lv_neT hs46_4 (by decide)
      | 5, _ => exact lv_neT hs46_5 (by decide)
      | j + 6, hj => exact absurd hj (by omega))) (by decide) dX8_advance_46 ?_
  replace h := h ⟨hs46_0, hs46_1, hs46_2, hs46_3, hs46_4, hs46_5⟩
  refine sm_iconst (Y := mX8_advance) (pc := 158) 0 (by decide) dX8_advance_158 ?_
  exact sm_zret (Y := mX8_advance) (pc := 159) rfl (by decide) rfl rfl dX8_advance_159 ⟨_, rfl, h⟩
theorem dX8_advance_15 : decode cX8_advance 15 = .ok (.istore_n 2, 1) := dk_istore_n_2 (by decide +kernel)
theorem dX8_advance_16 : decode cX8_advance 16 = .ok (.iload_n 2, 1) := dk_iload_n_2 (by decide +kernel)
theorem dX8_advance_17 : decode cX8_advance 17 = .ok (.ifCond .eq 16, 3) := dk_ifCond_eq 16 (b1 := 0) (b2 := 16) (by decide +kernel) (by decide +kernel) (by decide +kernel) (by decide +kernel)
theorem dX8_advance_33 : decode cX8_advance 33 = .ok (.aload_n 0, 1) := dk_aload_n_0 (by decide +kernel)
theorem dX8_advance_34 : decode cX8_advance 34 = .ok (.iconst 1, 1) := dk_iconst_1 (by decide +kernel)
theorem dX8_advance_35 : decode cX8_advance 35 = .ok (.iconst 1, 1) := dk_iconst_1 (by decide +kernel)
theorem dX8_advance_36 : decode cX8_advance 36 = .ok (.iconst 2, 1) := dk_iconst_2 (by decide +kernel)
theorem dX8_advance_37 : decode cX8_advance 37 = .ok (.invokevirtual 67, 3) := dk_invokevirtual 67 (b1 := 0) (b2 := 67) (by decide +kernel) (by decide +kernel) (by decide +kernel) (by decide +kernel)
theorem dX8_advance_40 : decode cX8_advance 40 = .ok (.ifCond .ne 5, 3) := dk_ifCond_ne 5 (b1 := 0) (b2 := 5) (by decide +kernel) (by decide +kernel) (by decide +kernel) (by decide +kernel)
theorem dX8_advance_43 : decode cX8_advance 43 = .ok (.iconst 0, 1) := dk_iconst_0 (by decide +kernel)
theorem dX8_advance_44 : decode cX8_advance 44 = .ok (.ireturn, 1) := dk_ireturn (by decide +kernel)
theorem dX8_advance_20 : decode cX8_advance 20 = .ok (.aload_n 0, 1) := dk_aload_n_0 (by decide +kernel)
theorem dX8_advance_21 : decode cX8_advance 21 = .ok (.iconst 0, 1) := dk_iconst_0 (by decide +kernel)
theorem dX8_advance_22 : decode cX8_advance 22 = .ok (.iconst 0, 1) := dk_iconst_0 (by decide +kernel)
theorem dX8_advance_23 : decode cX8_advance 23 = .ok (.iconst 1, 1) := dk_iconst_1 (by decide +kernel)
theorem dX8_advance_24 : decode cX8_advance 24 = .ok (.invokevirtual 67, 3) := dk_invokevirtual 67 (b1 := 0) (b2 := 67) (by decide +kernel) (by decide +kernel) (by decide +kernel) (by decide +kernel)
theorem dX8_advance_27 : decode cX8_advance 27 = .ok (.ifCond .ne 18, 3) := dk_ifCond_ne 18 (b1 := 0) (b2 := 18) (by decide +kernel) (by decide +kernel) (by decide +kernel) (by decide +kernel)
theorem dX8_advance_30 : decode cX8_advance 30 = .ok (.goto 13, 3) := dk_goto 13 (b1 := 0) (b2 := 13) (by decide +kernel) (by decide +kernel) (by decide +kernel) (by decide +kernel)
set_option maxRecDepth 20000 in
theorem vX8_advance_15 {E : sm_E} {L : sm_S → Prop} {d : Nat} {vs : List Value} {a0 : Nat} {x1 : Int32} {s0 : Int32} {na0 : Nat} {m : sm_M} {Q : Int32 → sm_M → Prop}  (hd : 3 ≤ d) (hTa0 : sm_tan L a0 na0)
  (h : (s0 = 0 →
      sm_callI E L mX8_hasRoom 1 0 0 [.ref (sm_B E + a0), .int 1, .int 1, .int 2] m (fun r_3 m_2 =>
      (¬ r_3 = 0 →
         gX8_advance_45 E L d vs a0 x1 m_2 Q) ∧
      (r_3 = 0 →
         Q 0 m_2))) ∧
   (¬ s0 = 0 →
      sm_callI E L mX8_hasRoom 1 0 0 [.ref (sm_B E + a0), .int 0, .int 0, .int 1] m (fun r_5 m_4 =>
      (¬ r_5 = 0 →
         gX8_advance_45 E L d vs a0 x1 m_4 Q) ∧
      (r_5 = 0 →
         Q 0 m_4)))) :
  gX8_advance_15 E L d vs a0 x1 s0 m Q := by
  refine sm_istore0_n (Y := mX8_advance) (pc := 15) [(2, .int s0), (0, .ref (sm_B E + a0)), (1, .int x1)] 2 rfl (by decide) rfl dX8_advance_15 ?_
  refine sm_iload_n (Y := mX8_advance) (pc := 16) 0 2 rfl rfl dX8_advance_16 ?_
  refine sm_if_eq (Y := mX8_advance) (pc := 17) 33 (by decide) dX8_advance_17 (fun hc => ?_) (fun hc => ?_)
  · replace h := h.1 hc
    refine sm_aload_n (Y := mX8_advance) (pc := 33) 1 0 rfl rfl dX8_advance_33 ?_
    refine sm_iconst (Y := mX8_advance) (pc := 34) 1 (by decide) dX8_advance_34 ?_
    refine sm_iconst (Y := mX8_advance) (pc := 35) 1 (by decide) dX8_advance_35 ?_
    refine sm_iconst (Y := mX8_advance) (pc := 36) 2 (by decide) dX8_advance_36 ?_
    refine sm_iv_I (Y := mX8_advance) (pc := 37) (As := [.int 1, .int 1, .int 2]) (a := a0) fX8_hasRoom wRX8_67 (fun S hS => (hTa0 S hS).1) (by decide) rfl rfl rfl (Nat.le_trans (by decide) hd) (Nat.le_of_ble_eq_true rfl) ⟨Nat.le_refl _, Nat.le_refl _⟩ dX8_advance_37 rfl (sm_monoI h (fun r_3 m_2 h => ?_))
    refine sm_if_ne (Y := mX8_advance) (pc := 40) 45 (by decide) dX8_advance_40 (fun hc => ?_) (fun hc => ?_)
    · replace h := h.1 hc
      refine sm_sub [1, 2] rfl ?_
      exact h
    · replace h := h.2 hc
      refine sm_iconst (Y := mX8_advance) (pc := 43) 0 (by decide) dX8_advance_43 ?_
      exact sm_zret (Y := mX8_advance) (pc := 44) rfl (by decide) rfl rfl dX8_advance_44 ⟨_, rfl, h⟩
  · replace h := h.2 hc
    refine sm_aload_n (Y := mX8_advance) (pc := 20) 1 0 rfl rfl dX8_advance_20 ?_
    refine sm_iconst (Y := mX8_advance) (pc := 21) 0 (by decide) dX8_advance_21 ?_
    refine sm_iconst (Y := mX8_advance) (pc := 22) 0 (by decide) dX8_advance_22 ?_
    refine sm_iconst (Y := mX8_advance) (pc := 23) 1 (by decide) dX8_advance_23 ?_
    refine sm_iv_I (Y := mX8_advance) (pc := 24) (As := [.int 0, .int 0, .int 1]) (a := a0) fX8_hasRoom wRX8_67 (fun S hS => (hTa0 S hS).1) (by decide) rfl rfl rfl (Nat.le_trans (by decide) hd) (Nat.le_of_ble_eq_true rfl) ⟨Nat.le_refl _, Nat.le_refl _⟩ dX8_advance_24 rfl (sm_monoI h (fun r_5 m_4 h => ?_))
    refine sm_if_ne (Y := mX8_advance) (pc := 27) 45 (by decide) dX8_advance_27 (fun hc => ?_) (fun hc => ?_)
    · replace h := h.1 hc
      refine sm_sub [1, 2] rfl ?_
      exact h
    · replace h := h.2 hc
      refine sm_goto (Y := mX8_advance) (pc := 30) 43 (by decide) dX8_advance_30 ?_
      refine sm_iconst (Y := mX8_advance) (pc := 43) 0 (by decide) dX8_advance_43 ?_
      exact sm_zret (Y := mX8_advance) (pc := 44) rfl (by decide) rfl rfl dX8_advance_44 ⟨_, rfl, h⟩
theorem dX8_advance_0 : decode cX8_advance 0 = .ok (.iload_n 1, 1) := dk_iload_n_1 (by decide +kernel)
theorem dX8_advance_1 : decode cX8_advance 1 = .ok (.iconst 2, 1) := dk_iconst_2 (by decide +kernel)
theorem dX8_advance_2 : decode cX8_advance 2 = .ok (.if_icmp .eq 8, 3) := dk_if_icmp_eq 8 (b1 := 0) (b2 := 8) (by decide +kernel) (by decide +kernel) (by decide +kernel) (by decide +kernel)
theorem dX8_advance_10 : decode cX8_advance 10 = .ok (.iconst 1, 1) := dk_iconst_1 (by decide +kernel)
theorem dX8_advance_11 : decode cX8_advance 11 = .ok (.goto 4, 3) := dk_goto 4 (b1 := 0) (b2 := 4) (by decide +kernel) (by decide +kernel) (by decide +kernel) (by decide +kernel)
theorem dX8_advance_5 : decode cX8_advance 5 = .ok (.iload_n 1, 1) := dk_iload_n_1 (by decide +kernel)
theorem dX8_advance_6 : decode cX8_advance 6 = .ok (.iconst 3, 1) := dk_iconst_3 (by decide +kernel)
theorem dX8_advance_7 : decode cX8_advance 7 = .ok (.if_icmp .ne 7, 3) := dk_if_icmp_ne 7 (b1 := 0) (b2 := 7) (by decide +kernel) (by decide +kernel) (by decide +kernel) (by decide +kernel)
theorem dX8_advance_14 : decode cX8_advance 14 = .ok (.iconst 0, 1) := dk_iconst_0 (by decide +kernel)
set_option maxRecDepth 20000 in
theorem vX8_advance_0 {E : sm_E} {L : sm_S → Prop} {d : Nat} {a0 : Nat} {x1 : Int32} {na0 : Nat} {m : sm_M} {Q : Int32 → sm_M → Prop}  (hd : 3 ≤ d) (hTa0 : sm_tan L a0 na0)
  (h : (x1 = 2 →
      gX8_advance_15 E L d ([.ref (sm_B E + a0), .int x1]) a0 x1 1 m Q) ∧
   (¬ x1 = 2 →
      (¬ x1 = 3 →
         gX8_advance_15 E L d ([.ref (sm_B E + a0), .int x1]) a0 x1 0 m Q) ∧
      (x1 = 3 →
         gX8_advance_15 E L d ([.ref (sm_B E + a0), .int x1]) a0 x1 1 m Q))) :
  sm_callI E L mX8_advance d 0 0 [.ref (sm_B E + a0), .int x1] m Q := by
  refine sm_enter (by decide +kernel) (by simp [lg_sl, Value.category]) ?_
  refine sm_iload_n (Y := mX8_advance) (pc := 0) 1 1 rfl rfl dX8_advance_0 ?_
  refine sm_iconst (Y := mX8_advance) (pc := 1) 2 (by decide) dX8_advance_1 ?_
  refine sm_icmp_eq (Y := mX8_advance) (pc := 2) 10 (by decide) dX8_advance_2 (fun hc => ?_) (fun hc => ?_)
  · replace h := h.1 hc
    refine sm_iconst (Y := mX8_advance) (pc := 10) 1 (by decide) dX8_advance_10 ?_
    refine sm_goto (Y := mX8_advance) (pc := 11) 15 (by decide) dX8_advance_11 ?_
    exact h
  · replace h := h.2 hc
    refine sm_iload_n (Y := mX8_advance) (pc := 5) 1 1 rfl rfl dX8_advance_5 ?_
    refine sm_iconst (Y := mX8_advance) (pc := 6) 3 (by decide) dX8_advance_6 ?_
    refine sm_icmp_ne (Y := mX8_advance) (pc := 7) 14 (by decide) dX8_advance_7 (fun hc => ?_) (fun hc => ?_)
    · replace h := h.1 hc
      refine sm_iconst (Y := mX8_advance) (pc := 14) 0 (by decide) dX8_advance_14 ?_
      exact h
    · replace h := h.2 hc
      refine sm_iconst (Y := mX8_advance) (pc := 10) 1 (by decide) dX8_advance_10 ?_
      refine sm_goto (Y := mX8_advance) (pc := 11) 15 (by decide) dX8_advance_11 ?_
      exact h
