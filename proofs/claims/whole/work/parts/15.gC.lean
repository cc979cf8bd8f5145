abbrev mX9_hasRoom : sm_Y := (yX9_hasRoom, cX9_hasRoom, 2, (some FieldType.boolean))
theorem fX9_hasRoom : sm_mi mX9_hasRoom RX9 1 := ⟨sm_in 527 (by decide +kernel) (by decide +kernel), sm_in 525 (by decide +kernel) (by decide +kernel), sm_in 526 (by decide +kernel) (by decide +kernel), sm_in 86 (by decide +kernel) (by decide +kernel), rfl, ⟨by decide +kernel, by decide +kernel, by decide +kernel⟩, by decide⟩
theorem dX9_hasRoom_0 : decode cX9_hasRoom 0 = .ok (.aload_n 0, 1) := dk_aload_n_0 (by decide +kernel)
theorem dX9_hasRoom_1 : decode cX9_hasRoom 1 = .ok (.getfield 30, 3) := dk_getfield 30 (b1 := 0) (b2 := 30) (by decide +kernel) (by decide +kernel) (by decide +kernel) (by decide +kernel)
theorem dX9_hasRoom_4 : decode cX9_hasRoom 4 = .ok (.iload_n 1, 1) := dk_iload_n_1 (by decide +kernel)
theorem dX9_hasRoom_5 : decode cX9_hasRoom 5 = .ok (.iadd, 1) := dk_iadd (by decide +kernel)
theorem dX9_hasRoom_6 : decode cX9_hasRoom 6 = .ok (.bipush 100, 2) := dk_bipush 100 (b := 100) (by decide +kernel) (by decide +kernel) (by decide +kernel)
theorem dX9_hasRoom_8 : decode cX9_hasRoom 8 = .ok (.if_icmp .gt 7, 3) := dk_if_icmp_gt 7 (b1 := 0) (b2 := 7) (by decide +kernel) (by decide +kernel) (by decide +kernel) (by decide +kernel)
theorem dX9_hasRoom_15 : decode cX9_hasRoom 15 = .ok (.iconst 0, 1) := dk_iconst_0 (by decide +kernel)
theorem dX9_hasRoom_16 : decode cX9_hasRoom 16 = .ok (.ireturn, 1) := dk_ireturn (by decide +kernel)
theorem dX9_hasRoom_11 : decode cX9_hasRoom 11 = .ok (.iconst 1, 1) := dk_iconst_1 (by decide +kernel)
theorem dX9_hasRoom_12 : decode cX9_hasRoom 12 = .ok (.goto 4, 3) := dk_goto 4 (b1 := 0) (b2 := 4) (by decide +kernel) (by decide +kernel) (by decide +kernel) (by decide +kernel)
set_option maxRecDepth 20000 in
theorem vX9_hasRoom_0 {E : sm_E} {L : sm_S → Prop} {d : Nat} {x1 : Int32}  {m : sm_M} {Q : Int32 → sm_M → Prop} (hly : ∀ S, L S → ly S) (hd : 1 ≤ d) 
  (h : (100 < ((m.1 10 4) + x1) →
      Q 0 m) ∧
   (¬ 100 < ((m.1 10 4) + x1) →
      Q 1 m)) :
  sm_callI E L mX9_hasRoom d 0 0 [.ref (sm_B E + 10), .int x1] m Q := by
  refine sm_enter (by decide +kernel) (by simp [lg_sl, Value.category]) ?_
  refine sm_aload_n (Y := mX9_hasRoom) (pc := 0) 0 0 rfl rfl dX9_hasRoom_0 ?_
  refine gf_RX9_30 (Y := mX9_hasRoom) (pc := 1) rfl ((lk_10 hly) _) dX9_hasRoom_1 ?_
  refine sm_iload_n (Y := mX9_hasRoom) (pc := 4) 1 1 rfl rfl dX9_hasRoom_4 ?_
  refine sm_iadd (Y := mX9_hasRoom) (pc := 5) dX9_hasRoom_5 ?_
  refine sm_bipush (Y := mX9_hasRoom) (pc := 6) 100 (by decide) dX9_hasRoom_6 ?_
  refine sm_icmp_gt (Y := mX9_hasRoom) (pc := 8) 15 (by decide) dX9_hasRoom_8 (fun hc => ?_) (fun hc => ?_)
  · replace h := h.1 hc
    refine sm_iconst (Y := mX9_hasRoom) (pc := 15) 0 (by decide) dX9_hasRoom_15 ?_
    exact sm_zret (Y := mX9_hasRoom) (pc := 16) rfl (by decide) rfl rfl dX9_hasRoom_16 ⟨_, rfl, h⟩
  · replace h := h.2 hc
    refine sm_iconst (Y := mX9_hasRoom) (pc := 11) 1 (by decide) dX9_hasRoom_11 ?_
    refine sm_goto (Y := mX9_hasRoom) (pc := 12) 16 (by decide) dX9_hasRoom_12 ?_
    exact sm_zret (Y := mX9_hasRoom) (pc := 16) rfl (by decide) rfl rfl dX9_hasRoom_16 ⟨_, rfl, h⟩
abbrev mX9_take : sm_Y := (yX9_take, cX9_take, 2, none)
theorem fX9_take : sm_mi mX9_take RX9 1 := ⟨sm_in 531 (by decide +kernel) (by decide +kernel), sm_in 529 (by decide +kernel) (by decide +kernel), sm_in 530 (by decide +kernel) (by decide +kernel), sm_in 86 (by decide +kernel) (by decide +kernel), rfl, ⟨by decide +kernel, by decide +kernel, by decide +kernel⟩, by decide⟩
theorem dX9_take_0 : decode cX9_take 0 = .ok (.aload_n 0, 1) := dk_aload_n_0 (by decide +kernel)
theorem dX9_take_1 : decode cX9_take 1 = .ok (.getfield 30, 3) := dk_getfield 30 (b1 := 0) (b2 := 30) (by decide +kernel) (by decide +kernel) (by decide +kernel) (by decide +kernel)
theorem dX9_take_4 : decode cX9_take 4 = .ok (.aload_n 0, 1) := dk_aload_n_0 (by decide +kernel)
theorem dX9_take_5 : decode cX9_take 5 = .ok (.getfield 9, 3) := dk_getfield 9 (b1 := 0) (b2 := 9) (by decide +kernel) (by decide +kernel) (by decide +kernel) (by decide +kernel)
theorem dX9_take_8 : decode cX9_take 8 = .ok (.arraylength, 1) := dk_arraylength (by decide +kernel)
theorem dX9_take_9 : decode cX9_take 9 = .ok (.if_icmp .ge 23, 3) := dk_if_icmp_ge 23 (b1 := 0) (b2 := 23) (by decide +kernel) (by decide +kernel) (by decide +kernel) (by decide +kernel)
theorem dX9_take_32 : decode cX9_take 32 = .ok (.return_, 1) := dk_return_ (by decide +kernel)
theorem dX9_take_12 : decode cX9_take 12 = .ok (.aload_n 0, 1) := dk_aload_n_0 (by decide +kernel)
theorem dX9_take_13 : decode cX9_take 13 = .ok (.getfield 9, 3) := dk_getfield 9 (b1 := 0) (b2 := 9) (by decide +kernel) (by decide +kernel) (by decide +kernel) (by decide +kernel)
theorem dX9_take_16 : decode cX9_take 16 = .ok (.aload_n 0, 1) := dk_aload_n_0 (by decide +kernel)
theorem dX9_take_17 : decode cX9_take 17 = .ok (.getfield 30, 3) := dk_getfield 30 (b1 := 0) (b2 := 30) (by decide +kernel) (by decide +kernel) (by decide +kernel) (by decide +kernel)
theorem dX9_take_20 : decode cX9_take 20 = .ok (.iload_n 1, 1) := dk_iload_n_1 (by decide +kernel)
theorem dX9_take_21 : decode cX9_take 21 = .ok (.iastore, 1) := dk_iastore (by decide +kernel)
theorem dX9_take_22 : decode cX9_take 22 = .ok (.aload_n 0, 1) := dk_aload_n_0 (by decide +kernel)
theorem dX9_take_23 : decode cX9_take 23 = .ok (.dup, 1) := dk_dup (by decide +kernel)
theorem dX9_take_24 : decode cX9_take 24 = .ok (.getfield 30, 3) := dk_getfield 30 (b1 := 0) (b2 := 30) (by decide +kernel) (by decide +kernel) (by decide +kernel) (by decide +kernel)
theorem dX9_take_27 : decode cX9_take 27 = .ok (.iconst 1, 1) := dk_iconst_1 (by decide +kernel)
theorem dX9_take_28 : decode cX9_take 28 = .ok (.iadd, 1) := dk_iadd (by decide +kernel)
theorem dX9_take_29 : decode cX9_take 29 = .ok (.putfield 30, 3) := dk_putfield 30 (b1 := 0) (b2 := 30) (by decide +kernel) (by decide +kernel) (by decide +kernel) (by decide +kernel)
set_option maxRecDepth 20000 in
theorem vX9_take_0 {E : sm_E} {L : sm_S → Prop} {d : Nat} {x1 : Int32}  {m : sm_M} {Q : sm_M → Prop} (hly : ∀ S, L S → ly S) (hd : 1 ≤ d) 
  (h : ((nI 100) ≤ (m.1 10 4) →
      Q m) ∧
   (¬ (nI 100) ≤ (m.1 10 4) →
      (vp_in (m.1 10 4) 100) ∧ ∀ m_1 : sm_M, m_1 = sm_wI m 11 (m.1 10 4).toNatClampNeg x1 →
      ∀ m_3 : sm_M, m_3 = sm_wI m_1 10 4 ((m_1.1 10 4) + 1) →
      Q m_3)) :
  sm_callV E L mX9_take d 0 0 [.ref (sm_B E + 10), .int x1] m Q := by
  refine sm_enter (by decide +kernel) (by simp [lg_sl, Value.category]) ?_
  refine sm_aload_n (Y := mX9_take) (pc := 0) 0 0 rfl rfl dX9_take_0 ?_
  refine gf_RX9_30 (Y := mX9_take) (pc := 1) rfl ((lk_10 hly) _) dX9_take_1 ?_
  refine sm_aload_n (Y := mX9_take) (pc := 4) 0 0 rfl rfl dX9_take_4 ?_
  refine gf_RX9_9 (Y := mX9_take) (pc := 5) (b := 11) rfl ((lk_10 hly) _) (lf_10_0 hly _) dX9_take_5 ?_
  refine sm_alenI (Y := mX9_take) (pc := 8) (la_11 hly _) dX9_take_8 ?_
  refine sm_icmp_ge (Y := mX9_take) (pc := 9) 32 (by decide) dX9_take_9 (fun hc => ?_) (fun hc => ?_)
  · replace h := h.1 hc
    exact sm_vret (Y := mX9_take) (pc := 32) rfl rfl rfl dX9_take_32 ⟨rfl, h⟩
  · replace h := h.2 hc
    refine sm_aload_n (Y := mX9_take) (pc := 12) 0 0 rfl rfl dX9_take_12 ?_
    refine gf_RX9_9 (Y := mX9_take) (pc := 13) (b := 11) rfl ((lk_10 hly) _) (lf_10_0 hly _) dX9_take_13 ?_
    refine sm_aload_n (Y := mX9_take) (pc := 16) 0 0 rfl rfl dX9_take_16 ?_
    refine gf_RX9_30 (Y := mX9_take) (pc := 17) rfl ((lk_10 hly) _) dX9_take_17 ?_
    refine sm_iload_n (Y := mX9_take) (pc := 20) 1 1 rfl rfl dX9_take_20 ?_
    obtain ⟨hn_2, h⟩ := h
    refine sm_iast (Y := mX9_take) (pc := 21) (la_11 hly _) hn_2 dX9_take_21 (fun m_1 em_1 => ?_)
    replace h := h m_1 em_1
    refine sm_aload_n (Y := mX9_take) (pc := 22) 0 0 rfl rfl dX9_take_22 ?_
    refine sm_dup (Y := mX9_take) (pc := 23) rfl dX9_take_23 ?_
    refine gf_RX9_30 (Y := mX9_take) (pc := 24) rfl ((lk_10 hly) _) dX9_take_24 ?_
    refine sm_iconst (Y := mX9_take) (pc := 27) 1 (by decide) dX9_take_27 ?_
    refine sm_iadd (Y := mX9_take) (pc := 28) dX9_take_28 ?_
    refine pf_RX9_30 (Y := mX9_take) (pc := 29) rfl ((lk_10 hly) _) dX9_take_29 (fun m_3 em_3 => ?_)
    replace h := h m_3 em_3
    exact sm_vret (Y := mX9_take) (pc := 32) rfl rfl rfl dX9_take_32 ⟨rfl, h⟩
abbrev mX9_readMove : sm_Y := (yX9_readMove, cX9_readMove, 2, (some FieldType.int))
theorem fX9_readMove : sm_mi mX9_readMove RX9 1 := ⟨sm_in 649 (by decide +kernel) (by decide +kernel), sm_in 647 (by decide +kernel) (by decide +kernel), sm_in 648 (by decide +kernel) (by decide +kernel), sm_in 86 (by decide +kernel) (by decide +kernel), rfl, ⟨by decide +kernel, by decide +kernel, by decide +kernel⟩, by decide⟩
theorem dX9_readMove_0 : decode cX9_readMove 0 = .ok (.iload_n 1, 1) := dk_iload_n_1 (by decide +kernel)
theorem dX9_readMove_1 : decode cX9_readMove 1 = .ok (.ifCond .lt 20, 3) := dk_ifCond_lt 20 (b1 := 0) (b2 := 20) (by decide +kernel) (by decide +kernel) (by decide +kernel) (by decide +kernel)
theorem dX9_readMove_21 : decode cX9_readMove 21 = .ok (.iconst 0, 1) := dk_iconst_0 (by decide +kernel)
theorem dX9_readMove_22 : decode cX9_readMove 22 = .ok (.ireturn, 1) := dk_ireturn (by decide +kernel)
theorem dX9_readMove_4 : decode cX9_readMove 4 = .ok (.iload_n 1, 1) := dk_iload_n_1 (by decide +kernel)
theorem dX9_readMove_5 : decode cX9_readMove 5 = .ok (.aload_n 0, 1) := dk_aload_n_0 (by decide +kernel)
theorem dX9_readMove_6 : decode cX9_readMove 6 = .ok (.getfield 34, 3) := dk_getfield 34 (b1 := 0) (b2 := 34) (by decide +kernel) (by decide +kernel) (by decide +kernel) (by decide +kernel)
theorem dX9_readMove_9 : decode cX9_readMove 9 = .ok (.if_icmp .ge 12, 3) := dk_if_icmp_ge 12 (b1 := 0) (b2 := 12) (by decide +kernel) (by decide +kernel) (by decide +kernel) (by decide +kernel)
theorem dX9_readMove_12 : decode cX9_readMove 12 = .ok (.aload_n 0, 1) := dk_aload_n_0 (by decide +kernel)
theorem dX9_readMove_13 : decode cX9_readMove 13 = .ok (.getfield 18, 3) := dk_getfield 18 (b1 := 0) (b2 := 18) (by decide +kernel) (by decide +kernel) (by decide +kernel) (by decide +kernel)
theorem dX9_readMove_16 : decode cX9_readMove 16 = .ok (.iload_n 1, 1) := dk_iload_n_1 (by decide +kernel)
theorem dX9_readMove_17 : decode cX9_readMove 17 = .ok (.iaload, 1) := dk_iaload (by decide +kernel)
theorem dX9_readMove_18 : decode cX9_readMove 18 = .ok (.goto 4, 3) := dk_goto 4 (b1 := 0) (b2 := 4) (by decide +kernel) (by decide +kernel) (by decide +kernel) (by decide +kernel)
set_option maxRecDepth 20000 in
theorem vX9_readMove_0 {E : sm_E} {L : sm_S → Prop} {d : Nat} {x1 : Int32}  {m : sm_M} {Q : Int32 → sm_M → Prop} (hly : ∀ S, L S → ly S) (hd : 1 ≤ d) 
  (h : (x1 < 0 →
      Q 0 m) ∧
   (¬ x1 < 0 →
      ((m.1 10 5) ≤ x1 →
         Q 0 m) ∧
      (¬ (m.1 10 5) ≤ x1 →
         (vp_in x1 100) ∧ Q (m.1 13 x1.toNatClampNeg) m))) :
  sm_callI E L mX9_readMove d 0 0 [.ref (sm_B E + 10), .int x1] m Q := by
  refine sm_enter (by decide +kernel) (by simp [lg_sl, Value.category]) ?_
  refine sm_iload_n (Y := mX9_readMove) (pc := 0) 1 1 rfl rfl dX9_readMove_0 ?_
  refine sm_if_lt (Y := mX9_readMove) (pc := 1) 21 (by decide) dX9_readMove_1 (fun hc => ?_) (fun hc => ?_)
  · replace h := h.1 hc
    refine sm_iconst (Y := mX9_readMove) (pc := 21) 0 (by decide) dX9_readMove_21 ?_
    exact sm_iret (Y := mX9_readMove) (pc := 22) rfl rfl rfl dX9_readMove_22 ⟨_, rfl, h⟩
  · replace h := h.2 hc
    refine sm_iload_n (Y := mX9_readMove) (pc := 4) 1 1 rfl rfl dX9_readMove_4 ?_
    refine sm_aload_n (Y := mX9_readMove) (pc := 5) 0 0 rfl rfl dX9_readMove_5 ?_
    refine gf_RX9_34 (Y := mX9_readMove) (pc := 6) rfl ((lk_10 hly) _) dX9_readMove_6 ?_
    refine sm_icmp_ge (Y := mX9_readMove) (pc := 9) 21 (by decide) dX9_readMove_9 (fun hc => ?_) (fun hc => ?_)
    · replace h := h.1 hc
      refine sm_iconst (Y := mX9_readMove) (pc := 21) 0 (by decide) dX9_readMove_21 ?_
      exact sm_iret (Y := mX9_readMove) (pc := 22) rfl rfl rfl dX9_readMove_22 ⟨_, rfl, h⟩
    · replace h := h.2 hc
      refine sm_aload_n (Y := mX9_readMove) (pc := 12) 0 0 rfl rfl dX9_readMove_12 ?_
      refine gf_RX9_18 (Y := mX9_readMove) (pc := 13) (b := 13) rfl ((lk_10 hly) _) (lf_10_2 hly _) dX9_readMove_13 ?_
      refine sm_iload_n (Y := mX9_readMove) (pc := 16) 1 1 rfl rfl dX9_readMove_16 ?_
      obtain ⟨hn_1, h⟩ := h
      refine sm_iald (Y := mX9_readMove) (pc := 17) (la_13 hly _) hn_1 dX9_readMove_17 ?_
      refine sm_goto (Y := mX9_readMove) (pc := 18) 22 (by decide) dX9_readMove_18 ?_
      exact sm_iret (Y := mX9_readMove) (pc := 22) rfl rfl rfl dX9_readMove_22 ⟨_, rfl, h⟩
abbrev mX9_readText : sm_Y := (yX9_readText, cX9_readText, 6, (some FieldType.int))
theorem fX9_readText : sm_mi mX9_readText RX9 0 := ⟨sm_in 539 (by decide +kernel) (by decide +kernel), sm_in 537 (by decide +kernel) (by decide +kernel), sm_in 538 (by decide +kernel) (by decide +kernel), sm_in 86 (by decide +kernel) (by decide +kernel), rfl, ⟨by decide +kernel, by decide +kernel, by decide +kernel⟩, by decide⟩
def gX9_readText_150 (E : sm_E) (L : sm_S → Prop) (d : Nat) (vs : List Value) (x2 : Int32) (x3 : Int32) (m : sm_M) (Q : Int32 → sm_M → Prop) : Prop := sm_go E L mX9_readText d 0 0 vs 150 [(0, .ref (sm_B E + 10)), (2, .int x2), (3, .int x3)] [] m 0 0 (sm_Z E L vs 0 0 (sm_QI Q))
def gX9_readText_101 (E : sm_E) (L : sm_S → Prop) (d : Nat) (vs : List Value) (x2 : Int32) (x4 : Int32) (m : sm_M) (Q : Int32 → sm_M → Prop) : Prop := sm_go E L mX9_readText d 0 0 vs 101 [(0, .ref (sm_B E + 10)), (2, .int x2), (4, .int x4)] [] m 0 0 (sm_Z E L vs 0 0 (sm_QI Q))
def gX9_readText_76 (E : sm_E) (L : sm_S → Prop) (d : Nat) (vs : List Value) (x1 : Int32) (x2 : Int32) (x3 : Int32) (m : sm_M) (Q : Int32 → sm_M → Prop) : Prop := sm_go E L mX9_readText d 0 0 vs 76 [(0, .ref (sm_B E + 10)), (1, .int x1), (2, .int x2), (3, .int x3)] [] m 0 0 (sm_Z E L vs 0 0 (sm_QI Q))
def gX9_readText_21 (E : sm_E) (L : sm_S → Prop) (d : Nat) (vs : List Value) (x1 : Int32) (x2 : Int32) (m : sm_M) (Q : Int32 → sm_M → Prop) : Prop := sm_go E L mX9_readText d 0 0 vs 21 [(0, .ref (sm_B E + 10)), (1, .int x1), (2, .int x2)] [] m 0 0 (sm_Z E L vs 0 0 (sm_QI Q))
theorem dX9_readText_150 : decode cX9_readText 150 = .ok (.iload_n 3, 1) := dk_iload_n_3 (by decide +kernel)
theorem dX9_readText_151 : decode cX9_readText 151 = .ok (.bipush 43, 2) := dk_bipush 43 (b := 43) (by decide +kernel) (by decide +kernel) (by decide +kernel)
theorem dX9_readText_153 : decode cX9_readText 153 = .ok (.if_icmp .ne 7, 3) := dk_if_icmp_ne 7 (b1 := 0) (b2 := 7) (by decide +kernel) (by decide +kernel) (by decide +kernel) (by decide +kernel)
theorem dX9_readText_160 : decode cX9_readText 160 = .ok (.aload_n 0, 1) := dk_aload_n_0 (by decide +kernel)
theorem dX9_readText_161 : decode cX9_readText 161 = .ok (.iload_n 3, 1) := dk_iload_n_3 (by decide +kernel)
theorem wRX9_50 : Cond.methodLink RX9 50 yX9_postpone ∈ sm_T := sm_in 544 (by decide +kernel) (by decide +kernel)
abbrev mX9_postpone : sm_Y := (yX9_postpone, cX9_postpone, 2, none)
theorem fX9_postpone : sm_mi mX9_postpone RX9 1 := ⟨sm_in 547 (by decide +kernel) (by decide +kernel), sm_in 546 (by decide +kernel) (by decide +kernel), sm_in 5 (by decide +kernel) (by decide +kernel), sm_in 86 (by decide +kernel) (by decide +kernel), rfl, ⟨by decide +kernel, by decide +kernel, by decide +kernel⟩, by decide⟩
theorem dX9_readText_162 : decode cX9_readText 162 = .ok (.invokevirtual 50, 3) := dk_invokevirtual 50 (b1 := 0) (b2 := 50) (by decide +kernel) (by decide +kernel) (by decide +kernel) (by decide +kernel)
theorem dX9_readText_165 : decode cX9_readText 165 = .ok (.iconst 1, 1) := dk_iconst_1 (by decide +kernel)
theorem dX9_readText_166 : decode cX9_readText 166 = .ok (.istore_n 1, 1) := dk_istore_n_1 (by decide +kernel)
theorem dX9_readText_167 : decode cX9_readText 167 = .ok (.goto 5, 3) := dk_goto 5 (b1 := 0) (b2 := 5) (by decide +kernel) (by decide +kernel) (by decide +kernel) (by decide +kernel)
theorem dX9_readText_172 : decode cX9_readText 172 = .ok (.iinc 2 1, 3) := dk_iinc 2 1 (b1 := 2) (b2 := 1) (by decide +kernel) (by decide +kernel) (by decide +kernel) (by decide +kernel) (by decide +kernel)
theorem dX9_readText_175 : decode cX9_readText 175 = .ok (.goto (-154), 3) := dk_goto (-154) (b1 := 255) (b2 := 102) (by decide +kernel) (by decide +kernel) (by decide +kernel) (by decide +kernel)
theorem dX9_readText_156 : decode cX9_readText 156 = .ok (.aload_n 0, 1) := dk_aload_n_0 (by decide +kernel)
theorem wRX9_61 : Cond.methodLink RX9 61 yX9_endSum ∈ sm_T := sm_in 565 (by decide +kernel) (by decide +kernel)
abbrev mX9_endSum : sm_Y := (yX9_endSum, cX9_endSum, 1, none)
theorem fX9_endSum : sm_mi mX9_endSum RX9 0 := ⟨sm_in 568 (by decide +kernel) (by decide +kernel), sm_in 567 (by decide +kernel) (by decide +kernel), sm_in 10 (by decide +kernel) (by decide +kernel), sm_in 86 (by decide +kernel) (by decide +kernel), rfl, ⟨by decide +kernel, by decide +kernel, by decide +kernel⟩, by decide⟩
theorem dX9_readText_157 : decode cX9_readText 157 = .ok (.invokevirtual 61, 3) := dk_invokevirtual 61 (b1 := 0) (b2 := 61) (by decide +kernel) (by decide +kernel) (by decide +kernel) (by decide +kernel)
set_option maxRecDepth 20000 in
theorem vX9_readText_150 {E : sm_E} {L : sm_S → Prop} {d : Nat} {vs : List Value} {x2 : Int32} {x3 : Int32}  {m : sm_M} {Q : Int32 → sm_M → Prop} (hly : ∀ S, L S → ly S) (hd : 5 ≤ d) 
  (h : (¬ x3 = 43 →
      sm_callV E L mX9_postpone 1 0 0 [.ref (sm_B E + 10), .int x3] m (fun m_1 =>
      ∀ x2_3 : Int32, x2_3 = x2 + 1 →
      gX9_readText_21 E L d vs 1 x2_3 m_1 Q)) ∧
   (x3 = 43 →
      sm_callV E L mX9_endSum 3 0 0 [.ref (sm_B E + 10)] m (fun m_4 =>
      sm_callV E L mX9_postpone 1 0 0 [.ref (sm_B E + 10), .int x3] m_4 (fun m_5 =>
      ∀ x2_7 : Int32, x2_7 = x2 + 1 →
      gX9_readText_21 E L d vs 1 x2_7 m_5 Q)))) :
  gX9_readText_150 E L d vs x2 x3 m Q := by
  refine sm_iload_n (Y := mX9_readText) (pc := 150) 2 3 rfl rfl dX9_readText_150 ?_
  refine sm_bipush (Y := mX9_readText) (pc := 151) 43 (by decide) dX9_readText_151 ?_
  refine sm_icmp_ne (Y := mX9_readText) (pc := 153) 160 (by decide) dX9_readText_153 (fun hc => ?_) (fun hc => ?_)
  · replace h := h.1 hc
    refine sm_aload_n (Y := mX9_readText) (pc := 160) 0 0 rfl rfl dX9_readText_160 ?_
    refine sm_iload_n (Y := mX9_readText) (pc := 161) 2 3 rfl rfl dX9_readText_161 ?_
    refine sm_iv_V (Y := mX9_readText) (pc := 162) (As := [.int x3]) (a := 10) fX9_postpone wRX9_50 (lk_10 hly) (by decide) rfl rfl rfl (Nat.le_trans (by decide) hd) (Nat.le_of_ble_eq_true rfl) ⟨Nat.le_refl _, Nat.le_refl _⟩ dX9_readText_162 rfl (sm_monoV h (fun m_1 h => ?_))
    refine sm_iconst (Y := mX9_readText) (pc := 165) 1 (by decide) dX9_readText_165 ?_
    refine sm_istore0_n (Y := mX9_readText) (pc := 166) [(1, .int 1), (0, .ref (sm_B E + 10)), (2, .int x2), (3, .int x3)] 1 rfl (by decide) rfl dX9_readText_166 ?_
    refine sm_goto (Y := mX9_readText) (pc := 167) 172 (by decide) dX9_readText_167 ?_
    refine sm_iinc (Y := mX9_readText) (pc := 172) (fun y => [(2, .int y), (1, .int 1), (0, .ref (sm_B E + 10)), (3, .int x3)]) 2 2 rfl (by decide) (fun _ => rfl) dX9_readText_172 (fun x2_3 ex2_3 => ?_)
    replace h := h x2_3 ex2_3
    refine sm_goto (Y := mX9_readText) (pc := 175) 21 (by decide) dX9_readText_175 ?_
    refine sm_sub [2, 1, 0] rfl ?_
    exact h
  · replace h := h.2 hc
    refine sm_aload_n (Y := mX9_readText) (pc := 156) 0 0 rfl rfl dX9_readText_156 ?_
    refine sm_iv_V (Y := mX9_readText) (pc := 157) (As := []) (a := 10) fX9_endSum wRX9_61 (lk_10 hly) (by decide) rfl rfl rfl (Nat.le_trans (by decide) hd) (Nat.le_of_ble_eq_true rfl) ⟨Nat.le_refl _, Nat.le_refl _⟩ dX9_readText_157 rfl (sm_monoV h (fun m_4 h => ?_))
    refine sm_aload_n (Y := mX9_readText) (pc := 160) 0 0 rfl rfl dX9_readText_160 ?_
    refine sm_iload_n (Y := mX9_readText) (pc := 161) 2 3 rfl rfl dX9_readText_161 ?_
    refine sm_iv_V (Y := mX9_readText) (pc := 162) (As := [.int x3]) (a := 10) fX9_postpone wRX9_50 (lk_10 hly) (by decide) rfl rfl rfl (Nat.le_trans (by decide) hd) (Nat.le_of_ble_eq_true rfl) ⟨Nat.le_refl _, Nat.le_refl _⟩ dX9_readText_162 rfl (sm_monoV h (fun m_5 h => ?_))
    refine sm_iconst (Y := mX9_readText) (pc := 165) 1 (by decide) dX9_readText_165 ?_
    refine sm_istore0_n (Y := mX9_readText) (pc := 166) [(1, .int 1), (0, .ref (sm_B E + 10)), (2, .int x2), (3, .int x3)] 1 rfl (by decide) rfl dX9_readText_166 ?_
    refine sm_goto (Y := mX9_readText) (pc := 167) 172 (by decide) dX9_readText_167 ?_
    refine sm_iinc (Y := mX9_readText) (pc := 172) (fun y => [(2, .int y), (1, .int 1), (0, .ref (sm_B E + 10)), (3, .int x3)]) 2 2 rfl (by decide) (fun _ => rfl) dX9_readText_172 (fun x2_7 ex2_7 => ?_)
    replace h := h x2_7 ex2_7
    refine sm_goto (Y := mX9_readText) (pc := 175) 21 (by decide) dX9_readText_175 ?_
    refine sm_sub [2, 1, 0] rfl ?_
    exact h
theorem dX9_readText_101 : decode cX9_readText 101 = .ok (.aload_n 0, 1) := dk_aload_n_0 (by decide +kernel)
theorem dX9_readText_102 : decode cX9_readText 102 = .ok (.iload_n 2, 1) := dk_iload_n_2 (by decide +kernel)
theorem dX9_readText_103 : decode cX9_readText 103 = .ok (.iload 4, 2) := dk_iload 4 (b := 4) (by decide +kernel) (by decide +kernel) (by decide +kernel)
theorem wRX9_53 : Cond.methodLink RX9 53 yX9_readLeaf ∈ sm_T := sm_in 548 (by decide +kernel) (by decide +kernel)
abbrev mX9_readLeaf : sm_Y := (yX9_readLeaf, cX9_readLeaf, 4, (some FieldType.int))
theorem fX9_readLeaf : sm_mi mX9_readLeaf RX9 2 := ⟨sm_in 551 (by decide +kernel) (by decide +kernel), sm_in 550 (by decide +kernel) (by decide +kernel), sm_in 6 (by decide +kernel) (by decide +kernel), sm_in 86 (by decide +kernel) (by decide +kernel), rfl, ⟨by decide +kernel, by decide +kernel, by decide +kernel⟩, by decide⟩
theorem dX9_readText_105 : decode cX9_readText 105 = .ok (.invokevirtual 53, 3) := dk_invokevirtual 53 (b1 := 0) (b2 := 53) (by decide +kernel) (by decide +kernel) (by decide +kernel) (by decide +kernel)
theorem dX9_readText_108 : decode cX9_readText 108 = .ok (.istore 5, 2) := dk_istore 5 (b := 5) (by decide +kernel) (by decide +kernel) (by decide +kernel)
theorem dX9_readText_110 : decode cX9_readText 110 = .ok (.iload 5, 2) := dk_iload 5 (b := 5) (by decide +kernel) (by decide +kernel) (by decide +kernel)
theorem dX9_readText_112 : decode cX9_readText 112 = .ok (.ifCond .lt 6, 3) := dk_ifCond_lt 6 (b1 := 0) (b2 := 6) (by decide +kernel) (by decide +kernel) (by decide +kernel) (by decide +kernel)
theorem dX9_readText_118 : decode cX9_readText 118 = .ok (.iconst 0, 1) := dk_iconst_0 (by decide +kernel)
theorem dX9_readText_119 : decode cX9_readText 119 = .ok (.istore_n 1, 1) := dk_istore_n_1 (by decide +kernel)
theorem dX9_readText_120 : decode cX9_readText 120 = .ok (.goto 52, 3) := dk_goto 52 (b1 := 0) (b2 := 52) (by decide +kernel) (by decide +kernel) (by decide +kernel) (by decide +kernel)
theorem dX9_readText_115 : decode cX9_readText 115 = .ok (.iload 5, 2) := dk_iload 5 (b := 5) (by decide +kernel) (by decide +kernel) (by decide +kernel)
theorem dX9_readText_117 : decode cX9_readText 117 = .ok (.ireturn, 1) := dk_ireturn (by decide +kernel)
set_option maxRecDepth 20000 in
theorem vX9_readText_101 {E : sm_E} {L : sm_S → Prop} {d : Nat} {vs : List Value} {x2 : Int32} {x4 : Int32}  {m : sm_M} {Q : Int32 → sm_M → Prop} (hly : ∀ S, L S → ly S) (hd : 5 ≤ d) 
  (h : sm_callI E L mX9_readLeaf 4 0 0 [.ref (sm_B E + 10), .int x2, .int x4] m (fun r_2 m_1 =>
   (r_2 < 0 →
      ∀ x2_5 : Int32, x2_5 = x2 + 1 →
      gX9_readText_21 E L d vs 0 x2_5 m_1 Q) ∧
   (¬ r_2 < 0 →
      Q r_2 m_1))) :
  gX9_readText_101 E L d vs x2 x4 m Q := by
  refine sm_aload_n (Y := mX9_readText) (pc := 101) 0 0 rfl rfl dX9_readText_101 ?_
  refine sm_iload_n (Y := mX9_readText) (pc := 102) 1 2 rfl rfl dX9_readText_102 ?_
  refine sm_iload (Y := mX9_readText) (pc := 103) 2 4 rfl dX9_readText_103 ?_
  refine sm_iv_I (Y := mX9_readText) (pc := 105) (As := [.int x2, .int x4]) (a := 10) fX9_readLeaf wRX9_53 (lk_10 hly) (by decide) rfl rfl rfl (Nat.le_trans (by decide) hd) (Nat.le_of_ble_eq_true rfl) ⟨Nat.le_refl _, Nat.le_refl _⟩ dX9_readText_105 rfl (sm_monoI h (fun r_2 m_1 h => ?_))
  refine sm_istore0 (Y := mX9_readText) (pc := 108) [(5, .int r_2), (0, .ref (sm_B E + 10)), (2, .int x2), (4, .int x4)] 5 (by decide) rfl dX9_readText_108 ?_
  refine sm_iload (Y := mX9_readText) (pc := 110) 0 5 rfl dX9_readText_110 ?_
  refine sm_if_lt (Y := mX9_readText) (pc := 112) 118 (by decide) dX9_readText_112 (fun hc => ?_) (fun hc => ?_)
  · replace h := h.1 hc
    refine sm_iconst (Y := mX9_readText) (pc := 118) 0 (by decide) dX9_readText_118 ?_
    refine sm_istore0_n (Y := mX9_readText) (pc := 119) [(1, .int 0), (5, .int r_2), (0, .ref (sm_B E + 10)), (2, .int x2), (4, .int x4)] 1 rfl (by decide) rfl dX9_readText_119 ?_
    refine sm_goto (Y := mX9_readText) (pc := 120) 172 (by decide) dX9_readText_120 ?_
    refine sm_iinc (Y := mX9_readText) (pc := 172) (fun y => [(2, .int y), (1, .int 0), (5, .int r_2), (0, .ref (sm_B E + 10)), (4, .int x4)]) 3 2 rfl (by decide) (fun _ => rfl) dX9_readText_172 (fun x2_5 ex2_5 => ?_)
    replace h := h x2_5 ex2_5
    refine sm_goto (Y := mX9_readText) (pc := 175) 21 (by decide) dX9_readText_175 ?_
    refine sm_sub [3, 1, 0] rfl ?_
    exact h
  · replace h := h.2 hc
    refine sm_iload (Y := mX9_readText) (pc := 115) 0 5 rfl dX9_readText_115 ?_
    exact sm_iret (Y := mX9_readText) (pc := 117) rfl rfl rfl dX9_readText_117 ⟨_, rfl, h⟩
theorem dX9_readText_76 : decode cX9_readText 76 = .ok (.iload_n 1, 1) := dk_iload_n_1 (by decide +kernel)
theorem dX9_readText_77 : decode cX9_readText 77 = .ok (.ifCond .eq 46, 3) := dk_ifCond_eq 46 (b1 := 0) (b2 := 46) (by decide +kernel) (by decide +kernel) (by decide +kernel) (by decide +kernel)
theorem dX9_readText_123 : decode cX9_readText 123 = .ok (.iload_n 3, 1) := dk_iload_n_3 (by decide +kernel)
theorem dX9_readText_124 : decode cX9_readText 124 = .ok (.bipush 41, 2) := dk_bipush 41 (b := 41) (by decide +kernel) (by decide +kernel) (by decide +kernel)
theorem dX9_readText_126 : decode cX9_readText 126 = .ok (.if_icmp .ne 12, 3) := dk_if_icmp_ne 12 (b1 := 0) (b2 := 12) (by decide +kernel) (by decide +kernel) (by decide +kernel) (by decide +kernel)
theorem dX9_readText_138 : decode cX9_readText 138 = .ok (.iload_n 3, 1) := dk_iload_n_3 (by decide +kernel)
theorem dX9_readText_139 : decode cX9_readText 139 = .ok (.bipush 43, 2) := dk_bipush 43 (b := 43) (by decide +kernel) (by decide +kernel) (by decide +kernel)
theorem dX9_readText_141 : decode cX9_readText 141 = .ok (.if_icmp .eq 9, 3) := dk_if_icmp_eq 9 (b1 := 0) (b2 := 9) (by decide +kernel) (by decide +kernel) (by decide +kernel) (by decide +kernel)
theorem dX9_readText_144 : decode cX9_readText 144 = .ok (.iload_n 3, 1) := dk_iload_n_3 (by decide +kernel)
theorem dX9_readText_145 : decode cX9_readText 145 = .ok (.bipush 42, 2) := dk_bipush 42 (b := 42) (by decide +kernel) (by decide +kernel) (by decide +kernel)
theorem dX9_readText_147 : decode cX9_readText 147 = .ok (.if_icmp .ne 23, 3) := dk_if_icmp_ne 23 (b1 := 0) (b2 := 23) (by decide +kernel) (by decide +kernel) (by decide +kernel) (by decide +kernel)
theorem dX9_readText_170 : decode cX9_readText 170 = .ok (.iload_n 2, 1) := dk_iload_n_2 (by decide +kernel)
theorem dX9_readText_171 : decode cX9_readText 171 = .ok (.ireturn, 1) := dk_ireturn (by decide +kernel)
theorem dX9_readText_129 : decode cX9_readText 129 = .ok (.aload_n 0, 1) := dk_aload_n_0 (by decide +kernel)
theorem wRX9_57 : Cond.methodLink RX9 57 yX9_closes ∈ sm_T := sm_in 561 (by decide +kernel) (by decide +kernel)
abbrev mX9_closes : sm_Y := (yX9_closes, cX9_closes, 1, (some FieldType.boolean))
theorem fX9_closes : sm_mi mX9_closes RX9 0 := ⟨sm_in 564 (by decide +kernel) (by decide +kernel), sm_in 563 (by decide +kernel) (by decide +kernel), sm_in 9 (by decide +kernel) (by decide +kernel), sm_in 86 (by decide +kernel) (by decide +kernel), rfl, ⟨by decide +kernel, by decide +kernel, by decide +kernel⟩, by decide⟩
theorem dX9_readText_130 : decode cX9_readText 130 = .ok (.invokevirtual 57, 3) := dk_invokevirtual 57 (b1 := 0) (b2 := 57) (by decide +kernel) (by decide +kernel) (by decide +kernel) (by decide +kernel)
theorem dX9_readText_133 : decode cX9_readText 133 = .ok (.ifCond .ne 39, 3) := dk_ifCond_ne 39 (b1 := 0) (b2 := 39) (by decide +kernel) (by decide +kernel) (by decide +kernel) (by decide +kernel)
theorem dX9_readText_136 : decode cX9_readText 136 = .ok (.iload_n 2, 1) := dk_iload_n_2 (by decide +kernel)
theorem dX9_readText_137 : decode cX9_readText 137 = .ok (.ireturn, 1) := dk_ireturn (by decide +kernel)
theorem dX9_readText_80 : decode cX9_readText 80 = .ok (.iload_n 3, 1) := dk_iload_n_3 (by decide +kernel)
theorem dX9_readText_81 : decode cX9_readText 81 = .ok (.bipush 45, 2) := dk_bipush 45 (b := 45) (by decide +kernel) (by decide +kernel) (by decide +kernel)
theorem dX9_readText_83 : decode cX9_readText 83 = .ok (.if_icmp .ne 7, 3) := dk_if_icmp_ne 7 (b1 := 0) (b2 := 7) (by decide +kernel) (by decide +kernel) (by decide +kernel) (by decide +kernel)
theorem dX9_readText_90 : decode cX9_readText 90 = .ok (.iconst 0, 1) := dk_iconst_0 (by decide +kernel)
theorem dX9_readText_91 : decode cX9_readText 91 = .ok (.istore 4, 2) := dk_istore 4 (b := 4) (by decide +kernel) (by decide +kernel) (by decide +kernel)
theorem dX9_readText_93 : decode cX9_readText 93 = .ok (.iload 4, 2) := dk_iload 4 (b := 4) (by decide +kernel) (by decide +kernel) (by decide +kernel)
theorem dX9_readText_95 : decode cX9_readText 95 = .ok (.ifCond .eq 6, 3) := dk_ifCond_eq 6 (b1 := 0) (b2 := 6) (by decide +kernel) (by decide +kernel) (by decide +kernel) (by decide +kernel)
theorem dX9_readText_86 : decode cX9_readText 86 = .ok (.iconst 1, 1) := dk_iconst_1 (by decide +kernel)
theorem dX9_readText_87 : decode cX9_readText 87 = .ok (.goto 4, 3) := dk_goto 4 (b1 := 0) (b2 := 4) (by decide +kernel) (by decide +kernel) (by decide +kernel) (by decide +kernel)
theorem dX9_readText_98 : decode cX9_readText 98 = .ok (.iinc 2 1, 3) := dk_iinc 2 1 (b1 := 2) (b2 := 1) (by decide +kernel) (by decide +kernel) (by decide +kernel) (by decide +kernel) (by decide +kernel)
set_option maxRecDepth 20000 in
theorem vX9_readText_76 {E : sm_E} {L : sm_S → Prop} {d : Nat} {vs : List Value} {x1 : Int32} {x2 : Int32} {x3 : Int32}  {m : sm_M} {Q : Int32 → sm_M → Prop} (hly : ∀ S, L S → ly S) (hd : 5 ≤ d) 
  (h : (x1 = 0 →
      (¬ x3 = 41 →
         (x3 = 43 →
            gX9_readText_150 E L d vs x2 x3 m Q) ∧
         (¬ x3 = 43 →
            (¬ x3 = 42 →
               Q x2 m) ∧
            (x3 = 42 →
               gX9_readText_150 E L d vs x2 x3 m Q))) ∧
      (x3 = 41 →
         sm_callI E L mX9_closes 4 0 0 [.ref (sm_B E + 10)] m (fun r_2 m_1 =>
         (¬ r_2 = 0 →
            ∀ x2_3 : Int32, x2_3 = x2 + 1 →
            gX9_readText_21 E L d vs x1 x2_3 m_1 Q) ∧
         (r_2 = 0 →
            Q x2 m_1)))) ∧
   (¬ x1 = 0 →
      (¬ x3 = 45 →
         gX9_readText_101 E L d vs x2 0 m Q) ∧
      (x3 = 45 →
         ∀ x2_6 : Int32, x2_6 = x2 + 1 →
         gX9_readText_101 E L d vs x2_6 1 m Q))) :
  gX9_readText_76 E L d vs x1 x2 x3 m Q := by
  refine sm_iload_n (Y := mX9_readText) (pc := 76) 1 1 rfl rfl dX9_readText_76 ?_
  refine sm_if_eq (Y := mX9_readText) (pc := 77) 123 (by decide) dX9_readText_77 (fun hc => ?_) (fun hc => ?_)
  · replace h := h.1 hc
    refine sm_iload_n (Y := mX9_readText) (pc := 123) 3 3 rfl rfl dX9_readText_123 ?_
    refine sm_bipush (Y := mX9_readText) (pc := 124) 41 (by decide) dX9_readText_124 ?_
    refine sm_icmp_ne (Y := mX9_readText) (pc := 126) 138 (by decide) dX9_readText_126 (fun hc => ?_) (fun hc => ?_)
    · replace h := h.1 hc
      refine sm_iload_n (Y := mX9_readText) (pc := 138) 3 3 rfl rfl dX9_readText_138 ?_
      refine sm_bipush (Y := mX9_readText) (pc := 139) 43 (by decide) dX9_readText_139 ?_
      refine sm_icmp_eq (Y := mX9_readText) (pc := 141) 150 (by decide) dX9_readText_141 (fun hc => ?_) (fun hc => ?_)
      · replace h := h.1 hc
        refine sm_sub [0, 2, 3] rfl ?_
        exact h
      · replace h := h.2 hc
        refine sm_iload_n (Y := mX9_readText) (pc := 144) 3 3 rfl rfl dX9_readText_144 ?_
        refine sm_bipush (Y := mX9_readText) (pc := 145) 42 (by decide) dX9_readText_145 ?_
        refine sm_icmp_ne (Y := mX9_readText) (pc := 147) 170 (by decide) dX9_readText_147 (fun hc => ?_) (fun hc => ?_)
        · replace h := h.1 hc
          refine sm_iload_n (Y := mX9_readText) (pc := 170) 2 2 rfl rfl dX9_readText_170 ?_
          exact sm_iret (Y := mX9_readText) (pc := 171) rfl rfl rfl dX9_readText_171 ⟨_, rfl, h⟩
        · replace h := h.2 hc
          refine sm_sub [0, 2, 3] rfl ?_
          exact h
    · replace h := h.2 hc
      refine sm_aload_n (Y := mX9_readText) (pc := 129) 0 0 rfl rfl dX9_readText_129 ?_
      refine sm_iv_I (Y := mX9_readText) (pc := 130) (As := []) (a := 10) fX9_closes wRX9_57 (lk_10 hly) (by decide) rfl rfl rfl (Nat.le_trans (by decide) hd) (Nat.le_of_ble_eq_true rfl) ⟨Nat.le_refl _, Nat.le_refl _⟩ dX9_readText_130 rfl (sm_monoI h (fun r_2 m_1 h => ?_))
      refine sm_if_ne (Y := mX9_readText) (pc := 133) 172 (by decide) dX9_readText_133 (fun hc => ?_) (fun hc => ?_)
      · replace h := h.1 hc
        refine sm_iinc (Y := mX9_readText) (pc := 172) (fun y => [(2, .int y), (0, .ref (sm_B E + 10)), (1, .int x1), (3, .int x3)]) 2 2 rfl (by decide) (fun _ => rfl) dX9_readText_172 (fun x2_3 ex2_3 => ?_)
        replace h := h x2_3 ex2_3
        refine sm_goto (Y := mX9_readText) (pc := 175) 21 (by decide) dX9_readText_175 ?_
        refine sm_sub [1, 2, 0] rfl ?_
        exact h
      · replace h := h.2 hc
        refine sm_iload_n (Y := mX9_readText) (pc := 136) 2 2 rfl rfl dX9_readText_136 ?_
        exact sm_iret (Y := mX9_readText) (pc := 137) rfl rfl rfl dX9_readText_137 ⟨_, rfl, h⟩
  · replace h := h.2 hc
    refine sm_iload_n (Y := mX9_readText) (pc := 80) 3 3 rfl rfl dX9_readText_80 ?_
    refine sm_bipush (Y := mX9_readText) (pc := 81) 45 (by decide) dX9_readText_81 ?_
    refine sm_icmp_ne (Y := mX9_readText) (pc := 83) 90 (by decide) dX9_readText_83 (fun hc => ?_) (fun hc => ?_)
    · replace h := h.1 hc
      refine sm_iconst (Y := mX9_readText) (pc := 90) 0 (by decide) dX9_readText_90 ?_
      refine sm_istore0 (Y := mX9_readText) (pc := 91) [(4, .int 0), (0, .ref (sm_B E + 10)), (1, .int x1), (2, .int x2), (3, .int x3)] 4 (by decide) rfl dX9_readText_91 ?_
      refine sm_iload (Y := mX9_readText) (pc := 93) 0 4 rfl dX9_readText_93 ?_
      refine sm_if_eq (Y := mX9_readText) (pc := 95) 101 (by decide) dX9_readText_95 (fun hc => ?_) (fun hc => ?_)
      rotate_left
      · exact absurd hc (by decide)
      refine sm_sub [1, 3, 0] rfl ?_
      exact h
    · replace h := h.2 hc
      refine sm_iconst (Y := mX9_readText) (pc := 86) 1 (by decide) dX9_readText_86 ?_
      refine sm_goto (Y := mX9_readText) (pc := 87) 91 (by decide) dX9_readText_87 ?_
      refine sm_istore0 (Y := mX9_readText) (pc := 91) [(4, .int 1), (0, .ref (sm_B E + 10)), (1, .int x1), (2, .int x2), (3, .int x3)] 4 (by decide) rfl dX9_readText_91 ?_
      refine sm_iload (Y := mX9_readText) (pc := 93) 0 4 rfl dX9_readText_93 ?_
      refine sm_if_eq (Y := mX9_readText) (pc := 95) 101 (by decide) dX9_readText_95 (fun hc => ?_) (fun hc => ?_)
      · exact absurd hc (by decide)
      refine sm_iinc (Y := mX9_readText) (pc := 98) (fun y => [(2, .int y), (4, .int 1), (0, .ref (sm_B E + 10)), (1, .int x1), (3, .int x3)]) 3 2 rfl (by decide) (fun _ => rfl) dX9_readText_98 (fun x2_6 ex2_6 => ?_)
      replace h := h x2_6 ex2_6
      refine sm_sub [2, 0, 1] rfl ?_
      exact h
theorem dX9_readText_21 : decode cX9_readText 21 = .ok (.iload_n 2, 1) := dk_iload_n_2 (by decide +kernel)
theorem dX9_readText_22 : decode cX9_readText 22 = .ok (.aload_n 0, 1) := dk_aload_n_0 (by decide +kernel)
theorem dX9_readText_23 : decode cX9_readText 23 = .ok (.getfield 30, 3) := dk_getfield 30 (b1 := 0) (b2 := 30) (by decide +kernel) (by decide +kernel) (by decide +kernel) (by decide +kernel)
theorem dX9_readText_26 : decode cX9_readText 26 = .ok (.if_icmp .ge 152, 3) := dk_if_icmp_ge 152 (b1 := 0) (b2 := 152) (by decide +kernel) (by decide +kernel) (by decide +kernel) (by decide +kernel)
theorem dX9_readText_178 : decode cX9_readText 178 = .ok (.aload_n 0, 1) := dk_aload_n_0 (by decide +kernel)
theorem dX9_readText_179 : decode cX9_readText 179 = .ok (.invokevirtual 61, 3) := dk_invokevirtual 61 (b1 := 0) (b2 := 61) (by decide +kernel) (by decide +kernel) (by decide +kernel) (by decide +kernel)
theorem dX9_readText_182 : decode cX9_readText 182 = .ok (.iload_n 1, 1) := dk_iload_n_1 (by decide +kernel)
theorem dX9_readText_183 : decode cX9_readText 183 = .ok (.ifCond .ne 10, 3) := dk_ifCond_ne 10 (b1 := 0) (b2 := 10) (by decide +kernel) (by decide +kernel) (by decide +kernel) (by decide +kernel)
theorem dX9_readText_193 : decode cX9_readText 193 = .ok (.aload_n 0, 1) := dk_aload_n_0 (by decide +kernel)
theorem dX9_readText_194 : decode cX9_readText 194 = .ok (.getfield 30, 3) := dk_getfield 30 (b1 := 0) (b2 := 30) (by decide +kernel) (by decide +kernel) (by decide +kernel) (by decide +kernel)
theorem dX9_readText_197 : decode cX9_readText 197 = .ok (.goto 4, 3) := dk_goto 4 (b1 := 0) (b2 := 4) (by decide +kernel) (by decide +kernel) (by decide +kernel) (by decide +kernel)
theorem dX9_readText_201 : decode cX9_readText 201 = .ok (.ireturn, 1) := dk_ireturn (by decide +kernel)
theorem dX9_readText_186 : decode cX9_readText 186 = .ok (.aload_n 0, 1) := dk_aload_n_0 (by decide +kernel)
theorem dX9_readText_187 : decode cX9_readText 187 = .ok (.getfield 37, 3) := dk_getfield 37 (b1 := 0) (b2 := 37) (by decide +kernel) (by decide +kernel) (by decide +kernel) (by decide +kernel)
theorem dX9_readText_190 : decode cX9_readText 190 = .ok (.ifCond .le 10, 3) := dk_ifCond_le 10 (b1 := 0) (b2 := 10) (by decide +kernel) (by decide +kernel) (by decide +kernel) (by decide +kernel)
theorem dX9_readText_200 : decode cX9_readText 200 = .ok (.iconst (-1), 1) := dk_iconst_m1 (by decide +kernel)
theorem dX9_readText_29 : decode cX9_readText 29 = .ok (.aload_n 0, 1) := dk_aload_n_0 (by decide +kernel)
theorem dX9_readText_30 : decode cX9_readText 30 = .ok (.getfield 9, 3) := dk_getfield 9 (b1 := 0) (b2 := 9) (by decide +kernel) (by decide +kernel) (by decide +kernel) (by decide +kernel)
theorem dX9_readText_33 : decode cX9_readText 33 = .ok (.iload_n 2, 1) := dk_iload_n_2 (by decide +kernel)
theorem dX9_readText_34 : decode cX9_readText 34 = .ok (.iaload, 1) := dk_iaload (by decide +kernel)
theorem dX9_readText_35 : decode cX9_readText 35 = .ok (.istore_n 3, 1) := dk_istore_n_3 (by decide +kernel)
theorem dX9_readText_36 : decode cX9_readText 36 = .ok (.iload_n 1, 1) := dk_iload_n_1 (by decide +kernel)
theorem dX9_readText_37 : decode cX9_readText 37 = .ok (.ifCond .eq 39, 3) := dk_ifCond_eq 39 (b1 := 0) (b2 := 39) (by decide +kernel) (by decide +kernel) (by decide +kernel) (by decide +kernel)
theorem dX9_readText_40 : decode cX9_readText 40 = .ok (.iload_n 3, 1) := dk_iload_n_3 (by decide +kernel)
theorem wRX9_46 : Cond.methodLink RX9 46 yX9_isOpener ∈ sm_T := sm_in 541 (by decide +kernel) (by decide +kernel)
abbrev mX9_isOpener : sm_Y := (yX9_isOpener, cX9_isOpener, 1, (some FieldType.boolean))
theorem fX9_isOpener : sm_mt mX9_isOpener 1 := ⟨sm_in 543 (by decide +kernel) (by decide +kernel), sm_in 542 (by decide +kernel) (by decide +kernel), sm_in 86 (by decide +kernel) (by decide +kernel), ⟨by decide +kernel, by decide +kernel, by decide +kernel⟩, by decide⟩
theorem dX9_readText_41 : decode cX9_readText 41 = .ok (.invokestatic 46, 3) := dk_invokestatic 46 (b1 := 0) (b2 := 46) (by decide +kernel) (by decide +kernel) (by decide +kernel) (by decide +kernel)
theorem dX9_readText_44 : decode cX9_readText 44 = .ok (.ifCond .eq 32, 3) := dk_ifCond_eq 32 (b1 := 0) (b2 := 32) (by decide +kernel) (by decide +kernel) (by decide +kernel) (by decide +kernel)
theorem dX9_readText_47 : decode cX9_readText 47 = .ok (.aload_n 0, 1) := dk_aload_n_0 (by decide +kernel)
theorem dX9_readText_48 : decode cX9_readText 48 = .ok (.getfield 40, 3) := dk_getfield 40 (b1 := 0) (b2 := 40) (by decide +kernel) (by decide +kernel) (by decide +kernel) (by decide +kernel)
theorem dX9_readText_51 : decode cX9_readText 51 = .ok (.bipush 6, 2) := dk_bipush 6 (b := 6) (by decide +kernel) (by decide +kernel) (by decide +kernel)
theorem dX9_readText_53 : decode cX9_readText 53 = .ok (.if_icmp .lt 5, 3) := dk_if_icmp_lt 5 (b1 := 0) (b2 := 5) (by decide +kernel) (by decide +kernel) (by decide +kernel) (by decide +kernel)
theorem dX9_readText_58 : decode cX9_readText 58 = .ok (.aload_n 0, 1) := dk_aload_n_0 (by decide +kernel)
theorem dX9_readText_59 : decode cX9_readText 59 = .ok (.dup, 1) := dk_dup (by decide +kernel)
theorem dX9_readText_60 : decode cX9_readText 60 = .ok (.getfield 40, 3) := dk_getfield 40 (b1 := 0) (b2 := 40) (by decide +kernel) (by decide +kernel) (by decide +kernel) (by decide +kernel)
theorem dX9_readText_63 : decode cX9_readText 63 = .ok (.iconst 1, 1) := dk_iconst_1 (by decide +kernel)
theorem dX9_readText_64 : decode cX9_readText 64 = .ok (.iadd, 1) := dk_iadd (by decide +kernel)
theorem dX9_readText_65 : decode cX9_readText 65 = .ok (.putfield 40, 3) := dk_putfield 40 (b1 := 0) (b2 := 40) (by decide +kernel) (by decide +kernel) (by decide +kernel) (by decide +kernel)
theorem dX9_readText_68 : decode cX9_readText 68 = .ok (.aload_n 0, 1) := dk_aload_n_0 (by decide +kernel)
theorem dX9_readText_69 : decode cX9_readText 69 = .ok (.iload_n 3, 1) := dk_iload_n_3 (by decide +kernel)
theorem dX9_readText_70 : decode cX9_readText 70 = .ok (.invokevirtual 50, 3) := dk_invokevirtual 50 (b1 := 0) (b2 := 50) (by decide +kernel) (by decide +kernel) (by decide +kernel) (by decide +kernel)
theorem dX9_readText_73 : decode cX9_readText 73 = .ok (.goto 99, 3) := dk_goto 99 (b1 := 0) (b2 := 99) (by decide +kernel) (by decide +kernel) (by decide +kernel) (by decide +kernel)
theorem dX9_readText_56 : decode cX9_readText 56 = .ok (.iload_n 2, 1) := dk_iload_n_2 (by decide +kernel)
theorem dX9_readText_57 : decode cX9_readText 57 = .ok (.ireturn, 1) := dk_ireturn (by decide +kernel)
set_option maxRecDepth 20000 in
theorem vX9_readText_21 {E : sm_E} {L : sm_S → Prop} {d : Nat} {vs : List Value} {x1 : Int32} {x2 : Int32}  {m : sm_M} {Q : Int32 → sm_M → Prop} (hly : ∀ S, L S → ly S) (hd : 5 ≤ d) 
  (h : ((m.1 10 4) ≤ x2 →
      sm_callV E L mX9_endSum 3 0 0 [.ref (sm_B E + 10)] m (fun m_1 =>
      (¬ x1 = 0 →
         Q (m_1.1 10 4) m_1) ∧
      (x1 = 0 →
         ((m_1.1 10 6) ≤ 0 →
            Q (-1) m_1) ∧
         (¬ (m_1.1 10 6) ≤ 0 →
            Q (m_1.1 10 4) m_1)))) ∧
   (¬ (m.1 10 4) ≤ x2 →
      (vp_in x2 100) ∧ ∀ x3_3 : Int32, x3_3 = m.1 11 x2.toNatClampNeg →
      (x1 = 0 →
         gX9_readText_76 E L d vs x1 x2 x3_3 m Q) ∧
      (¬ x1 = 0 →
         sm_callI E L mX9_isOpener 1 0 0 [.int x3_3] m (fun r_5 m_4 =>
         (r_5 = 0 →
            gX9_readText_76 E L d vs x1 x2 x3_3 m_4 Q) ∧
         (¬ r_5 = 0 →
            ((m_4.1 10 7) < 6 →
               ∀ m_6 : sm_M, m_6 = sm_wI m_4 10 7 ((m_4.1 10 7) + 1) →
               sm_callV E L mX9_postpone 1 0 0 [.ref (sm_B E + 10), .int x3_3] m_6 (fun m_7 =>
               ∀ x2_8 : Int32, x2_8 = x2 + 1 →
               gX9_readText_21 E L d vs x1 x2_8 m_7 Q)) ∧
            (¬ (m_4.1 10 7) < 6 →
               Q x2 m_4)))))) :
  gX9_readText_21 E L d vs x1 x2 m Q := by
  refine sm_iload_n (Y := mX9_readText) (pc := 21) 2 2 rfl rfl dX9_readText_21 ?_
  refine sm_aload_n (Y := mX9_readText) (pc := 22) 0 0 rfl rfl dX9_readText_22 ?_
  refine gf_RX9_30 (Y := mX9_readText) (pc := 23) rfl ((lk_10 hly) _) dX9_readText_23 ?_
  refine sm_icmp_ge (Y := mX9_readText) (pc := 26) 178 (by decide) dX9_readText_26 (fun hc => ?_) (fun hc => ?_)
  · replace h := h.1 hc
    refine sm_aload_n (Y := mX9_readText) (pc := 178) 0 0 rfl rfl dX9_readText_178 ?_
    refine sm_iv_V (Y := mX9_readText) (pc := 179) (As := []) (a := 10) fX9_endSum wRX9_61 (lk_10 hly) (by decide) rfl rfl rfl (Nat.le_trans (by decide) hd) (Nat.le_of_ble_eq_true rfl) ⟨Nat.le_refl _, Nat.le_refl _⟩ dX9_readText_179 rfl (sm_monoV h (fun m_1 h => ?_))
    refine sm_iload_n (Y := mX9_readText) (pc := 182) 1 1 rfl rfl dX9_readText_182 ?_
    refine sm_if_ne (Y := mX9_readText) (pc := 183) 193 (by decide) dX9_readText_183 (fun hc => ?_) (fun hc => ?_)
    · replace h := h.1 hc
      refine sm_aload_n (Y := mX9_readText) (pc := 193) 0 0 rfl rfl dX9_readText_193 ?_
      refine gf_RX9_30 (Y := mX9_readText) (pc := 194) rfl ((lk_10 hly) _) dX9_readText_194 ?_
      refine sm_goto (Y := mX9_readText) (pc := 197) 201 (by decide) dX9_readText_197 ?_
      exact sm_iret (Y := mX9_readText) (pc := 201) rfl rfl rfl dX9_readText_201 ⟨_, rfl, h⟩
    · replace h := h.2 hc
      refine sm_aload_n (Y := mX9_readText) (pc := 186) 0 0 rfl rfl dX9_readText_186 ?_
      refine gf_RX9_37 (Y := mX9_readText) (pc := 187) rfl ((lk_10 hly) _) dX9_readText_187 ?_
      refine sm_if_le (Y := mX9_readText) (pc := 190) 200 (by decide) dX9_readText_190 (fun hc => ?_) (fun hc => ?_)
      · replace h := h.1 hc
        refine sm_iconst (Y := mX9_readText) (pc := 200) (-1) (by decide) dX9_readText_200 ?_
        exact sm_iret (Y := mX9_readText) (pc := 201) rfl rfl rfl dX9_readText_201 ⟨_, rfl, h⟩
      · replace h := h.2 hc
        refine sm_aload_n (Y := mX9_readText) (pc := 193) 0 0 rfl rfl dX9_readText_193 ?_
        refine gf_RX9_30 (Y := mX9_readText) (pc := 194) rfl ((lk_10 hly) _) dX9_readText_194 ?_
        refine sm_goto (Y := mX9_readText) (pc := 197) 201 (by decide) dX9_readText_197 ?_
        exact sm_iret (Y := mX9_readText) (pc := 201) rfl rfl rfl dX9_readText_201 ⟨_, rfl, h⟩
  · replace h := h.2 hc
    refine sm_aload_n (Y := mX9_readText) (pc := 29) 0 0 rfl rfl dX9_readText_29 ?_
    refine gf_RX9_9 (Y := mX9_readText) (pc := 30) (b := 11) rfl ((lk_10 hly) _) (lf_10_0 hly _) dX9_readText_30 ?_
    refine sm_iload_n (Y := mX9_readText) (pc := 33) 2 2 rfl rfl dX9_readText_33 ?_
    obtain ⟨hn_2, h⟩ := h
    refine sm_iald (Y := mX9_readText) (pc := 34) (la_11 hly _) hn_2 dX9_readText_34 ?_
    refine sm_istore_n (Y := mX9_readText) (pc := 35) (fun y => [(3, .int y), (0, .ref (sm_B E + 10)), (1, .int x1), (2, .int x2)]) 3 rfl (by decide) (fun _ => rfl) dX9_readText_35 (fun x3_3 ex3_3 => ?_)
    replace h := h x3_3 ex3_3
    refine sm_iload_n (Y := mX9_readText) (pc := 36) 2 1 rfl rfl dX9_readText_36 ?_
    refine sm_if_eq (Y := mX9_readText) (pc := 37) 76 (by decide) dX9_readText_37 (fun hc => ?_) (fun hc => ?_)
    · replace h := h.1 hc
      refine sm_sub [1, 2, 3, 0] rfl ?_
      exact h
    · replace h := h.2 hc
      refine sm_iload_n (Y := mX9_readText) (pc := 40) 0 3 rfl rfl dX9_readText_40 ?_
      refine sm_is_I (Y := mX9_readText) (pc := 41) (As := [.int x3_3]) fX9_isOpener wRX9_46 rfl (Nat.le_trans (by decide) hd) (Nat.le_of_ble_eq_true rfl) ⟨Nat.le_refl _, Nat.le_refl _⟩ dX9_readText_41 rfl (sm_monoI h (fun r_5 m_4 h => ?_))
      refine sm_if_eq (Y := mX9_readText) (pc := 44) 76 (by decide) dX9_readText_44 (fun hc => ?_) (fun hc => ?_)
      · replace h := h.1 hc
        refine sm_sub [1, 2, 3, 0] rfl ?_
        exact h
      · replace h := h.2 hc
        refine sm_aload_n (Y := mX9_readText) (pc := 47) 1 0 rfl rfl dX9_readText_47 ?_
        refine gf_RX9_40 (Y := mX9_readText) (pc := 48) rfl ((lk_10 hly) _) dX9_readText_48 ?_
        refine sm_bipush (Y := mX9_readText) (pc := 51) 6 (by decide) dX9_readText_51 ?_
        refine sm_icmp_lt (Y := mX9_readText) (pc := 53) 58 (by decide) dX9_readText_53 (fun hc => ?_) (fun hc => ?_)
        · replace h := h.1 hc
          refine sm_aload_n (Y := mX9_readText) (pc := 58) 1 0 rfl rfl dX9_readText_58 ?_
          refine sm_dup (Y := mX9_readText) (pc := 59) rfl dX9_readText_59 ?_
          refine gf_RX9_40 (Y := mX9_readText) (pc := 60) rfl ((lk_10 hly) _) dX9_readText_60 ?_
          refine sm_iconst (Y := mX9_readText) (pc := 63) 1 (by decide) dX9_readText_63 ?_
          refine sm_iadd (Y := mX9_readText) (pc := 64) dX9_readText_64 ?_
          refine pf_RX9_40 (Y := mX9_readText) (pc := 65) rfl ((lk_10 hly) _) dX9_readText_65 (fun m_6 em_6 => ?_)
          replace h := h m_6 em_6
          refine sm_aload_n (Y := mX9_readText) (pc := 68) 1 0 rfl rfl dX9_readText_68 ?_
          refine sm_iload_n (Y := mX9_readText) (pc := 69) 0 3 rfl rfl dX9_readText_69 ?_
          refine sm_iv_V (Y := mX9_readText) (pc := 70) (As := [.int x3_3]) (a := 10) fX9_postpone wRX9_50 (lk_10 hly) (by decide) rfl rfl rfl (Nat.le_trans (by decide) hd) (Nat.le_of_ble_eq_true rfl) ⟨Nat.le_refl _, Nat.le_refl _⟩ dX9_readText_70 rfl (sm_monoV h (fun m_7 h => ?_))
          refine sm_goto (Y := mX9_readText) (pc := 73) 172 (by decide) dX9_readText_73 ?_
          refine sm_iinc (Y := mX9_readText) (pc := 172) (fun y => [(2, .int y), (3, .int x3_3), (0, .ref (sm_B E + 10)), (1, .int x1)]) 3 2 rfl (by decide) (fun _ => rfl) dX9_readText_172 (fun x2_8 ex2_8 => ?_)
          replace h := h x2_8 ex2_8
          refine sm_goto (Y := mX9_readText) (pc := 175) 21 (by decide) dX9_readText_175 ?_
          refine sm_sub [2, 3, 0] rfl ?_
          exact h
        · replace h := h.2 hc
          refine sm_iload_n (Y := mX9_readText) (pc := 56) 3 2 rfl rfl dX9_readText_56 ?_
          exact sm_iret (Y := mX9_readText) (pc := 57) rfl rfl rfl dX9_readText_57 ⟨_, rfl, h⟩
theorem dX9_readText_0 : decode cX9_readText 0 = .ok (.aload_n 0, 1) := dk_aload_n_0 (by decide +kernel)
theorem dX9_readText_1 : decode cX9_readText 1 = .ok (.getfield 26, 3) := dk_getfield 26 (b1 := 0) (b2 := 26) (by decide +kernel) (by decide +kernel) (by decide +kernel) (by decide +kernel)
theorem wRX9_43 : Cond.methodLink RX9 43 yX8_clear ∈ sm_T := sm_in 540 (by decide +kernel) (by decide +kernel)
theorem dX9_readText_4 : decode cX9_readText 4 = .ok (.invokevirtual 43, 3) := dk_invokevirtual 43 (b1 := 0) (b2 := 43) (by decide +kernel) (by decide +kernel) (by decide +kernel) (by decide +kernel)
theorem dX9_readText_7 : decode cX9_readText 7 = .ok (.aload_n 0, 1) := dk_aload_n_0 (by decide +kernel)
theorem dX9_readText_8 : decode cX9_readText 8 = .ok (.iconst 0, 1) := dk_iconst_0 (by decide +kernel)
theorem dX9_readText_9 : decode cX9_readText 9 = .ok (.putfield 37, 3) := dk_putfield 37 (b1 := 0) (b2 := 37) (by decide +kernel) (by decide +kernel) (by decide +kernel) (by decide +kernel)
theorem dX9_readText_12 : decode cX9_readText 12 = .ok (.aload_n 0, 1) := dk_aload_n_0 (by decide +kernel)
theorem dX9_readText_13 : decode cX9_readText 13 = .ok (.iconst 0, 1) := dk_iconst_0 (by decide +kernel)
theorem dX9_readText_14 : decode cX9_readText 14 = .ok (.putfield 40, 3) := dk_putfield 40 (b1 := 0) (b2 := 40) (by decide +kernel) (by decide +kernel) (by decide +kernel) (by decide +kernel)
theorem dX9_readText_17 : decode cX9_readText 17 = .ok (.iconst 1, 1) := dk_iconst_1 (by decide +kernel)
theorem dX9_readText_18 : decode cX9_readText 18 = .ok (.istore_n 1, 1) := dk_istore_n_1 (by decide +kernel)
theorem dX9_readText_19 : decode cX9_readText 19 = .ok (.iconst 0, 1) := dk_iconst_0 (by decide +kernel)
theorem dX9_readText_20 : decode cX9_readText 20 = .ok (.istore_n 2, 1) := dk_istore_n_2 (by decide +kernel)
set_option maxRecDepth 20000 in
theorem vX9_readText_0 {E : sm_E} {L : sm_S → Prop} {d : Nat}   {m : sm_M} {Q : Int32 → sm_M → Prop} (hly : ∀ S, L S → ly S) (hd : 5 ≤ d) 
  (h : sm_callV E L mX8_clear 1 0 0 [.ref (sm_B E + 14)] m (fun m_1 =>
   ∀ m_2 : sm_M, m_2 = sm_wI m_1 10 6 0 →
   ∀ m_3 : sm_M, m_3 = sm_wI m_2 10 7 0 →
   gX9_readText_21 E L d ([.ref (sm_B E + 10)]) 1 0 m_3 Q)) :
  sm_callI E L mX9_readText d 0 0 [.ref (sm_B E + 10)] m Q := by
  refine sm_enter (by decide +kernel) (by simp [lg_sl, Value.category]) ?_
  refine sm_aload_n (Y := mX9_readText) (pc := 0) 0 0 rfl rfl dX9_readText_0 ?_
  refine gf_RX9_26 (Y := mX9_readText) (pc := 1) (b := 14) rfl ((lk_10 hly) _) (lf_10_3 hly _) dX9_readText_1 ?_
  refine sm_iv_V (Y := mX9_readText) (pc := 4) (As := []) (a := 14) fX8_clear wRX9_43 (lk_14 hly) (by decide) rfl rfl rfl (Nat.le_trans (by decide) hd) (Nat.le_of_ble_eq_true rfl) ⟨Nat.le_refl _, Nat.le_refl _⟩ dX9_readText_4 rfl (sm_monoV h (fun m_1 h => ?_))
  refine sm_aload_n (Y := mX9_readText) (pc := 7) 0 0 rfl rfl dX9_readText_7 ?_
  refine sm_iconst (Y := mX9_readText) (pc := 8) 0 (by decide) dX9_readText_8 ?_
  refine pf_RX9_37 (Y := mX9_readText) (pc := 9) rfl ((lk_10 hly) _) dX9_readText_9 (fun m_2 em_2 => ?_)
  replace h := h m_2 em_2
  refine sm_aload_n (Y := mX9_readText) (pc := 12) 0 0 rfl rfl dX9_readText_12 ?_
  refine sm_iconst (Y := mX9_readText) (pc := 13) 0 (by decide) dX9_readText_13 ?_
  refine pf_RX9_40 (Y := mX9_readText) (pc := 14) rfl ((lk_10 hly) _) dX9_readText_14 (fun m_3 em_3 => ?_)
  replace h := h m_3 em_3
  refine sm_iconst (Y := mX9_readText) (pc := 17) 1 (by decide) dX9_readText_17 ?_
  refine sm_istore0_n (Y := mX9_readText) (pc := 18) [(1, .int 1), (0, .ref (sm_B E + 10))] 1 rfl (by decide) rfl dX9_readText_18 ?_
  refine sm_iconst (Y := mX9_readText) (pc := 19) 0 (by decide) dX9_readText_19 ?_
  refine sm_istore0_n (Y := mX9_readText) (pc := 20) [(2, .int 0), (1, .int 1), (0, .ref (sm_B E + 10))] 2 rfl (by decide) rfl dX9_readText_20 ?_
  refine sm_sub [2, 1, 0] rfl ?_
  exact h
theorem dX9_isOpener_0 : decode cX9_isOpener 0 = .ok (.iload_n 0, 1) := dk_iload_n_0 (by decide +kernel)
theorem dX9_isOpener_1 : decode cX9_isOpener 1 = .ok (.bipush 40, 2) := dk_bipush 40 (b := 40) (by decide +kernel) (by decide +kernel) (by decide +kernel)
theorem dX9_isOpener_3 : decode cX9_isOpener 3 = .ok (.if_icmp .eq 15, 3) := dk_if_icmp_eq 15 (b1 := 0) (b2 := 15) (by decide +kernel) (by decide +kernel) (by decide +kernel) (by decide +kernel)
theorem dX9_isOpener_18 : decode cX9_isOpener 18 = .ok (.iconst 1, 1) := dk_iconst_1 (by decide +kernel)
theorem dX9_isOpener_19 : decode cX9_isOpener 19 = .ok (.goto 4, 3) := dk_goto 4 (b1 := 0) (b2 := 4) (by decide +kernel) (by decide +kernel) (by decide +kernel) (by decide +kernel)
theorem dX9_isOpener_23 : decode cX9_isOpener 23 = .ok (.ireturn, 1) := dk_ireturn (by decide +kernel)
theorem dX9_isOpener_6 : decode cX9_isOpener 6 = .ok (.iload_n 0, 1) := dk_iload_n_0 (by decide +kernel)
theorem dX9_isOpener_7 : decode cX9_isOpener 7 = .ok (.bipush 116, 2) := dk_bipush 116 (b := 116) (by decide +kernel) (by decide +kernel) (by decide +kernel)
theorem dX9_isOpener_9 : decode cX9_isOpener 9 = .ok (.if_icmp .eq 9, 3) := dk_if_icmp_eq 9 (b1 := 0) (b2 := 9) (by decide +kernel) (by decide +kernel) (by decide +kernel) (by decide +kernel)
theorem dX9_isOpener_12 : decode cX9_isOpener 12 = .ok (.iload_n 0, 1) := dk_iload_n_0 (by decide +kernel)
theorem dX9_isOpener_13 : decode cX9_isOpener 13 = .ok (.bipush 109, 2) := dk_bipush 109 (b := 109) (by decide +kernel) (by decide +kernel) (by decide +kernel)
theorem dX9_isOpener_15 : decode cX9_isOpener 15 = .ok (.if_icmp .ne 7, 3) := dk_if_icmp_ne 7 (b1 := 0) (b2 := 7) (by decide +kernel) (by decide +kernel) (by decide +kernel) (by decide +kernel)
theorem dX9_isOpener_22 : decode cX9_isOpener 22 = .ok (.iconst 0, 1) := dk_iconst_0 (by decide +kernel)
set_option maxRecDepth 20000 in
theorem vX9_isOpener_0 {E : sm_E} {L : sm_S → Prop} {d : Nat} {x0 : Int32}  {m : sm_M} {Q : Int32 → sm_M → Prop}  (hd : 1 ≤ d) 
  (h : (x0 = 40 →
      Q 1 m) ∧
   (¬ x0 = 40 →
      (x0 = 116 →
         Q 1 m) ∧
      (¬ x0 = 116 →
         (¬ x0 = 109 →
            Q 0 m) ∧
         (x0 = 109 →
            Q 1 m)))) :
  sm_callI E L mX9_isOpener d 0 0 [.int x0] m Q := by
  refine sm_enter (by decide +kernel) (by simp [lg_sl, Value.category]) ?_
  refine sm_iload_n (Y := mX9_isOpener) (pc := 0) 0 0 rfl rfl dX9_isOpener_0 ?_
  refine sm_bipush (Y := mX9_isOpener) (pc := 1) 40 (by decide) dX9_isOpener_1 ?_
  refine sm_icmp_eq (Y := mX9_isOpener) (pc := 3) 18 (by decide) dX9_isOpener_3 (fun hc => ?_) (fun hc => ?_)
  · replace h := h.1 hc
    refine sm_iconst (Y := mX9_isOpener) (pc := 18) 1 (by decide) dX9_isOpener_18 ?_
    refine sm_goto (Y := mX9_isOpener) (pc := 19) 23 (by decide) dX9_isOpener_19 ?_
    exact sm_zret (Y := mX9_isOpener) (pc := 23) rfl (by decide) rfl rfl dX9_isOpener_23 ⟨_, rfl, h⟩
  · replace h := h.2 hc
    refine sm_iload_n (Y := mX9_isOpener) (pc := 6) 0 0 rfl rfl dX9_isOpener_6 ?_
    refine sm_bipush (Y := mX9_isOpener) (pc := 7) 116 (by decide) dX9_isOpener_7 ?_
    refine sm_icmp_eq (Y := mX9_isOpener) (pc := 9) 18 (by decide) dX9_isOpener_9 (fun hc => ?_) (fun hc => ?_)
    · replace h := h.1 hc
      refine sm_iconst (Y := mX9_isOpener) (pc := 18) 1 (by decide) dX9_isOpener_18 ?_
      refine sm_goto (Y := mX9_isOpener) (pc := 19) 23 (by decide) dX9_isOpener_19 ?_
      exact sm_zret (Y := mX9_isOpener) (pc := 23) rfl (by decide) rfl rfl dX9_isOpener_23 ⟨_, rfl, h⟩
    · replace h := h.2 hc
      refine sm_iload_n (Y := mX9_isOpener) (pc := 12) 0 0 rfl rfl dX9_isOpener_12 ?_
      refine sm_bipush (Y := mX9_isOpener) (pc := 13) 109 (by decide) dX9_isOpener_13 ?_
      refine sm_icmp_ne (Y := mX9_isOpener) (pc := 15) 22 (by decide) dX9_isOpener_15 (fun hc => ?_) (fun hc => ?_)
      · replace h := h.1 hc
        refine sm_iconst (Y := mX9_isOpener) (pc := 22) 0 (by decide) dX9_isOpener_22 ?_
        exact sm_zret (Y := mX9_isOpener) (pc := 23) rfl (by decide) rfl rfl dX9_isOpener_23 ⟨_, rfl, h⟩
      · replace h := h.2 hc
        refine sm_iconst (Y := mX9_isOpener) (pc := 18) 1 (by decide) dX9_isOpener_18 ?_
        refine sm_goto (Y := mX9_isOpener) (pc := 19) 23 (by decide) dX9_isOpener_19 ?_
        exact sm_zret (Y := mX9_isOpener) (pc := 23) rfl (by decide) rfl rfl dX9_isOpener_23 ⟨_, rfl, h⟩
def gX9_readLeaf_57 (E : sm_E) (L : sm_S → Prop) (d : Nat) (vs : List Value) (x1 : Int32) (x2 : Int32) (x3 : Int32) (m : sm_M) (Q : Int32 → sm_M → Prop) : Prop := sm_go E L mX9_readLeaf d 0 0 vs 57 [(0, .ref (sm_B E + 10)), (1, .int x1), (2, .int x2), (3, .int x3)] [] m 0 0 (sm_Z E L vs 0 0 (sm_QI Q))
theorem dX9_readLeaf_57 : decode cX9_readLeaf 57 = .ok (.iload_n 3, 1) := dk_iload_n_3 (by decide +kernel)
theorem dX9_readLeaf_58 : decode cX9_readLeaf 58 = .ok (.bipush 105, 2) := dk_bipush 105 (b := 105) (by decide +kernel) (by decide +kernel) (by decide +kernel)
theorem dX9_readLeaf_60 : decode cX9_readLeaf 60 = .ok (.if_icmp .ne 19, 3) := dk_if_icmp_ne 19 (b1 := 0) (b2 := 19) (by decide +kernel) (by decide +kernel) (by decide +kernel) (by decide +kernel)
theorem dX9_readLeaf_79 : decode cX9_readLeaf 79 = .ok (.iload_n 1, 1) := dk_iload_n_1 (by decide +kernel)
theorem dX9_readLeaf_80 : decode cX9_readLeaf 80 = .ok (.ireturn, 1) := dk_ireturn (by decide +kernel)
theorem dX9_readLeaf_63 : decode cX9_readLeaf 63 = .ok (.iload_n 2, 1) := dk_iload_n_2 (by decide +kernel)
theorem dX9_readLeaf_64 : decode cX9_readLeaf 64 = .ok (.ifCond .ne 15, 3) := dk_ifCond_ne 15 (b1 := 0) (b2 := 15) (by decide +kernel) (by decide +kernel) (by decide +kernel) (by decide +kernel)
theorem dX9_readLeaf_67 : decode cX9_readLeaf 67 = .ok (.aload_n 0, 1) := dk_aload_n_0 (by decide +kernel)
theorem dX9_readLeaf_68 : decode cX9_readLeaf 68 = .ok (.getfield 26, 3) := dk_getfield 26 (b1 := 0) (b2 := 26) (by decide +kernel) (by decide +kernel) (by decide +kernel) (by decide +kernel)
theorem dX9_readLeaf_71 : decode cX9_readLeaf 71 = .ok (.bipush 10, 2) := dk_bipush 10 (b := 10) (by decide +kernel) (by decide +kernel) (by decide +kernel)
theorem wRX9_64 : Cond.methodLink RX9 64 yX8_add ∈ sm_T := sm_in 552 (by decide +kernel) (by decide +kernel)
theorem dX9_readLeaf_73 : decode cX9_readLeaf 73 = .ok (.invokevirtual 64, 3) := dk_invokevirtual 64 (b1 := 0) (b2 := 64) (by decide +kernel) (by decide +kernel) (by decide +kernel) (by decide +kernel)
theorem dX9_readLeaf_76 : decode cX9_readLeaf 76 = .ok (.goto 5, 3) := dk_goto 5 (b1 := 0) (b2 := 5) (by decide +kernel) (by decide +kernel) (by decide +kernel) (by decide +kernel)
theorem dX9_readLeaf_81 : decode cX9_readLeaf 81 = .ok (.aload_n 0, 1) := dk_aload_n_0 (by decide +kernel)
theorem wRX9_67 : Cond.methodLink RX9 67 yX9_endUnit ∈ sm_T := sm_in 553 (by decide +kernel) (by decide +kernel)
abbrev mX9_endUnit : sm_Y := (yX9_endUnit, cX9_endUnit, 2, none)
theorem fX9_endUnit : sm_mi mX9_endUnit RX9 0 := ⟨sm_in 556 (by decide +kernel) (by decide +kernel), sm_in 555 (by decide +kernel) (by decide +kernel), sm_in 7 (by decide +kernel) (by decide +kernel), sm_in 86 (by decide +kernel) (by decide +kernel), rfl, ⟨by decide +kernel, by decide +kernel, by decide +kernel⟩, by decide⟩
theorem dX9_readLeaf_82 : decode cX9_readLeaf 82 = .ok (.invokevirtual 67, 3) := dk_invokevirtual 67 (b1 := 0) (b2 := 67) (by decide +kernel) (by decide +kernel) (by decide +kernel) (by decide +kernel)
theorem dX9_readLeaf_85 : decode cX9_readLeaf 85 = .ok (.iconst (-1), 1) := dk_iconst_m1 (by decide +kernel)
theorem dX9_readLeaf_86 : decode cX9_readLeaf 86 = .ok (.ireturn, 1) := dk_ireturn (by decide +kernel)
set_option maxRecDepth 20000 in
theorem vX9_readLeaf_57 {E : sm_E} {L : sm_S → Prop} {d : Nat} {vs : List Value} {x1 : Int32} {x2 : Int32} {x3 : Int32}  {m : sm_M} {Q : Int32 → sm_M → Prop} (hly : ∀ S, L S → ly S) (hd : 4 ≤ d) 
  (h : (¬ x3 = 105 →
      Q x1 m) ∧
   (x3 = 105 →
      (¬ x2 = 0 →
         Q x1 m) ∧
      (x2 = 0 →
         sm_callV E L mX8_add 2 0 0 [.ref (sm_B E + 14), .int 10] m (fun m_1 =>
         sm_callV E L mX9_endUnit 3 0 0 [.ref (sm_B E + 10)] m_1 (fun m_2 =>
         Q (-1) m_2))))) :
  gX9_readLeaf_57 E L d vs x1 x2 x3 m Q := by
  refine sm_iload_n (Y := mX9_readLeaf) (pc := 57) 3 3 rfl rfl dX9_readLeaf_57 ?_
  refine sm_bipush (Y := mX9_readLeaf) (pc := 58) 105 (by decide) dX9_readLeaf_58 ?_
  refine sm_icmp_ne (Y := mX9_readLeaf) (pc := 60) 79 (by decide) dX9_readLeaf_60 (fun hc => ?_) (fun hc => ?_)
  · replace h := h.1 hc
    refine sm_iload_n (Y := mX9_readLeaf) (pc := 79) 1 1 rfl rfl dX9_readLeaf_79 ?_
    exact sm_iret (Y := mX9_readLeaf) (pc := 80) rfl rfl rfl dX9_readLeaf_80 ⟨_, rfl, h⟩
  · replace h := h.2 hc
    refine sm_iload_n (Y := mX9_readLeaf) (pc := 63) 2 2 rfl rfl dX9_readLeaf_63 ?_
    refine sm_if_ne (Y := mX9_readLeaf) (pc := 64) 79 (by decide) dX9_readLeaf_64 (fun hc => ?_) (fun hc => ?_)
    · replace h := h.1 hc
      refine sm_iload_n (Y := mX9_readLeaf) (pc := 79) 1 1 rfl rfl dX9_readLeaf_79 ?_
      exact sm_iret (Y := mX9_readLeaf) (pc := 80) rfl rfl rfl dX9_readLeaf_80 ⟨_, rfl, h⟩
    · replace h := h.2 hc
      refine sm_aload_n (Y := mX9_readLeaf) (pc := 67) 0 0 rfl rfl dX9_readLeaf_67 ?_
      refine gf_RX9_26 (Y := mX9_readLeaf) (pc := 68) (b := 14) rfl ((lk_10 hly) _) (lf_10_3 hly _) dX9_readLeaf_68 ?_
      refine sm_bipush (Y := mX9_readLeaf) (pc := 71) 10 (by decide) dX9_readLeaf_71 ?_
      refine sm_iv_V (Y := mX9_readLeaf) (pc := 73) (As := [.int 10]) (a := 14) fX8_add wRX9_64 (lk_14 hly) (by decide) rfl rfl rfl (Nat.le_trans (by decide) hd) (Nat.le_of_ble_eq_true rfl) ⟨Nat.le_refl _, Nat.le_refl _⟩ dX9_readLeaf_73 rfl (sm_monoV h (fun m_1 h => ?_))
      refine sm_goto (Y := mX9_readLeaf) (pc := 76) 81 (by decide) dX9_readLeaf_76 ?_
      refine sm_aload_n (Y := mX9_readLeaf) (pc := 81) 0 0 rfl rfl dX9_readLeaf_81 ?_
      refine sm_iv_V (Y := mX9_readLeaf) (pc := 82) (As := []) (a := 10) fX9_endUnit wRX9_67 (lk_10 hly) (by decide) rfl rfl rfl (Nat.le_trans (by decide) hd) (Nat.le_of_ble_eq_true rfl) ⟨Nat.le_refl _, Nat.le_refl _⟩ dX9_readLeaf_82 rfl (sm_monoV h (fun m_2 h => ?_))
      refine sm_iconst (Y := mX9_readLeaf) (pc := 85) (-1) (by decide) dX9_readLeaf_85 ?_
      exact sm_iret (Y := mX9_readLeaf) (pc := 86) rfl rfl rfl dX9_readLeaf_86 ⟨_, rfl, h⟩
theorem dX9_readLeaf_0 : decode cX9_readLeaf 0 = .ok (.iload_n 1, 1) := dk_iload_n_1 (by decide +kernel)
theorem dX9_readLeaf_1 : decode cX9_readLeaf 1 = .ok (.aload_n 0, 1) := dk_aload_n_0 (by decide +kernel)
theorem dX9_readLeaf_2 : decode cX9_readLeaf 2 = .ok (.getfield 30, 3) := dk_getfield 30 (b1 := 0) (b2 := 30) (by decide +kernel) (by decide +kernel) (by decide +kernel) (by decide +kernel)
theorem dX9_readLeaf_5 : decode cX9_readLeaf 5 = .ok (.if_icmp .lt 8, 3) := dk_if_icmp_lt 8 (b1 := 0) (b2 := 8) (by decide +kernel) (by decide +kernel) (by decide +kernel) (by decide +kernel)
theorem dX9_readLeaf_13 : decode cX9_readLeaf 13 = .ok (.aload_n 0, 1) := dk_aload_n_0 (by decide +kernel)
theorem dX9_readLeaf_14 : decode cX9_readLeaf 14 = .ok (.getfield 9, 3) := dk_getfield 9 (b1 := 0) (b2 := 9) (by decide +kernel) (by decide +kernel) (by decide +kernel) (by decide +kernel)
theorem dX9_readLeaf_17 : decode cX9_readLeaf 17 = .ok (.iload_n 1, 1) := dk_iload_n_1 (by decide +kernel)
theorem dX9_readLeaf_18 : decode cX9_readLeaf 18 = .ok (.iaload, 1) := dk_iaload (by decide +kernel)
theorem dX9_readLeaf_19 : decode cX9_readLeaf 19 = .ok (.istore_n 3, 1) := dk_istore_n_3 (by decide +kernel)
theorem dX9_readLeaf_20 : decode cX9_readLeaf 20 = .ok (.iload_n 3, 1) := dk_iload_n_3 (by decide +kernel)
theorem dX9_readLeaf_21 : decode cX9_readLeaf 21 = .ok (.bipush 48, 2) := dk_bipush 48 (b := 48) (by decide +kernel) (by decide +kernel) (by decide +kernel)
theorem dX9_readLeaf_23 : decode cX9_readLeaf 23 = .ok (.if_icmp .lt 34, 3) := dk_if_icmp_lt 34 (b1 := 0) (b2 := 34) (by decide +kernel) (by decide +kernel) (by decide +kernel) (by decide +kernel)
theorem dX9_readLeaf_26 : decode cX9_readLeaf 26 = .ok (.iload_n 3, 1) := dk_iload_n_3 (by decide +kernel)
theorem dX9_readLeaf_27 : decode cX9_readLeaf 27 = .ok (.bipush 57, 2) := dk_bipush 57 (b := 57) (by decide +kernel) (by decide +kernel) (by decide +kernel)
theorem dX9_readLeaf_29 : decode cX9_readLeaf 29 = .ok (.if_icmp .gt 28, 3) := dk_if_icmp_gt 28 (b1 := 0) (b2 := 28) (by decide +kernel) (by decide +kernel) (by decide +kernel) (by decide +kernel)
theorem dX9_readLeaf_32 : decode cX9_readLeaf 32 = .ok (.aload_n 0, 1) := dk_aload_n_0 (by decide +kernel)
theorem dX9_readLeaf_33 : decode cX9_readLeaf 33 = .ok (.getfield 26, 3) := dk_getfield 26 (b1 := 0) (b2 := 26) (by decide +kernel) (by decide +kernel) (by decide +kernel) (by decide +kernel)
theorem dX9_readLeaf_36 : decode cX9_readLeaf 36 = .ok (.iload_n 2, 1) := dk_iload_n_2 (by decide +kernel)
theorem dX9_readLeaf_37 : decode cX9_readLeaf 37 = .ok (.ifCond .eq 10, 3) := dk_ifCond_eq 10 (b1 := 0) (b2 := 10) (by decide +kernel) (by decide +kernel) (by decide +kernel) (by decide +kernel)
theorem dX9_readLeaf_47 : decode cX9_readLeaf 47 = .ok (.iload_n 3, 1) := dk_iload_n_3 (by decide +kernel)
theorem dX9_readLeaf_48 : decode cX9_readLeaf 48 = .ok (.bipush 48, 2) := dk_bipush 48 (b := 48) (by decide +kernel) (by decide +kernel) (by decide +kernel)
theorem dX9_readLeaf_50 : decode cX9_readLeaf 50 = .ok (.isub, 1) := dk_isub (by decide +kernel)
theorem dX9_readLeaf_51 : decode cX9_readLeaf 51 = .ok (.invokevirtual 64, 3) := dk_invokevirtual 64 (b1 := 0) (b2 := 64) (by decide +kernel) (by decide +kernel) (by decide +kernel) (by decide +kernel)
theorem dX9_readLeaf_54 : decode cX9_readLeaf 54 = .ok (.goto 27, 3) := dk_goto 27 (b1 := 0) (b2 := 27) (by decide +kernel) (by decide +kernel) (by decide +kernel) (by decide +kernel)
theorem dX9_readLeaf_40 : decode cX9_readLeaf 40 = .ok (.bipush 48, 2) := dk_bipush 48 (b := 48) (by decide +kernel) (by decide +kernel) (by decide +kernel)
theorem dX9_readLeaf_42 : decode cX9_readLeaf 42 = .ok (.iload_n 3, 1) := dk_iload_n_3 (by decide +kernel)
theorem dX9_readLeaf_43 : decode cX9_readLeaf 43 = .ok (.isub, 1) := dk_isub (by decide +kernel)
theorem dX9_readLeaf_44 : decode cX9_readLeaf 44 = .ok (.goto 7, 3) := dk_goto 7 (b1 := 0) (b2 := 7) (by decide +kernel) (by decide +kernel) (by decide +kernel) (by decide +kernel)
theorem dX9_readLeaf_8 : decode cX9_readLeaf 8 = .ok (.aload_n 0, 1) := dk_aload_n_0 (by decide +kernel)
theorem dX9_readLeaf_9 : decode cX9_readLeaf 9 = .ok (.getfield 30, 3) := dk_getfield 30 (b1 := 0) (b2 := 30) (by decide +kernel) (by decide +kernel) (by decide +kernel) (by decide +kernel)
theorem dX9_readLeaf_12 : decode cX9_readLeaf 12 = .ok (.ireturn, 1) := dk_ireturn (by decide +kernel)
set_option maxRecDepth 20000 in
theorem vX9_readLeaf_0 {E : sm_E} {L : sm_S → Prop} {d : Nat} {x1 : Int32} {x2 : Int32}  {m : sm_M} {Q : Int32 → sm_M → Prop} (hly : ∀ S, L S → ly S) (hd : 4 ≤ d) 
  (h : (x1 < (m.1 10 4) →
      (vp_in x1 100) ∧ ∀ x3_2 : Int32, x3_2 = m.1 11 x1.toNatClampNeg →
      (x3_2 < 48 →
         gX9_readLeaf_57 E L d ([.ref (sm_B E + 10), .int x1, .int x2]) x1 x2 x3_2 m Q) ∧
      (¬ x3_2 < 48 →
         (57 < x3_2 →
            gX9_readLeaf_57 E L d ([.ref (sm_B E + 10), .int x1, .int x2]) x1 x2 x3_2 m Q) ∧
         (¬ 57 < x3_2 →
            (x2 = 0 →
               sm_callV E L mX8_add 2 0 0 [.ref (sm_B E + 14), .int (x3_2 - 48)] m (fun m_3 =>
               sm_callV E L mX9_endUnit 3 0 0 [.ref (sm_B E + 10)] m_3 (fun m_4 =>
               Q (-1) m_4))) ∧
            (¬ x2 = 0 →
               sm_callV E L mX8_add 2 0 0 [.ref (sm_B E + 14), .int ((48 : Int32) - x3_2)] m (fun m_5 =>
               sm_callV E L mX9_endUnit 3 0 0 [.ref (sm_B E + 10)] m_5 (fun m_6 =>
               Q (-1) m_6)))))) ∧
   (¬ x1 < (m.1 10 4) →
      Q (m.1 10 4) m)) :
  sm_callI E L mX9_readLeaf d 0 0 [.ref (sm_B E + 10), .int x1, .int x2] m Q := by
  refine sm_enter (by decide +kernel) (by simp [lg_sl, Value.category]) ?_
  refine sm_iload_n (Y := mX9_readLeaf) (pc := 0) 1 1 rfl rfl dX9_readLeaf_0 ?_
  refine sm_aload_n (Y := mX9_readLeaf) (pc := 1) 0 0 rfl rfl dX9_readLeaf_1 ?_
  refine gf_RX9_30 (Y := mX9_readLeaf) (pc := 2) rfl ((lk_10 hly) _) dX9_readLeaf_2 ?_
  refine sm_icmp_lt (Y := mX9_readLeaf) (pc := 5) 13 (by decide) dX9_readLeaf_5 (fun hc => ?_) (fun hc => ?_)
  · replace h := h.1 hc
    refine sm_aload_n (Y := mX9_readLeaf) (pc := 13) 0 0 rfl rfl dX9_readLeaf_13 ?_
    refine gf_RX9_9 (Y := mX9_readLeaf) (pc := 14) (b := 11) rfl ((lk_10 hly) _) (lf_10_0 hly _) dX9_readLeaf_14 ?_
    refine sm_iload_n (Y := mX9_readLeaf) (pc := 17) 1 1 rfl rfl dX9_readLeaf_17 ?_
    obtain ⟨hn_1, h⟩ := h
    refine sm_iald (Y := mX9_readLeaf) (pc := 18) (la_11 hly _) hn_1 dX9_readLeaf_18 ?_
    refine sm_istore_n (Y := mX9_readLeaf) (pc := 19) (fun y => [(3, .int y), (0, .ref (sm_B E + 10)), (1, .int x1), (2, .int x2)]) 3 rfl (by decide) (fun _ => rfl) dX9_readLeaf_19 (fun x3_2 ex3_2 => ?_)
    replace h := h x3_2 ex3_2
    refine sm_iload_n (Y := mX9_readLeaf) (pc := 20) 0 3 rfl rfl dX9_readLeaf_20 ?_
    refine sm_bipush (Y := mX9_readLeaf) (pc := 21) 48 (by decide) dX9_readLeaf_21 ?_
    refine sm_icmp_lt (Y := mX9_readLeaf) (pc := 23) 57 (by decide) dX9_readLeaf_23 (fun hc => ?_) (fun hc => ?_)
    · replace h := h.1 hc
      refine sm_sub [1, 2, 3, 0] rfl ?_
      exact h
    · replace h := h.2 hc
      refine sm_iload_n (Y := mX9_readLeaf) (pc := 26) 0 3 rfl rfl dX9_readLeaf_26 ?_
      refine sm_bipush (Y := mX9_readLeaf) (pc := 27) 57 (by decide) dX9_readLeaf_27 ?_
      refine sm_icmp_gt (Y := mX9_readLeaf) (pc := 29) 57 (by decide) dX9_readLeaf_29 (fun hc => ?_) (fun hc => ?_)
      · replace h := h.1 hc
        refine sm_sub [1, 2, 3, 0] rfl ?_
        exact h
      · replace h := h.2 hc
        refine sm_aload_n (Y := mX9_readLeaf) (pc := 32) 1 0 rfl rfl dX9_readLeaf_32 ?_
        refine gf_RX9_26 (Y := mX9_readLeaf) (pc := 33) (b := 14) rfl ((lk_10 hly) _) (lf_10_3 hly _) dX9_readLeaf_33 ?_
        refine sm_iload_n (Y := mX9_readLeaf) (pc := 36) 3 2 rfl rfl dX9_readLeaf_36 ?_
        refine sm_if_eq (Y := mX9_readLeaf) (pc := 37) 47 (by decide) dX9_readLeaf_37 (fun hc => ?_) (fun hc => ?_)
        · replace h := h.1 hc
          refine sm_iload_n (Y := mX9_readLeaf) (pc := 47) 0 3 rfl rfl dX9_readLeaf_47 ?_
          refine sm_bipush (Y := mX9_readLeaf) (pc := 48) 48 (by decide) dX9_readLeaf_48 ?_
          refine sm_isub (Y := mX9_readLeaf) (pc := 50) dX9_readLeaf_50 ?_
          refine sm_iv_V (Y := mX9_readLeaf) (pc := 51) (As := [.int (x3_2 - 48)]) (a := 14) fX8_add wRX9_64 (lk_14 hly) (by decide) rfl rfl rfl (Nat.le_trans (by decide) hd) (Nat.le_of_ble_eq_true rfl) ⟨Nat.le_refl _, Nat.le_refl _⟩ dX9_readLeaf_51 rfl (sm_monoV h (fun m_3 h => ?_))
          refine sm_goto (Y := mX9_readLeaf) (pc := 54) 81 (by decide) dX9_readLeaf_54 ?_
          refine sm_aload_n (Y := mX9_readLeaf) (pc := 81) 1 0 rfl rfl dX9_readLeaf_81 ?_
          refine sm_iv_V (Y := mX9_readLeaf) (pc := 82) (As := []) (a := 10) fX9_endUnit wRX9_67 (lk_10 hly) (by decide) rfl rfl rfl (Nat.le_trans (by decide) hd) (Nat.le_of_ble_eq_true rfl) ⟨Nat.le_refl _, Nat.le_refl _⟩ dX9_readLeaf_82 rfl (sm_monoV h (fun m_4 h => ?_))
          refine sm_iconst (Y := mX9_readLeaf) (pc := 85) (-1) (by decide) dX9_readLeaf_85 ?_
          exact sm_iret (Y := mX9_readLeaf) (pc := 86) rfl rfl rfl dX9_readLeaf_86 ⟨_, rfl, h⟩
        · replace h := h.2 hc
          refine sm_bipush (Y := mX9_readLeaf) (pc := 40) 48 (by decide) dX9_readLeaf_40 ?_
          refine sm_iload_n (Y := mX9_readLeaf) (pc := 42) 0 3 rfl rfl dX9_readLeaf_42 ?_
          refine sm_isub (Y := mX9_readLeaf) (pc := 43) dX9_readLeaf_43 ?_
          refine sm_goto (Y := mX9_readLeaf) (pc := 44) 51 (by decide) dX9_readLeaf_44 ?_
          refine sm_iv_V (Y := mX9_readLeaf) (pc := 51) (As := [.int ((48 : Int32) - x3_2)]) (a := 14) fX8_add wRX9_64 (lk_14 hly) (by decide) rfl rfl rfl (Nat.le_trans (by decide) hd) (Nat.le_of_ble_eq_true rfl) ⟨Nat.le_refl _, Nat.le_refl _⟩ dX9_readLeaf_51 rfl (sm_monoV h (fun m_5 h => ?_))
          refine sm_goto (Y := mX9_readLeaf) (pc := 54) 81 (by decide) dX9_readLeaf_54 ?_
          refine sm_aload_n (Y := mX9_readLeaf) (pc := 81) 1 0 rfl rfl dX9_readLeaf_81 ?_
          refine sm_iv_V (Y := mX9_readLeaf) (pc := 82) (As := []) (a := 10) fX9_endUnit wRX9_67 (lk_10 hly) (by decide) rfl rfl rfl (Nat.le_trans (by decide) hd) (Nat.le_of_ble_eq_true rfl) ⟨Nat.le_refl _, Nat.le_refl _⟩ dX9_readLeaf_82 rfl (sm_monoV h (fun m_6 h => ?_))
          refine sm_iconst (Y := mX9_readLeaf) (pc := 85) (-1) (by decide) dX9_readLeaf_85 ?_
          exact sm_iret (Y := mX9_readLeaf) (pc := 86) rfl rfl rfl dX9_readLeaf_86 ⟨_, rfl, h⟩
  · replace h := h.2 hc
    refine sm_aload_n (Y := mX9_readLeaf) (pc := 8) 0 0 rfl rfl dX9_readLeaf_8 ?_
    refine gf_RX9_30 (Y := mX9_readLeaf) (pc := 9) rfl ((lk_10 hly) _) dX9_readLeaf_9 ?_
    exact sm_iret (Y := mX9_readLeaf) (pc := 12) rfl rfl rfl dX9_readLeaf_12 ⟨_, rfl, h⟩
theorem dX9_postpone_0 : decode cX9_postpone 0 = .ok (.aload_n 0, 1) := dk_aload_n_0 (by decide +kernel)
theorem dX9_postpone_1 : decode cX9_postpone 1 = .ok (.getfield 37, 3) := dk_getfield 37 (b1 := 0) (b2 := 37) (by decide +kernel) (by decide +kernel) (by decide +kernel) (by decide +kernel)
theorem dX9_postpone_4 : decode cX9_postpone 4 = .ok (.aload_n 0, 1) := dk_aload_n_0 (by decide +kernel)
theorem dX9_postpone_5 : decode cX9_postpone 5 = .ok (.getfield 15, 3) := dk_getfield 15 (b1 := 0) (b2 := 15) (by decide +kernel) (by decide +kernel) (by decide +kernel) (by decide +kernel)
theorem dX9_postpone_8 : decode cX9_postpone 8 = .ok (.arraylength, 1) := dk_arraylength (by decide +kernel)
theorem dX9_postpone_9 : decode cX9_postpone 9 = .ok (.if_icmp .ge 23, 3) := dk_if_icmp_ge 23 (b1 := 0) (b2 := 23) (by decide +kernel) (by decide +kernel) (by decide +kernel) (by decide +kernel)
theorem dX9_postpone_32 : decode cX9_postpone 32 = .ok (.return_, 1) := dk_return_ (by decide +kernel)
theorem dX9_postpone_12 : decode cX9_postpone 12 = .ok (.aload_n 0, 1) := dk_aload_n_0 (by decide +kernel)
theorem dX9_postpone_13 : decode cX9_postpone 13 = .ok (.getfield 15, 3) := dk_getfield 15 (b1 := 0) (b2 := 15) (by decide +kernel) (by decide +kernel) (by decide +kernel) (by decide +kernel)
theorem dX9_postpone_16 : decode cX9_postpone 16 = .ok (.aload_n 0, 1) := dk_aload_n_0 (by decide +kernel)
theorem dX9_postpone_17 : decode cX9_postpone 17 = .ok (.getfield 37, 3) := dk_getfield 37 (b1 := 0) (b2 := 37) (by decide +kernel) (by decide +kernel) (by decide +kernel) (by decide +kernel)
theorem dX9_postpone_20 : decode cX9_postpone 20 = .ok (.iload_n 1, 1) := dk_iload_n_1 (by decide +kernel)
theorem dX9_postpone_21 : decode cX9_postpone 21 = .ok (.iastore, 1) := dk_iastore (by decide +kernel)
theorem dX9_postpone_22 : decode cX9_postpone 22 = .ok (.aload_n 0, 1) := dk_aload_n_0 (by decide +kernel)
theorem dX9_postpone_23 : decode cX9_postpone 23 = .ok (.dup, 1) := dk_dup (by decide +kernel)
theorem dX9_postpone_24 : decode cX9_postpone 24 = .ok (.getfield 37, 3) := dk_getfield 37 (b1 := 0) (b2 := 37) (by decide +kernel) (by decide +kernel) (by decide +kernel) (by decide +kernel)
theorem dX9_postpone_27 : decode cX9_postpone 27 = .ok (.iconst 1, 1) := dk_iconst_1 (by decide +kernel)
theorem dX9_postpone_28 : decode cX9_postpone 28 = .ok (.iadd, 1) := dk_iadd (by decide +kernel)
theorem dX9_postpone_29 : decode cX9_postpone 29 = .ok (.putfield 37, 3) := dk_putfield 37 (b1 := 0) (b2 := 37) (by decide +kernel) (by decide +kernel) (by decide +kernel) (by decide +kernel)
set_option maxRecDepth 20000 in
theorem vX9_postpone_0 {E : sm_E} {L : sm_S → Prop} {d : Nat} {x1 : Int32}  {m : sm_M} {Q : sm_M → Prop} (hly : ∀ S, L S → ly S) (hd : 1 ≤ d) 
  (h : ((nI 100) ≤ (m.1 10 6) →
      Q m) ∧
   (¬ (nI 100) ≤ (m.1 10 6) →
      (vp_in (m.1 10 6) 100) ∧ ∀ m_1 : sm_M, m_1 = sm_wI m 12 (m.1 10 6).toNatClampNeg x1 →
      ∀ m_3 : sm_M, m_3 = sm_wI m_1 10 6 ((m_1.1 10 6) + 1) →
      Q m_3)) :
  sm_callV E L mX9_postpone d 0 0 [.ref (sm_B E + 10), .int x1] m Q := by
  refine sm_enter (by decide +kernel) (by simp [lg_sl, Value.category]) ?_
  refine sm_aload_n (Y := mX9_postpone) (pc := 0) 0 0 rfl rfl dX9_postpone_0 ?_
  refine gf_RX9_37 (Y := mX9_postpone) (pc := 1) rfl ((lk_10 hly) _) dX9_postpone_1 ?_
  refine sm_aload_n (Y := mX9_postpone) (pc := 4) 0 0 rfl rfl dX9_postpone_4 ?_
  refine gf_RX9_15 (Y := mX9_postpone) (pc := 5) (b := 12) rfl ((lk_10 hly) _) (lf_10_1 hly _) dX9_postpone_5 ?_
  refine sm_alenI (Y := mX9_postpone) (pc := 8) (la_12 hly _) dX9_postpone_8 ?_
  refine sm_icmp_ge (Y := mX9_postpone) (pc := 9) 32 (by decide) dX9_postpone_9 (fun hc => ?_) (fun hc => ?_)
  · replace h := h.1 hc
    exact sm_vret (Y := mX9_postpone) (pc := 32) rfl rfl rfl dX9_postpone_32 ⟨rfl, h⟩
  · replace h := h.2 hc
    refine sm_aload_n (Y := mX9_postpone) (pc := 12) 0 0 rfl rfl dX9_postpone_12 ?_
    refine gf_RX9_15 (Y := mX9_postpone) (pc := 13) (b := 12) rfl ((lk_10 hly) _) (lf_10_1 hly _) dX9_postpone_13 ?_
    refine sm_aload_n (Y := mX9_postpone) (pc := 16) 0 0 rfl rfl dX9_postpone_16 ?_
    refine gf_RX9_37 (Y := mX9_postpone) (pc := 17) rfl ((lk_10 hly) _) dX9_postpone_17 ?_
    refine sm_iload_n (Y := mX9_postpone) (pc := 20) 1 1 rfl rfl dX9_postpone_20 ?_
    obtain ⟨hn_2, h⟩ := h
    refine sm_iast (Y := mX9_postpone) (pc := 21) (la_12 hly _) hn_2 dX9_postpone_21 (fun m_1 em_1 => ?_)
    replace h := h m_1 em_1
    refine sm_aload_n (Y := mX9_postpone) (pc := 22) 0 0 rfl rfl dX9_postpone_22 ?_
    refine sm_dup (Y := mX9_postpone) (pc := 23) rfl dX9_postpone_23 ?_
    refine gf_RX9_37 (Y := mX9_postpone) (pc := 24) rfl ((lk_10 hly) _) dX9_postpone_24 ?_
    refine sm_iconst (Y := mX9_postpone) (pc := 27) 1 (by decide) dX9_postpone_27 ?_
    refine sm_iadd (Y := mX9_postpone) (pc := 28) dX9_postpone_28 ?_
    refine pf_RX9_37 (Y := mX9_postpone) (pc := 29) rfl ((lk_10 hly) _) dX9_postpone_29 (fun m_3 em_3 => ?_)
    replace h := h m_3 em_3
    exact sm_vret (Y := mX9_postpone) (pc := 32) rfl rfl rfl dX9_postpone_32 ⟨rfl, h⟩
abbrev mX9_isWaiting : sm_Y := (yX9_isWaiting, cX9_isWaiting, 2, (some FieldType.boolean))
theorem fX9_isWaiting : sm_mi mX9_isWaiting RX9 1 := ⟨sm_in 560 (by decide +kernel) (by decide +kernel), sm_in 559 (by decide +kernel) (by decide +kernel), sm_in 8 (by decide +kernel) (by decide +kernel), sm_in 86 (by decide +kernel) (by decide +kernel), rfl, ⟨by decide +kernel, by decide +kernel, by decide +kernel⟩, by decide⟩
theorem dX9_isWaiting_0 : decode cX9_isWaiting 0 = .ok (.aload_n 0, 1) := dk_aload_n_0 (by decide +kernel)
theorem dX9_isWaiting_1 : decode cX9_isWaiting 1 = .ok (.getfield 37, 3) := dk_getfield 37 (b1 := 0) (b2 := 37) (by decide +kernel) (by decide +kernel) (by decide +kernel) (by decide +kernel)
theorem dX9_isWaiting_4 : decode cX9_isWaiting 4 = .ok (.ifCond .le 22, 3) := dk_ifCond_le 22 (b1 := 0) (b2 := 22) (by decide +kernel) (by decide +kernel) (by decide +kernel) (by decide +kernel)
theorem dX9_isWaiting_26 : decode cX9_isWaiting 26 = .ok (.iconst 0, 1) := dk_iconst_0 (by decide +kernel)
theorem dX9_isWaiting_27 : decode cX9_isWaiting 27 = .ok (.ireturn, 1) := dk_ireturn (by decide +kernel)
theorem dX9_isWaiting_7 : decode cX9_isWaiting 7 = .ok (.aload_n 0, 1) := dk_aload_n_0 (by decide +kernel)
theorem dX9_isWaiting_8 : decode cX9_isWaiting 8 = .ok (.getfield 15, 3) := dk_getfield 15 (b1 := 0) (b2 := 15) (by decide +kernel) (by decide +kernel) (by decide +kernel) (by decide +kernel)
theorem dX9_isWaiting_11 : decode cX9_isWaiting 11 = .ok (.aload_n 0, 1) := dk_aload_n_0 (by decide +kernel)
theorem dX9_isWaiting_12 : decode cX9_isWaiting 12 = .ok (.getfield 37, 3) := dk_getfield 37 (b1 := 0) (b2 := 37) (by decide +kernel) (by decide +kernel) (by decide +kernel) (by decide +kernel)
theorem dX9_isWaiting_15 : decode cX9_isWaiting 15 = .ok (.iconst 1, 1) := dk_iconst_1 (by decide +kernel)
theorem dX9_isWaiting_16 : decode cX9_isWaiting 16 = .ok (.isub, 1) := dk_isub (by decide +kernel)
theorem dX9_isWaiting_17 : decode cX9_isWaiting 17 = .ok (.iaload, 1) := dk_iaload (by decide +kernel)
theorem dX9_isWaiting_18 : decode cX9_isWaiting 18 = .ok (.iload_n 1, 1) := dk_iload_n_1 (by decide +kernel)
theorem dX9_isWaiting_19 : decode cX9_isWaiting 19 = .ok (.if_icmp .ne 7, 3) := dk_if_icmp_ne 7 (b1 := 0) (b2 := 7) (by decide +kernel) (by decide +kernel) (by decide +kernel) (by decide +kernel)
theorem dX9_isWaiting_22 : decode cX9_isWaiting 22 = .ok (.iconst 1, 1) := dk_iconst_1 (by decide +kernel)
theorem dX9_isWaiting_23 : decode cX9_isWaiting 23 = .ok (.goto 4, 3) := dk_goto 4 (b1 := 0) (b2 := 4) (by decide +kernel) (by decide +kernel) (by decide +kernel) (by decide +kernel)
set_option maxRecDepth 20000 in
theorem vX9_isWaiting_0 {E : sm_E} {L : sm_S → Prop} {d : Nat} {x1 : Int32}  {m : sm_M} {Q : Int32 → sm_M → Prop} (hly : ∀ S, L S → ly S) (hd : 1 ≤ d) 
  (h : ((m.1 10 6) ≤ 0 →
      Q 0 m) ∧
   (¬ (m.1 10 6) ≤ 0 →
      (vp_in ((m.1 10 6) - 1) 100) ∧ (¬ (m.1 12 ((m.1 10 6) - 1).toNatClampNeg) = x1 →
         Q 0 m) ∧
      ((m.1 12 ((m.1 10 6) - 1).toNatClampNeg) = x1 →
         Q 1 m))) :
  sm_callI E L mX9_isWaiting d 0 0 [.ref (sm_B E + 10), .int x1] m Q := by
  refine sm_enter (by decide +kernel) (by simp [lg_sl, Value.category]) ?_
  refine sm_aload_n (Y := mX9_isWaiting) (pc := 0) 0 0 rfl rfl dX9_isWaiting_0 ?_
  refine gf_RX9_37 (Y := mX9_isWaiting) (pc := 1) rfl ((lk_10 hly) _) dX9_isWaiting_1 ?_
  refine sm_if_le (Y := mX9_isWaiting) (pc := 4) 26 (by decide) dX9_isWaiting_4 (fun hc => ?_) (fun hc => ?_)
  · replace h := h.1 hc
    refine sm_iconst (Y := mX9_isWaiting) (pc := 26) 0 (by decide) dX9_isWaiting_26 ?_
    exact sm_zret (Y := mX9_isWaiting) (pc := 27) rfl (by decide) rfl rfl dX9_isWaiting_27 ⟨_, rfl, h⟩
  · replace h := h.2 hc
    refine sm_aload_n (Y := mX9_isWaiting) (pc := 7) 0 0 rfl rfl dX9_isWaiting_7 ?_
    refine gf_RX9_15 (Y := mX9_isWaiting) (pc := 8) (b := 12) rfl ((lk_10 hly) _) (lf_10_1 hly _) dX9_isWaiting_8 ?_
    refine sm_aload_n (Y := mX9_isWaiting) (pc := 11) 0 0 rfl rfl dX9_isWaiting_11 ?_
    refine gf_RX9_37 (Y := mX9_isWaiting) (pc := 12) rfl ((lk_10 hly) _) dX9_isWaiting_12 ?_
    refine sm_iconst (Y := mX9_isWaiting) (pc := 15) 1 (by decide) dX9_isWaiting_15 ?_
    refine sm_isub (Y := mX9_isWaiting) (pc := 16) dX9_isWaiting_16 ?_
    obtain ⟨hn_1, h⟩ := h
    refine sm_iald (Y := mX9_isWaiting) (pc := 17) (la_12 hly _) hn_1 dX9_isWaiting_17 ?_
    refine sm_iload_n (Y := mX9_isWaiting) (pc := 18) 1 1 rfl rfl dX9_isWaiting_18 ?_
    refine sm_icmp_ne (Y := mX9_isWaiting) (pc := 19) 26 (by decide) dX9_isWaiting_19 (fun hc => ?_) (fun hc => ?_)
    · replace h := h.1 hc
      refine sm_iconst (Y := mX9_isWaiting) (pc := 26) 0 (by decide) dX9_isWaiting_26 ?_
      exact sm_zret (Y := mX9_isWaiting) (pc := 27) rfl (by decide) rfl rfl dX9_isWaiting_27 ⟨_, rfl, h⟩
    · replace h := h.2 hc
      refine sm_iconst (Y := mX9_isWaiting) (pc := 22) 1 (by decide) dX9_isWaiting_22 ?_
      refine sm_goto (Y := mX9_isWaiting) (pc := 23) 27 (by decide) dX9_isWaiting_23 ?_
      exact sm_zret (Y := mX9_isWaiting) (pc := 27) rfl (by decide) rfl rfl dX9_isWaiting_27 ⟨_, rfl, h⟩
def gX9_endUnit_75 (E : sm_E) (L : sm_S → Prop) (d : Nat) (vs : List Value)  (m : sm_M) (Q : sm_M → Prop) : Prop := sm_go E L mX9_endUnit d 0 0 vs 75 [(0, .ref (sm_B E + 10))] [] m 0 0 (sm_Z E L vs 0 0 (sm_QV Q))
def gX9_endUnit_46 (E : sm_E) (L : sm_S → Prop) (d : Nat) (vs : List Value) (x1 : Int32) (s1 : Int32) (m : sm_M) (Q : sm_M → Prop) : Prop := sm_go E L mX9_endUnit d 0 0 vs 46 [(0, .ref (sm_B E + 10)), (1, .int x1)] [.int s1, .ref (sm_B E + 14)] m 0 0 (sm_Z E L vs 0 0 (sm_QV Q))
def gX9_endUnit_2 (E : sm_E) (L : sm_S → Prop) (d : Nat) (vs : List Value) (x1 : Int32) (m : sm_M) (Q : sm_M → Prop) : Prop := sm_go E L mX9_endUnit d 0 0 vs 2 [(0, .ref (sm_B E + 10)), (1, .int x1)] [] m 0 0 (sm_Z E L vs 0 0 (sm_QV Q))
theorem dX9_endUnit_75 : decode cX9_endUnit 75 = .ok (.aload_n 0, 1) := dk_aload_n_0 (by decide +kernel)
theorem dX9_endUnit_76 : decode cX9_endUnit 76 = .ok (.bipush 42, 2) := dk_bipush 42 (b := 42) (by decide +kernel) (by decide +kernel) (by decide +kernel)
theorem wRX9_70 : Cond.methodLink RX9 70 yX9_isWaiting ∈ sm_T := sm_in 557 (by decide +kernel) (by decide +kernel)
theorem dX9_endUnit_78 : decode cX9_endUnit 78 = .ok (.invokevirtual 70, 3) := dk_invokevirtual 70 (b1 := 0) (b2 := 70) (by decide +kernel) (by decide +kernel) (by decide +kernel) (by decide +kernel)
theorem dX9_endUnit_81 : decode cX9_endUnit 81 = .ok (.ifCond .eq 22, 3) := dk_ifCond_eq 22 (b1 := 0) (b2 := 22) (by decide +kernel) (by decide +kernel) (by decide +kernel) (by decide +kernel)
theorem dX9_endUnit_103 : decode cX9_endUnit 103 = .ok (.return_, 1) := dk_return_ (by decide +kernel)
theorem dX9_endUnit_84 : decode cX9_endUnit 84 = .ok (.aload_n 0, 1) := dk_aload_n_0 (by decide +kernel)
theorem dX9_endUnit_85 : decode cX9_endUnit 85 = .ok (.getfield 26, 3) := dk_getfield 26 (b1 := 0) (b2 := 26) (by decide +kernel) (by decide +kernel) (by decide +kernel) (by decide +kernel)
theorem dX9_endUnit_88 : decode cX9_endUnit 88 = .ok (.bipush 12, 2) := dk_bipush 12 (b := 12) (by decide +kernel) (by decide +kernel) (by decide +kernel)
theorem dX9_endUnit_90 : decode cX9_endUnit 90 = .ok (.invokevirtual 64, 3) := dk_invokevirtual 64 (b1 := 0) (b2 := 64) (by decide +kernel) (by decide +kernel) (by decide +kernel) (by decide +kernel)
theorem dX9_endUnit_93 : decode cX9_endUnit 93 = .ok (.aload_n 0, 1) := dk_aload_n_0 (by decide +kernel)
theorem dX9_endUnit_94 : decode cX9_endUnit 94 = .ok (.dup, 1) := dk_dup (by decide +kernel)
theorem dX9_endUnit_95 : decode cX9_endUnit 95 = .ok (.getfield 37, 3) := dk_getfield 37 (b1 := 0) (b2 := 37) (by decide +kernel) (by decide +kernel) (by decide +kernel) (by decide +kernel)
theorem dX9_endUnit_98 : decode cX9_endUnit 98 = .ok (.iconst 1, 1) := dk_iconst_1 (by decide +kernel)
theorem dX9_endUnit_99 : decode cX9_endUnit 99 = .ok (.isub, 1) := dk_isub (by decide +kernel)
theorem dX9_endUnit_100 : decode cX9_endUnit 100 = .ok (.putfield 37, 3) := dk_putfield 37 (b1 := 0) (b2 := 37) (by decide +kernel) (by decide +kernel) (by decide +kernel) (by decide +kernel)
set_option maxRecDepth 20000 in
theorem vX9_endUnit_75 {E : sm_E} {L : sm_S → Prop} {d : Nat} {vs : List Value}   {m : sm_M} {Q : sm_M → Prop} (hly : ∀ S, L S → ly S) (hd : 3 ≤ d) 
  (h : sm_callI E L mX9_isWaiting 1 0 0 [.ref (sm_B E + 10), .int 42] m (fun r_2 m_1 =>
   (r_2 = 0 →
      Q m_1) ∧
   (¬ r_2 = 0 →
      sm_callV E L mX8_add 2 0 0 [.ref (sm_B E + 14), .int 12] m_1 (fun m_3 =>
      ∀ m_4 : sm_M, m_4 = sm_wI m_3 10 6 ((m_3.1 10 6) - 1) →
      Q m_4)))) :
  gX9_endUnit_75 E L d vs  m Q := by
  refine sm_aload_n (Y := mX9_endUnit) (pc := 75) 0 0 rfl rfl dX9_endUnit_75 ?_
  refine sm_bipush (Y := mX9_endUnit) (pc := 76) 42 (by decide) dX9_endUnit_76 ?_
  refine sm_iv_I (Y := mX9_endUnit) (pc := 78) (As := [.int 42]) (a := 10) fX9_isWaiting wRX9_70 (lk_10 hly) (by decide) rfl rfl rfl (Nat.le_trans (by decide) hd) (Nat.le_of_ble_eq_true rfl) ⟨Nat.le_refl _, Nat.le_refl _⟩ dX9_endUnit_78 rfl (sm_monoI h (fun r_2 m_1 h => ?_))
  refine sm_if_eq (Y := mX9_endUnit) (pc := 81) 103 (by decide) dX9_endUnit_81 (fun hc => ?_) (fun hc => ?_)
  · replace h := h.1 hc
    exact sm_vret (Y := mX9_endUnit) (pc := 103) rfl rfl rfl dX9_endUnit_103 ⟨rfl, h⟩
  · replace h := h.2 hc
    refine sm_aload_n (Y := mX9_endUnit) (pc := 84) 0 0 rfl rfl dX9_endUnit_84 ?_
    refine gf_RX9_26 (Y := mX9_endUnit) (pc := 85) (b := 14) rfl ((lk_10 hly) _) (lf_10_3 hly _) dX9_endUnit_85 ?_
    refine sm_bipush (Y := mX9_endUnit) (pc := 88) 12 (by decide) dX9_endUnit_88 ?_
    refine sm_iv_V (Y := mX9_endUnit) (pc := 90) (As := [.int 12]) (a := 14) fX8_add wRX9_64 (lk_14 hly) (by decide) rfl rfl rfl (Nat.le_trans (by decide) hd) (Nat.le_of_ble_eq_true rfl) ⟨Nat.le_refl _, Nat.le_refl _⟩ dX9_endUnit_90 rfl (sm_monoV h (fun m_3 h => ?_))
    refine sm_aload_n (Y := mX9_endUnit) (pc := 93) 0 0 rfl rfl dX9_endUnit_93 ?_
    refine sm_dup (Y := mX9_endUnit) (pc := 94) rfl dX9_endUnit_94 ?_
    refine gf_RX9_37 (Y := mX9_endUnit) (pc := 95) rfl ((lk_10 hly) _) dX9_endUnit_95 ?_
    refine sm_iconst (Y := mX9_endUnit) (pc := 98) 1 (by decide) dX9_endUnit_98 ?_
    refine sm_isub (Y := mX9_endUnit) (pc := 99) dX9_endUnit_99 ?_
    refine pf_RX9_37 (Y := mX9_endUnit) (pc := 100) rfl ((lk_10 hly) _) dX9_endUnit_100 (fun m_4 em_4 => ?_)
    replace h := h m_4 em_4
    exact sm_vret (Y := mX9_endUnit) (pc := 103) rfl rfl rfl dX9_endUnit_103 ⟨rfl, h⟩
theorem dX9_endUnit_46 : decode cX9_endUnit 46 = .ok (.invokevirtual 64, 3) := dk_invokevirtual 64 (b1 := 0) (b2 := 64) (by decide +kernel) (by decide +kernel) (by decide +kernel) (by decide +kernel)
theorem dX9_endUnit_49 : decode cX9_endUnit 49 = .ok (.aload_n 0, 1) := dk_aload_n_0 (by decide +kernel)
theorem dX9_endUnit_50 : decode cX9_endUnit 50 = .ok (.dup, 1) := dk_dup (by decide +kernel)
theorem dX9_endUnit_51 : decode cX9_endUnit 51 = .ok (.getfield 37, 3) := dk_getfield 37 (b1 := 0) (b2 := 37) (by decide +kernel) (by decide +kernel) (by decide +kernel) (by decide +kernel)
theorem dX9_endUnit_54 : decode cX9_endUnit 54 = .ok (.iconst 1, 1) := dk_iconst_1 (by decide +kernel)
theorem dX9_endUnit_55 : decode cX9_endUnit 55 = .ok (.isub, 1) := dk_isub (by decide +kernel)
theorem dX9_endUnit_56 : decode cX9_endUnit 56 = .ok (.putfield 37, 3) := dk_putfield 37 (b1 := 0) (b2 := 37) (by decide +kernel) (by decide +kernel) (by decide +kernel) (by decide +kernel)
theorem dX9_endUnit_59 : decode cX9_endUnit 59 = .ok (.aload_n 0, 1) := dk_aload_n_0 (by decide +kernel)
theorem dX9_endUnit_60 : decode cX9_endUnit 60 = .ok (.dup, 1) := dk_dup (by decide +kernel)
theorem dX9_endUnit_61 : decode cX9_endUnit 61 = .ok (.getfield 40, 3) := dk_getfield 40 (b1 := 0) (b2 := 40) (by decide +kernel) (by decide +kernel) (by decide +kernel) (by decide +kernel)
theorem dX9_endUnit_64 : decode cX9_endUnit 64 = .ok (.iconst 1, 1) := dk_iconst_1 (by decide +kernel)
theorem dX9_endUnit_65 : decode cX9_endUnit 65 = .ok (.isub, 1) := dk_isub (by decide +kernel)
theorem dX9_endUnit_66 : decode cX9_endUnit 66 = .ok (.putfield 40, 3) := dk_putfield 40 (b1 := 0) (b2 := 40) (by decide +kernel) (by decide +kernel) (by decide +kernel) (by decide +kernel)
theorem dX9_endUnit_69 : decode cX9_endUnit 69 = .ok (.iinc 1 1, 3) := dk_iinc 1 1 (b1 := 1) (b2 := 1) (by decide +kernel) (by decide +kernel) (by decide +kernel) (by decide +kernel) (by decide +kernel)
theorem dX9_endUnit_72 : decode cX9_endUnit 72 = .ok (.goto (-70), 3) := dk_goto (-70) (b1 := 255) (b2 := 186) (by decide +kernel) (by decide +kernel) (by decide +kernel) (by decide +kernel)
set_option maxRecDepth 20000 in
theorem vX9_endUnit_46 {E : sm_E} {L : sm_S → Prop} {d : Nat} {vs : List Value} {x1 : Int32} {s1 : Int32}  {m : sm_M} {Q : sm_M → Prop} (hly : ∀ S, L S → ly S) (hd : 3 ≤ d) 
  (h : sm_callV E L mX8_add 2 0 0 [.ref (sm_B E + 14), .int s1] m (fun m_1 =>
   ∀ m_2 : sm_M, m_2 = sm_wI m_1 10 6 ((m_1.1 10 6) - 1) →
   ∀ m_3 : sm_M, m_3 = sm_wI m_2 10 7 ((m_2.1 10 7) - 1) →
   ∀ x1_4 : Int32, x1_4 = x1 + 1 →
   gX9_endUnit_2 E L d vs x1_4 m_3 Q)) :
  gX9_endUnit_46 E L d vs x1 s1 m Q := by
  refine sm_iv_V (Y := mX9_endUnit) (pc := 46) (As := [.int s1]) (a := 14) fX8_add wRX9_64 (lk_14 hly) (by decide) rfl rfl rfl (Nat.le_trans (by decide) hd) (Nat.le_of_ble_eq_true rfl) ⟨Nat.le_refl _, Nat.le_refl _⟩ dX9_endUnit_46 rfl (sm_monoV h (fun m_1 h => ?_))
  refine sm_aload_n (Y := mX9_endUnit) (pc := 49) 0 0 rfl rfl dX9_endUnit_49 ?_
  refine sm_dup (Y := mX9_endUnit) (pc := 50) rfl dX9_endUnit_50 ?_
  refine gf_RX9_37 (Y := mX9_endUnit) (pc := 51) rfl ((lk_10 hly) _) dX9_endUnit_51 ?_
  refine sm_iconst (Y := mX9_endUnit) (pc := 54) 1 (by decide) dX9_endUnit_54 ?_
  refine sm_isub (Y := mX9_endUnit) (pc := 55) dX9_endUnit_55 ?_
  refine pf_RX9_37 (Y := mX9_endUnit) (pc := 56) rfl ((lk_10 hly) _) dX9_endUnit_56 (fun m_2 em_2 => ?_)
  replace h := h m_2 em_2
  refine sm_aload_n (Y := mX9_endUnit) (pc := 59) 0 0 rfl rfl dX9_endUnit_59 ?_
  refine sm_dup (Y := mX9_endUnit) (pc := 60) rfl dX9_endUnit_60 ?_
  refine gf_RX9_40 (Y := mX9_endUnit) (pc := 61) rfl ((lk_10 hly) _) dX9_endUnit_61 ?_
  refine sm_iconst (Y := mX9_endUnit) (pc := 64) 1 (by decide) dX9_endUnit_64 ?_
  refine sm_isub (Y := mX9_endUnit) (pc := 65) dX9_endUnit_65 ?_
  refine pf_RX9_40 (Y := mX9_endUnit) (pc := 66) rfl ((lk_10 hly) _) dX9_endUnit_66 (fun m_3 em_3 => ?_)
  replace h := h m_3 em_3
  refine sm_iinc (Y := mX9_endUnit) (pc := 69) (fun y => [(1, .int y), (0, .ref (sm_B E + 10))]) 1 1 rfl (by decide) (fun _ => rfl) dX9_endUnit_69 (fun x1_4 ex1_4 => ?_)
  replace h := h x1_4 ex1_4
  refine sm_goto (Y := mX9_endUnit) (pc := 72) 2 (by decide) dX9_endUnit_72 ?_
  refine sm_sub [1, 0] rfl ?_
  exact h
theorem dX9_endUnit_2 : decode cX9_endUnit 2 = .ok (.iload_n 1, 1) := dk_iload_n_1 (by decide +kernel)
theorem dX9_endUnit_3 : decode cX9_endUnit 3 = .ok (.bipush 6, 2) := dk_bipush 6 (b := 6) (by decide +kernel) (by decide +kernel) (by decide +kernel)
theorem dX9_endUnit_5 : decode cX9_endUnit 5 = .ok (.if_icmp .ge 70, 3) := dk_if_icmp_ge 70 (b1 := 0) (b2 := 70) (by decide +kernel) (by decide +kernel) (by decide +kernel) (by decide +kernel)
theorem dX9_endUnit_8 : decode cX9_endUnit 8 = .ok (.aload_n 0, 1) := dk_aload_n_0 (by decide +kernel)
theorem dX9_endUnit_9 : decode cX9_endUnit 9 = .ok (.bipush 116, 2) := dk_bipush 116 (b := 116) (by decide +kernel) (by decide +kernel) (by decide +kernel)
theorem dX9_endUnit_11 : decode cX9_endUnit 11 = .ok (.invokevirtual 70, 3) := dk_invokevirtual 70 (b1 := 0) (b2 := 70) (by decide +kernel) (by decide +kernel) (by decide +kernel) (by decide +kernel)
theorem dX9_endUnit_14 : decode cX9_endUnit 14 = .ok (.ifCond .ne 12, 3) := dk_ifCond_ne 12 (b1 := 0) (b2 := 12) (by decide +kernel) (by decide +kernel) (by decide +kernel) (by decide +kernel)
theorem dX9_endUnit_26 : decode cX9_endUnit 26 = .ok (.aload_n 0, 1) := dk_aload_n_0 (by decide +kernel)
theorem dX9_endUnit_27 : decode cX9_endUnit 27 = .ok (.getfield 26, 3) := dk_getfield 26 (b1 := 0) (b2 := 26) (by decide +kernel) (by decide +kernel) (by decide +kernel) (by decide +kernel)
theorem dX9_endUnit_30 : decode cX9_endUnit 30 = .ok (.aload_n 0, 1) := dk_aload_n_0 (by decide +kernel)
theorem dX9_endUnit_31 : decode cX9_endUnit 31 = .ok (.bipush 116, 2) := dk_bipush 116 (b := 116) (by decide +kernel) (by decide +kernel) (by decide +kernel)
theorem dX9_endUnit_33 : decode cX9_endUnit 33 = .ok (.invokevirtual 70, 3) := dk_invokevirtual 70 (b1 := 0) (b2 := 70) (by decide +kernel) (by decide +kernel) (by decide +kernel) (by decide +kernel)
theorem dX9_endUnit_36 : decode cX9_endUnit 36 = .ok (.ifCond .eq 8, 3) := dk_ifCond_eq 8 (b1 := 0) (b2 := 8) (by decide +kernel) (by decide +kernel) (by decide +kernel) (by decide +kernel)
theorem dX9_endUnit_44 : decode cX9_endUnit 44 = .ok (.bipush 14, 2) := dk_bipush 14 (b := 14) (by decide +kernel) (by decide +kernel) (by decide +kernel)
theorem dX9_endUnit_39 : decode cX9_endUnit 39 = .ok (.bipush 13, 2) := dk_bipush 13 (b := 13) (by decide +kernel) (by decide +kernel) (by decide +kernel)
theorem dX9_endUnit_41 : decode cX9_endUnit 41 = .ok (.goto 5, 3) := dk_goto 5 (b1 := 0) (b2 := 5) (by decide +kernel) (by decide +kernel) (by decide +kernel) (by decide +kernel)
theorem dX9_endUnit_17 : decode cX9_endUnit 17 = .ok (.aload_n 0, 1) := dk_aload_n_0 (by decide +kernel)
theorem dX9_endUnit_18 : decode cX9_endUnit 18 = .ok (.bipush 109, 2) := dk_bipush 109 (b := 109) (by decide +kernel) (by decide +kernel) (by decide +kernel)
theorem dX9_endUnit_20 : decode cX9_endUnit 20 = .ok (.invokevirtual 70, 3) := dk_invokevirtual 70 (b1 := 0) (b2 := 70) (by decide +kernel) (by decide +kernel) (by decide +kernel) (by decide +kernel)
theorem dX9_endUnit_23 : decode cX9_endUnit 23 = .ok (.ifCond .eq 52, 3) := dk_ifCond_eq 52 (b1 := 0) (b2 := 52) (by decide +kernel) (by decide +kernel) (by decide +kernel) (by decide +kernel)
set_option maxRecDepth 20000 in
theorem vX9_endUnit_2 {E : sm_E} {L : sm_S → Prop} {d : Nat} {vs : List Value} {x1 : Int32}  {m : sm_M} {Q : sm_M → Prop} (hly : ∀ S, L S → ly S) (hd : 3 ≤ d) 
  (h : (6 ≤ x1 →
      gX9_endUnit_75 E L d vs  m Q) ∧
   (¬ 6 ≤ x1 →
      sm_callI E L mX9_isWaiting 1 0 0 [.ref (sm_B E + 10), .int 116] m (fun r_2 m_1 =>
      (¬ r_2 = 0 →
         sm_callI E L mX9_isWaiting 1 0 0 [.ref (sm_B E + 10), .int 116] m_1 (fun r_4 m_3 =>
         (r_4 = 0 →
            gX9_endUnit_46 E L d vs x1 14 m_3 Q) ∧
         (¬ r_4 = 0 →
            gX9_endUnit_46 E L d vs x1 13 m_3 Q))) ∧
      (r_2 = 0 →
         sm_callI E L mX9_isWaiting 1 0 0 [.ref (sm_B E + 10), .int 109] m_1 (fun r_6 m_5 =>
         (r_6 = 0 →
            gX9_endUnit_75 E L d vs  m_5 Q) ∧
         (¬ r_6 = 0 →
            sm_callI E L mX9_isWaiting 1 0 0 [.ref (sm_B E + 10), .int 116] m_5 (fun r_8 m_7 =>
            (r_8 = 0 →
               gX9_endUnit_46 E L d vs x1 14 m_7 Q) ∧
            (¬ r_8 = 0 →
               gX9_endUnit_46 E L d vs x1 13 m_7 Q)))))))) :
  gX9_endUnit_2 E L d vs x1 m Q := by
  refine sm_iload_n (Y := mX9_endUnit) (pc := 2) 1 1 rfl rfl dX9_endUnit_2 ?_
  refine sm_bipush (Y := mX9_endUnit) (pc := 3) 6 (by decide) dX9_endUnit_3 ?_
  refine sm_icmp_ge (Y := mX9_endUnit) (pc := 5) 75 (by decide) dX9_endUnit_5 (fun hc => ?_) (fun hc => ?_)
  · replace h := h.1 hc
    refine sm_sub [0] rfl ?_
    exact h
  · replace h := h.2 hc
    refine sm_aload_n (Y := mX9_endUnit) (pc := 8) 0 0 rfl rfl dX9_endUnit_8 ?_
    refine sm_bipush (Y := mX9_endUnit) (pc := 9) 116 (by decide) dX9_endUnit_9 ?_
    refine sm_iv_I (Y := mX9_endUnit) (pc := 11) (As := [.int 116]) (a := 10) fX9_isWaiting wRX9_70 (lk_10 hly) (by decide) rfl rfl rfl (Nat.le_trans (by decide) hd) (Nat.le_of_ble_eq_true rfl) ⟨Nat.le_refl _, Nat.le_refl _⟩ dX9_endUnit_11 rfl (sm_monoI h (fun r_2 m_1 h => ?_))
    refine sm_if_ne (Y := mX9_endUnit) (pc := 14) 26 (by decide) dX9_endUnit_14 (fun hc => ?_) (fun hc => ?_)
    · replace h := h.1 hc
      refine sm_aload_n (Y := mX9_endUnit) (pc := 26) 0 0 rfl rfl dX9_endUnit_26 ?_
      refine gf_RX9_26 (Y := mX9_endUnit) (pc := 27) (b := 14) rfl ((lk_10 hly) _) (lf_10_3 hly _) dX9_endUnit_27 ?_
      refine sm_aload_n (Y := mX9_endUnit) (pc := 30) 0 0 rfl rfl dX9_endUnit_30 ?_
      refine sm_bipush (Y := mX9_endUnit) (pc := 31) 116 (by decide) dX9_endUnit_31 ?_
      refine sm_iv_I (Y := mX9_endUnit) (pc := 33) (As := [.int 116]) (a := 10) fX9_isWaiting wRX9_70 (lk_10 hly) (by decide) rfl rfl rfl (Nat.le_trans (by decide) hd) (Nat.le_of_ble_eq_true rfl) ⟨Nat.le_refl _, Nat.le_refl _⟩ dX9_endUnit_33 rfl (sm_monoI h (fun r_4 m_3 h => ?_))
      refine sm_if_eq (Y := mX9_endUnit) (pc := 36) 44 (by decide) dX9_endUnit_36 (fun hc => ?_) (fun hc => ?_)
      · replace h := h.1 hc
        refine sm_bipush (Y := mX9_endUnit) (pc := 44) 14 (by decide) dX9_endUnit_44 ?_
        exact h
      · replace h := h.2 hc
        refine sm_bipush (Y := mX9_endUnit) (pc := 39) 13 (by decide) dX9_endUnit_39 ?_
        refine sm_goto (Y := mX9_endUnit) (pc := 41) 46 (by decide) dX9_endUnit_41 ?_
        exact h
    · replace h := h.2 hc
      refine sm_aload_n (Y := mX9_endUnit) (pc := 17) 0 0 rfl rfl dX9_endUnit_17 ?_
      refine sm_bipush (Y := mX9_endUnit) (pc := 18) 109 (by decide) dX9_endUnit_18 ?_
      refine sm_iv_I (Y := mX9_endUnit) (pc := 20) (As := [.int 109]) (a := 10) fX9_isWaiting wRX9_70 (lk_10 hly) (by decide) rfl rfl rfl (Nat.le_trans (by decide) hd) (Nat.le_of_ble_eq_true rfl) ⟨Nat.le_refl _, Nat.le_refl _⟩ dX9_endUnit_20 rfl (sm_monoI h (fun r_6 m_5 h => ?_))
      refine sm_if_eq (Y := mX9_endUnit) (pc := 23) 75 (by decide) dX9_endUnit_23 (fun hc => ?_) (fun hc => ?_)
      · replace h := h.1 hc
        refine sm_sub [0] rfl ?_
        exact h
      · replace h := h.2 hc
        refine sm_aload_n (Y := mX9_endUnit) (pc := 26) 0 0 rfl rfl dX9_endUnit_26 ?_
        refine gf_RX9_26 (Y := mX9_endUnit) (pc := 27) (b := 14) rfl ((lk_10 hly) _) (lf_10_3 hly _) dX9_endUnit_27 ?_
        refine sm_aload_n (Y := mX9_endUnit) (pc := 30) 0 0 rfl rfl dX9_endUnit_30 ?_
        refine sm_bipush (Y := mX9_endUnit) (pc := 31) 116 (by decide) dX9_endUnit_31 ?_
        refine sm_iv_I (Y := mX9_endUnit) (pc := 33) (As := [.int 116]) (a := 10) fX9_isWaiting wRX9_70 (lk_10 hly) (by decide) rfl rfl rfl (Nat.le_trans (by decide) hd) (Nat.le_of_ble_eq_true rfl) ⟨Nat.le_refl _, Nat.le_refl _⟩ dX9_endUnit_33 rfl (sm_monoI h (fun r_8 m_7 h => ?_))
        refine sm_if_eq (Y := mX9_endUnit) (pc := 36) 44 (by decide) dX9_endUnit_36 (fun hc => ?_) (fun hc => ?_)
        · replace h := h.1 hc
          refine sm_bipush (Y := mX9_endUnit) (pc := 44) 14 (by decide) dX9_endUnit_44 ?_
          exact h
        · replace h := h.2 hc
          refine sm_bipush (Y := mX9_endUnit) (pc := 39) 13 (by decide) dX9_endUnit_39 ?_
          refine sm_goto (Y := mX9_endUnit) (pc := 41) 46 (by decide) dX9_endUnit_41 ?_
          exact h
theorem dX9_endUnit_0 : decode cX9_endUnit 0 = .ok (.iconst 0, 1) := dk_iconst_0 (by decide +kernel)
theorem dX9_endUnit_1 : decode cX9_endUnit 1 = .ok (.istore_n 1, 1) := dk_istore_n_1 (by decide +kernel)
set_option maxRecDepth 20000 in
theorem vX9_endUnit_0 {E : sm_E} {L : sm_S → Prop} {d : Nat}   {m : sm_M} {Q : sm_M → Prop}  (hd : 3 ≤ d) 
  (h : gX9_endUnit_2 E L d ([.ref (sm_B E + 10)]) 0 m Q) :
  sm_callV E L mX9_endUnit d 0 0 [.ref (sm_B E + 10)] m Q := by
  refine sm_enter (by decide +kernel) (by simp [lg_sl, Value.category]) ?_
  refine sm_iconst (Y := mX9_endUnit) (pc := 0) 0 (by decide) dX9_endUnit_0 ?_
  refine sm_istore0_n (Y := mX9_endUnit) (pc := 1) [(1, .int 0), (0, .ref (sm_B E + 10))] 1 rfl (by decide) rfl dX9_endUnit_1 ?_
  refine sm_sub [1, 0] rfl ?_
  exact h
theorem dX9_endSum_0 : decode cX9_endSum 0 = .ok (.aload_n 0, 1) := dk_aload_n_0 (by decide +kernel)
theorem dX9_endSum_1 : decode cX9_endSum 1 = .ok (.bipush 43, 2) := dk_bipush 43 (b := 43) (by decide +kernel) (by decide +kernel) (by decide +kernel)
theorem dX9_endSum_3 : decode cX9_endSum 3 = .ok (.invokevirtual 70, 3) := dk_invokevirtual 70 (b1 := 0) (b2 := 70) (by decide +kernel) (by decide +kernel) (by decide +kernel) (by decide +kernel)
theorem dX9_endSum_6 : decode cX9_endSum 6 = .ok (.ifCond .eq 22, 3) := dk_ifCond_eq 22 (b1 := 0) (b2 := 22) (by decide +kernel) (by decide +kernel) (by decide +kernel) (by decide +kernel)
theorem dX9_endSum_28 : decode cX9_endSum 28 = .ok (.return_, 1) := dk_return_ (by decide +kernel)
theorem dX9_endSum_9 : decode cX9_endSum 9 = .ok (.aload_n 0, 1) := dk_aload_n_0 (by decide +kernel)
theorem dX9_endSum_10 : decode cX9_endSum 10 = .ok (.getfield 26, 3) := dk_getfield 26 (b1 := 0) (b2 := 26) (by decide +kernel) (by decide +kernel) (by decide +kernel) (by decide +kernel)
theorem dX9_endSum_13 : decode cX9_endSum 13 = .ok (.bipush 11, 2) := dk_bipush 11 (b := 11) (by decide +kernel) (by decide +kernel) (by decide +kernel)
theorem dX9_endSum_15 : decode cX9_endSum 15 = .ok (.invokevirtual 64, 3) := dk_invokevirtual 64 (b1 := 0) (b2 := 64) (by decide +kernel) (by decide +kernel) (by decide +kernel) (by decide +kernel)
theorem dX9_endSum_18 : decode cX9_endSum 18 = .ok (.aload_n 0, 1) := dk_aload_n_0 (by decide +kernel)
theorem dX9_endSum_19 : decode cX9_endSum 19 = .ok (.dup, 1) := dk_dup (by decide +kernel)
theorem dX9_endSum_20 : decode cX9_endSum 20 = .ok (.getfield 37, 3) := dk_getfield 37 (b1 := 0) (b2 := 37) (by decide +kernel) (by decide +kernel) (by decide +kernel) (by decide +kernel)
theorem dX9_endSum_23 : decode cX9_endSum 23 = .ok (.iconst 1, 1) := dk_iconst_1 (by decide +kernel)
theorem dX9_endSum_24 : decode cX9_endSum 24 = .ok (.isub, 1) := dk_isub (by decide +kernel)
theorem dX9_endSum_25 : decode cX9_endSum 25 = .ok (.putfield 37, 3) := dk_putfield 37 (b1 := 0) (b2 := 37) (by decide +kernel) (by decide +kernel) (by decide +kernel) (by decide +kernel)
set_option maxRecDepth 20000 in
theorem vX9_endSum_0 {E : sm_E} {L : sm_S → Prop} {d : Nat}   {m : sm_M} {Q : sm_M → Prop} (hly : ∀ S, L S → ly S) (hd : 3 ≤ d) 
  (h : sm_callI E L mX9_isWaiting 1 0 0 [.ref (sm_B E + 10), .int 43] m (fun r_2 m_1 =>
   (r_2 = 0 →
      Q m_1) ∧
   (¬ r_2 = 0 →
      sm_callV E L mX8_add 2 0 0 [.ref (sm_B E + 14), .int 11] m_1 (fun m_3 =>
      ∀ m_4 : sm_M, m_4 = sm_wI m_3 10 6 ((m_3.1 10 6) - 1) →
      Q m_4)))) :
  sm_callV E L mX9_endSum d 0 0 [.ref (sm_B E + 10)] m Q := by
  refine sm_enter (by decide +kernel) (by simp [lg_sl, Value.category]) ?_
  refine sm_aload_n (Y := mX9_endSum) (pc := 0) 0 0 rfl rfl dX9_endSum_0 ?_
  refine sm_bipush (Y := mX9_endSum) (pc := 1) 43 (by decide) dX9_endSum_1 ?_
  refine sm_iv_I (Y := mX9_endSum) (pc := 3) (As := [.int 43]) (a := 10) fX9_isWaiting wRX9_70 (lk_10 hly) (by decide) rfl rfl rfl (Nat.le_trans (by decide) hd) (Nat.le_of_ble_eq_true rfl) ⟨Nat.le_refl _, Nat.le_refl _⟩ dX9_endSum_3 rfl (sm_monoI h (fun r_2 m_1 h => ?_))
  refine sm_if_eq (Y := mX9_endSum) (pc := 6) 28 (by decide) dX9_endSum_6 (fun hc => ?_) (fun hc => ?_)
  · replace h := h.1 hc
    exact sm_vret (Y := mX9_endSum) (pc := 28) rfl rfl rfl dX9_endSum_28 ⟨rfl, h⟩
  · replace h := h.2 hc
    refine sm_aload_n (Y := mX9_endSum) (pc := 9) 0 0 rfl rfl dX9_endSum_9 ?_
    refine gf_RX9_26 (Y := mX9_endSum) (pc := 10) (b := 14) rfl ((lk_10 hly) _) (lf_10_3 hly _) dX9_endSum_10 ?_
    refine sm_bipush (Y := mX9_endSum) (pc := 13) 11 (by decide) dX9_endSum_13 ?_
    refine sm_iv_V (Y := mX9_endSum) (pc := 15) (As := [.int 11]) (a := 14) fX8_add wRX9_64 (lk_14 hly) (by decide) rfl rfl rfl (Nat.le_trans (by decide) hd) (Nat.le_of_ble_eq_true rfl) ⟨Nat.le_refl _, Nat.le_refl _⟩ dX9_endSum_15 rfl (sm_monoV h (fun m_3 h => ?_))
    refine sm_aload_n (Y := mX9_endSum) (pc := 18) 0 0 rfl rfl dX9_endSum_18 ?_
    refine sm_dup (Y := mX9_endSum) (pc := 19) rfl dX9_endSum_19 ?_
    refine gf_RX9_37 (Y := mX9_endSum) (pc := 20) rfl ((lk_10 hly) _) dX9_endSum_20 ?_
    refine sm_iconst (Y := mX9_endSum) (pc := 23) 1 (by decide) dX9_endSum_23 ?_
    refine sm_isub (Y := mX9_endSum) (pc := 24) dX9_endSum_24 ?_
    refine pf_RX9_37 (Y := mX9_endSum) (pc := 25) rfl ((lk_10 hly) _) dX9_endSum_25 (fun m_4 em_4 => ?_)
    replace h := h m_4 em_4
    exact sm_vret (Y := mX9_endSum) (pc := 28) rfl rfl rfl dX9_endSum_28 ⟨rfl, h⟩
theorem dX9_closes_0 : decode cX9_closes 0 = .ok (.aload_n 0, 1) := dk_aload_n_0 (by decide +kernel)
theorem dX9_closes_1 : decode cX9_closes 1 = .ok (.invokevirtual 61, 3) := dk_invokevirtual 61 (b1 := 0) (b2 := 61) (by decide +kernel) (by decide +kernel) (by decide +kernel) (by decide +kernel)
theorem dX9_closes_4 : decode cX9_closes 4 = .ok (.aload_n 0, 1) := dk_aload_n_0 (by decide +kernel)
theorem dX9_closes_5 : decode cX9_closes 5 = .ok (.bipush 40, 2) := dk_bipush 40 (b := 40) (by decide +kernel) (by decide +kernel) (by decide +kernel)
theorem dX9_closes_7 : decode cX9_closes 7 = .ok (.invokevirtual 70, 3) := dk_invokevirtual 70 (b1 := 0) (b2 := 70) (by decide +kernel) (by decide +kernel) (by decide +kernel) (by decide +kernel)
theorem dX9_closes_10 : decode cX9_closes 10 = .ok (.ifCond .ne 5, 3) := dk_ifCond_ne 5 (b1 := 0) (b2 := 5) (by decide +kernel) (by decide +kernel) (by decide +kernel) (by decide +kernel)
theorem dX9_closes_15 : decode cX9_closes 15 = .ok (.aload_n 0, 1) := dk_aload_n_0 (by decide +kernel)
theorem dX9_closes_16 : decode cX9_closes 16 = .ok (.dup, 1) := dk_dup (by decide +kernel)
theorem dX9_closes_17 : decode cX9_closes 17 = .ok (.getfield 37, 3) := dk_getfield 37 (b1 := 0) (b2 := 37) (by decide +kernel) (by decide +kernel) (by decide +kernel) (by decide +kernel)
theorem dX9_closes_20 : decode cX9_closes 20 = .ok (.iconst 1, 1) := dk_iconst_1 (by decide +kernel)
theorem dX9_closes_21 : decode cX9_closes 21 = .ok (.isub, 1) := dk_isub (by decide +kernel)
theorem dX9_closes_22 : decode cX9_closes 22 = .ok (.putfield 37, 3) := dk_putfield 37 (b1 := 0) (b2 := 37) (by decide +kernel) (by decide +kernel) (by decide +kernel) (by decide +kernel)
theorem dX9_closes_25 : decode cX9_closes 25 = .ok (.aload_n 0, 1) := dk_aload_n_0 (by decide +kernel)
theorem dX9_closes_26 : decode cX9_closes 26 = .ok (.dup, 1) := dk_dup (by decide +kernel)
theorem dX9_closes_27 : decode cX9_closes 27 = .ok (.getfield 40, 3) := dk_getfield 40 (b1 := 0) (b2 := 40) (by decide +kernel) (by decide +kernel) (by decide +kernel) (by decide +kernel)
theorem dX9_closes_30 : decode cX9_closes 30 = .ok (.iconst 1, 1) := dk_iconst_1 (by decide +kernel)
theorem dX9_closes_31 : decode cX9_closes 31 = .ok (.isub, 1) := dk_isub (by decide +kernel)
theorem dX9_closes_32 : decode cX9_closes 32 = .ok (.putfield 40, 3) := dk_putfield 40 (b1 := 0) (b2 := 40) (by decide +kernel) (by decide +kernel) (by decide +kernel) (by decide +kernel)
theorem dX9_closes_35 : decode cX9_closes 35 = .ok (.aload_n 0, 1) := dk_aload_n_0 (by decide +kernel)
theorem dX9_closes_36 : decode cX9_closes 36 = .ok (.invokevirtual 67, 3) := dk_invokevirtual 67 (b1 := 0) (b2 := 67) (by decide +kernel) (by decide +kernel) (by decide +kernel) (by decide +kernel)
theorem dX9_closes_39 : decode cX9_closes 39 = .ok (.iconst 1, 1) := dk_iconst_1 (by decide +kernel)
theorem dX9_closes_40 : decode cX9_closes 40 = .ok (.ireturn, 1) := dk_ireturn (by decide +kernel)
theorem dX9_closes_13 : decode cX9_closes 13 = .ok (.iconst 0, 1) := dk_iconst_0 (by decide +kernel)
theorem dX9_closes_14 : decode cX9_closes 14 = .ok (.ireturn, 1) := dk_ireturn (by decide +kernel)
set_option maxRecDepth 20000 in
theorem vX9_closes_0 {E : sm_E} {L : sm_S → Prop} {d : Nat}   {m : sm_M} {Q : Int32 → sm_M → Prop} (hly : ∀ S, L S → ly S) (hd : 4 ≤ d) 
  (h : sm_callV E L mX9_endSum 3 0 0 [.ref (sm_B E + 10)] m (fun m_1 =>
   sm_callI E L mX9_isWaiting 1 0 0 [.ref (sm_B E + 10), .int 40] m_1 (fun r_3 m_2 =>
   (¬ r_3 = 0 →
      ∀ m_4 : sm_M, m_4 = sm_wI m_2 10 6 ((m_2.1 10 6) - 1) →
      ∀ m_5 : sm_M, m_5 = sm_wI m_4 10 7 ((m_4.1 10 7) - 1) →
      sm_callV E L mX9_endUnit 3 0 0 [.ref (sm_B E + 10)] m_5 (fun m_6 =>
      Q 1 m_6)) ∧
   (r_3 = 0 →
      Q 0 m_2)))) :
  sm_callI E L mX9_closes d 0 0 [.ref (sm_B E + 10)] m Q := by
  refine sm_enter (by decide +kernel) (by simp [lg_sl, Value.category]) ?_
  refine sm_aload_n (Y := mX9_closes) (pc := 0) 0 0 rfl rfl dX9_closes_0 ?_
  refine sm_iv_V (Y := mX9_closes) (pc := 1) (As := []) (a := 10) fX9_endSum wRX9_61 (lk_10 hly) (by decide) rfl rfl rfl (Nat.le_trans (by decide) hd) (Nat.le_of_ble_eq_true rfl) ⟨Nat.le_refl _, Nat.le_refl _⟩ dX9_closes_1 rfl (sm_monoV h (fun m_1 h => ?_))
  refine sm_aload_n (Y := mX9_closes) (pc := 4) 0 0 rfl rfl dX9_closes_4 ?_
  refine sm_bipush (Y := mX9_closes) (pc := 5) 40 (by decide) dX9_closes_5 ?_
  refine sm_iv_I (Y := mX9_closes) (pc := 7) (As := [.int 40]) (a := 10) fX9_isWaiting wRX9_70 (lk_10 hly) (by decide) rfl rfl rfl (Nat.le_trans (by decide) hd) (Nat.le_of_ble_eq_true rfl) ⟨Nat.le_refl _, Nat.le_refl _⟩ dX9_closes_7 rfl (sm_monoI h (fun r_3 m_2 h => ?_))
  refine sm_if_ne (Y := mX9_closes) (pc := 10) 15 (by decide) dX9_closes_10 (fun hc => ?_) (fun hc => ?_)
  · replace h := h.1 hc
    refine sm_aload_n (Y := mX9_closes) (pc := 15) 0 0 rfl rfl dX9_closes_15 ?_
    refine sm_dup (Y := mX9_closes) (pc := 16) rfl dX9_closes_16 ?_
    refine gf_RX9_37 (Y := mX9_closes) (pc := 17) rfl ((lk_10 hly) _) dX9_closes_17 ?_
    refine sm_iconst (Y := mX9_closes) (pc := 20) 1 (by decide) dX9_closes_20 ?_
    refine sm_isub (Y := mX9_closes) (pc := 21) dX9_closes_21 ?_
    refine pf_RX9_37 (Y := mX9_closes) (pc := 22) rfl ((lk_10 hly) _) dX9_closes_22 (fun m_4 em_4 => ?_)
    replace h := h m_4 em_4
    refine sm_aload_n (Y := mX9_closes) (pc := 25) 0 0 rfl rfl dX9_closes_25 ?_
    refine sm_dup (Y := mX9_closes) (pc := 26) rfl dX9_closes_26 ?_
    refine gf_RX9_40 (Y := mX9_closes) (pc := 27) rfl ((lk_10 hly) _) dX9_closes_27 ?_
    refine sm_iconst (Y := mX9_closes) (pc := 30) 1 (by decide) dX9_closes_30 ?_
    refine sm_isub (Y := mX9_closes) (pc := 31) dX9_closes_31 ?_
    refine pf_RX9_40 (Y := mX9_closes) (pc := 32) rfl ((lk_10 hly) _) dX9_closes_32 (fun m_5 em_5 => ?_)
    replace h := h m_5 em_5
    refine sm_aload_n (Y := mX9_closes) (pc := 35) 0 0 rfl rfl dX9_closes_35 ?_
    refine sm_iv_V (Y := mX9_closes) (pc := 36) (As := []) (a := 10) fX9_endUnit wRX9_67 (lk_10 hly) (by decide) rfl rfl rfl (Nat.le_trans (by decide) hd) (Nat.le_of_ble_eq_true rfl) ⟨Nat.le_refl _, Nat.le_refl _⟩ dX9_closes_36 rfl (sm_monoV h (fun m_6 h => ?_))
    refine sm_iconst (Y := mX9_closes) (pc := 39) 1 (by decide) dX9_closes_39 ?_
    exact sm_zret (Y := mX9_closes) (pc := 40) rfl (by decide) rfl rfl dX9_closes_40 ⟨_, rfl, h⟩
  · replace h := h.2 hc
    refine sm_iconst (Y := mX9_closes) (pc := 13) 0 (by decide) dX9_closes_13 ?_
    exact sm_zret (Y := mX9_closes) (pc := 14) rfl (by decide) rfl rfl dX9_closes_14 ⟨_, rfl, h⟩
abbrev mX9_readMoves : sm_Y := (yX9_readMoves, cX9_readMoves, 4, (some FieldType.int))
theorem fX9_readMoves : sm_mi mX9_readMoves RX9 0 := ⟨sm_in 580 (by decide +kernel) (by decide +kernel), sm_in 578 (by decide +kernel) (by decide +kernel), sm_in 579 (by decide +kernel) (by decide +kernel), sm_in 86 (by decide +kernel) (by decide +kernel), rfl, ⟨by decide +kernel, by decide +kernel, by decide +kernel⟩, by decide⟩
def gX9_readMoves_39 (E : sm_E) (L : sm_S → Prop) (d : Nat) (vs : List Value) (x1 : Int32) (x2 : Int32) (m : sm_M) (Q : Int32 → sm_M → Prop) : Prop := sm_go E L mX9_readMoves d 0 0 vs 39 [(0, .ref (sm_B E + 10)), (1, .int x1), (2, .int x2)] [] m 0 0 (sm_Z E L vs 0 0 (sm_QI Q))
def gX9_readMoves_9 (E : sm_E) (L : sm_S → Prop) (d : Nat) (vs : List Value) (x1 : Int32) (x2 : Int32) (m : sm_M) (Q : Int32 → sm_M → Prop) : Prop := sm_go E L mX9_readMoves d 0 0 vs 9 [(0, .ref (sm_B E + 10)), (1, .int x1), (2, .int x2)] [] m 0 0 (sm_Z E L vs 0 0 (sm_QI Q))
theorem dX9_readMoves_39 : decode cX9_readMoves 39 = .ok (.iload_n 2, 1) := dk_iload_n_2 (by decide +kernel)
theorem dX9_readMoves_40 : decode cX9_readMoves 40 = .ok (.iload_n 1, 1) := dk_iload_n_1 (by decide +kernel)
theorem dX9_readMoves_41 : decode cX9_readMoves 41 = .ok (.if_icmp .le 36, 3) := dk_if_icmp_le 36 (b1 := 0) (b2 := 36) (by decide +kernel) (by decide +kernel) (by decide +kernel) (by decide +kernel)
theorem dX9_readMoves_77 : decode cX9_readMoves 77 = .ok (.iload_n 2, 1) := dk_iload_n_2 (by decide +kernel)
theorem dX9_readMoves_78 : decode cX9_readMoves 78 = .ok (.iconst 1, 1) := dk_iconst_1 (by decide +kernel)
theorem dX9_readMoves_79 : decode cX9_readMoves 79 = .ok (.iadd, 1) := dk_iadd (by decide +kernel)
theorem dX9_readMoves_80 : decode cX9_readMoves 80 = .ok (.istore_n 1, 1) := dk_istore_n_1 (by decide +kernel)
theorem dX9_readMoves_81 : decode cX9_readMoves 81 = .ok (.iinc 2 1, 3) := dk_iinc 2 1 (b1 := 2) (b2 := 1) (by decide +kernel) (by decide +kernel) (by decide +kernel) (by decide +kernel) (by decide +kernel)
theorem dX9_readMoves_84 : decode cX9_readMoves 84 = .ok (.goto (-75), 3) := dk_goto (-75) (b1 := 255) (b2 := 181) (by decide +kernel) (by decide +kernel) (by decide +kernel) (by decide +kernel)
theorem dX9_readMoves_44 : decode cX9_readMoves 44 = .ok (.aload_n 0, 1) := dk_aload_n_0 (by decide +kernel)
theorem dX9_readMoves_45 : decode cX9_readMoves 45 = .ok (.iload_n 1, 1) := dk_iload_n_1 (by decide +kernel)
theorem dX9_readMoves_46 : decode cX9_readMoves 46 = .ok (.iload_n 2, 1) := dk_iload_n_2 (by decide +kernel)
theorem wRX9_73 : Cond.methodLink RX9 73 yX9_moveAt ∈ sm_T := sm_in 581 (by decide +kernel) (by decide +kernel)
abbrev mX9_moveAt : sm_Y := (yX9_moveAt, cX9_moveAt, 4, (some FieldType.int))
theorem fX9_moveAt : sm_mi mX9_moveAt RX9 2 := ⟨sm_in 584 (by decide +kernel) (by decide +kernel), sm_in 583 (by decide +kernel) (by decide +kernel), sm_in 11 (by decide +kernel) (by decide +kernel), sm_in 86 (by decide +kernel) (by decide +kernel), rfl, ⟨by decide +kernel, by decide +kernel, by decide +kernel⟩, by decide⟩
theorem dX9_readMoves_47 : decode cX9_readMoves 47 = .ok (.invokevirtual 73, 3) := dk_invokevirtual 73 (b1 := 0) (b2 := 73) (by decide +kernel) (by decide +kernel) (by decide +kernel) (by decide +kernel)
theorem dX9_readMoves_50 : decode cX9_readMoves 50 = .ok (.istore_n 3, 1) := dk_istore_n_3 (by decide +kernel)
theorem dX9_readMoves_51 : decode cX9_readMoves 51 = .ok (.iload_n 3, 1) := dk_iload_n_3 (by decide +kernel)
theorem dX9_readMoves_52 : decode cX9_readMoves 52 = .ok (.ifCond .ge 5, 3) := dk_ifCond_ge 5 (b1 := 0) (b2 := 5) (by decide +kernel) (by decide +kernel) (by decide +kernel) (by decide +kernel)
theorem dX9_readMoves_57 : decode cX9_readMoves 57 = .ok (.aload_n 0, 1) := dk_aload_n_0 (by decide +kernel)
theorem dX9_readMoves_58 : decode cX9_readMoves 58 = .ok (.getfield 18, 3) := dk_getfield 18 (b1 := 0) (b2 := 18) (by decide +kernel) (by decide +kernel) (by decide +kernel) (by decide +kernel)
theorem dX9_readMoves_61 : decode cX9_readMoves 61 = .ok (.aload_n 0, 1) := dk_aload_n_0 (by decide +kernel)
theorem dX9_readMoves_62 : decode cX9_readMoves 62 = .ok (.getfield 34, 3) := dk_getfield 34 (b1 := 0) (b2 := 34) (by decide +kernel) (by decide +kernel) (by decide +kernel) (by decide +kernel)
theorem dX9_readMoves_65 : decode cX9_readMoves 65 = .ok (.iload_n 3, 1) := dk_iload_n_3 (by decide +kernel)
theorem dX9_readMoves_66 : decode cX9_readMoves 66 = .ok (.iastore, 1) := dk_iastore (by decide +kernel)
theorem dX9_readMoves_67 : decode cX9_readMoves 67 = .ok (.aload_n 0, 1) := dk_aload_n_0 (by decide +kernel)
theorem dX9_readMoves_68 : decode cX9_readMoves 68 = .ok (.dup, 1) := dk_dup (by decide +kernel)
theorem dX9_readMoves_69 : decode cX9_readMoves 69 = .ok (.getfield 34, 3) := dk_getfield 34 (b1 := 0) (b2 := 34) (by decide +kernel) (by decide +kernel) (by decide +kernel) (by decide +kernel)
theorem dX9_readMoves_72 : decode cX9_readMoves 72 = .ok (.iconst 1, 1) := dk_iconst_1 (by decide +kernel)
theorem dX9_readMoves_73 : decode cX9_readMoves 73 = .ok (.iadd, 1) := dk_iadd (by decide +kernel)
theorem dX9_readMoves_74 : decode cX9_readMoves 74 = .ok (.putfield 34, 3) := dk_putfield 34 (b1 := 0) (b2 := 34) (by decide +kernel) (by decide +kernel) (by decide +kernel) (by decide +kernel)
theorem dX9_readMoves_55 : decode cX9_readMoves 55 = .ok (.iload_n 1, 1) := dk_iload_n_1 (by decide +kernel)
theorem dX9_readMoves_56 : decode cX9_readMoves 56 = .ok (.ireturn, 1) := dk_ireturn (by decide +kernel)
set_option maxRecDepth 20000 in
theorem vX9_readMoves_39 {E : sm_E} {L : sm_S → Prop} {d : Nat} {vs : List Value} {x1 : Int32} {x2 : Int32}  {m : sm_M} {Q : Int32 → sm_M → Prop} (hly : ∀ S, L S → ly S) (hd : 8 ≤ d) 
  (h : (x2 ≤ x1 →
      ∀ x1_1 : Int32, x1_1 = x2 + 1 →
      ∀ x2_2 : Int32, x2_2 = x2 + 1 →
      gX9_readMoves_9 E L d vs x1_1 x2_2 m Q) ∧
   (¬ x2 ≤ x1 →
      sm_callI E L mX9_moveAt 7 0 0 [.ref (sm_B E + 10), .int x1, .int x2] m (fun r_4 m_3 =>
      (0 ≤ r_4 →
         (vp_in (m_3.1 10 5) 100) ∧ ∀ m_6 : sm_M, m_6 = sm_wI m_3 13 (m_3.1 10 5).toNatClampNeg r_4 →
         ∀ m_8 : sm_M, m_8 = sm_wI m_6 10 5 ((m_6.1 10 5) + 1) →
         ∀ x1_9 : Int32, x1_9 = x2 + 1 →
         ∀ x2_10 : Int32, x2_10 = x2 + 1 →
         gX9_readMoves_9 E L d vs x1_9 x2_10 m_8 Q) ∧
      (¬ 0 ≤ r_4 →
         Q x1 m_3)))) :
  gX9_readMoves_39 E L d vs x1 x2 m Q := by
  refine sm_iload_n (Y := mX9_readMoves) (pc := 39) 2 2 rfl rfl dX9_readMoves_39 ?_
  refine sm_iload_n (Y := mX9_readMoves) (pc := 40) 1 1 rfl rfl dX9_readMoves_40 ?_
  refine sm_icmp_le (Y := mX9_readMoves) (pc := 41) 77 (by decide) dX9_readMoves_41 (fun hc => ?_) (fun hc => ?_)
  · replace h := h.1 hc
    refine sm_iload_n (Y := mX9_readMoves) (pc := 77) 2 2 rfl rfl dX9_readMoves_77 ?_
    refine sm_iconst (Y := mX9_readMoves) (pc := 78) 1 (by decide) dX9_readMoves_78 ?_
    refine sm_iadd (Y := mX9_readMoves) (pc := 79) dX9_readMoves_79 ?_
    refine sm_istore_n (Y := mX9_readMoves) (pc := 80) (fun y => [(1, .int y), (0, .ref (sm_B E + 10)), (2, .int x2)]) 1 rfl (by decide) (fun _ => rfl) dX9_readMoves_80 (fun x1_1 ex1_1 => ?_)
    replace h := h x1_1 ex1_1
    refine sm_iinc (Y := mX9_readMoves) (pc := 81) (fun y => [(2, .int y), (1, .int x1_1), (0, .ref (sm_B E + 10))]) 2 2 rfl (by decide) (fun _ => rfl) dX9_readMoves_81 (fun x2_2 ex2_2 => ?_)
    replace h := h x2_2 ex2_2
    refine sm_goto (Y := mX9_readMoves) (pc := 84) 9 (by decide) dX9_readMoves_84 ?_
    refine sm_sub [2, 1, 0] rfl ?_
    exact h
  · replace h := h.2 hc
    refine sm_aload_n (Y := mX9_readMoves) (pc := 44) 0 0 rfl rfl dX9_readMoves_44 ?_
    refine sm_iload_n (Y := mX9_readMoves) (pc := 45) 1 1 rfl rfl dX9_readMoves_45 ?_
    refine sm_iload_n (Y := mX9_readMoves) (pc := 46) 2 2 rfl rfl dX9_readMoves_46 ?_
    refine sm_iv_I (Y := mX9_readMoves) (pc := 47) (As := [.int x1, .int x2]) (a := 10) fX9_moveAt wRX9_73 (lk_10 hly) (by decide) rfl rfl rfl (Nat.le_trans (by decide) hd) (Nat.le_of_ble_eq_true rfl) ⟨Nat.le_refl _, Nat.le_refl _⟩ dX9_readMoves_47 rfl (sm_monoI h (fun r_4 m_3 h => ?_))
    refine sm_istore0_n (Y := mX9_readMoves) (pc := 50) [(3, .int r_4), (0, .ref (sm_B E + 10)), (1, .int x1), (2, .int x2)] 3 rfl (by decide) rfl dX9_readMoves_50 ?_
    refine sm_iload_n (Y := mX9_readMoves) (pc := 51) 0 3 rfl rfl dX9_readMoves_51 ?_
    refine sm_if_ge (Y := mX9_readMoves) (pc := 52) 57 (by decide) dX9_readMoves_52 (fun hc => ?_) (fun hc => ?_)
    · replace h := h.1 hc
      refine sm_aload_n (Y := mX9_readMoves) (pc := 57) 1 0 rfl rfl dX9_readMoves_57 ?_
      refine gf_RX9_18 (Y := mX9_readMoves) (pc := 58) (b := 13) rfl ((lk_10 hly) _) (lf_10_2 hly _) dX9_readMoves_58 ?_
      refine sm_aload_n (Y := mX9_readMoves) (pc := 61) 1 0 rfl rfl dX9_readMoves_61 ?_
      refine gf_RX9_34 (Y := mX9_readMoves) (pc := 62) rfl ((lk_10 hly) _) dX9_readMoves_62 ?_
      refine sm_iload_n (Y := mX9_readMoves) (pc := 65) 0 3 rfl rfl dX9_readMoves_65 ?_
      obtain ⟨hn_7, h⟩ := h
      refine sm_iast (Y := mX9_readMoves) (pc := 66) (la_13 hly _) hn_7 dX9_readMoves_66 (fun m_6 em_6 => ?_)
      replace h := h m_6 em_6
      refine sm_aload_n (Y := mX9_readMoves) (pc := 67) 1 0 rfl rfl dX9_readMoves_67 ?_
      refine sm_dup (Y := mX9_readMoves) (pc := 68) rfl dX9_readMoves_68 ?_
      refine gf_RX9_34 (Y := mX9_readMoves) (pc := 69) rfl ((lk_10 hly) _) dX9_readMoves_69 ?_
      refine sm_iconst (Y := mX9_readMoves) (pc := 72) 1 (by decide) dX9_readMoves_72 ?_
      refine sm_iadd (Y := mX9_readMoves) (pc := 73) dX9_readMoves_73 ?_
      refine pf_RX9_34 (Y := mX9_readMoves) (pc := 74) rfl ((lk_10 hly) _) dX9_readMoves_74 (fun m_8 em_8 => ?_)
      replace h := h m_8 em_8
      refine sm_iload_n (Y := mX9_readMoves) (pc := 77) 3 2 rfl rfl dX9_readMoves_77 ?_
      refine sm_iconst (Y := mX9_readMoves) (pc := 78) 1 (by decide) dX9_readMoves_78 ?_
      refine sm_iadd (Y := mX9_readMoves) (pc := 79) dX9_readMoves_79 ?_
      refine sm_istore_n (Y := mX9_readMoves) (pc := 80) (fun y => [(1, .int y), (3, .int r_4), (0, .ref (sm_B E + 10)), (2, .int x2)]) 1 rfl (by decide) (fun _ => rfl) dX9_readMoves_80 (fun x1_9 ex1_9 => ?_)
      replace h := h x1_9 ex1_9
      refine sm_iinc (Y := mX9_readMoves) (pc := 81) (fun y => [(2, .int y), (1, .int x1_9), (3, .int r_4), (0, .ref (sm_B E + 10))]) 3 2 rfl (by decide) (fun _ => rfl) dX9_readMoves_81 (fun x2_10 ex2_10 => ?_)
      replace h := h x2_10 ex2_10
      refine sm_goto (Y := mX9_readMoves) (pc := 84) 9 (by decide) dX9_readMoves_84 ?_
      refine sm_sub [3, 1, 0] rfl ?_
      exact h
    · replace h := h.2 hc
      refine sm_iload_n (Y := mX9_readMoves) (pc := 55) 2 1 rfl rfl dX9_readMoves_55 ?_
      exact sm_iret (Y := mX9_readMoves) (pc := 56) rfl rfl rfl dX9_readMoves_56 ⟨_, rfl, h⟩
theorem dX9_readMoves_9 : decode cX9_readMoves 9 = .ok (.iload_n 2, 1) := dk_iload_n_2 (by decide +kernel)
theorem dX9_readMoves_10 : decode cX9_readMoves 10 = .ok (.aload_n 0, 1) := dk_aload_n_0 (by decide +kernel)
theorem dX9_readMoves_11 : decode cX9_readMoves 11 = .ok (.getfield 30, 3) := dk_getfield 30 (b1 := 0) (b2 := 30) (by decide +kernel) (by decide +kernel) (by decide +kernel) (by decide +kernel)
theorem dX9_readMoves_14 : decode cX9_readMoves 14 = .ok (.if_icmp .gt 73, 3) := dk_if_icmp_gt 73 (b1 := 0) (b2 := 73) (by decide +kernel) (by decide +kernel) (by decide +kernel) (by decide +kernel)
theorem dX9_readMoves_87 : decode cX9_readMoves 87 = .ok (.iconst (-1), 1) := dk_iconst_m1 (by decide +kernel)
theorem dX9_readMoves_88 : decode cX9_readMoves 88 = .ok (.ireturn, 1) := dk_ireturn (by decide +kernel)
theorem dX9_readMoves_17 : decode cX9_readMoves 17 = .ok (.iload_n 2, 1) := dk_iload_n_2 (by decide +kernel)
theorem dX9_readMoves_18 : decode cX9_readMoves 18 = .ok (.aload_n 0, 1) := dk_aload_n_0 (by decide +kernel)
theorem dX9_readMoves_19 : decode cX9_readMoves 19 = .ok (.getfield 30, 3) := dk_getfield 30 (b1 := 0) (b2 := 30) (by decide +kernel) (by decide +kernel) (by decide +kernel) (by decide +kernel)
theorem dX9_readMoves_22 : decode cX9_readMoves 22 = .ok (.if_icmp .ge 17, 3) := dk_if_icmp_ge 17 (b1 := 0) (b2 := 17) (by decide +kernel) (by decide +kernel) (by decide +kernel) (by decide +kernel)
theorem dX9_readMoves_25 : decode cX9_readMoves 25 = .ok (.aload_n 0, 1) := dk_aload_n_0 (by decide +kernel)
theorem dX9_readMoves_26 : decode cX9_readMoves 26 = .ok (.getfield 9, 3) := dk_getfield 9 (b1 := 0) (b2 := 9) (by decide +kernel) (by decide +kernel) (by decide +kernel) (by decide +kernel)
theorem dX9_readMoves_29 : decode cX9_readMoves 29 = .ok (.iload_n 2, 1) := dk_iload_n_2 (by decide +kernel)
theorem dX9_readMoves_30 : decode cX9_readMoves 30 = .ok (.iaload, 1) := dk_iaload (by decide +kernel)
theorem dX9_readMoves_31 : decode cX9_readMoves 31 = .ok (.bipush 32, 2) := dk_bipush 32 (b := 32) (by decide +kernel) (by decide +kernel) (by decide +kernel)
theorem dX9_readMoves_33 : decode cX9_readMoves 33 = .ok (.if_icmp .eq 6, 3) := dk_if_icmp_eq 6 (b1 := 0) (b2 := 6) (by decide +kernel) (by decide +kernel) (by decide +kernel) (by decide +kernel)
theorem dX9_readMoves_36 : decode cX9_readMoves 36 = .ok (.goto 45, 3) := dk_goto 45 (b1 := 0) (b2 := 45) (by decide +kernel) (by decide +kernel) (by decide +kernel) (by decide +kernel)
set_option maxRecDepth 20000 in
theorem vX9_readMoves_9 {E : sm_E} {L : sm_S → Prop} {d : Nat} {vs : List Value} {x1 : Int32} {x2 : Int32}  {m : sm_M} {Q : Int32 → sm_M → Prop} (hly : ∀ S, L S → ly S) (hd : 8 ≤ d) 
  (h : ((m.1 10 4) < x2 →
      Q (-1) m) ∧
   (¬ (m.1 10 4) < x2 →
      ((m.1 10 4) ≤ x2 →
         gX9_readMoves_39 E L d vs x1 x2 m Q) ∧
      (¬ (m.1 10 4) ≤ x2 →
         (vp_in x2 100) ∧ ((m.1 11 x2.toNatClampNeg) = 32 →
            gX9_readMoves_39 E L d vs x1 x2 m Q) ∧
         (¬ (m.1 11 x2.toNatClampNeg) = 32 →
            ∀ x2_2 : Int32, x2_2 = x2 + 1 →
            gX9_readMoves_9 E L d vs x1 x2_2 m Q)))) :
  gX9_readMoves_9 E L d vs x1 x2 m Q := by
  refine sm_iload_n (Y := mX9_readMoves) (pc := 9) 2 2 rfl rfl dX9_readMoves_9 ?_
  refine sm_aload_n (Y := mX9_readMoves) (pc := 10) 0 0 rfl rfl dX9_readMoves_10 ?_
  refine gf_RX9_30 (Y := mX9_readMoves) (pc := 11) rfl ((lk_10 hly) _) dX9_readMoves_11 ?_
  refine sm_icmp_gt (Y := mX9_readMoves) (pc := 14) 87 (by decide) dX9_readMoves_14 (fun hc => ?_) (fun hc => ?_)
  · replace h := h.1 hc
    refine sm_iconst (Y := mX9_readMoves) (pc := 87) (-1) (by decide) dX9_readMoves_87 ?_
    exact sm_iret (Y := mX9_readMoves) (pc := 88) rfl rfl rfl dX9_readMoves_88 ⟨_, rfl, h⟩
  · replace h := h.2 hc
    refine sm_iload_n (Y := mX9_readMoves) (pc := 17) 2 2 rfl rfl dX9_readMoves_17 ?_
    refine sm_aload_n (Y := mX9_readMoves) (pc := 18) 0 0 rfl rfl dX9_readMoves_18 ?_
    refine gf_RX9_30 (Y := mX9_readMoves) (pc := 19) rfl ((lk_10 hly) _) dX9_readMoves_19 ?_
    refine sm_icmp_ge (Y := mX9_readMoves) (pc := 22) 39 (by decide) dX9_readMoves_22 (fun hc => ?_) (fun hc => ?_)
    · replace h := h.1 hc
      exact h
    · replace h := h.2 hc
      refine sm_aload_n (Y := mX9_readMoves) (pc := 25) 0 0 rfl rfl dX9_readMoves_25 ?_
      refine gf_RX9_9 (Y := mX9_readMoves) (pc := 26) (b := 11) rfl ((lk_10 hly) _) (lf_10_0 hly _) dX9_readMoves_26 ?_
      refine sm_iload_n (Y := mX9_readMoves) (pc := 29) 2 2 rfl rfl dX9_readMoves_29 ?_
      obtain ⟨hn_1, h⟩ := h
      refine sm_iald (Y := mX9_readMoves) (pc := 30) (la_11 hly _) hn_1 dX9_readMoves_30 ?_
      refine sm_bipush (Y := mX9_readMoves) (pc := 31) 32 (by decide) dX9_readMoves_31 ?_
      refine sm_icmp_eq (Y := mX9_readMoves) (pc := 33) 39 (by decide) dX9_readMoves_33 (fun hc => ?_) (fun hc => ?_)
      · replace h := h.1 hc
        exact h
      · replace h := h.2 hc
        refine sm_goto (Y := mX9_readMoves) (pc := 36) 81 (by decide) dX9_readMoves_36 ?_
        refine sm_iinc (Y := mX9_readMoves) (pc := 81) (fun y => [(2, .int y), (0, .ref (sm_B E + 10)), (1, .int x1)]) 2 2 rfl (by decide) (fun _ => rfl) dX9_readMoves_81 (fun x2_2 ex2_2 => ?_)
        replace h := h x2_2 ex2_2
        refine sm_goto (Y := mX9_readMoves) (pc := 84) 9 (by decide) dX9_readMoves_84 ?_
        refine sm_sub [1, 2, 0] rfl ?_
        exact h
theorem dX9_readMoves_0 : decode cX9_readMoves 0 = .ok (.aload_n 0, 1) := dk_aload_n_0 (by decide +kernel)
theorem dX9_readMoves_1 : decode cX9_readMoves 1 = .ok (.iconst 0, 1) := dk_iconst_0 (by decide +kernel)
theorem dX9_readMoves_2 : decode cX9_readMoves 2 = .ok (.putfield 34, 3) := dk_putfield 34 (b1 := 0) (b2 := 34) (by decide +kernel) (by decide +kernel) (by decide +kernel) (by decide +kernel)
theorem dX9_readMoves_5 : decode cX9_readMoves 5 = .ok (.iconst 0, 1) := dk_iconst_0 (by decide +kernel)
theorem dX9_readMoves_6 : decode cX9_readMoves 6 = .ok (.istore_n 1, 1) := dk_istore_n_1 (by decide +kernel)
theorem dX9_readMoves_7 : decode cX9_readMoves 7 = .ok (.iconst 0, 1) := dk_iconst_0 (by decide +kernel)
theorem dX9_readMoves_8 : decode cX9_readMoves 8 = .ok (.istore_n 2, 1) := dk_istore_n_2 (by decide +kernel)
set_option maxRecDepth 20000 in
theorem vX9_readMoves_0 {E : sm_E} {L : sm_S → Prop} {d : Nat}   {m : sm_M} {Q : Int32 → sm_M → Prop} (hly : ∀ S, L S → ly S) (hd : 8 ≤ d) 
  (h : ∀ m_1 : sm_M, m_1 = sm_wI m 10 5 0 →
   gX9_readMoves_9 E L d ([.ref (sm_B E + 10)]) 0 0 m_1 Q) :
  sm_callI E L mX9_readMoves d 0 0 [.ref (sm_B E + 10)] m Q := by
  refine sm_enter (by decide +kernel) (by simp [lg_sl, Value.category]) ?_
  refine sm_aload_n (Y := mX9_readMoves) (pc := 0) 0 0 rfl rfl dX9_readMoves_0 ?_
  refine sm_iconst (Y := mX9_readMoves) (pc := 1) 0 (by decide) dX9_readMoves_1 ?_
  refine pf_RX9_34 (Y := mX9_readMoves) (pc := 2) rfl ((lk_10 hly) _) dX9_readMoves_2 (fun m_1 em_1 => ?_)
  replace h := h m_1 em_1
  refine sm_iconst (Y := mX9_readMoves) (pc := 5) 0 (by decide) dX9_readMoves_5 ?_
  refine sm_istore0_n (Y := mX9_readMoves) (pc := 6) [(1, .int 0), (0, .ref (sm_B E + 10))] 1 rfl (by decide) rfl dX9_readMoves_6 ?_
  refine sm_iconst (Y := mX9_readMoves) (pc := 7) 0 (by decide) dX9_readMoves_7 ?_
  refine sm_istore0_n (Y := mX9_readMoves) (pc := 8) [(2, .int 0), (1, .int 0), (0, .ref (sm_B E + 10))] 2 rfl (by decide) rfl dX9_readMoves_8 ?_
  refine sm_sub [2, 1, 0] rfl ?_
  exact h
def gX9_moveAt_2 (E : sm_E) (L : sm_S → Prop) (d : Nat) (vs : List Value) (x1 : Int32) (x2 : Int32) (x3 : Int32) (m : sm_M) (Q : Int32 → sm_M → Prop) : Prop := sm_go E L mX9_moveAt d 0 0 vs 2 [(0, .ref (sm_B E + 10)), (1, .int x1), (2, .int x2), (3, .int x3)] [] m 0 0 (sm_Z E L vs 0 0 (sm_QI Q))
theorem dX9_moveAt_2 : decode cX9_moveAt 2 = .ok (.iload_n 3, 1) := dk_iload_n_3 (by decide +kernel)
theorem dX9_moveAt_3 : decode cX9_moveAt 3 = .ok (.bipush 6, 2) := dk_bipush 6 (b := 6) (by decide +kernel) (by decide +kernel) (by decide +kernel)
theorem dX9_moveAt_5 : decode cX9_moveAt 5 = .ok (.if_icmp .ge 24, 3) := dk_if_icmp_ge 24 (b1 := 0) (b2 := 24) (by decide +kernel) (by decide +kernel) (by decide +kernel) (by decide +kernel)
theorem dX9_moveAt_29 : decode cX9_moveAt 29 = .ok (.iconst (-1), 1) := dk_iconst_m1 (by decide +kernel)
theorem dX9_moveAt_30 : decode cX9_moveAt 30 = .ok (.ireturn, 1) := dk_ireturn (by decide +kernel)
theorem dX9_moveAt_8 : decode cX9_moveAt 8 = .ok (.aload_n 0, 1) := dk_aload_n_0 (by decide +kernel)
theorem dX9_moveAt_9 : decode cX9_moveAt 9 = .ok (.iload_n 1, 1) := dk_iload_n_1 (by decide +kernel)
theorem dX9_moveAt_10 : decode cX9_moveAt 10 = .ok (.iload_n 2, 1) := dk_iload_n_2 (by decide +kernel)
theorem dX9_moveAt_11 : decode cX9_moveAt 11 = .ok (.iload_n 3, 1) := dk_iload_n_3 (by decide +kernel)
theorem wRX9_77 : Cond.methodLink RX9 77 yX9_wordOf ∈ sm_T := sm_in 585 (by decide +kernel) (by decide +kernel)
abbrev mX9_wordOf : sm_Y := (yX9_wordOf, cX9_wordOf, 1, (some (FieldType.object "java/lang/String")))
theorem fX9_wordOf : sm_mt mX9_wordOf 1 := ⟨sm_in 587 (by decide +kernel) (by decide +kernel), sm_in 586 (by decide +kernel) (by decide +kernel), sm_in 86 (by decide +kernel) (by decide +kernel), ⟨by decide +kernel, by decide +kernel, by decide +kernel⟩, by decide⟩
theorem dX9_moveAt_12 : decode cX9_moveAt 12 = .ok (.invokestatic 77, 3) := dk_invokestatic 77 (b1 := 0) (b2 := 77) (by decide +kernel) (by decide +kernel) (by decide +kernel) (by decide +kernel)
theorem wRX9_81 : Cond.methodLink RX9 81 yX9_says ∈ sm_T := sm_in 594 (by decide +kernel) (by decide +kernel)
abbrev mX9_says : sm_Y := (yX9_says, cX9_says, 5, (some FieldType.boolean))
theorem fX9_says : sm_mi mX9_says RX9 3 := ⟨sm_in 597 (by decide +kernel) (by decide +kernel), sm_in 596 (by decide +kernel) (by decide +kernel), sm_in 12 (by decide +kernel) (by decide +kernel), sm_in 86 (by decide +kernel) (by decide +kernel), rfl, ⟨by decide +kernel, by decide +kernel, by decide +kernel⟩, by decide⟩
theorem dX9_moveAt_15 : decode cX9_moveAt 15 = .ok (.invokevirtual 81, 3) := dk_invokevirtual 81 (b1 := 0) (b2 := 81) (by decide +kernel) (by decide +kernel) (by decide +kernel) (by decide +kernel)
theorem dX9_moveAt_18 : decode cX9_moveAt 18 = .ok (.ifCond .eq 5, 3) := dk_ifCond_eq 5 (b1 := 0) (b2 := 5) (by decide +kernel) (by decide +kernel) (by decide +kernel) (by decide +kernel)
theorem dX9_moveAt_23 : decode cX9_moveAt 23 = .ok (.iinc 3 1, 3) := dk_iinc 3 1 (b1 := 3) (b2 := 1) (by decide +kernel) (by decide +kernel) (by decide +kernel) (by decide +kernel) (by decide +kernel)
theorem dX9_moveAt_26 : decode cX9_moveAt 26 = .ok (.goto (-24), 3) := dk_goto (-24) (b1 := 255) (b2 := 232) (by decide +kernel) (by decide +kernel) (by decide +kernel) (by decide +kernel)
theorem dX9_moveAt_21 : decode cX9_moveAt 21 = .ok (.iload_n 3, 1) := dk_iload_n_3 (by decide +kernel)
theorem dX9_moveAt_22 : decode cX9_moveAt 22 = .ok (.ireturn, 1) := dk_ireturn (by decide +kernel)
set_option maxRecDepth 20000 in
theorem vX9_moveAt_2 {E : sm_E} {L : sm_S → Prop} {d : Nat} {vs : List Value} {x1 : Int32} {x2 : Int32} {x3 : Int32}  {m : sm_M} {Q : Int32 → sm_M → Prop} (hly : ∀ S, L S → ly S) (hd : 7 ≤ d) 
  (h : (6 ≤ x3 →
      Q (-1) m) ∧
   (¬ 6 ≤ x3 →
      sm_callS E L mX9_wordOf 1 0 0 [.int x3] m (fun r_2 m_1 =>
      sm_callI E L mX9_says 6 0 0 [.ref (sm_B E + 10), .int x1, .int x2, .ref (E.2.2.2.2.2.1 r_2)] m_1 (fun r_4 m_3 =>
      (r_4 = 0 →
         ∀ x3_5 : Int32, x3_5 = x3 + 1 →
         gX9_moveAt_2 E L d vs x1 x2 x3_5 m_3 Q) ∧
      (¬ r_4 = 0 →
         Q x3 m_3))))) :
  gX9_moveAt_2 E L d vs x1 x2 x3 m Q := by
  refine sm_iload_n (Y := mX9_moveAt) (pc := 2) 3 3 rfl rfl dX9_moveAt_2 ?_
  refine sm_bipush (Y := mX9_moveAt) (pc := 3) 6 (by decide) dX9_moveAt_3 ?_
  refine sm_icmp_ge (Y := mX9_moveAt) (pc := 5) 29 (by decide) dX9_moveAt_5 (fun hc => ?_) (fun hc => ?_)
  · replace h := h.1 hc
    refine sm_iconst (Y := mX9_moveAt) (pc := 29) (-1) (by decide) dX9_moveAt_29 ?_
    exact sm_iret (Y := mX9_moveAt) (pc := 30) rfl rfl rfl dX9_moveAt_30 ⟨_, rfl, h⟩
  · replace h := h.2 hc
    refine sm_aload_n (Y := mX9_moveAt) (pc := 8) 0 0 rfl rfl dX9_moveAt_8 ?_
    refine sm_iload_n (Y := mX9_moveAt) (pc := 9) 1 1 rfl rfl dX9_moveAt_9 ?_
    refine sm_iload_n (Y := mX9_moveAt) (pc := 10) 2 2 rfl rfl dX9_moveAt_10 ?_
    refine sm_iload_n (Y := mX9_moveAt) (pc := 11) 3 3 rfl rfl dX9_moveAt_11 ?_
    refine sm_is_S (Y := mX9_moveAt) (pc := 12) (As := [.int x3]) fX9_wordOf wRX9_77 rfl (Nat.le_trans (by decide) hd) (Nat.le_of_ble_eq_true rfl) ⟨Nat.le_refl _, Nat.le_refl _⟩ dX9_moveAt_12 rfl (sm_monoS h (fun r_2 m_1 hir_2 h _ => ?_))
    refine sm_iv_I (Y := mX9_moveAt) (pc := 15) (As := [.int x1, .int x2, .ref (E.2.2.2.2.2.1 r_2)]) (a := 10) fX9_says wRX9_81 (lk_10 hly) (by decide) rfl rfl rfl (Nat.le_trans (by decide) hd) (Nat.le_of_ble_eq_true rfl) ⟨Nat.le_refl _, Nat.le_refl _⟩ dX9_moveAt_15 rfl (sm_monoI h (fun r_4 m_3 h => ?_))
    refine sm_if_eq (Y := mX9_moveAt) (pc := 18) 23 (by decide) dX9_moveAt_18 (fun hc => ?_) (fun hc => ?_)
    · replace h := h.1 hc
      refine sm_iinc (Y := mX9_moveAt) (pc := 23) (fun y => [(3, .int y), (0, .ref (sm_B E + 10)), (1, .int x1), (2, .int x2)]) 3 3 rfl (by decide) (fun _ => rfl) dX9_moveAt_23 (fun x3_5 ex3_5 => ?_)
      replace h := h x3_5 ex3_5
      refine sm_goto (Y := mX9_moveAt) (pc := 26) 2 (by decide) dX9_moveAt_26 ?_
      refine sm_sub [1, 2, 3, 0] rfl ?_
      exact h
    · replace h := h.2 hc
      refine sm_iload_n (Y := mX9_moveAt) (pc := 21) 3 3 rfl rfl dX9_moveAt_21 ?_
      exact sm_iret (Y := mX9_moveAt) (pc := 22) rfl rfl rfl dX9_moveAt_22 ⟨_, rfl, h⟩
theorem dX9_moveAt_0 : decode cX9_moveAt 0 = .ok (.iconst 0, 1) := dk_iconst_0 (by decide +kernel)
theorem dX9_moveAt_1 : decode cX9_moveAt 1 = .ok (.istore_n 3, 1) := dk_istore_n_3 (by decide +kernel)
set_option maxRecDepth 20000 in
theorem vX9_moveAt_0 {E : sm_E} {L : sm_S → Prop} {d : Nat} {x1 : Int32} {x2 : Int32}  {m : sm_M} {Q : Int32 → sm_M → Prop}  (hd : 7 ≤ d) 
  (h : gX9_moveAt_2 E L d ([.ref (sm_B E + 10), .int x1, .int x2]) x1 x2 0 m Q) :
  sm_callI E L mX9_moveAt d 0 0 [.ref (sm_B E + 10), .int x1, .int x2] m Q := by
  refine sm_enter (by decide +kernel) (by simp [lg_sl, Value.category]) ?_
  refine sm_iconst (Y := mX9_moveAt) (pc := 0) 0 (by decide) dX9_moveAt_0 ?_
  refine sm_istore0_n (Y := mX9_moveAt) (pc := 1) [(3, .int 0), (0, .ref (sm_B E + 10)), (1, .int x1), (2, .int x2)] 3 rfl (by decide) rfl dX9_moveAt_1 ?_
  refine sm_sub [1, 2, 3, 0] rfl ?_
  exact h
def gX9_says_23 (E : sm_E) (L : sm_S → Prop) (d : Nat) (vs : List Value) (x1 : Int32) (x3 : Nat) (x4 : Int32) (m : sm_M) (Q : Int32 → sm_M → Prop) : Prop := sm_go E L mX9_says d 0 0 vs 23 [(0, .ref (sm_B E + 10)), (1, .int x1), (3, .ref (E.2.2.2.2.2.1 x3)), (4, .int x4)] [] m 0 0 (sm_Z E L vs 0 0 (sm_QI Q))
theorem dX9_says_23 : decode cX9_says 23 = .ok (.iload 4, 2) := dk_iload 4 (b := 4) (by decide +kernel) (by decide +kernel) (by decide +kernel)
theorem dX9_says_25 : decode cX9_says 25 = .ok (.aload_n 3, 1) := dk_aload_n_3 (by decide +kernel)
theorem wRX9_85 : Cond.methodLink RX9 85 yJ0_length_8abf5 ∈ sm_T := sm_in 598 (by decide +kernel) (by decide +kernel)
theorem dX9_says_26 : decode cX9_says 26 = .ok (.invokevirtual 85, 3) := dk_invokevirtual 85 (b1 := 0) (b2 := 85) (by decide +kernel) (by decide +kernel) (by decide +kernel) (by decide +kernel)
theorem dX9_says_29 : decode cX9_says 29 = .ok (.if_icmp .ge 29, 3) := dk_if_icmp_ge 29 (b1 := 0) (b2 := 29) (by decide +kernel) (by decide +kernel) (by decide +kernel) (by decide +kernel)
theorem dX9_says_58 : decode cX9_says 58 = .ok (.iconst 1, 1) := dk_iconst_1 (by decide +kernel)
theorem dX9_says_59 : decode cX9_says 59 = .ok (.ireturn, 1) := dk_ireturn (by decide +kernel)
theorem dX9_says_32 : decode cX9_says 32 = .ok (.aload_n 0, 1) := dk_aload_n_0 (by decide +kernel)
theorem dX9_says_33 : decode cX9_says 33 = .ok (.getfield 9, 3) := dk_getfield 9 (b1 := 0) (b2 := 9) (by decide +kernel) (by decide +kernel) (by decide +kernel) (by decide +kernel)
theorem dX9_says_36 : decode cX9_says 36 = .ok (.iload_n 1, 1) := dk_iload_n_1 (by decide +kernel)
theorem dX9_says_37 : decode cX9_says 37 = .ok (.iload 4, 2) := dk_iload 4 (b := 4) (by decide +kernel) (by decide +kernel) (by decide +kernel)
theorem dX9_says_39 : decode cX9_says 39 = .ok (.iadd, 1) := dk_iadd (by decide +kernel)
theorem dX9_says_40 : decode cX9_says 40 = .ok (.iaload, 1) := dk_iaload (by decide +kernel)
theorem dX9_says_41 : decode cX9_says 41 = .ok (.aload_n 3, 1) := dk_aload_n_3 (by decide +kernel)
theorem dX9_says_42 : decode cX9_says 42 = .ok (.iload 4, 2) := dk_iload 4 (b := 4) (by decide +kernel) (by decide +kernel) (by decide +kernel)
theorem wRX9_90 : Cond.methodLink RX9 90 yJ0_charAt_5068e ∈ sm_T := sm_in 608 (by decide +kernel) (by decide +kernel)
abbrev mJ0_charAt_5068e : sm_Y := (yJ0_charAt_5068e, cJ0_charAt_5068e, 2, (some FieldType.char))
theorem fJ0_charAt_5068e : sm_mi mJ0_charAt_5068e "java/lang/String" 1 := ⟨sm_in 611 (by decide +kernel) (by decide +kernel), sm_in 609 (by decide +kernel) (by decide +kernel), sm_in 610 (by decide +kernel) (by decide +kernel), sm_in 96 (by decide +kernel) (by decide +kernel), rfl, ⟨by decide +kernel, by decide +kernel, by decide +kernel⟩, by decide⟩
theorem dX9_says_44 : decode cX9_says 44 = .ok (.invokevirtual 90, 3) := dk_invokevirtual 90 (b1 := 0) (b2 := 90) (by decide +kernel) (by decide +kernel) (by decide +kernel) (by decide +kernel)
theorem dX9_says_47 : decode cX9_says 47 = .ok (.if_icmp .eq 5, 3) := dk_if_icmp_eq 5 (b1 := 0) (b2 := 5) (by decide +kernel) (by decide +kernel) (by decide +kernel) (by decide +kernel)
theorem dX9_says_52 : decode cX9_says 52 = .ok (.iinc 4 1, 3) := dk_iinc 4 1 (b1 := 4) (b2 := 1) (by decide +kernel) (by decide +kernel) (by decide +kernel) (by decide +kernel) (by decide +kernel)
theorem dX9_says_55 : decode cX9_says 55 = .ok (.goto (-32), 3) := dk_goto (-32) (b1 := 255) (b2 := 224) (by decide +kernel) (by decide +kernel) (by decide +kernel) (by decide +kernel)
theorem dX9_says_50 : decode cX9_says 50 = .ok (.iconst 0, 1) := dk_iconst_0 (by decide +kernel)
theorem dX9_says_51 : decode cX9_says 51 = .ok (.ireturn, 1) := dk_ireturn (by decide +kernel)
set_option maxRecDepth 20000 in
theorem vX9_says_23 {E : sm_E} {L : sm_S → Prop} {d : Nat} {vs : List Value} {x1 : Int32} {x3 : Nat} {x4 : Int32}  {m : sm_M} {Q : Int32 → sm_M → Prop} (hly : ∀ S, L S → ly S) (hd : 6 ≤ d) (hix3 : x3 < 6)
  (h : sm_callI E L mJ0_length_8abf5 2 0 0 [.ref (E.2.2.2.2.2.1 x3)] m (fun r_2 m_1 =>
   (r_2 ≤ x4 →
      Q 1 m_1) ∧
   (¬ r_2 ≤ x4 →
      (vp_in (x1 + x4) 100) ∧ sm_callI E L mJ0_charAt_5068e 5 0 0 [.ref (E.2.2.2.2.2.1 x3), .int x4] m_1 (fun r_5 m_4 =>
      ((m_1.1 11 (x1 + x4).toNatClampNeg) = r_5 →
         ∀ x4_6 : Int32, x4_6 = x4 + 1 →
         gX9_says_23 E L d vs x1 x3 x4_6 m_4 Q) ∧
      (¬ (m_1.1 11 (x1 + x4).toNatClampNeg) = r_5 →
         Q 0 m_4))))) :
  gX9_says_23 E L d vs x1 x3 x4 m Q := by
  refine sm_iload (Y := mX9_says) (pc := 23) 3 4 rfl dX9_says_23 ?_
  refine sm_aload_n (Y := mX9_says) (pc := 25) 2 3 rfl rfl dX9_says_25 ?_
  refine sm_ivS_I (Y := mX9_says) (pc := 26) (As := []) hix3 fJ0_length_8abf5 wRX9_85 rfl (Nat.le_trans (by decide) hd) (Nat.le_of_ble_eq_true rfl) ⟨Nat.le_refl _, Nat.le_refl _⟩ dX9_says_26 rfl (sm_monoI h (fun r_2 m_1 h => ?_))
  refine sm_icmp_ge (Y := mX9_says) (pc := 29) 58 (by decide) dX9_says_29 (fun hc => ?_) (fun hc => ?_)
  · replace h := h.1 hc
    refine sm_iconst (Y := mX9_says) (pc := 58) 1 (by decide) dX9_says_58 ?_
    exact sm_zret (Y := mX9_says) (pc := 59) rfl (by decide) rfl rfl dX9_says_59 ⟨_, rfl, h⟩
  · replace h := h.2 hc
    refine sm_aload_n (Y := mX9_says) (pc := 32) 0 0 rfl rfl dX9_says_32 ?_
    refine gf_RX9_9 (Y := mX9_says) (pc := 33) (b := 11) rfl ((lk_10 hly) _) (lf_10_0 hly _) dX9_says_33 ?_
    refine sm_iload_n (Y := mX9_says) (pc := 36) 1 1 rfl rfl dX9_says_36 ?_
    refine sm_iload (Y := mX9_says) (pc := 37) 3 4 rfl dX9_says_37 ?_
    refine sm_iadd (Y := mX9_says) (pc := 39) dX9_says_39 ?_
    obtain ⟨hn_3, h⟩ := h
    refine sm_iald (Y := mX9_says) (pc := 40) (la_11 hly _) hn_3 dX9_says_40 ?_
    refine sm_aload_n (Y := mX9_says) (pc := 41) 2 3 rfl rfl dX9_says_41 ?_
    refine sm_iload (Y := mX9_says) (pc := 42) 3 4 rfl dX9_says_42 ?_
    refine sm_ivS_I (Y := mX9_says) (pc := 44) (As := [.int x4]) hix3 fJ0_charAt_5068e wRX9_90 rfl (Nat.le_trans (by decide) hd) (Nat.le_of_ble_eq_true rfl) ⟨Nat.le_refl _, Nat.le_refl _⟩ dX9_says_44 rfl (sm_monoI h (fun r_5 m_4 h => ?_))
    refine sm_icmp_eq (Y := mX9_says) (pc := 47) 52 (by decide) dX9_says_47 (fun hc => ?_) (fun hc => ?_)
    · replace h := h.1 hc
      refine sm_iinc (Y := mX9_says) (pc := 52) (fun y => [(4, .int y), (0, .ref (sm_B E + 10)), (1, .int x1), (3, .ref (E.2.2.2.2.2.1 x3))]) 3 4 rfl (by decide) (fun _ => rfl) dX9_says_52 (fun x4_6 ex4_6 => ?_)
      replace h := h x4_6 ex4_6
      refine sm_goto (Y := mX9_says) (pc := 55) 23 (by decide) dX9_says_55 ?_
      refine sm_sub [1, 2, 3, 0] rfl ?_
      exact h
    · replace h := h.2 hc
      refine sm_iconst (Y := mX9_says) (pc := 50) 0 (by decide) dX9_says_50 ?_
      exact sm_zret (Y := mX9_says) (pc := 51) rfl (by decide) rfl rfl dX9_says_51 ⟨_, rfl, h⟩
theorem dX9_says_0 : decode cX9_says 0 = .ok (.iload_n 2, 1) := dk_iload_n_2 (by decide +kernel)
theorem dX9_says_1 : decode cX9_says 1 = .ok (.iload_n 1, 1) := dk_iload_n_1 (by decide +kernel)
theorem dX9_says_2 : decode cX9_says 2 = .ok (.isub, 1) := dk_isub (by decide +kernel)
theorem dX9_says_3 : decode cX9_says 3 = .ok (.aload_n 3, 1) := dk_aload_n_3 (by decide +kernel)
theorem dX9_says_4 : decode cX9_says 4 = .ok (.invokevirtual 85, 3) := dk_invokevirtual 85 (b1 := 0) (b2 := 85) (by decide +kernel) (by decide +kernel) (by decide +kernel) (by decide +kernel)
theorem dX9_says_7 : decode cX9_says 7 = .ok (.if_icmp .ne 11, 3) := dk_if_icmp_ne 11 (b1 := 0) (b2 := 11) (by decide +kernel) (by decide +kernel) (by decide +kernel) (by decide +kernel)
theorem dX9_says_18 : decode cX9_says 18 = .ok (.iconst 0, 1) := dk_iconst_0 (by decide +kernel)
theorem dX9_says_19 : decode cX9_says 19 = .ok (.ireturn, 1) := dk_ireturn (by decide +kernel)
theorem dX9_says_10 : decode cX9_says 10 = .ok (.iload_n 2, 1) := dk_iload_n_2 (by decide +kernel)
theorem dX9_says_11 : decode cX9_says 11 = .ok (.aload_n 0, 1) := dk_aload_n_0 (by decide +kernel)
theorem dX9_says_12 : decode cX9_says 12 = .ok (.getfield 30, 3) := dk_getfield 30 (b1 := 0) (b2 := 30) (by decide +kernel) (by decide +kernel) (by decide +kernel) (by decide +kernel)
theorem dX9_says_15 : decode cX9_says 15 = .ok (.if_icmp .le 5, 3) := dk_if_icmp_le 5 (b1 := 0) (b2 := 5) (by decide +kernel) (by decide +kernel) (by decide +kernel) (by decide +kernel)
theorem dX9_says_20 : decode cX9_says 20 = .ok (.iconst 0, 1) := dk_iconst_0 (by decide +kernel)
theorem dX9_says_21 : decode cX9_says 21 = .ok (.istore 4, 2) := dk_istore 4 (b := 4) (by decide +kernel) (by decide +kernel) (by decide +kernel)
set_option maxRecDepth 20000 in
theorem vX9_says_0 {E : sm_E} {L : sm_S → Prop} {d : Nat} {x1 : Int32} {x2 : Int32} {x3 : Nat}  {m : sm_M} {Q : Int32 → sm_M → Prop} (hly : ∀ S, L S → ly S) (hd : 6 ≤ d) (hix3 : x3 < 6)
  (h : sm_callI E L mJ0_length_8abf5 2 0 0 [.ref (E.2.2.2.2.2.1 x3)] m (fun r_2 m_1 =>
   (¬ (x2 - x1) = r_2 →
      Q 0 m_1) ∧
   ((x2 - x1) = r_2 →
      (x2 ≤ (m_1.1 10 4) →
         gX9_says_23 E L d ([.ref (sm_B E + 10), .int x1, .int x2, .ref (E.2.2.2.2.2.1 x3)]) x1 x3 0 m_1 Q) ∧
      (¬ x2 ≤ (m_1.1 10 4) →
         Q 0 m_1)))) :
  sm_callI E L mX9_says d 0 0 [.ref (sm_B E + 10), .int x1, .int x2, .ref (E.2.2.2.2.2.1 x3)] m Q := by
  refine sm_enter (by decide +kernel) (by simp [lg_sl, Value.category]) ?_
  refine sm_iload_n (Y := mX9_says) (pc := 0) 2 2 rfl rfl dX9_says_0 ?_
  refine sm_iload_n (Y := mX9_says) (pc := 1) 1 1 rfl rfl dX9_says_1 ?_
  refine sm_isub (Y := mX9_says) (pc := 2) dX9_says_2 ?_
  refine sm_aload_n (Y := mX9_says) (pc := 3) 3 3 rfl rfl dX9_says_3 ?_
  refine sm_ivS_I (Y := mX9_says) (pc := 4) (As := []) hix3 fJ0_length_8abf5 wRX9_85 rfl (Nat.le_trans (by decide) hd) (Nat.le_of_ble_eq_true rfl) ⟨Nat.le_refl _, Nat.le_refl _⟩ dX9_says_4 rfl (sm_monoI h (fun r_2 m_1 h => ?_))
  refine sm_icmp_ne (Y := mX9_says) (pc := 7) 18 (by decide) dX9_says_7 (fun hc => ?_) (fun hc => ?_)
  · replace h := h.1 hc
    refine sm_iconst (Y := mX9_says) (pc := 18) 0 (by decide) dX9_says_18 ?_
    exact sm_zret (Y := mX9_says) (pc := 19) rfl (by decide) rfl rfl dX9_says_19 ⟨_, rfl, h⟩
  · replace h := h.2 hc
    refine sm_iload_n (Y := mX9_says) (pc := 10) 2 2 rfl rfl dX9_says_10 ?_
    refine sm_aload_n (Y := mX9_says) (pc := 11) 0 0 rfl rfl dX9_says_11 ?_
    refine gf_RX9_30 (Y := mX9_says) (pc := 12) rfl ((lk_10 hly) _) dX9_says_12 ?_
    refine sm_icmp_le (Y := mX9_says) (pc := 15) 20 (by decide) dX9_says_15 (fun hc => ?_) (fun hc => ?_)
    · replace h := h.1 hc
      refine sm_iconst (Y := mX9_says) (pc := 20) 0 (by decide) dX9_says_20 ?_
      refine sm_istore0 (Y := mX9_says) (pc := 21) [(4, .int 0), (0, .ref (sm_B E + 10)), (1, .int x1), (2, .int x2), (3, .ref (E.2.2.2.2.2.1 x3))] 4 (by decide) rfl dX9_says_21 ?_
      refine sm_sub [1, 2, 4, 0] rfl ?_
      exact h
    · replace h := h.2 hc
      refine sm_iconst (Y := mX9_says) (pc := 18) 0 (by decide) dX9_says_18 ?_
      exact sm_zret (Y := mX9_says) (pc := 19) rfl (by decide) rfl rfl dX9_says_19 ⟨_, rfl, h⟩
theorem dX9_wordOf_0 : decode cX9_wordOf 0 = .ok (.iload_n 0, 1) := dk_iload_n_0 (by decide +kernel)
theorem dX9_wordOf_1 : decode cX9_wordOf 1 = .ok (.tableswitch 50 0 4 #[35, 38, 41, 44, 47], 35) := by decide +kernel
theorem dX9_wordOf_36 : decode cX9_wordOf 36 = .ok (.ldc 94, 2) := dk_ldc 94 (b := 94) (by decide +kernel) (by decide +kernel) (by decide +kernel)
theorem dX9_wordOf_38 : decode cX9_wordOf 38 = .ok (.areturn, 1) := dk_areturn (by decide +kernel)
theorem dX9_wordOf_39 : decode cX9_wordOf 39 = .ok (.ldc 96, 2) := dk_ldc 96 (b := 96) (by decide +kernel) (by decide +kernel) (by decide +kernel)
theorem dX9_wordOf_41 : decode cX9_wordOf 41 = .ok (.areturn, 1) := dk_areturn (by decide +kernel)
theorem dX9_wordOf_42 : decode cX9_wordOf 42 = .ok (.ldc 98, 2) := dk_ldc 98 (b := 98) (by decide +kernel) (by decide +kernel) (by decide +kernel)
theorem dX9_wordOf_44 : decode cX9_wordOf 44 = .ok (.areturn, 1) := dk_areturn (by decide +kernel)
theorem dX9_wordOf_45 : decode cX9_wordOf 45 = .ok (.ldc 100, 2) := dk_ldc 100 (b := 100) (by decide +kernel) (by decide +kernel) (by decide +kernel)
theorem dX9_wordOf_47 : decode cX9_wordOf 47 = .ok (.areturn, 1) := dk_areturn (by decide +kernel)
theorem dX9_wordOf_48 : decode cX9_wordOf 48 = .ok (.ldc 102, 2) := dk_ldc 102 (b := 102) (by decide +kernel) (by decide +kernel) (by decide +kernel)
theorem dX9_wordOf_50 : decode cX9_wordOf 50 = .ok (.areturn, 1) := dk_areturn (by decide +kernel)
theorem dX9_wordOf_51 : decode cX9_wordOf 51 = .ok (.ldc 104, 2) := dk_ldc 104 (b := 104) (by decide +kernel) (by decide +kernel) (by decide +kernel)
theorem dX9_wordOf_53 : decode cX9_wordOf 53 = .ok (.areturn, 1) := dk_areturn (by decide +kernel)
set_option maxRecDepth 20000 in
theorem vX9_wordOf_0 {E : sm_E} {L : sm_S → Prop} {d : Nat} {x0 : Int32}  {m : sm_M} {Q : Nat → sm_M → Prop}  (hd : 1 ≤ d) 
  (h : (x0 = 0 →
      Q 0 m) ∧
   (x0 = 1 →
      Q 1 m) ∧
   (x0 = 2 →
      Q 2 m) ∧
   (x0 = 3 →
      Q 3 m) ∧
   (x0 = 4 →
      Q 4 m) ∧
   ((¬ x0 = 0 ∧ ¬ x0 = 1 ∧ ¬ x0 = 2 ∧ ¬ x0 = 3 ∧ ¬ x0 = 4) →
      Q 5 m)) :
  sm_callS E L mX9_wordOf d 0 0 [.int x0] m Q := by
  refine sm_enter (by decide +kernel) (by simp [lg_sl, Value.category]) ?_
  refine sm_iload_n (Y := mX9_wordOf) (pc := 0) 0 0 rfl rfl dX9_wordOf_0 ?_
  by_cases hs1_0 : x0 = 0
  · refine sm_tableIn (Y := mX9_wordOf) (pc := 1) 36 (by rw [hs1_0]; decide) (by rw [hs1_0]; decide) (by first | (rw [hs1_0]; done) | (rw [hs1_0]; rfl)) (by decide) dX9_wordOf_1 ?_
    replace h := h.1 hs1_0
    refine sm_ldcS (Y := mX9_wordOf) (pc := 36) (i := 0) (by decide) rfl rfl dX9_wordOf_36 ?_
    exact sm_aret (Y := mX9_wordOf) (pc := 38) rfl (Or.inl ⟨_, rfl⟩) rfl rfl dX9_wordOf_38 ⟨_, (by decide), rfl, h⟩
  replace h := h.2
  by_cases hs1_1 : x0 = 1
  · refine sm_tableIn (Y := mX9_wordOf) (pc := 1) 39 (by rw [hs1_1]; decide) (by rw [hs1_1]; decide) (by first | (rw [hs1_1]; done) | (rw [hs1_1]; rfl)) (by decide) dX9_wordOf_1 ?_
    replace h := h.1 hs1_1
    refine sm_ldcS (Y := mX9_wordOf) (pc := 39) (i := 1) (by decide) rfl rfl dX9_wordOf_39 ?_
    exact sm_aret (Y := mX9_wordOf) (pc := 41) rfl (Or.inl ⟨_, rfl⟩) rfl rfl dX9_wordOf_41 ⟨_, (by decide), rfl, h⟩
  replace h := h.2
  by_cases hs1_2 : x0 = 2
  · refine sm_tableIn (Y := mX9_wordOf) (pc := 1) 42 (by rw [hs1_2]; decide) (by rw [hs1_2]; decide) (by first | (rw [hs1_2]; done) | (rw [hs1_2]; rfl)) (by decide) dX9_wordOf_1 ?_
    replace h := h.1 hs1_2
    refine sm_ldcS (Y := mX9_wordOf) (pc := 42) (i := 2) (by decide) rfl rfl dX9_wordOf_42 ?_
    exact sm_aret (Y := mX9_wordOf) (pc := 44) rfl (Or.inl ⟨_, rfl⟩) rfl rfl dX9_wordOf_44 ⟨_, (by decide), rfl, h⟩
  replace h := h.2
  by_cases hs1_3 : x0 = 3
  · refine sm_tableIn (Y := mX9_wordOf) (pc := 1) 45 (by rw [hs1_3]; decide) (by rw [hs1_3]; decide) (by first | (rw [hs1_3]; done) | (rw [hs1_3]; rfl)) (by decide) dX9_wordOf_1 ?_
    replace h := h.1 hs1_3
    refine sm_ldcS (Y := mX9_wordOf) (pc := 45) (i := 3) (by decide) rfl rfl dX9_wordOf_45 ?_
    exact sm_aret (Y := mX9_wordOf) (pc := 47) rfl (Or.inl ⟨_, rfl⟩) rfl rfl dX9_wordOf_47 ⟨_, (by decide), rfl, h⟩
  replace h := h.2
  by_cases hs1_4 : x0 = 4
  · refine sm_tableIn (Y := mX9_wordOf) (pc := 1) 48 (by rw [hs1_4]; decide) (by rw [hs1_4]; decide) (by first | (rw [hs1_4]; done) | (rw [hs1_4]; rfl)) (by decide) dX9_wordOf_1 ?_
    replace h := h.1 hs1_4
    refine sm_ldcS (Y := mX9_wordOf) (pc := 48) (i := 4) (by decide) rfl rfl dX9_wordOf_48 ?_
    exact sm_aret (Y := mX9_wordOf) (pc := 50) rfl (Or.inl ⟨_, rfl⟩) rfl rfl dX9_wordOf_50 ⟨_, (by decide), rfl, h⟩
  replace h := h.2
  refine sm_tableOut (Y := mX9_wordOf) (pc := 1) 51 (sm_tout (lo := 0) 5 (fun j hj => by
      match j, hj with
      | 0, _ => exact lv_neT hs1_0 (by decide)
      | 1, _ => exact lv_neT hs1_1 (by decide)
      | 2, _ => exact lv_neT hs1_2 (by decide)
      | 3, _ => exact lv_neT hs1_3 (by decide)
      | 4, _ => exact lv_neT hs1_4 (by decide)
      | j + 5, hj => exact absurd hj (by omega))) (by decide) dX9_wordOf_1 ?_
  replace h := h ⟨hs1_0, hs1_1, hs1_2, hs1_3, hs1_4⟩
  refine sm_ldcS (Y := mX9_wordOf) (pc := 51) (i := 5) (by decide) rfl rfl dX9_wordOf_51 ?_
  exact sm_aret (Y := mX9_wordOf) (pc := 53) rfl (Or.inl ⟨_, rfl⟩) rfl rfl dX9_wordOf_53 ⟨_, (by decide), rfl, h⟩
abbrev mX10_numberOf : sm_Y := (yX10_numberOf, cX10_numberOf, 4, (some FieldType.int))
theorem fX10_numberOf : sm_mi mX10_numberOf RX10 1 := ⟨sm_in 942 (by decide +kernel) (by decide +kernel), sm_in 940 (by decide +kernel) (by decide +kernel), sm_in 941 (by decide +kernel) (by decide +kernel), sm_in 89 (by decide +kernel) (by decide +kernel), rfl, ⟨by decide +kernel, by decide +kernel, by decide +kernel⟩, by decide⟩
def gX10_numberOf_12 (E : sm_E) (L : sm_S → Prop) (d : Nat) (vs : List Value) (x1 : Int64) (x3 : Int32) (m : sm_M) (Q : Int32 → sm_M → Prop) : Prop := sm_go E L mX10_numberOf d 0 0 vs 12 [(0, .ref (sm_B E + 53)), (1, .long x1), (3, .int x3)] [] m 0 0 (sm_Z E L vs 0 0 (sm_QI Q))
theorem dX10_numberOf_12 : decode cX10_numberOf 12 = .ok (.iload_n 3, 1) := dk_iload_n_3 (by decide +kernel)
theorem dX10_numberOf_13 : decode cX10_numberOf 13 = .ok (.bipush 12, 2) := dk_bipush 12 (b := 12) (by decide +kernel) (by decide +kernel) (by decide +kernel)
theorem dX10_numberOf_15 : decode cX10_numberOf 15 = .ok (.if_icmp .ge 18, 3) := dk_if_icmp_ge 18 (b1 := 0) (b2 := 18) (by decide +kernel) (by decide +kernel) (by decide +kernel) (by decide +kernel)
theorem dX10_numberOf_33 : decode cX10_numberOf 33 = .ok (.iload_n 3, 1) := dk_iload_n_3 (by decide +kernel)
theorem dX10_numberOf_34 : decode cX10_numberOf 34 = .ok (.ireturn, 1) := dk_ireturn (by decide +kernel)
theorem dX10_numberOf_18 : decode cX10_numberOf 18 = .ok (.aload_n 0, 1) := dk_aload_n_0 (by decide +kernel)
theorem dX10_numberOf_19 : decode cX10_numberOf 19 = .ok (.lload_n 1, 1) := dk_lload_n_1 (by decide +kernel)
theorem dX10_numberOf_20 : decode cX10_numberOf 20 = .ok (.iload_n 3, 1) := dk_iload_n_3 (by decide +kernel)
theorem wRX10_22 : Cond.methodLink RX10 22 yX10_firstGood ∈ sm_T := sm_in 944 (by decide +kernel) (by decide +kernel)
abbrev mX10_firstGood : sm_Y := (yX10_firstGood, cX10_firstGood, 11, (some FieldType.int))
theorem fX10_firstGood : sm_mi mX10_firstGood RX10 2 := ⟨sm_in 947 (by decide +kernel) (by decide +kernel), sm_in 946 (by decide +kernel) (by decide +kernel), sm_in 33 (by decide +kernel) (by decide +kernel), sm_in 89 (by decide +kernel) (by decide +kernel), rfl, ⟨by decide +kernel, by decide +kernel, by decide +kernel⟩, by decide⟩
theorem dX10_numberOf_21 : decode cX10_numberOf 21 = .ok (.invokevirtual 22, 3) := dk_invokevirtual 22 (b1 := 0) (b2 := 22) (by decide +kernel) (by decide +kernel) (by decide +kernel) (by decide +kernel)
theorem dX10_numberOf_24 : decode cX10_numberOf 24 = .ok (.ifCond .ge 9, 3) := dk_ifCond_ge 9 (b1 := 0) (b2 := 9) (by decide +kernel) (by decide +kernel) (by decide +kernel) (by decide +kernel)
theorem dX10_numberOf_27 : decode cX10_numberOf 27 = .ok (.iinc 3 1, 3) := dk_iinc 3 1 (b1 := 3) (b2 := 1) (by decide +kernel) (by decide +kernel) (by decide +kernel) (by decide +kernel) (by decide +kernel)
theorem dX10_numberOf_30 : decode cX10_numberOf 30 = .ok (.goto (-18), 3) := dk_goto (-18) (b1 := 255) (b2 := 238) (by decide +kernel) (by decide +kernel) (by decide +kernel) (by decide +kernel)
set_option maxRecDepth 20000 in
theorem vX10_numberOf_12 {E : sm_E} {L : sm_S → Prop} {d : Nat} {vs : List Value} {x1 : Int64} {x3 : Int32}  {m : sm_M} {Q : Int32 → sm_M → Prop} (hly : ∀ S, L S → ly S) (hd : 61 ≤ d) 
  (h : (12 ≤ x3 →
      Q x3 m) ∧
   (¬ 12 ≤ x3 →
      sm_callI E L mX10_firstGood 60 0 0 [.ref (sm_B E + 53), .long x1, .int x3] m (fun r_2 m_1 =>
      (0 ≤ r_2 →
         Q x3 m_1) ∧
      (¬ 0 ≤ r_2 →
         ∀ x3_3 : Int32, x3_3 = x3 + 1 →
         gX10_numberOf_12 E L d vs x1 x3_3 m_1 Q)))) :
  gX10_numberOf_12 E L d vs x1 x3 m Q := by
  refine sm_iload_n (Y := mX10_numberOf) (pc := 12) 2 3 rfl rfl dX10_numberOf_12 ?_
  refine sm_bipush (Y := mX10_numberOf) (pc := 13) 12 (by decide) dX10_numberOf_13 ?_
  refine sm_icmp_ge (Y := mX10_numberOf) (pc := 15) 33 (by decide) dX10_numberOf_15 (fun hc => ?_) (fun hc => ?_)
  · replace h := h.1 hc
    refine sm_iload_n (Y := mX10_numberOf) (pc := 33) 2 3 rfl rfl dX10_numberOf_33 ?_
    exact sm_iret (Y := mX10_numberOf) (pc := 34) rfl rfl rfl dX10_numberOf_34 ⟨_, rfl, h⟩
  · replace h := h.2 hc
    refine sm_aload_n (Y := mX10_numberOf) (pc := 18) 0 0 rfl rfl dX10_numberOf_18 ?_
    refine sm_lload_n (Y := mX10_numberOf) (pc := 19) 1 1 rfl rfl dX10_numberOf_19 ?_
    refine sm_iload_n (Y := mX10_numberOf) (pc := 20) 2 3 rfl rfl dX10_numberOf_20 ?_
    refine sm_iv_I (Y := mX10_numberOf) (pc := 21) (As := [.long x1, .int x3]) (a := 53) fX10_firstGood wRX10_22 (lk_53 hly) (by decide) rfl rfl rfl (Nat.le_trans (by decide) hd) (Nat.le_of_ble_eq_true rfl) ⟨Nat.le_refl _, Nat.le_refl _⟩ dX10_numberOf_21 rfl (sm_monoI h (fun r_2 m_1 h => ?_))
    refine sm_if_ge (Y := mX10_numberOf) (pc := 24) 33 (by decide) dX10_numberOf_24 (fun hc => ?_) (fun hc => ?_)
    · replace h := h.1 hc
      refine sm_iload_n (Y := mX10_numberOf) (pc := 33) 2 3 rfl rfl dX10_numberOf_33 ?_
      exact sm_iret (Y := mX10_numberOf) (pc := 34) rfl rfl rfl dX10_numberOf_34 ⟨_, rfl, h⟩
    · replace h := h.2 hc
      refine sm_iinc (Y := mX10_numberOf) (pc := 27) (fun y => [(3, .int y), (0, .ref (sm_B E + 53)), (1, .long x1)]) 2 3 rfl (by decide) (fun _ => rfl) dX10_numberOf_27 (fun x3_3 ex3_3 => ?_)
      replace h := h x3_3 ex3_3
      refine sm_goto (Y := mX10_numberOf) (pc := 30) 12 (by decide) dX10_numberOf_30 ?_
      refine sm_sub [1, 2, 0] rfl ?_
      exact h
theorem dX10_numberOf_0 : decode cX10_numberOf 0 = .ok (.lload_n 1, 1) := dk_lload_n_1 (by decide +kernel)
theorem wRX10_16 : Cond.methodLink RX10 16 yX6_topOf ∈ sm_T := sm_in 943 (by decide +kernel) (by decide +kernel)
theorem dX10_numberOf_1 : decode cX10_numberOf 1 = .ok (.invokestatic 16, 3) := dk_invokestatic 16 (b1 := 0) (b2 := 16) (by decide +kernel) (by decide +kernel) (by decide +kernel) (by decide +kernel)
theorem dX10_numberOf_4 : decode cX10_numberOf 4 = .ok (.iconst 1, 1) := dk_iconst_1 (by decide +kernel)
theorem dX10_numberOf_5 : decode cX10_numberOf 5 = .ok (.if_icmp .gt 5, 3) := dk_if_icmp_gt 5 (b1 := 0) (b2 := 5) (by decide +kernel) (by decide +kernel) (by decide +kernel) (by decide +kernel)
theorem dX10_numberOf_10 : decode cX10_numberOf 10 = .ok (.iconst 1, 1) := dk_iconst_1 (by decide +kernel)
theorem dX10_numberOf_11 : decode cX10_numberOf 11 = .ok (.istore_n 3, 1) := dk_istore_n_3 (by decide +kernel)
theorem dX10_numberOf_8 : decode cX10_numberOf 8 = .ok (.iconst 0, 1) := dk_iconst_0 (by decide +kernel)
theorem dX10_numberOf_9 : decode cX10_numberOf 9 = .ok (.ireturn, 1) := dk_ireturn (by decide +kernel)
set_option maxRecDepth 20000 in
theorem vX10_numberOf_0 {E : sm_E} {L : sm_S → Prop} {d : Nat} {x1 : Int64}  {m : sm_M} {Q : Int32 → sm_M → Prop}  (hd : 61 ≤ d) 
  (h : sm_callI E L mX6_topOf 1 0 0 [.long x1] m (fun r_2 m_1 =>
   (1 < r_2 →
      gX10_numberOf_12 E L d ([.ref (sm_B E + 53), .long x1]) x1 1 m_1 Q) ∧
   (¬ 1 < r_2 →
      Q 0 m_1))) :
  sm_callI E L mX10_numberOf d 0 0 [.ref (sm_B E + 53), .long x1] m Q := by
  refine sm_enter (by decide +kernel) (by simp [lg_sl, Value.category]) ?_
  refine sm_lload_n (Y := mX10_numberOf) (pc := 0) 1 1 rfl rfl dX10_numberOf_0 ?_
  refine sm_is_I (Y := mX10_numberOf) (pc := 1) (As := [.long x1]) fX6_topOf wRX10_16 rfl (Nat.le_trans (by decide) hd) (Nat.le_of_ble_eq_true rfl) ⟨Nat.le_refl _, Nat.le_refl _⟩ dX10_numberOf_1 rfl (sm_monoI h (fun r_2 m_1 h => ?_))
  refine sm_iconst (Y := mX10_numberOf) (pc := 4) 1 (by decide) dX10_numberOf_4 ?_
  refine sm_icmp_gt (Y := mX10_numberOf) (pc := 5) 10 (by decide) dX10_numberOf_5 (fun hc => ?_) (fun hc => ?_)
  · replace h := h.1 hc
    refine sm_iconst (Y := mX10_numberOf) (pc := 10) 1 (by decide) dX10_numberOf_10 ?_
    refine sm_istore0_n (Y := mX10_numberOf) (pc := 11) [(3, .int 1), (0, .ref (sm_B E + 53)), (1, .long x1)] 3 rfl (by decide) rfl dX10_numberOf_11 ?_
    refine sm_sub [1, 2, 0] rfl ?_
    exact h
  · replace h := h.2 hc
    refine sm_iconst (Y := mX10_numberOf) (pc := 8) 0 (by decide) dX10_numberOf_8 ?_
    exact sm_iret (Y := mX10_numberOf) (pc := 9) rfl rfl rfl dX10_numberOf_9 ⟨_, rfl, h⟩
abbrev mX10_placeOf : sm_Y := (yX10_placeOf, cX10_placeOf, 4, (some FieldType.int))
theorem fX10_placeOf : sm_mi mX10_placeOf RX10 2 := ⟨sm_in 960 (by decide +kernel) (by decide +kernel), sm_in 958 (by decide +kernel) (by decide +kernel), sm_in 959 (by decide +kernel) (by decide +kernel), sm_in 89 (by decide +kernel) (by decide +kernel), rfl, ⟨by decide +kernel, by decide +kernel, by decide +kernel⟩, by decide⟩
theorem dX10_placeOf_0 : decode cX10_placeOf 0 = .ok (.aload_n 0, 1) := dk_aload_n_0 (by decide +kernel)
theorem dX10_placeOf_1 : decode cX10_placeOf 1 = .ok (.lload_n 1, 1) := dk_lload_n_1 (by decide +kernel)
theorem dX10_placeOf_2 : decode cX10_placeOf 2 = .ok (.iload_n 3, 1) := dk_iload_n_3 (by decide +kernel)
theorem dX10_placeOf_3 : decode cX10_placeOf 3 = .ok (.invokevirtual 22, 3) := dk_invokevirtual 22 (b1 := 0) (b2 := 22) (by decide +kernel) (by decide +kernel) (by decide +kernel) (by decide +kernel)
theorem dX10_placeOf_6 : decode cX10_placeOf 6 = .ok (.ireturn, 1) := dk_ireturn (by decide +kernel)
set_option maxRecDepth 20000 in
theorem vX10_placeOf_0 {E : sm_E} {L : sm_S → Prop} {d : Nat} {x1 : Int64} {x3 : Int32}  {m : sm_M} {Q : Int32 → sm_M → Prop} (hly : ∀ S, L S → ly S) (hd : 61 ≤ d) 
  (h : sm_callI E L mX10_firstGood 60 0 0 [.ref (sm_B E + 53), .long x1, .int x3] m (fun r_2 m_1 =>
   Q r_2 m_1)) :
  sm_callI E L mX10_placeOf d 0 0 [.ref (sm_B E + 53), .long x1, .int x3] m Q := by
  refine sm_enter (by decide +kernel) (by simp [lg_sl, Value.category]) ?_
  refine sm_aload_n (Y := mX10_placeOf) (pc := 0) 0 0 rfl rfl dX10_placeOf_0 ?_
  refine sm_lload_n (Y := mX10_placeOf) (pc := 1) 1 1 rfl rfl dX10_placeOf_1 ?_
  refine sm_iload_n (Y := mX10_placeOf) (pc := 2) 2 3 rfl rfl dX10_placeOf_2 ?_
  refine sm_iv_I (Y := mX10_placeOf) (pc := 3) (As := [.long x1, .int x3]) (a := 53) fX10_firstGood wRX10_22 (lk_53 hly) (by decide) rfl rfl rfl (Nat.le_trans (by decide) hd) (Nat.le_of_ble_eq_true rfl) ⟨Nat.le_refl _, Nat.le_refl _⟩ dX10_placeOf_3 rfl (sm_monoI h (fun r_2 m_1 h => ?_))
  exact sm_iret (Y := mX10_placeOf) (pc := 6) rfl rfl rfl dX10_placeOf_6 ⟨_, rfl, h⟩
def gX10_firstGood_73 (E : sm_E) (L : sm_S → Prop) (d : Nat) (vs : List Value) (x3 : Int32) (a4 : Nat) (x5 : Int32) (x6 : Int32) (x7 : Int32) (x8 : Int64) (s0 : Int32) (m : sm_M) (Q : Int32 → sm_M → Prop) : Prop := sm_go E L mX10_firstGood d 0 0 vs 73 [(0, .ref (sm_B E + 53)), (3, .int x3), (4, .ref (sm_B E + a4)), (5, .int x5), (6, .int x6), (7, .int x7), (8, .long x8)] [.int s0] m 0 0 (sm_Z E L vs 0 0 (sm_QI Q))
def gX10_firstGood_41 (E : sm_E) (L : sm_S → Prop) (d : Nat) (vs : List Value) (x3 : Int32) (a4 : Nat) (x5 : Int32) (x6 : Int32) (x7 : Int32) (m : sm_M) (Q : Int32 → sm_M → Prop) : Prop := sm_go E L mX10_firstGood d 0 0 vs 41 [(0, .ref (sm_B E + 53)), (3, .int x3), (4, .ref (sm_B E + a4)), (5, .int x5), (6, .int x6), (7, .int x7)] [] m 0 0 (sm_Z E L vs 0 0 (sm_QI Q))
theorem dX10_firstGood_73 : decode cX10_firstGood 73 = .ok (.istore 10, 2) := dk_istore 10 (b := 10) (by decide +kernel) (by decide +kernel) (by decide +kernel)
theorem dX10_firstGood_75 : decode cX10_firstGood 75 = .ok (.lload 8, 2) := dk_lload 8 (b := 8) (by decide +kernel) (by decide +kernel) (by decide +kernel)
theorem wRX10_30 : Cond.methodLink RX10 30 yX6_sizeOf ∈ sm_T := sm_in 952 (by decide +kernel) (by decide +kernel)
theorem dX10_firstGood_77 : decode cX10_firstGood 77 = .ok (.invokestatic 30, 3) := dk_invokestatic 30 (b1 := 0) (b2 := 30) (by decide +kernel) (by decide +kernel) (by decide +kernel) (by decide +kernel)
theorem dX10_firstGood_80 : decode cX10_firstGood 80 = .ok (.iload 6, 2) := dk_iload 6 (b := 6) (by decide +kernel) (by decide +kernel) (by decide +kernel)
theorem dX10_firstGood_82 : decode cX10_firstGood 82 = .ok (.if_icmp .ge 23, 3) := dk_if_icmp_ge 23 (b1 := 0) (b2 := 23) (by decide +kernel) (by decide +kernel) (by decide +kernel) (by decide +kernel)
theorem dX10_firstGood_105 : decode cX10_firstGood 105 = .ok (.iinc 7 1, 3) := dk_iinc 7 1 (b1 := 7) (b2 := 1) (by decide +kernel) (by decide +kernel) (by decide +kernel) (by decide +kernel) (by decide +kernel)
theorem dX10_firstGood_108 : decode cX10_firstGood 108 = .ok (.goto (-67), 3) := dk_goto (-67) (b1 := 255) (b2 := 189) (by decide +kernel) (by decide +kernel) (by decide +kernel) (by decide +kernel)
theorem dX10_firstGood_85 : decode cX10_firstGood 85 = .ok (.iload 10, 2) := dk_iload 10 (b := 10) (by decide +kernel) (by decide +kernel) (by decide +kernel)
theorem dX10_firstGood_87 : decode cX10_firstGood 87 = .ok (.ifCond .ne 15, 3) := dk_ifCond_ne 15 (b1 := 0) (b2 := 15) (by decide +kernel) (by decide +kernel) (by decide +kernel) (by decide +kernel)
theorem dX10_firstGood_102 : decode cX10_firstGood 102 = .ok (.iload 7, 2) := dk_iload 7 (b := 7) (by decide +kernel) (by decide +kernel) (by decide +kernel)
theorem dX10_firstGood_104 : decode cX10_firstGood 104 = .ok (.ireturn, 1) := dk_ireturn (by decide +kernel)
theorem dX10_firstGood_90 : decode cX10_firstGood 90 = .ok (.aload_n 0, 1) := dk_aload_n_0 (by decide +kernel)
theorem dX10_firstGood_91 : decode cX10_firstGood 91 = .ok (.lload 8, 2) := dk_lload 8 (b := 8) (by decide +kernel) (by decide +kernel) (by decide +kernel)
theorem dX10_firstGood_93 : decode cX10_firstGood 93 = .ok (.iload_n 3, 1) := dk_iload_n_3 (by decide +kernel)
theorem dX10_firstGood_94 : decode cX10_firstGood 94 = .ok (.iconst 1, 1) := dk_iconst_1 (by decide +kernel)
theorem dX10_firstGood_95 : decode cX10_firstGood 95 = .ok (.isub, 1) := dk_isub (by decide +kernel)
theorem dX10_firstGood_96 : decode cX10_firstGood 96 = .ok (.invokevirtual 22, 3) := dk_invokevirtual 22 (b1 := 0) (b2 := 22) (by decide +kernel) (by decide +kernel) (by decide +kernel) (by decide +kernel)
theorem dX10_firstGood_99 : decode cX10_firstGood 99 = .ok (.ifCond .lt 6, 3) := dk_ifCond_lt 6 (b1 := 0) (b2 := 6) (by decide +kernel) (by decide +kernel) (by decide +kernel) (by decide +kernel)
set_option maxRecDepth 20000 in
theorem vX10_firstGood_73 {E : sm_E} {L : sm_S → Prop} {d : Nat} {vs : List Value} {x3 : Int32} {a4 : Nat} {x5 : Int32} {x6 : Int32} {x7 : Int32} {x8 : Int64} {s0 : Int32} {na4 : Nat} {m : sm_M} {Q : Int32 → sm_M → Prop} (hly : ∀ S, L S → ly S) {dr : Nat} (hd : 4 ≤ d) (hr : dr + 1 ≤ d) (hTa4 : ∀ S, L S → sm_K S a4 = 11 ∧ sm_N S a4 = na4)
  (h : sm_callI E L mX6_sizeOf 2 0 0 [.long x8] m (fun r_3 m_2 =>
   (x6 ≤ r_3 →
      ∀ x7_4 : Int32, x7_4 = x7 + 1 →
      gX10_firstGood_41 E L d vs x3 a4 x5 x6 x7_4 m_2 Q) ∧
   (¬ x6 ≤ r_3 →
      (¬ s0 = 0 →
         Q x7 m_2) ∧
      (s0 = 0 →
         sm_callI E L mX10_firstGood dr 0 0 [.ref (sm_B E + 53), .long x8, .int (x3 - 1)] m_2 (fun r_6 m_5 =>
         (r_6 < 0 →
            ∀ x7_7 : Int32, x7_7 = x7 + 1 →
            gX10_firstGood_41 E L d vs x3 a4 x5 x6 x7_7 m_5 Q) ∧
         (¬ r_6 < 0 →
            Q x7 m_5)))))) :
  gX10_firstGood_73 E L d vs x3 a4 x5 x6 x7 x8 s0 m Q := by
  refine sm_istore0 (Y := mX10_firstGood) (pc := 73) [(10, .int s0), (0, .ref (sm_B E + 53)), (3, .int x3), (4, .ref (sm_B E + a4)), (5, .int x5), (6, .int x6), (7, .int x7), (8, .long x8)] 10 (by decide) rfl dX10_firstGood_73 ?_
  refine sm_lload (Y := mX10_firstGood) (pc := 75) 7 8 rfl dX10_firstGood_75 ?_
  refine sm_is_I (Y := mX10_firstGood) (pc := 77) (As := [.long x8]) fX6_sizeOf wRX10_30 rfl (Nat.le_trans (by decide) hd) (Nat.le_of_ble_eq_true rfl) ⟨Nat.le_refl _, Nat.le_refl _⟩ dX10_firstGood_77 rfl (sm_monoI h (fun r_3 m_2 h => ?_))
  refine sm_iload (Y := mX10_firstGood) (pc := 80) 5 6 rfl dX10_firstGood_80 ?_
  refine sm_icmp_ge (Y := mX10_firstGood) (pc := 82) 105 (by decide) dX10_firstGood_82 (fun hc => ?_) (fun hc => ?_)
  · replace h := h.1 hc
    refine sm_iinc (Y := mX10_firstGood) (pc := 105) (fun y => [(7, .int y), (10, .int s0), (0, .ref (sm_B E + 53)), (3, .int x3), (4, .ref (sm_B E + a4)), (5, .int x5), (6, .int x6), (8, .long x8)]) 6 7 rfl (by decide) (fun _ => rfl) dX10_firstGood_105 (fun x7_4 ex7_4 => ?_)
    replace h := h x7_4 ex7_4
    refine sm_goto (Y := mX10_firstGood) (pc := 108) 41 (by decide) dX10_firstGood_108 ?_
    refine sm_sub [2, 3, 4, 5, 6, 0] rfl ?_
    exact h
  · replace h := h.2 hc
    refine sm_iload (Y := mX10_firstGood) (pc := 85) 0 10 rfl dX10_firstGood_85 ?_
    refine sm_if_ne (Y := mX10_firstGood) (pc := 87) 102 (by decide) dX10_firstGood_87 (fun hc => ?_) (fun hc => ?_)
    · replace h := h.1 hc
      refine sm_iload (Y := mX10_firstGood) (pc := 102) 6 7 rfl dX10_firstGood_102 ?_
      exact sm_iret (Y := mX10_firstGood) (pc := 104) rfl rfl rfl dX10_firstGood_104 ⟨_, rfl, h⟩
    · replace h := h.2 hc
      refine sm_aload_n (Y := mX10_firstGood) (pc := 90) 1 0 rfl rfl dX10_firstGood_90 ?_
      refine sm_lload (Y := mX10_firstGood) (pc := 91) 7 8 rfl dX10_firstGood_91 ?_
      refine sm_iload_n (Y := mX10_firstGood) (pc := 93) 2 3 rfl rfl dX10_firstGood_93 ?_
      refine sm_iconst (Y := mX10_firstGood) (pc := 94) 1 (by decide) dX10_firstGood_94 ?_
      refine sm_isub (Y := mX10_firstGood) (pc := 95) dX10_firstGood_95 ?_
      refine sm_iv_I (Y := mX10_firstGood) (pc := 96) (As := [.long x8, .int (x3 - 1)]) (a := 53) fX10_firstGood wRX10_22 (lk_53 hly) (by decide) rfl rfl rfl hr (Nat.le_of_ble_eq_true rfl) ⟨Nat.le_refl _, Nat.le_refl _⟩ dX10_firstGood_96 rfl (sm_monoI h (fun r_6 m_5 h => ?_))
      refine sm_if_lt (Y := mX10_firstGood) (pc := 99) 105 (by decide) dX10_firstGood_99 (fun hc => ?_) (fun hc => ?_)
      · replace h := h.1 hc
        refine sm_iinc (Y := mX10_firstGood) (pc := 105) (fun y => [(7, .int y), (10, .int s0), (0, .ref (sm_B E + 53)), (3, .int x3), (4, .ref (sm_B E + a4)), (5, .int x5), (6, .int x6), (8, .long x8)]) 6 7 rfl (by decide) (fun _ => rfl) dX10_firstGood_105 (fun x7_7 ex7_7 => ?_)
        replace h := h x7_7 ex7_7
        refine sm_goto (Y := mX10_firstGood) (pc := 108) 41 (by decide) dX10_firstGood_108 ?_
        refine sm_sub [2, 3, 4, 5, 6, 0] rfl ?_
        exact h
      · replace h := h.2 hc
        refine sm_iload (Y := mX10_firstGood) (pc := 102) 6 7 rfl dX10_firstGood_102 ?_
        exact sm_iret (Y := mX10_firstGood) (pc := 104) rfl rfl rfl dX10_firstGood_104 ⟨_, rfl, h⟩
theorem dX10_firstGood_41 : decode cX10_firstGood 41 = .ok (.iload 7, 2) := dk_iload 7 (b := 7) (by decide +kernel) (by decide +kernel) (by decide +kernel)
theorem dX10_firstGood_43 : decode cX10_firstGood 43 = .ok (.iload 5, 2) := dk_iload 5 (b := 5) (by decide +kernel) (by decide +kernel) (by decide +kernel)
theorem dX10_firstGood_45 : decode cX10_firstGood 45 = .ok (.if_icmp .ge 66, 3) := dk_if_icmp_ge 66 (b1 := 0) (b2 := 66) (by decide +kernel) (by decide +kernel) (by decide +kernel) (by decide +kernel)
theorem dX10_firstGood_111 : decode cX10_firstGood 111 = .ok (.iconst (-1), 1) := dk_iconst_m1 (by decide +kernel)
theorem dX10_firstGood_112 : decode cX10_firstGood 112 = .ok (.ireturn, 1) := dk_ireturn (by decide +kernel)
theorem dX10_firstGood_48 : decode cX10_firstGood 48 = .ok (.aload 4, 2) := dk_aload 4 (b := 4) (by decide +kernel) (by decide +kernel) (by decide +kernel)
theorem dX10_firstGood_50 : decode cX10_firstGood 50 = .ok (.iload 5, 2) := dk_iload 5 (b := 5) (by decide +kernel) (by decide +kernel) (by decide +kernel)
theorem dX10_firstGood_52 : decode cX10_firstGood 52 = .ok (.iload 7, 2) := dk_iload 7 (b := 7) (by decide +kernel) (by decide +kernel) (by decide +kernel)
theorem wRX10_33 : Cond.methodLink RX10 33 yX10_changed ∈ sm_T := sm_in 953 (by decide +kernel) (by decide +kernel)
abbrev mX10_changed : sm_Y := (yX10_changed, cX10_changed, 8, (some FieldType.long))
theorem fX10_changed : sm_mt mX10_changed 3 := ⟨sm_in 955 (by decide +kernel) (by decide +kernel), sm_in 954 (by decide +kernel) (by decide +kernel), sm_in 89 (by decide +kernel) (by decide +kernel), ⟨by decide +kernel, by decide +kernel, by decide +kernel⟩, by decide⟩
theorem dX10_firstGood_54 : decode cX10_firstGood 54 = .ok (.invokestatic 33, 3) := dk_invokestatic 33 (b1 := 0) (b2 := 33) (by decide +kernel) (by decide +kernel) (by decide +kernel) (by decide +kernel)
theorem dX10_firstGood_57 : decode cX10_firstGood 57 = .ok (.lstore 8, 2) := dk_lstore 8 (b := 8) (by decide +kernel) (by decide +kernel) (by decide +kernel)
theorem dX10_firstGood_59 : decode cX10_firstGood 59 = .ok (.lload 8, 2) := dk_lload 8 (b := 8) (by decide +kernel) (by decide +kernel) (by decide +kernel)
theorem dX10_firstGood_61 : decode cX10_firstGood 61 = .ok (.invokestatic 16, 3) := dk_invokestatic 16 (b1 := 0) (b2 := 16) (by decide +kernel) (by decide +kernel) (by decide +kernel) (by decide +kernel)
theorem dX10_firstGood_64 : decode cX10_firstGood 64 = .ok (.iconst 1, 1) := dk_iconst_1 (by decide +kernel)
theorem dX10_firstGood_65 : decode cX10_firstGood 65 = .ok (.if_icmp .gt 7, 3) := dk_if_icmp_gt 7 (b1 := 0) (b2 := 7) (by decide +kernel) (by decide +kernel) (by decide +kernel) (by decide +kernel)
theorem dX10_firstGood_72 : decode cX10_firstGood 72 = .ok (.iconst 0, 1) := dk_iconst_0 (by decide +kernel)
theorem dX10_firstGood_68 : decode cX10_firstGood 68 = .ok (.iconst 1, 1) := dk_iconst_1 (by decide +kernel)
theorem dX10_firstGood_69 : decode cX10_firstGood 69 = .ok (.goto 4, 3) := dk_goto 4 (b1 := 0) (b2 := 4) (by decide +kernel) (by decide +kernel) (by decide +kernel) (by decide +kernel)
set_option maxRecDepth 20000 in
theorem vX10_firstGood_41 {E : sm_E} {L : sm_S → Prop} {d : Nat} {vs : List Value} {x3 : Int32} {a4 : Nat} {x5 : Int32} {x6 : Int32} {x7 : Int32} {na4 : Nat} {m : sm_M} {Q : Int32 → sm_M → Prop}  {dr : Nat} (hd : 4 ≤ d) (hr : dr + 1 ≤ d) (hTa4 : ∀ S, L S → sm_K S a4 = 11 ∧ sm_N S a4 = na4)
  (h : (x5 ≤ x7 →
      Q (-1) m) ∧
   (¬ x5 ≤ x7 →
      sm_callJ E L mX10_changed 3 0 0 [.ref (sm_B E + a4), .int x5, .int x7] m (fun r_2 m_1 =>
      sm_callI E L mX6_topOf 1 0 0 [.long r_2] m_1 (fun r_5 m_4 =>
      (1 < r_5 →
         gX10_firstGood_73 E L d vs x3 a4 x5 x6 x7 r_2 0 m_4 Q) ∧
      (¬ 1 < r_5 →
         gX10_firstGood_73 E L d vs x3 a4 x5 x6 x7 r_2 1 m_4 Q))))) :
  gX10_firstGood_41 E L d vs x3 a4 x5 x6 x7 m Q := by
  refine sm_iload (Y := mX10_firstGood) (pc := 41) 5 7 rfl dX10_firstGood_41 ?_
  refine sm_iload (Y := mX10_firstGood) (pc := 43) 3 5 rfl dX10_firstGood_43 ?_
  refine sm_icmp_ge (Y := mX10_firstGood) (pc := 45) 111 (by decide) dX10_firstGood_45 (fun hc => ?_) (fun hc => ?_)
  · replace h := h.1 hc
    refine sm_iconst (Y := mX10_firstGood) (pc := 111) (-1) (by decide) dX10_firstGood_111 ?_
    exact sm_iret (Y := mX10_firstGood) (pc := 112) rfl rfl rfl dX10_firstGood_112 ⟨_, rfl, h⟩
  · replace h := h.2 hc
    refine sm_aload (Y := mX10_firstGood) (pc := 48) 2 4 rfl dX10_firstGood_48 ?_
    refine sm_iload (Y := mX10_firstGood) (pc := 50) 3 5 rfl dX10_firstGood_50 ?_
    refine sm_iload (Y := mX10_firstGood) (pc := 52) 5 7 rfl dX10_firstGood_52 ?_
    refine sm_is_J (Y := mX10_firstGood) (pc := 54) (As := [.ref (sm_B E + a4), .int x5, .int x7]) fX10_changed wRX10_33 rfl (Nat.le_trans (by decide) hd) (Nat.le_of_ble_eq_true rfl) ⟨Nat.le_refl _, Nat.le_refl _⟩ dX10_firstGood_54 rfl (sm_monoJ h (fun r_2 m_1 h => ?_))
    refine sm_lstore0 (Y := mX10_firstGood) (pc := 57) [(8, .long r_2), (0, .ref (sm_B E + 53)), (3, .int x3), (4, .ref (sm_B E + a4)), (5, .int x5), (6, .int x6), (7, .int x7)] 8 (by decide) rfl dX10_firstGood_57 ?_
    refine sm_lload (Y := mX10_firstGood) (pc := 59) 0 8 rfl dX10_firstGood_59 ?_
    refine sm_is_I (Y := mX10_firstGood) (pc := 61) (As := [.long r_2]) fX6_topOf wRX10_16 rfl (Nat.le_trans (by decide) hd) (Nat.le_of_ble_eq_true rfl) ⟨Nat.le_refl _, Nat.le_refl _⟩ dX10_firstGood_61 rfl (sm_monoI h (fun r_5 m_4 h => ?_))
    refine sm_iconst (Y := mX10_firstGood) (pc := 64) 1 (by decide) dX10_firstGood_64 ?_
    refine sm_icmp_gt (Y := mX10_firstGood) (pc := 65) 72 (by decide) dX10_firstGood_65 (fun hc => ?_) (fun hc => ?_)
    · replace h := h.1 hc
      refine sm_iconst (Y := mX10_firstGood) (pc := 72) 0 (by decide) dX10_firstGood_72 ?_
      refine sm_sub [1, 2, 3, 4, 5, 6, 0] rfl ?_
      exact h
    · replace h := h.2 hc
      refine sm_iconst (Y := mX10_firstGood) (pc := 68) 1 (by decide) dX10_firstGood_68 ?_
      refine sm_goto (Y := mX10_firstGood) (pc := 69) 73 (by decide) dX10_firstGood_69 ?_
      refine sm_sub [1, 2, 3, 4, 5, 6, 0] rfl ?_
      exact h
theorem dX10_firstGood_0 : decode cX10_firstGood 0 = .ok (.iload_n 3, 1) := dk_iload_n_3 (by decide +kernel)
theorem dX10_firstGood_1 : decode cX10_firstGood 1 = .ok (.iconst 1, 1) := dk_iconst_1 (by decide +kernel)
theorem dX10_firstGood_2 : decode cX10_firstGood 2 = .ok (.if_icmp .lt 12, 3) := dk_if_icmp_lt 12 (b1 := 0) (b2 := 12) (by decide +kernel) (by decide +kernel) (by decide +kernel) (by decide +kernel)
theorem dX10_firstGood_14 : decode cX10_firstGood 14 = .ok (.iconst (-1), 1) := dk_iconst_m1 (by decide +kernel)
theorem dX10_firstGood_15 : decode cX10_firstGood 15 = .ok (.ireturn, 1) := dk_ireturn (by decide +kernel)
theorem dX10_firstGood_5 : decode cX10_firstGood 5 = .ok (.iload_n 3, 1) := dk_iload_n_3 (by decide +kernel)
theorem dX10_firstGood_6 : decode cX10_firstGood 6 = .ok (.aload_n 0, 1) := dk_aload_n_0 (by decide +kernel)
theorem dX10_firstGood_7 : decode cX10_firstGood 7 = .ok (.getfield 11, 3) := dk_getfield 11 (b1 := 0) (b2 := 11) (by decide +kernel) (by decide +kernel) (by decide +kernel) (by decide +kernel)
theorem dX10_firstGood_10 : decode cX10_firstGood 10 = .ok (.arraylength, 1) := dk_arraylength (by decide +kernel)
theorem dX10_firstGood_11 : decode cX10_firstGood 11 = .ok (.if_icmp .lt 5, 3) := dk_if_icmp_lt 5 (b1 := 0) (b2 := 5) (by decide +kernel) (by decide +kernel) (by decide +kernel) (by decide +kernel)
theorem dX10_firstGood_16 : decode cX10_firstGood 16 = .ok (.aload_n 0, 1) := dk_aload_n_0 (by decide +kernel)
theorem dX10_firstGood_17 : decode cX10_firstGood 17 = .ok (.getfield 11, 3) := dk_getfield 11 (b1 := 0) (b2 := 11) (by decide +kernel) (by decide +kernel) (by decide +kernel) (by decide +kernel)
theorem dX10_firstGood_20 : decode cX10_firstGood 20 = .ok (.iload_n 3, 1) := dk_iload_n_3 (by decide +kernel)
theorem dX10_firstGood_21 : decode cX10_firstGood 21 = .ok (.aaload, 1) := dk_aaload (by decide +kernel)
theorem dX10_firstGood_22 : decode cX10_firstGood 22 = .ok (.astore 4, 2) := dk_astore 4 (b := 4) (by decide +kernel) (by decide +kernel) (by decide +kernel)
theorem dX10_firstGood_24 : decode cX10_firstGood 24 = .ok (.lload_n 1, 1) := dk_lload_n_1 (by decide +kernel)
theorem dX10_firstGood_25 : decode cX10_firstGood 25 = .ok (.aload 4, 2) := dk_aload 4 (b := 4) (by decide +kernel) (by decide +kernel) (by decide +kernel)
theorem wRX10_26 : Cond.methodLink RX10 26 yX10_spread ∈ sm_T := sm_in 948 (by decide +kernel) (by decide +kernel)
abbrev mX10_spread : sm_Y := (yX10_spread, cX10_spread, 7, (some FieldType.int))
theorem fX10_spread : sm_mt mX10_spread 2 := ⟨sm_in 950 (by decide +kernel) (by decide +kernel), sm_in 949 (by decide +kernel) (by decide +kernel), sm_in 89 (by decide +kernel) (by decide +kernel), ⟨by decide +kernel, by decide +kernel, by decide +kernel⟩, by decide⟩
theorem dX10_firstGood_27 : decode cX10_firstGood 27 = .ok (.invokestatic 26, 3) := dk_invokestatic 26 (b1 := 0) (b2 := 26) (by decide +kernel) (by decide +kernel) (by decide +kernel) (by decide +kernel)
theorem dX10_firstGood_30 : decode cX10_firstGood 30 = .ok (.istore 5, 2) := dk_istore 5 (b := 5) (by decide +kernel) (by decide +kernel) (by decide +kernel)
theorem dX10_firstGood_32 : decode cX10_firstGood 32 = .ok (.lload_n 1, 1) := dk_lload_n_1 (by decide +kernel)
theorem dX10_firstGood_33 : decode cX10_firstGood 33 = .ok (.invokestatic 30, 3) := dk_invokestatic 30 (b1 := 0) (b2 := 30) (by decide +kernel) (by decide +kernel) (by decide +kernel) (by decide +kernel)
theorem dX10_firstGood_36 : decode cX10_firstGood 36 = .ok (.istore 6, 2) := dk_istore 6 (b := 6) (by decide +kernel) (by decide +kernel) (by decide +kernel)
theorem dX10_firstGood_38 : decode cX10_firstGood 38 = .ok (.iconst 0, 1) := dk_iconst_0 (by decide +kernel)
theorem dX10_firstGood_39 : decode cX10_firstGood 39 = .ok (.istore 7, 2) := dk_istore 7 (b := 7) (by decide +kernel) (by decide +kernel) (by decide +kernel)
set_option maxRecDepth 20000 in
theorem vX10_firstGood_0 {E : sm_E} {L : sm_S → Prop} {d : Nat} {x1 : Int64} {x3 : Int32}  {m : sm_M} {Q : Int32 → sm_M → Prop} (hly : ∀ S, L S → ly S) {dr : Nat} (hd : 4 ≤ d) (hr : dr + 1 ≤ d) 
  (h : (x3 < 1 →
      Q (-1) m) ∧
   (¬ x3 < 1 →
      (x3 < (nI 13) →
         (vp_in x3 13) ∧ sm_callI E L mX10_spread 2 0 0 [.long x1, .ref (sm_B E + (55 + x3.toNatClampNeg))] m (fun r_3 m_2 =>
         sm_callI E L mX6_sizeOf 2 0 0 [.long x1] m_2 (fun r_6 m_5 =>
         gX10_firstGood_41 E L d ([.ref (sm_B E + 53), .long x1, .int x3]) x3 (55 + x3.toNatClampNeg) r_3 r_6 0 m_5 Q))) ∧
      (¬ x3 < (nI 13) →
         Q (-1) m))) :
  sm_callI E L mX10_firstGood d 0 0 [.ref (sm_B E + 53), .long x1, .int x3] m Q := by
  refine sm_enter (by decide +kernel) (by simp [lg_sl, Value.category]) ?_
  refine sm_iload_n (Y := mX10_firstGood) (pc := 0) 2 3 rfl rfl dX10_firstGood_0 ?_
  refine sm_iconst (Y := mX10_firstGood) (pc := 1) 1 (by decide) dX10_firstGood_1 ?_
  refine sm_icmp_lt (Y := mX10_firstGood) (pc := 2) 14 (by decide) dX10_firstGood_2 (fun hc => ?_) (fun hc => ?_)
  · replace h := h.1 hc
    refine sm_iconst (Y := mX10_firstGood) (pc := 14) (-1) (by decide) dX10_firstGood_14 ?_
    exact sm_iret (Y := mX10_firstGood) (pc := 15) rfl rfl rfl dX10_firstGood_15 ⟨_, rfl, h⟩
  · replace h := h.2 hc
    refine sm_iload_n (Y := mX10_firstGood) (pc := 5) 2 3 rfl rfl dX10_firstGood_5 ?_
    refine sm_aload_n (Y := mX10_firstGood) (pc := 6) 0 0 rfl rfl dX10_firstGood_6 ?_
    refine gf_RX10_11 (Y := mX10_firstGood) (pc := 7) (b := 54) rfl ((lk_53 hly) _) (lf_53_0 hly _) dX10_firstGood_7 ?_
    refine sm_alenA (Y := mX10_firstGood) (pc := 10) (la_54 hly _) dX10_firstGood_10 ?_
    refine sm_icmp_lt (Y := mX10_firstGood) (pc := 11) 16 (by decide) dX10_firstGood_11 (fun hc => ?_) (fun hc => ?_)
    · replace h := h.1 hc
      refine sm_aload_n (Y := mX10_firstGood) (pc := 16) 0 0 rfl rfl dX10_firstGood_16 ?_
      refine gf_RX10_11 (Y := mX10_firstGood) (pc := 17) (b := 54) rfl ((lk_53 hly) _) (lf_53_0 hly _) dX10_firstGood_17 ?_
      refine sm_iload_n (Y := mX10_firstGood) (pc := 20) 2 3 rfl rfl dX10_firstGood_20 ?_
      obtain ⟨hn_1, h⟩ := h
      refine sm_aaldA (Y := mX10_firstGood) (pc := 21) (b := (55 + x3.toNatClampNeg)) (la_54 hly _) hn_1 (ly_urowR hly (sm_inlt hn_1) _) dX10_firstGood_21 ?_
      refine sm_astore (Y := mX10_firstGood) (pc := 22) [(4, .ref (sm_B E + (55 + x3.toNatClampNeg))), (0, .ref (sm_B E + 53)), (1, .long x1), (3, .int x3)] 4 (by decide) rfl dX10_firstGood_22 ?_
      refine sm_lload_n (Y := mX10_firstGood) (pc := 24) 2 1 rfl rfl dX10_firstGood_24 ?_
      refine sm_aload (Y := mX10_firstGood) (pc := 25) 0 4 rfl dX10_firstGood_25 ?_
      refine sm_is_I (Y := mX10_firstGood) (pc := 27) (As := [.long x1, .ref (sm_B E + (55 + x3.toNatClampNeg))]) fX10_spread wRX10_26 rfl (Nat.le_trans (by decide) hd) (Nat.le_of_ble_eq_true rfl) ⟨Nat.le_refl _, Nat.le_refl _⟩ dX10_firstGood_27 rfl (sm_monoI h (fun r_3 m_2 h => ?_))
      refine sm_istore0 (Y := mX10_firstGood) (pc := 30) [(5, .int r_3), (4, .ref (sm_B E + (55 + x3.toNatClampNeg))), (0, .ref (sm_B E + 53)), (1, .long x1), (3, .int x3)] 5 (by decide) rfl dX10_firstGood_30 ?_
      refine sm_lload_n (Y := mX10_firstGood) (pc := 32) 3 1 rfl rfl dX10_firstGood_32 ?_
      refine sm_is_I (Y := mX10_firstGood) (pc := 33) (As := [.long x1]) fX6_sizeOf wRX10_30 rfl (Nat.le_trans (by decide) hd) (Nat.le_of_ble_eq_true rfl) ⟨Nat.le_refl _, Nat.le_refl _⟩ dX10_firstGood_33 rfl (sm_monoI h (fun r_6 m_5 h => ?_))
      refine sm_istore0 (Y := mX10_firstGood) (pc := 36) [(6, .int r_6), (5, .int r_3), (4, .ref (sm_B E + (55 + x3.toNatClampNeg))), (0, .ref (sm_B E + 53)), (1, .long x1), (3, .int x3)] 6 (by decide) rfl dX10_firstGood_36 ?_
      refine sm_iconst (Y := mX10_firstGood) (pc := 38) 0 (by decide) dX10_firstGood_38 ?_
      refine sm_istore0 (Y := mX10_firstGood) (pc := 39) [(7, .int 0), (6, .int r_6), (5, .int r_3), (4, .ref (sm_B E + (55 + x3.toNatClampNeg))), (0, .ref (sm_B E + 53)), (1, .long x1), (3, .int x3)] 7 (by decide) rfl dX10_firstGood_39 ?_
      refine sm_sub [4, 6, 3, 2, 1, 0] rfl ?_
      exact h
    · replace h := h.2 hc
      refine sm_iconst (Y := mX10_firstGood) (pc := 14) (-1) (by decide) dX10_firstGood_14 ?_
      exact sm_iret (Y := mX10_firstGood) (pc := 15) rfl rfl rfl dX10_firstGood_15 ⟨_, rfl, h⟩
def gX10_spread_14 (E : sm_E) (L : sm_S → Prop) (d : Nat) (vs : List Value) (a2 : Nat) (x3 : Int32) (x4 : Int32) (x5 : Int32) (m : sm_M) (Q : Int32 → sm_M → Prop) : Prop := sm_go E L mX10_spread d 0 0 vs 14 [(2, .ref (sm_B E + a2)), (3, .int x3), (4, .int x4), (5, .int x5)] [] m 0 0 (sm_Z E L vs 0 0 (sm_QI Q))
theorem dX10_spread_14 : decode cX10_spread 14 = .ok (.iload 5, 2) := dk_iload 5 (b := 5) (by decide +kernel) (by decide +kernel) (by decide +kernel)
theorem dX10_spread_16 : decode cX10_spread 16 = .ok (.aload_n 2, 1) := dk_aload_n_2 (by decide +kernel)
theorem dX10_spread_17 : decode cX10_spread 17 = .ok (.arraylength, 1) := dk_arraylength (by decide +kernel)
theorem dX10_spread_18 : decode cX10_spread 18 = .ok (.if_icmp .ge 35, 3) := dk_if_icmp_ge 35 (b1 := 0) (b2 := 35) (by decide +kernel) (by decide +kernel) (by decide +kernel) (by decide +kernel)
theorem dX10_spread_53 : decode cX10_spread 53 = .ok (.iload 5, 2) := dk_iload 5 (b := 5) (by decide +kernel) (by decide +kernel) (by decide +kernel)
theorem dX10_spread_55 : decode cX10_spread 55 = .ok (.ireturn, 1) := dk_ireturn (by decide +kernel)
theorem dX10_spread_21 : decode cX10_spread 21 = .ok (.iload 4, 2) := dk_iload 4 (b := 4) (by decide +kernel) (by decide +kernel) (by decide +kernel)
theorem dX10_spread_23 : decode cX10_spread 23 = .ok (.ifCond .eq 30, 3) := dk_ifCond_eq 30 (b1 := 0) (b2 := 30) (by decide +kernel) (by decide +kernel) (by decide +kernel) (by decide +kernel)
theorem dX10_spread_26 : decode cX10_spread 26 = .ok (.aload_n 2, 1) := dk_aload_n_2 (by decide +kernel)
theorem dX10_spread_27 : decode cX10_spread 27 = .ok (.iload 5, 2) := dk_iload 5 (b := 5) (by decide +kernel) (by decide +kernel) (by decide +kernel)
theorem dX10_spread_29 : decode cX10_spread 29 = .ok (.iload_n 3, 1) := dk_iload_n_3 (by decide +kernel)
theorem dX10_spread_30 : decode cX10_spread 30 = .ok (.iload 4, 2) := dk_iload 4 (b := 4) (by decide +kernel) (by decide +kernel) (by decide +kernel)
theorem dX10_spread_32 : decode cX10_spread 32 = .ok (.idiv, 1) := dk_idiv (by decide +kernel)
theorem dX10_spread_33 : decode cX10_spread 33 = .ok (.iastore, 1) := dk_iastore (by decide +kernel)
theorem dX10_spread_34 : decode cX10_spread 34 = .ok (.iload_n 3, 1) := dk_iload_n_3 (by decide +kernel)
theorem dX10_spread_35 : decode cX10_spread 35 = .ok (.iload 4, 2) := dk_iload 4 (b := 4) (by decide +kernel) (by decide +kernel) (by decide +kernel)
theorem dX10_spread_37 : decode cX10_spread 37 = .ok (.irem, 1) := dk_irem (by decide +kernel)
theorem dX10_spread_38 : decode cX10_spread 38 = .ok (.istore 6, 2) := dk_istore 6 (b := 6) (by decide +kernel) (by decide +kernel) (by decide +kernel)
theorem dX10_spread_40 : decode cX10_spread 40 = .ok (.iload 4, 2) := dk_iload 4 (b := 4) (by decide +kernel) (by decide +kernel) (by decide +kernel)
theorem dX10_spread_42 : decode cX10_spread 42 = .ok (.istore_n 3, 1) := dk_istore_n_3 (by decide +kernel)
theorem dX10_spread_43 : decode cX10_spread 43 = .ok (.iload 6, 2) := dk_iload 6 (b := 6) (by decide +kernel) (by decide +kernel) (by decide +kernel)
theorem dX10_spread_45 : decode cX10_spread 45 = .ok (.istore 4, 2) := dk_istore 4 (b := 4) (by decide +kernel) (by decide +kernel) (by decide +kernel)
theorem dX10_spread_47 : decode cX10_spread 47 = .ok (.iinc 5 1, 3) := dk_iinc 5 1 (b1 := 5) (b2 := 1) (by decide +kernel) (by decide +kernel) (by decide +kernel) (by decide +kernel) (by decide +kernel)
theorem dX10_spread_50 : decode cX10_spread 50 = .ok (.goto (-36), 3) := dk_goto (-36) (b1 := 255) (b2 := 220) (by decide +kernel) (by decide +kernel) (by decide +kernel) (by decide +kernel)
set_option maxRecDepth 20000 in
theorem vX10_spread_14 {E : sm_E} {L : sm_S → Prop} {d : Nat} {vs : List Value} {a2 : Nat} {x3 : Int32} {x4 : Int32} {x5 : Int32} {na2 : Nat} {m : sm_M} {Q : Int32 → sm_M → Prop}  (hd : 2 ≤ d) (hTa2 : ∀ S, L S → sm_K S a2 = 11 ∧ sm_N S a2 = na2)
  (h : ((nI na2) ≤ x5 →
      Q x5 m) ∧
   (¬ (nI na2) ≤ x5 →
      (x4 = 0 →
         Q x5 m) ∧
      (¬ x4 = 0 →
         (¬ x4 = 0) ∧ (vp_in x5 na2) ∧ ∀ m_2 : sm_M, m_2 = sm_wI m a2 x5.toNatClampNeg (x3 / x4) →
         (¬ x4 = 0) ∧ ∀ x6_5 : Int32, x6_5 = sm_rem x3 x4 →
         ∀ x5_8 : Int32, x5_8 = x5 + 1 →
         gX10_spread_14 E L d vs a2 x4 x6_5 x5_8 m_2 Q))) :
  gX10_spread_14 E L d vs a2 x3 x4 x5 m Q := by
  refine sm_iload (Y := mX10_spread) (pc := 14) 3 5 rfl dX10_spread_14 ?_
  refine sm_aload_n (Y := mX10_spread) (pc := 16) 0 2 rfl rfl dX10_spread_16 ?_
  refine sm_alenI (Y := mX10_spread) (pc := 17) (fun hS => hTa2 _ hS) dX10_spread_17 ?_
  refine sm_icmp_ge (Y := mX10_spread) (pc := 18) 53 (by decide) dX10_spread_18 (fun hc => ?_) (fun hc => ?_)
  · replace h := h.1 hc
    refine sm_iload (Y := mX10_spread) (pc := 53) 3 5 rfl dX10_spread_53 ?_
    exact sm_iret (Y := mX10_spread) (pc := 55) rfl rfl rfl dX10_spread_55 ⟨_, rfl, h⟩
  · replace h := h.2 hc
    refine sm_iload (Y := mX10_spread) (pc := 21) 2 4 rfl dX10_spread_21 ?_
    refine sm_if_eq (Y := mX10_spread) (pc := 23) 53 (by decide) dX10_spread_23 (fun hc => ?_) (fun hc => ?_)
    · replace h := h.1 hc
      refine sm_iload (Y := mX10_spread) (pc := 53) 3 5 rfl dX10_spread_53 ?_
      exact sm_iret (Y := mX10_spread) (pc := 55) rfl rfl rfl dX10_spread_55 ⟨_, rfl, h⟩
    · replace h := h.2 hc
      refine sm_aload_n (Y := mX10_spread) (pc := 26) 0 2 rfl rfl dX10_spread_26 ?_
      refine sm_iload (Y := mX10_spread) (pc := 27) 3 5 rfl dX10_spread_27 ?_
      refine sm_iload_n (Y := mX10_spread) (pc := 29) 1 3 rfl rfl dX10_spread_29 ?_
      refine sm_iload (Y := mX10_spread) (pc := 30) 2 4 rfl dX10_spread_30 ?_
      obtain ⟨hn_1, h⟩ := h
      refine sm_idiv (Y := mX10_spread) (pc := 32) hn_1 dX10_spread_32 ?_
      obtain ⟨hn_3, h⟩ := h
      refine sm_iast (Y := mX10_spread) (pc := 33) (fun hS => hTa2 _ hS) hn_3 dX10_spread_33 (fun m_2 em_2 => ?_)
      replace h := h m_2 em_2
      refine sm_iload_n (Y := mX10_spread) (pc := 34) 1 3 rfl rfl dX10_spread_34 ?_
      refine sm_iload (Y := mX10_spread) (pc := 35) 2 4 rfl dX10_spread_35 ?_
      obtain ⟨hn_4, h⟩ := h
      refine sm_irem (Y := mX10_spread) (pc := 37) hn_4 dX10_spread_37 ?_
      refine sm_istore (Y := mX10_spread) (pc := 38) (fun y => [(6, .int y), (2, .ref (sm_B E + a2)), (3, .int x3), (4, .int x4), (5, .int x5)]) 6 (by decide) (fun _ => rfl) dX10_spread_38 (fun x6_5 ex6_5 => ?_)
      replace h := h x6_5 ex6_5
      refine sm_iload (Y := mX10_spread) (pc := 40) 3 4 rfl dX10_spread_40 ?_
      refine sm_istore0_n (Y := mX10_spread) (pc := 42) [(3, .int x4), (6, .int x6_5), (2, .ref (sm_B E + a2)), (4, .int x4), (5, .int x5)] 3 rfl (by decide) rfl dX10_spread_42 ?_
      refine sm_iload (Y := mX10_spread) (pc := 43) 1 6 rfl dX10_spread_43 ?_
      refine sm_istore0 (Y := mX10_spread) (pc := 45) [(4, .int x6_5), (3, .int x4), (6, .int x6_5), (2, .ref (sm_B E + a2)), (5, .int x5)] 4 (by decide) rfl dX10_spread_45 ?_
      refine sm_iinc (Y := mX10_spread) (pc := 47) (fun y => [(5, .int y), (4, .int x6_5), (3, .int x4), (6, .int x6_5), (2, .ref (sm_B E + a2))]) 4 5 rfl (by decide) (fun _ => rfl) dX10_spread_47 (fun x5_8 ex5_8 => ?_)
      replace h := h x5_8 ex5_8
      refine sm_goto (Y := mX10_spread) (pc := 50) 14 (by decide) dX10_spread_50 ?_
      refine sm_sub [4, 2, 1, 0] rfl ?_
      exact h
theorem dX10_spread_0 : decode cX10_spread 0 = .ok (.lload_n 0, 1) := dk_lload_n_0 (by decide +kernel)
theorem dX10_spread_1 : decode cX10_spread 1 = .ok (.invokestatic 16, 3) := dk_invokestatic 16 (b1 := 0) (b2 := 16) (by decide +kernel) (by decide +kernel) (by decide +kernel) (by decide +kernel)
theorem dX10_spread_4 : decode cX10_spread 4 = .ok (.istore_n 3, 1) := dk_istore_n_3 (by decide +kernel)
theorem dX10_spread_5 : decode cX10_spread 5 = .ok (.lload_n 0, 1) := dk_lload_n_0 (by decide +kernel)
theorem wRX10_37 : Cond.methodLink RX10 37 yX6_bottomOf ∈ sm_T := sm_in 951 (by decide +kernel) (by decide +kernel)
theorem dX10_spread_6 : decode cX10_spread 6 = .ok (.invokestatic 37, 3) := dk_invokestatic 37 (b1 := 0) (b2 := 37) (by decide +kernel) (by decide +kernel) (by decide +kernel) (by decide +kernel)
theorem dX10_spread_9 : decode cX10_spread 9 = .ok (.istore 4, 2) := dk_istore 4 (b := 4) (by decide +kernel) (by decide +kernel) (by decide +kernel)
theorem dX10_spread_11 : decode cX10_spread 11 = .ok (.iconst 0, 1) := dk_iconst_0 (by decide +kernel)
theorem dX10_spread_12 : decode cX10_spread 12 = .ok (.istore 5, 2) := dk_istore 5 (b := 5) (by decide +kernel) (by decide +kernel) (by decide +kernel)
set_option maxRecDepth 20000 in
theorem vX10_spread_0 {E : sm_E} {L : sm_S → Prop} {d : Nat} {x0 : Int64} {a2 : Nat} {na2 : Nat} {m : sm_M} {Q : Int32 → sm_M → Prop}  (hd : 2 ≤ d) (hTa2 : ∀ S, L S → sm_K S a2 = 11 ∧ sm_N S a2 = na2)
  (h : sm_callI E L mX6_topOf 1 0 0 [.long x0] m (fun r_2 m_1 =>
   sm_callI E L mX6_bottomOf 1 0 0 [.long x0] m_1 (fun r_5 m_4 =>
   gX10_spread_14 E L d ([.long x0, .ref (sm_B E + a2)]) a2 r_2 r_5 0 m_4 Q))) :
  sm_callI E L mX10_spread d 0 0 [.long x0, .ref (sm_B E + a2)] m Q := by
  refine sm_enter (by decide +kernel) (by simp [lg_sl, Value.category]) ?_
  refine sm_lload_n (Y := mX10_spread) (pc := 0) 0 0 rfl rfl dX10_spread_0 ?_
  refine sm_is_I (Y := mX10_spread) (pc := 1) (As := [.long x0]) fX6_topOf wRX10_16 rfl (Nat.le_trans (by decide) hd) (Nat.le_of_ble_eq_true rfl) ⟨Nat.le_refl _, Nat.le_refl _⟩ dX10_spread_1 rfl (sm_monoI h (fun r_2 m_1 h => ?_))
  refine sm_istore0_n (Y := mX10_spread) (pc := 4) [(3, .int r_2), (0, .long x0), (2, .ref (sm_B E + a2))] 3 rfl (by decide) rfl dX10_spread_4 ?_
  refine sm_lload_n (Y := mX10_spread) (pc := 5) 1 0 rfl rfl dX10_spread_5 ?_
  refine sm_is_I (Y := mX10_spread) (pc := 6) (As := [.long x0]) fX6_bottomOf wRX10_37 rfl (Nat.le_trans (by decide) hd) (Nat.le_of_ble_eq_true rfl) ⟨Nat.le_refl _, Nat.le_refl _⟩ dX10_spread_6 rfl (sm_monoI h (fun r_5 m_4 h => ?_))
  refine sm_istore0 (Y := mX10_spread) (pc := 9) [(4, .int r_5), (3, .int r_2), (0, .long x0), (2, .ref (sm_B E + a2))] 4 (by decide) rfl dX10_spread_9 ?_
  refine sm_iconst (Y := mX10_spread) (pc := 11) 0 (by decide) dX10_spread_11 ?_
  refine sm_istore0 (Y := mX10_spread) (pc := 12) [(5, .int 0), (4, .int r_5), (3, .int r_2), (0, .long x0), (2, .ref (sm_B E + a2))] 5 (by decide) rfl dX10_spread_12 ?_
  refine sm_sub [4, 2, 1, 0] rfl ?_
  exact h
def gX10_changed_34 (E : sm_E) (L : sm_S → Prop) (d : Nat) (vs : List Value) (a0 : Nat) (x2 : Int32) (x3 : Int32) (x4 : Int32) (x5 : Int32) (s0 : Int32) (m : sm_M) (Q : Int64 → sm_M → Prop) : Prop := sm_go E L mX10_changed d 0 0 vs 34 [(0, .ref (sm_B E + a0)), (2, .int x2), (3, .int x3), (4, .int x4), (5, .int x5)] [.int s0] m 0 0 (sm_Z E L vs 0 0 (sm_QJ Q))
def gX10_changed_10 (E : sm_E) (L : sm_S → Prop) (d : Nat) (vs : List Value) (a0 : Nat) (x2 : Int32) (x3 : Int32) (x4 : Int32) (x5 : Int32) (m : sm_M) (Q : Int64 → sm_M → Prop) : Prop := sm_go E L mX10_changed d 0 0 vs 10 [(0, .ref (sm_B E + a0)), (2, .int x2), (3, .int x3), (4, .int x4), (5, .int x5)] [] m 0 0 (sm_Z E L vs 0 0 (sm_QJ Q))
theorem dX10_changed_34 : decode cX10_changed 34 = .ok (.istore 6, 2) := dk_istore 6 (b := 6) (by decide +kernel) (by decide +kernel) (by decide +kernel)
theorem dX10_changed_36 : decode cX10_changed 36 = .ok (.iload 6, 2) := dk_iload 6 (b := 6) (by decide +kernel) (by decide +kernel) (by decide +kernel)
theorem dX10_changed_38 : decode cX10_changed 38 = .ok (.iload_n 3, 1) := dk_iload_n_3 (by decide +kernel)
theorem dX10_changed_39 : decode cX10_changed 39 = .ok (.imul, 1) := dk_imul (by decide +kernel)
theorem dX10_changed_40 : decode cX10_changed 40 = .ok (.iload 4, 2) := dk_iload 4 (b := 4) (by decide +kernel) (by decide +kernel) (by decide +kernel)
theorem dX10_changed_42 : decode cX10_changed 42 = .ok (.iadd, 1) := dk_iadd (by decide +kernel)
theorem dX10_changed_43 : decode cX10_changed 43 = .ok (.istore 7, 2) := dk_istore 7 (b := 7) (by decide +kernel) (by decide +kernel) (by decide +kernel)
theorem dX10_changed_45 : decode cX10_changed 45 = .ok (.iload_n 3, 1) := dk_iload_n_3 (by decide +kernel)
theorem dX10_changed_46 : decode cX10_changed 46 = .ok (.istore 4, 2) := dk_istore 4 (b := 4) (by decide +kernel) (by decide +kernel) (by decide +kernel)
theorem dX10_changed_48 : decode cX10_changed 48 = .ok (.iload 7, 2) := dk_iload 7 (b := 7) (by decide +kernel) (by decide +kernel) (by decide +kernel)
theorem dX10_changed_50 : decode cX10_changed 50 = .ok (.istore_n 3, 1) := dk_istore_n_3 (by decide +kernel)
theorem dX10_changed_51 : decode cX10_changed 51 = .ok (.iinc 5 (-1), 3) := dk_iinc 5 (-1) (b1 := 5) (b2 := 255) (by decide +kernel) (by decide +kernel) (by decide +kernel) (by decide +kernel) (by decide +kernel)
theorem dX10_changed_54 : decode cX10_changed 54 = .ok (.goto (-44), 3) := dk_goto (-44) (b1 := 255) (b2 := 212) (by decide +kernel) (by decide +kernel) (by decide +kernel) (by decide +kernel)
set_option maxRecDepth 20000 in
theorem vX10_changed_34 {E : sm_E} {L : sm_S → Prop} {d : Nat} {vs : List Value} {a0 : Nat} {x2 : Int32} {x3 : Int32} {x4 : Int32} {x5 : Int32} {s0 : Int32} {na0 : Nat} {m : sm_M} {Q : Int64 → sm_M → Prop}  (hd : 3 ≤ d) (hTa0 : ∀ S, L S → sm_K S a0 = 11 ∧ sm_N S a0 = na0)
  (h : ∀ x7_2 : Int32, x7_2 = (s0 * x3) + x4 →
   ∀ x5_5 : Int32, x5_5 = x5 + (-1) →
   gX10_changed_10 E L d vs a0 x2 x7_2 x3 x5_5 m Q) :
  gX10_changed_34 E L d vs a0 x2 x3 x4 x5 s0 m Q := by
  refine sm_istore0 (Y := mX10_changed) (pc := 34) [(6, .int s0), (0, .ref (sm_B E + a0)), (2, .int x2), (3, .int x3), (4, .int x4), (5, .int x5)] 6 (by decide) rfl dX10_changed_34 ?_
  refine sm_iload (Y := mX10_changed) (pc := 36) 0 6 rfl dX10_changed_36 ?_
  refine sm_iload_n (Y := mX10_changed) (pc := 38) 3 3 rfl rfl dX10_changed_38 ?_
  refine sm_imul (Y := mX10_changed) (pc := 39) dX10_changed_39 ?_
  refine sm_iload (Y := mX10_changed) (pc := 40) 4 4 rfl dX10_changed_40 ?_
  refine sm_iadd (Y := mX10_changed) (pc := 42) dX10_changed_42 ?_
  refine sm_istore (Y := mX10_changed) (pc := 43) (fun y => [(7, .int y), (6, .int s0), (0, .ref (sm_B E + a0)), (2, .int x2), (3, .int x3), (4, .int x4), (5, .int x5)]) 7 (by decide) (fun _ => rfl) dX10_changed_43 (fun x7_2 ex7_2 => ?_)
  replace h := h x7_2 ex7_2
  refine sm_iload_n (Y := mX10_changed) (pc := 45) 4 3 rfl rfl dX10_changed_45 ?_
  refine sm_istore0 (Y := mX10_changed) (pc := 46) [(4, .int x3), (7, .int x7_2), (6, .int s0), (0, .ref (sm_B E + a0)), (2, .int x2), (3, .int x3), (5, .int x5)] 4 (by decide) rfl dX10_changed_46 ?_
  refine sm_iload (Y := mX10_changed) (pc := 48) 1 7 rfl dX10_changed_48 ?_
  refine sm_istore0_n (Y := mX10_changed) (pc := 50) [(3, .int x7_2), (4, .int x3), (7, .int x7_2), (6, .int s0), (0, .ref (sm_B E + a0)), (2, .int x2), (5, .int x5)] 3 rfl (by decide) rfl dX10_changed_50 ?_
  refine sm_iinc (Y := mX10_changed) (pc := 51) (fun y => [(5, .int y), (3, .int x7_2), (4, .int x3), (7, .int x7_2), (6, .int s0), (0, .ref (sm_B E + a0)), (2, .int x2)]) 6 5 rfl (by decide) (fun _ => rfl) dX10_changed_51 (fun x5_5 ex5_5 => ?_)
  replace h := h x5_5 ex5_5
  refine sm_goto (Y := mX10_changed) (pc := 54) 10 (by decide) dX10_changed_54 ?_
  refine sm_sub [5, 6, 1, 2, 0] rfl ?_
  exact h
theorem dX10_changed_10 : decode cX10_changed 10 = .ok (.iload 5, 2) := dk_iload 5 (b := 5) (by decide +kernel) (by decide +kernel) (by decide +kernel)
theorem dX10_changed_12 : decode cX10_changed 12 = .ok (.ifCond .lt 45, 3) := dk_ifCond_lt 45 (b1 := 0) (b2 := 45) (by decide +kernel) (by decide +kernel) (by decide +kernel) (by decide +kernel)
theorem dX10_changed_57 : decode cX10_changed 57 = .ok (.iload_n 3, 1) := dk_iload_n_3 (by decide +kernel)
theorem dX10_changed_58 : decode cX10_changed 58 = .ok (.iload 4, 2) := dk_iload 4 (b := 4) (by decide +kernel) (by decide +kernel) (by decide +kernel)
theorem wRX10_40 : Cond.methodLink RX10 40 yX6_named ∈ sm_T := sm_in 956 (by decide +kernel) (by decide +kernel)
theorem dX10_changed_60 : decode cX10_changed 60 = .ok (.invokestatic 40, 3) := dk_invokestatic 40 (b1 := 0) (b2 := 40) (by decide +kernel) (by decide +kernel) (by decide +kernel) (by decide +kernel)
theorem dX10_changed_63 : decode cX10_changed 63 = .ok (.lreturn, 1) := dk_lreturn (by decide +kernel)
theorem dX10_changed_15 : decode cX10_changed 15 = .ok (.iload 5, 2) := dk_iload 5 (b := 5) (by decide +kernel) (by decide +kernel) (by decide +kernel)
theorem dX10_changed_17 : decode cX10_changed 17 = .ok (.iload_n 2, 1) := dk_iload_n_2 (by decide +kernel)
theorem dX10_changed_18 : decode cX10_changed 18 = .ok (.if_icmp .ne 12, 3) := dk_if_icmp_ne 12 (b1 := 0) (b2 := 12) (by decide +kernel) (by decide +kernel) (by decide +kernel) (by decide +kernel)
theorem dX10_changed_30 : decode cX10_changed 30 = .ok (.aload_n 0, 1) := dk_aload_n_0 (by decide +kernel)
theorem dX10_changed_31 : decode cX10_changed 31 = .ok (.iload 5, 2) := dk_iload 5 (b := 5) (by decide +kernel) (by decide +kernel) (by decide +kernel)
theorem dX10_changed_33 : decode cX10_changed 33 = .ok (.iaload, 1) := dk_iaload (by decide +kernel)
theorem dX10_changed_21 : decode cX10_changed 21 = .ok (.aload_n 0, 1) := dk_aload_n_0 (by decide +kernel)
theorem dX10_changed_22 : decode cX10_changed 22 = .ok (.iload 5, 2) := dk_iload 5 (b := 5) (by decide +kernel) (by decide +kernel) (by decide +kernel)
theorem dX10_changed_24 : decode cX10_changed 24 = .ok (.iaload, 1) := dk_iaload (by decide +kernel)
theorem dX10_changed_25 : decode cX10_changed 25 = .ok (.iconst 2, 1) := dk_iconst_2 (by decide +kernel)
theorem dX10_changed_26 : decode cX10_changed 26 = .ok (.isub, 1) := dk_isub (by decide +kernel)
theorem dX10_changed_27 : decode cX10_changed 27 = .ok (.goto 7, 3) := dk_goto 7 (b1 := 0) (b2 := 7) (by decide +kernel) (by decide +kernel) (by decide +kernel) (by decide +kernel)
set_option maxRecDepth 20000 in
theorem vX10_changed_10 {E : sm_E} {L : sm_S → Prop} {d : Nat} {vs : List Value} {a0 : Nat} {x2 : Int32} {x3 : Int32} {x4 : Int32} {x5 : Int32} {na0 : Nat} {m : sm_M} {Q : Int64 → sm_M → Prop}  (hd : 3 ≤ d) (hTa0 : ∀ S, L S → sm_K S a0 = 11 ∧ sm_N S a0 = na0)
  (h : (x5 < 0 →
      sm_callJ E L mX6_named 2 0 0 [.int x3, .int x4] m (fun r_2 m_1 =>
      Q r_2 m_1)) ∧
   (¬ x5 < 0 →
      (¬ x5 = x2 →
         (vp_in x5 na0) ∧ gX10_changed_34 E L d vs a0 x2 x3 x4 x5 (m.1 a0 x5.toNatClampNeg) m Q) ∧
      (x5 = x2 →
         (vp_in x5 na0) ∧ gX10_changed_34 E L d vs a0 x2 x3 x4 x5 ((m.1 a0 x5.toNatClampNeg) - 2) m Q))) :
  gX10_changed_10 E L d vs a0 x2 x3 x4 x5 m Q := by
  refine sm_iload (Y := mX10_changed) (pc := 10) 4 5 rfl dX10_changed_10 ?_
  refine sm_if_lt (Y := mX10_changed) (pc := 12) 57 (by decide) dX10_changed_12 (fun hc => ?_) (fun hc => ?_)
  · replace h := h.1 hc
    refine sm_iload_n (Y := mX10_changed) (pc := 57) 2 3 rfl rfl dX10_changed_57 ?_
    refine sm_iload (Y := mX10_changed) (pc := 58) 3 4 rfl dX10_changed_58 ?_
    refine sm_is_J (Y := mX10_changed) (pc := 60) (As := [.int x3, .int x4]) fX6_named wRX10_40 rfl (Nat.le_trans (by decide) hd) (Nat.le_of_ble_eq_true rfl) ⟨Nat.le_refl _, Nat.le_refl _⟩ dX10_changed_60 rfl (sm_monoJ h (fun r_2 m_1 h => ?_))
    exact sm_lret (Y := mX10_changed) (pc := 63) rfl rfl rfl dX10_changed_63 ⟨_, rfl, h⟩
  · replace h := h.2 hc
    refine sm_iload (Y := mX10_changed) (pc := 15) 4 5 rfl dX10_changed_15 ?_
    refine sm_iload_n (Y := mX10_changed) (pc := 17) 1 2 rfl rfl dX10_changed_17 ?_
    refine sm_icmp_ne (Y := mX10_changed) (pc := 18) 30 (by decide) dX10_changed_18 (fun hc => ?_) (fun hc => ?_)
    · replace h := h.1 hc
      refine sm_aload_n (Y := mX10_changed) (pc := 30) 0 0 rfl rfl dX10_changed_30 ?_
      refine sm_iload (Y := mX10_changed) (pc := 31) 4 5 rfl dX10_changed_31 ?_
      obtain ⟨hn_3, h⟩ := h
      refine sm_iald (Y := mX10_changed) (pc := 33) (fun hS => hTa0 _ hS) hn_3 dX10_changed_33 ?_
      exact h
    · replace h := h.2 hc
      refine sm_aload_n (Y := mX10_changed) (pc := 21) 0 0 rfl rfl dX10_changed_21 ?_
      refine sm_iload (Y := mX10_changed) (pc := 22) 4 5 rfl dX10_changed_22 ?_
      obtain ⟨hn_4, h⟩ := h
      refine sm_iald (Y := mX10_changed) (pc := 24) (fun hS => hTa0 _ hS) hn_4 dX10_changed_24 ?_
      refine sm_iconst (Y := mX10_changed) (pc := 25) 2 (by decide) dX10_changed_25 ?_
      refine sm_isub (Y := mX10_changed) (pc := 26) dX10_changed_26 ?_
      refine sm_goto (Y := mX10_changed) (pc := 27) 34 (by decide) dX10_changed_27 ?_
      exact h
theorem dX10_changed_0 : decode cX10_changed 0 = .ok (.iconst 1, 1) := dk_iconst_1 (by decide +kernel)
theorem dX10_changed_1 : decode cX10_changed 1 = .ok (.istore_n 3, 1) := dk_istore_n_3 (by decide +kernel)
theorem dX10_changed_2 : decode cX10_changed 2 = .ok (.iconst 0, 1) := dk_iconst_0 (by decide +kernel)
theorem dX10_changed_3 : decode cX10_changed 3 = .ok (.istore 4, 2) := dk_istore 4 (b := 4) (by decide +kernel) (by decide +kernel) (by decide +kernel)
theorem dX10_changed_5 : decode cX10_changed 5 = .ok (.iload_n 1, 1) := dk_iload_n_1 (by decide +kernel)
theorem dX10_changed_6 : decode cX10_changed 6 = .ok (.iconst 1, 1) := dk_iconst_1 (by decide +kernel)
theorem dX10_changed_7 : decode cX10_changed 7 = .ok (.isub, 1) := dk_isub (by decide +kernel)
theorem dX10_changed_8 : decode cX10_changed 8 = .ok (.istore 5, 2) := dk_istore 5 (b := 5) (by decide +kernel) (by decide +kernel) (by decide +kernel)
set_option maxRecDepth 20000 in
theorem vX10_changed_0 {E : sm_E} {L : sm_S → Prop} {d : Nat} {a0 : Nat} {x1 : Int32} {x2 : Int32} {na0 : Nat} {m : sm_M} {Q : Int64 → sm_M → Prop}  (hd : 3 ≤ d) (hTa0 : ∀ S, L S → sm_K S a0 = 11 ∧ sm_N S a0 = na0)
  (h : ∀ x5_3 : Int32, x5_3 = x1 - 1 →
   gX10_changed_10 E L d ([.ref (sm_B E + a0), .int x1, .int x2]) a0 x2 1 0 x5_3 m Q) :
  sm_callJ E L mX10_changed d 0 0 [.ref (sm_B E + a0), .int x1, .int x2] m Q := by
  refine sm_enter (by decide +kernel) (by simp [lg_sl, Value.category]) ?_
  refine sm_iconst (Y := mX10_changed) (pc := 0) 1 (by decide) dX10_changed_0 ?_
  refine sm_istore0_n (Y := mX10_changed) (pc := 1) [(3, .int 1), (0, .ref (sm_B E + a0)), (1, .int x1), (2, .int x2)] 3 rfl (by decide) rfl dX10_changed_1 ?_
  refine sm_iconst (Y := mX10_changed) (pc := 2) 0 (by decide) dX10_changed_2 ?_
  refine sm_istore0 (Y := mX10_changed) (pc := 3) [(4, .int 0), (3, .int 1), (0, .ref (sm_B E + a0)), (1, .int x1), (2, .int x2)] 4 (by decide) rfl dX10_changed_3 ?_
  refine sm_iload_n (Y := mX10_changed) (pc := 5) 3 1 rfl rfl dX10_changed_5 ?_
  refine sm_iconst (Y := mX10_changed) (pc := 6) 1 (by decide) dX10_changed_6 ?_
  refine sm_isub (Y := mX10_changed) (pc := 7) dX10_changed_7 ?_
  refine sm_istore (Y := mX10_changed) (pc := 8) (fun y => [(5, .int y), (4, .int 0), (3, .int 1), (0, .ref (sm_B E + a0)), (1, .int x1), (2, .int x2)]) 5 (by decide) (fun _ => rfl) dX10_changed_8 (fun x5_3 ex5_3 => ?_)
  replace h := h x5_3 ex5_3
  refine sm_sub [3, 5, 2, 1, 0] rfl ?_
  exact h
abbrev mX1_serves : sm_Y := (yX1_serves, cX1_serves, 1, (some FieldType.boolean))
theorem fX1_serves : sm_mt mX1_serves 1 := ⟨sm_in 858 (by decide +kernel) (by decide +kernel), sm_in 857 (by decide +kernel) (by decide +kernel), sm_in 88 (by decide +kernel) (by decide +kernel), ⟨by decide +kernel, by decide +kernel, by decide +kernel⟩, by decide⟩
theorem dX1_serves_0 : decode cX1_serves 0 = .ok (.iload_n 0, 1) := dk_iload_n_0 (by decide +kernel)
theorem dX1_serves_1 : decode cX1_serves 1 = .ok (.iconst 2, 1) := dk_iconst_2 (by decide +kernel)
theorem dX1_serves_2 : decode cX1_serves 2 = .ok (.if_icmp .eq 31, 3) := dk_if_icmp_eq 31 (b1 := 0) (b2 := 31) (by decide +kernel) (by decide +kernel) (by decide +kernel) (by decide +kernel)
theorem dX1_serves_33 : decode cX1_serves 33 = .ok (.iconst 1, 1) := dk_iconst_1 (by decide +kernel)
theorem dX1_serves_34 : decode cX1_serves 34 = .ok (.goto 4, 3) := dk_goto 4 (b1 := 0) (b2 := 4) (by decide +kernel) (by decide +kernel) (by decide +kernel) (by decide +kernel)
theorem dX1_serves_38 : decode cX1_serves 38 = .ok (.ireturn, 1) := dk_ireturn (by decide +kernel)
theorem dX1_serves_5 : decode cX1_serves 5 = .ok (.iload_n 0, 1) := dk_iload_n_0 (by decide +kernel)
theorem dX1_serves_6 : decode cX1_serves 6 = .ok (.iconst 3, 1) := dk_iconst_3 (by decide +kernel)
theorem dX1_serves_7 : decode cX1_serves 7 = .ok (.if_icmp .eq 26, 3) := dk_if_icmp_eq 26 (b1 := 0) (b2 := 26) (by decide +kernel) (by decide +kernel) (by decide +kernel) (by decide +kernel)
theorem dX1_serves_10 : decode cX1_serves 10 = .ok (.iload_n 0, 1) := dk_iload_n_0 (by decide +kernel)
theorem dX1_serves_11 : decode cX1_serves 11 = .ok (.iconst 5, 1) := dk_iconst_5 (by decide +kernel)
theorem dX1_serves_12 : decode cX1_serves 12 = .ok (.if_icmp .eq 21, 3) := dk_if_icmp_eq 21 (b1 := 0) (b2 := 21) (by decide +kernel) (by decide +kernel) (by decide +kernel) (by decide +kernel)
theorem dX1_serves_15 : decode cX1_serves 15 = .ok (.iload_n 0, 1) := dk_iload_n_0 (by decide +kernel)
theorem dX1_serves_16 : decode cX1_serves 16 = .ok (.bipush 7, 2) := dk_bipush 7 (b := 7) (by decide +kernel) (by decide +kernel) (by decide +kernel)
theorem dX1_serves_18 : decode cX1_serves 18 = .ok (.if_icmp .eq 15, 3) := dk_if_icmp_eq 15 (b1 := 0) (b2 := 15) (by decide +kernel) (by decide +kernel) (by decide +kernel) (by decide +kernel)
theorem dX1_serves_21 : decode cX1_serves 21 = .ok (.iload_n 0, 1) := dk_iload_n_0 (by decide +kernel)
theorem dX1_serves_22 : decode cX1_serves 22 = .ok (.bipush 11, 2) := dk_bipush 11 (b := 11) (by decide +kernel) (by decide +kernel) (by decide +kernel)
theorem dX1_serves_24 : decode cX1_serves 24 = .ok (.if_icmp .eq 9, 3) := dk_if_icmp_eq 9 (b1 := 0) (b2 := 9) (by decide +kernel) (by decide +kernel) (by decide +kernel) (by decide +kernel)
theorem dX1_serves_27 : decode cX1_serves 27 = .ok (.iload_n 0, 1) := dk_iload_n_0 (by decide +kernel)
theorem dX1_serves_28 : decode cX1_serves 28 = .ok (.bipush 13, 2) := dk_bipush 13 (b := 13) (by decide +kernel) (by decide +kernel) (by decide +kernel)
theorem dX1_serves_30 : decode cX1_serves 30 = .ok (.if_icmp .ne 7, 3) := dk_if_icmp_ne 7 (b1 := 0) (b2 := 7) (by decide +kernel) (by decide +kernel) (by decide +kernel) (by decide +kernel)
theorem dX1_serves_37 : decode cX1_serves 37 = .ok (.iconst 0, 1) := dk_iconst_0 (by decide +kernel)
set_option maxRecDepth 20000 in
theorem vX1_serves_0 {E : sm_E} {L : sm_S → Prop} {d : Nat} {x0 : Int32}  {m : sm_M} {Q : Int32 → sm_M → Prop}  (hd : 1 ≤ d) 
  (h : (x0 = 2 →
      Q 1 m) ∧
   (¬ x0 = 2 →
      (x0 = 3 →
         Q 1 m) ∧
      (¬ x0 = 3 →
         (x0 = 5 →
            Q 1 m) ∧
         (¬ x0 = 5 →
            (x0 = 7 →
               Q 1 m) ∧
            (¬ x0 = 7 →
               (x0 = 11 →
                  Q 1 m) ∧
               (¬ x0 = 11 →
                  (¬ x0 = 13 →
                     Q 0 m) ∧
                  (x0 = 13 →
                     Q 1 m))))))) :
  sm_callI E L mX1_serves d 0 0 [.int x0] m Q := by
  refine sm_enter (by decide +kernel) (by simp [lg_sl, Value.category]) ?_
  refine sm_iload_n (Y := mX1_serves) (pc := 0) 0 0 rfl rfl dX1_serves_0 ?_
  refine sm_iconst (Y := mX1_serves) (pc := 1) 2 (by decide) dX1_serves_1 ?_
  refine sm_icmp_eq (Y := mX1_serves) (pc := 2) 33 (by decide) dX1_serves_2 (fun hc => ?_) (fun hc => ?_)
  · replace h := h.1 hc
    refine sm_iconst (Y := mX1_serves) (pc := 33) 1 (by decide) dX1_serves_33 ?_
    refine sm_goto (Y := mX1_serves) (pc := 34) 38 (by decide) dX1_serves_34 ?_
    exact sm_zret (Y := mX1_serves) (pc := 38) rfl (by decide) rfl rfl dX1_serves_38 ⟨_, rfl, h⟩
  · replace h := h.2 hc
    refine sm_iload_n (Y := mX1_serves) (pc := 5) 0 0 rfl rfl dX1_serves_5 ?_
    refine sm_iconst (Y := mX1_serves) (pc := 6) 3 (by decide) dX1_serves_6 ?_
    refine sm_icmp_eq (Y := mX1_serves) (pc := 7) 33 (by decide) dX1_serves_7 (fun hc => ?_) (fun hc => ?_)
    · replace h := h.1 hc
      refine sm_iconst (Y := mX1_serves) (pc := 33) 1 (by decide) dX1_serves_33 ?_
      refine sm_goto (Y := mX1_serves) (pc := 34) 38 (by decide) dX1_serves_34 ?_
      exact sm_zret (Y := mX1_serves) (pc := 38) rfl (by decide) rfl rfl dX1_serves_38 ⟨_, rfl, h⟩
    · replace h := h.2 hc
      refine sm_iload_n (Y := mX1_serves) (pc := 10) 0 0 rfl rfl dX1_serves_10 ?_
      refine sm_iconst (Y := mX1_serves) (pc := 11) 5 (by decide) dX1_serves_11 ?_
      refine sm_icmp_eq (Y := mX1_serves) (pc := 12) 33 (by decide) dX1_serves_12 (fun hc => ?_) (fun hc => ?_)
      · replace h := h.1 hc
        refine sm_iconst (Y := mX1_serves) (pc := 33) 1 (by decide) dX1_serves_33 ?_
        refine sm_goto (Y := mX1_serves) (pc := 34) 38 (by decide) dX1_serves_34 ?_
        exact sm_zret (Y := mX1_serves) (pc := 38) rfl (by decide) rfl rfl dX1_serves_38 ⟨_, rfl, h⟩
      · replace h := h.2 hc
        refine sm_iload_n (Y := mX1_serves) (pc := 15) 0 0 rfl rfl dX1_serves_15 ?_
        refine sm_bipush (Y := mX1_serves) (pc := 16) 7 (by decide) dX1_serves_16 ?_
        refine sm_icmp_eq (Y := mX1_serves) (pc := 18) 33 (by decide) dX1_serves_18 (fun hc => ?_) (fun hc => ?_)
        · replace h := h.1 hc
          refine sm_iconst (Y := mX1_serves) (pc := 33) 1 (by decide) dX1_serves_33 ?_
          refine sm_goto (Y := mX1_serves) (pc := 34) 38 (by decide) dX1_serves_34 ?_
          exact sm_zret (Y := mX1_serves) (pc := 38) rfl (by decide) rfl rfl dX1_serves_38 ⟨_, rfl, h⟩
        · replace h := h.2 hc
          refine sm_iload_n (Y := mX1_serves) (pc := 21) 0 0 rfl rfl dX1_serves_21 ?_
          refine sm_bipush (Y := mX1_serves) (pc := 22) 11 (by decide) dX1_serves_22 ?_
          refine sm_icmp_eq (Y := mX1_serves) (pc := 24) 33 (by decide) dX1_serves_24 (fun hc => ?_) (fun hc => ?_)
          · replace h := h.1 hc
            refine sm_iconst (Y := mX1_serves) (pc := 33) 1 (by decide) dX1_serves_33 ?_
            refine sm_goto (Y := mX1_serves) (pc := 34) 38 (by decide) dX1_serves_34 ?_
            exact sm_zret (Y := mX1_serves) (pc := 38) rfl (by decide) rfl rfl dX1_serves_38 ⟨_, rfl, h⟩
          · replace h := h.2 hc
            refine sm_iload_n (Y := mX1_serves) (pc := 27) 0 0 rfl rfl dX1_serves_27 ?_
            refine sm_bipush (Y := mX1_serves) (pc := 28) 13 (by decide) dX1_serves_28 ?_
            refine sm_icmp_ne (Y := mX1_serves) (pc := 30) 37 (by decide) dX1_serves_30 (fun hc => ?_) (fun hc => ?_)
            · replace h := h.1 hc
              refine sm_iconst (Y := mX1_serves) (pc := 37) 0 (by decide) dX1_serves_37 ?_
              exact sm_zret (Y := mX1_serves) (pc := 38) rfl (by decide) rfl rfl dX1_serves_38 ⟨_, rfl, h⟩
            · replace h := h.2 hc
              refine sm_iconst (Y := mX1_serves) (pc := 33) 1 (by decide) dX1_serves_33 ?_
              refine sm_goto (Y := mX1_serves) (pc := 34) 38 (by decide) dX1_serves_34 ?_
              exact sm_zret (Y := mX1_serves) (pc := 38) rfl (by decide) rfl rfl dX1_serves_38 ⟨_, rfl, h⟩
abbrev mX1_freedom : sm_Y := (yX1_freedom, cX1_freedom, 4, (some FieldType.int))
theorem fX1_freedom : sm_mi mX1_freedom RX1 2 := ⟨sm_in 862 (by decide +kernel) (by decide +kernel), sm_in 860 (by decide +kernel) (by decide +kernel), sm_in 861 (by decide +kernel) (by decide +kernel), sm_in 88 (by decide +kernel) (by decide +kernel), rfl, ⟨by decide +kernel, by decide +kernel, by decide +kernel⟩, by decide⟩
theorem dX1_freedom_0 : decode cX1_freedom 0 = .ok (.iload_n 2, 1) := dk_iload_n_2 (by decide +kernel)
theorem wRX1_16 : Cond.methodLink RX1 16 yX1_serves ∈ sm_T := sm_in 863 (by decide +kernel) (by decide +kernel)
theorem dX1_freedom_1 : decode cX1_freedom 1 = .ok (.invokestatic 16, 3) := dk_invokestatic 16 (b1 := 0) (b2 := 16) (by decide +kernel) (by decide +kernel) (by decide +kernel) (by decide +kernel)
theorem dX1_freedom_4 : decode cX1_freedom 4 = .ok (.ifCond .ne 5, 3) := dk_ifCond_ne 5 (b1 := 0) (b2 := 5) (by decide +kernel) (by decide +kernel) (by decide +kernel) (by decide +kernel)
theorem dX1_freedom_9 : decode cX1_freedom 9 = .ok (.aload_n 0, 1) := dk_aload_n_0 (by decide +kernel)
theorem dX1_freedom_10 : decode cX1_freedom 10 = .ok (.aload_n 1, 1) := dk_aload_n_1 (by decide +kernel)
theorem dX1_freedom_11 : decode cX1_freedom 11 = .ok (.iload_n 2, 1) := dk_iload_n_2 (by decide +kernel)
theorem wRX1_20 : Cond.methodLink RX1 20 yX1_write ∈ sm_T := sm_in 864 (by decide +kernel) (by decide +kernel)
abbrev mX1_write : sm_Y := (yX1_write, cX1_write, 9, (some FieldType.int))
theorem fX1_write : sm_mi mX1_write RX1 2 := ⟨sm_in 867 (by decide +kernel) (by decide +kernel), sm_in 866 (by decide +kernel) (by decide +kernel), sm_in 27 (by decide +kernel) (by decide +kernel), sm_in 88 (by decide +kernel) (by decide +kernel), rfl, ⟨by decide +kernel, by decide +kernel, by decide +kernel⟩, by decide⟩
theorem dX1_freedom_12 : decode cX1_freedom 12 = .ok (.invokevirtual 20, 3) := dk_invokevirtual 20 (b1 := 0) (b2 := 20) (by decide +kernel) (by decide +kernel) (by decide +kernel) (by decide +kernel)
theorem dX1_freedom_15 : decode cX1_freedom 15 = .ok (.istore_n 3, 1) := dk_istore_n_3 (by decide +kernel)
theorem dX1_freedom_16 : decode cX1_freedom 16 = .ok (.aload_n 1, 1) := dk_aload_n_1 (by decide +kernel)
theorem dX1_freedom_17 : decode cX1_freedom 17 = .ok (.getfield 24, 3) := dk_getfield 24 (b1 := 0) (b2 := 24) (by decide +kernel) (by decide +kernel) (by decide +kernel) (by decide +kernel)
theorem dX1_freedom_20 : decode cX1_freedom 20 = .ok (.iload_n 3, 1) := dk_iload_n_3 (by decide +kernel)
theorem dX1_freedom_21 : decode cX1_freedom 21 = .ok (.iadd, 1) := dk_iadd (by decide +kernel)
theorem dX1_freedom_22 : decode cX1_freedom 22 = .ok (.aload_n 0, 1) := dk_aload_n_0 (by decide +kernel)
theorem dX1_freedom_23 : decode cX1_freedom 23 = .ok (.aload_n 1, 1) := dk_aload_n_1 (by decide +kernel)
theorem dX1_freedom_24 : decode cX1_freedom 24 = .ok (.getfield 30, 3) := dk_getfield 30 (b1 := 0) (b2 := 30) (by decide +kernel) (by decide +kernel) (by decide +kernel) (by decide +kernel)
theorem dX1_freedom_27 : decode cX1_freedom 27 = .ok (.iload_n 3, 1) := dk_iload_n_3 (by decide +kernel)
theorem dX1_freedom_28 : decode cX1_freedom 28 = .ok (.iload_n 2, 1) := dk_iload_n_2 (by decide +kernel)
theorem wRX1_33 : Cond.methodLink RX1 33 yX1_rank ∈ sm_T := sm_in 880 (by decide +kernel) (by decide +kernel)
abbrev mX1_rank : sm_Y := (yX1_rank, cX1_rank, 11, (some FieldType.int))
theorem fX1_rank : sm_mi mX1_rank RX1 3 := ⟨sm_in 883 (by decide +kernel) (by decide +kernel), sm_in 882 (by decide +kernel) (by decide +kernel), sm_in 29 (by decide +kernel) (by decide +kernel), sm_in 88 (by decide +kernel) (by decide +kernel), rfl, ⟨by decide +kernel, by decide +kernel, by decide +kernel⟩, by decide⟩
theorem dX1_freedom_29 : decode cX1_freedom 29 = .ok (.invokevirtual 33, 3) := dk_invokevirtual 33 (b1 := 0) (b2 := 33) (by decide +kernel) (by decide +kernel) (by decide +kernel) (by decide +kernel)
theorem dX1_freedom_32 : decode cX1_freedom 32 = .ok (.isub, 1) := dk_isub (by decide +kernel)
theorem dX1_freedom_33 : decode cX1_freedom 33 = .ok (.ireturn, 1) := dk_ireturn (by decide +kernel)
theorem dX1_freedom_7 : decode cX1_freedom 7 = .ok (.iconst 0, 1) := dk_iconst_0 (by decide +kernel)
theorem dX1_freedom_8 : decode cX1_freedom 8 = .ok (.ireturn, 1) := dk_ireturn (by decide +kernel)
set_option maxRecDepth 20000 in
theorem vX1_freedom_0 {E : sm_E} {L : sm_S → Prop} {d : Nat} {x2 : Int32}  {m : sm_M} {Q : Int32 → sm_M → Prop} (hly : ∀ S, L S → ly S) (hd : 4 ≤ d) 
  (h : sm_callI E L mX1_serves 1 0 0 [.int x2] m (fun r_2 m_1 =>
   (¬ r_2 = 0 →
      sm_callI E L mX1_write 3 0 0 [.ref (sm_B E + 27), .ref (sm_B E + 16), .int x2] m_1 (fun r_4 m_3 =>
      sm_callI E L mX1_rank 2 0 0 [.ref (sm_B E + 27), .int (m_3.1 16 10), .int r_4, .int x2] m_3 (fun r_7 m_6 =>
      Q (((m_3.1 16 12) + r_4) - r_7) m_6))) ∧
   (r_2 = 0 →
      Q 0 m_1))) :
  sm_callI E L mX1_freedom d 0 0 [.ref (sm_B E + 27), .ref (sm_B E + 16), .int x2] m Q := by
  refine sm_enter (by decide +kernel) (by simp [lg_sl, Value.category]) ?_
  refine sm_iload_n (Y := mX1_freedom) (pc := 0) 2 2 rfl rfl dX1_freedom_0 ?_
  refine sm_is_I (Y := mX1_freedom) (pc := 1) (As := [.int x2]) fX1_serves wRX1_16 rfl (Nat.le_trans (by decide) hd) (Nat.le_of_ble_eq_true rfl) ⟨Nat.le_refl _, Nat.le_refl _⟩ dX1_freedom_1 rfl (sm_monoI h (fun r_2 m_1 h => ?_))
  refine sm_if_ne (Y := mX1_freedom) (pc := 4) 9 (by decide) dX1_freedom_4 (fun hc => ?_) (fun hc => ?_)
  · replace h := h.1 hc
    refine sm_aload_n (Y := mX1_freedom) (pc := 9) 0 0 rfl rfl dX1_freedom_9 ?_
    refine sm_aload_n (Y := mX1_freedom) (pc := 10) 1 1 rfl rfl dX1_freedom_10 ?_
    refine sm_iload_n (Y := mX1_freedom) (pc := 11) 2 2 rfl rfl dX1_freedom_11 ?_
    refine sm_iv_I (Y := mX1_freedom) (pc := 12) (As := [.ref (sm_B E + 16), .int x2]) (a := 27) fX1_write wRX1_20 (lk_27 hly) (by decide) rfl rfl rfl (Nat.le_trans (by decide) hd) (Nat.le_of_ble_eq_true rfl) ⟨Nat.le_refl _, Nat.le_refl _⟩ dX1_freedom_12 rfl (sm_monoI h (fun r_4 m_3 h => ?_))
    refine sm_istore0_n (Y := mX1_freedom) (pc := 15) [(3, .int r_4), (0, .ref (sm_B E + 27)), (1, .ref (sm_B E + 16)), (2, .int x2)] 3 rfl (by decide) rfl dX1_freedom_15 ?_
    refine sm_aload_n (Y := mX1_freedom) (pc := 16) 2 1 rfl rfl dX1_freedom_16 ?_
    refine gf_RX1_24 (Y := mX1_freedom) (pc := 17) rfl ((lk_16 hly) _) dX1_freedom_17 ?_
    refine sm_iload_n (Y := mX1_freedom) (pc := 20) 0 3 rfl rfl dX1_freedom_20 ?_
    refine sm_iadd (Y := mX1_freedom) (pc := 21) dX1_freedom_21 ?_
    refine sm_aload_n (Y := mX1_freedom) (pc := 22) 1 0 rfl rfl dX1_freedom_22 ?_
    refine sm_aload_n (Y := mX1_freedom) (pc := 23) 2 1 rfl rfl dX1_freedom_23 ?_
    refine gf_RX1_30 (Y := mX1_freedom) (pc := 24) rfl ((lk_16 hly) _) dX1_freedom_24 ?_
    refine sm_iload_n (Y := mX1_freedom) (pc := 27) 0 3 rfl rfl dX1_freedom_27 ?_
    refine sm_iload_n (Y := mX1_freedom) (pc := 28) 3 2 rfl rfl dX1_freedom_28 ?_
    refine sm_iv_I (Y := mX1_freedom) (pc := 29) (As := [.int (m_3.1 16 10), .int r_4, .int x2]) (a := 27) fX1_rank wRX1_33 (lk_27 hly) (by decide) rfl rfl rfl (Nat.le_trans (by decide) hd) (Nat.le_of_ble_eq_true rfl) ⟨Nat.le_refl _, Nat.le_refl _⟩ dX1_freedom_29 rfl (sm_monoI h (fun r_7 m_6 h => ?_))
    refine sm_isub (Y := mX1_freedom) (pc := 32) dX1_freedom_32 ?_
    exact sm_iret (Y := mX1_freedom) (pc := 33) rfl rfl rfl dX1_freedom_33 ⟨_, rfl, h⟩
  · replace h := h.2 hc
    refine sm_iconst (Y := mX1_freedom) (pc := 7) 0 (by decide) dX1_freedom_7 ?_
    exact sm_iret (Y := mX1_freedom) (pc := 8) rfl rfl rfl dX1_freedom_8 ⟨_, rfl, h⟩
def gX1_write_117 (E : sm_E) (L : sm_S → Prop) (d : Nat) (vs : List Value) (x2 : Int32) (x3 : Int32) (x4 : Int32) (x5 : Int32) (x7 : Int32) (x8 : Int32) (s0 : Int32) (m : sm_M) (Q : Int32 → sm_M → Prop) : Prop := sm_go E L mX1_write d 0 0 vs 117 [(0, .ref (sm_B E + 27)), (1, .ref (sm_B E + 16)), (2, .int x2), (3, .int x3), (4, .int x4), (5, .int x5), (7, .int x7), (8, .int x8)] [.int s0] m 0 0 (sm_Z E L vs 0 0 (sm_QI Q))
def gX1_write_54 (E : sm_E) (L : sm_S → Prop) (d : Nat) (vs : List Value) (x2 : Int32) (x3 : Int32) (x4 : Int32) (x5 : Int32) (x6 : Int32) (x7 : Int32) (m : sm_M) (Q : Int32 → sm_M → Prop) : Prop := sm_go E L mX1_write d 0 0 vs 54 [(0, .ref (sm_B E + 27)), (1, .ref (sm_B E + 16)), (2, .int x2), (3, .int x3), (4, .int x4), (5, .int x5), (6, .int x6), (7, .int x7)] [] m 0 0 (sm_Z E L vs 0 0 (sm_QI Q))
def gX1_write_31 (E : sm_E) (L : sm_S → Prop) (d : Nat) (vs : List Value) (x2 : Int32) (x3 : Int32) (x4 : Int32) (m : sm_M) (Q : Int32 → sm_M → Prop) : Prop := sm_go E L mX1_write d 0 0 vs 31 [(0, .ref (sm_B E + 27)), (1, .ref (sm_B E + 16)), (2, .int x2), (3, .int x3), (4, .int x4)] [] m 0 0 (sm_Z E L vs 0 0 (sm_QI Q))
def gX1_write_2 (E : sm_E) (L : sm_S → Prop) (d : Nat) (vs : List Value) (x2 : Int32) (x3 : Int32) (m : sm_M) (Q : Int32 → sm_M → Prop) : Prop := sm_go E L mX1_write d 0 0 vs 2 [(0, .ref (sm_B E + 27)), (1, .ref (sm_B E + 16)), (2, .int x2), (3, .int x3)] [] m 0 0 (sm_Z E L vs 0 0 (sm_QI Q))
theorem dX1_write_117 : decode cX1_write 117 = .ok (.istore 6, 2) := dk_istore 6 (b := 6) (by decide +kernel) (by decide +kernel) (by decide +kernel)
theorem dX1_write_119 : decode cX1_write 119 = .ok (.aload_n 0, 1) := dk_aload_n_0 (by decide +kernel)
theorem dX1_write_120 : decode cX1_write 120 = .ok (.iload 8, 2) := dk_iload 8 (b := 8) (by decide +kernel) (by decide +kernel) (by decide +kernel)
theorem dX1_write_122 : decode cX1_write 122 = .ok (.iload_n 3, 1) := dk_iload_n_3 (by decide +kernel)
theorem dX1_write_123 : decode cX1_write 123 = .ok (.iload 6, 2) := dk_iload 6 (b := 6) (by decide +kernel) (by decide +kernel) (by decide +kernel)
theorem dX1_write_125 : decode cX1_write 125 = .ok (.iadd, 1) := dk_iadd (by decide +kernel)
theorem dX1_write_126 : decode cX1_write 126 = .ok (.iload_n 2, 1) := dk_iload_n_2 (by decide +kernel)
theorem dX1_write_127 : decode cX1_write 127 = .ok (.iconst 1, 1) := dk_iconst_1 (by decide +kernel)
theorem dX1_write_128 : decode cX1_write 128 = .ok (.isub, 1) := dk_isub (by decide +kernel)
theorem dX1_write_129 : decode cX1_write 129 = .ok (.iload_n 2, 1) := dk_iload_n_2 (by decide +kernel)
theorem wRX1_61 : Cond.methodLink RX1 61 yX1_weigh ∈ sm_T := sm_in 875 (by decide +kernel) (by decide +kernel)
abbrev mX1_weigh : sm_Y := (yX1_weigh, cX1_weigh, 5, none)
theorem fX1_weigh : sm_mi mX1_weigh RX1 4 := ⟨sm_in 878 (by decide +kernel) (by decide +kernel), sm_in 877 (by decide +kernel) (by decide +kernel), sm_in 28 (by decide +kernel) (by decide +kernel), sm_in 88 (by decide +kernel) (by decide +kernel), rfl, ⟨by decide +kernel, by decide +kernel, by decide +kernel⟩, by decide⟩
theorem dX1_write_130 : decode cX1_write 130 = .ok (.invokevirtual 61, 3) := dk_invokevirtual 61 (b1 := 0) (b2 := 61) (by decide +kernel) (by decide +kernel) (by decide +kernel) (by decide +kernel)
theorem dX1_write_133 : decode cX1_write 133 = .ok (.goto 15, 3) := dk_goto 15 (b1 := 0) (b2 := 15) (by decide +kernel) (by decide +kernel) (by decide +kernel) (by decide +kernel)
theorem dX1_write_148 : decode cX1_write 148 = .ok (.iinc 7 1, 3) := dk_iinc 7 1 (b1 := 7) (b2 := 1) (by decide +kernel) (by decide +kernel) (by decide +kernel) (by decide +kernel) (by decide +kernel)
theorem dX1_write_151 : decode cX1_write 151 = .ok (.goto (-97), 3) := dk_goto (-97) (b1 := 255) (b2 := 159) (by decide +kernel) (by decide +kernel) (by decide +kernel) (by decide +kernel)
set_option maxRecDepth 20000 in
theorem vX1_write_117 {E : sm_E} {L : sm_S → Prop} {d : Nat} {vs : List Value} {x2 : Int32} {x3 : Int32} {x4 : Int32} {x5 : Int32} {x7 : Int32} {x8 : Int32} {s0 : Int32}  {m : sm_M} {Q : Int32 → sm_M → Prop} (hly : ∀ S, L S → ly S) (hd : 3 ≤ d) 
  (h : sm_callV E L mX1_weigh 1 0 0 [.ref (sm_B E + 27), .int x8, .int (x3 + s0), .int (x2 - 1), .int x2] m (fun m_2 =>
   ∀ x7_3 : Int32, x7_3 = x7 + 1 →
   gX1_write_54 E L d vs x2 x3 x4 x5 s0 x7_3 m_2 Q)) :
  gX1_write_117 E L d vs x2 x3 x4 x5 x7 x8 s0 m Q := by
  refine sm_istore0 (Y := mX1_write) (pc := 117) [(6, .int s0), (0, .ref (sm_B E + 27)), (1, .ref (sm_B E + 16)), (2, .int x2), (3, .int x3), (4, .int x4), (5, .int x5), (7, .int x7), (8, .int x8)] 6 (by decide) rfl dX1_write_117 ?_
  refine sm_aload_n (Y := mX1_write) (pc := 119) 1 0 rfl rfl dX1_write_119 ?_
  refine sm_iload (Y := mX1_write) (pc := 120) 8 8 rfl dX1_write_120 ?_
  refine sm_iload_n (Y := mX1_write) (pc := 122) 4 3 rfl rfl dX1_write_122 ?_
  refine sm_iload (Y := mX1_write) (pc := 123) 0 6 rfl dX1_write_123 ?_
  refine sm_iadd (Y := mX1_write) (pc := 125) dX1_write_125 ?_
  refine sm_iload_n (Y := mX1_write) (pc := 126) 3 2 rfl rfl dX1_write_126 ?_
  refine sm_iconst (Y := mX1_write) (pc := 127) 1 (by decide) dX1_write_127 ?_
  refine sm_isub (Y := mX1_write) (pc := 128) dX1_write_128 ?_
  refine sm_iload_n (Y := mX1_write) (pc := 129) 3 2 rfl rfl dX1_write_129 ?_
  refine sm_iv_V (Y := mX1_write) (pc := 130) (As := [.int x8, .int (x3 + s0), .int (x2 - 1), .int x2]) (a := 27) fX1_weigh wRX1_61 (lk_27 hly) (by decide) rfl rfl rfl (Nat.le_trans (by decide) hd) (Nat.le_of_ble_eq_true rfl) ⟨Nat.le_refl _, Nat.le_refl _⟩ dX1_write_130 rfl (sm_monoV h (fun m_2 h => ?_))
  refine sm_goto (Y := mX1_write) (pc := 133) 148 (by decide) dX1_write_133 ?_
  refine sm_iinc (Y := mX1_write) (pc := 148) (fun y => [(7, .int y), (6, .int s0), (0, .ref (sm_B E + 27)), (1, .ref (sm_B E + 16)), (2, .int x2), (3, .int x3), (4, .int x4), (5, .int x5), (8, .int x8)]) 7 7 rfl (by decide) (fun _ => rfl) dX1_write_148 (fun x7_3 ex7_3 => ?_)
  replace h := h x7_3 ex7_3
  refine sm_goto (Y := mX1_write) (pc := 151) 54 (by decide) dX1_write_151 ?_
  refine sm_sub [2, 3, 4, 5, 6, 7, 1, 0] rfl ?_
  exact h
theorem dX1_write_54 : decode cX1_write 54 = .ok (.iload 7, 2) := dk_iload 7 (b := 7) (by decide +kernel) (by decide +kernel) (by decide +kernel)
theorem dX1_write_56 : decode cX1_write 56 = .ok (.aload_n 1, 1) := dk_aload_n_1 (by decide +kernel)
theorem dX1_write_57 : decode cX1_write 57 = .ok (.iload 4, 2) := dk_iload 4 (b := 4) (by decide +kernel) (by decide +kernel) (by decide +kernel)
theorem wRX1_50 : Cond.methodLink RX1 50 yX2_passesOf ∈ sm_T := sm_in 872 (by decide +kernel) (by decide +kernel)
abbrev mX2_passesOf : sm_Y := (yX2_passesOf, cX2_passesOf, 2, (some FieldType.int))
theorem fX2_passesOf : sm_mi mX2_passesOf RX2 1 := ⟨sm_in 790 (by decide +kernel) (by decide +kernel), sm_in 788 (by decide +kernel) (by decide +kernel), sm_in 789 (by decide +kernel) (by decide +kernel), sm_in 87 (by decide +kernel) (by decide +kernel), rfl, ⟨by decide +kernel, by decide +kernel, by decide +kernel⟩, by decide⟩
theorem dX1_write_59 : decode cX1_write 59 = .ok (.invokevirtual 50, 3) := dk_invokevirtual 50 (b1 := 0) (b2 := 50) (by decide +kernel) (by decide +kernel) (by decide +kernel) (by decide +kernel)
theorem dX1_write_62 : decode cX1_write 62 = .ok (.if_icmp .ge 92, 3) := dk_if_icmp_ge 92 (b1 := 0) (b2 := 92) (by decide +kernel) (by decide +kernel) (by decide +kernel) (by decide +kernel)
theorem dX1_write_154 : decode cX1_write 154 = .ok (.iload_n 3, 1) := dk_iload_n_3 (by decide +kernel)
theorem dX1_write_155 : decode cX1_write 155 = .ok (.iload 5, 2) := dk_iload 5 (b := 5) (by decide +kernel) (by decide +kernel) (by decide +kernel)
theorem dX1_write_157 : decode cX1_write 157 = .ok (.iadd, 1) := dk_iadd (by decide +kernel)
theorem dX1_write_158 : decode cX1_write 158 = .ok (.istore_n 3, 1) := dk_istore_n_3 (by decide +kernel)
theorem dX1_write_159 : decode cX1_write 159 = .ok (.iinc 4 1, 3) := dk_iinc 4 1 (b1 := 4) (b2 := 1) (by decide +kernel) (by decide +kernel) (by decide +kernel) (by decide +kernel) (by decide +kernel)
theorem dX1_write_162 : decode cX1_write 162 = .ok (.goto (-131), 3) := dk_goto (-131) (b1 := 255) (b2 := 125) (by decide +kernel) (by decide +kernel) (by decide +kernel) (by decide +kernel)
theorem dX1_write_65 : decode cX1_write 65 = .ok (.aload_n 1, 1) := dk_aload_n_1 (by decide +kernel)
theorem dX1_write_66 : decode cX1_write 66 = .ok (.iload 4, 2) := dk_iload 4 (b := 4) (by decide +kernel) (by decide +kernel) (by decide +kernel)
theorem dX1_write_68 : decode cX1_write 68 = .ok (.iload 7, 2) := dk_iload 7 (b := 7) (by decide +kernel) (by decide +kernel) (by decide +kernel)
theorem wRX1_53 : Cond.methodLink RX1 53 yX2_crossingOf ∈ sm_T := sm_in 873 (by decide +kernel) (by decide +kernel)
abbrev mX2_crossingOf : sm_Y := (yX2_crossingOf, cX2_crossingOf, 3, (some FieldType.int))
theorem fX2_crossingOf : sm_mi mX2_crossingOf RX2 2 := ⟨sm_in 847 (by decide +kernel) (by decide +kernel), sm_in 845 (by decide +kernel) (by decide +kernel), sm_in 846 (by decide +kernel) (by decide +kernel), sm_in 87 (by decide +kernel) (by decide +kernel), rfl, ⟨by decide +kernel, by decide +kernel, by decide +kernel⟩, by decide⟩
theorem dX1_write_70 : decode cX1_write 70 = .ok (.invokevirtual 53, 3) := dk_invokevirtual 53 (b1 := 0) (b2 := 53) (by decide +kernel) (by decide +kernel) (by decide +kernel) (by decide +kernel)
theorem dX1_write_73 : decode cX1_write 73 = .ok (.istore 8, 2) := dk_istore 8 (b := 8) (by decide +kernel) (by decide +kernel) (by decide +kernel)
theorem dX1_write_75 : decode cX1_write 75 = .ok (.aload_n 1, 1) := dk_aload_n_1 (by decide +kernel)
theorem dX1_write_76 : decode cX1_write 76 = .ok (.iload 4, 2) := dk_iload 4 (b := 4) (by decide +kernel) (by decide +kernel) (by decide +kernel)
theorem dX1_write_78 : decode cX1_write 78 = .ok (.iload 7, 2) := dk_iload 7 (b := 7) (by decide +kernel) (by decide +kernel) (by decide +kernel)
theorem wRX1_57 : Cond.methodLink RX1 57 yX2_isUnder ∈ sm_T := sm_in 874 (by decide +kernel) (by decide +kernel)
abbrev mX2_isUnder : sm_Y := (yX2_isUnder, cX2_isUnder, 3, (some FieldType.boolean))
theorem fX2_isUnder : sm_mi mX2_isUnder RX2 2 := ⟨sm_in 794 (by decide +kernel) (by decide +kernel), sm_in 792 (by decide +kernel) (by decide +kernel), sm_in 793 (by decide +kernel) (by decide +kernel), sm_in 87 (by decide +kernel) (by decide +kernel), rfl, ⟨by decide +kernel, by decide +kernel, by decide +kernel⟩, by decide⟩
theorem dX1_write_80 : decode cX1_write 80 = .ok (.invokevirtual 57, 3) := dk_invokevirtual 57 (b1 := 0) (b2 := 57) (by decide +kernel) (by decide +kernel) (by decide +kernel) (by decide +kernel)
theorem dX1_write_83 : decode cX1_write 83 = .ok (.ifCond .eq 53, 3) := dk_ifCond_eq 53 (b1 := 0) (b2 := 53) (by decide +kernel) (by decide +kernel) (by decide +kernel) (by decide +kernel)
theorem dX1_write_136 : decode cX1_write 136 = .ok (.aload_n 0, 1) := dk_aload_n_0 (by decide +kernel)
theorem dX1_write_137 : decode cX1_write 137 = .ok (.iload 8, 2) := dk_iload 8 (b := 8) (by decide +kernel) (by decide +kernel) (by decide +kernel)
theorem dX1_write_139 : decode cX1_write 139 = .ok (.iload_n 3, 1) := dk_iload_n_3 (by decide +kernel)
theorem dX1_write_140 : decode cX1_write 140 = .ok (.iload 6, 2) := dk_iload 6 (b := 6) (by decide +kernel) (by decide +kernel) (by decide +kernel)
theorem dX1_write_142 : decode cX1_write 142 = .ok (.iadd, 1) := dk_iadd (by decide +kernel)
theorem dX1_write_143 : decode cX1_write 143 = .ok (.iconst 2, 1) := dk_iconst_2 (by decide +kernel)
theorem dX1_write_144 : decode cX1_write 144 = .ok (.iload_n 2, 1) := dk_iload_n_2 (by decide +kernel)
theorem dX1_write_145 : decode cX1_write 145 = .ok (.invokevirtual 61, 3) := dk_invokevirtual 61 (b1 := 0) (b2 := 61) (by decide +kernel) (by decide +kernel) (by decide +kernel) (by decide +kernel)
theorem dX1_write_86 : decode cX1_write 86 = .ok (.aload_n 0, 1) := dk_aload_n_0 (by decide +kernel)
theorem dX1_write_87 : decode cX1_write 87 = .ok (.iload 8, 2) := dk_iload 8 (b := 8) (by decide +kernel) (by decide +kernel) (by decide +kernel)
theorem dX1_write_89 : decode cX1_write 89 = .ok (.iload_n 3, 1) := dk_iload_n_3 (by decide +kernel)
theorem dX1_write_90 : decode cX1_write 90 = .ok (.iload 6, 2) := dk_iload 6 (b := 6) (by decide +kernel) (by decide +kernel) (by decide +kernel)
theorem dX1_write_92 : decode cX1_write 92 = .ok (.iadd, 1) := dk_iadd (by decide +kernel)
theorem dX1_write_93 : decode cX1_write 93 = .ok (.iload_n 2, 1) := dk_iload_n_2 (by decide +kernel)
theorem dX1_write_94 : decode cX1_write 94 = .ok (.iconst 1, 1) := dk_iconst_1 (by decide +kernel)
theorem dX1_write_95 : decode cX1_write 95 = .ok (.isub, 1) := dk_isub (by decide +kernel)
theorem dX1_write_96 : decode cX1_write 96 = .ok (.iload_n 2, 1) := dk_iload_n_2 (by decide +kernel)
theorem dX1_write_97 : decode cX1_write 97 = .ok (.invokevirtual 61, 3) := dk_invokevirtual 61 (b1 := 0) (b2 := 61) (by decide +kernel) (by decide +kernel) (by decide +kernel) (by decide +kernel)
theorem dX1_write_100 : decode cX1_write 100 = .ok (.iload 6, 2) := dk_iload 6 (b := 6) (by decide +kernel) (by decide +kernel) (by decide +kernel)
theorem dX1_write_102 : decode cX1_write 102 = .ok (.iconst 1, 1) := dk_iconst_1 (by decide +kernel)
theorem dX1_write_103 : decode cX1_write 103 = .ok (.iadd, 1) := dk_iadd (by decide +kernel)
theorem dX1_write_104 : decode cX1_write 104 = .ok (.iload 5, 2) := dk_iload 5 (b := 5) (by decide +kernel) (by decide +kernel) (by decide +kernel)
theorem dX1_write_106 : decode cX1_write 106 = .ok (.if_icmp .ge 10, 3) := dk_if_icmp_ge 10 (b1 := 0) (b2 := 10) (by decide +kernel) (by decide +kernel) (by decide +kernel) (by decide +kernel)
theorem dX1_write_116 : decode cX1_write 116 = .ok (.iconst 0, 1) := dk_iconst_0 (by decide +kernel)
theorem dX1_write_109 : decode cX1_write 109 = .ok (.iload 6, 2) := dk_iload 6 (b := 6) (by decide +kernel) (by decide +kernel) (by decide +kernel)
theorem dX1_write_111 : decode cX1_write 111 = .ok (.iconst 1, 1) := dk_iconst_1 (by decide +kernel)
theorem dX1_write_112 : decode cX1_write 112 = .ok (.iadd, 1) := dk_iadd (by decide +kernel)
theorem dX1_write_113 : decode cX1_write 113 = .ok (.goto 4, 3) := dk_goto 4 (b1 := 0) (b2 := 4) (by decide +kernel) (by decide +kernel) (by decide +kernel) (by decide +kernel)
set_option maxRecDepth 20000 in
theorem vX1_write_54 {E : sm_E} {L : sm_S → Prop} {d : Nat} {vs : List Value} {x2 : Int32} {x3 : Int32} {x4 : Int32} {x5 : Int32} {x6 : Int32} {x7 : Int32}  {m : sm_M} {Q : Int32 → sm_M → Prop} (hly : ∀ S, L S → ly S) (hd : 3 ≤ d) 
  (h : sm_callI E L mX2_passesOf 1 0 0 [.ref (sm_B E + 16), .int x4] m (fun r_2 m_1 =>
   (r_2 ≤ x7 →
      ∀ x3_3 : Int32, x3_3 = x3 + x5 →
      ∀ x4_4 : Int32, x4_4 = x4 + 1 →
      gX1_write_31 E L d vs x2 x3_3 x4_4 m_1 Q) ∧
   (¬ r_2 ≤ x7 →
      sm_callI E L mX2_crossingOf 1 0 0 [.ref (sm_B E + 16), .int x4, .int x7] m_1 (fun r_6 m_5 =>
      sm_callI E L mX2_isUnder 1 0 0 [.ref (sm_B E + 16), .int x4, .int x7] m_5 (fun r_9 m_8 =>
      (r_9 = 0 →
         sm_callV E L mX1_weigh 1 0 0 [.ref (sm_B E + 27), .int r_6, .int (x3 + x6), .int 2, .int x2] m_8 (fun m_10 =>
         ∀ x7_11 : Int32, x7_11 = x7 + 1 →
         gX1_write_54 E L d vs x2 x3 x4 x5 x6 x7_11 m_10 Q)) ∧
      (¬ r_9 = 0 →
         sm_callV E L mX1_weigh 1 0 0 [.ref (sm_B E + 27), .int r_6, .int (x3 + x6), .int (x2 - 1), .int x2] m_8 (fun m_12 =>
         (x5 ≤ (x6 + 1) →
            gX1_write_117 E L d vs x2 x3 x4 x5 x7 r_6 0 m_12 Q) ∧
         (¬ x5 ≤ (x6 + 1) →
            gX1_write_117 E L d vs x2 x3 x4 x5 x7 r_6 (x6 + 1) m_12 Q)))))))) :
  gX1_write_54 E L d vs x2 x3 x4 x5 x6 x7 m Q := by
  refine sm_iload (Y := mX1_write) (pc := 54) 7 7 rfl dX1_write_54 ?_
  refine sm_aload_n (Y := mX1_write) (pc := 56) 1 1 rfl rfl dX1_write_56 ?_
  refine sm_iload (Y := mX1_write) (pc := 57) 4 4 rfl dX1_write_57 ?_
  refine sm_iv_I (Y := mX1_write) (pc := 59) (As := [.int x4]) (a := 16) fX2_passesOf wRX1_50 (lk_16 hly) (by decide) rfl rfl rfl (Nat.le_trans (by decide) hd) (Nat.le_of_ble_eq_true rfl) ⟨Nat.le_refl _, Nat.le_refl _⟩ dX1_write_59 rfl (sm_monoI h (fun r_2 m_1 h => ?_))
  refine sm_icmp_ge (Y := mX1_write) (pc := 62) 154 (by decide) dX1_write_62 (fun hc => ?_) (fun hc => ?_)
  · replace h := h.1 hc
    refine sm_iload_n (Y := mX1_write) (pc := 154) 3 3 rfl rfl dX1_write_154 ?_
    refine sm_iload (Y := mX1_write) (pc := 155) 5 5 rfl dX1_write_155 ?_
    refine sm_iadd (Y := mX1_write) (pc := 157) dX1_write_157 ?_
    refine sm_istore_n (Y := mX1_write) (pc := 158) (fun y => [(3, .int y), (0, .ref (sm_B E + 27)), (1, .ref (sm_B E + 16)), (2, .int x2), (4, .int x4), (5, .int x5), (6, .int x6), (7, .int x7)]) 3 rfl (by decide) (fun _ => rfl) dX1_write_158 (fun x3_3 ex3_3 => ?_)
    replace h := h x3_3 ex3_3
    refine sm_iinc (Y := mX1_write) (pc := 159) (fun y => [(4, .int y), (3, .int x3_3), (0, .ref (sm_B E + 27)), (1, .ref (sm_B E + 16)), (2, .int x2), (5, .int x5), (6, .int x6), (7, .int x7)]) 4 4 rfl (by decide) (fun _ => rfl) dX1_write_159 (fun x4_4 ex4_4 => ?_)
    replace h := h x4_4 ex4_4
    refine sm_goto (Y := mX1_write) (pc := 162) 31 (by decide) dX1_write_162 ?_
    refine sm_sub [2, 3, 4, 1, 0] rfl ?_
    exact h
  · replace h := h.2 hc
    refine sm_aload_n (Y := mX1_write) (pc := 65) 1 1 rfl rfl dX1_write_65 ?_
    refine sm_iload (Y := mX1_write) (pc := 66) 4 4 rfl dX1_write_66 ?_
    refine sm_iload (Y := mX1_write) (pc := 68) 7 7 rfl dX1_write_68 ?_
    refine sm_iv_I (Y := mX1_write) (pc := 70) (As := [.int x4, .int x7]) (a := 16) fX2_crossingOf wRX1_53 (lk_16 hly) (by decide) rfl rfl rfl (Nat.le_trans (by decide) hd) (Nat.le_of_ble_eq_true rfl) ⟨Nat.le_refl _, Nat.le_refl _⟩ dX1_write_70 rfl (sm_monoI h (fun r_6 m_5 h => ?_))
    refine sm_istore0 (Y := mX1_write) (pc := 73) [(8, .int r_6), (0, .ref (sm_B E + 27)), (1, .ref (sm_B E + 16)), (2, .int x2), (3, .int x3), (4, .int x4), (5, .int x5), (6, .int x6), (7, .int x7)] 8 (by decide) rfl dX1_write_73 ?_
    refine sm_aload_n (Y := mX1_write) (pc := 75) 2 1 rfl rfl dX1_write_75 ?_
    refine sm_iload (Y := mX1_write) (pc := 76) 5 4 rfl dX1_write_76 ?_
    refine sm_iload (Y := mX1_write) (pc := 78) 8 7 rfl dX1_write_78 ?_
    refine sm_iv_I (Y := mX1_write) (pc := 80) (As := [.int x4, .int x7]) (a := 16) fX2_isUnder wRX1_57 (lk_16 hly) (by decide) rfl rfl rfl (Nat.le_trans (by decide) hd) (Nat.le_of_ble_eq_true rfl) ⟨Nat.le_refl _, Nat.le_refl _⟩ dX1_write_80 rfl (sm_monoI h (fun r_9 m_8 h => ?_))
    refine sm_if_eq (Y := mX1_write) (pc := 83) 136 (by decide) dX1_write_83 (fun hc => ?_) (fun hc => ?_)
    · replace h := h.1 hc
      refine sm_aload_n (Y := mX1_write) (pc := 136) 1 0 rfl rfl dX1_write_136 ?_
      refine sm_iload (Y := mX1_write) (pc := 137) 0 8 rfl dX1_write_137 ?_
      refine sm_iload_n (Y := mX1_write) (pc := 139) 4 3 rfl rfl dX1_write_139 ?_
      refine sm_iload (Y := mX1_write) (pc := 140) 7 6 rfl dX1_write_140 ?_
      refine sm_iadd (Y := mX1_write) (pc := 142) dX1_write_142 ?_
      refine sm_iconst (Y := mX1_write) (pc := 143) 2 (by decide) dX1_write_143 ?_
      refine sm_iload_n (Y := mX1_write) (pc := 144) 3 2 rfl rfl dX1_write_144 ?_
      refine sm_iv_V (Y := mX1_write) (pc := 145) (As := [.int r_6, .int (x3 + x6), .int 2, .int x2]) (a := 27) fX1_weigh wRX1_61 (lk_27 hly) (by decide) rfl rfl rfl (Nat.le_trans (by decide) hd) (Nat.le_of_ble_eq_true rfl) ⟨Nat.le_refl _, Nat.le_refl _⟩ dX1_write_145 rfl (sm_monoV h (fun m_10 h => ?_))
      refine sm_iinc (Y := mX1_write) (pc := 148) (fun y => [(7, .int y), (8, .int r_6), (0, .ref (sm_B E + 27)), (1, .ref (sm_B E + 16)), (2, .int x2), (3, .int x3), (4, .int x4), (5, .int x5), (6, .int x6)]) 8 7 rfl (by decide) (fun _ => rfl) dX1_write_148 (fun x7_11 ex7_11 => ?_)
      replace h := h x7_11 ex7_11
      refine sm_goto (Y := mX1_write) (pc := 151) 54 (by decide) dX1_write_151 ?_
      refine sm_sub [2, 3, 4, 5, 6, 7, 8, 0] rfl ?_
      exact h
    · replace h := h.2 hc
      refine sm_aload_n (Y := mX1_write) (pc := 86) 1 0 rfl rfl dX1_write_86 ?_
      refine sm_iload (Y := mX1_write) (pc := 87) 0 8 rfl dX1_write_87 ?_
      refine sm_iload_n (Y := mX1_write) (pc := 89) 4 3 rfl rfl dX1_write_89 ?_
      refine sm_iload (Y := mX1_write) (pc := 90) 7 6 rfl dX1_write_90 ?_
      refine sm_iadd (Y := mX1_write) (pc := 92) dX1_write_92 ?_
      refine sm_iload_n (Y := mX1_write) (pc := 93) 3 2 rfl rfl dX1_write_93 ?_
      refine sm_iconst (Y := mX1_write) (pc := 94) 1 (by decide) dX1_write_94 ?_
      refine sm_isub (Y := mX1_write) (pc := 95) dX1_write_95 ?_
      refine sm_iload_n (Y := mX1_write) (pc := 96) 3 2 rfl rfl dX1_write_96 ?_
      refine sm_iv_V (Y := mX1_write) (pc := 97) (As := [.int r_6, .int (x3 + x6), .int (x2 - 1), .int x2]) (a := 27) fX1_weigh wRX1_61 (lk_27 hly) (by decide) rfl rfl rfl (Nat.le_trans (by decide) hd) (Nat.le_of_ble_eq_true rfl) ⟨Nat.le_refl _, Nat.le_refl _⟩ dX1_write_97 rfl (sm_monoV h (fun m_12 h => ?_))
      refine sm_iload (Y := mX1_write) (pc := 100) 7 6 rfl dX1_write_100 ?_
      refine sm_iconst (Y := mX1_write) (pc := 102) 1 (by decide) dX1_write_102 ?_
      refine sm_iadd (Y := mX1_write) (pc := 103) dX1_write_103 ?_
      refine sm_iload (Y := mX1_write) (pc := 104) 6 5 rfl dX1_write_104 ?_
      refine sm_icmp_ge (Y := mX1_write) (pc := 106) 116 (by decide) dX1_write_106 (fun hc => ?_) (fun hc => ?_)
      · replace h := h.1 hc
        refine sm_iconst (Y := mX1_write) (pc := 116) 0 (by decide) dX1_write_116 ?_
        refine sm_sub [1, 2, 3, 4, 5, 6, 8, 0] rfl ?_
        exact h
      · replace h := h.2 hc
        refine sm_iload (Y := mX1_write) (pc := 109) 7 6 rfl dX1_write_109 ?_
        refine sm_iconst (Y := mX1_write) (pc := 111) 1 (by decide) dX1_write_111 ?_
        refine sm_iadd (Y := mX1_write) (pc := 112) dX1_write_112 ?_
        refine sm_goto (Y := mX1_write) (pc := 113) 117 (by decide) dX1_write_113 ?_
        refine sm_sub [1, 2, 3, 4, 5, 6, 8, 0] rfl ?_
        exact h
theorem dX1_write_31 : decode cX1_write 31 = .ok (.iload 4, 2) := dk_iload 4 (b := 4) (by decide +kernel) (by decide +kernel) (by decide +kernel)
theorem dX1_write_33 : decode cX1_write 33 = .ok (.aload_n 1, 1) := dk_aload_n_1 (by decide +kernel)
theorem dX1_write_34 : decode cX1_write 34 = .ok (.getfield 43, 3) := dk_getfield 43 (b1 := 0) (b2 := 43) (by decide +kernel) (by decide +kernel) (by decide +kernel) (by decide +kernel)
theorem dX1_write_37 : decode cX1_write 37 = .ok (.if_icmp .ge 128, 3) := dk_if_icmp_ge 128 (b1 := 0) (b2 := 128) (by decide +kernel) (by decide +kernel) (by decide +kernel) (by decide +kernel)
theorem dX1_write_165 : decode cX1_write 165 = .ok (.iload_n 3, 1) := dk_iload_n_3 (by decide +kernel)
theorem dX1_write_166 : decode cX1_write 166 = .ok (.bipush 48, 2) := dk_bipush 48 (b := 48) (by decide +kernel) (by decide +kernel) (by decide +kernel)
theorem wRX1_65 : Cond.methodLink RX1 65 yJ9_min_7cf53 ∈ sm_T := sm_in 879 (by decide +kernel) (by decide +kernel)
theorem dX1_write_168 : decode cX1_write 168 = .ok (.invokestatic 65, 3) := dk_invokestatic 65 (b1 := 0) (b2 := 65) (by decide +kernel) (by decide +kernel) (by decide +kernel) (by decide +kernel)
theorem dX1_write_171 : decode cX1_write 171 = .ok (.ireturn, 1) := dk_ireturn (by decide +kernel)
theorem dX1_write_40 : decode cX1_write 40 = .ok (.aload_n 1, 1) := dk_aload_n_1 (by decide +kernel)
theorem dX1_write_41 : decode cX1_write 41 = .ok (.iload 4, 2) := dk_iload 4 (b := 4) (by decide +kernel) (by decide +kernel) (by decide +kernel)
theorem wRX1_46 : Cond.methodLink RX1 46 yX2_arcsOf ∈ sm_T := sm_in 871 (by decide +kernel) (by decide +kernel)
abbrev mX2_arcsOf : sm_Y := (yX2_arcsOf, cX2_arcsOf, 4, (some FieldType.int))
theorem fX2_arcsOf : sm_mi mX2_arcsOf RX2 1 := ⟨sm_in 786 (by decide +kernel) (by decide +kernel), sm_in 784 (by decide +kernel) (by decide +kernel), sm_in 785 (by decide +kernel) (by decide +kernel), sm_in 87 (by decide +kernel) (by decide +kernel), rfl, ⟨by decide +kernel, by decide +kernel, by decide +kernel⟩, by decide⟩
theorem dX1_write_43 : decode cX1_write 43 = .ok (.invokevirtual 46, 3) := dk_invokevirtual 46 (b1 := 0) (b2 := 46) (by decide +kernel) (by decide +kernel) (by decide +kernel) (by decide +kernel)
theorem dX1_write_46 : decode cX1_write 46 = .ok (.istore 5, 2) := dk_istore 5 (b := 5) (by decide +kernel) (by decide +kernel) (by decide +kernel)
theorem dX1_write_48 : decode cX1_write 48 = .ok (.iconst 0, 1) := dk_iconst_0 (by decide +kernel)
theorem dX1_write_49 : decode cX1_write 49 = .ok (.istore 6, 2) := dk_istore 6 (b := 6) (by decide +kernel) (by decide +kernel) (by decide +kernel)
theorem dX1_write_51 : decode cX1_write 51 = .ok (.iconst 0, 1) := dk_iconst_0 (by decide +kernel)
theorem dX1_write_52 : decode cX1_write 52 = .ok (.istore 7, 2) := dk_istore 7 (b := 7) (by decide +kernel) (by decide +kernel) (by decide +kernel)
set_option maxRecDepth 20000 in
theorem vX1_write_31 {E : sm_E} {L : sm_S → Prop} {d : Nat} {vs : List Value} {x2 : Int32} {x3 : Int32} {x4 : Int32}  {m : sm_M} {Q : Int32 → sm_M → Prop} (hly : ∀ S, L S → ly S) (hd : 3 ≤ d) 
  (h : ((m.1 16 11) ≤ x4 →
      sm_callI E L mJ9_min_7cf53 1 0 0 [.int x3, .int 48] m (fun r_2 m_1 =>
      Q r_2 m_1)) ∧
   (¬ (m.1 16 11) ≤ x4 →
      sm_callI E L mX2_arcsOf 2 0 0 [.ref (sm_B E + 16), .int x4] m (fun r_4 m_3 =>
      gX1_write_54 E L d vs x2 x3 x4 r_4 0 0 m_3 Q))) :
  gX1_write_31 E L d vs x2 x3 x4 m Q := by
  refine sm_iload (Y := mX1_write) (pc := 31) 4 4 rfl dX1_write_31 ?_
  refine sm_aload_n (Y := mX1_write) (pc := 33) 1 1 rfl rfl dX1_write_33 ?_
  refine gf_RX1_43 (Y := mX1_write) (pc := 34) rfl ((lk_16 hly) _) dX1_write_34 ?_
  refine sm_icmp_ge (Y := mX1_write) (pc := 37) 165 (by decide) dX1_write_37 (fun hc => ?_) (fun hc => ?_)
  · replace h := h.1 hc
    refine sm_iload_n (Y := mX1_write) (pc := 165) 3 3 rfl rfl dX1_write_165 ?_
    refine sm_bipush (Y := mX1_write) (pc := 166) 48 (by decide) dX1_write_166 ?_
    refine sm_is_I (Y := mX1_write) (pc := 168) (As := [.int x3, .int 48]) fJ9_min_7cf53 wRX1_65 rfl (Nat.le_trans (by decide) hd) (Nat.le_of_ble_eq_true rfl) ⟨Nat.le_refl _, Nat.le_refl _⟩ dX1_write_168 rfl (sm_monoI h (fun r_2 m_1 h => ?_))
    exact sm_iret (Y := mX1_write) (pc := 171) rfl rfl rfl dX1_write_171 ⟨_, rfl, h⟩
  · replace h := h.2 hc
    refine sm_aload_n (Y := mX1_write) (pc := 40) 1 1 rfl rfl dX1_write_40 ?_
    refine sm_iload (Y := mX1_write) (pc := 41) 4 4 rfl dX1_write_41 ?_
    refine sm_iv_I (Y := mX1_write) (pc := 43) (As := [.int x4]) (a := 16) fX2_arcsOf wRX1_46 (lk_16 hly) (by decide) rfl rfl rfl (Nat.le_trans (by decide) hd) (Nat.le_of_ble_eq_true rfl) ⟨Nat.le_refl _, Nat.le_refl _⟩ dX1_write_43 rfl (sm_monoI h (fun r_4 m_3 h => ?_))
    refine sm_istore0 (Y := mX1_write) (pc := 46) [(5, .int r_4), (0, .ref (sm_B E + 27)), (1, .ref (sm_B E + 16)), (2, .int x2), (3, .int x3), (4, .int x4)] 5 (by decide) rfl dX1_write_46 ?_
    refine sm_iconst (Y := mX1_write) (pc := 48) 0 (by decide) dX1_write_48 ?_
    refine sm_istore0 (Y := mX1_write) (pc := 49) [(6, .int 0), (5, .int r_4), (0, .ref (sm_B E + 27)), (1, .ref (sm_B E + 16)), (2, .int x2), (3, .int x3), (4, .int x4)] 6 (by decide) rfl dX1_write_49 ?_
    refine sm_iconst (Y := mX1_write) (pc := 51) 0 (by decide) dX1_write_51 ?_
    refine sm_istore0 (Y := mX1_write) (pc := 52) [(7, .int 0), (6, .int 0), (5, .int r_4), (0, .ref (sm_B E + 27)), (1, .ref (sm_B E + 16)), (2, .int x2), (3, .int x3), (4, .int x4)] 7 (by decide) rfl dX1_write_52 ?_
    refine sm_sub [3, 4, 5, 6, 7, 2, 1, 0] rfl ?_
    exact h
theorem dX1_write_2 : decode cX1_write 2 = .ok (.iload_n 3, 1) := dk_iload_n_3 (by decide +kernel)
theorem dX1_write_3 : decode cX1_write 3 = .ok (.aload_n 1, 1) := dk_aload_n_1 (by decide +kernel)
theorem dX1_write_4 : decode cX1_write 4 = .ok (.getfield 30, 3) := dk_getfield 30 (b1 := 0) (b2 := 30) (by decide +kernel) (by decide +kernel) (by decide +kernel) (by decide +kernel)
theorem dX1_write_7 : decode cX1_write 7 = .ok (.if_icmp .ge 19, 3) := dk_if_icmp_ge 19 (b1 := 0) (b2 := 19) (by decide +kernel) (by decide +kernel) (by decide +kernel) (by decide +kernel)
theorem dX1_write_26 : decode cX1_write 26 = .ok (.iconst 0, 1) := dk_iconst_0 (by decide +kernel)
theorem dX1_write_27 : decode cX1_write 27 = .ok (.istore_n 3, 1) := dk_istore_n_3 (by decide +kernel)
theorem dX1_write_28 : decode cX1_write 28 = .ok (.iconst 0, 1) := dk_iconst_0 (by decide +kernel)
theorem dX1_write_29 : decode cX1_write 29 = .ok (.istore 4, 2) := dk_istore 4 (b := 4) (by decide +kernel) (by decide +kernel) (by decide +kernel)
theorem dX1_write_10 : decode cX1_write 10 = .ok (.aload_n 0, 1) := dk_aload_n_0 (by decide +kernel)
theorem dX1_write_11 : decode cX1_write 11 = .ok (.getfield 13, 3) := dk_getfield 13 (b1 := 0) (b2 := 13) (by decide +kernel) (by decide +kernel) (by decide +kernel) (by decide +kernel)
theorem dX1_write_14 : decode cX1_write 14 = .ok (.iload_n 3, 1) := dk_iload_n_3 (by decide +kernel)
theorem dX1_write_15 : decode cX1_write 15 = .ok (.aaload, 1) := dk_aaload (by decide +kernel)
theorem dX1_write_16 : decode cX1_write 16 = .ok (.iconst 0, 1) := dk_iconst_0 (by decide +kernel)
theorem wRX1_37 : Cond.methodLink RX1 37 yJ7_fill_53178 ∈ sm_T := sm_in 868 (by decide +kernel) (by decide +kernel)
theorem dX1_write_17 : decode cX1_write 17 = .ok (.invokestatic 37, 3) := dk_invokestatic 37 (b1 := 0) (b2 := 37) (by decide +kernel) (by decide +kernel) (by decide +kernel) (by decide +kernel)
theorem dX1_write_20 : decode cX1_write 20 = .ok (.iinc 3 1, 3) := dk_iinc 3 1 (b1 := 3) (b2 := 1) (by decide +kernel) (by decide +kernel) (by decide +kernel) (by decide +kernel) (by decide +kernel)
theorem dX1_write_23 : decode cX1_write 23 = .ok (.goto (-21), 3) := dk_goto (-21) (b1 := 255) (b2 := 235) (by decide +kernel) (by decide +kernel) (by decide +kernel) (by decide +kernel)
set_option maxRecDepth 20000 in
theorem vX1_write_2 {E : sm_E} {L : sm_S → Prop} {d : Nat} {vs : List Value} {x2 : Int32} {x3 : Int32}  {m : sm_M} {Q : Int32 → sm_M → Prop} (hly : ∀ S, L S → ly S) (hd : 3 ≤ d) 
  (h : ((m.1 16 10) ≤ x3 →
      gX1_write_31 E L d vs x2 0 0 m Q) ∧
   (¬ (m.1 16 10) ≤ x3 →
      (vp_in x3 24) ∧ ∀ j_4 : Nat, j_4 < 24 → m.2.2.1 28 x3.toNatClampNeg = some (29 + j_4) →
      sm_callV E L mJ7_fill_53178 1 0 0 [.ref (sm_B E + (29 + j_4)), .int 0] m (fun m_5 =>
      ∀ x3_6 : Int32, x3_6 = x3 + 1 →
      gX1_write_2 E L d vs x2 x3_6 m_5 Q))) :
  gX1_write_2 E L d vs x2 x3 m Q := by
  refine sm_iload_n (Y := mX1_write) (pc := 2) 3 3 rfl rfl dX1_write_2 ?_
  refine sm_aload_n (Y := mX1_write) (pc := 3) 1 1 rfl rfl dX1_write_3 ?_
  refine gf_RX1_30 (Y := mX1_write) (pc := 4) rfl ((lk_16 hly) _) dX1_write_4 ?_
  refine sm_icmp_ge (Y := mX1_write) (pc := 7) 26 (by decide) dX1_write_7 (fun hc => ?_) (fun hc => ?_)
  · replace h := h.1 hc
    refine sm_iconst (Y := mX1_write) (pc := 26) 0 (by decide) dX1_write_26 ?_
    refine sm_istore0_n (Y := mX1_write) (pc := 27) [(3, .int 0), (0, .ref (sm_B E + 27)), (1, .ref (sm_B E + 16)), (2, .int x2)] 3 rfl (by decide) rfl dX1_write_27 ?_
    refine sm_iconst (Y := mX1_write) (pc := 28) 0 (by decide) dX1_write_28 ?_
    refine sm_istore0 (Y := mX1_write) (pc := 29) [(4, .int 0), (3, .int 0), (0, .ref (sm_B E + 27)), (1, .ref (sm_B E + 16)), (2, .int x2)] 4 (by decide) rfl dX1_write_29 ?_
    refine sm_sub [2, 3, 4, 1, 0] rfl ?_
    exact h
  · replace h := h.2 hc
    refine sm_aload_n (Y := mX1_write) (pc := 10) 0 0 rfl rfl dX1_write_10 ?_
    refine gf_RX1_13 (Y := mX1_write) (pc := 11) (b := 28) rfl ((lk_27 hly) _) (lf_27_0 hly _) dX1_write_11 ?_
    refine sm_iload_n (Y := mX1_write) (pc := 14) 3 3 rfl rfl dX1_write_14 ?_
    obtain ⟨hn_3, h⟩ := h
    refine sm_aaldR (Y := mX1_write) (pc := 15) hly hn_3 dX1_write_15 (fun j_4 hj_4 ej_4 => ?_)
    replace h := h j_4 hj_4 ej_4
    refine sm_iconst (Y := mX1_write) (pc := 16) 0 (by decide) dX1_write_16 ?_
    refine sm_is_V (Y := mX1_write) (pc := 17) (As := [.ref (sm_B E + (29 + j_4)), .int 0]) fJ7_fill_53178 wRX1_37 rfl (Nat.le_trans (by decide) hd) (Nat.le_of_ble_eq_true rfl) ⟨Nat.le_refl _, Nat.le_refl _⟩ dX1_write_17 rfl (sm_monoV h (fun m_5 h => ?_))
    refine sm_iinc (Y := mX1_write) (pc := 20) (fun y => [(3, .int y), (0, .ref (sm_B E + 27)), (1, .ref (sm_B E + 16)), (2, .int x2)]) 3 3 rfl (by decide) (fun _ => rfl) dX1_write_20 (fun x3_6 ex3_6 => ?_)
    replace h := h x3_6 ex3_6
    refine sm_goto (Y := mX1_write) (pc := 23) 2 (by decide) dX1_write_23 ?_
    refine sm_sub [1, 2, 3, 0] rfl ?_
    exact h
theorem dX1_write_0 : decode cX1_write 0 = .ok (.iconst 0, 1) := dk_iconst_0 (by decide +kernel)
theorem dX1_write_1 : decode cX1_write 1 = .ok (.istore_n 3, 1) := dk_istore_n_3 (by decide +kernel)
set_option maxRecDepth 20000 in
theorem vX1_write_0 {E : sm_E} {L : sm_S → Prop} {d : Nat} {x2 : Int32}  {m : sm_M} {Q : Int32 → sm_M → Prop}  (hd : 3 ≤ d) 
  (h : gX1_write_2 E L d ([.ref (sm_B E + 27), .ref (sm_B E + 16), .int x2]) x2 0 m Q) :
  sm_callI E L mX1_write d 0 0 [.ref (sm_B E + 27), .ref (sm_B E + 16), .int x2] m Q := by
  refine sm_enter (by decide +kernel) (by simp [lg_sl, Value.category]) ?_
  refine sm_iconst (Y := mX1_write) (pc := 0) 0 (by decide) dX1_write_0 ?_
  refine sm_istore0_n (Y := mX1_write) (pc := 1) [(3, .int 0), (0, .ref (sm_B E + 27)), (1, .ref (sm_B E + 16)), (2, .int x2)] 3 rfl (by decide) rfl dX1_write_1 ?_
  refine sm_sub [1, 2, 3, 0] rfl ?_
  exact h
theorem dX1_weigh_0 : decode cX1_weigh 0 = .ok (.iload_n 2, 1) := dk_iload_n_2 (by decide +kernel)
theorem dX1_weigh_1 : decode cX1_weigh 1 = .ok (.bipush 48, 2) := dk_bipush 48 (b := 48) (by decide +kernel) (by decide +kernel) (by decide +kernel)
theorem dX1_weigh_3 : decode cX1_weigh 3 = .ok (.if_icmp .ge 29, 3) := dk_if_icmp_ge 29 (b1 := 0) (b2 := 29) (by decide +kernel) (by decide +kernel) (by decide +kernel) (by decide +kernel)
theorem dX1_weigh_32 : decode cX1_weigh 32 = .ok (.return_, 1) := dk_return_ (by decide +kernel)
theorem dX1_weigh_6 : decode cX1_weigh 6 = .ok (.iload 4, 2) := dk_iload 4 (b := 4) (by decide +kernel) (by decide +kernel) (by decide +kernel)
theorem dX1_weigh_8 : decode cX1_weigh 8 = .ok (.ifCond .le 24, 3) := dk_ifCond_le 24 (b1 := 0) (b2 := 24) (by decide +kernel) (by decide +kernel) (by decide +kernel) (by decide +kernel)
theorem dX1_weigh_11 : decode cX1_weigh 11 = .ok (.aload_n 0, 1) := dk_aload_n_0 (by decide +kernel)
theorem dX1_weigh_12 : decode cX1_weigh 12 = .ok (.getfield 13, 3) := dk_getfield 13 (b1 := 0) (b2 := 13) (by decide +kernel) (by decide +kernel) (by decide +kernel) (by decide +kernel)
theorem dX1_weigh_15 : decode cX1_weigh 15 = .ok (.iload_n 1, 1) := dk_iload_n_1 (by decide +kernel)
theorem dX1_weigh_16 : decode cX1_weigh 16 = .ok (.aaload, 1) := dk_aaload (by decide +kernel)
theorem dX1_weigh_17 : decode cX1_weigh 17 = .ok (.iload_n 2, 1) := dk_iload_n_2 (by decide +kernel)
theorem dX1_weigh_18 : decode cX1_weigh 18 = .ok (.aload_n 0, 1) := dk_aload_n_0 (by decide +kernel)
theorem dX1_weigh_19 : decode cX1_weigh 19 = .ok (.getfield 13, 3) := dk_getfield 13 (b1 := 0) (b2 := 13) (by decide +kernel) (by decide +kernel) (by decide +kernel) (by decide +kernel)
theorem dX1_weigh_22 : decode cX1_weigh 22 = .ok (.iload_n 1, 1) := dk_iload_n_1 (by decide +kernel)
theorem dX1_weigh_23 : decode cX1_weigh 23 = .ok (.aaload, 1) := dk_aaload (by decide +kernel)
theorem dX1_weigh_24 : decode cX1_weigh 24 = .ok (.iload_n 2, 1) := dk_iload_n_2 (by decide +kernel)
theorem dX1_weigh_25 : decode cX1_weigh 25 = .ok (.iaload, 1) := dk_iaload (by decide +kernel)
theorem dX1_weigh_26 : decode cX1_weigh 26 = .ok (.iload_n 3, 1) := dk_iload_n_3 (by decide +kernel)
theorem dX1_weigh_27 : decode cX1_weigh 27 = .ok (.iadd, 1) := dk_iadd (by decide +kernel)
theorem dX1_weigh_28 : decode cX1_weigh 28 = .ok (.iload 4, 2) := dk_iload 4 (b := 4) (by decide +kernel) (by decide +kernel) (by decide +kernel)
theorem dX1_weigh_30 : decode cX1_weigh 30 = .ok (.irem, 1) := dk_irem (by decide +kernel)
theorem dX1_weigh_31 : decode cX1_weigh 31 = .ok (.iastore, 1) := dk_iastore (by decide +kernel)
set_option maxRecDepth 20000 in
theorem vX1_weigh_0 {E : sm_E} {L : sm_S → Prop} {d : Nat} {x1 : Int32} {x2 : Int32} {x3 : Int32} {x4 : Int32}  {m : sm_M} {Q : sm_M → Prop} (hly : ∀ S, L S → ly S) (hd : 1 ≤ d) 
  (h : (48 ≤ x2 →
      Q m) ∧
   (¬ 48 ≤ x2 →
      (x4 ≤ 0 →
         Q m) ∧
      (¬ x4 ≤ 0 →
         (vp_in x1 24) ∧ ∀ j_2 : Nat, j_2 < 24 → m.2.2.1 28 x1.toNatClampNeg = some (29 + j_2) →
         (vp_in x1 24) ∧ ∀ j_4 : Nat, j_4 < 24 → m.2.2.1 28 x1.toNatClampNeg = some (29 + j_4) →
         (vp_in x2 48) ∧ (¬ x4 = 0) ∧ (vp_in x2 48) ∧ ∀ m_7 : sm_M, m_7 = sm_wI m (29 + j_2) x2.toNatClampNeg (sm_rem ((m.1 (29 + j_4) x2.toNatClampNeg) + x3) x4) →
         Q m_7))) :
  sm_callV E L mX1_weigh d 0 0 [.ref (sm_B E + 27), .int x1, .int x2, .int x3, .int x4] m Q := by
  refine sm_enter (by decide +kernel) (by simp [lg_sl, Value.category]) ?_
  refine sm_iload_n (Y := mX1_weigh) (pc := 0) 2 2 rfl rfl dX1_weigh_0 ?_
  refine sm_bipush (Y := mX1_weigh) (pc := 1) 48 (by decide) dX1_weigh_1 ?_
  refine sm_icmp_ge (Y := mX1_weigh) (pc := 3) 32 (by decide) dX1_weigh_3 (fun hc => ?_) (fun hc => ?_)
  · replace h := h.1 hc
    exact sm_vret (Y := mX1_weigh) (pc := 32) rfl rfl rfl dX1_weigh_32 ⟨rfl, h⟩
  · replace h := h.2 hc
    refine sm_iload (Y := mX1_weigh) (pc := 6) 4 4 rfl dX1_weigh_6 ?_
    refine sm_if_le (Y := mX1_weigh) (pc := 8) 32 (by decide) dX1_weigh_8 (fun hc => ?_) (fun hc => ?_)
    · replace h := h.1 hc
      exact sm_vret (Y := mX1_weigh) (pc := 32) rfl rfl rfl dX1_weigh_32 ⟨rfl, h⟩
    · replace h := h.2 hc
      refine sm_aload_n (Y := mX1_weigh) (pc := 11) 0 0 rfl rfl dX1_weigh_11 ?_
      refine gf_RX1_13 (Y := mX1_weigh) (pc := 12) (b := 28) rfl ((lk_27 hly) _) (lf_27_0 hly _) dX1_weigh_12 ?_
      refine sm_iload_n (Y := mX1_weigh) (pc := 15) 1 1 rfl rfl dX1_weigh_15 ?_
      obtain ⟨hn_1, h⟩ := h
      refine sm_aaldR (Y := mX1_weigh) (pc := 16) hly hn_1 dX1_weigh_16 (fun j_2 hj_2 ej_2 => ?_)
      replace h := h j_2 hj_2 ej_2
      refine sm_iload_n (Y := mX1_weigh) (pc := 17) 2 2 rfl rfl dX1_weigh_17 ?_
      refine sm_aload_n (Y := mX1_weigh) (pc := 18) 0 0 rfl rfl dX1_weigh_18 ?_
      refine gf_RX1_13 (Y := mX1_weigh) (pc := 19) (b := 28) rfl ((lk_27 hly) _) (lf_27_0 hly _) dX1_weigh_19 ?_
      refine sm_iload_n (Y := mX1_weigh) (pc := 22) 1 1 rfl rfl dX1_weigh_22 ?_
      obtain ⟨hn_3, h⟩ := h
      refine sm_aaldR (Y := mX1_weigh) (pc := 23) hly hn_3 dX1_weigh_23 (fun j_4 hj_4 ej_4 => ?_)
      replace h := h j_4 hj_4 ej_4
      refine sm_iload_n (Y := mX1_weigh) (pc := 24) 2 2 rfl rfl dX1_weigh_24 ?_
      obtain ⟨hn_5, h⟩ := h
      refine sm_iald (Y := mX1_weigh) (pc := 25) (fun hS => ly_growA hly hj_4 _ hS) hn_5 dX1_weigh_25 ?_
      refine sm_iload_n (Y := mX1_weigh) (pc := 26) 3 3 rfl rfl dX1_weigh_26 ?_
      refine sm_iadd (Y := mX1_weigh) (pc := 27) dX1_weigh_27 ?_
      refine sm_iload (Y := mX1_weigh) (pc := 28) 4 4 rfl dX1_weigh_28 ?_
      obtain ⟨hn_6, h⟩ := h
      refine sm_irem (Y := mX1_weigh) (pc := 30) hn_6 dX1_weigh_30 ?_
      obtain ⟨hn_8, h⟩ := h
      refine sm_iast (Y := mX1_weigh) (pc := 31) (fun hS => ly_growA hly hj_2 _ hS) hn_8 dX1_weigh_31 (fun m_7 em_7 => ?_)
      replace h := h m_7 em_7
      exact sm_vret (Y := mX1_weigh) (pc := 32) rfl rfl rfl dX1_weigh_32 ⟨rfl, h⟩
def gX1_rank_86 (E : sm_E) (L : sm_S → Prop) (d : Nat) (vs : List Value) (x1 : Int32) (x2 : Int32) (x3 : Int32) (x4 : Int32) (x5 : Int32) (a7 : Nat) (x8 : Int32) (x9 : Int32) (m : sm_M) (Q : Int32 → sm_M → Prop) : Prop := sm_go E L mX1_rank d 0 0 vs 86 [(0, .ref (sm_B E + 27)), (1, .int x1), (2, .int x2), (3, .int x3), (4, .int x4), (5, .int x5), (7, .ref (sm_B E + a7)), (8, .int x8), (9, .int x9)] [] m 0 0 (sm_Z E L vs 0 0 (sm_QI Q))
def gX1_rank_6 (E : sm_E) (L : sm_S → Prop) (d : Nat) (vs : List Value) (x1 : Int32) (x2 : Int32) (x3 : Int32) (x4 : Int32) (x5 : Int32) (m : sm_M) (Q : Int32 → sm_M → Prop) : Prop := sm_go E L mX1_rank d 0 0 vs 6 [(0, .ref (sm_B E + 27)), (1, .int x1), (2, .int x2), (3, .int x3), (4, .int x4), (5, .int x5)] [] m 0 0 (sm_Z E L vs 0 0 (sm_QI Q))
theorem dX1_rank_86 : decode cX1_rank 86 = .ok (.iload 9, 2) := dk_iload 9 (b := 9) (by decide +kernel) (by decide +kernel) (by decide +kernel)
theorem dX1_rank_88 : decode cX1_rank 88 = .ok (.iload_n 1, 1) := dk_iload_n_1 (by decide +kernel)
theorem dX1_rank_89 : decode cX1_rank 89 = .ok (.if_icmp .ge 51, 3) := dk_if_icmp_ge 51 (b1 := 0) (b2 := 51) (by decide +kernel) (by decide +kernel) (by decide +kernel) (by decide +kernel)
theorem dX1_rank_140 : decode cX1_rank 140 = .ok (.iinc 4 1, 3) := dk_iinc 4 1 (b1 := 4) (b2 := 1) (by decide +kernel) (by decide +kernel) (by decide +kernel) (by decide +kernel) (by decide +kernel)
theorem dX1_rank_143 : decode cX1_rank 143 = .ok (.iinc 5 1, 3) := dk_iinc 5 1 (b1 := 5) (b2 := 1) (by decide +kernel) (by decide +kernel) (by decide +kernel) (by decide +kernel) (by decide +kernel)
theorem dX1_rank_146 : decode cX1_rank 146 = .ok (.goto (-140), 3) := dk_goto (-140) (b1 := 255) (b2 := 116) (by decide +kernel) (by decide +kernel) (by decide +kernel) (by decide +kernel)
theorem dX1_rank_92 : decode cX1_rank 92 = .ok (.aload_n 0, 1) := dk_aload_n_0 (by decide +kernel)
theorem dX1_rank_93 : decode cX1_rank 93 = .ok (.getfield 13, 3) := dk_getfield 13 (b1 := 0) (b2 := 13) (by decide +kernel) (by decide +kernel) (by decide +kernel) (by decide +kernel)
theorem dX1_rank_96 : decode cX1_rank 96 = .ok (.iload 9, 2) := dk_iload 9 (b := 9) (by decide +kernel) (by decide +kernel) (by decide +kernel)
theorem dX1_rank_98 : decode cX1_rank 98 = .ok (.aaload, 1) := dk_aaload (by decide +kernel)
theorem dX1_rank_99 : decode cX1_rank 99 = .ok (.iload 5, 2) := dk_iload 5 (b := 5) (by decide +kernel) (by decide +kernel) (by decide +kernel)
theorem dX1_rank_101 : decode cX1_rank 101 = .ok (.iaload, 1) := dk_iaload (by decide +kernel)
theorem dX1_rank_102 : decode cX1_rank 102 = .ok (.iload 8, 2) := dk_iload 8 (b := 8) (by decide +kernel) (by decide +kernel) (by decide +kernel)
theorem dX1_rank_104 : decode cX1_rank 104 = .ok (.imul, 1) := dk_imul (by decide +kernel)
theorem dX1_rank_105 : decode cX1_rank 105 = .ok (.iload_n 3, 1) := dk_iload_n_3 (by decide +kernel)
theorem dX1_rank_106 : decode cX1_rank 106 = .ok (.irem, 1) := dk_irem (by decide +kernel)
theorem dX1_rank_107 : decode cX1_rank 107 = .ok (.istore 10, 2) := dk_istore 10 (b := 10) (by decide +kernel) (by decide +kernel) (by decide +kernel)
theorem dX1_rank_109 : decode cX1_rank 109 = .ok (.iload 10, 2) := dk_iload 10 (b := 10) (by decide +kernel) (by decide +kernel) (by decide +kernel)
theorem dX1_rank_111 : decode cX1_rank 111 = .ok (.ifCond .eq 23, 3) := dk_ifCond_eq 23 (b1 := 0) (b2 := 23) (by decide +kernel) (by decide +kernel) (by decide +kernel) (by decide +kernel)
theorem dX1_rank_134 : decode cX1_rank 134 = .ok (.iinc 9 1, 3) := dk_iinc 9 1 (b1 := 9) (b2 := 1) (by decide +kernel) (by decide +kernel) (by decide +kernel) (by decide +kernel) (by decide +kernel)
theorem dX1_rank_137 : decode cX1_rank 137 = .ok (.goto (-51), 3) := dk_goto (-51) (b1 := 255) (b2 := 205) (by decide +kernel) (by decide +kernel) (by decide +kernel) (by decide +kernel)
theorem dX1_rank_114 : decode cX1_rank 114 = .ok (.aload_n 0, 1) := dk_aload_n_0 (by decide +kernel)
theorem dX1_rank_115 : decode cX1_rank 115 = .ok (.getfield 13, 3) := dk_getfield 13 (b1 := 0) (b2 := 13) (by decide +kernel) (by decide +kernel) (by decide +kernel) (by decide +kernel)
theorem dX1_rank_118 : decode cX1_rank 118 = .ok (.iload 9, 2) := dk_iload 9 (b := 9) (by decide +kernel) (by decide +kernel) (by decide +kernel)
theorem dX1_rank_120 : decode cX1_rank 120 = .ok (.aaload, 1) := dk_aaload (by decide +kernel)
theorem dX1_rank_121 : decode cX1_rank 121 = .ok (.aload 7, 2) := dk_aload 7 (b := 7) (by decide +kernel) (by decide +kernel) (by decide +kernel)
theorem dX1_rank_123 : decode cX1_rank 123 = .ok (.iload_n 3, 1) := dk_iload_n_3 (by decide +kernel)
theorem dX1_rank_124 : decode cX1_rank 124 = .ok (.iload 10, 2) := dk_iload 10 (b := 10) (by decide +kernel) (by decide +kernel) (by decide +kernel)
theorem dX1_rank_126 : decode cX1_rank 126 = .ok (.isub, 1) := dk_isub (by decide +kernel)
theorem dX1_rank_127 : decode cX1_rank 127 = .ok (.iload 5, 2) := dk_iload 5 (b := 5) (by decide +kernel) (by decide +kernel) (by decide +kernel)
theorem dX1_rank_129 : decode cX1_rank 129 = .ok (.iload_n 2, 1) := dk_iload_n_2 (by decide +kernel)
theorem dX1_rank_130 : decode cX1_rank 130 = .ok (.iload_n 3, 1) := dk_iload_n_3 (by decide +kernel)
theorem wRX1_76 : Cond.methodLink RX1 76 yX1_subtract ∈ sm_T := sm_in 891 (by decide +kernel) (by decide +kernel)
abbrev mX1_subtract : sm_Y := (yX1_subtract, cX1_subtract, 7, none)
theorem fX1_subtract : sm_mt mX1_subtract 6 := ⟨sm_in 893 (by decide +kernel) (by decide +kernel), sm_in 892 (by decide +kernel) (by decide +kernel), sm_in 88 (by decide +kernel) (by decide +kernel), ⟨by decide +kernel, by decide +kernel, by decide +kernel⟩, by decide⟩
theorem dX1_rank_131 : decode cX1_rank 131 = .ok (.invokestatic 76, 3) := dk_invokestatic 76 (b1 := 0) (b2 := 76) (by decide +kernel) (by decide +kernel) (by decide +kernel) (by decide +kernel)
set_option maxRecDepth 20000 in
theorem vX1_rank_86 {E : sm_E} {L : sm_S → Prop} {d : Nat} {vs : List Value} {x1 : Int32} {x2 : Int32} {x3 : Int32} {x4 : Int32} {x5 : Int32} {a7 : Nat} {x8 : Int32} {x9 : Int32} {na7 : Nat} {m : sm_M} {Q : Int32 → sm_M → Prop} (hly : ∀ S, L S → ly S) (hd : 2 ≤ d) (hTa7 : ∀ S, L S → sm_K S a7 = 11 ∧ sm_N S a7 = na7)
  (h : (x1 ≤ x9 →
      ∀ x4_1 : Int32, x4_1 = x4 + 1 →
      ∀ x5_2 : Int32, x5_2 = x5 + 1 →
      gX1_rank_6 E L d vs x1 x2 x3 x4_1 x5_2 m Q) ∧
   (¬ x1 ≤ x9 →
      (vp_in x9 24) ∧ ∀ j_4 : Nat, j_4 < 24 → m.2.2.1 28 x9.toNatClampNeg = some (29 + j_4) →
      (vp_in x5 48) ∧ (¬ x3 = 0) ∧ ∀ x10_7 : Int32, x10_7 = sm_rem ((m.1 (29 + j_4) x5.toNatClampNeg) * x8) x3 →
      (x10_7 = 0 →
         ∀ x9_8 : Int32, x9_8 = x9 + 1 →
         gX1_rank_86 E L d vs x1 x2 x3 x4 x5 a7 x8 x9_8 m Q) ∧
      (¬ x10_7 = 0 →
         (vp_in x9 24) ∧ ∀ j_10 : Nat, j_10 < 24 → m.2.2.1 28 x9.toNatClampNeg = some (29 + j_10) →
         sm_callV E L mX1_subtract 1 0 0 [.ref (sm_B E + (29 + j_10)), .ref (sm_B E + a7), .int (x3 - x10_7), .int x5, .int x2, .int x3] m (fun m_11 =>
         ∀ x9_12 : Int32, x9_12 = x9 + 1 →
         gX1_rank_86 E L d vs x1 x2 x3 x4 x5 a7 x8 x9_12 m_11 Q)))) :
  gX1_rank_86 E L d vs x1 x2 x3 x4 x5 a7 x8 x9 m Q := by
  refine sm_iload (Y := mX1_rank) (pc := 86) 8 9 rfl dX1_rank_86 ?_
  refine sm_iload_n (Y := mX1_rank) (pc := 88) 1 1 rfl rfl dX1_rank_88 ?_
  refine sm_icmp_ge (Y := mX1_rank) (pc := 89) 140 (by decide) dX1_rank_89 (fun hc => ?_) (fun hc => ?_)
  · replace h := h.1 hc
    refine sm_iinc (Y := mX1_rank) (pc := 140) (fun y => [(4, .int y), (0, .ref (sm_B E + 27)), (1, .int x1), (2, .int x2), (3, .int x3), (5, .int x5), (7, .ref (sm_B E + a7)), (8, .int x8), (9, .int x9)]) 4 4 rfl (by decide) (fun _ => rfl) dX1_rank_140 (fun x4_1 ex4_1 => ?_)
    replace h := h x4_1 ex4_1
    refine sm_iinc (Y := mX1_rank) (pc := 143) (fun y => [(5, .int y), (4, .int x4_1), (0, .ref (sm_B E + 27)), (1, .int x1), (2, .int x2), (3, .int x3), (7, .ref (sm_B E + a7)), (8, .int x8), (9, .int x9)]) 5 5 rfl (by decide) (fun _ => rfl) dX1_rank_143 (fun x5_2 ex5_2 => ?_)
    replace h := h x5_2 ex5_2
    refine sm_goto (Y := mX1_rank) (pc := 146) 6 (by decide) dX1_rank_146 ?_
    refine sm_sub [2, 3, 4, 5, 1, 0] rfl ?_
    exact h
  · replace h := h.2 hc
    refine sm_aload_n (Y := mX1_rank) (pc := 92) 0 0 rfl rfl dX1_rank_92 ?_
    refine gf_RX1_13 (Y := mX1_rank) (pc := 93) (b := 28) rfl ((lk_27 hly) _) (lf_27_0 hly _) dX1_rank_93 ?_
    refine sm_iload (Y := mX1_rank) (pc := 96) 8 9 rfl dX1_rank_96 ?_
    obtain ⟨hn_3, h⟩ := h
    refine sm_aaldR (Y := mX1_rank) (pc := 98) hly hn_3 dX1_rank_98 (fun j_4 hj_4 ej_4 => ?_)
    replace h := h j_4 hj_4 ej_4
    refine sm_iload (Y := mX1_rank) (pc := 99) 5 5 rfl dX1_rank_99 ?_
    obtain ⟨hn_5, h⟩ := h
    refine sm_iald (Y := mX1_rank) (pc := 101) (fun hS => ly_growA hly hj_4 _ hS) hn_5 dX1_rank_101 ?_
    refine sm_iload (Y := mX1_rank) (pc := 102) 7 8 rfl dX1_rank_102 ?_
    refine sm_imul (Y := mX1_rank) (pc := 104) dX1_rank_104 ?_
    refine sm_iload_n (Y := mX1_rank) (pc := 105) 3 3 rfl rfl dX1_rank_105 ?_
    obtain ⟨hn_6, h⟩ := h
    refine sm_irem (Y := mX1_rank) (pc := 106) hn_6 dX1_rank_106 ?_
    refine sm_istore (Y := mX1_rank) (pc := 107) (fun y => [(10, .int y), (0, .ref (sm_B E + 27)), (1, .int x1), (2, .int x2), (3, .int x3), (4, .int x4), (5, .int x5), (7, .ref (sm_B E + a7)), (8, .int x8), (9, .int x9)]) 10 (by decide) (fun _ => rfl) dX1_rank_107 (fun x10_7 ex10_7 => ?_)
    replace h := h x10_7 ex10_7
    refine sm_iload (Y := mX1_rank) (pc := 109) 0 10 rfl dX1_rank_109 ?_
    refine sm_if_eq (Y := mX1_rank) (pc := 111) 134 (by decide) dX1_rank_111 (fun hc => ?_) (fun hc => ?_)
    · replace h := h.1 hc
      refine sm_iinc (Y := mX1_rank) (pc := 134) (fun y => [(9, .int y), (10, .int x10_7), (0, .ref (sm_B E + 27)), (1, .int x1), (2, .int x2), (3, .int x3), (4, .int x4), (5, .int x5), (7, .ref (sm_B E + a7)), (8, .int x8)]) 9 9 rfl (by decide) (fun _ => rfl) dX1_rank_134 (fun x9_8 ex9_8 => ?_)
      replace h := h x9_8 ex9_8
      refine sm_goto (Y := mX1_rank) (pc := 137) 86 (by decide) dX1_rank_137 ?_
      refine sm_sub [2, 3, 4, 5, 6, 7, 8, 9, 0] rfl ?_
      exact h
    · replace h := h.2 hc
      refine sm_aload_n (Y := mX1_rank) (pc := 114) 1 0 rfl rfl dX1_rank_114 ?_
      refine gf_RX1_13 (Y := mX1_rank) (pc := 115) (b := 28) rfl ((lk_27 hly) _) (lf_27_0 hly _) dX1_rank_115 ?_
      refine sm_iload (Y := mX1_rank) (pc := 118) 9 9 rfl dX1_rank_118 ?_
      obtain ⟨hn_9, h⟩ := h
      refine sm_aaldR (Y := mX1_rank) (pc := 120) hly hn_9 dX1_rank_120 (fun j_10 hj_10 ej_10 => ?_)
      replace h := h j_10 hj_10 ej_10
      refine sm_aload (Y := mX1_rank) (pc := 121) 7 7 rfl dX1_rank_121 ?_
      refine sm_iload_n (Y := mX1_rank) (pc := 123) 4 3 rfl rfl dX1_rank_123 ?_
      refine sm_iload (Y := mX1_rank) (pc := 124) 0 10 rfl dX1_rank_124 ?_
      refine sm_isub (Y := mX1_rank) (pc := 126) dX1_rank_126 ?_
      refine sm_iload (Y := mX1_rank) (pc := 127) 6 5 rfl dX1_rank_127 ?_
      refine sm_iload_n (Y := mX1_rank) (pc := 129) 3 2 rfl rfl dX1_rank_129 ?_
      refine sm_iload_n (Y := mX1_rank) (pc := 130) 4 3 rfl rfl dX1_rank_130 ?_
      refine sm_is_V (Y := mX1_rank) (pc := 131) (As := [.ref (sm_B E + (29 + j_10)), .ref (sm_B E + a7), .int (x3 - x10_7), .int x5, .int x2, .int x3]) fX1_subtract wRX1_76 rfl (Nat.le_trans (by decide) hd) (Nat.le_of_ble_eq_true rfl) ⟨Nat.le_refl _, Nat.le_refl _⟩ dX1_rank_131 rfl (sm_monoV h (fun m_11 h => ?_))
      refine sm_iinc (Y := mX1_rank) (pc := 134) (fun y => [(9, .int y), (10, .int x10_7), (0, .ref (sm_B E + 27)), (1, .int x1), (2, .int x2), (3, .int x3), (4, .int x4), (5, .int x5), (7, .ref (sm_B E + a7)), (8, .int x8)]) 9 9 rfl (by decide) (fun _ => rfl) dX1_rank_134 (fun x9_12 ex9_12 => ?_)
      replace h := h x9_12 ex9_12
      refine sm_goto (Y := mX1_rank) (pc := 137) 86 (by decide) dX1_rank_137 ?_
      refine sm_sub [2, 3, 4, 5, 6, 7, 8, 9, 0] rfl ?_
      exact h
theorem dX1_rank_6 : decode cX1_rank 6 = .ok (.iload 5, 2) := dk_iload 5 (b := 5) (by decide +kernel) (by decide +kernel) (by decide +kernel)
theorem dX1_rank_8 : decode cX1_rank 8 = .ok (.iload_n 2, 1) := dk_iload_n_2 (by decide +kernel)
theorem dX1_rank_9 : decode cX1_rank 9 = .ok (.if_icmp .ge 140, 3) := dk_if_icmp_ge 140 (b1 := 0) (b2 := 140) (by decide +kernel) (by decide +kernel) (by decide +kernel) (by decide +kernel)
theorem dX1_rank_149 : decode cX1_rank 149 = .ok (.iload 4, 2) := dk_iload 4 (b := 4) (by decide +kernel) (by decide +kernel) (by decide +kernel)
theorem dX1_rank_151 : decode cX1_rank 151 = .ok (.ireturn, 1) := dk_ireturn (by decide +kernel)
theorem dX1_rank_12 : decode cX1_rank 12 = .ok (.iload 4, 2) := dk_iload 4 (b := 4) (by decide +kernel) (by decide +kernel) (by decide +kernel)
theorem dX1_rank_14 : decode cX1_rank 14 = .ok (.iload_n 1, 1) := dk_iload_n_1 (by decide +kernel)
theorem dX1_rank_15 : decode cX1_rank 15 = .ok (.if_icmp .ge 134, 3) := dk_if_icmp_ge 134 (b1 := 0) (b2 := 134) (by decide +kernel) (by decide +kernel) (by decide +kernel) (by decide +kernel)
theorem dX1_rank_18 : decode cX1_rank 18 = .ok (.aload_n 0, 1) := dk_aload_n_0 (by decide +kernel)
theorem dX1_rank_19 : decode cX1_rank 19 = .ok (.iload 5, 2) := dk_iload 5 (b := 5) (by decide +kernel) (by decide +kernel) (by decide +kernel)
theorem dX1_rank_21 : decode cX1_rank 21 = .ok (.iload 4, 2) := dk_iload 4 (b := 4) (by decide +kernel) (by decide +kernel) (by decide +kernel)
theorem dX1_rank_23 : decode cX1_rank 23 = .ok (.iload_n 1, 1) := dk_iload_n_1 (by decide +kernel)
theorem wRX1_70 : Cond.methodLink RX1 70 yX1_pivotIn ∈ sm_T := sm_in 884 (by decide +kernel) (by decide +kernel)
abbrev mX1_pivotIn : sm_Y := (yX1_pivotIn, cX1_pivotIn, 5, (some FieldType.int))
theorem fX1_pivotIn : sm_mi mX1_pivotIn RX1 3 := ⟨sm_in 887 (by decide +kernel) (by decide +kernel), sm_in 886 (by decide +kernel) (by decide +kernel), sm_in 30 (by decide +kernel) (by decide +kernel), sm_in 88 (by decide +kernel) (by decide +kernel), rfl, ⟨by decide +kernel, by decide +kernel, by decide +kernel⟩, by decide⟩
theorem dX1_rank_24 : decode cX1_rank 24 = .ok (.invokevirtual 70, 3) := dk_invokevirtual 70 (b1 := 0) (b2 := 70) (by decide +kernel) (by decide +kernel) (by decide +kernel) (by decide +kernel)
theorem dX1_rank_27 : decode cX1_rank 27 = .ok (.istore 6, 2) := dk_istore 6 (b := 6) (by decide +kernel) (by decide +kernel) (by decide +kernel)
theorem dX1_rank_29 : decode cX1_rank 29 = .ok (.iload 6, 2) := dk_iload 6 (b := 6) (by decide +kernel) (by decide +kernel) (by decide +kernel)
theorem dX1_rank_31 : decode cX1_rank 31 = .ok (.ifCond .ge 6, 3) := dk_ifCond_ge 6 (b1 := 0) (b2 := 6) (by decide +kernel) (by decide +kernel) (by decide +kernel) (by decide +kernel)
theorem dX1_rank_37 : decode cX1_rank 37 = .ok (.aload_n 0, 1) := dk_aload_n_0 (by decide +kernel)
theorem dX1_rank_38 : decode cX1_rank 38 = .ok (.getfield 13, 3) := dk_getfield 13 (b1 := 0) (b2 := 13) (by decide +kernel) (by decide +kernel) (by decide +kernel) (by decide +kernel)
theorem dX1_rank_41 : decode cX1_rank 41 = .ok (.iload 6, 2) := dk_iload 6 (b := 6) (by decide +kernel) (by decide +kernel) (by decide +kernel)
theorem dX1_rank_43 : decode cX1_rank 43 = .ok (.aaload, 1) := dk_aaload (by decide +kernel)
theorem dX1_rank_44 : decode cX1_rank 44 = .ok (.astore 7, 2) := dk_astore 7 (b := 7) (by decide +kernel) (by decide +kernel) (by decide +kernel)
theorem dX1_rank_46 : decode cX1_rank 46 = .ok (.aload_n 0, 1) := dk_aload_n_0 (by decide +kernel)
theorem dX1_rank_47 : decode cX1_rank 47 = .ok (.getfield 13, 3) := dk_getfield 13 (b1 := 0) (b2 := 13) (by decide +kernel) (by decide +kernel) (by decide +kernel) (by decide +kernel)
theorem dX1_rank_50 : decode cX1_rank 50 = .ok (.iload 6, 2) := dk_iload 6 (b := 6) (by decide +kernel) (by decide +kernel) (by decide +kernel)
theorem dX1_rank_52 : decode cX1_rank 52 = .ok (.aload_n 0, 1) := dk_aload_n_0 (by decide +kernel)
theorem dX1_rank_53 : decode cX1_rank 53 = .ok (.getfield 13, 3) := dk_getfield 13 (b1 := 0) (b2 := 13) (by decide +kernel) (by decide +kernel) (by decide +kernel) (by decide +kernel)
theorem dX1_rank_56 : decode cX1_rank 56 = .ok (.iload 4, 2) := dk_iload 4 (b := 4) (by decide +kernel) (by decide +kernel) (by decide +kernel)
theorem dX1_rank_58 : decode cX1_rank 58 = .ok (.aaload, 1) := dk_aaload (by decide +kernel)
theorem dX1_rank_59 : decode cX1_rank 59 = .ok (.aastore, 1) := dk_aastore (by decide +kernel)
theorem dX1_rank_60 : decode cX1_rank 60 = .ok (.aload_n 0, 1) := dk_aload_n_0 (by decide +kernel)
theorem dX1_rank_61 : decode cX1_rank 61 = .ok (.getfield 13, 3) := dk_getfield 13 (b1 := 0) (b2 := 13) (by decide +kernel) (by decide +kernel) (by decide +kernel) (by decide +kernel)
theorem dX1_rank_64 : decode cX1_rank 64 = .ok (.iload 4, 2) := dk_iload 4 (b := 4) (by decide +kernel) (by decide +kernel) (by decide +kernel)
theorem dX1_rank_66 : decode cX1_rank 66 = .ok (.aload 7, 2) := dk_aload 7 (b := 7) (by decide +kernel) (by decide +kernel) (by decide +kernel)
theorem dX1_rank_68 : decode cX1_rank 68 = .ok (.aastore, 1) := dk_aastore (by decide +kernel)
theorem dX1_rank_69 : decode cX1_rank 69 = .ok (.aload 7, 2) := dk_aload 7 (b := 7) (by decide +kernel) (by decide +kernel) (by decide +kernel)
theorem dX1_rank_71 : decode cX1_rank 71 = .ok (.iload 5, 2) := dk_iload 5 (b := 5) (by decide +kernel) (by decide +kernel) (by decide +kernel)
theorem dX1_rank_73 : decode cX1_rank 73 = .ok (.iaload, 1) := dk_iaload (by decide +kernel)
theorem dX1_rank_74 : decode cX1_rank 74 = .ok (.iload_n 3, 1) := dk_iload_n_3 (by decide +kernel)
theorem wRX1_73 : Cond.methodLink RX1 73 yX1_inverseOf ∈ sm_T := sm_in 888 (by decide +kernel) (by decide +kernel)
abbrev mX1_inverseOf : sm_Y := (yX1_inverseOf, cX1_inverseOf, 3, (some FieldType.int))
theorem fX1_inverseOf : sm_mt mX1_inverseOf 2 := ⟨sm_in 890 (by decide +kernel) (by decide +kernel), sm_in 889 (by decide +kernel) (by decide +kernel), sm_in 88 (by decide +kernel) (by decide +kernel), ⟨by decide +kernel, by decide +kernel, by decide +kernel⟩, by decide⟩
theorem dX1_rank_75 : decode cX1_rank 75 = .ok (.invokestatic 73, 3) := dk_invokestatic 73 (b1 := 0) (b2 := 73) (by decide +kernel) (by decide +kernel) (by decide +kernel) (by decide +kernel)
theorem dX1_rank_78 : decode cX1_rank 78 = .ok (.istore 8, 2) := dk_istore 8 (b := 8) (by decide +kernel) (by decide +kernel) (by decide +kernel)
theorem dX1_rank_80 : decode cX1_rank 80 = .ok (.iload 4, 2) := dk_iload 4 (b := 4) (by decide +kernel) (by decide +kernel) (by decide +kernel)
theorem dX1_rank_82 : decode cX1_rank 82 = .ok (.iconst 1, 1) := dk_iconst_1 (by decide +kernel)
theorem dX1_rank_83 : decode cX1_rank 83 = .ok (.iadd, 1) := dk_iadd (by decide +kernel)
theorem dX1_rank_84 : decode cX1_rank 84 = .ok (.istore 9, 2) := dk_istore 9 (b := 9) (by decide +kernel) (by decide +kernel) (by decide +kernel)
theorem dX1_rank_34 : decode cX1_rank 34 = .ok (.goto 109, 3) := dk_goto 109 (b1 := 0) (b2 := 109) (by decide +kernel) (by decide +kernel) (by decide +kernel) (by decide +kernel)
set_option maxRecDepth 20000 in
theorem vX1_rank_6 {E : sm_E} {L : sm_S → Prop} {d : Nat} {vs : List Value} {x1 : Int32} {x2 : Int32} {x3 : Int32} {x4 : Int32} {x5 : Int32}  {m : sm_M} {Q : Int32 → sm_M → Prop} (hly : ∀ S, L S → ly S) (hd : 2 ≤ d) 
  (h : (x2 ≤ x5 →
      Q x4 m) ∧
   (¬ x2 ≤ x5 →
      (x1 ≤ x4 →
         Q x4 m) ∧
      (¬ x1 ≤ x4 →
         sm_callI E L mX1_pivotIn 1 0 0 [.ref (sm_B E + 27), .int x5, .int x4, .int x1] m (fun r_2 m_1 =>
         (0 ≤ r_2 →
            (vp_in r_2 24) ∧ ∀ j_5 : Nat, j_5 < 24 → m_1.2.2.1 28 r_2.toNatClampNeg = some (29 + j_5) →
            (vp_in x4 24) ∧ ∀ j_7 : Nat, j_7 < 24 → m_1.2.2.1 28 x4.toNatClampNeg = some (29 + j_7) →
            (vp_in r_2 24) ∧ (L m_1.2.2 → L (sm_wR m_1 28 r_2.toNatClampNeg (some (29 + j_7))).2.2) ∧ ∀ m_8 : sm_M, m_8 = sm_wR m_1 28 r_2.toNatClampNeg (some (29 + j_7)) →
            (vp_in x4 24) ∧ (L m_8.2.2 → L (sm_wR m_8 28 x4.toNatClampNeg (some (29 + j_5))).2.2) ∧ ∀ m_11 : sm_M, m_11 = sm_wR m_8 28 x4.toNatClampNeg (some (29 + j_5)) →
            (vp_in x5 48) ∧ sm_callI E L mX1_inverseOf 1 0 0 [.int (m_11.1 (29 + j_5) x5.toNatClampNeg), .int x3] m_11 (fun r_16 m_15 =>
            ∀ x9_18 : Int32, x9_18 = x4 + 1 →
            gX1_rank_86 E L d vs x1 x2 x3 x4 x5 (29 + j_5) r_16 x9_18 m_15 Q)) ∧
         (¬ 0 ≤ r_2 →
            ∀ x5_19 : Int32, x5_19 = x5 + 1 →
            gX1_rank_6 E L d vs x1 x2 x3 x4 x5_19 m_1 Q))))) :
  gX1_rank_6 E L d vs x1 x2 x3 x4 x5 m Q := by
  refine sm_iload (Y := mX1_rank) (pc := 6) 5 5 rfl dX1_rank_6 ?_
  refine sm_iload_n (Y := mX1_rank) (pc := 8) 2 2 rfl rfl dX1_rank_8 ?_
  refine sm_icmp_ge (Y := mX1_rank) (pc := 9) 149 (by decide) dX1_rank_9 (fun hc => ?_) (fun hc => ?_)
  · replace h := h.1 hc
    refine sm_iload (Y := mX1_rank) (pc := 149) 4 4 rfl dX1_rank_149 ?_
    exact sm_iret (Y := mX1_rank) (pc := 151) rfl rfl rfl dX1_rank_151 ⟨_, rfl, h⟩
  · replace h := h.2 hc
    refine sm_iload (Y := mX1_rank) (pc := 12) 4 4 rfl dX1_rank_12 ?_
    refine sm_iload_n (Y := mX1_rank) (pc := 14) 1 1 rfl rfl dX1_rank_14 ?_
    refine sm_icmp_ge (Y := mX1_rank) (pc := 15) 149 (by decide) dX1_rank_15 (fun hc => ?_) (fun hc => ?_)
    · replace h := h.1 hc
      refine sm_iload (Y := mX1_rank) (pc := 149) 4 4 rfl dX1_rank_149 ?_
      exact sm_iret (Y := mX1_rank) (pc := 151) rfl rfl rfl dX1_rank_151 ⟨_, rfl, h⟩
    · replace h := h.2 hc
      refine sm_aload_n (Y := mX1_rank) (pc := 18) 0 0 rfl rfl dX1_rank_18 ?_
      refine sm_iload (Y := mX1_rank) (pc := 19) 5 5 rfl dX1_rank_19 ?_
      refine sm_iload (Y := mX1_rank) (pc := 21) 4 4 rfl dX1_rank_21 ?_
      refine sm_iload_n (Y := mX1_rank) (pc := 23) 1 1 rfl rfl dX1_rank_23 ?_
      refine sm_iv_I (Y := mX1_rank) (pc := 24) (As := [.int x5, .int x4, .int x1]) (a := 27) fX1_pivotIn wRX1_70 (lk_27 hly) (by decide) rfl rfl rfl (Nat.le_trans (by decide) hd) (Nat.le_of_ble_eq_true rfl) ⟨Nat.le_refl _, Nat.le_refl _⟩ dX1_rank_24 rfl (sm_monoI h (fun r_2 m_1 h => ?_))
      refine sm_istore0 (Y := mX1_rank) (pc := 27) [(6, .int r_2), (0, .ref (sm_B E + 27)), (1, .int x1), (2, .int x2), (3, .int x3), (4, .int x4), (5, .int x5)] 6 (by decide) rfl dX1_rank_27 ?_
      refine sm_iload (Y := mX1_rank) (pc := 29) 0 6 rfl dX1_rank_29 ?_
      refine sm_if_ge (Y := mX1_rank) (pc := 31) 37 (by decide) dX1_rank_31 (fun hc => ?_) (fun hc => ?_)
      · replace h := h.1 hc
        refine sm_aload_n (Y := mX1_rank) (pc := 37) 1 0 rfl rfl dX1_rank_37 ?_
        refine gf_RX1_13 (Y := mX1_rank) (pc := 38) (b := 28) rfl ((lk_27 hly) _) (lf_27_0 hly _) dX1_rank_38 ?_
        refine sm_iload (Y := mX1_rank) (pc := 41) 0 6 rfl dX1_rank_41 ?_
        obtain ⟨hn_4, h⟩ := h
        refine sm_aaldR (Y := mX1_rank) (pc := 43) hly hn_4 dX1_rank_43 (fun j_5 hj_5 ej_5 => ?_)
        replace h := h j_5 hj_5 ej_5
        refine sm_astore (Y := mX1_rank) (pc := 44) [(7, .ref (sm_B E + (29 + j_5))), (6, .int r_2), (0, .ref (sm_B E + 27)), (1, .int x1), (2, .int x2), (3, .int x3), (4, .int x4), (5, .int x5)] 7 (by decide) rfl dX1_rank_44 ?_
        refine sm_aload_n (Y := mX1_rank) (pc := 46) 2 0 rfl rfl dX1_rank_46 ?_
        refine gf_RX1_13 (Y := mX1_rank) (pc := 47) (b := 28) rfl ((lk_27 hly) _) (lf_27_0 hly _) dX1_rank_47 ?_
        refine sm_iload (Y := mX1_rank) (pc := 50) 1 6 rfl dX1_rank_50 ?_
        refine sm_aload_n (Y := mX1_rank) (pc := 52) 2 0 rfl rfl dX1_rank_52 ?_
        refine gf_RX1_13 (Y := mX1_rank) (pc := 53) (b := 28) rfl ((lk_27 hly) _) (lf_27_0 hly _) dX1_rank_53 ?_
        refine sm_iload (Y := mX1_rank) (pc := 56) 6 4 rfl dX1_rank_56 ?_
        obtain ⟨hn_6, h⟩ := h
        refine sm_aaldR (Y := mX1_rank) (pc := 58) hly hn_6 dX1_rank_58 (fun j_7 hj_7 ej_7 => ?_)
        replace h := h j_7 hj_7 ej_7
        obtain ⟨hn_9, h⟩ := h
        obtain ⟨hn_10, h⟩ := h
        refine sm_aastA (Y := mX1_rank) (pc := 59) (la_28 hly _) hn_9 (fun hS => ((fun hS => ly_growA hly hj_7 _ hS) hS).1) hn_10 dX1_rank_59 (fun m_8 em_8 => ?_)
        replace h := h m_8 em_8
        refine sm_aload_n (Y := mX1_rank) (pc := 60) 2 0 rfl rfl dX1_rank_60 ?_
        refine gf_RX1_13 (Y := mX1_rank) (pc := 61) (b := 28) rfl ((lk_27 hly) _) (lf_27_0 hly _) dX1_rank_61 ?_
        refine sm_iload (Y := mX1_rank) (pc := 64) 6 4 rfl dX1_rank_64 ?_
        refine sm_aload (Y := mX1_rank) (pc := 66) 0 7 rfl dX1_rank_66 ?_
        obtain ⟨hn_12, h⟩ := h
        obtain ⟨hn_13, h⟩ := h
        refine sm_aastA (Y := mX1_rank) (pc := 68) (la_28 hly _) hn_12 (fun hS => ((fun hS => ly_growA hly hj_5 _ hS) hS).1) hn_13 dX1_rank_68 (fun m_11 em_11 => ?_)
        replace h := h m_11 em_11
        refine sm_aload (Y := mX1_rank) (pc := 69) 0 7 rfl dX1_rank_69 ?_
        refine sm_iload (Y := mX1_rank) (pc := 71) 7 5 rfl dX1_rank_71 ?_
        obtain ⟨hn_14, h⟩ := h
        refine sm_iald (Y := mX1_rank) (pc := 73) (fun hS => ly_growA hly hj_5 _ hS) hn_14 dX1_rank_73 ?_
        refine sm_iload_n (Y := mX1_rank) (pc := 74) 5 3 rfl rfl dX1_rank_74 ?_
        refine sm_is_I (Y := mX1_rank) (pc := 75) (As := [.int (m_11.1 (29 + j_5) x5.toNatClampNeg), .int x3]) fX1_inverseOf wRX1_73 rfl (Nat.le_trans (by decide) hd) (Nat.le_of_ble_eq_true rfl) ⟨Nat.le_refl _, Nat.le_refl _⟩ dX1_rank_75 rfl (sm_monoI h (fun r_16 m_15 h => ?_))
        refine sm_istore0 (Y := mX1_rank) (pc := 78) [(8, .int r_16), (7, .ref (sm_B E + (29 + j_5))), (6, .int r_2), (0, .ref (sm_B E + 27)), (1, .int x1), (2, .int x2), (3, .int x3), (4, .int x4), (5, .int x5)] 8 (by decide) rfl dX1_rank_78 ?_
        refine sm_iload (Y := mX1_rank) (pc := 80) 7 4 rfl dX1_rank_80 ?_
        refine sm_iconst (Y := mX1_rank) (pc := 82) 1 (by decide) dX1_rank_82 ?_
        refine sm_iadd (Y := mX1_rank) (pc := 83) dX1_rank_83 ?_
        refine sm_istore (Y := mX1_rank) (pc := 84) (fun y => [(9, .int y), (8, .int r_16), (7, .ref (sm_B E + (29 + j_5))), (6, .int r_2), (0, .ref (sm_B E + 27)), (1, .int x1), (2, .int x2), (3, .int x3), (4, .int x4), (5, .int x5)]) 9 (by decide) (fun _ => rfl) dX1_rank_84 (fun x9_18 ex9_18 => ?_)
        replace h := h x9_18 ex9_18
        refine sm_sub [4, 5, 6, 7, 8, 9, 2, 1, 0] rfl ?_
        exact h
      · replace h := h.2 hc
        refine sm_goto (Y := mX1_rank) (pc := 34) 143 (by decide) dX1_rank_34 ?_
        refine sm_iinc (Y := mX1_rank) (pc := 143) (fun y => [(5, .int y), (6, .int r_2), (0, .ref (sm_B E + 27)), (1, .int x1), (2, .int x2), (3, .int x3), (4, .int x4)]) 6 5 rfl (by decide) (fun _ => rfl) dX1_rank_143 (fun x5_19 ex5_19 => ?_)
        replace h := h x5_19 ex5_19
        refine sm_goto (Y := mX1_rank) (pc := 146) 6 (by decide) dX1_rank_146 ?_
        refine sm_sub [2, 3, 4, 5, 6, 0] rfl ?_
        exact h
theorem dX1_rank_0 : decode cX1_rank 0 = .ok (.iconst 0, 1) := dk_iconst_0 (by decide +kernel)
theorem dX1_rank_1 : decode cX1_rank 1 = .ok (.istore 4, 2) := dk_istore 4 (b := 4) (by decide +kernel) (by decide +kernel) (by decide +kernel)
theorem dX1_rank_3 : decode cX1_rank 3 = .ok (.iconst 0, 1) := dk_iconst_0 (by decide +kernel)
theorem dX1_rank_4 : decode cX1_rank 4 = .ok (.istore 5, 2) := dk_istore 5 (b := 5) (by decide +kernel) (by decide +kernel) (by decide +kernel)
set_option maxRecDepth 20000 in
theorem vX1_rank_0 {E : sm_E} {L : sm_S → Prop} {d : Nat} {x1 : Int32} {x2 : Int32} {x3 : Int32}  {m : sm_M} {Q : Int32 → sm_M → Prop}  (hd : 2 ≤ d) 
  (h : gX1_rank_6 E L d ([.ref (sm_B E + 27), .int x1, .int x2, .int x3]) x1 x2 x3 0 0 m Q) :
  sm_callI E L mX1_rank d 0 0 [.ref (sm_B E + 27), .int x1, .int x2, .int x3] m Q := by
  refine sm_enter (by decide +kernel) (by simp [lg_sl, Value.category]) ?_
  refine sm_iconst (Y := mX1_rank) (pc := 0) 0 (by decide) dX1_rank_0 ?_
  refine sm_istore0 (Y := mX1_rank) (pc := 1) [(4, .int 0), (0, .ref (sm_B E + 27)), (1, .int x1), (2, .int x2), (3, .int x3)] 4 (by decide) rfl dX1_rank_1 ?_
  refine sm_iconst (Y := mX1_rank) (pc := 3) 0 (by decide) dX1_rank_3 ?_
  refine sm_istore0 (Y := mX1_rank) (pc := 4) [(5, .int 0), (4, .int 0), (0, .ref (sm_B E + 27)), (1, .int x1), (2, .int x2), (3, .int x3)] 5 (by decide) rfl dX1_rank_4 ?_
  refine sm_sub [2, 3, 4, 5, 1, 0] rfl ?_
  exact h
def gX1_pivotIn_3 (E : sm_E) (L : sm_S → Prop) (d : Nat) (vs : List Value) (x1 : Int32) (x3 : Int32) (x4 : Int32) (m : sm_M) (Q : Int32 → sm_M → Prop) : Prop := sm_go E L mX1_pivotIn d 0 0 vs 3 [(0, .ref (sm_B E + 27)), (1, .int x1), (3, .int x3), (4, .int x4)] [] m 0 0 (sm_Z E L vs 0 0 (sm_QI Q))
theorem dX1_pivotIn_3 : decode cX1_pivotIn 3 = .ok (.iload 4, 2) := dk_iload 4 (b := 4) (by decide +kernel) (by decide +kernel) (by decide +kernel)
theorem dX1_pivotIn_5 : decode cX1_pivotIn 5 = .ok (.iload_n 3, 1) := dk_iload_n_3 (by decide +kernel)
theorem dX1_pivotIn_6 : decode cX1_pivotIn 6 = .ok (.if_icmp .ge 24, 3) := dk_if_icmp_ge 24 (b1 := 0) (b2 := 24) (by decide +kernel) (by decide +kernel) (by decide +kernel) (by decide +kernel)
theorem dX1_pivotIn_30 : decode cX1_pivotIn 30 = .ok (.iconst (-1), 1) := dk_iconst_m1 (by decide +kernel)
theorem dX1_pivotIn_31 : decode cX1_pivotIn 31 = .ok (.ireturn, 1) := dk_ireturn (by decide +kernel)
theorem dX1_pivotIn_9 : decode cX1_pivotIn 9 = .ok (.aload_n 0, 1) := dk_aload_n_0 (by decide +kernel)
theorem dX1_pivotIn_10 : decode cX1_pivotIn 10 = .ok (.getfield 13, 3) := dk_getfield 13 (b1 := 0) (b2 := 13) (by decide +kernel) (by decide +kernel) (by decide +kernel) (by decide +kernel)
theorem dX1_pivotIn_13 : decode cX1_pivotIn 13 = .ok (.iload 4, 2) := dk_iload 4 (b := 4) (by decide +kernel) (by decide +kernel) (by decide +kernel)
theorem dX1_pivotIn_15 : decode cX1_pivotIn 15 = .ok (.aaload, 1) := dk_aaload (by decide +kernel)
theorem dX1_pivotIn_16 : decode cX1_pivotIn 16 = .ok (.iload_n 1, 1) := dk_iload_n_1 (by decide +kernel)
theorem dX1_pivotIn_17 : decode cX1_pivotIn 17 = .ok (.iaload, 1) := dk_iaload (by decide +kernel)
theorem dX1_pivotIn_18 : decode cX1_pivotIn 18 = .ok (.ifCond .eq 6, 3) := dk_ifCond_eq 6 (b1 := 0) (b2 := 6) (by decide +kernel) (by decide +kernel) (by decide +kernel) (by decide +kernel)
theorem dX1_pivotIn_24 : decode cX1_pivotIn 24 = .ok (.iinc 4 1, 3) := dk_iinc 4 1 (b1 := 4) (b2 := 1) (by decide +kernel) (by decide +kernel) (by decide +kernel) (by decide +kernel) (by decide +kernel)
theorem dX1_pivotIn_27 : decode cX1_pivotIn 27 = .ok (.goto (-24), 3) := dk_goto (-24) (b1 := 255) (b2 := 232) (by decide +kernel) (by decide +kernel) (by decide +kernel) (by decide +kernel)
theorem dX1_pivotIn_21 : decode cX1_pivotIn 21 = .ok (.iload 4, 2) := dk_iload 4 (b := 4) (by decide +kernel) (by decide +kernel) (by decide +kernel)
theorem dX1_pivotIn_23 : decode cX1_pivotIn 23 = .ok (.ireturn, 1) := dk_ireturn (by decide +kernel)
set_option maxRecDepth 20000 in
theorem vX1_pivotIn_3 {E : sm_E} {L : sm_S → Prop} {d : Nat} {vs : List Value} {x1 : Int32} {x3 : Int32} {x4 : Int32}  {m : sm_M} {Q : Int32 → sm_M → Prop} (hly : ∀ S, L S → ly S) (hd : 1 ≤ d) 
  (h : (x3 ≤ x4 →
      Q (-1) m) ∧
   (¬ x3 ≤ x4 →
      (vp_in x4 24) ∧ ∀ j_2 : Nat, j_2 < 24 → m.2.2.1 28 x4.toNatClampNeg = some (29 + j_2) →
      (vp_in x1 48) ∧ ((m.1 (29 + j_2) x1.toNatClampNeg) = 0 →
         ∀ x4_4 : Int32, x4_4 = x4 + 1 →
         gX1_pivotIn_3 E L d vs x1 x3 x4_4 m Q) ∧
      (¬ (m.1 (29 + j_2) x1.toNatClampNeg) = 0 →
         Q x4 m))) :
  gX1_pivotIn_3 E L d vs x1 x3 x4 m Q := by
  refine sm_iload (Y := mX1_pivotIn) (pc := 3) 3 4 rfl dX1_pivotIn_3 ?_
  refine sm_iload_n (Y := mX1_pivotIn) (pc := 5) 2 3 rfl rfl dX1_pivotIn_5 ?_
  refine sm_icmp_ge (Y := mX1_pivotIn) (pc := 6) 30 (by decide) dX1_pivotIn_6 (fun hc => ?_) (fun hc => ?_)
  · replace h := h.1 hc
    refine sm_iconst (Y := mX1_pivotIn) (pc := 30) (-1) (by decide) dX1_pivotIn_30 ?_
    exact sm_iret (Y := mX1_pivotIn) (pc := 31) rfl rfl rfl dX1_pivotIn_31 ⟨_, rfl, h⟩
  · replace h := h.2 hc
    refine sm_aload_n (Y := mX1_pivotIn) (pc := 9) 0 0 rfl rfl dX1_pivotIn_9 ?_
    refine gf_RX1_13 (Y := mX1_pivotIn) (pc := 10) (b := 28) rfl ((lk_27 hly) _) (lf_27_0 hly _) dX1_pivotIn_10 ?_
    refine sm_iload (Y := mX1_pivotIn) (pc := 13) 3 4 rfl dX1_pivotIn_13 ?_
    obtain ⟨hn_1, h⟩ := h
    refine sm_aaldR (Y := mX1_pivotIn) (pc := 15) hly hn_1 dX1_pivotIn_15 (fun j_2 hj_2 ej_2 => ?_)
    replace h := h j_2 hj_2 ej_2
    refine sm_iload_n (Y := mX1_pivotIn) (pc := 16) 1 1 rfl rfl dX1_pivotIn_16 ?_
    obtain ⟨hn_3, h⟩ := h
    refine sm_iald (Y := mX1_pivotIn) (pc := 17) (fun hS => ly_growA hly hj_2 _ hS) hn_3 dX1_pivotIn_17 ?_
    refine sm_if_eq (Y := mX1_pivotIn) (pc := 18) 24 (by decide) dX1_pivotIn_18 (fun hc => ?_) (fun hc => ?_)
    · replace h := h.1 hc
      refine sm_iinc (Y := mX1_pivotIn) (pc := 24) (fun y => [(4, .int y), (0, .ref (sm_B E + 27)), (1, .int x1), (3, .int x3)]) 3 4 rfl (by decide) (fun _ => rfl) dX1_pivotIn_24 (fun x4_4 ex4_4 => ?_)
      replace h := h x4_4 ex4_4
      refine sm_goto (Y := mX1_pivotIn) (pc := 27) 3 (by decide) dX1_pivotIn_27 ?_
      refine sm_sub [1, 2, 3, 0] rfl ?_
      exact h
    · replace h := h.2 hc
      refine sm_iload (Y := mX1_pivotIn) (pc := 21) 3 4 rfl dX1_pivotIn_21 ?_
      exact sm_iret (Y := mX1_pivotIn) (pc := 23) rfl rfl rfl dX1_pivotIn_23 ⟨_, rfl, h⟩
theorem dX1_pivotIn_0 : decode cX1_pivotIn 0 = .ok (.iload_n 2, 1) := dk_iload_n_2 (by decide +kernel)
theorem dX1_pivotIn_1 : decode cX1_pivotIn 1 = .ok (.istore 4, 2) := dk_istore 4 (b := 4) (by decide +kernel) (by decide +kernel) (by decide +kernel)
set_option maxRecDepth 20000 in
theorem vX1_pivotIn_0 {E : sm_E} {L : sm_S → Prop} {d : Nat} {x1 : Int32} {x2 : Int32} {x3 : Int32}  {m : sm_M} {Q : Int32 → sm_M → Prop}  (hd : 1 ≤ d) 
  (h : gX1_pivotIn_3 E L d ([.ref (sm_B E + 27), .int x1, .int x2, .int x3]) x1 x3 x2 m Q) :
  sm_callI E L mX1_pivotIn d 0 0 [.ref (sm_B E + 27), .int x1, .int x2, .int x3] m Q := by
  refine sm_enter (by decide +kernel) (by simp [lg_sl, Value.category]) ?_
  refine sm_iload_n (Y := mX1_pivotIn) (pc := 0) 2 2 rfl rfl dX1_pivotIn_0 ?_
  refine sm_istore0 (Y := mX1_pivotIn) (pc := 1) [(4, .int x2), (0, .ref (sm_B E + 27)), (1, .int x1), (2, .int x2), (3, .int x3)] 4 (by decide) rfl dX1_pivotIn_1 ?_
  refine sm_sub [1, 2, 4, 0] rfl ?_
  exact h
def gX1_inverseOf_2 (E : sm_E) (L : sm_S → Prop) (d : Nat) (vs : List Value) (x0 : Int32) (x1 : Int32) (x2 : Int32) (m : sm_M) (Q : Int32 → sm_M → Prop) : Prop := sm_go E L mX1_inverseOf d 0 0 vs 2 [(0, .int x0), (1, .int x1), (2, .int x2)] [] m 0 0 (sm_Z E L vs 0 0 (sm_QI Q))
theorem dX1_inverseOf_2 : decode cX1_inverseOf 2 = .ok (.iload_n 2, 1) := dk_iload_n_2 (by decide +kernel)
theorem dX1_inverseOf_3 : decode cX1_inverseOf 3 = .ok (.iload_n 1, 1) := dk_iload_n_1 (by decide +kernel)
theorem dX1_inverseOf_4 : decode cX1_inverseOf 4 = .ok (.if_icmp .ge 20, 3) := dk_if_icmp_ge 20 (b1 := 0) (b2 := 20) (by decide +kernel) (by decide +kernel) (by decide +kernel) (by decide +kernel)
theorem dX1_inverseOf_24 : decode cX1_inverseOf 24 = .ok (.iconst 0, 1) := dk_iconst_0 (by decide +kernel)
theorem dX1_inverseOf_25 : decode cX1_inverseOf 25 = .ok (.ireturn, 1) := dk_ireturn (by decide +kernel)
theorem dX1_inverseOf_7 : decode cX1_inverseOf 7 = .ok (.iload_n 0, 1) := dk_iload_n_0 (by decide +kernel)
theorem dX1_inverseOf_8 : decode cX1_inverseOf 8 = .ok (.iload_n 2, 1) := dk_iload_n_2 (by decide +kernel)
theorem dX1_inverseOf_9 : decode cX1_inverseOf 9 = .ok (.imul, 1) := dk_imul (by decide +kernel)
theorem dX1_inverseOf_10 : decode cX1_inverseOf 10 = .ok (.iload_n 1, 1) := dk_iload_n_1 (by decide +kernel)
theorem dX1_inverseOf_11 : decode cX1_inverseOf 11 = .ok (.irem, 1) := dk_irem (by decide +kernel)
theorem dX1_inverseOf_12 : decode cX1_inverseOf 12 = .ok (.iconst 1, 1) := dk_iconst_1 (by decide +kernel)
theorem dX1_inverseOf_13 : decode cX1_inverseOf 13 = .ok (.if_icmp .ne 5, 3) := dk_if_icmp_ne 5 (b1 := 0) (b2 := 5) (by decide +kernel) (by decide +kernel) (by decide +kernel) (by decide +kernel)
theorem dX1_inverseOf_18 : decode cX1_inverseOf 18 = .ok (.iinc 2 1, 3) := dk_iinc 2 1 (b1 := 2) (b2 := 1) (by decide +kernel) (by decide +kernel) (by decide +kernel) (by decide +kernel) (by decide +kernel)
theorem dX1_inverseOf_21 : decode cX1_inverseOf 21 = .ok (.goto (-19), 3) := dk_goto (-19) (b1 := 255) (b2 := 237) (by decide +kernel) (by decide +kernel) (by decide +kernel) (by decide +kernel)
theorem dX1_inverseOf_16 : decode cX1_inverseOf 16 = .ok (.iload_n 2, 1) := dk_iload_n_2 (by decide +kernel)
theorem dX1_inverseOf_17 : decode cX1_inverseOf 17 = .ok (.ireturn, 1) := dk_ireturn (by decide +kernel)
set_option maxRecDepth 20000 in
theorem vX1_inverseOf_2 {E : sm_E} {L : sm_S → Prop} {d : Nat} {vs : List Value} {x0 : Int32} {x1 : Int32} {x2 : Int32}  {m : sm_M} {Q : Int32 → sm_M → Prop}  (hd : 1 ≤ d) 
  (h : (x1 ≤ x2 →
      Q 0 m) ∧
   (¬ x1 ≤ x2 →
      (¬ x1 = 0) ∧ (¬ (sm_rem (x0 * x2) x1) = 1 →
         ∀ x2_2 : Int32, x2_2 = x2 + 1 →
         gX1_inverseOf_2 E L d vs x0 x1 x2_2 m Q) ∧
      ((sm_rem (x0 * x2) x1) = 1 →
         Q x2 m))) :
  gX1_inverseOf_2 E L d vs x0 x1 x2 m Q := by
  refine sm_iload_n (Y := mX1_inverseOf) (pc := 2) 2 2 rfl rfl dX1_inverseOf_2 ?_
  refine sm_iload_n (Y := mX1_inverseOf) (pc := 3) 1 1 rfl rfl dX1_inverseOf_3 ?_
  refine sm_icmp_ge (Y := mX1_inverseOf) (pc := 4) 24 (by decide) dX1_inverseOf_4 (fun hc => ?_) (fun hc => ?_)
  · replace h := h.1 hc
    refine sm_iconst (Y := mX1_inverseOf) (pc := 24) 0 (by decide) dX1_inverseOf_24 ?_
    exact sm_iret (Y := mX1_inverseOf) (pc := 25) rfl rfl rfl dX1_inverseOf_25 ⟨_, rfl, h⟩
  · replace h := h.2 hc
    refine sm_iload_n (Y := mX1_inverseOf) (pc := 7) 0 0 rfl rfl dX1_inverseOf_7 ?_
    refine sm_iload_n (Y := mX1_inverseOf) (pc := 8) 2 2 rfl rfl dX1_inverseOf_8 ?_
    refine sm_imul (Y := mX1_inverseOf) (pc := 9) dX1_inverseOf_9 ?_
    refine sm_iload_n (Y := mX1_inverseOf) (pc := 10) 1 1 rfl rfl dX1_inverseOf_10 ?_
    obtain ⟨hn_1, h⟩ := h
    refine sm_irem (Y := mX1_inverseOf) (pc := 11) hn_1 dX1_inverseOf_11 ?_
    refine sm_iconst (Y := mX1_inverseOf) (pc := 12) 1 (by decide) dX1_inverseOf_12 ?_
    refine sm_icmp_ne (Y := mX1_inverseOf) (pc := 13) 18 (by decide) dX1_inverseOf_13 (fun hc => ?_) (fun hc => ?_)
    · replace h := h.1 hc
      refine sm_iinc (Y := mX1_inverseOf) (pc := 18) (fun y => [(2, .int y), (0, .int x0), (1, .int x1)]) 2 2 rfl (by decide) (fun _ => rfl) dX1_inverseOf_18 (fun x2_2 ex2_2 => ?_)
      replace h := h x2_2 ex2_2
      refine sm_goto (Y := mX1_inverseOf) (pc := 21) 2 (by decide) dX1_inverseOf_21 ?_
      refine sm_sub [1, 2, 0] rfl ?_
      exact h
    · replace h := h.2 hc
      refine sm_iload_n (Y := mX1_inverseOf) (pc := 16) 2 2 rfl rfl dX1_inverseOf_16 ?_
      exact sm_iret (Y := mX1_inverseOf) (pc := 17) rfl rfl rfl dX1_inverseOf_17 ⟨_, rfl, h⟩
theorem dX1_inverseOf_0 : decode cX1_inverseOf 0 = .ok (.iconst 1, 1) := dk_iconst_1 (by decide +kernel)
theorem dX1_inverseOf_1 : decode cX1_inverseOf 1 = .ok (.istore_n 2, 1) := dk_istore_n_2 (by decide +kernel)
set_option maxRecDepth 20000 in
theorem vX1_inverseOf_0 {E : sm_E} {L : sm_S → Prop} {d : Nat} {x0 : Int32} {x1 : Int32}  {m : sm_M} {Q : Int32 → sm_M → Prop}  (hd : 1 ≤ d) 
  (h : gX1_inverseOf_2 E L d ([.int x0, .int x1]) x0 x1 1 m Q) :
  sm_callI E L mX1_inverseOf d 0 0 [.int x0, .int x1] m Q := by
  refine sm_enter (by decide +kernel) (by simp [lg_sl, Value.category]) ?_
  refine sm_iconst (Y := mX1_inverseOf) (pc := 0) 1 (by decide) dX1_inverseOf_0 ?_
  refine sm_istore0_n (Y := mX1_inverseOf) (pc := 1) [(2, .int 1), (0, .int x0), (1, .int x1)] 2 rfl (by decide) rfl dX1_inverseOf_1 ?_
  refine sm_sub [1, 2, 0] rfl ?_
  exact h
def gX1_subtract_3 (E : sm_E) (L : sm_S → Prop) (d : Nat) (vs : List Value) (a0 : Nat) (a1 : Nat) (x2 : Int32) (x4 : Int32) (x5 : Int32) (x6 : Int32) (m : sm_M) (Q : sm_M → Prop) : Prop := sm_go E L mX1_subtract d 0 0 vs 3 [(0, .ref (sm_B E + a0)), (1, .ref (sm_B E + a1)), (2, .int x2), (4, .int x4), (5, .int x5), (6, .int x6)] [] m 0 0 (sm_Z E L vs 0 0 (sm_QV Q))
theorem dX1_subtract_3 : decode cX1_subtract 3 = .ok (.iload 6, 2) := dk_iload 6 (b := 6) (by decide +kernel) (by decide +kernel) (by decide +kernel)
theorem dX1_subtract_5 : decode cX1_subtract 5 = .ok (.iload 4, 2) := dk_iload 4 (b := 4) (by decide +kernel) (by decide +kernel) (by decide +kernel)
theorem dX1_subtract_7 : decode cX1_subtract 7 = .ok (.if_icmp .ge 39, 3) := dk_if_icmp_ge 39 (b1 := 0) (b2 := 39) (by decide +kernel) (by decide +kernel) (by decide +kernel) (by decide +kernel)
theorem dX1_subtract_46 : decode cX1_subtract 46 = .ok (.return_, 1) := dk_return_ (by decide +kernel)
theorem dX1_subtract_10 : decode cX1_subtract 10 = .ok (.iload 6, 2) := dk_iload 6 (b := 6) (by decide +kernel) (by decide +kernel) (by decide +kernel)
theorem dX1_subtract_12 : decode cX1_subtract 12 = .ok (.aload_n 0, 1) := dk_aload_n_0 (by decide +kernel)
theorem dX1_subtract_13 : decode cX1_subtract 13 = .ok (.arraylength, 1) := dk_arraylength (by decide +kernel)
theorem dX1_subtract_14 : decode cX1_subtract 14 = .ok (.if_icmp .ge 32, 3) := dk_if_icmp_ge 32 (b1 := 0) (b2 := 32) (by decide +kernel) (by decide +kernel) (by decide +kernel) (by decide +kernel)
theorem dX1_subtract_17 : decode cX1_subtract 17 = .ok (.iload 5, 2) := dk_iload 5 (b := 5) (by decide +kernel) (by decide +kernel) (by decide +kernel)
theorem dX1_subtract_19 : decode cX1_subtract 19 = .ok (.ifCond .le 27, 3) := dk_ifCond_le 27 (b1 := 0) (b2 := 27) (by decide +kernel) (by decide +kernel) (by decide +kernel) (by decide +kernel)
theorem dX1_subtract_22 : decode cX1_subtract 22 = .ok (.aload_n 0, 1) := dk_aload_n_0 (by decide +kernel)
theorem dX1_subtract_23 : decode cX1_subtract 23 = .ok (.iload 6, 2) := dk_iload 6 (b := 6) (by decide +kernel) (by decide +kernel) (by decide +kernel)
theorem dX1_subtract_25 : decode cX1_subtract 25 = .ok (.aload_n 0, 1) := dk_aload_n_0 (by decide +kernel)
theorem dX1_subtract_26 : decode cX1_subtract 26 = .ok (.iload 6, 2) := dk_iload 6 (b := 6) (by decide +kernel) (by decide +kernel) (by decide +kernel)
theorem dX1_subtract_28 : decode cX1_subtract 28 = .ok (.iaload, 1) := dk_iaload (by decide +kernel)
theorem dX1_subtract_29 : decode cX1_subtract 29 = .ok (.iload_n 2, 1) := dk_iload_n_2 (by decide +kernel)
theorem dX1_subtract_30 : decode cX1_subtract 30 = .ok (.aload_n 1, 1) := dk_aload_n_1 (by decide +kernel)
theorem dX1_subtract_31 : decode cX1_subtract 31 = .ok (.iload 6, 2) := dk_iload 6 (b := 6) (by decide +kernel) (by decide +kernel) (by decide +kernel)
theorem dX1_subtract_33 : decode cX1_subtract 33 = .ok (.iaload, 1) := dk_iaload (by decide +kernel)
theorem dX1_subtract_34 : decode cX1_subtract 34 = .ok (.imul, 1) := dk_imul (by decide +kernel)
theorem dX1_subtract_35 : decode cX1_subtract 35 = .ok (.iadd, 1) := dk_iadd (by decide +kernel)
theorem dX1_subtract_36 : decode cX1_subtract 36 = .ok (.iload 5, 2) := dk_iload 5 (b := 5) (by decide +kernel) (by decide +kernel) (by decide +kernel)
theorem dX1_subtract_38 : decode cX1_subtract 38 = .ok (.irem, 1) := dk_irem (by decide +kernel)
theorem dX1_subtract_39 : decode cX1_subtract 39 = .ok (.iastore, 1) := dk_iastore (by decide +kernel)
theorem dX1_subtract_40 : decode cX1_subtract 40 = .ok (.iinc 6 1, 3) := dk_iinc 6 1 (b1 := 6) (b2 := 1) (by decide +kernel) (by decide +kernel) (by decide +kernel) (by decide +kernel) (by decide +kernel)
theorem dX1_subtract_43 : decode cX1_subtract 43 = .ok (.goto (-40), 3) := dk_goto (-40) (b1 := 255) (b2 := 216) (by decide +kernel) (by decide +kernel) (by decide +kernel) (by decide +kernel)
set_option maxRecDepth 20000 in
theorem vX1_subtract_3 {E : sm_E} {L : sm_S → Prop} {d : Nat} {vs : List Value} {a0 : Nat} {a1 : Nat} {x2 : Int32} {x4 : Int32} {x5 : Int32} {x6 : Int32} {na0 : Nat} {na1 : Nat} {m : sm_M} {Q : sm_M → Prop}  (hd : 1 ≤ d) (hTa0 : ∀ S, L S → sm_K S a0 = 11 ∧ sm_N S a0 = na0) (hTa1 : ∀ S, L S → sm_K S a1 = 11 ∧ sm_N S a1 = na1)
  (h : (x4 ≤ x6 →
      Q m) ∧
   (¬ x4 ≤ x6 →
      ((nI na0) ≤ x6 →
         Q m) ∧
      (¬ (nI na0) ≤ x6 →
         (x5 ≤ 0 →
            Q m) ∧
         (¬ x5 ≤ 0 →
            (vp_in x6 na0) ∧ (vp_in x6 na1) ∧ (¬ x5 = 0) ∧ (vp_in x6 na0) ∧ ∀ m_4 : sm_M, m_4 = sm_wI m a0 x6.toNatClampNeg (sm_rem ((m.1 a0 x6.toNatClampNeg) + (x2 * (m.1 a1 x6.toNatClampNeg))) x5) →
            ∀ x6_6 : Int32, x6_6 = x6 + 1 →
            gX1_subtract_3 E L d vs a0 a1 x2 x4 x5 x6_6 m_4 Q)))) :
  gX1_subtract_3 E L d vs a0 a1 x2 x4 x5 x6 m Q := by
  refine sm_iload (Y := mX1_subtract) (pc := 3) 5 6 rfl dX1_subtract_3 ?_
  refine sm_iload (Y := mX1_subtract) (pc := 5) 3 4 rfl dX1_subtract_5 ?_
  refine sm_icmp_ge (Y := mX1_subtract) (pc := 7) 46 (by decide) dX1_subtract_7 (fun hc => ?_) (fun hc => ?_)
  · replace h := h.1 hc
    exact sm_vret (Y := mX1_subtract) (pc := 46) rfl rfl rfl dX1_subtract_46 ⟨rfl, h⟩
  · replace h := h.2 hc
    refine sm_iload (Y := mX1_subtract) (pc := 10) 5 6 rfl dX1_subtract_10 ?_
    refine sm_aload_n (Y := mX1_subtract) (pc := 12) 0 0 rfl rfl dX1_subtract_12 ?_
    refine sm_alenI (Y := mX1_subtract) (pc := 13) (fun hS => hTa0 _ hS) dX1_subtract_13 ?_
    refine sm_icmp_ge (Y := mX1_subtract) (pc := 14) 46 (by decide) dX1_subtract_14 (fun hc => ?_) (fun hc => ?_)
    · replace h := h.1 hc
      exact sm_vret (Y := mX1_subtract) (pc := 46) rfl rfl rfl dX1_subtract_46 ⟨rfl, h⟩
    · replace h := h.2 hc
      refine sm_iload (Y := mX1_subtract) (pc := 17) 4 5 rfl dX1_subtract_17 ?_
      refine sm_if_le (Y := mX1_subtract) (pc := 19) 46 (by decide) dX1_subtract_19 (fun hc => ?_) (fun hc => ?_)
      · replace h := h.1 hc
        exact sm_vret (Y := mX1_subtract) (pc := 46) rfl rfl rfl dX1_subtract_46 ⟨rfl, h⟩
      · replace h := h.2 hc
        refine sm_aload_n (Y := mX1_subtract) (pc := 22) 0 0 rfl rfl dX1_subtract_22 ?_
        refine sm_iload (Y := mX1_subtract) (pc := 23) 5 6 rfl dX1_subtract_23 ?_
        refine sm_aload_n (Y := mX1_subtract) (pc := 25) 0 0 rfl rfl dX1_subtract_25 ?_
        refine sm_iload (Y := mX1_subtract) (pc := 26) 5 6 rfl dX1_subtract_26 ?_
        obtain ⟨hn_1, h⟩ := h
        refine sm_iald (Y := mX1_subtract) (pc := 28) (fun hS => hTa0 _ hS) hn_1 dX1_subtract_28 ?_
        refine sm_iload_n (Y := mX1_subtract) (pc := 29) 2 2 rfl rfl dX1_subtract_29 ?_
        refine sm_aload_n (Y := mX1_subtract) (pc := 30) 1 1 rfl rfl dX1_subtract_30 ?_
        refine sm_iload (Y := mX1_subtract) (pc := 31) 5 6 rfl dX1_subtract_31 ?_
        obtain ⟨hn_2, h⟩ := h
        refine sm_iald (Y := mX1_subtract) (pc := 33) (fun hS => hTa1 _ hS) hn_2 dX1_subtract_33 ?_
        refine sm_imul (Y := mX1_subtract) (pc := 34) dX1_subtract_34 ?_
        refine sm_iadd (Y := mX1_subtract) (pc := 35) dX1_subtract_35 ?_
        refine sm_iload (Y := mX1_subtract) (pc := 36) 4 5 rfl dX1_subtract_36 ?_
        obtain ⟨hn_3, h⟩ := h
        refine sm_irem (Y := mX1_subtract) (pc := 38) hn_3 dX1_subtract_38 ?_
        obtain ⟨hn_5, h⟩ := h
        refine sm_iast (Y := mX1_subtract) (pc := 39) (fun hS => hTa0 _ hS) hn_5 dX1_subtract_39 (fun m_4 em_4 => ?_)
        replace h := h m_4 em_4
        refine sm_iinc (Y := mX1_subtract) (pc := 40) (fun y => [(6, .int y), (0, .ref (sm_B E + a0)), (1, .ref (sm_B E + a1)), (2, .int x2), (4, .int x4), (5, .int x5)]) 5 6 rfl (by decide) (fun _ => rfl) dX1_subtract_40 (fun x6_6 ex6_6 => ?_)
        replace h := h x6_6 ex6_6
        refine sm_goto (Y := mX1_subtract) (pc := 43) 3 (by decide) dX1_subtract_43 ?_
        refine sm_sub [1, 2, 3, 4, 5, 0] rfl ?_
        exact h
theorem dX1_subtract_0 : decode cX1_subtract 0 = .ok (.iload_n 3, 1) := dk_iload_n_3 (by decide +kernel)
theorem dX1_subtract_1 : decode cX1_subtract 1 = .ok (.istore 6, 2) := dk_istore 6 (b := 6) (by decide +kernel) (by decide +kernel) (by decide +kernel)
set_option maxRecDepth 20000 in
theorem vX1_subtract_0 {E : sm_E} {L : sm_S → Prop} {d : Nat} {a0 : Nat} {a1 : Nat} {x2 : Int32} {x3 : Int32} {x4 : Int32} {x5 : Int32} {na0 : Nat} {na1 : Nat} {m : sm_M} {Q : sm_M → Prop}  (hd : 1 ≤ d) (hTa0 : ∀ S, L S → sm_K S a0 = 11 ∧ sm_N S a0 = na0) (hTa1 : ∀ S, L S → sm_K S a1 = 11 ∧ sm_N S a1 = na1)
  (h : gX1_subtract_3 E L d ([.ref (sm_B E + a0), .ref (sm_B E + a1), .int x2, .int x3, .int x4, .int x5]) a0 a1 x2 x4 x5 x3 m Q) :
  sm_callV E L mX1_subtract d 0 0 [.ref (sm_B E + a0), .ref (sm_B E + a1), .int x2, .int x3, .int x4, .int x5] m Q := by
  refine sm_enter (by decide +kernel) (by simp [lg_sl, Value.category]) ?_
  refine sm_iload_n (Y := mX1_subtract) (pc := 0) 3 3 rfl rfl dX1_subtract_0 ?_
  refine sm_istore0 (Y := mX1_subtract) (pc := 1) [(6, .int x3), (0, .ref (sm_B E + a0)), (1, .ref (sm_B E + a1)), (2, .int x2), (3, .int x3), (4, .int x4), (5, .int x5)] 6 (by decide) rfl dX1_subtract_1 ?_
  refine sm_sub [1, 2, 3, 5, 6, 0] rfl ?_
  exact h
abbrev mX5_sort : sm_Y := (yX5_sort, cX5_sort, 6, none)
theorem fX5_sort : sm_mt mX5_sort 2 := ⟨sm_in 986 (by decide +kernel) (by decide +kernel), sm_in 985 (by decide +kernel) (by decide +kernel), sm_in 90 (by decide +kernel) (by decide +kernel), ⟨by decide +kernel, by decide +kernel, by decide +kernel⟩, by decide⟩
def gX5_sort_29 (E : sm_E) (L : sm_S → Prop) (d : Nat) (vs : List Value) (a0 : Nat) (x1 : Int32) (x2 : Int32) (x3 : Int32) (x4 : Int32) (x5 : Int32) (m : sm_M) (Q : sm_M → Prop) : Prop := sm_go E L mX5_sort d 0 0 vs 29 [(0, .ref (sm_B E + a0)), (1, .int x1), (2, .int x2), (3, .int x3), (4, .int x4), (5, .int x5)] [] m 0 0 (sm_Z E L vs 0 0 (sm_QV Q))
def gX5_sort_10 (E : sm_E) (L : sm_S → Prop) (d : Nat) (vs : List Value) (a0 : Nat) (x1 : Int32) (x2 : Int32) (x3 : Int32) (m : sm_M) (Q : sm_M → Prop) : Prop := sm_go E L mX5_sort d 0 0 vs 10 [(0, .ref (sm_B E + a0)), (1, .int x1), (2, .int x2), (3, .int x3)] [] m 0 0 (sm_Z E L vs 0 0 (sm_QV Q))
def gX5_sort_4 (E : sm_E) (L : sm_S → Prop) (d : Nat) (vs : List Value) (a0 : Nat) (x1 : Int32) (x2 : Int32) (m : sm_M) (Q : sm_M → Prop) : Prop := sm_go E L mX5_sort d 0 0 vs 4 [(0, .ref (sm_B E + a0)), (1, .int x1), (2, .int x2)] [] m 0 0 (sm_Z E L vs 0 0 (sm_QV Q))
theorem dX5_sort_29 : decode cX5_sort 29 = .ok (.iload 5, 2) := dk_iload 5 (b := 5) (by decide +kernel) (by decide +kernel) (by decide +kernel)
theorem dX5_sort_31 : decode cX5_sort 31 = .ok (.iload_n 2, 1) := dk_iload_n_2 (by decide +kernel)
theorem dX5_sort_32 : decode cX5_sort 32 = .ok (.if_icmp .lt 33, 3) := dk_if_icmp_lt 33 (b1 := 0) (b2 := 33) (by decide +kernel) (by decide +kernel) (by decide +kernel) (by decide +kernel)
theorem dX5_sort_65 : decode cX5_sort 65 = .ok (.aload_n 0, 1) := dk_aload_n_0 (by decide +kernel)
theorem dX5_sort_66 : decode cX5_sort 66 = .ok (.iload 5, 2) := dk_iload 5 (b := 5) (by decide +kernel) (by decide +kernel) (by decide +kernel)
theorem dX5_sort_68 : decode cX5_sort 68 = .ok (.iload 4, 2) := dk_iload 4 (b := 4) (by decide +kernel) (by decide +kernel) (by decide +kernel)
theorem dX5_sort_70 : decode cX5_sort 70 = .ok (.iastore, 1) := dk_iastore (by decide +kernel)
theorem dX5_sort_71 : decode cX5_sort 71 = .ok (.iinc 3 1, 3) := dk_iinc 3 1 (b1 := 3) (b2 := 1) (by decide +kernel) (by decide +kernel) (by decide +kernel) (by decide +kernel) (by decide +kernel)
theorem dX5_sort_74 : decode cX5_sort 74 = .ok (.goto (-64), 3) := dk_goto (-64) (b1 := 255) (b2 := 192) (by decide +kernel) (by decide +kernel) (by decide +kernel) (by decide +kernel)
theorem dX5_sort_35 : decode cX5_sort 35 = .ok (.aload_n 0, 1) := dk_aload_n_0 (by decide +kernel)
theorem dX5_sort_36 : decode cX5_sort 36 = .ok (.iload 5, 2) := dk_iload 5 (b := 5) (by decide +kernel) (by decide +kernel) (by decide +kernel)
theorem dX5_sort_38 : decode cX5_sort 38 = .ok (.iload_n 2, 1) := dk_iload_n_2 (by decide +kernel)
theorem dX5_sort_39 : decode cX5_sort 39 = .ok (.isub, 1) := dk_isub (by decide +kernel)
theorem dX5_sort_40 : decode cX5_sort 40 = .ok (.iaload, 1) := dk_iaload (by decide +kernel)
theorem dX5_sort_41 : decode cX5_sort 41 = .ok (.iload 4, 2) := dk_iload 4 (b := 4) (by decide +kernel) (by decide +kernel) (by decide +kernel)
theorem dX5_sort_43 : decode cX5_sort 43 = .ok (.if_icmp .le 22, 3) := dk_if_icmp_le 22 (b1 := 0) (b2 := 22) (by decide +kernel) (by decide +kernel) (by decide +kernel) (by decide +kernel)
theorem dX5_sort_46 : decode cX5_sort 46 = .ok (.aload_n 0, 1) := dk_aload_n_0 (by decide +kernel)
theorem dX5_sort_47 : decode cX5_sort 47 = .ok (.iload 5, 2) := dk_iload 5 (b := 5) (by decide +kernel) (by decide +kernel) (by decide +kernel)
theorem dX5_sort_49 : decode cX5_sort 49 = .ok (.aload_n 0, 1) := dk_aload_n_0 (by decide +kernel)
theorem dX5_sort_50 : decode cX5_sort 50 = .ok (.iload 5, 2) := dk_iload 5 (b := 5) (by decide +kernel) (by decide +kernel) (by decide +kernel)
theorem dX5_sort_52 : decode cX5_sort 52 = .ok (.iload_n 2, 1) := dk_iload_n_2 (by decide +kernel)
theorem dX5_sort_53 : decode cX5_sort 53 = .ok (.isub, 1) := dk_isub (by decide +kernel)
theorem dX5_sort_54 : decode cX5_sort 54 = .ok (.iaload, 1) := dk_iaload (by decide +kernel)
theorem dX5_sort_55 : decode cX5_sort 55 = .ok (.iastore, 1) := dk_iastore (by decide +kernel)
theorem dX5_sort_56 : decode cX5_sort 56 = .ok (.iload 5, 2) := dk_iload 5 (b := 5) (by decide +kernel) (by decide +kernel) (by decide +kernel)
theorem dX5_sort_58 : decode cX5_sort 58 = .ok (.iload_n 2, 1) := dk_iload_n_2 (by decide +kernel)
theorem dX5_sort_59 : decode cX5_sort 59 = .ok (.isub, 1) := dk_isub (by decide +kernel)
theorem dX5_sort_60 : decode cX5_sort 60 = .ok (.istore 5, 2) := dk_istore 5 (b := 5) (by decide +kernel) (by decide +kernel) (by decide +kernel)
theorem dX5_sort_62 : decode cX5_sort 62 = .ok (.goto (-33), 3) := dk_goto (-33) (b1 := 255) (b2 := 223) (by decide +kernel) (by decide +kernel) (by decide +kernel) (by decide +kernel)
set_option maxRecDepth 20000 in
theorem vX5_sort_29 {E : sm_E} {L : sm_S → Prop} {d : Nat} {vs : List Value} {a0 : Nat} {x1 : Int32} {x2 : Int32} {x3 : Int32} {x4 : Int32} {x5 : Int32} {na0 : Nat} {m : sm_M} {Q : sm_M → Prop}  (hd : 1 ≤ d) (hTa0 : ∀ S, L S → sm_K S a0 = 11 ∧ sm_N S a0 = na0)
  (h : (x5 < x2 →
      (vp_in x5 na0) ∧ ∀ m_1 : sm_M, m_1 = sm_wI m a0 x5.toNatClampNeg x4 →
      ∀ x3_3 : Int32, x3_3 = x3 + 1 →
      gX5_sort_10 E L d vs a0 x1 x2 x3_3 m_1 Q) ∧
   (¬ x5 < x2 →
      (vp_in (x5 - x2) na0) ∧ ((m.1 a0 (x5 - x2).toNatClampNeg) ≤ x4 →
         (vp_in x5 na0) ∧ ∀ m_5 : sm_M, m_5 = sm_wI m a0 x5.toNatClampNeg x4 →
         ∀ x3_7 : Int32, x3_7 = x3 + 1 →
         gX5_sort_10 E L d vs a0 x1 x2 x3_7 m_5 Q) ∧
      (¬ (m.1 a0 (x5 - x2).toNatClampNeg) ≤ x4 →
         (vp_in (x5 - x2) na0) ∧ (vp_in x5 na0) ∧ ∀ m_9 : sm_M, m_9 = sm_wI m a0 x5.toNatClampNeg (m.1 a0 (x5 - x2).toNatClampNeg) →
         ∀ x5_11 : Int32, x5_11 = x5 - x2 →
         gX5_sort_29 E L d vs a0 x1 x2 x3 x4 x5_11 m_9 Q))) :
  gX5_sort_29 E L d vs a0 x1 x2 x3 x4 x5 m Q := by
  refine sm_iload (Y := mX5_sort) (pc := 29) 5 5 rfl dX5_sort_29 ?_
  refine sm_iload_n (Y := mX5_sort) (pc := 31) 2 2 rfl rfl dX5_sort_31 ?_
  refine sm_icmp_lt (Y := mX5_sort) (pc := 32) 65 (by decide) dX5_sort_32 (fun hc => ?_) (fun hc => ?_)
  · replace h := h.1 hc
    refine sm_aload_n (Y := mX5_sort) (pc := 65) 0 0 rfl rfl dX5_sort_65 ?_
    refine sm_iload (Y := mX5_sort) (pc := 66) 5 5 rfl dX5_sort_66 ?_
    refine sm_iload (Y := mX5_sort) (pc := 68) 4 4 rfl dX5_sort_68 ?_
    obtain ⟨hn_2, h⟩ := h
    refine sm_iast (Y := mX5_sort) (pc := 70) (fun hS => hTa0 _ hS) hn_2 dX5_sort_70 (fun m_1 em_1 => ?_)
    replace h := h m_1 em_1
    refine sm_iinc (Y := mX5_sort) (pc := 71) (fun y => [(3, .int y), (0, .ref (sm_B E + a0)), (1, .int x1), (2, .int x2), (4, .int x4), (5, .int x5)]) 3 3 rfl (by decide) (fun _ => rfl) dX5_sort_71 (fun x3_3 ex3_3 => ?_)
    replace h := h x3_3 ex3_3
    refine sm_goto (Y := mX5_sort) (pc := 74) 10 (by decide) dX5_sort_74 ?_
    refine sm_sub [1, 2, 3, 0] rfl ?_
    exact h
  · replace h := h.2 hc
    refine sm_aload_n (Y := mX5_sort) (pc := 35) 0 0 rfl rfl dX5_sort_35 ?_
    refine sm_iload (Y := mX5_sort) (pc := 36) 5 5 rfl dX5_sort_36 ?_
    refine sm_iload_n (Y := mX5_sort) (pc := 38) 2 2 rfl rfl dX5_sort_38 ?_
    refine sm_isub (Y := mX5_sort) (pc := 39) dX5_sort_39 ?_
    obtain ⟨hn_4, h⟩ := h
    refine sm_iald (Y := mX5_sort) (pc := 40) (fun hS => hTa0 _ hS) hn_4 dX5_sort_40 ?_
    refine sm_iload (Y := mX5_sort) (pc := 41) 4 4 rfl dX5_sort_41 ?_
    refine sm_icmp_le (Y := mX5_sort) (pc := 43) 65 (by decide) dX5_sort_43 (fun hc => ?_) (fun hc => ?_)
    · replace h := h.1 hc
      refine sm_aload_n (Y := mX5_sort) (pc := 65) 0 0 rfl rfl dX5_sort_65 ?_
      refine sm_iload (Y := mX5_sort) (pc := 66) 5 5 rfl dX5_sort_66 ?_
      refine sm_iload (Y := mX5_sort) (pc := 68) 4 4 rfl dX5_sort_68 ?_
      obtain ⟨hn_6, h⟩ := h
      refine sm_iast (Y := mX5_sort) (pc := 70) (fun hS => hTa0 _ hS) hn_6 dX5_sort_70 (fun m_5 em_5 => ?_)
      replace h := h m_5 em_5
      refine sm_iinc (Y := mX5_sort) (pc := 71) (fun y => [(3, .int y), (0, .ref (sm_B E + a0)), (1, .int x1), (2, .int x2), (4, .int x4), (5, .int x5)]) 3 3 rfl (by decide) (fun _ => rfl) dX5_sort_71 (fun x3_7 ex3_7 => ?_)
      replace h := h x3_7 ex3_7
      refine sm_goto (Y := mX5_sort) (pc := 74) 10 (by decide) dX5_sort_74 ?_
      refine sm_sub [1, 2, 3, 0] rfl ?_
      exact h
    · replace h := h.2 hc
      refine sm_aload_n (Y := mX5_sort) (pc := 46) 0 0 rfl rfl dX5_sort_46 ?_
      refine sm_iload (Y := mX5_sort) (pc := 47) 5 5 rfl dX5_sort_47 ?_
      refine sm_aload_n (Y := mX5_sort) (pc := 49) 0 0 rfl rfl dX5_sort_49 ?_
      refine sm_iload (Y := mX5_sort) (pc := 50) 5 5 rfl dX5_sort_50 ?_
      refine sm_iload_n (Y := mX5_sort) (pc := 52) 2 2 rfl rfl dX5_sort_52 ?_
      refine sm_isub (Y := mX5_sort) (pc := 53) dX5_sort_53 ?_
      obtain ⟨hn_8, h⟩ := h
      refine sm_iald (Y := mX5_sort) (pc := 54) (fun hS => hTa0 _ hS) hn_8 dX5_sort_54 ?_
      obtain ⟨hn_10, h⟩ := h
      refine sm_iast (Y := mX5_sort) (pc := 55) (fun hS => hTa0 _ hS) hn_10 dX5_sort_55 (fun m_9 em_9 => ?_)
      replace h := h m_9 em_9
      refine sm_iload (Y := mX5_sort) (pc := 56) 5 5 rfl dX5_sort_56 ?_
      refine sm_iload_n (Y := mX5_sort) (pc := 58) 2 2 rfl rfl dX5_sort_58 ?_
      refine sm_isub (Y := mX5_sort) (pc := 59) dX5_sort_59 ?_
      refine sm_istore (Y := mX5_sort) (pc := 60) (fun y => [(5, .int y), (0, .ref (sm_B E + a0)), (1, .int x1), (2, .int x2), (3, .int x3), (4, .int x4)]) 5 (by decide) (fun _ => rfl) dX5_sort_60 (fun x5_11 ex5_11 => ?_)
      replace h := h x5_11 ex5_11
      refine sm_goto (Y := mX5_sort) (pc := 62) 29 (by decide) dX5_sort_62 ?_
      refine sm_sub [1, 2, 3, 4, 5, 0] rfl ?_
      exact h
theorem dX5_sort_10 : decode cX5_sort 10 = .ok (.iload_n 3, 1) := dk_iload_n_3 (by decide +kernel)
theorem dX5_sort_11 : decode cX5_sort 11 = .ok (.iload_n 1, 1) := dk_iload_n_1 (by decide +kernel)
theorem dX5_sort_12 : decode cX5_sort 12 = .ok (.if_icmp .ge 65, 3) := dk_if_icmp_ge 65 (b1 := 0) (b2 := 65) (by decide +kernel) (by decide +kernel) (by decide +kernel) (by decide +kernel)
theorem dX5_sort_77 : decode cX5_sort 77 = .ok (.iload_n 2, 1) := dk_iload_n_2 (by decide +kernel)
theorem dX5_sort_78 : decode cX5_sort 78 = .ok (.iconst 2, 1) := dk_iconst_2 (by decide +kernel)
theorem dX5_sort_79 : decode cX5_sort 79 = .ok (.idiv, 1) := dk_idiv (by decide +kernel)
theorem dX5_sort_80 : decode cX5_sort 80 = .ok (.istore_n 2, 1) := dk_istore_n_2 (by decide +kernel)
theorem dX5_sort_81 : decode cX5_sort 81 = .ok (.goto (-77), 3) := dk_goto (-77) (b1 := 255) (b2 := 179) (by decide +kernel) (by decide +kernel) (by decide +kernel) (by decide +kernel)
theorem dX5_sort_15 : decode cX5_sort 15 = .ok (.iload_n 3, 1) := dk_iload_n_3 (by decide +kernel)
theorem dX5_sort_16 : decode cX5_sort 16 = .ok (.aload_n 0, 1) := dk_aload_n_0 (by decide +kernel)
theorem dX5_sort_17 : decode cX5_sort 17 = .ok (.arraylength, 1) := dk_arraylength (by decide +kernel)
theorem dX5_sort_18 : decode cX5_sort 18 = .ok (.if_icmp .ge 59, 3) := dk_if_icmp_ge 59 (b1 := 0) (b2 := 59) (by decide +kernel) (by decide +kernel) (by decide +kernel) (by decide +kernel)
theorem dX5_sort_21 : decode cX5_sort 21 = .ok (.aload_n 0, 1) := dk_aload_n_0 (by decide +kernel)
theorem dX5_sort_22 : decode cX5_sort 22 = .ok (.iload_n 3, 1) := dk_iload_n_3 (by decide +kernel)
theorem dX5_sort_23 : decode cX5_sort 23 = .ok (.iaload, 1) := dk_iaload (by decide +kernel)
theorem dX5_sort_24 : decode cX5_sort 24 = .ok (.istore 4, 2) := dk_istore 4 (b := 4) (by decide +kernel) (by decide +kernel) (by decide +kernel)
theorem dX5_sort_26 : decode cX5_sort 26 = .ok (.iload_n 3, 1) := dk_iload_n_3 (by decide +kernel)
theorem dX5_sort_27 : decode cX5_sort 27 = .ok (.istore 5, 2) := dk_istore 5 (b := 5) (by decide +kernel) (by decide +kernel) (by decide +kernel)
set_option maxRecDepth 20000 in
theorem vX5_sort_10 {E : sm_E} {L : sm_S → Prop} {d : Nat} {vs : List Value} {a0 : Nat} {x1 : Int32} {x2 : Int32} {x3 : Int32} {na0 : Nat} {m : sm_M} {Q : sm_M → Prop}  (hd : 1 ≤ d) (hTa0 : ∀ S, L S → sm_K S a0 = 11 ∧ sm_N S a0 = na0)
  (h : (x1 ≤ x3 →
      ∀ x2_1 : Int32, x2_1 = x2 / 2 →
      gX5_sort_4 E L d vs a0 x1 x2_1 m Q) ∧
   (¬ x1 ≤ x3 →
      ((nI na0) ≤ x3 →
         ∀ x2_2 : Int32, x2_2 = x2 / 2 →
         gX5_sort_4 E L d vs a0 x1 x2_2 m Q) ∧
      (¬ (nI na0) ≤ x3 →
         (vp_in x3 na0) ∧ ∀ x4_4 : Int32, x4_4 = m.1 a0 x3.toNatClampNeg →
         gX5_sort_29 E L d vs a0 x1 x2 x3 x4_4 x3 m Q))) :
  gX5_sort_10 E L d vs a0 x1 x2 x3 m Q := by
  refine sm_iload_n (Y := mX5_sort) (pc := 10) 3 3 rfl rfl dX5_sort_10 ?_
  refine sm_iload_n (Y := mX5_sort) (pc := 11) 1 1 rfl rfl dX5_sort_11 ?_
  refine sm_icmp_ge (Y := mX5_sort) (pc := 12) 77 (by decide) dX5_sort_12 (fun hc => ?_) (fun hc => ?_)
  · replace h := h.1 hc
    refine sm_iload_n (Y := mX5_sort) (pc := 77) 2 2 rfl rfl dX5_sort_77 ?_
    refine sm_iconst (Y := mX5_sort) (pc := 78) 2 (by decide) dX5_sort_78 ?_
    refine sm_idiv (Y := mX5_sort) (pc := 79) (by decide) dX5_sort_79 ?_
    refine sm_istore_n (Y := mX5_sort) (pc := 80) (fun y => [(2, .int y), (0, .ref (sm_B E + a0)), (1, .int x1), (3, .int x3)]) 2 rfl (by decide) (fun _ => rfl) dX5_sort_80 (fun x2_1 ex2_1 => ?_)
    replace h := h x2_1 ex2_1
    refine sm_goto (Y := mX5_sort) (pc := 81) 4 (by decide) dX5_sort_81 ?_
    refine sm_sub [1, 2, 0] rfl ?_
    exact h
  · replace h := h.2 hc
    refine sm_iload_n (Y := mX5_sort) (pc := 15) 3 3 rfl rfl dX5_sort_15 ?_
    refine sm_aload_n (Y := mX5_sort) (pc := 16) 0 0 rfl rfl dX5_sort_16 ?_
    refine sm_alenI (Y := mX5_sort) (pc := 17) (fun hS => hTa0 _ hS) dX5_sort_17 ?_
    refine sm_icmp_ge (Y := mX5_sort) (pc := 18) 77 (by decide) dX5_sort_18 (fun hc => ?_) (fun hc => ?_)
    · replace h := h.1 hc
      refine sm_iload_n (Y := mX5_sort) (pc := 77) 2 2 rfl rfl dX5_sort_77 ?_
      refine sm_iconst (Y := mX5_sort) (pc := 78) 2 (by decide) dX5_sort_78 ?_
      refine sm_idiv (Y := mX5_sort) (pc := 79) (by decide) dX5_sort_79 ?_
      refine sm_istore_n (Y := mX5_sort) (pc := 80) (fun y => [(2, .int y), (0, .ref (sm_B E + a0)), (1, .int x1), (3, .int x3)]) 2 rfl (by decide) (fun _ => rfl) dX5_sort_80 (fun x2_2 ex2_2 => ?_)
      replace h := h x2_2 ex2_2
      refine sm_goto (Y := mX5_sort) (pc := 81) 4 (by decide) dX5_sort_81 ?_
      refine sm_sub [1, 2, 0] rfl ?_
      exact h
    · replace h := h.2 hc
      refine sm_aload_n (Y := mX5_sort) (pc := 21) 0 0 rfl rfl dX5_sort_21 ?_
      refine sm_iload_n (Y := mX5_sort) (pc := 22) 3 3 rfl rfl dX5_sort_22 ?_
      obtain ⟨hn_3, h⟩ := h
      refine sm_iald (Y := mX5_sort) (pc := 23) (fun hS => hTa0 _ hS) hn_3 dX5_sort_23 ?_
      refine sm_istore (Y := mX5_sort) (pc := 24) (fun y => [(4, .int y), (0, .ref (sm_B E + a0)), (1, .int x1), (2, .int x2), (3, .int x3)]) 4 (by decide) (fun _ => rfl) dX5_sort_24 (fun x4_4 ex4_4 => ?_)
      replace h := h x4_4 ex4_4
      refine sm_iload_n (Y := mX5_sort) (pc := 26) 4 3 rfl rfl dX5_sort_26 ?_
      refine sm_istore0 (Y := mX5_sort) (pc := 27) [(5, .int x3), (4, .int x4_4), (0, .ref (sm_B E + a0)), (1, .int x1), (2, .int x2), (3, .int x3)] 5 (by decide) rfl dX5_sort_27 ?_
      refine sm_sub [2, 3, 4, 5, 1, 0] rfl ?_
      exact h
theorem dX5_sort_4 : decode cX5_sort 4 = .ok (.iload_n 2, 1) := dk_iload_n_2 (by decide +kernel)
theorem dX5_sort_5 : decode cX5_sort 5 = .ok (.ifCond .le 79, 3) := dk_ifCond_le 79 (b1 := 0) (b2 := 79) (by decide +kernel) (by decide +kernel) (by decide +kernel) (by decide +kernel)
theorem dX5_sort_84 : decode cX5_sort 84 = .ok (.return_, 1) := dk_return_ (by decide +kernel)
theorem dX5_sort_8 : decode cX5_sort 8 = .ok (.iload_n 2, 1) := dk_iload_n_2 (by decide +kernel)
theorem dX5_sort_9 : decode cX5_sort 9 = .ok (.istore_n 3, 1) := dk_istore_n_3 (by decide +kernel)
set_option maxRecDepth 20000 in
theorem vX5_sort_4 {E : sm_E} {L : sm_S → Prop} {d : Nat} {vs : List Value} {a0 : Nat} {x1 : Int32} {x2 : Int32} {na0 : Nat} {m : sm_M} {Q : sm_M → Prop}  (hd : 1 ≤ d) (hTa0 : ∀ S, L S → sm_K S a0 = 11 ∧ sm_N S a0 = na0)
  (h : (x2 ≤ 0 →
      Q m) ∧
   (¬ x2 ≤ 0 →
      gX5_sort_10 E L d vs a0 x1 x2 x2 m Q)) :
  gX5_sort_4 E L d vs a0 x1 x2 m Q := by
  refine sm_iload_n (Y := mX5_sort) (pc := 4) 2 2 rfl rfl dX5_sort_4 ?_
  refine sm_if_le (Y := mX5_sort) (pc := 5) 84 (by decide) dX5_sort_5 (fun hc => ?_) (fun hc => ?_)
  · replace h := h.1 hc
    exact sm_vret (Y := mX5_sort) (pc := 84) rfl rfl rfl dX5_sort_84 ⟨rfl, h⟩
  · replace h := h.2 hc
    refine sm_iload_n (Y := mX5_sort) (pc := 8) 2 2 rfl rfl dX5_sort_8 ?_
    refine sm_istore0_n (Y := mX5_sort) (pc := 9) [(3, .int x2), (0, .ref (sm_B E + a0)), (1, .int x1), (2, .int x2)] 3 rfl (by decide) rfl dX5_sort_9 ?_
    refine sm_sub [1, 2, 3, 0] rfl ?_
    exact h
theorem dX5_sort_0 : decode cX5_sort 0 = .ok (.iload_n 1, 1) := dk_iload_n_1 (by decide +kernel)
theorem dX5_sort_1 : decode cX5_sort 1 = .ok (.iconst 2, 1) := dk_iconst_2 (by decide +kernel)
theorem dX5_sort_2 : decode cX5_sort 2 = .ok (.idiv, 1) := dk_idiv (by decide +kernel)
theorem dX5_sort_3 : decode cX5_sort 3 = .ok (.istore_n 2, 1) := dk_istore_n_2 (by decide +kernel)
set_option maxRecDepth 20000 in
theorem vX5_sort_0 {E : sm_E} {L : sm_S → Prop} {d : Nat} {a0 : Nat} {x1 : Int32} {na0 : Nat} {m : sm_M} {Q : sm_M → Prop}  (hd : 1 ≤ d) (hTa0 : ∀ S, L S → sm_K S a0 = 11 ∧ sm_N S a0 = na0)
  (h : ∀ x2_1 : Int32, x2_1 = x1 / 2 →
   gX5_sort_4 E L d ([.ref (sm_B E + a0), .int x1]) a0 x1 x2_1 m Q) :
  sm_callV E L mX5_sort d 0 0 [.ref (sm_B E + a0), .int x1] m Q := by
  refine sm_enter (by decide +kernel) (by simp [lg_sl, Value.category]) ?_
  refine sm_iload_n (Y := mX5_sort) (pc := 0) 1 1 rfl rfl dX5_sort_0 ?_
  refine sm_iconst (Y := mX5_sort) (pc := 1) 2 (by decide) dX5_sort_1 ?_
  refine sm_idiv (Y := mX5_sort) (pc := 2) (by decide) dX5_sort_2 ?_
  refine sm_istore_n (Y := mX5_sort) (pc := 3) (fun y => [(2, .int y), (0, .ref (sm_B E + a0)), (1, .int x1)]) 2 rfl (by decide) (fun _ => rfl) dX5_sort_3 (fun x2_1 ex2_1 => ?_)
  replace h := h x2_1 ex2_1
  refine sm_sub [1, 2, 0] rfl ?_
  exact h
