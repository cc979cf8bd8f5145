abbrev mX12_isIn : sm_Y := (yX12_isIn, cX12_isIn, 6, (some FieldType.boolean))
theorem fX12_isIn : sm_mt mX12_isIn 3 := ⟨sm_in 1374 (by decide +kernel) (by decide +kernel), sm_in 1373 (by decide +kernel) (by decide +kernel), sm_in 93 (by decide +kernel) (by decide +kernel), ⟨by decide +kernel, by decide +kernel, by decide +kernel⟩, by decide⟩
theorem dX12_isIn_0 : decode cX12_isIn 0 = .ok (.lload_n 0, 1) := dk_lload_n_0 (by decide +kernel)
theorem dX12_isIn_1 : decode cX12_isIn 1 = .ok (.lload_n 2, 1) := dk_lload_n_2 (by decide +kernel)
theorem dX12_isIn_2 : decode cX12_isIn 2 = .ok (.lcmp, 1) := dk_lcmp (by decide +kernel)
theorem dX12_isIn_3 : decode cX12_isIn 3 = .ok (.ifCond .lt 14, 3) := dk_ifCond_lt 14 (b1 := 0) (b2 := 14) (by decide +kernel) (by decide +kernel) (by decide +kernel) (by decide +kernel)
theorem dX12_isIn_17 : decode cX12_isIn 17 = .ok (.iconst 0, 1) := dk_iconst_0 (by decide +kernel)
theorem dX12_isIn_18 : decode cX12_isIn 18 = .ok (.ireturn, 1) := dk_ireturn (by decide +kernel)
theorem dX12_isIn_6 : decode cX12_isIn 6 = .ok (.lload_n 0, 1) := dk_lload_n_0 (by decide +kernel)
theorem dX12_isIn_7 : decode cX12_isIn 7 = .ok (.lload 4, 2) := dk_lload 4 (b := 4) (by decide +kernel) (by decide +kernel) (by decide +kernel)
theorem dX12_isIn_9 : decode cX12_isIn 9 = .ok (.lcmp, 1) := dk_lcmp (by decide +kernel)
theorem dX12_isIn_10 : decode cX12_isIn 10 = .ok (.ifCond .gt 7, 3) := dk_ifCond_gt 7 (b1 := 0) (b2 := 7) (by decide +kernel) (by decide +kernel) (by decide +kernel) (by decide +kernel)
theorem dX12_isIn_13 : decode cX12_isIn 13 = .ok (.iconst 1, 1) := dk_iconst_1 (by decide +kernel)
theorem dX12_isIn_14 : decode cX12_isIn 14 = .ok (.goto 4, 3) := dk_goto 4 (b1 := 0) (b2 := 4) (by decide +kernel) (by decide +kernel) (by decide +kernel) (by decide +kernel)
set_option maxRecDepth 20000 in
theorem vX12_isIn_0 {E : sm_E} {L : sm_S → Prop} {d : Nat} {x0 : Int64} {x2 : Int64} {x4 : Int64}  {m : sm_M} {Q : Int32 → sm_M → Prop}  (hd : 1 ≤ d) 
  (h : (x0 < x2 →
      Q 0 m) ∧
   (¬ x0 < x2 →
      (x4 < x0 →
         Q 0 m) ∧
      (¬ x4 < x0 →
         Q 1 m))) :
  sm_callI E L mX12_isIn d 0 0 [.long x0, .long x2, .long x4] m Q := by
  refine sm_enter (by decide +kernel) (by simp [lg_sl, Value.category]) ?_
  refine sm_lload_n (Y := mX12_isIn) (pc := 0) 0 0 rfl rfl dX12_isIn_0 ?_
  refine sm_lload_n (Y := mX12_isIn) (pc := 1) 1 2 rfl rfl dX12_isIn_1 ?_
  refine sm_lif_lt (Y := mX12_isIn) (pc := 2) 17 (by decide) dX12_isIn_2 dX12_isIn_3 (fun hc => ?_) (fun hc => ?_)
  · replace h := h.1 hc
    refine sm_iconst (Y := mX12_isIn) (pc := 17) 0 (by decide) dX12_isIn_17 ?_
    exact sm_zret (Y := mX12_isIn) (pc := 18) rfl (by decide) rfl rfl dX12_isIn_18 ⟨_, rfl, h⟩
  · replace h := h.2 hc
    refine sm_lload_n (Y := mX12_isIn) (pc := 6) 0 0 rfl rfl dX12_isIn_6 ?_
    refine sm_lload (Y := mX12_isIn) (pc := 7) 2 4 rfl dX12_isIn_7 ?_
    refine sm_lif_gt (Y := mX12_isIn) (pc := 9) 17 (by decide) dX12_isIn_9 dX12_isIn_10 (fun hc => ?_) (fun hc => ?_)
    · replace h := h.1 hc
      refine sm_iconst (Y := mX12_isIn) (pc := 17) 0 (by decide) dX12_isIn_17 ?_
      exact sm_zret (Y := mX12_isIn) (pc := 18) rfl (by decide) rfl rfl dX12_isIn_18 ⟨_, rfl, h⟩
    · replace h := h.2 hc
      refine sm_iconst (Y := mX12_isIn) (pc := 13) 1 (by decide) dX12_isIn_13 ?_
      refine sm_goto (Y := mX12_isIn) (pc := 14) 18 (by decide) dX12_isIn_14 ?_
      exact sm_zret (Y := mX12_isIn) (pc := 18) rfl (by decide) rfl rfl dX12_isIn_18 ⟨_, rfl, h⟩
abbrev mX12_finds : sm_Y := (yX12_finds, cX12_finds, 2, (some FieldType.int))
theorem fX12_finds : sm_mi mX12_finds RX12 1 := ⟨sm_in 1378 (by decide +kernel) (by decide +kernel), sm_in 1377 (by decide +kernel) (by decide +kernel), sm_in 40 (by decide +kernel) (by decide +kernel), sm_in 93 (by decide +kernel) (by decide +kernel), rfl, ⟨by decide +kernel, by decide +kernel, by decide +kernel⟩, by decide⟩
theorem dX12_finds_0 : decode cX12_finds 0 = .ok (.aload_n 0, 1) := dk_aload_n_0 (by decide +kernel)
theorem dX12_finds_1 : decode cX12_finds 1 = .ok (.getfield 7, 3) := dk_getfield 7 (b1 := 0) (b2 := 7) (by decide +kernel) (by decide +kernel) (by decide +kernel) (by decide +kernel)
theorem dX12_finds_4 : decode cX12_finds 4 = .ok (.iload_n 1, 1) := dk_iload_n_1 (by decide +kernel)
theorem dX12_finds_5 : decode cX12_finds 5 = .ok (.dup2, 1) := dk_dup2 (by decide +kernel)
theorem dX12_finds_6 : decode cX12_finds 6 = .ok (.iaload, 1) := dk_iaload (by decide +kernel)
theorem dX12_finds_7 : decode cX12_finds 7 = .ok (.iconst 1, 1) := dk_iconst_1 (by decide +kernel)
theorem dX12_finds_8 : decode cX12_finds 8 = .ok (.iadd, 1) := dk_iadd (by decide +kernel)
theorem dX12_finds_9 : decode cX12_finds 9 = .ok (.iastore, 1) := dk_iastore (by decide +kernel)
theorem wRX12_133 : Cond.constant RX12 133 (-1000000000) ∈ sm_T := sm_in 1379 (by decide +kernel) (by decide +kernel)
theorem dX12_finds_10 : decode cX12_finds 10 = .ok (.ldc 133, 2) := dk_ldc 133 (b := 133) (by decide +kernel) (by decide +kernel) (by decide +kernel)
theorem dX12_finds_12 : decode cX12_finds 12 = .ok (.iload_n 1, 1) := dk_iload_n_1 (by decide +kernel)
theorem dX12_finds_13 : decode cX12_finds 13 = .ok (.isub, 1) := dk_isub (by decide +kernel)
theorem dX12_finds_14 : decode cX12_finds 14 = .ok (.ireturn, 1) := dk_ireturn (by decide +kernel)
set_option maxRecDepth 20000 in
theorem vX12_finds_0 {E : sm_E} {L : sm_S → Prop} {d : Nat} {x1 : Int32}  {m : sm_M} {Q : Int32 → sm_M → Prop} (hly : ∀ S, L S → ly S) (hd : 1 ≤ d) 
  (h : (vp_in x1 7) ∧ (vp_in x1 7) ∧ ∀ m_2 : sm_M, m_2 = sm_wI m 110 x1.toNatClampNeg ((m.1 110 x1.toNatClampNeg) + 1) →
   Q ((-1000000000 : Int32) - x1) m_2) :
  sm_callI E L mX12_finds d 0 0 [.ref (sm_B E + 109), .int x1] m Q := by
  refine sm_enter (by decide +kernel) (by simp [lg_sl, Value.category]) ?_
  refine sm_aload_n (Y := mX12_finds) (pc := 0) 0 0 rfl rfl dX12_finds_0 ?_
  refine gf_RX12_7 (Y := mX12_finds) (pc := 1) (b := 110) rfl ((lk_109 hly) _) (lf_109_0 hly _) dX12_finds_1 ?_
  refine sm_iload_n (Y := mX12_finds) (pc := 4) 1 1 rfl rfl dX12_finds_4 ?_
  refine sm_dup2_11 (Y := mX12_finds) (pc := 5) rfl rfl dX12_finds_5 ?_
  obtain ⟨hn_1, h⟩ := h
  refine sm_iald (Y := mX12_finds) (pc := 6) (la_110 hly _) hn_1 dX12_finds_6 ?_
  refine sm_iconst (Y := mX12_finds) (pc := 7) 1 (by decide) dX12_finds_7 ?_
  refine sm_iadd (Y := mX12_finds) (pc := 8) dX12_finds_8 ?_
  obtain ⟨hn_3, h⟩ := h
  refine sm_iast (Y := mX12_finds) (pc := 9) (la_110 hly _) hn_3 dX12_finds_9 (fun m_2 em_2 => ?_)
  replace h := h m_2 em_2
  refine sm_ldc (Y := mX12_finds) (pc := 10) (-1000000000) wRX12_133 dX12_finds_10 ?_
  refine sm_iload_n (Y := mX12_finds) (pc := 12) 1 1 rfl rfl dX12_finds_12 ?_
  refine sm_isub (Y := mX12_finds) (pc := 13) dX12_finds_13 ?_
  exact sm_iret (Y := mX12_finds) (pc := 14) rfl rfl rfl dX12_finds_14 ⟨_, rfl, h⟩
abbrev mX12_findsFar : sm_Y := (yX12_findsFar, cX12_findsFar, 2, (some FieldType.long))
theorem fX12_findsFar : sm_mi mX12_findsFar RX12 1 := ⟨sm_in 1668 (by decide +kernel) (by decide +kernel), sm_in 1667 (by decide +kernel) (by decide +kernel), sm_in 77 (by decide +kernel) (by decide +kernel), sm_in 93 (by decide +kernel) (by decide +kernel), rfl, ⟨by decide +kernel, by decide +kernel, by decide +kernel⟩, by decide⟩
theorem dX12_findsFar_0 : decode cX12_findsFar 0 = .ok (.aload_n 0, 1) := dk_aload_n_0 (by decide +kernel)
theorem dX12_findsFar_1 : decode cX12_findsFar 1 = .ok (.getfield 7, 3) := dk_getfield 7 (b1 := 0) (b2 := 7) (by decide +kernel) (by decide +kernel) (by decide +kernel) (by decide +kernel)
theorem dX12_findsFar_4 : decode cX12_findsFar 4 = .ok (.iload_n 1, 1) := dk_iload_n_1 (by decide +kernel)
theorem dX12_findsFar_5 : decode cX12_findsFar 5 = .ok (.dup2, 1) := dk_dup2 (by decide +kernel)
theorem dX12_findsFar_6 : decode cX12_findsFar 6 = .ok (.iaload, 1) := dk_iaload (by decide +kernel)
theorem dX12_findsFar_7 : decode cX12_findsFar 7 = .ok (.iconst 1, 1) := dk_iconst_1 (by decide +kernel)
theorem dX12_findsFar_8 : decode cX12_findsFar 8 = .ok (.iadd, 1) := dk_iadd (by decide +kernel)
theorem dX12_findsFar_9 : decode cX12_findsFar 9 = .ok (.iastore, 1) := dk_iastore (by decide +kernel)
theorem wRX12_134 : Cond.constantLong RX12 134 (-9000000000000000000) ∈ sm_T := sm_in 1669 (by decide +kernel) (by decide +kernel)
theorem dX12_findsFar_10 : decode cX12_findsFar 10 = .ok (.ldc2_w 134, 3) := dk_ldc2_w 134 (b1 := 0) (b2 := 134) (by decide +kernel) (by decide +kernel) (by decide +kernel) (by decide +kernel)
theorem dX12_findsFar_13 : decode cX12_findsFar 13 = .ok (.iload_n 1, 1) := dk_iload_n_1 (by decide +kernel)
theorem dX12_findsFar_14 : decode cX12_findsFar 14 = .ok (.i2l, 1) := dk_i2l (by decide +kernel)
theorem dX12_findsFar_15 : decode cX12_findsFar 15 = .ok (.lsub, 1) := dk_lsub (by decide +kernel)
theorem dX12_findsFar_16 : decode cX12_findsFar 16 = .ok (.lreturn, 1) := dk_lreturn (by decide +kernel)
set_option maxRecDepth 20000 in
theorem vX12_findsFar_0 {E : sm_E} {L : sm_S → Prop} {d : Nat} {x1 : Int32}  {m : sm_M} {Q : Int64 → sm_M → Prop} (hly : ∀ S, L S → ly S) (hd : 1 ≤ d) 
  (h : (vp_in x1 7) ∧ (vp_in x1 7) ∧ ∀ m_2 : sm_M, m_2 = sm_wI m 110 x1.toNatClampNeg ((m.1 110 x1.toNatClampNeg) + 1) →
   Q ((-9000000000000000000 : Int64) - (x1.toInt64)) m_2) :
  sm_callJ E L mX12_findsFar d 0 0 [.ref (sm_B E + 109), .int x1] m Q := by
  refine sm_enter (by decide +kernel) (by simp [lg_sl, Value.category]) ?_
  refine sm_aload_n (Y := mX12_findsFar) (pc := 0) 0 0 rfl rfl dX12_findsFar_0 ?_
  refine gf_RX12_7 (Y := mX12_findsFar) (pc := 1) (b := 110) rfl ((lk_109 hly) _) (lf_109_0 hly _) dX12_findsFar_1 ?_
  refine sm_iload_n (Y := mX12_findsFar) (pc := 4) 1 1 rfl rfl dX12_findsFar_4 ?_
  refine sm_dup2_11 (Y := mX12_findsFar) (pc := 5) rfl rfl dX12_findsFar_5 ?_
  obtain ⟨hn_1, h⟩ := h
  refine sm_iald (Y := mX12_findsFar) (pc := 6) (la_110 hly _) hn_1 dX12_findsFar_6 ?_
  refine sm_iconst (Y := mX12_findsFar) (pc := 7) 1 (by decide) dX12_findsFar_7 ?_
  refine sm_iadd (Y := mX12_findsFar) (pc := 8) dX12_findsFar_8 ?_
  obtain ⟨hn_3, h⟩ := h
  refine sm_iast (Y := mX12_findsFar) (pc := 9) (la_110 hly _) hn_3 dX12_findsFar_9 (fun m_2 em_2 => ?_)
  replace h := h m_2 em_2
  refine sm_ldc2_w (Y := mX12_findsFar) (pc := 10) (-9000000000000000000) wRX12_134 dX12_findsFar_10 ?_
  refine sm_iload_n (Y := mX12_findsFar) (pc := 13) 1 1 rfl rfl dX12_findsFar_13 ?_
  refine sm_i2l (Y := mX12_findsFar) (pc := 14) dX12_findsFar_14 ?_
  refine sm_lsub (Y := mX12_findsFar) (pc := 15) dX12_findsFar_15 ?_
  exact sm_lret (Y := mX12_findsFar) (pc := 16) rfl rfl rfl dX12_findsFar_16 ⟨_, rfl, h⟩
abbrev mX12_isSlot : sm_Y := (yX12_isSlot, cX12_isSlot, 1, (some FieldType.boolean))
theorem fX12_isSlot : sm_mt mX12_isSlot 1 := ⟨sm_in 1370 (by decide +kernel) (by decide +kernel), sm_in 1369 (by decide +kernel) (by decide +kernel), sm_in 93 (by decide +kernel) (by decide +kernel), ⟨by decide +kernel, by decide +kernel, by decide +kernel⟩, by decide⟩
theorem dX12_isSlot_0 : decode cX12_isSlot 0 = .ok (.iload_n 0, 1) := dk_iload_n_0 (by decide +kernel)
theorem dX12_isSlot_1 : decode cX12_isSlot 1 = .ok (.ifCond .lt 13, 3) := dk_ifCond_lt 13 (b1 := 0) (b2 := 13) (by decide +kernel) (by decide +kernel) (by decide +kernel) (by decide +kernel)
theorem dX12_isSlot_14 : decode cX12_isSlot 14 = .ok (.iconst 0, 1) := dk_iconst_0 (by decide +kernel)
theorem dX12_isSlot_15 : decode cX12_isSlot 15 = .ok (.ireturn, 1) := dk_ireturn (by decide +kernel)
theorem dX12_isSlot_4 : decode cX12_isSlot 4 = .ok (.iload_n 0, 1) := dk_iload_n_0 (by decide +kernel)
theorem dX12_isSlot_5 : decode cX12_isSlot 5 = .ok (.bipush 6, 2) := dk_bipush 6 (b := 6) (by decide +kernel) (by decide +kernel) (by decide +kernel)
theorem dX12_isSlot_7 : decode cX12_isSlot 7 = .ok (.if_icmp .ge 7, 3) := dk_if_icmp_ge 7 (b1 := 0) (b2 := 7) (by decide +kernel) (by decide +kernel) (by decide +kernel) (by decide +kernel)
theorem dX12_isSlot_10 : decode cX12_isSlot 10 = .ok (.iconst 1, 1) := dk_iconst_1 (by decide +kernel)
theorem dX12_isSlot_11 : decode cX12_isSlot 11 = .ok (.goto 4, 3) := dk_goto 4 (b1 := 0) (b2 := 4) (by decide +kernel) (by decide +kernel) (by decide +kernel) (by decide +kernel)
set_option maxRecDepth 20000 in
theorem vX12_isSlot_0 {E : sm_E} {L : sm_S → Prop} {d : Nat} {x0 : Int32}  {m : sm_M} {Q : Int32 → sm_M → Prop}  (hd : 1 ≤ d) 
  (h : (x0 < 0 →
      Q 0 m) ∧
   (¬ x0 < 0 →
      (6 ≤ x0 →
         Q 0 m) ∧
      (¬ 6 ≤ x0 →
         Q 1 m))) :
  sm_callI E L mX12_isSlot d 0 0 [.int x0] m Q := by
  refine sm_enter (by decide +kernel) (by simp [lg_sl, Value.category]) ?_
  refine sm_iload_n (Y := mX12_isSlot) (pc := 0) 0 0 rfl rfl dX12_isSlot_0 ?_
  refine sm_if_lt (Y := mX12_isSlot) (pc := 1) 14 (by decide) dX12_isSlot_1 (fun hc => ?_) (fun hc => ?_)
  · replace h := h.1 hc
    refine sm_iconst (Y := mX12_isSlot) (pc := 14) 0 (by decide) dX12_isSlot_14 ?_
    exact sm_zret (Y := mX12_isSlot) (pc := 15) rfl (by decide) rfl rfl dX12_isSlot_15 ⟨_, rfl, h⟩
  · replace h := h.2 hc
    refine sm_iload_n (Y := mX12_isSlot) (pc := 4) 0 0 rfl rfl dX12_isSlot_4 ?_
    refine sm_bipush (Y := mX12_isSlot) (pc := 5) 6 (by decide) dX12_isSlot_5 ?_
    refine sm_icmp_ge (Y := mX12_isSlot) (pc := 7) 14 (by decide) dX12_isSlot_7 (fun hc => ?_) (fun hc => ?_)
    · replace h := h.1 hc
      refine sm_iconst (Y := mX12_isSlot) (pc := 14) 0 (by decide) dX12_isSlot_14 ?_
      exact sm_zret (Y := mX12_isSlot) (pc := 15) rfl (by decide) rfl rfl dX12_isSlot_15 ⟨_, rfl, h⟩
    · replace h := h.2 hc
      refine sm_iconst (Y := mX12_isSlot) (pc := 10) 1 (by decide) dX12_isSlot_10 ?_
      refine sm_goto (Y := mX12_isSlot) (pc := 11) 15 (by decide) dX12_isSlot_11 ?_
      exact sm_zret (Y := mX12_isSlot) (pc := 15) rfl (by decide) rfl rfl dX12_isSlot_15 ⟨_, rfl, h⟩
abbrev mX12_isSheet : sm_Y := (yX12_isSheet, cX12_isSheet, 1, (some FieldType.boolean))
theorem fX12_isSheet : sm_mt mX12_isSheet 1 := ⟨sm_in 1561 (by decide +kernel) (by decide +kernel), sm_in 1560 (by decide +kernel) (by decide +kernel), sm_in 93 (by decide +kernel) (by decide +kernel), ⟨by decide +kernel, by decide +kernel, by decide +kernel⟩, by decide⟩
theorem dX12_isSheet_0 : decode cX12_isSheet 0 = .ok (.iload_n 0, 1) := dk_iload_n_0 (by decide +kernel)
theorem dX12_isSheet_1 : decode cX12_isSheet 1 = .ok (.ifCond .lt 12, 3) := dk_ifCond_lt 12 (b1 := 0) (b2 := 12) (by decide +kernel) (by decide +kernel) (by decide +kernel) (by decide +kernel)
theorem dX12_isSheet_13 : decode cX12_isSheet 13 = .ok (.iconst 0, 1) := dk_iconst_0 (by decide +kernel)
theorem dX12_isSheet_14 : decode cX12_isSheet 14 = .ok (.ireturn, 1) := dk_ireturn (by decide +kernel)
theorem dX12_isSheet_4 : decode cX12_isSheet 4 = .ok (.iload_n 0, 1) := dk_iload_n_0 (by decide +kernel)
theorem dX12_isSheet_5 : decode cX12_isSheet 5 = .ok (.iconst 4, 1) := dk_iconst_4 (by decide +kernel)
theorem dX12_isSheet_6 : decode cX12_isSheet 6 = .ok (.if_icmp .ge 7, 3) := dk_if_icmp_ge 7 (b1 := 0) (b2 := 7) (by decide +kernel) (by decide +kernel) (by decide +kernel) (by decide +kernel)
theorem dX12_isSheet_9 : decode cX12_isSheet 9 = .ok (.iconst 1, 1) := dk_iconst_1 (by decide +kernel)
theorem dX12_isSheet_10 : decode cX12_isSheet 10 = .ok (.goto 4, 3) := dk_goto 4 (b1 := 0) (b2 := 4) (by decide +kernel) (by decide +kernel) (by decide +kernel) (by decide +kernel)
set_option maxRecDepth 20000 in
theorem vX12_isSheet_0 {E : sm_E} {L : sm_S → Prop} {d : Nat} {x0 : Int32}  {m : sm_M} {Q : Int32 → sm_M → Prop}  (hd : 1 ≤ d) 
  (h : (x0 < 0 →
      Q 0 m) ∧
   (¬ x0 < 0 →
      (4 ≤ x0 →
         Q 0 m) ∧
      (¬ 4 ≤ x0 →
         Q 1 m))) :
  sm_callI E L mX12_isSheet d 0 0 [.int x0] m Q := by
  refine sm_enter (by decide +kernel) (by simp [lg_sl, Value.category]) ?_
  refine sm_iload_n (Y := mX12_isSheet) (pc := 0) 0 0 rfl rfl dX12_isSheet_0 ?_
  refine sm_if_lt (Y := mX12_isSheet) (pc := 1) 13 (by decide) dX12_isSheet_1 (fun hc => ?_) (fun hc => ?_)
  · replace h := h.1 hc
    refine sm_iconst (Y := mX12_isSheet) (pc := 13) 0 (by decide) dX12_isSheet_13 ?_
    exact sm_zret (Y := mX12_isSheet) (pc := 14) rfl (by decide) rfl rfl dX12_isSheet_14 ⟨_, rfl, h⟩
  · replace h := h.2 hc
    refine sm_iload_n (Y := mX12_isSheet) (pc := 4) 0 0 rfl rfl dX12_isSheet_4 ?_
    refine sm_iconst (Y := mX12_isSheet) (pc := 5) 4 (by decide) dX12_isSheet_5 ?_
    refine sm_icmp_ge (Y := mX12_isSheet) (pc := 6) 13 (by decide) dX12_isSheet_6 (fun hc => ?_) (fun hc => ?_)
    · replace h := h.1 hc
      refine sm_iconst (Y := mX12_isSheet) (pc := 13) 0 (by decide) dX12_isSheet_13 ?_
      exact sm_zret (Y := mX12_isSheet) (pc := 14) rfl (by decide) rfl rfl dX12_isSheet_14 ⟨_, rfl, h⟩
    · replace h := h.2 hc
      refine sm_iconst (Y := mX12_isSheet) (pc := 9) 1 (by decide) dX12_isSheet_9 ?_
      refine sm_goto (Y := mX12_isSheet) (pc := 10) 14 (by decide) dX12_isSheet_10 ?_
      exact sm_zret (Y := mX12_isSheet) (pc := 14) rfl (by decide) rfl rfl dX12_isSheet_14 ⟨_, rfl, h⟩
abbrev mX12_isPart : sm_Y := (yX12_isPart, cX12_isPart, 1, (some FieldType.boolean))
theorem fX12_isPart : sm_mt mX12_isPart 1 := ⟨sm_in 1423 (by decide +kernel) (by decide +kernel), sm_in 1422 (by decide +kernel) (by decide +kernel), sm_in 93 (by decide +kernel) (by decide +kernel), ⟨by decide +kernel, by decide +kernel, by decide +kernel⟩, by decide⟩
theorem dX12_isPart_0 : decode cX12_isPart 0 = .ok (.iload_n 0, 1) := dk_iload_n_0 (by decide +kernel)
theorem dX12_isPart_1 : decode cX12_isPart 1 = .ok (.ifCond .eq 8, 3) := dk_ifCond_eq 8 (b1 := 0) (b2 := 8) (by decide +kernel) (by decide +kernel) (by decide +kernel) (by decide +kernel)
theorem dX12_isPart_9 : decode cX12_isPart 9 = .ok (.iconst 1, 1) := dk_iconst_1 (by decide +kernel)
theorem dX12_isPart_10 : decode cX12_isPart 10 = .ok (.goto 4, 3) := dk_goto 4 (b1 := 0) (b2 := 4) (by decide +kernel) (by decide +kernel) (by decide +kernel) (by decide +kernel)
theorem dX12_isPart_14 : decode cX12_isPart 14 = .ok (.ireturn, 1) := dk_ireturn (by decide +kernel)
theorem dX12_isPart_4 : decode cX12_isPart 4 = .ok (.iload_n 0, 1) := dk_iload_n_0 (by decide +kernel)
theorem dX12_isPart_5 : decode cX12_isPart 5 = .ok (.iconst 1, 1) := dk_iconst_1 (by decide +kernel)
theorem dX12_isPart_6 : decode cX12_isPart 6 = .ok (.if_icmp .ne 7, 3) := dk_if_icmp_ne 7 (b1 := 0) (b2 := 7) (by decide +kernel) (by decide +kernel) (by decide +kernel) (by decide +kernel)
theorem dX12_isPart_13 : decode cX12_isPart 13 = .ok (.iconst 0, 1) := dk_iconst_0 (by decide +kernel)
set_option maxRecDepth 20000 in
theorem vX12_isPart_0 {E : sm_E} {L : sm_S → Prop} {d : Nat} {x0 : Int32}  {m : sm_M} {Q : Int32 → sm_M → Prop}  (hd : 1 ≤ d) 
  (h : (x0 = 0 →
      Q 1 m) ∧
   (¬ x0 = 0 →
      (¬ x0 = 1 →
         Q 0 m) ∧
      (x0 = 1 →
         Q 1 m))) :
  sm_callI E L mX12_isPart d 0 0 [.int x0] m Q := by
  refine sm_enter (by decide +kernel) (by simp [lg_sl, Value.category]) ?_
  refine sm_iload_n (Y := mX12_isPart) (pc := 0) 0 0 rfl rfl dX12_isPart_0 ?_
  refine sm_if_eq (Y := mX12_isPart) (pc := 1) 9 (by decide) dX12_isPart_1 (fun hc => ?_) (fun hc => ?_)
  · replace h := h.1 hc
    refine sm_iconst (Y := mX12_isPart) (pc := 9) 1 (by decide) dX12_isPart_9 ?_
    refine sm_goto (Y := mX12_isPart) (pc := 10) 14 (by decide) dX12_isPart_10 ?_
    exact sm_zret (Y := mX12_isPart) (pc := 14) rfl (by decide) rfl rfl dX12_isPart_14 ⟨_, rfl, h⟩
  · replace h := h.2 hc
    refine sm_iload_n (Y := mX12_isPart) (pc := 4) 0 0 rfl rfl dX12_isPart_4 ?_
    refine sm_iconst (Y := mX12_isPart) (pc := 5) 1 (by decide) dX12_isPart_5 ?_
    refine sm_icmp_ne (Y := mX12_isPart) (pc := 6) 13 (by decide) dX12_isPart_6 (fun hc => ?_) (fun hc => ?_)
    · replace h := h.1 hc
      refine sm_iconst (Y := mX12_isPart) (pc := 13) 0 (by decide) dX12_isPart_13 ?_
      exact sm_zret (Y := mX12_isPart) (pc := 14) rfl (by decide) rfl rfl dX12_isPart_14 ⟨_, rfl, h⟩
    · replace h := h.2 hc
      refine sm_iconst (Y := mX12_isPart) (pc := 9) 1 (by decide) dX12_isPart_9 ?_
      refine sm_goto (Y := mX12_isPart) (pc := 10) 14 (by decide) dX12_isPart_10 ?_
      exact sm_zret (Y := mX12_isPart) (pc := 14) rfl (by decide) rfl rfl dX12_isPart_14 ⟨_, rfl, h⟩
abbrev mX12_divisor : sm_Y := (yX12_divisor, cX12_divisor, 10, (some FieldType.long))
theorem fX12_divisor : sm_mt mX12_divisor 2 := ⟨sm_in 1402 (by decide +kernel) (by decide +kernel), sm_in 1401 (by decide +kernel) (by decide +kernel), sm_in 93 (by decide +kernel) (by decide +kernel), ⟨by decide +kernel, by decide +kernel, by decide +kernel⟩, by decide⟩
def gX12_divisor_28 (E : sm_E) (L : sm_S → Prop) (d : Nat) (vs : List Value) (x4 : Int64) (x6 : Int64) (m : sm_M) (Q : Int64 → sm_M → Prop) : Prop := sm_go E L mX12_divisor d 0 0 vs 28 [(4, .long x4), (6, .long x6)] [] m 0 0 (sm_Z E L vs 0 0 (sm_QJ Q))
def gX12_divisor_12 (E : sm_E) (L : sm_S → Prop) (d : Nat) (vs : List Value) (x2 : Int64) (s0 : Int64) (m : sm_M) (Q : Int64 → sm_M → Prop) : Prop := sm_go E L mX12_divisor d 0 0 vs 12 [(2, .long x2)] [.long s0] m 0 0 (sm_Z E L vs 0 0 (sm_QJ Q))
theorem dX12_divisor_28 : decode cX12_divisor 28 = .ok (.lload 6, 2) := dk_lload 6 (b := 6) (by decide +kernel) (by decide +kernel) (by decide +kernel)
theorem dX12_divisor_30 : decode cX12_divisor 30 = .ok (.lconst 0, 1) := dk_lconst_0 (by decide +kernel)
theorem dX12_divisor_31 : decode cX12_divisor 31 = .ok (.lcmp, 1) := dk_lcmp (by decide +kernel)
theorem dX12_divisor_32 : decode cX12_divisor 32 = .ok (.ifCond .eq 21, 3) := dk_ifCond_eq 21 (b1 := 0) (b2 := 21) (by decide +kernel) (by decide +kernel) (by decide +kernel) (by decide +kernel)
theorem dX12_divisor_53 : decode cX12_divisor 53 = .ok (.lload 4, 2) := dk_lload 4 (b := 4) (by decide +kernel) (by decide +kernel) (by decide +kernel)
theorem dX12_divisor_55 : decode cX12_divisor 55 = .ok (.lreturn, 1) := dk_lreturn (by decide +kernel)
theorem dX12_divisor_35 : decode cX12_divisor 35 = .ok (.lload 4, 2) := dk_lload 4 (b := 4) (by decide +kernel) (by decide +kernel) (by decide +kernel)
theorem dX12_divisor_37 : decode cX12_divisor 37 = .ok (.lload 6, 2) := dk_lload 6 (b := 6) (by decide +kernel) (by decide +kernel) (by decide +kernel)
theorem dX12_divisor_39 : decode cX12_divisor 39 = .ok (.lrem, 1) := dk_lrem (by decide +kernel)
theorem dX12_divisor_40 : decode cX12_divisor 40 = .ok (.lstore 8, 2) := dk_lstore 8 (b := 8) (by decide +kernel) (by decide +kernel) (by decide +kernel)
theorem dX12_divisor_42 : decode cX12_divisor 42 = .ok (.lload 6, 2) := dk_lload 6 (b := 6) (by decide +kernel) (by decide +kernel) (by decide +kernel)
theorem dX12_divisor_44 : decode cX12_divisor 44 = .ok (.lstore 4, 2) := dk_lstore 4 (b := 4) (by decide +kernel) (by decide +kernel) (by decide +kernel)
theorem dX12_divisor_46 : decode cX12_divisor 46 = .ok (.lload 8, 2) := dk_lload 8 (b := 8) (by decide +kernel) (by decide +kernel) (by decide +kernel)
theorem dX12_divisor_48 : decode cX12_divisor 48 = .ok (.lstore 6, 2) := dk_lstore 6 (b := 6) (by decide +kernel) (by decide +kernel) (by decide +kernel)
theorem dX12_divisor_50 : decode cX12_divisor 50 = .ok (.goto (-22), 3) := dk_goto (-22) (b1 := 255) (b2 := 234) (by decide +kernel) (by decide +kernel) (by decide +kernel) (by decide +kernel)
set_option maxRecDepth 20000 in
theorem vX12_divisor_28 {E : sm_E} {L : sm_S → Prop} {d : Nat} {vs : List Value} {x4 : Int64} {x6 : Int64}  {m : sm_M} {Q : Int64 → sm_M → Prop}  (hd : 1 ≤ d) 
  (h : (x6 = 0 →
      Q x4 m) ∧
   (¬ x6 = 0 →
      (¬ x6 = 0) ∧ ∀ x8_2 : Int64, x8_2 = sm_remL x4 x6 →
      gX12_divisor_28 E L d vs x6 x8_2 m Q)) :
  gX12_divisor_28 E L d vs x4 x6 m Q := by
  refine sm_lload (Y := mX12_divisor) (pc := 28) 1 6 rfl dX12_divisor_28 ?_
  refine sm_lconst (Y := mX12_divisor) (pc := 30) 0 (by decide) dX12_divisor_30 ?_
  refine sm_lif_eq (Y := mX12_divisor) (pc := 31) 53 (by decide) dX12_divisor_31 dX12_divisor_32 (fun hc => ?_) (fun hc => ?_)
  · replace h := h.1 hc
    refine sm_lload (Y := mX12_divisor) (pc := 53) 0 4 rfl dX12_divisor_53 ?_
    exact sm_lret (Y := mX12_divisor) (pc := 55) rfl rfl rfl dX12_divisor_55 ⟨_, rfl, h⟩
  · replace h := h.2 hc
    refine sm_lload (Y := mX12_divisor) (pc := 35) 0 4 rfl dX12_divisor_35 ?_
    refine sm_lload (Y := mX12_divisor) (pc := 37) 1 6 rfl dX12_divisor_37 ?_
    obtain ⟨hn_1, h⟩ := h
    refine sm_lrem (Y := mX12_divisor) (pc := 39) hn_1 dX12_divisor_39 ?_
    refine sm_lstore (Y := mX12_divisor) (pc := 40) (fun y => [(8, .long y), (4, .long x4), (6, .long x6)]) 8 (by decide) (fun _ => rfl) dX12_divisor_40 (fun x8_2 ex8_2 => ?_)
    replace h := h x8_2 ex8_2
    refine sm_lload (Y := mX12_divisor) (pc := 42) 2 6 rfl dX12_divisor_42 ?_
    refine sm_lstore0 (Y := mX12_divisor) (pc := 44) [(4, .long x6), (8, .long x8_2), (6, .long x6)] 4 (by decide) rfl dX12_divisor_44 ?_
    refine sm_lload (Y := mX12_divisor) (pc := 46) 1 8 rfl dX12_divisor_46 ?_
    refine sm_lstore0 (Y := mX12_divisor) (pc := 48) [(6, .long x8_2), (4, .long x6), (8, .long x8_2)] 6 (by decide) rfl dX12_divisor_48 ?_
    refine sm_goto (Y := mX12_divisor) (pc := 50) 28 (by decide) dX12_divisor_50 ?_
    refine sm_sub [1, 0] rfl ?_
    exact h
theorem dX12_divisor_12 : decode cX12_divisor 12 = .ok (.lstore 4, 2) := dk_lstore 4 (b := 4) (by decide +kernel) (by decide +kernel) (by decide +kernel)
theorem dX12_divisor_14 : decode cX12_divisor 14 = .ok (.lload_n 2, 1) := dk_lload_n_2 (by decide +kernel)
theorem dX12_divisor_15 : decode cX12_divisor 15 = .ok (.lconst 0, 1) := dk_lconst_0 (by decide +kernel)
theorem dX12_divisor_16 : decode cX12_divisor 16 = .ok (.lcmp, 1) := dk_lcmp (by decide +kernel)
theorem dX12_divisor_17 : decode cX12_divisor 17 = .ok (.ifCond .ge 8, 3) := dk_ifCond_ge 8 (b1 := 0) (b2 := 8) (by decide +kernel) (by decide +kernel) (by decide +kernel) (by decide +kernel)
theorem dX12_divisor_25 : decode cX12_divisor 25 = .ok (.lload_n 2, 1) := dk_lload_n_2 (by decide +kernel)
theorem dX12_divisor_26 : decode cX12_divisor 26 = .ok (.lstore 6, 2) := dk_lstore 6 (b := 6) (by decide +kernel) (by decide +kernel) (by decide +kernel)
theorem dX12_divisor_20 : decode cX12_divisor 20 = .ok (.lload_n 2, 1) := dk_lload_n_2 (by decide +kernel)
theorem dX12_divisor_21 : decode cX12_divisor 21 = .ok (.lneg, 1) := dk_lneg (by decide +kernel)
theorem dX12_divisor_22 : decode cX12_divisor 22 = .ok (.goto 4, 3) := dk_goto 4 (b1 := 0) (b2 := 4) (by decide +kernel) (by decide +kernel) (by decide +kernel) (by decide +kernel)
set_option maxRecDepth 20000 in
theorem vX12_divisor_12 {E : sm_E} {L : sm_S → Prop} {d : Nat} {vs : List Value} {x2 : Int64} {s0 : Int64}  {m : sm_M} {Q : Int64 → sm_M → Prop}  (hd : 1 ≤ d) 
  (h : (0 ≤ x2 →
      gX12_divisor_28 E L d vs s0 x2 m Q) ∧
   (¬ 0 ≤ x2 →
      ∀ x6_3 : Int64, x6_3 = -x2 →
      gX12_divisor_28 E L d vs s0 x6_3 m Q)) :
  gX12_divisor_12 E L d vs x2 s0 m Q := by
  refine sm_lstore0 (Y := mX12_divisor) (pc := 12) [(4, .long s0), (2, .long x2)] 4 (by decide) rfl dX12_divisor_12 ?_
  refine sm_lload_n (Y := mX12_divisor) (pc := 14) 1 2 rfl rfl dX12_divisor_14 ?_
  refine sm_lconst (Y := mX12_divisor) (pc := 15) 0 (by decide) dX12_divisor_15 ?_
  refine sm_lif_ge (Y := mX12_divisor) (pc := 16) 25 (by decide) dX12_divisor_16 dX12_divisor_17 (fun hc => ?_) (fun hc => ?_)
  · replace h := h.1 hc
    refine sm_lload_n (Y := mX12_divisor) (pc := 25) 1 2 rfl rfl dX12_divisor_25 ?_
    refine sm_lstore0 (Y := mX12_divisor) (pc := 26) [(6, .long x2), (4, .long s0), (2, .long x2)] 6 (by decide) rfl dX12_divisor_26 ?_
    refine sm_sub [1, 0] rfl ?_
    exact h
  · replace h := h.2 hc
    refine sm_lload_n (Y := mX12_divisor) (pc := 20) 1 2 rfl rfl dX12_divisor_20 ?_
    refine sm_lneg (Y := mX12_divisor) (pc := 21) dX12_divisor_21 ?_
    refine sm_goto (Y := mX12_divisor) (pc := 22) 26 (by decide) dX12_divisor_22 ?_
    refine sm_lstore (Y := mX12_divisor) (pc := 26) (fun y => [(6, .long y), (4, .long s0), (2, .long x2)]) 6 (by decide) (fun _ => rfl) dX12_divisor_26 (fun x6_3 ex6_3 => ?_)
    replace h := h x6_3 ex6_3
    refine sm_sub [1, 0] rfl ?_
    exact h
theorem dX12_divisor_0 : decode cX12_divisor 0 = .ok (.lload_n 0, 1) := dk_lload_n_0 (by decide +kernel)
theorem dX12_divisor_1 : decode cX12_divisor 1 = .ok (.lconst 0, 1) := dk_lconst_0 (by decide +kernel)
theorem dX12_divisor_2 : decode cX12_divisor 2 = .ok (.lcmp, 1) := dk_lcmp (by decide +kernel)
theorem dX12_divisor_3 : decode cX12_divisor 3 = .ok (.ifCond .ge 8, 3) := dk_ifCond_ge 8 (b1 := 0) (b2 := 8) (by decide +kernel) (by decide +kernel) (by decide +kernel) (by decide +kernel)
theorem dX12_divisor_11 : decode cX12_divisor 11 = .ok (.lload_n 0, 1) := dk_lload_n_0 (by decide +kernel)
theorem dX12_divisor_6 : decode cX12_divisor 6 = .ok (.lload_n 0, 1) := dk_lload_n_0 (by decide +kernel)
theorem dX12_divisor_7 : decode cX12_divisor 7 = .ok (.lneg, 1) := dk_lneg (by decide +kernel)
theorem dX12_divisor_8 : decode cX12_divisor 8 = .ok (.goto 4, 3) := dk_goto 4 (b1 := 0) (b2 := 4) (by decide +kernel) (by decide +kernel) (by decide +kernel) (by decide +kernel)
set_option maxRecDepth 20000 in
theorem vX12_divisor_0 {E : sm_E} {L : sm_S → Prop} {d : Nat} {x0 : Int64} {x2 : Int64}  {m : sm_M} {Q : Int64 → sm_M → Prop}  (hd : 1 ≤ d) 
  (h : (0 ≤ x0 →
      gX12_divisor_12 E L d ([.long x0, .long x2]) x2 x0 m Q) ∧
   (¬ 0 ≤ x0 →
      gX12_divisor_12 E L d ([.long x0, .long x2]) x2 (-x0) m Q)) :
  sm_callJ E L mX12_divisor d 0 0 [.long x0, .long x2] m Q := by
  refine sm_enter (by decide +kernel) (by simp [lg_sl, Value.category]) ?_
  refine sm_lload_n (Y := mX12_divisor) (pc := 0) 0 0 rfl rfl dX12_divisor_0 ?_
  refine sm_lconst (Y := mX12_divisor) (pc := 1) 0 (by decide) dX12_divisor_1 ?_
  refine sm_lif_ge (Y := mX12_divisor) (pc := 2) 11 (by decide) dX12_divisor_2 dX12_divisor_3 (fun hc => ?_) (fun hc => ?_)
  · replace h := h.1 hc
    refine sm_lload_n (Y := mX12_divisor) (pc := 11) 0 0 rfl rfl dX12_divisor_11 ?_
    refine sm_sub [1] rfl ?_
    exact h
  · replace h := h.2 hc
    refine sm_lload_n (Y := mX12_divisor) (pc := 6) 0 0 rfl rfl dX12_divisor_6 ?_
    refine sm_lneg (Y := mX12_divisor) (pc := 7) dX12_divisor_7 ?_
    refine sm_goto (Y := mX12_divisor) (pc := 8) 12 (by decide) dX12_divisor_8 ?_
    refine sm_sub [1] rfl ?_
    exact h
abbrev mX12_left : sm_Y := (yX12_left, cX12_left, 6, (some FieldType.long))
theorem fX12_left : sm_mt mX12_left 2 := ⟨sm_in 1596 (by decide +kernel) (by decide +kernel), sm_in 1595 (by decide +kernel) (by decide +kernel), sm_in 93 (by decide +kernel) (by decide +kernel), ⟨by decide +kernel, by decide +kernel, by decide +kernel⟩, by decide⟩
theorem dX12_left_0 : decode cX12_left 0 = .ok (.lload_n 0, 1) := dk_lload_n_0 (by decide +kernel)
theorem dX12_left_1 : decode cX12_left 1 = .ok (.lload_n 2, 1) := dk_lload_n_2 (by decide +kernel)
theorem dX12_left_2 : decode cX12_left 2 = .ok (.lrem, 1) := dk_lrem (by decide +kernel)
theorem dX12_left_3 : decode cX12_left 3 = .ok (.lstore 4, 2) := dk_lstore 4 (b := 4) (by decide +kernel) (by decide +kernel) (by decide +kernel)
theorem dX12_left_5 : decode cX12_left 5 = .ok (.lload 4, 2) := dk_lload 4 (b := 4) (by decide +kernel) (by decide +kernel) (by decide +kernel)
theorem dX12_left_7 : decode cX12_left 7 = .ok (.lconst 0, 1) := dk_lconst_0 (by decide +kernel)
theorem dX12_left_8 : decode cX12_left 8 = .ok (.lcmp, 1) := dk_lcmp (by decide +kernel)
theorem dX12_left_9 : decode cX12_left 9 = .ok (.ifCond .ge 10, 3) := dk_ifCond_ge 10 (b1 := 0) (b2 := 10) (by decide +kernel) (by decide +kernel) (by decide +kernel) (by decide +kernel)
theorem dX12_left_19 : decode cX12_left 19 = .ok (.lload 4, 2) := dk_lload 4 (b := 4) (by decide +kernel) (by decide +kernel) (by decide +kernel)
theorem dX12_left_21 : decode cX12_left 21 = .ok (.lreturn, 1) := dk_lreturn (by decide +kernel)
theorem dX12_left_12 : decode cX12_left 12 = .ok (.lload 4, 2) := dk_lload 4 (b := 4) (by decide +kernel) (by decide +kernel) (by decide +kernel)
theorem dX12_left_14 : decode cX12_left 14 = .ok (.lload_n 2, 1) := dk_lload_n_2 (by decide +kernel)
theorem dX12_left_15 : decode cX12_left 15 = .ok (.ladd, 1) := dk_ladd (by decide +kernel)
theorem dX12_left_16 : decode cX12_left 16 = .ok (.goto 5, 3) := dk_goto 5 (b1 := 0) (b2 := 5) (by decide +kernel) (by decide +kernel) (by decide +kernel) (by decide +kernel)
set_option maxRecDepth 20000 in
theorem vX12_left_0 {E : sm_E} {L : sm_S → Prop} {d : Nat} {x0 : Int64} {x2 : Int64}  {m : sm_M} {Q : Int64 → sm_M → Prop}  (hd : 1 ≤ d) 
  (h : (¬ x2 = 0) ∧ ∀ x4_2 : Int64, x4_2 = sm_remL x0 x2 →
   (0 ≤ x4_2 →
      Q x4_2 m) ∧
   (¬ 0 ≤ x4_2 →
      Q (x4_2 + x2) m)) :
  sm_callJ E L mX12_left d 0 0 [.long x0, .long x2] m Q := by
  refine sm_enter (by decide +kernel) (by simp [lg_sl, Value.category]) ?_
  refine sm_lload_n (Y := mX12_left) (pc := 0) 0 0 rfl rfl dX12_left_0 ?_
  refine sm_lload_n (Y := mX12_left) (pc := 1) 1 2 rfl rfl dX12_left_1 ?_
  obtain ⟨hn_1, h⟩ := h
  refine sm_lrem (Y := mX12_left) (pc := 2) hn_1 dX12_left_2 ?_
  refine sm_lstore (Y := mX12_left) (pc := 3) (fun y => [(4, .long y), (0, .long x0), (2, .long x2)]) 4 (by decide) (fun _ => rfl) dX12_left_3 (fun x4_2 ex4_2 => ?_)
  replace h := h x4_2 ex4_2
  refine sm_lload (Y := mX12_left) (pc := 5) 0 4 rfl dX12_left_5 ?_
  refine sm_lconst (Y := mX12_left) (pc := 7) 0 (by decide) dX12_left_7 ?_
  refine sm_lif_ge (Y := mX12_left) (pc := 8) 19 (by decide) dX12_left_8 dX12_left_9 (fun hc => ?_) (fun hc => ?_)
  · replace h := h.1 hc
    refine sm_lload (Y := mX12_left) (pc := 19) 0 4 rfl dX12_left_19 ?_
    exact sm_lret (Y := mX12_left) (pc := 21) rfl rfl rfl dX12_left_21 ⟨_, rfl, h⟩
  · replace h := h.2 hc
    refine sm_lload (Y := mX12_left) (pc := 12) 0 4 rfl dX12_left_12 ?_
    refine sm_lload_n (Y := mX12_left) (pc := 14) 2 2 rfl rfl dX12_left_14 ?_
    refine sm_ladd (Y := mX12_left) (pc := 15) dX12_left_15 ?_
    refine sm_goto (Y := mX12_left) (pc := 16) 21 (by decide) dX12_left_16 ?_
    exact sm_lret (Y := mX12_left) (pc := 21) rfl rfl rfl dX12_left_21 ⟨_, rfl, h⟩
abbrev mX12_isUnit : sm_Y := (yX12_isUnit, cX12_isUnit, 2, (some FieldType.boolean))
theorem fX12_isUnit : sm_mt mX12_isUnit 1 := ⟨sm_in 1394 (by decide +kernel) (by decide +kernel), sm_in 1393 (by decide +kernel) (by decide +kernel), sm_in 93 (by decide +kernel) (by decide +kernel), ⟨by decide +kernel, by decide +kernel, by decide +kernel⟩, by decide⟩
theorem dX12_isUnit_0 : decode cX12_isUnit 0 = .ok (.lload_n 0, 1) := dk_lload_n_0 (by decide +kernel)
theorem dX12_isUnit_1 : decode cX12_isUnit 1 = .ok (.lconst 1, 1) := dk_lconst_1 (by decide +kernel)
theorem dX12_isUnit_2 : decode cX12_isUnit 2 = .ok (.lcmp, 1) := dk_lcmp (by decide +kernel)
theorem dX12_isUnit_3 : decode cX12_isUnit 3 = .ok (.ifCond .eq 11, 3) := dk_ifCond_eq 11 (b1 := 0) (b2 := 11) (by decide +kernel) (by decide +kernel) (by decide +kernel) (by decide +kernel)
theorem dX12_isUnit_14 : decode cX12_isUnit 14 = .ok (.iconst 1, 1) := dk_iconst_1 (by decide +kernel)
theorem dX12_isUnit_15 : decode cX12_isUnit 15 = .ok (.goto 4, 3) := dk_goto 4 (b1 := 0) (b2 := 4) (by decide +kernel) (by decide +kernel) (by decide +kernel) (by decide +kernel)
theorem dX12_isUnit_19 : decode cX12_isUnit 19 = .ok (.ireturn, 1) := dk_ireturn (by decide +kernel)
theorem dX12_isUnit_6 : decode cX12_isUnit 6 = .ok (.lload_n 0, 1) := dk_lload_n_0 (by decide +kernel)
theorem wRX12_136 : Cond.constantLong RX12 136 (-1) ∈ sm_T := sm_in 1395 (by decide +kernel) (by decide +kernel)
theorem dX12_isUnit_7 : decode cX12_isUnit 7 = .ok (.ldc2_w 136, 3) := dk_ldc2_w 136 (b1 := 0) (b2 := 136) (by decide +kernel) (by decide +kernel) (by decide +kernel) (by decide +kernel)
theorem dX12_isUnit_10 : decode cX12_isUnit 10 = .ok (.lcmp, 1) := dk_lcmp (by decide +kernel)
theorem dX12_isUnit_11 : decode cX12_isUnit 11 = .ok (.ifCond .ne 7, 3) := dk_ifCond_ne 7 (b1 := 0) (b2 := 7) (by decide +kernel) (by decide +kernel) (by decide +kernel) (by decide +kernel)
theorem dX12_isUnit_18 : decode cX12_isUnit 18 = .ok (.iconst 0, 1) := dk_iconst_0 (by decide +kernel)
set_option maxRecDepth 20000 in
theorem vX12_isUnit_0 {E : sm_E} {L : sm_S → Prop} {d : Nat} {x0 : Int64}  {m : sm_M} {Q : Int32 → sm_M → Prop}  (hd : 1 ≤ d) 
  (h : (x0 = 1 →
      Q 1 m) ∧
   (¬ x0 = 1 →
      (¬ x0 = (-1) →
         Q 0 m) ∧
      (x0 = (-1) →
         Q 1 m))) :
  sm_callI E L mX12_isUnit d 0 0 [.long x0] m Q := by
  refine sm_enter (by decide +kernel) (by simp [lg_sl, Value.category]) ?_
  refine sm_lload_n (Y := mX12_isUnit) (pc := 0) 0 0 rfl rfl dX12_isUnit_0 ?_
  refine sm_lconst (Y := mX12_isUnit) (pc := 1) 1 (by decide) dX12_isUnit_1 ?_
  refine sm_lif_eq (Y := mX12_isUnit) (pc := 2) 14 (by decide) dX12_isUnit_2 dX12_isUnit_3 (fun hc => ?_) (fun hc => ?_)
  · replace h := h.1 hc
    refine sm_iconst (Y := mX12_isUnit) (pc := 14) 1 (by decide) dX12_isUnit_14 ?_
    refine sm_goto (Y := mX12_isUnit) (pc := 15) 19 (by decide) dX12_isUnit_15 ?_
    exact sm_zret (Y := mX12_isUnit) (pc := 19) rfl (by decide) rfl rfl dX12_isUnit_19 ⟨_, rfl, h⟩
  · replace h := h.2 hc
    refine sm_lload_n (Y := mX12_isUnit) (pc := 6) 0 0 rfl rfl dX12_isUnit_6 ?_
    refine sm_ldc2_w (Y := mX12_isUnit) (pc := 7) (-1) wRX12_136 dX12_isUnit_7 ?_
    refine sm_lif_ne (Y := mX12_isUnit) (pc := 10) 18 (by decide) dX12_isUnit_10 dX12_isUnit_11 (fun hc => ?_) (fun hc => ?_)
    · replace h := h.1 hc
      refine sm_iconst (Y := mX12_isUnit) (pc := 18) 0 (by decide) dX12_isUnit_18 ?_
      exact sm_zret (Y := mX12_isUnit) (pc := 19) rfl (by decide) rfl rfl dX12_isUnit_19 ⟨_, rfl, h⟩
    · replace h := h.2 hc
      refine sm_iconst (Y := mX12_isUnit) (pc := 14) 1 (by decide) dX12_isUnit_14 ?_
      refine sm_goto (Y := mX12_isUnit) (pc := 15) 19 (by decide) dX12_isUnit_15 ?_
      exact sm_zret (Y := mX12_isUnit) (pc := 19) rfl (by decide) rfl rfl dX12_isUnit_19 ⟨_, rfl, h⟩
abbrev mX12_measures : sm_Y := (yX12_measures, cX12_measures, 16, none)
theorem fX12_measures : sm_mi mX12_measures RX12 3 := ⟨sm_in 1391 (by decide +kernel) (by decide +kernel), sm_in 1390 (by decide +kernel) (by decide +kernel), sm_in 43 (by decide +kernel) (by decide +kernel), sm_in 93 (by decide +kernel) (by decide +kernel), rfl, ⟨by decide +kernel, by decide +kernel, by decide +kernel⟩, by decide⟩
def gX12_measures_455 (E : sm_E) (L : sm_S → Prop) (d : Nat) (vs : List Value) (a1 : Nat) (x2 : Int32) (x3 : Int32) (x4 : Int32) (x5 : Int32) (s1 : Int32) (s2 : Int64) (m : sm_M) (Q : sm_M → Prop) : Prop := sm_go E L mX12_measures d 0 0 vs 455 [(0, .ref (sm_B E + 109)), (1, .ref (sm_B E + a1)), (2, .int x2), (3, .int x3), (4, .int x4), (5, .int x5)] [.long s2, .int s1, .ref (sm_B E + 124)] m 0 0 (sm_Z E L vs 0 0 (sm_QV Q))
def gX12_measures_420 (E : sm_E) (L : sm_S → Prop) (d : Nat) (vs : List Value) (a1 : Nat) (x2 : Int32) (x3 : Int32) (x4 : Int32) (x5 : Int32) (x6 : Int32) (x7 : Int64) (x9 : Int64) (x11 : Int64) (x13 : Int64) (s1 : Int32) (s2 : Int64) (m : sm_M) (Q : sm_M → Prop) : Prop := sm_go E L mX12_measures d 0 0 vs 420 [(0, .ref (sm_B E + 109)), (1, .ref (sm_B E + a1)), (2, .int x2), (3, .int x3), (4, .int x4), (5, .int x5), (6, .int x6), (7, .long x7), (9, .long x9), (11, .long x11), (13, .long x13)] [.long s2, .int s1, .ref (sm_B E + 123)] m 0 0 (sm_Z E L vs 0 0 (sm_QV Q))
def gX12_measures_385 (E : sm_E) (L : sm_S → Prop) (d : Nat) (vs : List Value) (a1 : Nat) (x2 : Int32) (x3 : Int32) (x4 : Int32) (x5 : Int32) (x6 : Int32) (x7 : Int64) (x9 : Int64) (x11 : Int64) (x13 : Int64) (s1 : Int32) (s2 : Int32) (m : sm_M) (Q : sm_M → Prop) : Prop := sm_go E L mX12_measures d 0 0 vs 385 [(0, .ref (sm_B E + 109)), (1, .ref (sm_B E + a1)), (2, .int x2), (3, .int x3), (4, .int x4), (5, .int x5), (6, .int x6), (7, .long x7), (9, .long x9), (11, .long x11), (13, .long x13)] [.int s2, .int s1, .ref (sm_B E + 125)] m 0 0 (sm_Z E L vs 0 0 (sm_QV Q))
def gX12_measures_343 (E : sm_E) (L : sm_S → Prop) (d : Nat) (vs : List Value) (a1 : Nat) (x2 : Int32) (x3 : Int32) (x4 : Int32) (x5 : Int32) (x6 : Int32) (x7 : Int64) (x9 : Int64) (x11 : Int64) (x13 : Int64) (s0 : Int32) (m : sm_M) (Q : sm_M → Prop) : Prop := sm_go E L mX12_measures d 0 0 vs 343 [(0, .ref (sm_B E + 109)), (1, .ref (sm_B E + a1)), (2, .int x2), (3, .int x3), (4, .int x4), (5, .int x5), (6, .int x6), (7, .long x7), (9, .long x9), (11, .long x11), (13, .long x13)] [.int s0] m 0 0 (sm_Z E L vs 0 0 (sm_QV Q))
def gX12_measures_76 (E : sm_E) (L : sm_S → Prop) (d : Nat) (vs : List Value) (a1 : Nat) (x2 : Int32) (x3 : Int32) (x4 : Int32) (x5 : Int32) (x6 : Int32) (s1 : Int32) (s2 : Int64) (m : sm_M) (Q : sm_M → Prop) : Prop := sm_go E L mX12_measures d 0 0 vs 76 [(0, .ref (sm_B E + 109)), (1, .ref (sm_B E + a1)), (2, .int x2), (3, .int x3), (4, .int x4), (5, .int x5), (6, .int x6)] [.long s2, .int s1, .ref (sm_B E + 124)] m 0 0 (sm_Z E L vs 0 0 (sm_QV Q))
def gX12_measures_57 (E : sm_E) (L : sm_S → Prop) (d : Nat) (vs : List Value) (a1 : Nat) (x2 : Int32) (x3 : Int32) (x4 : Int32) (x5 : Int32) (x6 : Int32) (s1 : Int32) (s2 : Int64) (m : sm_M) (Q : sm_M → Prop) : Prop := sm_go E L mX12_measures d 0 0 vs 57 [(0, .ref (sm_B E + 109)), (1, .ref (sm_B E + a1)), (2, .int x2), (3, .int x3), (4, .int x4), (5, .int x5), (6, .int x6)] [.long s2, .int s1, .ref (sm_B E + 123)] m 0 0 (sm_Z E L vs 0 0 (sm_QV Q))
def gX12_measures_16 (E : sm_E) (L : sm_S → Prop) (d : Nat) (vs : List Value) (a1 : Nat) (x2 : Int32) (x3 : Int32) (x4 : Int32) (x5 : Int32) (m : sm_M) (Q : sm_M → Prop) : Prop := sm_go E L mX12_measures d 0 0 vs 16 [(0, .ref (sm_B E + 109)), (1, .ref (sm_B E + a1)), (2, .int x2), (3, .int x3), (4, .int x4), (5, .int x5)] [] m 0 0 (sm_Z E L vs 0 0 (sm_QV Q))
theorem dX12_measures_455 : decode cX12_measures 455 = .ok (.lastore, 1) := dk_lastore (by decide +kernel)
theorem dX12_measures_456 : decode cX12_measures 456 = .ok (.aload_n 0, 1) := dk_aload_n_0 (by decide +kernel)
theorem dX12_measures_457 : decode cX12_measures 457 = .ok (.getfield 64, 3) := dk_getfield 64 (b1 := 0) (b2 := 64) (by decide +kernel) (by decide +kernel) (by decide +kernel) (by decide +kernel)
theorem dX12_measures_460 : decode cX12_measures 460 = .ok (.iload 4, 2) := dk_iload 4 (b := 4) (by decide +kernel) (by decide +kernel) (by decide +kernel)
theorem dX12_measures_462 : decode cX12_measures 462 = .ok (.iconst 1, 1) := dk_iconst_1 (by decide +kernel)
theorem dX12_measures_463 : decode cX12_measures 463 = .ok (.isub, 1) := dk_isub (by decide +kernel)
theorem dX12_measures_464 : decode cX12_measures 464 = .ok (.aload_n 0, 1) := dk_aload_n_0 (by decide +kernel)
theorem dX12_measures_465 : decode cX12_measures 465 = .ok (.getfield 64, 3) := dk_getfield 64 (b1 := 0) (b2 := 64) (by decide +kernel) (by decide +kernel) (by decide +kernel) (by decide +kernel)
theorem dX12_measures_468 : decode cX12_measures 468 = .ok (.iload 4, 2) := dk_iload 4 (b := 4) (by decide +kernel) (by decide +kernel) (by decide +kernel)
theorem dX12_measures_470 : decode cX12_measures 470 = .ok (.iconst 1, 1) := dk_iconst_1 (by decide +kernel)
theorem dX12_measures_471 : decode cX12_measures 471 = .ok (.isub, 1) := dk_isub (by decide +kernel)
theorem dX12_measures_472 : decode cX12_measures 472 = .ok (.iaload, 1) := dk_iaload (by decide +kernel)
theorem dX12_measures_473 : decode cX12_measures 473 = .ok (.aload_n 0, 1) := dk_aload_n_0 (by decide +kernel)
theorem dX12_measures_474 : decode cX12_measures 474 = .ok (.getfield 64, 3) := dk_getfield 64 (b1 := 0) (b2 := 64) (by decide +kernel) (by decide +kernel) (by decide +kernel) (by decide +kernel)
theorem dX12_measures_477 : decode cX12_measures 477 = .ok (.iload 4, 2) := dk_iload 4 (b := 4) (by decide +kernel) (by decide +kernel) (by decide +kernel)
theorem dX12_measures_479 : decode cX12_measures 479 = .ok (.iaload, 1) := dk_iaload (by decide +kernel)
theorem dX12_measures_480 : decode cX12_measures 480 = .ok (.if_icmp .le 15, 3) := dk_if_icmp_le 15 (b1 := 0) (b2 := 15) (by decide +kernel) (by decide +kernel) (by decide +kernel) (by decide +kernel)
theorem dX12_measures_495 : decode cX12_measures 495 = .ok (.aload_n 0, 1) := dk_aload_n_0 (by decide +kernel)
theorem dX12_measures_496 : decode cX12_measures 496 = .ok (.getfield 64, 3) := dk_getfield 64 (b1 := 0) (b2 := 64) (by decide +kernel) (by decide +kernel) (by decide +kernel) (by decide +kernel)
theorem dX12_measures_499 : decode cX12_measures 499 = .ok (.iload 4, 2) := dk_iload 4 (b := 4) (by decide +kernel) (by decide +kernel) (by decide +kernel)
theorem dX12_measures_501 : decode cX12_measures 501 = .ok (.iaload, 1) := dk_iaload (by decide +kernel)
theorem dX12_measures_502 : decode cX12_measures 502 = .ok (.iconst 1, 1) := dk_iconst_1 (by decide +kernel)
theorem dX12_measures_503 : decode cX12_measures 503 = .ok (.iadd, 1) := dk_iadd (by decide +kernel)
theorem dX12_measures_504 : decode cX12_measures 504 = .ok (.iastore, 1) := dk_iastore (by decide +kernel)
theorem dX12_measures_505 : decode cX12_measures 505 = .ok (.iinc 5 1, 3) := dk_iinc 5 1 (b1 := 5) (b2 := 1) (by decide +kernel) (by decide +kernel) (by decide +kernel) (by decide +kernel) (by decide +kernel)
theorem dX12_measures_508 : decode cX12_measures 508 = .ok (.goto (-492), 3) := dk_goto (-492) (b1 := 254) (b2 := 20) (by decide +kernel) (by decide +kernel) (by decide +kernel) (by decide +kernel)
theorem dX12_measures_483 : decode cX12_measures 483 = .ok (.aload_n 0, 1) := dk_aload_n_0 (by decide +kernel)
theorem dX12_measures_484 : decode cX12_measures 484 = .ok (.getfield 64, 3) := dk_getfield 64 (b1 := 0) (b2 := 64) (by decide +kernel) (by decide +kernel) (by decide +kernel) (by decide +kernel)
theorem dX12_measures_487 : decode cX12_measures 487 = .ok (.iload 4, 2) := dk_iload 4 (b := 4) (by decide +kernel) (by decide +kernel) (by decide +kernel)
theorem dX12_measures_489 : decode cX12_measures 489 = .ok (.iconst 1, 1) := dk_iconst_1 (by decide +kernel)
theorem dX12_measures_490 : decode cX12_measures 490 = .ok (.isub, 1) := dk_isub (by decide +kernel)
theorem dX12_measures_491 : decode cX12_measures 491 = .ok (.iaload, 1) := dk_iaload (by decide +kernel)
theorem dX12_measures_492 : decode cX12_measures 492 = .ok (.goto 10, 3) := dk_goto 10 (b1 := 0) (b2 := 10) (by decide +kernel) (by decide +kernel) (by decide +kernel) (by decide +kernel)
set_option maxRecDepth 20000 in
theorem vX12_measures_455 {E : sm_E} {L : sm_S → Prop} {d : Nat} {vs : List Value} {a1 : Nat} {x2 : Int32} {x3 : Int32} {x4 : Int32} {x5 : Int32} {s1 : Int32} {s2 : Int64} {na1 : Nat} {m : sm_M} {Q : sm_M → Prop} (hly : ∀ S, L S → ly S) (hd : 2 ≤ d) (hTa1 : ∀ S, L S → sm_K S a1 = 11 ∧ sm_N S a1 = na1)
  (h : (vp_in s1 200) ∧ ∀ m_1 : sm_M, m_1 = sm_wJ m 124 s1.toNatClampNeg s2 →
   (vp_in (x4 - 1) 200) ∧ (vp_in x4 200) ∧ ((m_1.1 126 (x4 - 1).toNatClampNeg) ≤ (m_1.1 126 x4.toNatClampNeg) →
      (vp_in x4 200) ∧ (vp_in (x4 - 1) 200) ∧ ∀ m_6 : sm_M, m_6 = sm_wI m_1 126 (x4 - 1).toNatClampNeg ((m_1.1 126 x4.toNatClampNeg) + 1) →
      ∀ x5_8 : Int32, x5_8 = x5 + 1 →
      gX12_measures_16 E L d vs a1 x2 x3 x4 x5_8 m_6 Q) ∧
   (¬ (m_1.1 126 (x4 - 1).toNatClampNeg) ≤ (m_1.1 126 x4.toNatClampNeg) →
      (vp_in (x4 - 1) 200) ∧ (vp_in (x4 - 1) 200) ∧ ∀ m_10 : sm_M, m_10 = sm_wI m_1 126 (x4 - 1).toNatClampNeg ((m_1.1 126 (x4 - 1).toNatClampNeg) + 1) →
      ∀ x5_12 : Int32, x5_12 = x5 + 1 →
      gX12_measures_16 E L d vs a1 x2 x3 x4 x5_12 m_10 Q)) :
  gX12_measures_455 E L d vs a1 x2 x3 x4 x5 s1 s2 m Q := by
  obtain ⟨hn_2, h⟩ := h
  refine sm_last (Y := mX12_measures) (pc := 455) (la_124 hly _) hn_2 dX12_measures_455 (fun m_1 em_1 => ?_)
  replace h := h m_1 em_1
  refine sm_aload_n (Y := mX12_measures) (pc := 456) 0 0 rfl rfl dX12_measures_456 ?_
  refine gf_RX12_64 (Y := mX12_measures) (pc := 457) (b := 126) rfl ((lk_109 hly) _) (lf_109_22 hly _) dX12_measures_457 ?_
  refine sm_iload (Y := mX12_measures) (pc := 460) 4 4 rfl dX12_measures_460 ?_
  refine sm_iconst (Y := mX12_measures) (pc := 462) 1 (by decide) dX12_measures_462 ?_
  refine sm_isub (Y := mX12_measures) (pc := 463) dX12_measures_463 ?_
  refine sm_aload_n (Y := mX12_measures) (pc := 464) 0 0 rfl rfl dX12_measures_464 ?_
  refine gf_RX12_64 (Y := mX12_measures) (pc := 465) (b := 126) rfl ((lk_109 hly) _) (lf_109_22 hly _) dX12_measures_465 ?_
  refine sm_iload (Y := mX12_measures) (pc := 468) 4 4 rfl dX12_measures_468 ?_
  refine sm_iconst (Y := mX12_measures) (pc := 470) 1 (by decide) dX12_measures_470 ?_
  refine sm_isub (Y := mX12_measures) (pc := 471) dX12_measures_471 ?_
  obtain ⟨hn_3, h⟩ := h
  refine sm_iald (Y := mX12_measures) (pc := 472) (la_126 hly _) hn_3 dX12_measures_472 ?_
  refine sm_aload_n (Y := mX12_measures) (pc := 473) 0 0 rfl rfl dX12_measures_473 ?_
  refine gf_RX12_64 (Y := mX12_measures) (pc := 474) (b := 126) rfl ((lk_109 hly) _) (lf_109_22 hly _) dX12_measures_474 ?_
  refine sm_iload (Y := mX12_measures) (pc := 477) 4 4 rfl dX12_measures_477 ?_
  obtain ⟨hn_4, h⟩ := h
  refine sm_iald (Y := mX12_measures) (pc := 479) (la_126 hly _) hn_4 dX12_measures_479 ?_
  refine sm_icmp_le (Y := mX12_measures) (pc := 480) 495 (by decide) dX12_measures_480 (fun hc => ?_) (fun hc => ?_)
  · replace h := h.1 hc
    refine sm_aload_n (Y := mX12_measures) (pc := 495) 0 0 rfl rfl dX12_measures_495 ?_
    refine gf_RX12_64 (Y := mX12_measures) (pc := 496) (b := 126) rfl ((lk_109 hly) _) (lf_109_22 hly _) dX12_measures_496 ?_
    refine sm_iload (Y := mX12_measures) (pc := 499) 4 4 rfl dX12_measures_499 ?_
    obtain ⟨hn_5, h⟩ := h
    refine sm_iald (Y := mX12_measures) (pc := 501) (la_126 hly _) hn_5 dX12_measures_501 ?_
    refine sm_iconst (Y := mX12_measures) (pc := 502) 1 (by decide) dX12_measures_502 ?_
    refine sm_iadd (Y := mX12_measures) (pc := 503) dX12_measures_503 ?_
    obtain ⟨hn_7, h⟩ := h
    refine sm_iast (Y := mX12_measures) (pc := 504) (la_126 hly _) hn_7 dX12_measures_504 (fun m_6 em_6 => ?_)
    replace h := h m_6 em_6
    refine sm_iinc (Y := mX12_measures) (pc := 505) (fun y => [(5, .int y), (0, .ref (sm_B E + 109)), (1, .ref (sm_B E + a1)), (2, .int x2), (3, .int x3), (4, .int x4)]) 5 5 rfl (by decide) (fun _ => rfl) dX12_measures_505 (fun x5_8 ex5_8 => ?_)
    replace h := h x5_8 ex5_8
    refine sm_goto (Y := mX12_measures) (pc := 508) 16 (by decide) dX12_measures_508 ?_
    refine sm_sub [1, 2, 3, 4, 5, 0] rfl ?_
    exact h
  · replace h := h.2 hc
    refine sm_aload_n (Y := mX12_measures) (pc := 483) 0 0 rfl rfl dX12_measures_483 ?_
    refine gf_RX12_64 (Y := mX12_measures) (pc := 484) (b := 126) rfl ((lk_109 hly) _) (lf_109_22 hly _) dX12_measures_484 ?_
    refine sm_iload (Y := mX12_measures) (pc := 487) 4 4 rfl dX12_measures_487 ?_
    refine sm_iconst (Y := mX12_measures) (pc := 489) 1 (by decide) dX12_measures_489 ?_
    refine sm_isub (Y := mX12_measures) (pc := 490) dX12_measures_490 ?_
    obtain ⟨hn_9, h⟩ := h
    refine sm_iald (Y := mX12_measures) (pc := 491) (la_126 hly _) hn_9 dX12_measures_491 ?_
    refine sm_goto (Y := mX12_measures) (pc := 492) 502 (by decide) dX12_measures_492 ?_
    refine sm_iconst (Y := mX12_measures) (pc := 502) 1 (by decide) dX12_measures_502 ?_
    refine sm_iadd (Y := mX12_measures) (pc := 503) dX12_measures_503 ?_
    obtain ⟨hn_11, h⟩ := h
    refine sm_iast (Y := mX12_measures) (pc := 504) (la_126 hly _) hn_11 dX12_measures_504 (fun m_10 em_10 => ?_)
    replace h := h m_10 em_10
    refine sm_iinc (Y := mX12_measures) (pc := 505) (fun y => [(5, .int y), (0, .ref (sm_B E + 109)), (1, .ref (sm_B E + a1)), (2, .int x2), (3, .int x3), (4, .int x4)]) 5 5 rfl (by decide) (fun _ => rfl) dX12_measures_505 (fun x5_12 ex5_12 => ?_)
    replace h := h x5_12 ex5_12
    refine sm_goto (Y := mX12_measures) (pc := 508) 16 (by decide) dX12_measures_508 ?_
    refine sm_sub [1, 2, 3, 4, 5, 0] rfl ?_
    exact h
theorem dX12_measures_420 : decode cX12_measures 420 = .ok (.lastore, 1) := dk_lastore (by decide +kernel)
theorem dX12_measures_421 : decode cX12_measures 421 = .ok (.aload_n 0, 1) := dk_aload_n_0 (by decide +kernel)
theorem dX12_measures_422 : decode cX12_measures 422 = .ok (.getfield 57, 3) := dk_getfield 57 (b1 := 0) (b2 := 57) (by decide +kernel) (by decide +kernel) (by decide +kernel) (by decide +kernel)
theorem dX12_measures_425 : decode cX12_measures 425 = .ok (.iload 4, 2) := dk_iload 4 (b := 4) (by decide +kernel) (by decide +kernel) (by decide +kernel)
theorem dX12_measures_427 : decode cX12_measures 427 = .ok (.iconst 1, 1) := dk_iconst_1 (by decide +kernel)
theorem dX12_measures_428 : decode cX12_measures 428 = .ok (.isub, 1) := dk_isub (by decide +kernel)
theorem dX12_measures_429 : decode cX12_measures 429 = .ok (.iload 6, 2) := dk_iload 6 (b := 6) (by decide +kernel) (by decide +kernel) (by decide +kernel)
theorem dX12_measures_431 : decode cX12_measures 431 = .ok (.bipush 20, 2) := dk_bipush 20 (b := 20) (by decide +kernel) (by decide +kernel) (by decide +kernel)
theorem dX12_measures_433 : decode cX12_measures 433 = .ok (.if_icmp .ne 11, 3) := dk_if_icmp_ne 11 (b1 := 0) (b2 := 11) (by decide +kernel) (by decide +kernel) (by decide +kernel) (by decide +kernel)
theorem dX12_measures_444 : decode cX12_measures 444 = .ok (.lload 7, 2) := dk_lload 7 (b := 7) (by decide +kernel) (by decide +kernel) (by decide +kernel)
theorem dX12_measures_446 : decode cX12_measures 446 = .ok (.lload 13, 2) := dk_lload 13 (b := 13) (by decide +kernel) (by decide +kernel) (by decide +kernel)
theorem dX12_measures_448 : decode cX12_measures 448 = .ok (.lmul, 1) := dk_lmul (by decide +kernel)
theorem dX12_measures_449 : decode cX12_measures 449 = .ok (.lload 11, 2) := dk_lload 11 (b := 11) (by decide +kernel) (by decide +kernel) (by decide +kernel)
theorem dX12_measures_451 : decode cX12_measures 451 = .ok (.lload 9, 2) := dk_lload 9 (b := 9) (by decide +kernel) (by decide +kernel) (by decide +kernel)
theorem dX12_measures_453 : decode cX12_measures 453 = .ok (.lmul, 1) := dk_lmul (by decide +kernel)
theorem dX12_measures_454 : decode cX12_measures 454 = .ok (.ladd, 1) := dk_ladd (by decide +kernel)
theorem dX12_measures_436 : decode cX12_measures 436 = .ok (.lload 9, 2) := dk_lload 9 (b := 9) (by decide +kernel) (by decide +kernel) (by decide +kernel)
theorem dX12_measures_438 : decode cX12_measures 438 = .ok (.lload 13, 2) := dk_lload 13 (b := 13) (by decide +kernel) (by decide +kernel) (by decide +kernel)
theorem dX12_measures_440 : decode cX12_measures 440 = .ok (.lmul, 1) := dk_lmul (by decide +kernel)
theorem dX12_measures_441 : decode cX12_measures 441 = .ok (.goto 14, 3) := dk_goto 14 (b1 := 0) (b2 := 14) (by decide +kernel) (by decide +kernel) (by decide +kernel) (by decide +kernel)
set_option maxRecDepth 20000 in
theorem vX12_measures_420 {E : sm_E} {L : sm_S → Prop} {d : Nat} {vs : List Value} {a1 : Nat} {x2 : Int32} {x3 : Int32} {x4 : Int32} {x5 : Int32} {x6 : Int32} {x7 : Int64} {x9 : Int64} {x11 : Int64} {x13 : Int64} {s1 : Int32} {s2 : Int64} {na1 : Nat} {m : sm_M} {Q : sm_M → Prop} (hly : ∀ S, L S → ly S) (hd : 2 ≤ d) (hTa1 : ∀ S, L S → sm_K S a1 = 11 ∧ sm_N S a1 = na1)
  (h : (vp_in s1 200) ∧ ∀ m_1 : sm_M, m_1 = sm_wJ m 123 s1.toNatClampNeg s2 →
   (¬ x6 = 20 →
      gX12_measures_455 E L d vs a1 x2 x3 x4 x5 (x4 - 1) ((x7 * x13) + (x11 * x9)) m_1 Q) ∧
   (x6 = 20 →
      gX12_measures_455 E L d vs a1 x2 x3 x4 x5 (x4 - 1) (x9 * x13) m_1 Q)) :
  gX12_measures_420 E L d vs a1 x2 x3 x4 x5 x6 x7 x9 x11 x13 s1 s2 m Q := by
  obtain ⟨hn_2, h⟩ := h
  refine sm_last (Y := mX12_measures) (pc := 420) (la_123 hly _) hn_2 dX12_measures_420 (fun m_1 em_1 => ?_)
  replace h := h m_1 em_1
  refine sm_aload_n (Y := mX12_measures) (pc := 421) 0 0 rfl rfl dX12_measures_421 ?_
  refine gf_RX12_57 (Y := mX12_measures) (pc := 422) (b := 124) rfl ((lk_109 hly) _) (lf_109_20 hly _) dX12_measures_422 ?_
  refine sm_iload (Y := mX12_measures) (pc := 425) 4 4 rfl dX12_measures_425 ?_
  refine sm_iconst (Y := mX12_measures) (pc := 427) 1 (by decide) dX12_measures_427 ?_
  refine sm_isub (Y := mX12_measures) (pc := 428) dX12_measures_428 ?_
  refine sm_iload (Y := mX12_measures) (pc := 429) 6 6 rfl dX12_measures_429 ?_
  refine sm_bipush (Y := mX12_measures) (pc := 431) 20 (by decide) dX12_measures_431 ?_
  refine sm_icmp_ne (Y := mX12_measures) (pc := 433) 444 (by decide) dX12_measures_433 (fun hc => ?_) (fun hc => ?_)
  · replace h := h.1 hc
    refine sm_lload (Y := mX12_measures) (pc := 444) 7 7 rfl dX12_measures_444 ?_
    refine sm_lload (Y := mX12_measures) (pc := 446) 10 13 rfl dX12_measures_446 ?_
    refine sm_lmul (Y := mX12_measures) (pc := 448) dX12_measures_448 ?_
    refine sm_lload (Y := mX12_measures) (pc := 449) 9 11 rfl dX12_measures_449 ?_
    refine sm_lload (Y := mX12_measures) (pc := 451) 8 9 rfl dX12_measures_451 ?_
    refine sm_lmul (Y := mX12_measures) (pc := 453) dX12_measures_453 ?_
    refine sm_ladd (Y := mX12_measures) (pc := 454) dX12_measures_454 ?_
    refine sm_sub [0, 1, 2, 3, 4, 5] rfl ?_
    exact h
  · replace h := h.2 hc
    refine sm_lload (Y := mX12_measures) (pc := 436) 8 9 rfl dX12_measures_436 ?_
    refine sm_lload (Y := mX12_measures) (pc := 438) 10 13 rfl dX12_measures_438 ?_
    refine sm_lmul (Y := mX12_measures) (pc := 440) dX12_measures_440 ?_
    refine sm_goto (Y := mX12_measures) (pc := 441) 455 (by decide) dX12_measures_441 ?_
    refine sm_sub [0, 1, 2, 3, 4, 5] rfl ?_
    exact h
theorem dX12_measures_385 : decode cX12_measures 385 = .ok (.bastore, 1) := dk_bastore (by decide +kernel)
theorem dX12_measures_386 : decode cX12_measures 386 = .ok (.aload_n 0, 1) := dk_aload_n_0 (by decide +kernel)
theorem dX12_measures_387 : decode cX12_measures 387 = .ok (.getfield 54, 3) := dk_getfield 54 (b1 := 0) (b2 := 54) (by decide +kernel) (by decide +kernel) (by decide +kernel) (by decide +kernel)
theorem dX12_measures_390 : decode cX12_measures 390 = .ok (.iload 4, 2) := dk_iload 4 (b := 4) (by decide +kernel) (by decide +kernel) (by decide +kernel)
theorem dX12_measures_392 : decode cX12_measures 392 = .ok (.iconst 1, 1) := dk_iconst_1 (by decide +kernel)
theorem dX12_measures_393 : decode cX12_measures 393 = .ok (.isub, 1) := dk_isub (by decide +kernel)
theorem dX12_measures_394 : decode cX12_measures 394 = .ok (.iload 6, 2) := dk_iload 6 (b := 6) (by decide +kernel) (by decide +kernel) (by decide +kernel)
theorem dX12_measures_396 : decode cX12_measures 396 = .ok (.bipush 20, 2) := dk_bipush 20 (b := 20) (by decide +kernel) (by decide +kernel) (by decide +kernel)
theorem dX12_measures_398 : decode cX12_measures 398 = .ok (.if_icmp .ne 17, 3) := dk_if_icmp_ne 17 (b1 := 0) (b2 := 17) (by decide +kernel) (by decide +kernel) (by decide +kernel) (by decide +kernel)
theorem dX12_measures_415 : decode cX12_measures 415 = .ok (.lload 7, 2) := dk_lload 7 (b := 7) (by decide +kernel) (by decide +kernel) (by decide +kernel)
theorem dX12_measures_417 : decode cX12_measures 417 = .ok (.lload 11, 2) := dk_lload 11 (b := 11) (by decide +kernel) (by decide +kernel) (by decide +kernel)
theorem dX12_measures_419 : decode cX12_measures 419 = .ok (.lmul, 1) := dk_lmul (by decide +kernel)
theorem dX12_measures_401 : decode cX12_measures 401 = .ok (.lload 7, 2) := dk_lload 7 (b := 7) (by decide +kernel) (by decide +kernel) (by decide +kernel)
theorem dX12_measures_403 : decode cX12_measures 403 = .ok (.lload 13, 2) := dk_lload 13 (b := 13) (by decide +kernel) (by decide +kernel) (by decide +kernel)
theorem dX12_measures_405 : decode cX12_measures 405 = .ok (.lmul, 1) := dk_lmul (by decide +kernel)
theorem dX12_measures_406 : decode cX12_measures 406 = .ok (.lload 11, 2) := dk_lload 11 (b := 11) (by decide +kernel) (by decide +kernel) (by decide +kernel)
theorem dX12_measures_408 : decode cX12_measures 408 = .ok (.lload 9, 2) := dk_lload 9 (b := 9) (by decide +kernel) (by decide +kernel) (by decide +kernel)
theorem dX12_measures_410 : decode cX12_measures 410 = .ok (.lmul, 1) := dk_lmul (by decide +kernel)
theorem dX12_measures_411 : decode cX12_measures 411 = .ok (.ladd, 1) := dk_ladd (by decide +kernel)
theorem dX12_measures_412 : decode cX12_measures 412 = .ok (.goto 8, 3) := dk_goto 8 (b1 := 0) (b2 := 8) (by decide +kernel) (by decide +kernel) (by decide +kernel) (by decide +kernel)
set_option maxRecDepth 20000 in
theorem vX12_measures_385 {E : sm_E} {L : sm_S → Prop} {d : Nat} {vs : List Value} {a1 : Nat} {x2 : Int32} {x3 : Int32} {x4 : Int32} {x5 : Int32} {x6 : Int32} {x7 : Int64} {x9 : Int64} {x11 : Int64} {x13 : Int64} {s1 : Int32} {s2 : Int32} {na1 : Nat} {m : sm_M} {Q : sm_M → Prop} (hly : ∀ S, L S → ly S) (hd : 2 ≤ d) (hTa1 : ∀ S, L S → sm_K S a1 = 11 ∧ sm_N S a1 = na1)
  (h : (vp_in s1 200) ∧ (s2 = 0 ∨ s2 = 1) ∧ ∀ m_1 : sm_M, m_1 = sm_wI m 125 s1.toNatClampNeg s2 →
   (¬ x6 = 20 →
      gX12_measures_420 E L d vs a1 x2 x3 x4 x5 x6 x7 x9 x11 x13 (x4 - 1) (x7 * x11) m_1 Q) ∧
   (x6 = 20 →
      gX12_measures_420 E L d vs a1 x2 x3 x4 x5 x6 x7 x9 x11 x13 (x4 - 1) ((x7 * x13) + (x11 * x9)) m_1 Q)) :
  gX12_measures_385 E L d vs a1 x2 x3 x4 x5 x6 x7 x9 x11 x13 s1 s2 m Q := by
  obtain ⟨hn_2, h⟩ := h
  obtain ⟨hn_3, h⟩ := h
  refine sm_zast (Y := mX12_measures) (pc := 385) (la_125 hly _) hn_2 hn_3 dX12_measures_385 (fun m_1 em_1 => ?_)
  replace h := h m_1 em_1
  refine sm_aload_n (Y := mX12_measures) (pc := 386) 0 0 rfl rfl dX12_measures_386 ?_
  refine gf_RX12_54 (Y := mX12_measures) (pc := 387) (b := 123) rfl ((lk_109 hly) _) (lf_109_19 hly _) dX12_measures_387 ?_
  refine sm_iload (Y := mX12_measures) (pc := 390) 4 4 rfl dX12_measures_390 ?_
  refine sm_iconst (Y := mX12_measures) (pc := 392) 1 (by decide) dX12_measures_392 ?_
  refine sm_isub (Y := mX12_measures) (pc := 393) dX12_measures_393 ?_
  refine sm_iload (Y := mX12_measures) (pc := 394) 6 6 rfl dX12_measures_394 ?_
  refine sm_bipush (Y := mX12_measures) (pc := 396) 20 (by decide) dX12_measures_396 ?_
  refine sm_icmp_ne (Y := mX12_measures) (pc := 398) 415 (by decide) dX12_measures_398 (fun hc => ?_) (fun hc => ?_)
  · replace h := h.1 hc
    refine sm_lload (Y := mX12_measures) (pc := 415) 7 7 rfl dX12_measures_415 ?_
    refine sm_lload (Y := mX12_measures) (pc := 417) 9 11 rfl dX12_measures_417 ?_
    refine sm_lmul (Y := mX12_measures) (pc := 419) dX12_measures_419 ?_
    exact h
  · replace h := h.2 hc
    refine sm_lload (Y := mX12_measures) (pc := 401) 7 7 rfl dX12_measures_401 ?_
    refine sm_lload (Y := mX12_measures) (pc := 403) 10 13 rfl dX12_measures_403 ?_
    refine sm_lmul (Y := mX12_measures) (pc := 405) dX12_measures_405 ?_
    refine sm_lload (Y := mX12_measures) (pc := 406) 9 11 rfl dX12_measures_406 ?_
    refine sm_lload (Y := mX12_measures) (pc := 408) 8 9 rfl dX12_measures_408 ?_
    refine sm_lmul (Y := mX12_measures) (pc := 410) dX12_measures_410 ?_
    refine sm_ladd (Y := mX12_measures) (pc := 411) dX12_measures_411 ?_
    refine sm_goto (Y := mX12_measures) (pc := 412) 420 (by decide) dX12_measures_412 ?_
    exact h
theorem dX12_measures_343 : decode cX12_measures 343 = .ok (.istore 15, 2) := dk_istore 15 (b := 15) (by decide +kernel) (by decide +kernel) (by decide +kernel)
theorem dX12_measures_345 : decode cX12_measures 345 = .ok (.aload_n 0, 1) := dk_aload_n_0 (by decide +kernel)
theorem dX12_measures_346 : decode cX12_measures 346 = .ok (.getfield 60, 3) := dk_getfield 60 (b1 := 0) (b2 := 60) (by decide +kernel) (by decide +kernel) (by decide +kernel) (by decide +kernel)
theorem dX12_measures_349 : decode cX12_measures 349 = .ok (.iload 4, 2) := dk_iload 4 (b := 4) (by decide +kernel) (by decide +kernel) (by decide +kernel)
theorem dX12_measures_351 : decode cX12_measures 351 = .ok (.iconst 1, 1) := dk_iconst_1 (by decide +kernel)
theorem dX12_measures_352 : decode cX12_measures 352 = .ok (.isub, 1) := dk_isub (by decide +kernel)
theorem dX12_measures_353 : decode cX12_measures 353 = .ok (.aload_n 0, 1) := dk_aload_n_0 (by decide +kernel)
theorem dX12_measures_354 : decode cX12_measures 354 = .ok (.getfield 60, 3) := dk_getfield 60 (b1 := 0) (b2 := 60) (by decide +kernel) (by decide +kernel) (by decide +kernel) (by decide +kernel)
theorem dX12_measures_357 : decode cX12_measures 357 = .ok (.iload 4, 2) := dk_iload 4 (b := 4) (by decide +kernel) (by decide +kernel) (by decide +kernel)
theorem dX12_measures_359 : decode cX12_measures 359 = .ok (.iconst 1, 1) := dk_iconst_1 (by decide +kernel)
theorem dX12_measures_360 : decode cX12_measures 360 = .ok (.isub, 1) := dk_isub (by decide +kernel)
theorem dX12_measures_361 : decode cX12_measures 361 = .ok (.baload, 1) := dk_baload (by decide +kernel)
theorem dX12_measures_362 : decode cX12_measures 362 = .ok (.ifCond .eq 22, 3) := dk_ifCond_eq 22 (b1 := 0) (b2 := 22) (by decide +kernel) (by decide +kernel) (by decide +kernel) (by decide +kernel)
theorem dX12_measures_384 : decode cX12_measures 384 = .ok (.iconst 0, 1) := dk_iconst_0 (by decide +kernel)
theorem dX12_measures_365 : decode cX12_measures 365 = .ok (.aload_n 0, 1) := dk_aload_n_0 (by decide +kernel)
theorem dX12_measures_366 : decode cX12_measures 366 = .ok (.getfield 60, 3) := dk_getfield 60 (b1 := 0) (b2 := 60) (by decide +kernel) (by decide +kernel) (by decide +kernel) (by decide +kernel)
theorem dX12_measures_369 : decode cX12_measures 369 = .ok (.iload 4, 2) := dk_iload 4 (b := 4) (by decide +kernel) (by decide +kernel) (by decide +kernel)
theorem dX12_measures_371 : decode cX12_measures 371 = .ok (.baload, 1) := dk_baload (by decide +kernel)
theorem dX12_measures_372 : decode cX12_measures 372 = .ok (.ifCond .eq 12, 3) := dk_ifCond_eq 12 (b1 := 0) (b2 := 12) (by decide +kernel) (by decide +kernel) (by decide +kernel) (by decide +kernel)
theorem dX12_measures_375 : decode cX12_measures 375 = .ok (.iload 15, 2) := dk_iload 15 (b := 15) (by decide +kernel) (by decide +kernel) (by decide +kernel)
theorem dX12_measures_377 : decode cX12_measures 377 = .ok (.ifCond .eq 7, 3) := dk_ifCond_eq 7 (b1 := 0) (b2 := 7) (by decide +kernel) (by decide +kernel) (by decide +kernel) (by decide +kernel)
theorem dX12_measures_380 : decode cX12_measures 380 = .ok (.iconst 1, 1) := dk_iconst_1 (by decide +kernel)
theorem dX12_measures_381 : decode cX12_measures 381 = .ok (.goto 4, 3) := dk_goto 4 (b1 := 0) (b2 := 4) (by decide +kernel) (by decide +kernel) (by decide +kernel) (by decide +kernel)
set_option maxRecDepth 20000 in
theorem vX12_measures_343 {E : sm_E} {L : sm_S → Prop} {d : Nat} {vs : List Value} {a1 : Nat} {x2 : Int32} {x3 : Int32} {x4 : Int32} {x5 : Int32} {x6 : Int32} {x7 : Int64} {x9 : Int64} {x11 : Int64} {x13 : Int64} {s0 : Int32} {na1 : Nat} {m : sm_M} {Q : sm_M → Prop} (hly : ∀ S, L S → ly S) (hd : 2 ≤ d) (hTa1 : ∀ S, L S → sm_K S a1 = 11 ∧ sm_N S a1 = na1)
  (h : (vp_in (x4 - 1) 200) ∧ ((m.1 125 (x4 - 1).toNatClampNeg) = 0 →
      gX12_measures_385 E L d vs a1 x2 x3 x4 x5 x6 x7 x9 x11 x13 (x4 - 1) 0 m Q) ∧
   (¬ (m.1 125 (x4 - 1).toNatClampNeg) = 0 →
      (vp_in x4 200) ∧ ((m.1 125 x4.toNatClampNeg) = 0 →
         gX12_measures_385 E L d vs a1 x2 x3 x4 x5 x6 x7 x9 x11 x13 (x4 - 1) 0 m Q) ∧
      (¬ (m.1 125 x4.toNatClampNeg) = 0 →
         (s0 = 0 →
            gX12_measures_385 E L d vs a1 x2 x3 x4 x5 x6 x7 x9 x11 x13 (x4 - 1) 0 m Q) ∧
         (¬ s0 = 0 →
            gX12_measures_385 E L d vs a1 x2 x3 x4 x5 x6 x7 x9 x11 x13 (x4 - 1) 1 m Q)))) :
  gX12_measures_343 E L d vs a1 x2 x3 x4 x5 x6 x7 x9 x11 x13 s0 m Q := by
  refine sm_istore0 (Y := mX12_measures) (pc := 343) [(15, .int s0), (0, .ref (sm_B E + 109)), (1, .ref (sm_B E + a1)), (2, .int x2), (3, .int x3), (4, .int x4), (5, .int x5), (6, .int x6), (7, .long x7), (9, .long x9), (11, .long x11), (13, .long x13)] 15 (by decide) rfl dX12_measures_343 ?_
  refine sm_aload_n (Y := mX12_measures) (pc := 345) 1 0 rfl rfl dX12_measures_345 ?_
  refine gf_RX12_60 (Y := mX12_measures) (pc := 346) (b := 125) rfl ((lk_109 hly) _) (lf_109_21 hly _) dX12_measures_346 ?_
  refine sm_iload (Y := mX12_measures) (pc := 349) 5 4 rfl dX12_measures_349 ?_
  refine sm_iconst (Y := mX12_measures) (pc := 351) 1 (by decide) dX12_measures_351 ?_
  refine sm_isub (Y := mX12_measures) (pc := 352) dX12_measures_352 ?_
  refine sm_aload_n (Y := mX12_measures) (pc := 353) 1 0 rfl rfl dX12_measures_353 ?_
  refine gf_RX12_60 (Y := mX12_measures) (pc := 354) (b := 125) rfl ((lk_109 hly) _) (lf_109_21 hly _) dX12_measures_354 ?_
  refine sm_iload (Y := mX12_measures) (pc := 357) 5 4 rfl dX12_measures_357 ?_
  refine sm_iconst (Y := mX12_measures) (pc := 359) 1 (by decide) dX12_measures_359 ?_
  refine sm_isub (Y := mX12_measures) (pc := 360) dX12_measures_360 ?_
  obtain ⟨hn_2, h⟩ := h
  refine sm_zald (Y := mX12_measures) (pc := 361) (la_125 hly _) hn_2 dX12_measures_361 ?_
  refine sm_if_eq (Y := mX12_measures) (pc := 362) 384 (by decide) dX12_measures_362 (fun hc => ?_) (fun hc => ?_)
  · replace h := h.1 hc
    refine sm_iconst (Y := mX12_measures) (pc := 384) 0 (by decide) dX12_measures_384 ?_
    refine sm_sub [1, 2, 3, 4, 5, 6, 7, 8, 9, 10, 11] rfl ?_
    exact h
  · replace h := h.2 hc
    refine sm_aload_n (Y := mX12_measures) (pc := 365) 1 0 rfl rfl dX12_measures_365 ?_
    refine gf_RX12_60 (Y := mX12_measures) (pc := 366) (b := 125) rfl ((lk_109 hly) _) (lf_109_21 hly _) dX12_measures_366 ?_
    refine sm_iload (Y := mX12_measures) (pc := 369) 5 4 rfl dX12_measures_369 ?_
    obtain ⟨hn_3, h⟩ := h
    refine sm_zald (Y := mX12_measures) (pc := 371) (la_125 hly _) hn_3 dX12_measures_371 ?_
    refine sm_if_eq (Y := mX12_measures) (pc := 372) 384 (by decide) dX12_measures_372 (fun hc => ?_) (fun hc => ?_)
    · replace h := h.1 hc
      refine sm_iconst (Y := mX12_measures) (pc := 384) 0 (by decide) dX12_measures_384 ?_
      refine sm_sub [1, 2, 3, 4, 5, 6, 7, 8, 9, 10, 11] rfl ?_
      exact h
    · replace h := h.2 hc
      refine sm_iload (Y := mX12_measures) (pc := 375) 0 15 rfl dX12_measures_375 ?_
      refine sm_if_eq (Y := mX12_measures) (pc := 377) 384 (by decide) dX12_measures_377 (fun hc => ?_) (fun hc => ?_)
      · replace h := h.1 hc
        refine sm_iconst (Y := mX12_measures) (pc := 384) 0 (by decide) dX12_measures_384 ?_
        refine sm_sub [1, 2, 3, 4, 5, 6, 7, 8, 9, 10, 11] rfl ?_
        exact h
      · replace h := h.2 hc
        refine sm_iconst (Y := mX12_measures) (pc := 380) 1 (by decide) dX12_measures_380 ?_
        refine sm_goto (Y := mX12_measures) (pc := 381) 385 (by decide) dX12_measures_381 ?_
        refine sm_sub [1, 2, 3, 4, 5, 6, 7, 8, 9, 10, 11] rfl ?_
        exact h
theorem dX12_measures_76 : decode cX12_measures 76 = .ok (.lastore, 1) := dk_lastore (by decide +kernel)
theorem dX12_measures_77 : decode cX12_measures 77 = .ok (.aload_n 0, 1) := dk_aload_n_0 (by decide +kernel)
theorem dX12_measures_78 : decode cX12_measures 78 = .ok (.getfield 60, 3) := dk_getfield 60 (b1 := 0) (b2 := 60) (by decide +kernel) (by decide +kernel) (by decide +kernel) (by decide +kernel)
theorem dX12_measures_81 : decode cX12_measures 81 = .ok (.iload 4, 2) := dk_iload 4 (b := 4) (by decide +kernel) (by decide +kernel) (by decide +kernel)
theorem dX12_measures_83 : decode cX12_measures 83 = .ok (.iconst 1, 1) := dk_iconst_1 (by decide +kernel)
theorem dX12_measures_84 : decode cX12_measures 84 = .ok (.bastore, 1) := dk_bastore (by decide +kernel)
theorem dX12_measures_85 : decode cX12_measures 85 = .ok (.aload_n 0, 1) := dk_aload_n_0 (by decide +kernel)
theorem dX12_measures_86 : decode cX12_measures 86 = .ok (.getfield 64, 3) := dk_getfield 64 (b1 := 0) (b2 := 64) (by decide +kernel) (by decide +kernel) (by decide +kernel) (by decide +kernel)
theorem dX12_measures_89 : decode cX12_measures 89 = .ok (.iload 4, 2) := dk_iload 4 (b := 4) (by decide +kernel) (by decide +kernel) (by decide +kernel)
theorem dX12_measures_91 : decode cX12_measures 91 = .ok (.iconst 1, 1) := dk_iconst_1 (by decide +kernel)
theorem dX12_measures_92 : decode cX12_measures 92 = .ok (.iastore, 1) := dk_iastore (by decide +kernel)
theorem dX12_measures_93 : decode cX12_measures 93 = .ok (.aload_n 0, 1) := dk_aload_n_0 (by decide +kernel)
theorem dX12_measures_94 : decode cX12_measures 94 = .ok (.dup, 1) := dk_dup (by decide +kernel)
theorem dX12_measures_95 : decode cX12_measures 95 = .ok (.getfield 138, 3) := dk_getfield 138 (b1 := 0) (b2 := 138) (by decide +kernel) (by decide +kernel) (by decide +kernel) (by decide +kernel)
theorem dX12_measures_98 : decode cX12_measures 98 = .ok (.iconst 1, 1) := dk_iconst_1 (by decide +kernel)
theorem dX12_measures_99 : decode cX12_measures 99 = .ok (.iadd, 1) := dk_iadd (by decide +kernel)
theorem dX12_measures_100 : decode cX12_measures 100 = .ok (.putfield 138, 3) := dk_putfield 138 (b1 := 0) (b2 := 138) (by decide +kernel) (by decide +kernel) (by decide +kernel) (by decide +kernel)
theorem dX12_measures_103 : decode cX12_measures 103 = .ok (.aload_n 0, 1) := dk_aload_n_0 (by decide +kernel)
theorem dX12_measures_104 : decode cX12_measures 104 = .ok (.dup, 1) := dk_dup (by decide +kernel)
theorem dX12_measures_105 : decode cX12_measures 105 = .ok (.getfield 141, 3) := dk_getfield 141 (b1 := 0) (b2 := 141) (by decide +kernel) (by decide +kernel) (by decide +kernel) (by decide +kernel)
theorem dX12_measures_108 : decode cX12_measures 108 = .ok (.iload 6, 2) := dk_iload 6 (b := 6) (by decide +kernel) (by decide +kernel) (by decide +kernel)
theorem dX12_measures_110 : decode cX12_measures 110 = .ok (.bipush 10, 2) := dk_bipush 10 (b := 10) (by decide +kernel) (by decide +kernel) (by decide +kernel)
theorem dX12_measures_112 : decode cX12_measures 112 = .ok (.if_icmp .ne 7, 3) := dk_if_icmp_ne 7 (b1 := 0) (b2 := 7) (by decide +kernel) (by decide +kernel) (by decide +kernel) (by decide +kernel)
theorem dX12_measures_119 : decode cX12_measures 119 = .ok (.iload 6, 2) := dk_iload 6 (b := 6) (by decide +kernel) (by decide +kernel) (by decide +kernel)
theorem dX12_measures_121 : decode cX12_measures 121 = .ok (.ifCond .ge 9, 3) := dk_ifCond_ge 9 (b1 := 0) (b2 := 9) (by decide +kernel) (by decide +kernel) (by decide +kernel) (by decide +kernel)
theorem dX12_measures_130 : decode cX12_measures 130 = .ok (.iload 6, 2) := dk_iload 6 (b := 6) (by decide +kernel) (by decide +kernel) (by decide +kernel)
theorem dX12_measures_132 : decode cX12_measures 132 = .ok (.iadd, 1) := dk_iadd (by decide +kernel)
theorem dX12_measures_133 : decode cX12_measures 133 = .ok (.putfield 141, 3) := dk_putfield 141 (b1 := 0) (b2 := 141) (by decide +kernel) (by decide +kernel) (by decide +kernel) (by decide +kernel)
theorem dX12_measures_136 : decode cX12_measures 136 = .ok (.iinc 4 1, 3) := dk_iinc 4 1 (b1 := 4) (b2 := 1) (by decide +kernel) (by decide +kernel) (by decide +kernel) (by decide +kernel) (by decide +kernel)
theorem dX12_measures_139 : decode cX12_measures 139 = .ok (.goto 366, 3) := dk_goto 366 (b1 := 1) (b2 := 110) (by decide +kernel) (by decide +kernel) (by decide +kernel) (by decide +kernel)
theorem dX12_measures_124 : decode cX12_measures 124 = .ok (.iload 6, 2) := dk_iload 6 (b := 6) (by decide +kernel) (by decide +kernel) (by decide +kernel)
theorem dX12_measures_126 : decode cX12_measures 126 = .ok (.ineg, 1) := dk_ineg (by decide +kernel)
theorem dX12_measures_127 : decode cX12_measures 127 = .ok (.goto 5, 3) := dk_goto 5 (b1 := 0) (b2 := 5) (by decide +kernel) (by decide +kernel) (by decide +kernel) (by decide +kernel)
theorem dX12_measures_115 : decode cX12_measures 115 = .ok (.iconst 0, 1) := dk_iconst_0 (by decide +kernel)
theorem dX12_measures_116 : decode cX12_measures 116 = .ok (.goto 16, 3) := dk_goto 16 (b1 := 0) (b2 := 16) (by decide +kernel) (by decide +kernel) (by decide +kernel) (by decide +kernel)
set_option maxRecDepth 20000 in
theorem vX12_measures_76 {E : sm_E} {L : sm_S → Prop} {d : Nat} {vs : List Value} {a1 : Nat} {x2 : Int32} {x3 : Int32} {x4 : Int32} {x5 : Int32} {x6 : Int32} {s1 : Int32} {s2 : Int64} {na1 : Nat} {m : sm_M} {Q : sm_M → Prop} (hly : ∀ S, L S → ly S) (hd : 2 ≤ d) (hTa1 : ∀ S, L S → sm_K S a1 = 11 ∧ sm_N S a1 = na1)
  (h : (vp_in s1 200) ∧ ∀ m_1 : sm_M, m_1 = sm_wJ m 124 s1.toNatClampNeg s2 →
   (vp_in x4 200) ∧ ∀ m_3 : sm_M, m_3 = sm_wI m_1 125 x4.toNatClampNeg 1 →
   (vp_in x4 200) ∧ ∀ m_5 : sm_M, m_5 = sm_wI m_3 126 x4.toNatClampNeg 1 →
   ∀ m_7 : sm_M, m_7 = sm_wI m_5 109 26 ((m_5.1 109 26) + 1) →
   (¬ x6 = 10 →
      (0 ≤ x6 →
         ∀ m_8 : sm_M, m_8 = sm_wI m_7 109 27 ((m_7.1 109 27) + x6) →
         ∀ x4_9 : Int32, x4_9 = x4 + 1 →
         ∀ x5_10 : Int32, x5_10 = x5 + 1 →
         gX12_measures_16 E L d vs a1 x2 x3 x4_9 x5_10 m_8 Q) ∧
      (¬ 0 ≤ x6 →
         ∀ m_11 : sm_M, m_11 = sm_wI m_7 109 27 ((m_7.1 109 27) + (-x6)) →
         ∀ x4_12 : Int32, x4_12 = x4 + 1 →
         ∀ x5_13 : Int32, x5_13 = x5 + 1 →
         gX12_measures_16 E L d vs a1 x2 x3 x4_12 x5_13 m_11 Q)) ∧
   (x6 = 10 →
      ∀ m_14 : sm_M, m_14 = sm_wI m_7 109 27 ((m_7.1 109 27) + 0) →
      ∀ x4_15 : Int32, x4_15 = x4 + 1 →
      ∀ x5_16 : Int32, x5_16 = x5 + 1 →
      gX12_measures_16 E L d vs a1 x2 x3 x4_15 x5_16 m_14 Q)) :
  gX12_measures_76 E L d vs a1 x2 x3 x4 x5 x6 s1 s2 m Q := by
  obtain ⟨hn_2, h⟩ := h
  refine sm_last (Y := mX12_measures) (pc := 76) (la_124 hly _) hn_2 dX12_measures_76 (fun m_1 em_1 => ?_)
  replace h := h m_1 em_1
  refine sm_aload_n (Y := mX12_measures) (pc := 77) 0 0 rfl rfl dX12_measures_77 ?_
  refine gf_RX12_60 (Y := mX12_measures) (pc := 78) (b := 125) rfl ((lk_109 hly) _) (lf_109_21 hly _) dX12_measures_78 ?_
  refine sm_iload (Y := mX12_measures) (pc := 81) 4 4 rfl dX12_measures_81 ?_
  refine sm_iconst (Y := mX12_measures) (pc := 83) 1 (by decide) dX12_measures_83 ?_
  obtain ⟨hn_4, h⟩ := h
  refine sm_zast (Y := mX12_measures) (pc := 84) (la_125 hly _) hn_4 (by decide) dX12_measures_84 (fun m_3 em_3 => ?_)
  replace h := h m_3 em_3
  refine sm_aload_n (Y := mX12_measures) (pc := 85) 0 0 rfl rfl dX12_measures_85 ?_
  refine gf_RX12_64 (Y := mX12_measures) (pc := 86) (b := 126) rfl ((lk_109 hly) _) (lf_109_22 hly _) dX12_measures_86 ?_
  refine sm_iload (Y := mX12_measures) (pc := 89) 4 4 rfl dX12_measures_89 ?_
  refine sm_iconst (Y := mX12_measures) (pc := 91) 1 (by decide) dX12_measures_91 ?_
  obtain ⟨hn_6, h⟩ := h
  refine sm_iast (Y := mX12_measures) (pc := 92) (la_126 hly _) hn_6 dX12_measures_92 (fun m_5 em_5 => ?_)
  replace h := h m_5 em_5
  refine sm_aload_n (Y := mX12_measures) (pc := 93) 0 0 rfl rfl dX12_measures_93 ?_
  refine sm_dup (Y := mX12_measures) (pc := 94) rfl dX12_measures_94 ?_
  refine gf_RX12_138 (Y := mX12_measures) (pc := 95) rfl ((lk_109 hly) _) dX12_measures_95 ?_
  refine sm_iconst (Y := mX12_measures) (pc := 98) 1 (by decide) dX12_measures_98 ?_
  refine sm_iadd (Y := mX12_measures) (pc := 99) dX12_measures_99 ?_
  refine pf_RX12_138 (Y := mX12_measures) (pc := 100) rfl ((lk_109 hly) _) dX12_measures_100 (fun m_7 em_7 => ?_)
  replace h := h m_7 em_7
  refine sm_aload_n (Y := mX12_measures) (pc := 103) 0 0 rfl rfl dX12_measures_103 ?_
  refine sm_dup (Y := mX12_measures) (pc := 104) rfl dX12_measures_104 ?_
  refine gf_RX12_141 (Y := mX12_measures) (pc := 105) rfl ((lk_109 hly) _) dX12_measures_105 ?_
  refine sm_iload (Y := mX12_measures) (pc := 108) 6 6 rfl dX12_measures_108 ?_
  refine sm_bipush (Y := mX12_measures) (pc := 110) 10 (by decide) dX12_measures_110 ?_
  refine sm_icmp_ne (Y := mX12_measures) (pc := 112) 119 (by decide) dX12_measures_112 (fun hc => ?_) (fun hc => ?_)
  · replace h := h.1 hc
    refine sm_iload (Y := mX12_measures) (pc := 119) 6 6 rfl dX12_measures_119 ?_
    refine sm_if_ge (Y := mX12_measures) (pc := 121) 130 (by decide) dX12_measures_121 (fun hc => ?_) (fun hc => ?_)
    · replace h := h.1 hc
      refine sm_iload (Y := mX12_measures) (pc := 130) 6 6 rfl dX12_measures_130 ?_
      refine sm_iadd (Y := mX12_measures) (pc := 132) dX12_measures_132 ?_
      refine pf_RX12_141 (Y := mX12_measures) (pc := 133) rfl ((lk_109 hly) _) dX12_measures_133 (fun m_8 em_8 => ?_)
      replace h := h m_8 em_8
      refine sm_iinc (Y := mX12_measures) (pc := 136) (fun y => [(4, .int y), (0, .ref (sm_B E + 109)), (1, .ref (sm_B E + a1)), (2, .int x2), (3, .int x3), (5, .int x5), (6, .int x6)]) 4 4 rfl (by decide) (fun _ => rfl) dX12_measures_136 (fun x4_9 ex4_9 => ?_)
      replace h := h x4_9 ex4_9
      refine sm_goto (Y := mX12_measures) (pc := 139) 505 (by decide) dX12_measures_139 ?_
      refine sm_iinc (Y := mX12_measures) (pc := 505) (fun y => [(5, .int y), (4, .int x4_9), (0, .ref (sm_B E + 109)), (1, .ref (sm_B E + a1)), (2, .int x2), (3, .int x3), (6, .int x6)]) 5 5 rfl (by decide) (fun _ => rfl) dX12_measures_505 (fun x5_10 ex5_10 => ?_)
      replace h := h x5_10 ex5_10
      refine sm_goto (Y := mX12_measures) (pc := 508) 16 (by decide) dX12_measures_508 ?_
      refine sm_sub [2, 3, 4, 5, 1, 0] rfl ?_
      exact h
    · replace h := h.2 hc
      refine sm_iload (Y := mX12_measures) (pc := 124) 6 6 rfl dX12_measures_124 ?_
      refine sm_ineg (Y := mX12_measures) (pc := 126) dX12_measures_126 ?_
      refine sm_goto (Y := mX12_measures) (pc := 127) 132 (by decide) dX12_measures_127 ?_
      refine sm_iadd (Y := mX12_measures) (pc := 132) dX12_measures_132 ?_
      refine pf_RX12_141 (Y := mX12_measures) (pc := 133) rfl ((lk_109 hly) _) dX12_measures_133 (fun m_11 em_11 => ?_)
      replace h := h m_11 em_11
      refine sm_iinc (Y := mX12_measures) (pc := 136) (fun y => [(4, .int y), (0, .ref (sm_B E + 109)), (1, .ref (sm_B E + a1)), (2, .int x2), (3, .int x3), (5, .int x5), (6, .int x6)]) 4 4 rfl (by decide) (fun _ => rfl) dX12_measures_136 (fun x4_12 ex4_12 => ?_)
      replace h := h x4_12 ex4_12
      refine sm_goto (Y := mX12_measures) (pc := 139) 505 (by decide) dX12_measures_139 ?_
      refine sm_iinc (Y := mX12_measures) (pc := 505) (fun y => [(5, .int y), (4, .int x4_12), (0, .ref (sm_B E + 109)), (1, .ref (sm_B E + a1)), (2, .int x2), (3, .int x3), (6, .int x6)]) 5 5 rfl (by decide) (fun _ => rfl) dX12_measures_505 (fun x5_13 ex5_13 => ?_)
      replace h := h x5_13 ex5_13
      refine sm_goto (Y := mX12_measures) (pc := 508) 16 (by decide) dX12_measures_508 ?_
      refine sm_sub [2, 3, 4, 5, 1, 0] rfl ?_
      exact h
  · replace h := h.2 hc
    refine sm_iconst (Y := mX12_measures) (pc := 115) 0 (by decide) dX12_measures_115 ?_
    refine sm_goto (Y := mX12_measures) (pc := 116) 132 (by decide) dX12_measures_116 ?_
    refine sm_iadd (Y := mX12_measures) (pc := 132) dX12_measures_132 ?_
    refine pf_RX12_141 (Y := mX12_measures) (pc := 133) rfl ((lk_109 hly) _) dX12_measures_133 (fun m_14 em_14 => ?_)
    replace h := h m_14 em_14
    refine sm_iinc (Y := mX12_measures) (pc := 136) (fun y => [(4, .int y), (0, .ref (sm_B E + 109)), (1, .ref (sm_B E + a1)), (2, .int x2), (3, .int x3), (5, .int x5), (6, .int x6)]) 4 4 rfl (by decide) (fun _ => rfl) dX12_measures_136 (fun x4_15 ex4_15 => ?_)
    replace h := h x4_15 ex4_15
    refine sm_goto (Y := mX12_measures) (pc := 139) 505 (by decide) dX12_measures_139 ?_
    refine sm_iinc (Y := mX12_measures) (pc := 505) (fun y => [(5, .int y), (4, .int x4_15), (0, .ref (sm_B E + 109)), (1, .ref (sm_B E + a1)), (2, .int x2), (3, .int x3), (6, .int x6)]) 5 5 rfl (by decide) (fun _ => rfl) dX12_measures_505 (fun x5_16 ex5_16 => ?_)
    replace h := h x5_16 ex5_16
    refine sm_goto (Y := mX12_measures) (pc := 508) 16 (by decide) dX12_measures_508 ?_
    refine sm_sub [2, 3, 4, 5, 1, 0] rfl ?_
    exact h
theorem dX12_measures_57 : decode cX12_measures 57 = .ok (.lastore, 1) := dk_lastore (by decide +kernel)
theorem dX12_measures_58 : decode cX12_measures 58 = .ok (.aload_n 0, 1) := dk_aload_n_0 (by decide +kernel)
theorem dX12_measures_59 : decode cX12_measures 59 = .ok (.getfield 57, 3) := dk_getfield 57 (b1 := 0) (b2 := 57) (by decide +kernel) (by decide +kernel) (by decide +kernel) (by decide +kernel)
theorem dX12_measures_62 : decode cX12_measures 62 = .ok (.iload 4, 2) := dk_iload 4 (b := 4) (by decide +kernel) (by decide +kernel) (by decide +kernel)
theorem dX12_measures_64 : decode cX12_measures 64 = .ok (.iload 6, 2) := dk_iload 6 (b := 6) (by decide +kernel) (by decide +kernel) (by decide +kernel)
theorem dX12_measures_66 : decode cX12_measures 66 = .ok (.bipush 10, 2) := dk_bipush 10 (b := 10) (by decide +kernel) (by decide +kernel) (by decide +kernel)
theorem dX12_measures_68 : decode cX12_measures 68 = .ok (.if_icmp .ne 7, 3) := dk_if_icmp_ne 7 (b1 := 0) (b2 := 7) (by decide +kernel) (by decide +kernel) (by decide +kernel) (by decide +kernel)
theorem dX12_measures_75 : decode cX12_measures 75 = .ok (.lconst 1, 1) := dk_lconst_1 (by decide +kernel)
theorem dX12_measures_71 : decode cX12_measures 71 = .ok (.lconst 0, 1) := dk_lconst_0 (by decide +kernel)
theorem dX12_measures_72 : decode cX12_measures 72 = .ok (.goto 4, 3) := dk_goto 4 (b1 := 0) (b2 := 4) (by decide +kernel) (by decide +kernel) (by decide +kernel) (by decide +kernel)
set_option maxRecDepth 20000 in
theorem vX12_measures_57 {E : sm_E} {L : sm_S → Prop} {d : Nat} {vs : List Value} {a1 : Nat} {x2 : Int32} {x3 : Int32} {x4 : Int32} {x5 : Int32} {x6 : Int32} {s1 : Int32} {s2 : Int64} {na1 : Nat} {m : sm_M} {Q : sm_M → Prop} (hly : ∀ S, L S → ly S) (hd : 2 ≤ d) (hTa1 : ∀ S, L S → sm_K S a1 = 11 ∧ sm_N S a1 = na1)
  (h : (vp_in s1 200) ∧ ∀ m_1 : sm_M, m_1 = sm_wJ m 123 s1.toNatClampNeg s2 →
   (¬ x6 = 10 →
      gX12_measures_76 E L d vs a1 x2 x3 x4 x5 x6 x4 1 m_1 Q) ∧
   (x6 = 10 →
      gX12_measures_76 E L d vs a1 x2 x3 x4 x5 x6 x4 0 m_1 Q)) :
  gX12_measures_57 E L d vs a1 x2 x3 x4 x5 x6 s1 s2 m Q := by
  obtain ⟨hn_2, h⟩ := h
  refine sm_last (Y := mX12_measures) (pc := 57) (la_123 hly _) hn_2 dX12_measures_57 (fun m_1 em_1 => ?_)
  replace h := h m_1 em_1
  refine sm_aload_n (Y := mX12_measures) (pc := 58) 0 0 rfl rfl dX12_measures_58 ?_
  refine gf_RX12_57 (Y := mX12_measures) (pc := 59) (b := 124) rfl ((lk_109 hly) _) (lf_109_20 hly _) dX12_measures_59 ?_
  refine sm_iload (Y := mX12_measures) (pc := 62) 4 4 rfl dX12_measures_62 ?_
  refine sm_iload (Y := mX12_measures) (pc := 64) 6 6 rfl dX12_measures_64 ?_
  refine sm_bipush (Y := mX12_measures) (pc := 66) 10 (by decide) dX12_measures_66 ?_
  refine sm_icmp_ne (Y := mX12_measures) (pc := 68) 75 (by decide) dX12_measures_68 (fun hc => ?_) (fun hc => ?_)
  · replace h := h.1 hc
    refine sm_lconst (Y := mX12_measures) (pc := 75) 1 (by decide) dX12_measures_75 ?_
    exact h
  · replace h := h.2 hc
    refine sm_lconst (Y := mX12_measures) (pc := 71) 0 (by decide) dX12_measures_71 ?_
    refine sm_goto (Y := mX12_measures) (pc := 72) 76 (by decide) dX12_measures_72 ?_
    exact h
theorem dX12_measures_16 : decode cX12_measures 16 = .ok (.iload 5, 2) := dk_iload 5 (b := 5) (by decide +kernel) (by decide +kernel) (by decide +kernel)
theorem dX12_measures_18 : decode cX12_measures 18 = .ok (.iload_n 2, 1) := dk_iload_n_2 (by decide +kernel)
theorem dX12_measures_19 : decode cX12_measures 19 = .ok (.iload_n 3, 1) := dk_iload_n_3 (by decide +kernel)
theorem dX12_measures_20 : decode cX12_measures 20 = .ok (.iadd, 1) := dk_iadd (by decide +kernel)
theorem dX12_measures_21 : decode cX12_measures 21 = .ok (.if_icmp .ge 490, 3) := dk_if_icmp_ge 490 (b1 := 1) (b2 := 234) (by decide +kernel) (by decide +kernel) (by decide +kernel) (by decide +kernel)
theorem dX12_measures_511 : decode cX12_measures 511 = .ok (.aload_n 0, 1) := dk_aload_n_0 (by decide +kernel)
theorem dX12_measures_512 : decode cX12_measures 512 = .ok (.aload_n 0, 1) := dk_aload_n_0 (by decide +kernel)
theorem dX12_measures_513 : decode cX12_measures 513 = .ok (.getfield 54, 3) := dk_getfield 54 (b1 := 0) (b2 := 54) (by decide +kernel) (by decide +kernel) (by decide +kernel) (by decide +kernel)
theorem dX12_measures_516 : decode cX12_measures 516 = .ok (.iconst 0, 1) := dk_iconst_0 (by decide +kernel)
theorem dX12_measures_517 : decode cX12_measures 517 = .ok (.laload, 1) := dk_laload (by decide +kernel)
theorem dX12_measures_518 : decode cX12_measures 518 = .ok (.putfield 148, 3) := dk_putfield 148 (b1 := 0) (b2 := 148) (by decide +kernel) (by decide +kernel) (by decide +kernel) (by decide +kernel)
theorem dX12_measures_521 : decode cX12_measures 521 = .ok (.aload_n 0, 1) := dk_aload_n_0 (by decide +kernel)
theorem dX12_measures_522 : decode cX12_measures 522 = .ok (.aload_n 0, 1) := dk_aload_n_0 (by decide +kernel)
theorem dX12_measures_523 : decode cX12_measures 523 = .ok (.getfield 57, 3) := dk_getfield 57 (b1 := 0) (b2 := 57) (by decide +kernel) (by decide +kernel) (by decide +kernel) (by decide +kernel)
theorem dX12_measures_526 : decode cX12_measures 526 = .ok (.iconst 0, 1) := dk_iconst_0 (by decide +kernel)
theorem dX12_measures_527 : decode cX12_measures 527 = .ok (.laload, 1) := dk_laload (by decide +kernel)
theorem dX12_measures_528 : decode cX12_measures 528 = .ok (.putfield 152, 3) := dk_putfield 152 (b1 := 0) (b2 := 152) (by decide +kernel) (by decide +kernel) (by decide +kernel) (by decide +kernel)
theorem dX12_measures_531 : decode cX12_measures 531 = .ok (.aload_n 0, 1) := dk_aload_n_0 (by decide +kernel)
theorem dX12_measures_532 : decode cX12_measures 532 = .ok (.aload_n 0, 1) := dk_aload_n_0 (by decide +kernel)
theorem dX12_measures_533 : decode cX12_measures 533 = .ok (.getfield 60, 3) := dk_getfield 60 (b1 := 0) (b2 := 60) (by decide +kernel) (by decide +kernel) (by decide +kernel) (by decide +kernel)
theorem dX12_measures_536 : decode cX12_measures 536 = .ok (.iconst 0, 1) := dk_iconst_0 (by decide +kernel)
theorem dX12_measures_537 : decode cX12_measures 537 = .ok (.baload, 1) := dk_baload (by decide +kernel)
theorem dX12_measures_538 : decode cX12_measures 538 = .ok (.putfield 155, 3) := dk_putfield 155 (b1 := 0) (b2 := 155) (by decide +kernel) (by decide +kernel) (by decide +kernel) (by decide +kernel)
theorem dX12_measures_541 : decode cX12_measures 541 = .ok (.aload_n 0, 1) := dk_aload_n_0 (by decide +kernel)
theorem dX12_measures_542 : decode cX12_measures 542 = .ok (.aload_n 0, 1) := dk_aload_n_0 (by decide +kernel)
theorem dX12_measures_543 : decode cX12_measures 543 = .ok (.getfield 64, 3) := dk_getfield 64 (b1 := 0) (b2 := 64) (by decide +kernel) (by decide +kernel) (by decide +kernel) (by decide +kernel)
theorem dX12_measures_546 : decode cX12_measures 546 = .ok (.iconst 0, 1) := dk_iconst_0 (by decide +kernel)
theorem dX12_measures_547 : decode cX12_measures 547 = .ok (.iaload, 1) := dk_iaload (by decide +kernel)
theorem dX12_measures_548 : decode cX12_measures 548 = .ok (.putfield 159, 3) := dk_putfield 159 (b1 := 0) (b2 := 159) (by decide +kernel) (by decide +kernel) (by decide +kernel) (by decide +kernel)
theorem dX12_measures_551 : decode cX12_measures 551 = .ok (.return_, 1) := dk_return_ (by decide +kernel)
theorem dX12_measures_24 : decode cX12_measures 24 = .ok (.aload_n 1, 1) := dk_aload_n_1 (by decide +kernel)
theorem dX12_measures_25 : decode cX12_measures 25 = .ok (.iload 5, 2) := dk_iload 5 (b := 5) (by decide +kernel) (by decide +kernel) (by decide +kernel)
theorem dX12_measures_27 : decode cX12_measures 27 = .ok (.iaload, 1) := dk_iaload (by decide +kernel)
theorem dX12_measures_28 : decode cX12_measures 28 = .ok (.istore 6, 2) := dk_istore 6 (b := 6) (by decide +kernel) (by decide +kernel) (by decide +kernel)
theorem dX12_measures_30 : decode cX12_measures 30 = .ok (.iload 6, 2) := dk_iload 6 (b := 6) (by decide +kernel) (by decide +kernel) (by decide +kernel)
theorem dX12_measures_32 : decode cX12_measures 32 = .ok (.bipush 10, 2) := dk_bipush 10 (b := 10) (by decide +kernel) (by decide +kernel) (by decide +kernel)
theorem dX12_measures_34 : decode cX12_measures 34 = .ok (.if_icmp .gt 108, 3) := dk_if_icmp_gt 108 (b1 := 0) (b2 := 108) (by decide +kernel) (by decide +kernel) (by decide +kernel) (by decide +kernel)
theorem dX12_measures_142 : decode cX12_measures 142 = .ok (.iload 6, 2) := dk_iload 6 (b := 6) (by decide +kernel) (by decide +kernel) (by decide +kernel)
theorem dX12_measures_144 : decode cX12_measures 144 = .ok (.bipush 22, 2) := dk_bipush 22 (b := 22) (by decide +kernel) (by decide +kernel) (by decide +kernel)
theorem dX12_measures_146 : decode cX12_measures 146 = .ok (.if_icmp .ne 60, 3) := dk_if_icmp_ne 60 (b1 := 0) (b2 := 60) (by decide +kernel) (by decide +kernel) (by decide +kernel) (by decide +kernel)
theorem dX12_measures_206 : decode cX12_measures 206 = .ok (.iload 6, 2) := dk_iload 6 (b := 6) (by decide +kernel) (by decide +kernel) (by decide +kernel)
theorem dX12_measures_208 : decode cX12_measures 208 = .ok (.bipush 23, 2) := dk_bipush 23 (b := 23) (by decide +kernel) (by decide +kernel) (by decide +kernel)
theorem dX12_measures_210 : decode cX12_measures 210 = .ok (.if_icmp .ne 38, 3) := dk_if_icmp_ne 38 (b1 := 0) (b2 := 38) (by decide +kernel) (by decide +kernel) (by decide +kernel) (by decide +kernel)
theorem dX12_measures_248 : decode cX12_measures 248 = .ok (.iinc 4 (-1), 3) := dk_iinc 4 (-1) (b1 := 4) (b2 := 255) (by decide +kernel) (by decide +kernel) (by decide +kernel) (by decide +kernel) (by decide +kernel)
theorem dX12_measures_251 : decode cX12_measures 251 = .ok (.aload_n 0, 1) := dk_aload_n_0 (by decide +kernel)
theorem dX12_measures_252 : decode cX12_measures 252 = .ok (.getfield 54, 3) := dk_getfield 54 (b1 := 0) (b2 := 54) (by decide +kernel) (by decide +kernel) (by decide +kernel) (by decide +kernel)
theorem dX12_measures_255 : decode cX12_measures 255 = .ok (.iload 4, 2) := dk_iload 4 (b := 4) (by decide +kernel) (by decide +kernel) (by decide +kernel)
theorem dX12_measures_257 : decode cX12_measures 257 = .ok (.iconst 1, 1) := dk_iconst_1 (by decide +kernel)
theorem dX12_measures_258 : decode cX12_measures 258 = .ok (.isub, 1) := dk_isub (by decide +kernel)
theorem dX12_measures_259 : decode cX12_measures 259 = .ok (.laload, 1) := dk_laload (by decide +kernel)
theorem dX12_measures_260 : decode cX12_measures 260 = .ok (.lstore 7, 2) := dk_lstore 7 (b := 7) (by decide +kernel) (by decide +kernel) (by decide +kernel)
theorem dX12_measures_262 : decode cX12_measures 262 = .ok (.aload_n 0, 1) := dk_aload_n_0 (by decide +kernel)
theorem dX12_measures_263 : decode cX12_measures 263 = .ok (.getfield 57, 3) := dk_getfield 57 (b1 := 0) (b2 := 57) (by decide +kernel) (by decide +kernel) (by decide +kernel) (by decide +kernel)
theorem dX12_measures_266 : decode cX12_measures 266 = .ok (.iload 4, 2) := dk_iload 4 (b := 4) (by decide +kernel) (by decide +kernel) (by decide +kernel)
theorem dX12_measures_268 : decode cX12_measures 268 = .ok (.iconst 1, 1) := dk_iconst_1 (by decide +kernel)
theorem dX12_measures_269 : decode cX12_measures 269 = .ok (.isub, 1) := dk_isub (by decide +kernel)
theorem dX12_measures_270 : decode cX12_measures 270 = .ok (.laload, 1) := dk_laload (by decide +kernel)
theorem dX12_measures_271 : decode cX12_measures 271 = .ok (.lstore 9, 2) := dk_lstore 9 (b := 9) (by decide +kernel) (by decide +kernel) (by decide +kernel)
theorem dX12_measures_273 : decode cX12_measures 273 = .ok (.aload_n 0, 1) := dk_aload_n_0 (by decide +kernel)
theorem dX12_measures_274 : decode cX12_measures 274 = .ok (.getfield 54, 3) := dk_getfield 54 (b1 := 0) (b2 := 54) (by decide +kernel) (by decide +kernel) (by decide +kernel) (by decide +kernel)
theorem dX12_measures_277 : decode cX12_measures 277 = .ok (.iload 4, 2) := dk_iload 4 (b := 4) (by decide +kernel) (by decide +kernel) (by decide +kernel)
theorem dX12_measures_279 : decode cX12_measures 279 = .ok (.laload, 1) := dk_laload (by decide +kernel)
theorem dX12_measures_280 : decode cX12_measures 280 = .ok (.lstore 11, 2) := dk_lstore 11 (b := 11) (by decide +kernel) (by decide +kernel) (by decide +kernel)
theorem dX12_measures_282 : decode cX12_measures 282 = .ok (.aload_n 0, 1) := dk_aload_n_0 (by decide +kernel)
theorem dX12_measures_283 : decode cX12_measures 283 = .ok (.getfield 57, 3) := dk_getfield 57 (b1 := 0) (b2 := 57) (by decide +kernel) (by decide +kernel) (by decide +kernel) (by decide +kernel)
theorem dX12_measures_286 : decode cX12_measures 286 = .ok (.iload 4, 2) := dk_iload 4 (b := 4) (by decide +kernel) (by decide +kernel) (by decide +kernel)
theorem dX12_measures_288 : decode cX12_measures 288 = .ok (.laload, 1) := dk_laload (by decide +kernel)
theorem dX12_measures_289 : decode cX12_measures 289 = .ok (.lstore 13, 2) := dk_lstore 13 (b := 13) (by decide +kernel) (by decide +kernel) (by decide +kernel)
theorem dX12_measures_291 : decode cX12_measures 291 = .ok (.iload 6, 2) := dk_iload 6 (b := 6) (by decide +kernel) (by decide +kernel) (by decide +kernel)
theorem dX12_measures_293 : decode cX12_measures 293 = .ok (.bipush 20, 2) := dk_bipush 20 (b := 20) (by decide +kernel) (by decide +kernel) (by decide +kernel)
theorem dX12_measures_295 : decode cX12_measures 295 = .ok (.if_icmp .ne 27, 3) := dk_if_icmp_ne 27 (b1 := 0) (b2 := 27) (by decide +kernel) (by decide +kernel) (by decide +kernel) (by decide +kernel)
theorem dX12_measures_322 : decode cX12_measures 322 = .ok (.lload 7, 2) := dk_lload 7 (b := 7) (by decide +kernel) (by decide +kernel) (by decide +kernel)
theorem wRX12_144 : Cond.methodLink RX12 144 yX12_isUnit ∈ sm_T := sm_in 1392 (by decide +kernel) (by decide +kernel)
theorem dX12_measures_324 : decode cX12_measures 324 = .ok (.invokestatic 144, 3) := dk_invokestatic 144 (b1 := 0) (b2 := 144) (by decide +kernel) (by decide +kernel) (by decide +kernel) (by decide +kernel)
theorem dX12_measures_327 : decode cX12_measures 327 = .ok (.ifCond .ne 11, 3) := dk_ifCond_ne 11 (b1 := 0) (b2 := 11) (by decide +kernel) (by decide +kernel) (by decide +kernel) (by decide +kernel)
theorem dX12_measures_338 : decode cX12_measures 338 = .ok (.iconst 1, 1) := dk_iconst_1 (by decide +kernel)
theorem dX12_measures_339 : decode cX12_measures 339 = .ok (.goto 4, 3) := dk_goto 4 (b1 := 0) (b2 := 4) (by decide +kernel) (by decide +kernel) (by decide +kernel) (by decide +kernel)
theorem dX12_measures_330 : decode cX12_measures 330 = .ok (.lload 11, 2) := dk_lload 11 (b := 11) (by decide +kernel) (by decide +kernel) (by decide +kernel)
theorem dX12_measures_332 : decode cX12_measures 332 = .ok (.invokestatic 144, 3) := dk_invokestatic 144 (b1 := 0) (b2 := 144) (by decide +kernel) (by decide +kernel) (by decide +kernel) (by decide +kernel)
theorem dX12_measures_335 : decode cX12_measures 335 = .ok (.ifCond .eq 7, 3) := dk_ifCond_eq 7 (b1 := 0) (b2 := 7) (by decide +kernel) (by decide +kernel) (by decide +kernel) (by decide +kernel)
theorem dX12_measures_342 : decode cX12_measures 342 = .ok (.iconst 0, 1) := dk_iconst_0 (by decide +kernel)
theorem dX12_measures_298 : decode cX12_measures 298 = .ok (.lload 9, 2) := dk_lload 9 (b := 9) (by decide +kernel) (by decide +kernel) (by decide +kernel)
theorem dX12_measures_300 : decode cX12_measures 300 = .ok (.invokestatic 144, 3) := dk_invokestatic 144 (b1 := 0) (b2 := 144) (by decide +kernel) (by decide +kernel) (by decide +kernel) (by decide +kernel)
theorem dX12_measures_303 : decode cX12_measures 303 = .ok (.ifCond .ne 11, 3) := dk_ifCond_ne 11 (b1 := 0) (b2 := 11) (by decide +kernel) (by decide +kernel) (by decide +kernel) (by decide +kernel)
theorem dX12_measures_314 : decode cX12_measures 314 = .ok (.iconst 1, 1) := dk_iconst_1 (by decide +kernel)
theorem dX12_measures_315 : decode cX12_measures 315 = .ok (.goto 28, 3) := dk_goto 28 (b1 := 0) (b2 := 28) (by decide +kernel) (by decide +kernel) (by decide +kernel) (by decide +kernel)
theorem dX12_measures_306 : decode cX12_measures 306 = .ok (.lload 13, 2) := dk_lload 13 (b := 13) (by decide +kernel) (by decide +kernel) (by decide +kernel)
theorem dX12_measures_308 : decode cX12_measures 308 = .ok (.invokestatic 144, 3) := dk_invokestatic 144 (b1 := 0) (b2 := 144) (by decide +kernel) (by decide +kernel) (by decide +kernel) (by decide +kernel)
theorem dX12_measures_311 : decode cX12_measures 311 = .ok (.ifCond .eq 7, 3) := dk_ifCond_eq 7 (b1 := 0) (b2 := 7) (by decide +kernel) (by decide +kernel) (by decide +kernel) (by decide +kernel)
theorem dX12_measures_318 : decode cX12_measures 318 = .ok (.iconst 0, 1) := dk_iconst_0 (by decide +kernel)
theorem dX12_measures_319 : decode cX12_measures 319 = .ok (.goto 24, 3) := dk_goto 24 (b1 := 0) (b2 := 24) (by decide +kernel) (by decide +kernel) (by decide +kernel) (by decide +kernel)
theorem dX12_measures_213 : decode cX12_measures 213 = .ok (.aload_n 0, 1) := dk_aload_n_0 (by decide +kernel)
theorem dX12_measures_214 : decode cX12_measures 214 = .ok (.getfield 54, 3) := dk_getfield 54 (b1 := 0) (b2 := 54) (by decide +kernel) (by decide +kernel) (by decide +kernel) (by decide +kernel)
theorem dX12_measures_217 : decode cX12_measures 217 = .ok (.iload 4, 2) := dk_iload 4 (b := 4) (by decide +kernel) (by decide +kernel) (by decide +kernel)
theorem dX12_measures_219 : decode cX12_measures 219 = .ok (.iconst 1, 1) := dk_iconst_1 (by decide +kernel)
theorem dX12_measures_220 : decode cX12_measures 220 = .ok (.isub, 1) := dk_isub (by decide +kernel)
theorem dX12_measures_221 : decode cX12_measures 221 = .ok (.aload_n 0, 1) := dk_aload_n_0 (by decide +kernel)
theorem dX12_measures_222 : decode cX12_measures 222 = .ok (.getfield 54, 3) := dk_getfield 54 (b1 := 0) (b2 := 54) (by decide +kernel) (by decide +kernel) (by decide +kernel) (by decide +kernel)
theorem dX12_measures_225 : decode cX12_measures 225 = .ok (.iload 4, 2) := dk_iload 4 (b := 4) (by decide +kernel) (by decide +kernel) (by decide +kernel)
theorem dX12_measures_227 : decode cX12_measures 227 = .ok (.iconst 1, 1) := dk_iconst_1 (by decide +kernel)
theorem dX12_measures_228 : decode cX12_measures 228 = .ok (.isub, 1) := dk_isub (by decide +kernel)
theorem dX12_measures_229 : decode cX12_measures 229 = .ok (.laload, 1) := dk_laload (by decide +kernel)
theorem dX12_measures_230 : decode cX12_measures 230 = .ok (.lneg, 1) := dk_lneg (by decide +kernel)
theorem dX12_measures_231 : decode cX12_measures 231 = .ok (.lastore, 1) := dk_lastore (by decide +kernel)
theorem dX12_measures_232 : decode cX12_measures 232 = .ok (.aload_n 0, 1) := dk_aload_n_0 (by decide +kernel)
theorem dX12_measures_233 : decode cX12_measures 233 = .ok (.getfield 64, 3) := dk_getfield 64 (b1 := 0) (b2 := 64) (by decide +kernel) (by decide +kernel) (by decide +kernel) (by decide +kernel)
theorem dX12_measures_236 : decode cX12_measures 236 = .ok (.iload 4, 2) := dk_iload 4 (b := 4) (by decide +kernel) (by decide +kernel) (by decide +kernel)
theorem dX12_measures_238 : decode cX12_measures 238 = .ok (.iconst 1, 1) := dk_iconst_1 (by decide +kernel)
theorem dX12_measures_239 : decode cX12_measures 239 = .ok (.isub, 1) := dk_isub (by decide +kernel)
theorem dX12_measures_240 : decode cX12_measures 240 = .ok (.dup2, 1) := dk_dup2 (by decide +kernel)
theorem dX12_measures_241 : decode cX12_measures 241 = .ok (.iaload, 1) := dk_iaload (by decide +kernel)
theorem dX12_measures_242 : decode cX12_measures 242 = .ok (.iconst 1, 1) := dk_iconst_1 (by decide +kernel)
theorem dX12_measures_243 : decode cX12_measures 243 = .ok (.iadd, 1) := dk_iadd (by decide +kernel)
theorem dX12_measures_244 : decode cX12_measures 244 = .ok (.iastore, 1) := dk_iastore (by decide +kernel)
theorem dX12_measures_245 : decode cX12_measures 245 = .ok (.goto 260, 3) := dk_goto 260 (b1 := 1) (b2 := 4) (by decide +kernel) (by decide +kernel) (by decide +kernel) (by decide +kernel)
theorem dX12_measures_149 : decode cX12_measures 149 = .ok (.aload_n 0, 1) := dk_aload_n_0 (by decide +kernel)
theorem dX12_measures_150 : decode cX12_measures 150 = .ok (.getfield 54, 3) := dk_getfield 54 (b1 := 0) (b2 := 54) (by decide +kernel) (by decide +kernel) (by decide +kernel) (by decide +kernel)
theorem dX12_measures_153 : decode cX12_measures 153 = .ok (.iload 4, 2) := dk_iload 4 (b := 4) (by decide +kernel) (by decide +kernel) (by decide +kernel)
theorem dX12_measures_155 : decode cX12_measures 155 = .ok (.iconst 1, 1) := dk_iconst_1 (by decide +kernel)
theorem dX12_measures_156 : decode cX12_measures 156 = .ok (.isub, 1) := dk_isub (by decide +kernel)
theorem dX12_measures_157 : decode cX12_measures 157 = .ok (.laload, 1) := dk_laload (by decide +kernel)
theorem dX12_measures_158 : decode cX12_measures 158 = .ok (.lstore 7, 2) := dk_lstore 7 (b := 7) (by decide +kernel) (by decide +kernel) (by decide +kernel)
theorem dX12_measures_160 : decode cX12_measures 160 = .ok (.aload_n 0, 1) := dk_aload_n_0 (by decide +kernel)
theorem dX12_measures_161 : decode cX12_measures 161 = .ok (.getfield 54, 3) := dk_getfield 54 (b1 := 0) (b2 := 54) (by decide +kernel) (by decide +kernel) (by decide +kernel) (by decide +kernel)
theorem dX12_measures_164 : decode cX12_measures 164 = .ok (.iload 4, 2) := dk_iload 4 (b := 4) (by decide +kernel) (by decide +kernel) (by decide +kernel)
theorem dX12_measures_166 : decode cX12_measures 166 = .ok (.iconst 1, 1) := dk_iconst_1 (by decide +kernel)
theorem dX12_measures_167 : decode cX12_measures 167 = .ok (.isub, 1) := dk_isub (by decide +kernel)
theorem dX12_measures_168 : decode cX12_measures 168 = .ok (.aload_n 0, 1) := dk_aload_n_0 (by decide +kernel)
theorem dX12_measures_169 : decode cX12_measures 169 = .ok (.getfield 57, 3) := dk_getfield 57 (b1 := 0) (b2 := 57) (by decide +kernel) (by decide +kernel) (by decide +kernel) (by decide +kernel)
theorem dX12_measures_172 : decode cX12_measures 172 = .ok (.iload 4, 2) := dk_iload 4 (b := 4) (by decide +kernel) (by decide +kernel) (by decide +kernel)
theorem dX12_measures_174 : decode cX12_measures 174 = .ok (.iconst 1, 1) := dk_iconst_1 (by decide +kernel)
theorem dX12_measures_175 : decode cX12_measures 175 = .ok (.isub, 1) := dk_isub (by decide +kernel)
theorem dX12_measures_176 : decode cX12_measures 176 = .ok (.laload, 1) := dk_laload (by decide +kernel)
theorem dX12_measures_177 : decode cX12_measures 177 = .ok (.lneg, 1) := dk_lneg (by decide +kernel)
theorem dX12_measures_178 : decode cX12_measures 178 = .ok (.lastore, 1) := dk_lastore (by decide +kernel)
theorem dX12_measures_179 : decode cX12_measures 179 = .ok (.aload_n 0, 1) := dk_aload_n_0 (by decide +kernel)
theorem dX12_measures_180 : decode cX12_measures 180 = .ok (.getfield 57, 3) := dk_getfield 57 (b1 := 0) (b2 := 57) (by decide +kernel) (by decide +kernel) (by decide +kernel) (by decide +kernel)
theorem dX12_measures_183 : decode cX12_measures 183 = .ok (.iload 4, 2) := dk_iload 4 (b := 4) (by decide +kernel) (by decide +kernel) (by decide +kernel)
theorem dX12_measures_185 : decode cX12_measures 185 = .ok (.iconst 1, 1) := dk_iconst_1 (by decide +kernel)
theorem dX12_measures_186 : decode cX12_measures 186 = .ok (.isub, 1) := dk_isub (by decide +kernel)
theorem dX12_measures_187 : decode cX12_measures 187 = .ok (.lload 7, 2) := dk_lload 7 (b := 7) (by decide +kernel) (by decide +kernel) (by decide +kernel)
theorem dX12_measures_189 : decode cX12_measures 189 = .ok (.lastore, 1) := dk_lastore (by decide +kernel)
theorem dX12_measures_190 : decode cX12_measures 190 = .ok (.aload_n 0, 1) := dk_aload_n_0 (by decide +kernel)
theorem dX12_measures_191 : decode cX12_measures 191 = .ok (.getfield 64, 3) := dk_getfield 64 (b1 := 0) (b2 := 64) (by decide +kernel) (by decide +kernel) (by decide +kernel) (by decide +kernel)
theorem dX12_measures_194 : decode cX12_measures 194 = .ok (.iload 4, 2) := dk_iload 4 (b := 4) (by decide +kernel) (by decide +kernel) (by decide +kernel)
theorem dX12_measures_196 : decode cX12_measures 196 = .ok (.iconst 1, 1) := dk_iconst_1 (by decide +kernel)
theorem dX12_measures_197 : decode cX12_measures 197 = .ok (.isub, 1) := dk_isub (by decide +kernel)
theorem dX12_measures_198 : decode cX12_measures 198 = .ok (.dup2, 1) := dk_dup2 (by decide +kernel)
theorem dX12_measures_199 : decode cX12_measures 199 = .ok (.iaload, 1) := dk_iaload (by decide +kernel)
theorem dX12_measures_200 : decode cX12_measures 200 = .ok (.iconst 1, 1) := dk_iconst_1 (by decide +kernel)
theorem dX12_measures_201 : decode cX12_measures 201 = .ok (.iadd, 1) := dk_iadd (by decide +kernel)
theorem dX12_measures_202 : decode cX12_measures 202 = .ok (.iastore, 1) := dk_iastore (by decide +kernel)
theorem dX12_measures_203 : decode cX12_measures 203 = .ok (.goto 302, 3) := dk_goto 302 (b1 := 1) (b2 := 46) (by decide +kernel) (by decide +kernel) (by decide +kernel) (by decide +kernel)
theorem dX12_measures_37 : decode cX12_measures 37 = .ok (.aload_n 0, 1) := dk_aload_n_0 (by decide +kernel)
theorem dX12_measures_38 : decode cX12_measures 38 = .ok (.getfield 54, 3) := dk_getfield 54 (b1 := 0) (b2 := 54) (by decide +kernel) (by decide +kernel) (by decide +kernel) (by decide +kernel)
theorem dX12_measures_41 : decode cX12_measures 41 = .ok (.iload 4, 2) := dk_iload 4 (b := 4) (by decide +kernel) (by decide +kernel) (by decide +kernel)
theorem dX12_measures_43 : decode cX12_measures 43 = .ok (.iload 6, 2) := dk_iload 6 (b := 6) (by decide +kernel) (by decide +kernel) (by decide +kernel)
theorem dX12_measures_45 : decode cX12_measures 45 = .ok (.bipush 10, 2) := dk_bipush 10 (b := 10) (by decide +kernel) (by decide +kernel) (by decide +kernel)
theorem dX12_measures_47 : decode cX12_measures 47 = .ok (.if_icmp .ne 7, 3) := dk_if_icmp_ne 7 (b1 := 0) (b2 := 7) (by decide +kernel) (by decide +kernel) (by decide +kernel) (by decide +kernel)
theorem dX12_measures_54 : decode cX12_measures 54 = .ok (.iload 6, 2) := dk_iload 6 (b := 6) (by decide +kernel) (by decide +kernel) (by decide +kernel)
theorem dX12_measures_56 : decode cX12_measures 56 = .ok (.i2l, 1) := dk_i2l (by decide +kernel)
theorem dX12_measures_50 : decode cX12_measures 50 = .ok (.lconst 1, 1) := dk_lconst_1 (by decide +kernel)
theorem dX12_measures_51 : decode cX12_measures 51 = .ok (.goto 6, 3) := dk_goto 6 (b1 := 0) (b2 := 6) (by decide +kernel) (by decide +kernel) (by decide +kernel) (by decide +kernel)
set_option maxRecDepth 20000 in
theorem vX12_measures_16 {E : sm_E} {L : sm_S → Prop} {d : Nat} {vs : List Value} {a1 : Nat} {x2 : Int32} {x3 : Int32} {x4 : Int32} {x5 : Int32} {na1 : Nat} {m : sm_M} {Q : sm_M → Prop} (hly : ∀ S, L S → ly S) (hd : 2 ≤ d) (hTa1 : ∀ S, L S → sm_K S a1 = 11 ∧ sm_N S a1 = na1)
  (h : ((x2 + x3) ≤ x5 →
      ∀ m_1 : sm_M, m_1 = sm_wJ m 109 23 (m.2.1 123 (0 : Int32).toNatClampNeg) →
      ∀ m_2 : sm_M, m_2 = sm_wJ m_1 109 24 (m_1.2.1 124 (0 : Int32).toNatClampNeg) →
      ((m_2.1 125 (0 : Int32).toNatClampNeg) = 0 ∨ (m_2.1 125 (0 : Int32).toNatClampNeg) = 1) ∧ ∀ m_3 : sm_M, m_3 = sm_wI m_2 109 25 (m_2.1 125 (0 : Int32).toNatClampNeg) →
      ∀ m_5 : sm_M, m_5 = sm_wI m_3 109 28 (m_3.1 126 (0 : Int32).toNatClampNeg) →
      Q m_5) ∧
   (¬ (x2 + x3) ≤ x5 →
      (vp_in x5 na1) ∧ ∀ x6_7 : Int32, x6_7 = m.1 a1 x5.toNatClampNeg →
      (10 < x6_7 →
         (¬ x6_7 = 22 →
            (¬ x6_7 = 23 →
               ∀ x4_8 : Int32, x4_8 = x4 + (-1) →
               (vp_in (x4_8 - 1) 200) ∧ ∀ x7_10 : Int64, x7_10 = m.2.1 123 (x4_8 - 1).toNatClampNeg →
               (vp_in (x4_8 - 1) 200) ∧ ∀ x9_12 : Int64, x9_12 = m.2.1 124 (x4_8 - 1).toNatClampNeg →
               (vp_in x4_8 200) ∧ ∀ x11_14 : Int64, x11_14 = m.2.1 123 x4_8.toNatClampNeg →
               (vp_in x4_8 200) ∧ ∀ x13_16 : Int64, x13_16 = m.2.1 124 x4_8.toNatClampNeg →
               (¬ x6_7 = 20 →
                  sm_callI E L mX12_isUnit 1 0 0 [.long x7_10] m (fun r_18 m_17 =>
                  (¬ r_18 = 0 →
                     gX12_measures_343 E L d vs a1 x2 x3 x4_8 x5 x6_7 x7_10 x9_12 x11_14 x13_16 1 m_17 Q) ∧
                  (r_18 = 0 →
                     sm_callI E L mX12_isUnit 1 0 0 [.long x11_14] m_17 (fun r_20 m_19 =>
                     (r_20 = 0 →
                        gX12_measures_343 E L d vs a1 x2 x3 x4_8 x5 x6_7 x7_10 x9_12 x11_14 x13_16 0 m_19 Q) ∧
                     (¬ r_20 = 0 →
                        gX12_measures_343 E L d vs a1 x2 x3 x4_8 x5 x6_7 x7_10 x9_12 x11_14 x13_16 1 m_19 Q))))) ∧
               (x6_7 = 20 →
                  sm_callI E L mX12_isUnit 1 0 0 [.long x9_12] m (fun r_22 m_21 =>
                  (¬ r_22 = 0 →
                     gX12_measures_343 E L d vs a1 x2 x3 x4_8 x5 x6_7 x7_10 x9_12 x11_14 x13_16 1 m_21 Q) ∧
                  (r_22 = 0 →
                     sm_callI E L mX12_isUnit 1 0 0 [.long x13_16] m_21 (fun r_24 m_23 =>
                     (r_24 = 0 →
                        gX12_measures_343 E L d vs a1 x2 x3 x4_8 x5 x6_7 x7_10 x9_12 x11_14 x13_16 0 m_23 Q) ∧
                     (¬ r_24 = 0 →
                        gX12_measures_343 E L d vs a1 x2 x3 x4_8 x5 x6_7 x7_10 x9_12 x11_14 x13_16 1 m_23 Q)))))) ∧
            (x6_7 = 23 →
               (vp_in (x4 - 1) 200) ∧ (vp_in (x4 - 1) 200) ∧ ∀ m_26 : sm_M, m_26 = sm_wJ m 123 (x4 - 1).toNatClampNeg (-(m.2.1 123 (x4 - 1).toNatClampNeg)) →
               (vp_in (x4 - 1) 200) ∧ (vp_in (x4 - 1) 200) ∧ ∀ m_29 : sm_M, m_29 = sm_wI m_26 126 (x4 - 1).toNatClampNeg ((m_26.1 126 (x4 - 1).toNatClampNeg) + 1) →
               ∀ x5_31 : Int32, x5_31 = x5 + 1 →
               gX12_measures_16 E L d vs a1 x2 x3 x4 x5_31 m_29 Q)) ∧
         (x6_7 = 22 →
            (vp_in (x4 - 1) 200) ∧ ∀ x7_33 : Int64, x7_33 = m.2.1 123 (x4 - 1).toNatClampNeg →
            (vp_in (x4 - 1) 200) ∧ (vp_in (x4 - 1) 200) ∧ ∀ m_35 : sm_M, m_35 = sm_wJ m 123 (x4 - 1).toNatClampNeg (-(m.2.1 124 (x4 - 1).toNatClampNeg)) →
            (vp_in (x4 - 1) 200) ∧ ∀ m_37 : sm_M, m_37 = sm_wJ m_35 124 (x4 - 1).toNatClampNeg x7_33 →
            (vp_in (x4 - 1) 200) ∧ (vp_in (x4 - 1) 200) ∧ ∀ m_40 : sm_M, m_40 = sm_wI m_37 126 (x4 - 1).toNatClampNeg ((m_37.1 126 (x4 - 1).toNatClampNeg) + 1) →
            ∀ x5_42 : Int32, x5_42 = x5 + 1 →
            gX12_measures_16 E L d vs a1 x2 x3 x4 x5_42 m_40 Q)) ∧
      (¬ 10 < x6_7 →
         (¬ x6_7 = 10 →
            gX12_measures_57 E L d vs a1 x2 x3 x4 x5 x6_7 x4 (x6_7.toInt64) m Q) ∧
         (x6_7 = 10 →
            gX12_measures_57 E L d vs a1 x2 x3 x4 x5 x6_7 x4 1 m Q)))) :
  gX12_measures_16 E L d vs a1 x2 x3 x4 x5 m Q := by
  refine sm_iload (Y := mX12_measures) (pc := 16) 5 5 rfl dX12_measures_16 ?_
  refine sm_iload_n (Y := mX12_measures) (pc := 18) 2 2 rfl rfl dX12_measures_18 ?_
  refine sm_iload_n (Y := mX12_measures) (pc := 19) 3 3 rfl rfl dX12_measures_19 ?_
  refine sm_iadd (Y := mX12_measures) (pc := 20) dX12_measures_20 ?_
  refine sm_icmp_ge (Y := mX12_measures) (pc := 21) 511 (by decide) dX12_measures_21 (fun hc => ?_) (fun hc => ?_)
  · replace h := h.1 hc
    refine sm_aload_n (Y := mX12_measures) (pc := 511) 0 0 rfl rfl dX12_measures_511 ?_
    refine sm_aload_n (Y := mX12_measures) (pc := 512) 0 0 rfl rfl dX12_measures_512 ?_
    refine gf_RX12_54 (Y := mX12_measures) (pc := 513) (b := 123) rfl ((lk_109 hly) _) (lf_109_19 hly _) dX12_measures_513 ?_
    refine sm_iconst (Y := mX12_measures) (pc := 516) 0 (by decide) dX12_measures_516 ?_
    refine sm_lald (Y := mX12_measures) (pc := 517) (la_123 hly _) (sm_lin (by decide)) dX12_measures_517 ?_
    refine pf_RX12_148 (Y := mX12_measures) (pc := 518) rfl ((lk_109 hly) _) dX12_measures_518 (fun m_1 em_1 => ?_)
    replace h := h m_1 em_1
    refine sm_aload_n (Y := mX12_measures) (pc := 521) 0 0 rfl rfl dX12_measures_521 ?_
    refine sm_aload_n (Y := mX12_measures) (pc := 522) 0 0 rfl rfl dX12_measures_522 ?_
    refine gf_RX12_57 (Y := mX12_measures) (pc := 523) (b := 124) rfl ((lk_109 hly) _) (lf_109_20 hly _) dX12_measures_523 ?_
    refine sm_iconst (Y := mX12_measures) (pc := 526) 0 (by decide) dX12_measures_526 ?_
    refine sm_lald (Y := mX12_measures) (pc := 527) (la_124 hly _) (sm_lin (by decide)) dX12_measures_527 ?_
    refine pf_RX12_152 (Y := mX12_measures) (pc := 528) rfl ((lk_109 hly) _) dX12_measures_528 (fun m_2 em_2 => ?_)
    replace h := h m_2 em_2
    refine sm_aload_n (Y := mX12_measures) (pc := 531) 0 0 rfl rfl dX12_measures_531 ?_
    refine sm_aload_n (Y := mX12_measures) (pc := 532) 0 0 rfl rfl dX12_measures_532 ?_
    refine gf_RX12_60 (Y := mX12_measures) (pc := 533) (b := 125) rfl ((lk_109 hly) _) (lf_109_21 hly _) dX12_measures_533 ?_
    refine sm_iconst (Y := mX12_measures) (pc := 536) 0 (by decide) dX12_measures_536 ?_
    refine sm_zald (Y := mX12_measures) (pc := 537) (la_125 hly _) (sm_lin (by decide)) dX12_measures_537 ?_
    obtain ⟨hn_4, h⟩ := h
    refine pf_RX12_155 (Y := mX12_measures) (pc := 538) rfl hn_4 ((lk_109 hly) _) dX12_measures_538 (fun m_3 em_3 => ?_)
    replace h := h m_3 em_3
    refine sm_aload_n (Y := mX12_measures) (pc := 541) 0 0 rfl rfl dX12_measures_541 ?_
    refine sm_aload_n (Y := mX12_measures) (pc := 542) 0 0 rfl rfl dX12_measures_542 ?_
    refine gf_RX12_64 (Y := mX12_measures) (pc := 543) (b := 126) rfl ((lk_109 hly) _) (lf_109_22 hly _) dX12_measures_543 ?_
    refine sm_iconst (Y := mX12_measures) (pc := 546) 0 (by decide) dX12_measures_546 ?_
    refine sm_iald (Y := mX12_measures) (pc := 547) (la_126 hly _) (sm_lin (by decide)) dX12_measures_547 ?_
    refine pf_RX12_159 (Y := mX12_measures) (pc := 548) rfl ((lk_109 hly) _) dX12_measures_548 (fun m_5 em_5 => ?_)
    replace h := h m_5 em_5
    exact sm_vret (Y := mX12_measures) (pc := 551) rfl rfl rfl dX12_measures_551 ⟨rfl, h⟩
  · replace h := h.2 hc
    refine sm_aload_n (Y := mX12_measures) (pc := 24) 1 1 rfl rfl dX12_measures_24 ?_
    refine sm_iload (Y := mX12_measures) (pc := 25) 5 5 rfl dX12_measures_25 ?_
    obtain ⟨hn_6, h⟩ := h
    refine sm_iald (Y := mX12_measures) (pc := 27) (fun hS => hTa1 _ hS) hn_6 dX12_measures_27 ?_
    refine sm_istore (Y := mX12_measures) (pc := 28) (fun y => [(6, .int y), (0, .ref (sm_B E + 109)), (1, .ref (sm_B E + a1)), (2, .int x2), (3, .int x3), (4, .int x4), (5, .int x5)]) 6 (by decide) (fun _ => rfl) dX12_measures_28 (fun x6_7 ex6_7 => ?_)
    replace h := h x6_7 ex6_7
    refine sm_iload (Y := mX12_measures) (pc := 30) 0 6 rfl dX12_measures_30 ?_
    refine sm_bipush (Y := mX12_measures) (pc := 32) 10 (by decide) dX12_measures_32 ?_
    refine sm_icmp_gt (Y := mX12_measures) (pc := 34) 142 (by decide) dX12_measures_34 (fun hc => ?_) (fun hc => ?_)
    · replace h := h.1 hc
      refine sm_iload (Y := mX12_measures) (pc := 142) 0 6 rfl dX12_measures_142 ?_
      refine sm_bipush (Y := mX12_measures) (pc := 144) 22 (by decide) dX12_measures_144 ?_
      refine sm_icmp_ne (Y := mX12_measures) (pc := 146) 206 (by decide) dX12_measures_146 (fun hc => ?_) (fun hc => ?_)
      · replace h := h.1 hc
        refine sm_iload (Y := mX12_measures) (pc := 206) 0 6 rfl dX12_measures_206 ?_
        refine sm_bipush (Y := mX12_measures) (pc := 208) 23 (by decide) dX12_measures_208 ?_
        refine sm_icmp_ne (Y := mX12_measures) (pc := 210) 248 (by decide) dX12_measures_210 (fun hc => ?_) (fun hc => ?_)
        · replace h := h.1 hc
          refine sm_iinc (Y := mX12_measures) (pc := 248) (fun y => [(4, .int y), (6, .int x6_7), (0, .ref (sm_B E + 109)), (1, .ref (sm_B E + a1)), (2, .int x2), (3, .int x3), (5, .int x5)]) 5 4 rfl (by decide) (fun _ => rfl) dX12_measures_248 (fun x4_8 ex4_8 => ?_)
          replace h := h x4_8 ex4_8
          refine sm_aload_n (Y := mX12_measures) (pc := 251) 2 0 rfl rfl dX12_measures_251 ?_
          refine gf_RX12_54 (Y := mX12_measures) (pc := 252) (b := 123) rfl ((lk_109 hly) _) (lf_109_19 hly _) dX12_measures_252 ?_
          refine sm_iload (Y := mX12_measures) (pc := 255) 0 4 rfl dX12_measures_255 ?_
          refine sm_iconst (Y := mX12_measures) (pc := 257) 1 (by decide) dX12_measures_257 ?_
          refine sm_isub (Y := mX12_measures) (pc := 258) dX12_measures_258 ?_
          obtain ⟨hn_9, h⟩ := h
          refine sm_lald (Y := mX12_measures) (pc := 259) (la_123 hly _) hn_9 dX12_measures_259 ?_
          refine sm_lstore (Y := mX12_measures) (pc := 260) (fun y => [(7, .long y), (4, .int x4_8), (6, .int x6_7), (0, .ref (sm_B E + 109)), (1, .ref (sm_B E + a1)), (2, .int x2), (3, .int x3), (5, .int x5)]) 7 (by decide) (fun _ => rfl) dX12_measures_260 (fun x7_10 ex7_10 => ?_)
          replace h := h x7_10 ex7_10
          refine sm_aload_n (Y := mX12_measures) (pc := 262) 3 0 rfl rfl dX12_measures_262 ?_
          refine gf_RX12_57 (Y := mX12_measures) (pc := 263) (b := 124) rfl ((lk_109 hly) _) (lf_109_20 hly _) dX12_measures_263 ?_
          refine sm_iload (Y := mX12_measures) (pc := 266) 1 4 rfl dX12_measures_266 ?_
          refine sm_iconst (Y := mX12_measures) (pc := 268) 1 (by decide) dX12_measures_268 ?_
          refine sm_isub (Y := mX12_measures) (pc := 269) dX12_measures_269 ?_
          obtain ⟨hn_11, h⟩ := h
          refine sm_lald (Y := mX12_measures) (pc := 270) (la_124 hly _) hn_11 dX12_measures_270 ?_
          refine sm_lstore (Y := mX12_measures) (pc := 271) (fun y => [(9, .long y), (7, .long x7_10), (4, .int x4_8), (6, .int x6_7), (0, .ref (sm_B E + 109)), (1, .ref (sm_B E + a1)), (2, .int x2), (3, .int x3), (5, .int x5)]) 9 (by decide) (fun _ => rfl) dX12_measures_271 (fun x9_12 ex9_12 => ?_)
          replace h := h x9_12 ex9_12
          refine sm_aload_n (Y := mX12_measures) (pc := 273) 4 0 rfl rfl dX12_measures_273 ?_
          refine gf_RX12_54 (Y := mX12_measures) (pc := 274) (b := 123) rfl ((lk_109 hly) _) (lf_109_19 hly _) dX12_measures_274 ?_
          refine sm_iload (Y := mX12_measures) (pc := 277) 2 4 rfl dX12_measures_277 ?_
          obtain ⟨hn_13, h⟩ := h
          refine sm_lald (Y := mX12_measures) (pc := 279) (la_123 hly _) hn_13 dX12_measures_279 ?_
          refine sm_lstore (Y := mX12_measures) (pc := 280) (fun y => [(11, .long y), (9, .long x9_12), (7, .long x7_10), (4, .int x4_8), (6, .int x6_7), (0, .ref (sm_B E + 109)), (1, .ref (sm_B E + a1)), (2, .int x2), (3, .int x3), (5, .int x5)]) 11 (by decide) (fun _ => rfl) dX12_measures_280 (fun x11_14 ex11_14 => ?_)
          replace h := h x11_14 ex11_14
          refine sm_aload_n (Y := mX12_measures) (pc := 282) 5 0 rfl rfl dX12_measures_282 ?_
          refine gf_RX12_57 (Y := mX12_measures) (pc := 283) (b := 124) rfl ((lk_109 hly) _) (lf_109_20 hly _) dX12_measures_283 ?_
          refine sm_iload (Y := mX12_measures) (pc := 286) 3 4 rfl dX12_measures_286 ?_
          obtain ⟨hn_15, h⟩ := h
          refine sm_lald (Y := mX12_measures) (pc := 288) (la_124 hly _) hn_15 dX12_measures_288 ?_
          refine sm_lstore (Y := mX12_measures) (pc := 289) (fun y => [(13, .long y), (11, .long x11_14), (9, .long x9_12), (7, .long x7_10), (4, .int x4_8), (6, .int x6_7), (0, .ref (sm_B E + 109)), (1, .ref (sm_B E + a1)), (2, .int x2), (3, .int x3), (5, .int x5)]) 13 (by decide) (fun _ => rfl) dX12_measures_289 (fun x13_16 ex13_16 => ?_)
          replace h := h x13_16 ex13_16
          refine sm_iload (Y := mX12_measures) (pc := 291) 5 6 rfl dX12_measures_291 ?_
          refine sm_bipush (Y := mX12_measures) (pc := 293) 20 (by decide) dX12_measures_293 ?_
          refine sm_icmp_ne (Y := mX12_measures) (pc := 295) 322 (by decide) dX12_measures_295 (fun hc => ?_) (fun hc => ?_)
          · replace h := h.1 hc
            refine sm_lload (Y := mX12_measures) (pc := 322) 3 7 rfl dX12_measures_322 ?_
            refine sm_is_I (Y := mX12_measures) (pc := 324) (As := [.long x7_10]) fX12_isUnit wRX12_144 rfl (Nat.le_trans (by decide) hd) (Nat.le_of_ble_eq_true rfl) ⟨Nat.le_refl _, Nat.le_refl _⟩ dX12_measures_324 rfl (sm_monoI h (fun r_18 m_17 h => ?_))
            refine sm_if_ne (Y := mX12_measures) (pc := 327) 338 (by decide) dX12_measures_327 (fun hc => ?_) (fun hc => ?_)
            · replace h := h.1 hc
              refine sm_iconst (Y := mX12_measures) (pc := 338) 1 (by decide) dX12_measures_338 ?_
              refine sm_goto (Y := mX12_measures) (pc := 339) 343 (by decide) dX12_measures_339 ?_
              refine sm_sub [6, 7, 8, 9, 4, 10, 5, 3, 2, 1, 0] rfl ?_
              exact h
            · replace h := h.2 hc
              refine sm_lload (Y := mX12_measures) (pc := 330) 1 11 rfl dX12_measures_330 ?_
              refine sm_is_I (Y := mX12_measures) (pc := 332) (As := [.long x11_14]) fX12_isUnit wRX12_144 rfl (Nat.le_trans (by decide) hd) (Nat.le_of_ble_eq_true rfl) ⟨Nat.le_refl _, Nat.le_refl _⟩ dX12_measures_332 rfl (sm_monoI h (fun r_20 m_19 h => ?_))
              refine sm_if_eq (Y := mX12_measures) (pc := 335) 342 (by decide) dX12_measures_335 (fun hc => ?_) (fun hc => ?_)
              · replace h := h.1 hc
                refine sm_iconst (Y := mX12_measures) (pc := 342) 0 (by decide) dX12_measures_342 ?_
                refine sm_sub [6, 7, 8, 9, 4, 10, 5, 3, 2, 1, 0] rfl ?_
                exact h
              · replace h := h.2 hc
                refine sm_iconst (Y := mX12_measures) (pc := 338) 1 (by decide) dX12_measures_338 ?_
                refine sm_goto (Y := mX12_measures) (pc := 339) 343 (by decide) dX12_measures_339 ?_
                refine sm_sub [6, 7, 8, 9, 4, 10, 5, 3, 2, 1, 0] rfl ?_
                exact h
          · replace h := h.2 hc
            refine sm_lload (Y := mX12_measures) (pc := 298) 2 9 rfl dX12_measures_298 ?_
            refine sm_is_I (Y := mX12_measures) (pc := 300) (As := [.long x9_12]) fX12_isUnit wRX12_144 rfl (Nat.le_trans (by decide) hd) (Nat.le_of_ble_eq_true rfl) ⟨Nat.le_refl _, Nat.le_refl _⟩ dX12_measures_300 rfl (sm_monoI h (fun r_22 m_21 h => ?_))
            refine sm_if_ne (Y := mX12_measures) (pc := 303) 314 (by decide) dX12_measures_303 (fun hc => ?_) (fun hc => ?_)
            · replace h := h.1 hc
              refine sm_iconst (Y := mX12_measures) (pc := 314) 1 (by decide) dX12_measures_314 ?_
              refine sm_goto (Y := mX12_measures) (pc := 315) 343 (by decide) dX12_measures_315 ?_
              refine sm_sub [6, 7, 8, 9, 4, 10, 5, 3, 2, 1, 0] rfl ?_
              exact h
            · replace h := h.2 hc
              refine sm_lload (Y := mX12_measures) (pc := 306) 0 13 rfl dX12_measures_306 ?_
              refine sm_is_I (Y := mX12_measures) (pc := 308) (As := [.long x13_16]) fX12_isUnit wRX12_144 rfl (Nat.le_trans (by decide) hd) (Nat.le_of_ble_eq_true rfl) ⟨Nat.le_refl _, Nat.le_refl _⟩ dX12_measures_308 rfl (sm_monoI h (fun r_24 m_23 h => ?_))
              refine sm_if_eq (Y := mX12_measures) (pc := 311) 318 (by decide) dX12_measures_311 (fun hc => ?_) (fun hc => ?_)
              · replace h := h.1 hc
                refine sm_iconst (Y := mX12_measures) (pc := 318) 0 (by decide) dX12_measures_318 ?_
                refine sm_goto (Y := mX12_measures) (pc := 319) 343 (by decide) dX12_measures_319 ?_
                refine sm_sub [6, 7, 8, 9, 4, 10, 5, 3, 2, 1, 0] rfl ?_
                exact h
              · replace h := h.2 hc
                refine sm_iconst (Y := mX12_measures) (pc := 314) 1 (by decide) dX12_measures_314 ?_
                refine sm_goto (Y := mX12_measures) (pc := 315) 343 (by decide) dX12_measures_315 ?_
                refine sm_sub [6, 7, 8, 9, 4, 10, 5, 3, 2, 1, 0] rfl ?_
                exact h
        · replace h := h.2 hc
          refine sm_aload_n (Y := mX12_measures) (pc := 213) 1 0 rfl rfl dX12_measures_213 ?_
          refine gf_RX12_54 (Y := mX12_measures) (pc := 214) (b := 123) rfl ((lk_109 hly) _) (lf_109_19 hly _) dX12_measures_214 ?_
          refine sm_iload (Y := mX12_measures) (pc := 217) 5 4 rfl dX12_measures_217 ?_
          refine sm_iconst (Y := mX12_measures) (pc := 219) 1 (by decide) dX12_measures_219 ?_
          refine sm_isub (Y := mX12_measures) (pc := 220) dX12_measures_220 ?_
          refine sm_aload_n (Y := mX12_measures) (pc := 221) 1 0 rfl rfl dX12_measures_221 ?_
          refine gf_RX12_54 (Y := mX12_measures) (pc := 222) (b := 123) rfl ((lk_109 hly) _) (lf_109_19 hly _) dX12_measures_222 ?_
          refine sm_iload (Y := mX12_measures) (pc := 225) 5 4 rfl dX12_measures_225 ?_
          refine sm_iconst (Y := mX12_measures) (pc := 227) 1 (by decide) dX12_measures_227 ?_
          refine sm_isub (Y := mX12_measures) (pc := 228) dX12_measures_228 ?_
          obtain ⟨hn_25, h⟩ := h
          refine sm_lald (Y := mX12_measures) (pc := 229) (la_123 hly _) hn_25 dX12_measures_229 ?_
          refine sm_lneg (Y := mX12_measures) (pc := 230) dX12_measures_230 ?_
          obtain ⟨hn_27, h⟩ := h
          refine sm_last (Y := mX12_measures) (pc := 231) (la_123 hly _) hn_27 dX12_measures_231 (fun m_26 em_26 => ?_)
          replace h := h m_26 em_26
          refine sm_aload_n (Y := mX12_measures) (pc := 232) 1 0 rfl rfl dX12_measures_232 ?_
          refine gf_RX12_64 (Y := mX12_measures) (pc := 233) (b := 126) rfl ((lk_109 hly) _) (lf_109_22 hly _) dX12_measures_233 ?_
          refine sm_iload (Y := mX12_measures) (pc := 236) 5 4 rfl dX12_measures_236 ?_
          refine sm_iconst (Y := mX12_measures) (pc := 238) 1 (by decide) dX12_measures_238 ?_
          refine sm_isub (Y := mX12_measures) (pc := 239) dX12_measures_239 ?_
          refine sm_dup2_11 (Y := mX12_measures) (pc := 240) rfl rfl dX12_measures_240 ?_
          obtain ⟨hn_28, h⟩ := h
          refine sm_iald (Y := mX12_measures) (pc := 241) (la_126 hly _) hn_28 dX12_measures_241 ?_
          refine sm_iconst (Y := mX12_measures) (pc := 242) 1 (by decide) dX12_measures_242 ?_
          refine sm_iadd (Y := mX12_measures) (pc := 243) dX12_measures_243 ?_
          obtain ⟨hn_30, h⟩ := h
          refine sm_iast (Y := mX12_measures) (pc := 244) (la_126 hly _) hn_30 dX12_measures_244 (fun m_29 em_29 => ?_)
          replace h := h m_29 em_29
          refine sm_goto (Y := mX12_measures) (pc := 245) 505 (by decide) dX12_measures_245 ?_
          refine sm_iinc (Y := mX12_measures) (pc := 505) (fun y => [(5, .int y), (6, .int x6_7), (0, .ref (sm_B E + 109)), (1, .ref (sm_B E + a1)), (2, .int x2), (3, .int x3), (4, .int x4)]) 6 5 rfl (by decide) (fun _ => rfl) dX12_measures_505 (fun x5_31 ex5_31 => ?_)
          replace h := h x5_31 ex5_31
          refine sm_goto (Y := mX12_measures) (pc := 508) 16 (by decide) dX12_measures_508 ?_
          refine sm_sub [2, 3, 4, 5, 6, 0] rfl ?_
          exact h
      · replace h := h.2 hc
        refine sm_aload_n (Y := mX12_measures) (pc := 149) 1 0 rfl rfl dX12_measures_149 ?_
        refine gf_RX12_54 (Y := mX12_measures) (pc := 150) (b := 123) rfl ((lk_109 hly) _) (lf_109_19 hly _) dX12_measures_150 ?_
        refine sm_iload (Y := mX12_measures) (pc := 153) 5 4 rfl dX12_measures_153 ?_
        refine sm_iconst (Y := mX12_measures) (pc := 155) 1 (by decide) dX12_measures_155 ?_
        refine sm_isub (Y := mX12_measures) (pc := 156) dX12_measures_156 ?_
        obtain ⟨hn_32, h⟩ := h
        refine sm_lald (Y := mX12_measures) (pc := 157) (la_123 hly _) hn_32 dX12_measures_157 ?_
        refine sm_lstore (Y := mX12_measures) (pc := 158) (fun y => [(7, .long y), (6, .int x6_7), (0, .ref (sm_B E + 109)), (1, .ref (sm_B E + a1)), (2, .int x2), (3, .int x3), (4, .int x4), (5, .int x5)]) 7 (by decide) (fun _ => rfl) dX12_measures_158 (fun x7_33 ex7_33 => ?_)
        replace h := h x7_33 ex7_33
        refine sm_aload_n (Y := mX12_measures) (pc := 160) 2 0 rfl rfl dX12_measures_160 ?_
        refine gf_RX12_54 (Y := mX12_measures) (pc := 161) (b := 123) rfl ((lk_109 hly) _) (lf_109_19 hly _) dX12_measures_161 ?_
        refine sm_iload (Y := mX12_measures) (pc := 164) 6 4 rfl dX12_measures_164 ?_
        refine sm_iconst (Y := mX12_measures) (pc := 166) 1 (by decide) dX12_measures_166 ?_
        refine sm_isub (Y := mX12_measures) (pc := 167) dX12_measures_167 ?_
        refine sm_aload_n (Y := mX12_measures) (pc := 168) 2 0 rfl rfl dX12_measures_168 ?_
        refine gf_RX12_57 (Y := mX12_measures) (pc := 169) (b := 124) rfl ((lk_109 hly) _) (lf_109_20 hly _) dX12_measures_169 ?_
        refine sm_iload (Y := mX12_measures) (pc := 172) 6 4 rfl dX12_measures_172 ?_
        refine sm_iconst (Y := mX12_measures) (pc := 174) 1 (by decide) dX12_measures_174 ?_
        refine sm_isub (Y := mX12_measures) (pc := 175) dX12_measures_175 ?_
        obtain ⟨hn_34, h⟩ := h
        refine sm_lald (Y := mX12_measures) (pc := 176) (la_124 hly _) hn_34 dX12_measures_176 ?_
        refine sm_lneg (Y := mX12_measures) (pc := 177) dX12_measures_177 ?_
        obtain ⟨hn_36, h⟩ := h
        refine sm_last (Y := mX12_measures) (pc := 178) (la_123 hly _) hn_36 dX12_measures_178 (fun m_35 em_35 => ?_)
        replace h := h m_35 em_35
        refine sm_aload_n (Y := mX12_measures) (pc := 179) 2 0 rfl rfl dX12_measures_179 ?_
        refine gf_RX12_57 (Y := mX12_measures) (pc := 180) (b := 124) rfl ((lk_109 hly) _) (lf_109_20 hly _) dX12_measures_180 ?_
        refine sm_iload (Y := mX12_measures) (pc := 183) 6 4 rfl dX12_measures_183 ?_
        refine sm_iconst (Y := mX12_measures) (pc := 185) 1 (by decide) dX12_measures_185 ?_
        refine sm_isub (Y := mX12_measures) (pc := 186) dX12_measures_186 ?_
        refine sm_lload (Y := mX12_measures) (pc := 187) 0 7 rfl dX12_measures_187 ?_
        obtain ⟨hn_38, h⟩ := h
        refine sm_last (Y := mX12_measures) (pc := 189) (la_124 hly _) hn_38 dX12_measures_189 (fun m_37 em_37 => ?_)
        replace h := h m_37 em_37
        refine sm_aload_n (Y := mX12_measures) (pc := 190) 2 0 rfl rfl dX12_measures_190 ?_
        refine gf_RX12_64 (Y := mX12_measures) (pc := 191) (b := 126) rfl ((lk_109 hly) _) (lf_109_22 hly _) dX12_measures_191 ?_
        refine sm_iload (Y := mX12_measures) (pc := 194) 6 4 rfl dX12_measures_194 ?_
        refine sm_iconst (Y := mX12_measures) (pc := 196) 1 (by decide) dX12_measures_196 ?_
        refine sm_isub (Y := mX12_measures) (pc := 197) dX12_measures_197 ?_
        refine sm_dup2_11 (Y := mX12_measures) (pc := 198) rfl rfl dX12_measures_198 ?_
        obtain ⟨hn_39, h⟩ := h
        refine sm_iald (Y := mX12_measures) (pc := 199) (la_126 hly _) hn_39 dX12_measures_199 ?_
        refine sm_iconst (Y := mX12_measures) (pc := 200) 1 (by decide) dX12_measures_200 ?_
        refine sm_iadd (Y := mX12_measures) (pc := 201) dX12_measures_201 ?_
        obtain ⟨hn_41, h⟩ := h
        refine sm_iast (Y := mX12_measures) (pc := 202) (la_126 hly _) hn_41 dX12_measures_202 (fun m_40 em_40 => ?_)
        replace h := h m_40 em_40
        refine sm_goto (Y := mX12_measures) (pc := 203) 505 (by decide) dX12_measures_203 ?_
        refine sm_iinc (Y := mX12_measures) (pc := 505) (fun y => [(5, .int y), (7, .long x7_33), (6, .int x6_7), (0, .ref (sm_B E + 109)), (1, .ref (sm_B E + a1)), (2, .int x2), (3, .int x3), (4, .int x4)]) 7 5 rfl (by decide) (fun _ => rfl) dX12_measures_505 (fun x5_42 ex5_42 => ?_)
        replace h := h x5_42 ex5_42
        refine sm_goto (Y := mX12_measures) (pc := 508) 16 (by decide) dX12_measures_508 ?_
        refine sm_sub [3, 4, 5, 6, 7, 0] rfl ?_
        exact h
    · replace h := h.2 hc
      refine sm_aload_n (Y := mX12_measures) (pc := 37) 1 0 rfl rfl dX12_measures_37 ?_
      refine gf_RX12_54 (Y := mX12_measures) (pc := 38) (b := 123) rfl ((lk_109 hly) _) (lf_109_19 hly _) dX12_measures_38 ?_
      refine sm_iload (Y := mX12_measures) (pc := 41) 5 4 rfl dX12_measures_41 ?_
      refine sm_iload (Y := mX12_measures) (pc := 43) 0 6 rfl dX12_measures_43 ?_
      refine sm_bipush (Y := mX12_measures) (pc := 45) 10 (by decide) dX12_measures_45 ?_
      refine sm_icmp_ne (Y := mX12_measures) (pc := 47) 54 (by decide) dX12_measures_47 (fun hc => ?_) (fun hc => ?_)
      · replace h := h.1 hc
        refine sm_iload (Y := mX12_measures) (pc := 54) 0 6 rfl dX12_measures_54 ?_
        refine sm_i2l (Y := mX12_measures) (pc := 56) dX12_measures_56 ?_
        refine sm_sub [1, 2, 3, 4, 5, 6, 0] rfl ?_
        exact h
      · replace h := h.2 hc
        refine sm_lconst (Y := mX12_measures) (pc := 50) 1 (by decide) dX12_measures_50 ?_
        refine sm_goto (Y := mX12_measures) (pc := 51) 57 (by decide) dX12_measures_51 ?_
        refine sm_sub [1, 2, 3, 4, 5, 6, 0] rfl ?_
        exact h
theorem dX12_measures_0 : decode cX12_measures 0 = .ok (.iconst 0, 1) := dk_iconst_0 (by decide +kernel)
theorem dX12_measures_1 : decode cX12_measures 1 = .ok (.istore 4, 2) := dk_istore 4 (b := 4) (by decide +kernel) (by decide +kernel) (by decide +kernel)
theorem dX12_measures_3 : decode cX12_measures 3 = .ok (.aload_n 0, 1) := dk_aload_n_0 (by decide +kernel)
theorem dX12_measures_4 : decode cX12_measures 4 = .ok (.iconst 0, 1) := dk_iconst_0 (by decide +kernel)
theorem dX12_measures_5 : decode cX12_measures 5 = .ok (.putfield 138, 3) := dk_putfield 138 (b1 := 0) (b2 := 138) (by decide +kernel) (by decide +kernel) (by decide +kernel) (by decide +kernel)
theorem dX12_measures_8 : decode cX12_measures 8 = .ok (.aload_n 0, 1) := dk_aload_n_0 (by decide +kernel)
theorem dX12_measures_9 : decode cX12_measures 9 = .ok (.iconst 0, 1) := dk_iconst_0 (by decide +kernel)
theorem dX12_measures_10 : decode cX12_measures 10 = .ok (.putfield 141, 3) := dk_putfield 141 (b1 := 0) (b2 := 141) (by decide +kernel) (by decide +kernel) (by decide +kernel) (by decide +kernel)
theorem dX12_measures_13 : decode cX12_measures 13 = .ok (.iload_n 2, 1) := dk_iload_n_2 (by decide +kernel)
theorem dX12_measures_14 : decode cX12_measures 14 = .ok (.istore 5, 2) := dk_istore 5 (b := 5) (by decide +kernel) (by decide +kernel) (by decide +kernel)
set_option maxRecDepth 20000 in
theorem vX12_measures_0 {E : sm_E} {L : sm_S → Prop} {d : Nat} {a1 : Nat} {x2 : Int32} {x3 : Int32} {na1 : Nat} {m : sm_M} {Q : sm_M → Prop} (hly : ∀ S, L S → ly S) (hd : 2 ≤ d) (hTa1 : ∀ S, L S → sm_K S a1 = 11 ∧ sm_N S a1 = na1)
  (h : ∀ m_2 : sm_M, m_2 = sm_wI m 109 26 0 →
   ∀ m_3 : sm_M, m_3 = sm_wI m_2 109 27 0 →
   gX12_measures_16 E L d ([.ref (sm_B E + 109), .ref (sm_B E + a1), .int x2, .int x3]) a1 x2 x3 0 x2 m_3 Q) :
  sm_callV E L mX12_measures d 0 0 [.ref (sm_B E + 109), .ref (sm_B E + a1), .int x2, .int x3] m Q := by
  refine sm_enter (by decide +kernel) (by simp [lg_sl, Value.category]) ?_
  refine sm_iconst (Y := mX12_measures) (pc := 0) 0 (by decide) dX12_measures_0 ?_
  refine sm_istore0 (Y := mX12_measures) (pc := 1) [(4, .int 0), (0, .ref (sm_B E + 109)), (1, .ref (sm_B E + a1)), (2, .int x2), (3, .int x3)] 4 (by decide) rfl dX12_measures_1 ?_
  refine sm_aload_n (Y := mX12_measures) (pc := 3) 1 0 rfl rfl dX12_measures_3 ?_
  refine sm_iconst (Y := mX12_measures) (pc := 4) 0 (by decide) dX12_measures_4 ?_
  refine pf_RX12_138 (Y := mX12_measures) (pc := 5) rfl ((lk_109 hly) _) dX12_measures_5 (fun m_2 em_2 => ?_)
  replace h := h m_2 em_2
  refine sm_aload_n (Y := mX12_measures) (pc := 8) 1 0 rfl rfl dX12_measures_8 ?_
  refine sm_iconst (Y := mX12_measures) (pc := 9) 0 (by decide) dX12_measures_9 ?_
  refine pf_RX12_141 (Y := mX12_measures) (pc := 10) rfl ((lk_109 hly) _) dX12_measures_10 (fun m_3 em_3 => ?_)
  replace h := h m_3 em_3
  refine sm_iload_n (Y := mX12_measures) (pc := 13) 3 2 rfl rfl dX12_measures_13 ?_
  refine sm_istore0 (Y := mX12_measures) (pc := 14) [(5, .int x2), (4, .int 0), (0, .ref (sm_B E + 109)), (1, .ref (sm_B E + a1)), (2, .int x2), (3, .int x3)] 5 (by decide) rfl dX12_measures_14 ?_
  refine sm_sub [2, 3, 4, 5, 1, 0] rfl ?_
  exact h
abbrev mX12_measured : sm_Y := (yX12_measured, cX12_measured, 2, none)
theorem fX12_measured : sm_mi mX12_measured RX12 1 := ⟨sm_in 1387 (by decide +kernel) (by decide +kernel), sm_in 1386 (by decide +kernel) (by decide +kernel), sm_in 42 (by decide +kernel) (by decide +kernel), sm_in 93 (by decide +kernel) (by decide +kernel), rfl, ⟨by decide +kernel, by decide +kernel, by decide +kernel⟩, by decide⟩
theorem dX12_measured_0 : decode cX12_measured 0 = .ok (.aload_n 0, 1) := dk_aload_n_0 (by decide +kernel)
theorem dX12_measured_1 : decode cX12_measured 1 = .ok (.aload_n 0, 1) := dk_aload_n_0 (by decide +kernel)
theorem dX12_measured_2 : decode cX12_measured 2 = .ok (.getfield 13, 3) := dk_getfield 13 (b1 := 0) (b2 := 13) (by decide +kernel) (by decide +kernel) (by decide +kernel) (by decide +kernel)
theorem dX12_measured_5 : decode cX12_measured 5 = .ok (.bipush 60, 2) := dk_bipush 60 (b := 60) (by decide +kernel) (by decide +kernel) (by decide +kernel)
theorem dX12_measured_7 : decode cX12_measured 7 = .ok (.iload_n 1, 1) := dk_iload_n_1 (by decide +kernel)
theorem dX12_measured_8 : decode cX12_measured 8 = .ok (.imul, 1) := dk_imul (by decide +kernel)
theorem dX12_measured_9 : decode cX12_measured 9 = .ok (.aload_n 0, 1) := dk_aload_n_0 (by decide +kernel)
theorem dX12_measured_10 : decode cX12_measured 10 = .ok (.getfield 16, 3) := dk_getfield 16 (b1 := 0) (b2 := 16) (by decide +kernel) (by decide +kernel) (by decide +kernel) (by decide +kernel)
theorem dX12_measured_13 : decode cX12_measured 13 = .ok (.iload_n 1, 1) := dk_iload_n_1 (by decide +kernel)
theorem dX12_measured_14 : decode cX12_measured 14 = .ok (.iaload, 1) := dk_iaload (by decide +kernel)
theorem wRX12_162 : Cond.methodLink RX12 162 yX12_measures ∈ sm_T := sm_in 1388 (by decide +kernel) (by decide +kernel)
theorem dX12_measured_15 : decode cX12_measured 15 = .ok (.invokevirtual 162, 3) := dk_invokevirtual 162 (b1 := 0) (b2 := 162) (by decide +kernel) (by decide +kernel) (by decide +kernel) (by decide +kernel)
theorem dX12_measured_18 : decode cX12_measured 18 = .ok (.return_, 1) := dk_return_ (by decide +kernel)
set_option maxRecDepth 20000 in
theorem vX12_measured_0 {E : sm_E} {L : sm_S → Prop} {d : Nat} {x1 : Int32}  {m : sm_M} {Q : sm_M → Prop} (hly : ∀ S, L S → ly S) (hd : 3 ≤ d) 
  (h : (vp_in x1 6) ∧ sm_callV E L mX12_measures 2 0 0 [.ref (sm_B E + 109), .ref (sm_B E + 111), .int ((60 : Int32) * x1), .int (m.1 112 x1.toNatClampNeg)] m (fun m_2 =>
   Q m_2)) :
  sm_callV E L mX12_measured d 0 0 [.ref (sm_B E + 109), .int x1] m Q := by
  refine sm_enter (by decide +kernel) (by simp [lg_sl, Value.category]) ?_
  refine sm_aload_n (Y := mX12_measured) (pc := 0) 0 0 rfl rfl dX12_measured_0 ?_
  refine sm_aload_n (Y := mX12_measured) (pc := 1) 0 0 rfl rfl dX12_measured_1 ?_
  refine gf_RX12_13 (Y := mX12_measured) (pc := 2) (b := 111) rfl ((lk_109 hly) _) (lf_109_1 hly _) dX12_measured_2 ?_
  refine sm_bipush (Y := mX12_measured) (pc := 5) 60 (by decide) dX12_measured_5 ?_
  refine sm_iload_n (Y := mX12_measured) (pc := 7) 1 1 rfl rfl dX12_measured_7 ?_
  refine sm_imul (Y := mX12_measured) (pc := 8) dX12_measured_8 ?_
  refine sm_aload_n (Y := mX12_measured) (pc := 9) 0 0 rfl rfl dX12_measured_9 ?_
  refine gf_RX12_16 (Y := mX12_measured) (pc := 10) (b := 112) rfl ((lk_109 hly) _) (lf_109_2 hly _) dX12_measured_10 ?_
  refine sm_iload_n (Y := mX12_measured) (pc := 13) 1 1 rfl rfl dX12_measured_13 ?_
  obtain ⟨hn_1, h⟩ := h
  refine sm_iald (Y := mX12_measured) (pc := 14) (la_112 hly _) hn_1 dX12_measured_14 ?_
  refine sm_iv_V (Y := mX12_measured) (pc := 15) (As := [.ref (sm_B E + 111), .int ((60 : Int32) * x1), .int (m.1 112 x1.toNatClampNeg)]) (a := 109) fX12_measures wRX12_162 (lk_109 hly) (by decide) rfl rfl rfl (Nat.le_trans (by decide) hd) (Nat.le_of_ble_eq_true rfl) ⟨Nat.le_refl _, Nat.le_refl _⟩ dX12_measured_15 rfl (sm_monoV h (fun m_2 h => ?_))
  exact sm_vret (Y := mX12_measured) (pc := 18) rfl rfl rfl dX12_measured_18 ⟨rfl, h⟩
abbrev mX12_fractionOf : sm_Y := (yX12_fractionOf, cX12_fractionOf, 7, (some FieldType.boolean))
theorem fX12_fractionOf : sm_mi mX12_fractionOf RX12 2 := ⟨sm_in 1399 (by decide +kernel) (by decide +kernel), sm_in 1398 (by decide +kernel) (by decide +kernel), sm_in 44 (by decide +kernel) (by decide +kernel), sm_in 93 (by decide +kernel) (by decide +kernel), rfl, ⟨by decide +kernel, by decide +kernel, by decide +kernel⟩, by decide⟩
def gX12_fractionOf_52 (E : sm_E) (L : sm_S → Prop) (d : Nat) (vs : List Value) (x1 : Int64) (x3 : Int64) (s0 : Int64) (m : sm_M) (Q : Int32 → sm_M → Prop) : Prop := sm_go E L mX12_fractionOf d 0 0 vs 52 [(0, .ref (sm_B E + 109)), (1, .long x1), (3, .long x3)] [.long s0] m 0 0 (sm_Z E L vs 0 0 (sm_QI Q))
theorem dX12_fractionOf_52 : decode cX12_fractionOf 52 = .ok (.lstore 5, 2) := dk_lstore 5 (b := 5) (by decide +kernel) (by decide +kernel) (by decide +kernel)
theorem dX12_fractionOf_54 : decode cX12_fractionOf 54 = .ok (.aload_n 0, 1) := dk_aload_n_0 (by decide +kernel)
theorem dX12_fractionOf_55 : decode cX12_fractionOf 55 = .ok (.lload_n 1, 1) := dk_lload_n_1 (by decide +kernel)
theorem dX12_fractionOf_56 : decode cX12_fractionOf 56 = .ok (.lload 5, 2) := dk_lload 5 (b := 5) (by decide +kernel) (by decide +kernel) (by decide +kernel)
theorem dX12_fractionOf_58 : decode cX12_fractionOf 58 = .ok (.ldiv, 1) := dk_ldiv (by decide +kernel)
theorem dX12_fractionOf_59 : decode cX12_fractionOf 59 = .ok (.putfield 170, 3) := dk_putfield 170 (b1 := 0) (b2 := 170) (by decide +kernel) (by decide +kernel) (by decide +kernel) (by decide +kernel)
theorem dX12_fractionOf_62 : decode cX12_fractionOf 62 = .ok (.aload_n 0, 1) := dk_aload_n_0 (by decide +kernel)
theorem dX12_fractionOf_63 : decode cX12_fractionOf 63 = .ok (.lload_n 3, 1) := dk_lload_n_3 (by decide +kernel)
theorem dX12_fractionOf_64 : decode cX12_fractionOf 64 = .ok (.lload 5, 2) := dk_lload 5 (b := 5) (by decide +kernel) (by decide +kernel) (by decide +kernel)
theorem dX12_fractionOf_66 : decode cX12_fractionOf 66 = .ok (.ldiv, 1) := dk_ldiv (by decide +kernel)
theorem dX12_fractionOf_67 : decode cX12_fractionOf 67 = .ok (.putfield 173, 3) := dk_putfield 173 (b1 := 0) (b2 := 173) (by decide +kernel) (by decide +kernel) (by decide +kernel) (by decide +kernel)
theorem dX12_fractionOf_70 : decode cX12_fractionOf 70 = .ok (.iconst 1, 1) := dk_iconst_1 (by decide +kernel)
theorem dX12_fractionOf_71 : decode cX12_fractionOf 71 = .ok (.ireturn, 1) := dk_ireturn (by decide +kernel)
set_option maxRecDepth 20000 in
theorem vX12_fractionOf_52 {E : sm_E} {L : sm_S → Prop} {d : Nat} {vs : List Value} {x1 : Int64} {x3 : Int64} {s0 : Int64}  {m : sm_M} {Q : Int32 → sm_M → Prop} (hly : ∀ S, L S → ly S) (hd : 2 ≤ d) 
  (h : (¬ s0 = 0) ∧ ∀ m_3 : sm_M, m_3 = sm_wJ m 109 29 (x1 / s0) →
   (¬ s0 = 0) ∧ ∀ m_5 : sm_M, m_5 = sm_wJ m_3 109 30 (x3 / s0) →
   Q 1 m_5) :
  gX12_fractionOf_52 E L d vs x1 x3 s0 m Q := by
  refine sm_lstore0 (Y := mX12_fractionOf) (pc := 52) [(5, .long s0), (0, .ref (sm_B E + 109)), (1, .long x1), (3, .long x3)] 5 (by decide) rfl dX12_fractionOf_52 ?_
  refine sm_aload_n (Y := mX12_fractionOf) (pc := 54) 1 0 rfl rfl dX12_fractionOf_54 ?_
  refine sm_lload_n (Y := mX12_fractionOf) (pc := 55) 2 1 rfl rfl dX12_fractionOf_55 ?_
  refine sm_lload (Y := mX12_fractionOf) (pc := 56) 0 5 rfl dX12_fractionOf_56 ?_
  obtain ⟨hn_2, h⟩ := h
  refine sm_ldiv (Y := mX12_fractionOf) (pc := 58) hn_2 dX12_fractionOf_58 ?_
  refine pf_RX12_170 (Y := mX12_fractionOf) (pc := 59) rfl ((lk_109 hly) _) dX12_fractionOf_59 (fun m_3 em_3 => ?_)
  replace h := h m_3 em_3
  refine sm_aload_n (Y := mX12_fractionOf) (pc := 62) 1 0 rfl rfl dX12_fractionOf_62 ?_
  refine sm_lload_n (Y := mX12_fractionOf) (pc := 63) 3 3 rfl rfl dX12_fractionOf_63 ?_
  refine sm_lload (Y := mX12_fractionOf) (pc := 64) 0 5 rfl dX12_fractionOf_64 ?_
  obtain ⟨hn_4, h⟩ := h
  refine sm_ldiv (Y := mX12_fractionOf) (pc := 66) hn_4 dX12_fractionOf_66 ?_
  refine pf_RX12_173 (Y := mX12_fractionOf) (pc := 67) rfl ((lk_109 hly) _) dX12_fractionOf_67 (fun m_5 em_5 => ?_)
  replace h := h m_5 em_5
  refine sm_iconst (Y := mX12_fractionOf) (pc := 70) 1 (by decide) dX12_fractionOf_70 ?_
  exact sm_zret (Y := mX12_fractionOf) (pc := 71) rfl (by decide) rfl rfl dX12_fractionOf_71 ⟨_, rfl, h⟩
theorem dX12_fractionOf_0 : decode cX12_fractionOf 0 = .ok (.lload_n 1, 1) := dk_lload_n_1 (by decide +kernel)
theorem dX12_fractionOf_1 : decode cX12_fractionOf 1 = .ok (.lload_n 3, 1) := dk_lload_n_3 (by decide +kernel)
theorem wRX12_166 : Cond.methodLink RX12 166 yX12_divisor ∈ sm_T := sm_in 1400 (by decide +kernel) (by decide +kernel)
theorem dX12_fractionOf_2 : decode cX12_fractionOf 2 = .ok (.invokestatic 166, 3) := dk_invokestatic 166 (b1 := 0) (b2 := 166) (by decide +kernel) (by decide +kernel) (by decide +kernel) (by decide +kernel)
theorem dX12_fractionOf_5 : decode cX12_fractionOf 5 = .ok (.lstore 5, 2) := dk_lstore 5 (b := 5) (by decide +kernel) (by decide +kernel) (by decide +kernel)
theorem dX12_fractionOf_7 : decode cX12_fractionOf 7 = .ok (.lload 5, 2) := dk_lload 5 (b := 5) (by decide +kernel) (by decide +kernel) (by decide +kernel)
theorem dX12_fractionOf_9 : decode cX12_fractionOf 9 = .ok (.lconst 0, 1) := dk_lconst_0 (by decide +kernel)
theorem dX12_fractionOf_10 : decode cX12_fractionOf 10 = .ok (.lcmp, 1) := dk_lcmp (by decide +kernel)
theorem dX12_fractionOf_11 : decode cX12_fractionOf 11 = .ok (.ifCond .ne 15, 3) := dk_ifCond_ne 15 (b1 := 0) (b2 := 15) (by decide +kernel) (by decide +kernel) (by decide +kernel) (by decide +kernel)
theorem dX12_fractionOf_26 : decode cX12_fractionOf 26 = .ok (.lload_n 3, 1) := dk_lload_n_3 (by decide +kernel)
theorem dX12_fractionOf_27 : decode cX12_fractionOf 27 = .ok (.lconst 0, 1) := dk_lconst_0 (by decide +kernel)
theorem dX12_fractionOf_28 : decode cX12_fractionOf 28 = .ok (.lcmp, 1) := dk_lcmp (by decide +kernel)
theorem dX12_fractionOf_29 : decode cX12_fractionOf 29 = .ok (.ifCond .lt 15, 3) := dk_ifCond_lt 15 (b1 := 0) (b2 := 15) (by decide +kernel) (by decide +kernel) (by decide +kernel) (by decide +kernel)
theorem dX12_fractionOf_44 : decode cX12_fractionOf 44 = .ok (.lload 5, 2) := dk_lload 5 (b := 5) (by decide +kernel) (by decide +kernel) (by decide +kernel)
theorem dX12_fractionOf_46 : decode cX12_fractionOf 46 = .ok (.lneg, 1) := dk_lneg (by decide +kernel)
theorem dX12_fractionOf_47 : decode cX12_fractionOf 47 = .ok (.goto 5, 3) := dk_goto 5 (b1 := 0) (b2 := 5) (by decide +kernel) (by decide +kernel) (by decide +kernel) (by decide +kernel)
theorem dX12_fractionOf_32 : decode cX12_fractionOf 32 = .ok (.lload_n 3, 1) := dk_lload_n_3 (by decide +kernel)
theorem dX12_fractionOf_33 : decode cX12_fractionOf 33 = .ok (.lconst 0, 1) := dk_lconst_0 (by decide +kernel)
theorem dX12_fractionOf_34 : decode cX12_fractionOf 34 = .ok (.lcmp, 1) := dk_lcmp (by decide +kernel)
theorem dX12_fractionOf_35 : decode cX12_fractionOf 35 = .ok (.ifCond .ne 15, 3) := dk_ifCond_ne 15 (b1 := 0) (b2 := 15) (by decide +kernel) (by decide +kernel) (by decide +kernel) (by decide +kernel)
theorem dX12_fractionOf_50 : decode cX12_fractionOf 50 = .ok (.lload 5, 2) := dk_lload 5 (b := 5) (by decide +kernel) (by decide +kernel) (by decide +kernel)
theorem dX12_fractionOf_38 : decode cX12_fractionOf 38 = .ok (.lload_n 1, 1) := dk_lload_n_1 (by decide +kernel)
theorem dX12_fractionOf_39 : decode cX12_fractionOf 39 = .ok (.lconst 0, 1) := dk_lconst_0 (by decide +kernel)
theorem dX12_fractionOf_40 : decode cX12_fractionOf 40 = .ok (.lcmp, 1) := dk_lcmp (by decide +kernel)
theorem dX12_fractionOf_41 : decode cX12_fractionOf 41 = .ok (.ifCond .ge 9, 3) := dk_ifCond_ge 9 (b1 := 0) (b2 := 9) (by decide +kernel) (by decide +kernel) (by decide +kernel) (by decide +kernel)
theorem dX12_fractionOf_14 : decode cX12_fractionOf 14 = .ok (.aload_n 0, 1) := dk_aload_n_0 (by decide +kernel)
theorem dX12_fractionOf_15 : decode cX12_fractionOf 15 = .ok (.lconst 0, 1) := dk_lconst_0 (by decide +kernel)
theorem dX12_fractionOf_16 : decode cX12_fractionOf 16 = .ok (.putfield 170, 3) := dk_putfield 170 (b1 := 0) (b2 := 170) (by decide +kernel) (by decide +kernel) (by decide +kernel) (by decide +kernel)
theorem dX12_fractionOf_19 : decode cX12_fractionOf 19 = .ok (.aload_n 0, 1) := dk_aload_n_0 (by decide +kernel)
theorem dX12_fractionOf_20 : decode cX12_fractionOf 20 = .ok (.lconst 0, 1) := dk_lconst_0 (by decide +kernel)
theorem dX12_fractionOf_21 : decode cX12_fractionOf 21 = .ok (.putfield 173, 3) := dk_putfield 173 (b1 := 0) (b2 := 173) (by decide +kernel) (by decide +kernel) (by decide +kernel) (by decide +kernel)
theorem dX12_fractionOf_24 : decode cX12_fractionOf 24 = .ok (.iconst 0, 1) := dk_iconst_0 (by decide +kernel)
theorem dX12_fractionOf_25 : decode cX12_fractionOf 25 = .ok (.ireturn, 1) := dk_ireturn (by decide +kernel)
set_option maxRecDepth 20000 in
theorem vX12_fractionOf_0 {E : sm_E} {L : sm_S → Prop} {d : Nat} {x1 : Int64} {x3 : Int64}  {m : sm_M} {Q : Int32 → sm_M → Prop} (hly : ∀ S, L S → ly S) (hd : 2 ≤ d) 
  (h : sm_callJ E L mX12_divisor 1 0 0 [.long x1, .long x3] m (fun r_2 m_1 =>
   (¬ r_2 = 0 →
      (x3 < 0 →
         gX12_fractionOf_52 E L d ([.ref (sm_B E + 109), .long x1, .long x3]) x1 x3 (-r_2) m_1 Q) ∧
      (¬ x3 < 0 →
         (¬ x3 = 0 →
            gX12_fractionOf_52 E L d ([.ref (sm_B E + 109), .long x1, .long x3]) x1 x3 r_2 m_1 Q) ∧
         (x3 = 0 →
            (0 ≤ x1 →
               gX12_fractionOf_52 E L d ([.ref (sm_B E + 109), .long x1, .long x3]) x1 x3 r_2 m_1 Q) ∧
            (¬ 0 ≤ x1 →
               gX12_fractionOf_52 E L d ([.ref (sm_B E + 109), .long x1, .long x3]) x1 x3 (-r_2) m_1 Q)))) ∧
   (r_2 = 0 →
      ∀ m_4 : sm_M, m_4 = sm_wJ m_1 109 29 0 →
      ∀ m_5 : sm_M, m_5 = sm_wJ m_4 109 30 0 →
      Q 0 m_5))) :
  sm_callI E L mX12_fractionOf d 0 0 [.ref (sm_B E + 109), .long x1, .long x3] m Q := by
  refine sm_enter (by decide +kernel) (by simp [lg_sl, Value.category]) ?_
  refine sm_lload_n (Y := mX12_fractionOf) (pc := 0) 1 1 rfl rfl dX12_fractionOf_0 ?_
  refine sm_lload_n (Y := mX12_fractionOf) (pc := 1) 2 3 rfl rfl dX12_fractionOf_1 ?_
  refine sm_is_J (Y := mX12_fractionOf) (pc := 2) (As := [.long x1, .long x3]) fX12_divisor wRX12_166 rfl (Nat.le_trans (by decide) hd) (Nat.le_of_ble_eq_true rfl) ⟨Nat.le_refl _, Nat.le_refl _⟩ dX12_fractionOf_2 rfl (sm_monoJ h (fun r_2 m_1 h => ?_))
  refine sm_lstore0 (Y := mX12_fractionOf) (pc := 5) [(5, .long r_2), (0, .ref (sm_B E + 109)), (1, .long x1), (3, .long x3)] 5 (by decide) rfl dX12_fractionOf_5 ?_
  refine sm_lload (Y := mX12_fractionOf) (pc := 7) 0 5 rfl dX12_fractionOf_7 ?_
  refine sm_lconst (Y := mX12_fractionOf) (pc := 9) 0 (by decide) dX12_fractionOf_9 ?_
  refine sm_lif_ne (Y := mX12_fractionOf) (pc := 10) 26 (by decide) dX12_fractionOf_10 dX12_fractionOf_11 (fun hc => ?_) (fun hc => ?_)
  · replace h := h.1 hc
    refine sm_lload_n (Y := mX12_fractionOf) (pc := 26) 3 3 rfl rfl dX12_fractionOf_26 ?_
    refine sm_lconst (Y := mX12_fractionOf) (pc := 27) 0 (by decide) dX12_fractionOf_27 ?_
    refine sm_lif_lt (Y := mX12_fractionOf) (pc := 28) 44 (by decide) dX12_fractionOf_28 dX12_fractionOf_29 (fun hc => ?_) (fun hc => ?_)
    · replace h := h.1 hc
      refine sm_lload (Y := mX12_fractionOf) (pc := 44) 0 5 rfl dX12_fractionOf_44 ?_
      refine sm_lneg (Y := mX12_fractionOf) (pc := 46) dX12_fractionOf_46 ?_
      refine sm_goto (Y := mX12_fractionOf) (pc := 47) 52 (by decide) dX12_fractionOf_47 ?_
      refine sm_sub [1, 2, 3] rfl ?_
      exact h
    · replace h := h.2 hc
      refine sm_lload_n (Y := mX12_fractionOf) (pc := 32) 3 3 rfl rfl dX12_fractionOf_32 ?_
      refine sm_lconst (Y := mX12_fractionOf) (pc := 33) 0 (by decide) dX12_fractionOf_33 ?_
      refine sm_lif_ne (Y := mX12_fractionOf) (pc := 34) 50 (by decide) dX12_fractionOf_34 dX12_fractionOf_35 (fun hc => ?_) (fun hc => ?_)
      · replace h := h.1 hc
        refine sm_lload (Y := mX12_fractionOf) (pc := 50) 0 5 rfl dX12_fractionOf_50 ?_
        refine sm_sub [1, 2, 3] rfl ?_
        exact h
      · replace h := h.2 hc
        refine sm_lload_n (Y := mX12_fractionOf) (pc := 38) 2 1 rfl rfl dX12_fractionOf_38 ?_
        refine sm_lconst (Y := mX12_fractionOf) (pc := 39) 0 (by decide) dX12_fractionOf_39 ?_
        refine sm_lif_ge (Y := mX12_fractionOf) (pc := 40) 50 (by decide) dX12_fractionOf_40 dX12_fractionOf_41 (fun hc => ?_) (fun hc => ?_)
        · replace h := h.1 hc
          refine sm_lload (Y := mX12_fractionOf) (pc := 50) 0 5 rfl dX12_fractionOf_50 ?_
          refine sm_sub [1, 2, 3] rfl ?_
          exact h
        · replace h := h.2 hc
          refine sm_lload (Y := mX12_fractionOf) (pc := 44) 0 5 rfl dX12_fractionOf_44 ?_
          refine sm_lneg (Y := mX12_fractionOf) (pc := 46) dX12_fractionOf_46 ?_
          refine sm_goto (Y := mX12_fractionOf) (pc := 47) 52 (by decide) dX12_fractionOf_47 ?_
          refine sm_sub [1, 2, 3] rfl ?_
          exact h
  · replace h := h.2 hc
    refine sm_aload_n (Y := mX12_fractionOf) (pc := 14) 1 0 rfl rfl dX12_fractionOf_14 ?_
    refine sm_lconst (Y := mX12_fractionOf) (pc := 15) 0 (by decide) dX12_fractionOf_15 ?_
    refine pf_RX12_170 (Y := mX12_fractionOf) (pc := 16) rfl ((lk_109 hly) _) dX12_fractionOf_16 (fun m_4 em_4 => ?_)
    replace h := h m_4 em_4
    refine sm_aload_n (Y := mX12_fractionOf) (pc := 19) 1 0 rfl rfl dX12_fractionOf_19 ?_
    refine sm_lconst (Y := mX12_fractionOf) (pc := 20) 0 (by decide) dX12_fractionOf_20 ?_
    refine pf_RX12_173 (Y := mX12_fractionOf) (pc := 21) rfl ((lk_109 hly) _) dX12_fractionOf_21 (fun m_5 em_5 => ?_)
    replace h := h m_5 em_5
    refine sm_iconst (Y := mX12_fractionOf) (pc := 24) 0 (by decide) dX12_fractionOf_24 ?_
    exact sm_zret (Y := mX12_fractionOf) (pc := 25) rfl (by decide) rfl rfl dX12_fractionOf_25 ⟨_, rfl, h⟩
abbrev mX12_fraction : sm_Y := (yX12_fraction, cX12_fraction, 2, (some FieldType.boolean))
theorem fX12_fraction : sm_mi mX12_fraction RX12 1 := ⟨sm_in 1383 (by decide +kernel) (by decide +kernel), sm_in 1382 (by decide +kernel) (by decide +kernel), sm_in 41 (by decide +kernel) (by decide +kernel), sm_in 93 (by decide +kernel) (by decide +kernel), rfl, ⟨by decide +kernel, by decide +kernel, by decide +kernel⟩, by decide⟩
theorem dX12_fraction_0 : decode cX12_fraction 0 = .ok (.aload_n 0, 1) := dk_aload_n_0 (by decide +kernel)
theorem dX12_fraction_1 : decode cX12_fraction 1 = .ok (.iload_n 1, 1) := dk_iload_n_1 (by decide +kernel)
theorem wRX12_176 : Cond.methodLink RX12 176 yX12_measured ∈ sm_T := sm_in 1384 (by decide +kernel) (by decide +kernel)
theorem dX12_fraction_2 : decode cX12_fraction 2 = .ok (.invokevirtual 176, 3) := dk_invokevirtual 176 (b1 := 0) (b2 := 176) (by decide +kernel) (by decide +kernel) (by decide +kernel) (by decide +kernel)
theorem dX12_fraction_5 : decode cX12_fraction 5 = .ok (.aload_n 0, 1) := dk_aload_n_0 (by decide +kernel)
theorem dX12_fraction_6 : decode cX12_fraction 6 = .ok (.aload_n 0, 1) := dk_aload_n_0 (by decide +kernel)
theorem dX12_fraction_7 : decode cX12_fraction 7 = .ok (.getfield 148, 3) := dk_getfield 148 (b1 := 0) (b2 := 148) (by decide +kernel) (by decide +kernel) (by decide +kernel) (by decide +kernel)
theorem dX12_fraction_10 : decode cX12_fraction 10 = .ok (.aload_n 0, 1) := dk_aload_n_0 (by decide +kernel)
theorem dX12_fraction_11 : decode cX12_fraction 11 = .ok (.getfield 152, 3) := dk_getfield 152 (b1 := 0) (b2 := 152) (by decide +kernel) (by decide +kernel) (by decide +kernel) (by decide +kernel)
theorem wRX12_180 : Cond.methodLink RX12 180 yX12_fractionOf ∈ sm_T := sm_in 1396 (by decide +kernel) (by decide +kernel)
theorem dX12_fraction_14 : decode cX12_fraction 14 = .ok (.invokevirtual 180, 3) := dk_invokevirtual 180 (b1 := 0) (b2 := 180) (by decide +kernel) (by decide +kernel) (by decide +kernel) (by decide +kernel)
theorem dX12_fraction_17 : decode cX12_fraction 17 = .ok (.ireturn, 1) := dk_ireturn (by decide +kernel)
set_option maxRecDepth 20000 in
theorem vX12_fraction_0 {E : sm_E} {L : sm_S → Prop} {d : Nat} {x1 : Int32}  {m : sm_M} {Q : Int32 → sm_M → Prop} (hly : ∀ S, L S → ly S) (hd : 4 ≤ d) 
  (h : sm_callV E L mX12_measured 3 0 0 [.ref (sm_B E + 109), .int x1] m (fun m_1 =>
   sm_callI E L mX12_fractionOf 2 0 0 [.ref (sm_B E + 109), .long (m_1.2.1 109 23), .long (m_1.2.1 109 24)] m_1 (fun r_3 m_2 =>
   (r_3 = 0 ∨ r_3 = 1) ∧ Q r_3 m_2))) :
  sm_callI E L mX12_fraction d 0 0 [.ref (sm_B E + 109), .int x1] m Q := by
  refine sm_enter (by decide +kernel) (by simp [lg_sl, Value.category]) ?_
  refine sm_aload_n (Y := mX12_fraction) (pc := 0) 0 0 rfl rfl dX12_fraction_0 ?_
  refine sm_iload_n (Y := mX12_fraction) (pc := 1) 1 1 rfl rfl dX12_fraction_1 ?_
  refine sm_iv_V (Y := mX12_fraction) (pc := 2) (As := [.int x1]) (a := 109) fX12_measured wRX12_176 (lk_109 hly) (by decide) rfl rfl rfl (Nat.le_trans (by decide) hd) (Nat.le_of_ble_eq_true rfl) ⟨Nat.le_refl _, Nat.le_refl _⟩ dX12_fraction_2 rfl (sm_monoV h (fun m_1 h => ?_))
  refine sm_aload_n (Y := mX12_fraction) (pc := 5) 0 0 rfl rfl dX12_fraction_5 ?_
  refine sm_aload_n (Y := mX12_fraction) (pc := 6) 0 0 rfl rfl dX12_fraction_6 ?_
  refine gf_RX12_148 (Y := mX12_fraction) (pc := 7) rfl ((lk_109 hly) _) dX12_fraction_7 ?_
  refine sm_aload_n (Y := mX12_fraction) (pc := 10) 0 0 rfl rfl dX12_fraction_10 ?_
  refine gf_RX12_152 (Y := mX12_fraction) (pc := 11) rfl ((lk_109 hly) _) dX12_fraction_11 ?_
  refine sm_iv_I (Y := mX12_fraction) (pc := 14) (As := [.long (m_1.2.1 109 23), .long (m_1.2.1 109 24)]) (a := 109) fX12_fractionOf wRX12_180 (lk_109 hly) (by decide) rfl rfl rfl (Nat.le_trans (by decide) hd) (Nat.le_of_ble_eq_true rfl) ⟨Nat.le_refl _, Nat.le_refl _⟩ dX12_fraction_14 rfl (sm_monoI h (fun r_3 m_2 h => ?_))
  obtain ⟨hn_4, h⟩ := h
  exact sm_zret (Y := mX12_fraction) (pc := 17) rfl hn_4 rfl rfl dX12_fraction_17 ⟨_, rfl, h⟩
abbrev mX12_slot : sm_Y := (yX12_slot, cX12_slot, 4, (some FieldType.int))
theorem fX12_slot : sm_mi mX12_slot RX12 2 := ⟨sm_in 1367 (by decide +kernel) (by decide +kernel), sm_in 1365 (by decide +kernel) (by decide +kernel), sm_in 1366 (by decide +kernel) (by decide +kernel), sm_in 93 (by decide +kernel) (by decide +kernel), rfl, ⟨by decide +kernel, by decide +kernel, by decide +kernel⟩, by decide⟩
theorem dX12_slot_0 : decode cX12_slot 0 = .ok (.iload_n 1, 1) := dk_iload_n_1 (by decide +kernel)
theorem wRX12_184 : Cond.methodLink RX12 184 yX12_isSlot ∈ sm_T := sm_in 1368 (by decide +kernel) (by decide +kernel)
theorem dX12_slot_1 : decode cX12_slot 1 = .ok (.invokestatic 184, 3) := dk_invokestatic 184 (b1 := 0) (b2 := 184) (by decide +kernel) (by decide +kernel) (by decide +kernel) (by decide +kernel)
theorem dX12_slot_4 : decode cX12_slot 4 = .ok (.ifCond .eq 15, 3) := dk_ifCond_eq 15 (b1 := 0) (b2 := 15) (by decide +kernel) (by decide +kernel) (by decide +kernel) (by decide +kernel)
theorem dX12_slot_19 : decode cX12_slot 19 = .ok (.aload_n 0, 1) := dk_aload_n_0 (by decide +kernel)
theorem dX12_slot_20 : decode cX12_slot 20 = .ok (.iconst 1, 1) := dk_iconst_1 (by decide +kernel)
theorem wRX12_194 : Cond.methodLink RX12 194 yX12_finds ∈ sm_T := sm_in 1375 (by decide +kernel) (by decide +kernel)
theorem dX12_slot_21 : decode cX12_slot 21 = .ok (.invokevirtual 194, 3) := dk_invokevirtual 194 (b1 := 0) (b2 := 194) (by decide +kernel) (by decide +kernel) (by decide +kernel) (by decide +kernel)
theorem dX12_slot_24 : decode cX12_slot 24 = .ok (.ireturn, 1) := dk_ireturn (by decide +kernel)
theorem dX12_slot_7 : decode cX12_slot 7 = .ok (.iload_n 2, 1) := dk_iload_n_2 (by decide +kernel)
theorem dX12_slot_8 : decode cX12_slot 8 = .ok (.i2l, 1) := dk_i2l (by decide +kernel)
theorem dX12_slot_9 : decode cX12_slot 9 = .ok (.lconst 0, 1) := dk_lconst_0 (by decide +kernel)
theorem wRX12_188 : Cond.constantLong RX12 188 8 ∈ sm_T := sm_in 1371 (by decide +kernel) (by decide +kernel)
theorem dX12_slot_10 : decode cX12_slot 10 = .ok (.ldc2_w 188, 3) := dk_ldc2_w 188 (b1 := 0) (b2 := 188) (by decide +kernel) (by decide +kernel) (by decide +kernel) (by decide +kernel)
theorem wRX12_190 : Cond.methodLink RX12 190 yX12_isIn ∈ sm_T := sm_in 1372 (by decide +kernel) (by decide +kernel)
theorem dX12_slot_13 : decode cX12_slot 13 = .ok (.invokestatic 190, 3) := dk_invokestatic 190 (b1 := 0) (b2 := 190) (by decide +kernel) (by decide +kernel) (by decide +kernel) (by decide +kernel)
theorem dX12_slot_16 : decode cX12_slot 16 = .ok (.ifCond .ne 9, 3) := dk_ifCond_ne 9 (b1 := 0) (b2 := 9) (by decide +kernel) (by decide +kernel) (by decide +kernel) (by decide +kernel)
theorem dX12_slot_25 : decode cX12_slot 25 = .ok (.aload_n 0, 1) := dk_aload_n_0 (by decide +kernel)
theorem dX12_slot_26 : decode cX12_slot 26 = .ok (.iload_n 1, 1) := dk_iload_n_1 (by decide +kernel)
theorem wRX12_198 : Cond.methodLink RX12 198 yX12_fraction ∈ sm_T := sm_in 1380 (by decide +kernel) (by decide +kernel)
theorem dX12_slot_27 : decode cX12_slot 27 = .ok (.invokevirtual 198, 3) := dk_invokevirtual 198 (b1 := 0) (b2 := 198) (by decide +kernel) (by decide +kernel) (by decide +kernel) (by decide +kernel)
theorem dX12_slot_30 : decode cX12_slot 30 = .ok (.istore_n 3, 1) := dk_istore_n_3 (by decide +kernel)
theorem dX12_slot_31 : decode cX12_slot 31 = .ok (.iload_n 2, 1) := dk_iload_n_2 (by decide +kernel)
theorem dX12_slot_32 : decode cX12_slot 32 = .ok (.tableswitch 91 0 6 #[44, 49, 54, 61, 66, 72, 78], 44) := by decide +kernel
theorem dX12_slot_76 : decode cX12_slot 76 = .ok (.aload_n 0, 1) := dk_aload_n_0 (by decide +kernel)
theorem dX12_slot_77 : decode cX12_slot 77 = .ok (.getfield 138, 3) := dk_getfield 138 (b1 := 0) (b2 := 138) (by decide +kernel) (by decide +kernel) (by decide +kernel) (by decide +kernel)
theorem dX12_slot_80 : decode cX12_slot 80 = .ok (.ireturn, 1) := dk_ireturn (by decide +kernel)
theorem dX12_slot_81 : decode cX12_slot 81 = .ok (.aload_n 0, 1) := dk_aload_n_0 (by decide +kernel)
theorem dX12_slot_82 : decode cX12_slot 82 = .ok (.getfield 141, 3) := dk_getfield 141 (b1 := 0) (b2 := 141) (by decide +kernel) (by decide +kernel) (by decide +kernel) (by decide +kernel)
theorem dX12_slot_85 : decode cX12_slot 85 = .ok (.ireturn, 1) := dk_ireturn (by decide +kernel)
theorem dX12_slot_86 : decode cX12_slot 86 = .ok (.aload_n 0, 1) := dk_aload_n_0 (by decide +kernel)
theorem dX12_slot_87 : decode cX12_slot 87 = .ok (.getfield 16, 3) := dk_getfield 16 (b1 := 0) (b2 := 16) (by decide +kernel) (by decide +kernel) (by decide +kernel) (by decide +kernel)
theorem dX12_slot_90 : decode cX12_slot 90 = .ok (.iload_n 1, 1) := dk_iload_n_1 (by decide +kernel)
theorem dX12_slot_91 : decode cX12_slot 91 = .ok (.iaload, 1) := dk_iaload (by decide +kernel)
theorem dX12_slot_92 : decode cX12_slot 92 = .ok (.ireturn, 1) := dk_ireturn (by decide +kernel)
theorem dX12_slot_93 : decode cX12_slot 93 = .ok (.aload_n 0, 1) := dk_aload_n_0 (by decide +kernel)
theorem dX12_slot_94 : decode cX12_slot 94 = .ok (.getfield 159, 3) := dk_getfield 159 (b1 := 0) (b2 := 159) (by decide +kernel) (by decide +kernel) (by decide +kernel) (by decide +kernel)
theorem dX12_slot_97 : decode cX12_slot 97 = .ok (.ireturn, 1) := dk_ireturn (by decide +kernel)
theorem dX12_slot_98 : decode cX12_slot 98 = .ok (.aload_n 0, 1) := dk_aload_n_0 (by decide +kernel)
theorem dX12_slot_99 : decode cX12_slot 99 = .ok (.getfield 148, 3) := dk_getfield 148 (b1 := 0) (b2 := 148) (by decide +kernel) (by decide +kernel) (by decide +kernel) (by decide +kernel)
theorem dX12_slot_102 : decode cX12_slot 102 = .ok (.l2i, 1) := dk_l2i (by decide +kernel)
theorem dX12_slot_103 : decode cX12_slot 103 = .ok (.ireturn, 1) := dk_ireturn (by decide +kernel)
theorem dX12_slot_104 : decode cX12_slot 104 = .ok (.aload_n 0, 1) := dk_aload_n_0 (by decide +kernel)
theorem dX12_slot_105 : decode cX12_slot 105 = .ok (.getfield 152, 3) := dk_getfield 152 (b1 := 0) (b2 := 152) (by decide +kernel) (by decide +kernel) (by decide +kernel) (by decide +kernel)
theorem dX12_slot_108 : decode cX12_slot 108 = .ok (.l2i, 1) := dk_l2i (by decide +kernel)
theorem dX12_slot_109 : decode cX12_slot 109 = .ok (.ireturn, 1) := dk_ireturn (by decide +kernel)
theorem dX12_slot_110 : decode cX12_slot 110 = .ok (.aload_n 0, 1) := dk_aload_n_0 (by decide +kernel)
theorem dX12_slot_111 : decode cX12_slot 111 = .ok (.getfield 155, 3) := dk_getfield 155 (b1 := 0) (b2 := 155) (by decide +kernel) (by decide +kernel) (by decide +kernel) (by decide +kernel)
theorem dX12_slot_114 : decode cX12_slot 114 = .ok (.ifCond .eq 7, 3) := dk_ifCond_eq 7 (b1 := 0) (b2 := 7) (by decide +kernel) (by decide +kernel) (by decide +kernel) (by decide +kernel)
theorem dX12_slot_121 : decode cX12_slot 121 = .ok (.iconst 0, 1) := dk_iconst_0 (by decide +kernel)
theorem dX12_slot_122 : decode cX12_slot 122 = .ok (.ireturn, 1) := dk_ireturn (by decide +kernel)
theorem dX12_slot_117 : decode cX12_slot 117 = .ok (.iconst 1, 1) := dk_iconst_1 (by decide +kernel)
theorem dX12_slot_118 : decode cX12_slot 118 = .ok (.goto 4, 3) := dk_goto 4 (b1 := 0) (b2 := 4) (by decide +kernel) (by decide +kernel) (by decide +kernel) (by decide +kernel)
theorem dX12_slot_123 : decode cX12_slot 123 = .ok (.iload_n 3, 1) := dk_iload_n_3 (by decide +kernel)
theorem dX12_slot_124 : decode cX12_slot 124 = .ok (.ifCond .ne 11, 3) := dk_ifCond_ne 11 (b1 := 0) (b2 := 11) (by decide +kernel) (by decide +kernel) (by decide +kernel) (by decide +kernel)
theorem dX12_slot_135 : decode cX12_slot 135 = .ok (.iload_n 2, 1) := dk_iload_n_2 (by decide +kernel)
theorem dX12_slot_136 : decode cX12_slot 136 = .ok (.bipush 7, 2) := dk_bipush 7 (b := 7) (by decide +kernel) (by decide +kernel) (by decide +kernel)
theorem dX12_slot_138 : decode cX12_slot 138 = .ok (.if_icmp .ne 11, 3) := dk_if_icmp_ne 11 (b1 := 0) (b2 := 11) (by decide +kernel) (by decide +kernel) (by decide +kernel) (by decide +kernel)
theorem dX12_slot_149 : decode cX12_slot 149 = .ok (.aload_n 0, 1) := dk_aload_n_0 (by decide +kernel)
theorem dX12_slot_150 : decode cX12_slot 150 = .ok (.getfield 173, 3) := dk_getfield 173 (b1 := 0) (b2 := 173) (by decide +kernel) (by decide +kernel) (by decide +kernel) (by decide +kernel)
theorem dX12_slot_153 : decode cX12_slot 153 = .ok (.l2i, 1) := dk_l2i (by decide +kernel)
theorem dX12_slot_154 : decode cX12_slot 154 = .ok (.ireturn, 1) := dk_ireturn (by decide +kernel)
theorem dX12_slot_141 : decode cX12_slot 141 = .ok (.aload_n 0, 1) := dk_aload_n_0 (by decide +kernel)
theorem dX12_slot_142 : decode cX12_slot 142 = .ok (.getfield 170, 3) := dk_getfield 170 (b1 := 0) (b2 := 170) (by decide +kernel) (by decide +kernel) (by decide +kernel) (by decide +kernel)
theorem dX12_slot_145 : decode cX12_slot 145 = .ok (.l2i, 1) := dk_l2i (by decide +kernel)
theorem dX12_slot_146 : decode cX12_slot 146 = .ok (.goto 8, 3) := dk_goto 8 (b1 := 0) (b2 := 8) (by decide +kernel) (by decide +kernel) (by decide +kernel) (by decide +kernel)
theorem dX12_slot_127 : decode cX12_slot 127 = .ok (.aload_n 0, 1) := dk_aload_n_0 (by decide +kernel)
theorem dX12_slot_128 : decode cX12_slot 128 = .ok (.iconst 2, 1) := dk_iconst_2 (by decide +kernel)
theorem dX12_slot_129 : decode cX12_slot 129 = .ok (.invokevirtual 194, 3) := dk_invokevirtual 194 (b1 := 0) (b2 := 194) (by decide +kernel) (by decide +kernel) (by decide +kernel) (by decide +kernel)
theorem dX12_slot_132 : decode cX12_slot 132 = .ok (.goto 22, 3) := dk_goto 22 (b1 := 0) (b2 := 22) (by decide +kernel) (by decide +kernel) (by decide +kernel) (by decide +kernel)
set_option maxRecDepth 20000 in
theorem vX12_slot_0 {E : sm_E} {L : sm_S → Prop} {d : Nat} {x1 : Int32} {x2 : Int32}  {m : sm_M} {Q : Int32 → sm_M → Prop} (hly : ∀ S, L S → ly S) (hd : 5 ≤ d) 
  (h : sm_callI E L mX12_isSlot 1 0 0 [.int x1] m (fun r_2 m_1 =>
   (r_2 = 0 →
      sm_callI E L mX12_finds 1 0 0 [.ref (sm_B E + 109), .int 1] m_1 (fun r_4 m_3 =>
      Q r_4 m_3)) ∧
   (¬ r_2 = 0 →
      sm_callI E L mX12_isIn 1 0 0 [.long (x2.toInt64), .long 0, .long 8] m_1 (fun r_6 m_5 =>
      (¬ r_6 = 0 →
         sm_callI E L mX12_fraction 4 0 0 [.ref (sm_B E + 109), .int x1] m_5 (fun r_8 m_7 =>
         (x2 = 0 →
            Q (m_7.1 109 26) m_7) ∧
         (x2 = 1 →
            Q (m_7.1 109 27) m_7) ∧
         (x2 = 2 →
            (vp_in x1 6) ∧ Q (m_7.1 112 x1.toNatClampNeg) m_7) ∧
         (x2 = 3 →
            Q (m_7.1 109 28) m_7) ∧
         (x2 = 4 →
            Q ((m_7.2.1 109 23).toInt32) m_7) ∧
         (x2 = 5 →
            Q ((m_7.2.1 109 24).toInt32) m_7) ∧
         (x2 = 6 →
            ((m_7.1 109 25) = 0 →
               Q 0 m_7) ∧
            (¬ (m_7.1 109 25) = 0 →
               Q 1 m_7)) ∧
         ((¬ x2 = 0 ∧ ¬ x2 = 1 ∧ ¬ x2 = 2 ∧ ¬ x2 = 3 ∧ ¬ x2 = 4 ∧ ¬ x2 = 5 ∧ ¬ x2 = 6) →
            (¬ r_8 = 0 →
            (¬ x2 = 7 →
               Q ((m_7.2.1 109 30).toInt32) m_7) ∧
            (x2 = 7 →
               Q ((m_7.2.1 109 29).toInt32) m_7)) ∧
         (r_8 = 0 →
            sm_callI E L mX12_finds 1 0 0 [.ref (sm_B E + 109), .int 2] m_7 (fun r_12 m_11 =>
            Q r_12 m_11))))) ∧
      (r_6 = 0 →
         sm_callI E L mX12_finds 1 0 0 [.ref (sm_B E + 109), .int 1] m_5 (fun r_14 m_13 =>
         Q r_14 m_13)))))) :
  sm_callI E L mX12_slot d 0 0 [.ref (sm_B E + 109), .int x1, .int x2] m Q := by
  refine sm_enter (by decide +kernel) (by simp [lg_sl, Value.category]) ?_
  refine sm_iload_n (Y := mX12_slot) (pc := 0) 1 1 rfl rfl dX12_slot_0 ?_
  refine sm_is_I (Y := mX12_slot) (pc := 1) (As := [.int x1]) fX12_isSlot wRX12_184 rfl (Nat.le_trans (by decide) hd) (Nat.le_of_ble_eq_true rfl) ⟨Nat.le_refl _, Nat.le_refl _⟩ dX12_slot_1 rfl (sm_monoI h (fun r_2 m_1 h => ?_))
  refine sm_if_eq (Y := mX12_slot) (pc := 4) 19 (by decide) dX12_slot_4 (fun hc => ?_) (fun hc => ?_)
  · replace h := h.1 hc
    refine sm_aload_n (Y := mX12_slot) (pc := 19) 0 0 rfl rfl dX12_slot_19 ?_
    refine sm_iconst (Y := mX12_slot) (pc := 20) 1 (by decide) dX12_slot_20 ?_
    refine sm_iv_I (Y := mX12_slot) (pc := 21) (As := [.int 1]) (a := 109) fX12_finds wRX12_194 (lk_109 hly) (by decide) rfl rfl rfl (Nat.le_trans (by decide) hd) (Nat.le_of_ble_eq_true rfl) ⟨Nat.le_refl _, Nat.le_refl _⟩ dX12_slot_21 rfl (sm_monoI h (fun r_4 m_3 h => ?_))
    exact sm_iret (Y := mX12_slot) (pc := 24) rfl rfl rfl dX12_slot_24 ⟨_, rfl, h⟩
  · replace h := h.2 hc
    refine sm_iload_n (Y := mX12_slot) (pc := 7) 2 2 rfl rfl dX12_slot_7 ?_
    refine sm_i2l (Y := mX12_slot) (pc := 8) dX12_slot_8 ?_
    refine sm_lconst (Y := mX12_slot) (pc := 9) 0 (by decide) dX12_slot_9 ?_
    refine sm_ldc2_w (Y := mX12_slot) (pc := 10) 8 wRX12_188 dX12_slot_10 ?_
    refine sm_is_I (Y := mX12_slot) (pc := 13) (As := [.long (x2.toInt64), .long 0, .long 8]) fX12_isIn wRX12_190 rfl (Nat.le_trans (by decide) hd) (Nat.le_of_ble_eq_true rfl) ⟨Nat.le_refl _, Nat.le_refl _⟩ dX12_slot_13 rfl (sm_monoI h (fun r_6 m_5 h => ?_))
    refine sm_if_ne (Y := mX12_slot) (pc := 16) 25 (by decide) dX12_slot_16 (fun hc => ?_) (fun hc => ?_)
    · replace h := h.1 hc
      refine sm_aload_n (Y := mX12_slot) (pc := 25) 0 0 rfl rfl dX12_slot_25 ?_
      refine sm_iload_n (Y := mX12_slot) (pc := 26) 1 1 rfl rfl dX12_slot_26 ?_
      refine sm_iv_I (Y := mX12_slot) (pc := 27) (As := [.int x1]) (a := 109) fX12_fraction wRX12_198 (lk_109 hly) (by decide) rfl rfl rfl (Nat.le_trans (by decide) hd) (Nat.le_of_ble_eq_true rfl) ⟨Nat.le_refl _, Nat.le_refl _⟩ dX12_slot_27 rfl (sm_monoI h (fun r_8 m_7 h => ?_))
      refine sm_istore0_n (Y := mX12_slot) (pc := 30) [(3, .int r_8), (0, .ref (sm_B E + 109)), (1, .int x1), (2, .int x2)] 3 rfl (by decide) rfl dX12_slot_30 ?_
      refine sm_iload_n (Y := mX12_slot) (pc := 31) 3 2 rfl rfl dX12_slot_31 ?_
      by_cases hs32_0 : x2 = 0
      · refine sm_tableIn (Y := mX12_slot) (pc := 32) 76 (by rw [hs32_0]; decide) (by rw [hs32_0]; decide) (by first | (rw [hs32_0]; done) | (rw [hs32_0]; rfl)) (by decide) dX12_slot_32 ?_
        replace h := h.1 hs32_0
        refine sm_aload_n (Y := mX12_slot) (pc := 76) 1 0 rfl rfl dX12_slot_76 ?_
        refine gf_RX12_138 (Y := mX12_slot) (pc := 77) rfl ((lk_109 hly) _) dX12_slot_77 ?_
        exact sm_iret (Y := mX12_slot) (pc := 80) rfl rfl rfl dX12_slot_80 ⟨_, rfl, h⟩
      replace h := h.2
      by_cases hs32_1 : x2 = 1
      · refine sm_tableIn (Y := mX12_slot) (pc := 32) 81 (by rw [hs32_1]; decide) (by rw [hs32_1]; decide) (by first | (rw [hs32_1]; done) | (rw [hs32_1]; rfl)) (by decide) dX12_slot_32 ?_
        replace h := h.1 hs32_1
        refine sm_aload_n (Y := mX12_slot) (pc := 81) 1 0 rfl rfl dX12_slot_81 ?_
        refine gf_RX12_141 (Y := mX12_slot) (pc := 82) rfl ((lk_109 hly) _) dX12_slot_82 ?_
        exact sm_iret (Y := mX12_slot) (pc := 85) rfl rfl rfl dX12_slot_85 ⟨_, rfl, h⟩
      replace h := h.2
      by_cases hs32_2 : x2 = 2
      · refine sm_tableIn (Y := mX12_slot) (pc := 32) 86 (by rw [hs32_2]; decide) (by rw [hs32_2]; decide) (by first | (rw [hs32_2]; done) | (rw [hs32_2]; rfl)) (by decide) dX12_slot_32 ?_
        replace h := h.1 hs32_2
        refine sm_aload_n (Y := mX12_slot) (pc := 86) 1 0 rfl rfl dX12_slot_86 ?_
        refine gf_RX12_16 (Y := mX12_slot) (pc := 87) (b := 112) rfl ((lk_109 hly) _) (lf_109_2 hly _) dX12_slot_87 ?_
        refine sm_iload_n (Y := mX12_slot) (pc := 90) 2 1 rfl rfl dX12_slot_90 ?_
        obtain ⟨hn_10, h⟩ := h
        refine sm_iald (Y := mX12_slot) (pc := 91) (la_112 hly _) hn_10 dX12_slot_91 ?_
        exact sm_iret (Y := mX12_slot) (pc := 92) rfl rfl rfl dX12_slot_92 ⟨_, rfl, h⟩
      replace h := h.2
      by_cases hs32_3 : x2 = 3
      · refine sm_tableIn (Y := mX12_slot) (pc := 32) 93 (by rw [hs32_3]; decide) (by rw [hs32_3]; decide) (by first | (rw [hs32_3]; done) | (rw [hs32_3]; rfl)) (by decide) dX12_slot_32 ?_
        replace h := h.1 hs32_3
        refine sm_aload_n (Y := mX12_slot) (pc := 93) 1 0 rfl rfl dX12_slot_93 ?_
        refine gf_RX12_159 (Y := mX12_slot) (pc := 94) rfl ((lk_109 hly) _) dX12_slot_94 ?_
        exact sm_iret (Y := mX12_slot) (pc := 97) rfl rfl rfl dX12_slot_97 ⟨_, rfl, h⟩
      replace h := h.2
      by_cases hs32_4 : x2 = 4
      · refine sm_tableIn (Y := mX12_slot) (pc := 32) 98 (by rw [hs32_4]; decide) (by rw [hs32_4]; decide) (by first | (rw [hs32_4]; done) | (rw [hs32_4]; rfl)) (by decide) dX12_slot_32 ?_
        replace h := h.1 hs32_4
        refine sm_aload_n (Y := mX12_slot) (pc := 98) 1 0 rfl rfl dX12_slot_98 ?_
        refine gf_RX12_148 (Y := mX12_slot) (pc := 99) rfl ((lk_109 hly) _) dX12_slot_99 ?_
        refine sm_l2i (Y := mX12_slot) (pc := 102) dX12_slot_102 ?_
        exact sm_iret (Y := mX12_slot) (pc := 103) rfl rfl rfl dX12_slot_103 ⟨_, rfl, h⟩
      replace h := h.2
      by_cases hs32_5 : x2 = 5
      · refine sm_tableIn (Y := mX12_slot) (pc := 32) 104 (by rw [hs32_5]; decide) (by rw [hs32_5]; decide) (by first | (rw [hs32_5]; done) | (rw [hs32_5]; rfl)) (by decide) dX12_slot_32 ?_
        replace h := h.1 hs32_5
        refine sm_aload_n (Y := mX12_slot) (pc := 104) 1 0 rfl rfl dX12_slot_104 ?_
        refine gf_RX12_152 (Y := mX12_slot) (pc := 105) rfl ((lk_109 hly) _) dX12_slot_105 ?_
        refine sm_l2i (Y := mX12_slot) (pc := 108) dX12_slot_108 ?_
        exact sm_iret (Y := mX12_slot) (pc := 109) rfl rfl rfl dX12_slot_109 ⟨_, rfl, h⟩
      replace h := h.2
      by_cases hs32_6 : x2 = 6
      · refine sm_tableIn (Y := mX12_slot) (pc := 32) 110 (by rw [hs32_6]; decide) (by rw [hs32_6]; decide) (by first | (rw [hs32_6]; done) | (rw [hs32_6]; rfl)) (by decide) dX12_slot_32 ?_
        replace h := h.1 hs32_6
        refine sm_aload_n (Y := mX12_slot) (pc := 110) 1 0 rfl rfl dX12_slot_110 ?_
        refine gf_RX12_155 (Y := mX12_slot) (pc := 111) rfl ((lk_109 hly) _) dX12_slot_111 ?_
        refine sm_if_eq (Y := mX12_slot) (pc := 114) 121 (by decide) dX12_slot_114 (fun hc => ?_) (fun hc => ?_)
        · replace h := h.1 hc
          refine sm_iconst (Y := mX12_slot) (pc := 121) 0 (by decide) dX12_slot_121 ?_
          exact sm_iret (Y := mX12_slot) (pc := 122) rfl rfl rfl dX12_slot_122 ⟨_, rfl, h⟩
        · replace h := h.2 hc
          refine sm_iconst (Y := mX12_slot) (pc := 117) 1 (by decide) dX12_slot_117 ?_
          refine sm_goto (Y := mX12_slot) (pc := 118) 122 (by decide) dX12_slot_118 ?_
          exact sm_iret (Y := mX12_slot) (pc := 122) rfl rfl rfl dX12_slot_122 ⟨_, rfl, h⟩
      replace h := h.2
      refine sm_tableOut (Y := mX12_slot) (pc := 32) 123 (sm_tout (lo := 0) 7 (fun j hj => by
          match j, hj with
          | 0, _ => exact lv_neT hs32_0 (by decide)
          | 1, _ => exact lv_neT hs32_1 (by decide)
          | 2, _ => exact lv_neT hs32_2 (by decide)
          | 3, _ => exact lv_neT hs32_3 (by decide)
          | 4, _ => exact lv_neT hs32_4 (by decide)
          | 5, _ => exact lv_neT hs32_5 (by decide)
          | 6, _ => exact lv_neT hs32_6 (by decide)
          | j + 7, hj => exact absurd hj (by omega))) (by decide) dX12_slot_32 ?_
      replace h := h ⟨hs32_0, hs32_1, hs32_2, hs32_3, hs32_4, hs32_5, hs32_6⟩
      refine sm_iload_n (Y := mX12_slot) (pc := 123) 0 3 rfl rfl dX12_slot_123 ?_
      refine sm_if_ne (Y := mX12_slot) (pc := 124) 135 (by decide) dX12_slot_124 (fun hc => ?_) (fun hc => ?_)
      · replace h := h.1 hc
        refine sm_iload_n (Y := mX12_slot) (pc := 135) 3 2 rfl rfl dX12_slot_135 ?_
        refine sm_bipush (Y := mX12_slot) (pc := 136) 7 (by decide) dX12_slot_136 ?_
        refine sm_icmp_ne (Y := mX12_slot) (pc := 138) 149 (by decide) dX12_slot_138 (fun hc => ?_) (fun hc => ?_)
        · replace h := h.1 hc
          refine sm_aload_n (Y := mX12_slot) (pc := 149) 1 0 rfl rfl dX12_slot_149 ?_
          refine gf_RX12_173 (Y := mX12_slot) (pc := 150) rfl ((lk_109 hly) _) dX12_slot_150 ?_
          refine sm_l2i (Y := mX12_slot) (pc := 153) dX12_slot_153 ?_
          exact sm_iret (Y := mX12_slot) (pc := 154) rfl rfl rfl dX12_slot_154 ⟨_, rfl, h⟩
        · replace h := h.2 hc
          refine sm_aload_n (Y := mX12_slot) (pc := 141) 1 0 rfl rfl dX12_slot_141 ?_
          refine gf_RX12_170 (Y := mX12_slot) (pc := 142) rfl ((lk_109 hly) _) dX12_slot_142 ?_
          refine sm_l2i (Y := mX12_slot) (pc := 145) dX12_slot_145 ?_
          refine sm_goto (Y := mX12_slot) (pc := 146) 154 (by decide) dX12_slot_146 ?_
          exact sm_iret (Y := mX12_slot) (pc := 154) rfl rfl rfl dX12_slot_154 ⟨_, rfl, h⟩
      · replace h := h.2 hc
        refine sm_aload_n (Y := mX12_slot) (pc := 127) 1 0 rfl rfl dX12_slot_127 ?_
        refine sm_iconst (Y := mX12_slot) (pc := 128) 2 (by decide) dX12_slot_128 ?_
        refine sm_iv_I (Y := mX12_slot) (pc := 129) (As := [.int 2]) (a := 109) fX12_finds wRX12_194 (lk_109 hly) (by decide) rfl rfl rfl (Nat.le_trans (by decide) hd) (Nat.le_of_ble_eq_true rfl) ⟨Nat.le_refl _, Nat.le_refl _⟩ dX12_slot_129 rfl (sm_monoI h (fun r_12 m_11 h => ?_))
        refine sm_goto (Y := mX12_slot) (pc := 132) 154 (by decide) dX12_slot_132 ?_
        exact sm_iret (Y := mX12_slot) (pc := 154) rfl rfl rfl dX12_slot_154 ⟨_, rfl, h⟩
    · replace h := h.2 hc
      refine sm_aload_n (Y := mX12_slot) (pc := 19) 0 0 rfl rfl dX12_slot_19 ?_
      refine sm_iconst (Y := mX12_slot) (pc := 20) 1 (by decide) dX12_slot_20 ?_
      refine sm_iv_I (Y := mX12_slot) (pc := 21) (As := [.int 1]) (a := 109) fX12_finds wRX12_194 (lk_109 hly) (by decide) rfl rfl rfl (Nat.le_trans (by decide) hd) (Nat.le_of_ble_eq_true rfl) ⟨Nat.le_refl _, Nat.le_refl _⟩ dX12_slot_21 rfl (sm_monoI h (fun r_14 m_13 h => ?_))
      exact sm_iret (Y := mX12_slot) (pc := 24) rfl rfl rfl dX12_slot_24 ⟨_, rfl, h⟩
abbrev mX12_puts : sm_Y := (yX12_puts, cX12_puts, 2, none)
theorem fX12_puts : sm_mi mX12_puts RX12 1 := ⟨sm_in 1412 (by decide +kernel) (by decide +kernel), sm_in 1411 (by decide +kernel) (by decide +kernel), sm_in 45 (by decide +kernel) (by decide +kernel), sm_in 93 (by decide +kernel) (by decide +kernel), rfl, ⟨by decide +kernel, by decide +kernel, by decide +kernel⟩, by decide⟩
theorem dX12_puts_0 : decode cX12_puts 0 = .ok (.aload_n 0, 1) := dk_aload_n_0 (by decide +kernel)
theorem dX12_puts_1 : decode cX12_puts 1 = .ok (.getfield 25, 3) := dk_getfield 25 (b1 := 0) (b2 := 25) (by decide +kernel) (by decide +kernel) (by decide +kernel) (by decide +kernel)
theorem dX12_puts_4 : decode cX12_puts 4 = .ok (.aload_n 0, 1) := dk_aload_n_0 (by decide +kernel)
theorem dX12_puts_5 : decode cX12_puts 5 = .ok (.getfield 201, 3) := dk_getfield 201 (b1 := 0) (b2 := 201) (by decide +kernel) (by decide +kernel) (by decide +kernel) (by decide +kernel)
theorem dX12_puts_8 : decode cX12_puts 8 = .ok (.iload_n 1, 1) := dk_iload_n_1 (by decide +kernel)
theorem dX12_puts_9 : decode cX12_puts 9 = .ok (.iastore, 1) := dk_iastore (by decide +kernel)
theorem dX12_puts_10 : decode cX12_puts 10 = .ok (.aload_n 0, 1) := dk_aload_n_0 (by decide +kernel)
theorem dX12_puts_11 : decode cX12_puts 11 = .ok (.dup, 1) := dk_dup (by decide +kernel)
theorem dX12_puts_12 : decode cX12_puts 12 = .ok (.getfield 201, 3) := dk_getfield 201 (b1 := 0) (b2 := 201) (by decide +kernel) (by decide +kernel) (by decide +kernel) (by decide +kernel)
theorem dX12_puts_15 : decode cX12_puts 15 = .ok (.iconst 1, 1) := dk_iconst_1 (by decide +kernel)
theorem dX12_puts_16 : decode cX12_puts 16 = .ok (.iadd, 1) := dk_iadd (by decide +kernel)
theorem dX12_puts_17 : decode cX12_puts 17 = .ok (.putfield 201, 3) := dk_putfield 201 (b1 := 0) (b2 := 201) (by decide +kernel) (by decide +kernel) (by decide +kernel) (by decide +kernel)
theorem dX12_puts_20 : decode cX12_puts 20 = .ok (.return_, 1) := dk_return_ (by decide +kernel)
set_option maxRecDepth 20000 in
theorem vX12_puts_0 {E : sm_E} {L : sm_S → Prop} {d : Nat} {x1 : Int32}  {m : sm_M} {Q : sm_M → Prop} (hly : ∀ S, L S → ly S) (hd : 1 ≤ d) 
  (h : (vp_in (m.1 109 6) 200) ∧ ∀ m_1 : sm_M, m_1 = sm_wI m 115 (m.1 109 6).toNatClampNeg x1 →
   ∀ m_3 : sm_M, m_3 = sm_wI m_1 109 6 ((m_1.1 109 6) + 1) →
   Q m_3) :
  sm_callV E L mX12_puts d 0 0 [.ref (sm_B E + 109), .int x1] m Q := by
  refine sm_enter (by decide +kernel) (by simp [lg_sl, Value.category]) ?_
  refine sm_aload_n (Y := mX12_puts) (pc := 0) 0 0 rfl rfl dX12_puts_0 ?_
  refine gf_RX12_25 (Y := mX12_puts) (pc := 1) (b := 115) rfl ((lk_109 hly) _) (lf_109_5 hly _) dX12_puts_1 ?_
  refine sm_aload_n (Y := mX12_puts) (pc := 4) 0 0 rfl rfl dX12_puts_4 ?_
  refine gf_RX12_201 (Y := mX12_puts) (pc := 5) rfl ((lk_109 hly) _) dX12_puts_5 ?_
  refine sm_iload_n (Y := mX12_puts) (pc := 8) 1 1 rfl rfl dX12_puts_8 ?_
  obtain ⟨hn_2, h⟩ := h
  refine sm_iast (Y := mX12_puts) (pc := 9) (la_115 hly _) hn_2 dX12_puts_9 (fun m_1 em_1 => ?_)
  replace h := h m_1 em_1
  refine sm_aload_n (Y := mX12_puts) (pc := 10) 0 0 rfl rfl dX12_puts_10 ?_
  refine sm_dup (Y := mX12_puts) (pc := 11) rfl dX12_puts_11 ?_
  refine gf_RX12_201 (Y := mX12_puts) (pc := 12) rfl ((lk_109 hly) _) dX12_puts_12 ?_
  refine sm_iconst (Y := mX12_puts) (pc := 15) 1 (by decide) dX12_puts_15 ?_
  refine sm_iadd (Y := mX12_puts) (pc := 16) dX12_puts_16 ?_
  refine pf_RX12_201 (Y := mX12_puts) (pc := 17) rfl ((lk_109 hly) _) dX12_puts_17 (fun m_3 em_3 => ?_)
  replace h := h m_3 em_3
  exact sm_vret (Y := mX12_puts) (pc := 20) rfl rfl rfl dX12_puts_20 ⟨rfl, h⟩
abbrev mX12_putsSlot : sm_Y := (yX12_putsSlot, cX12_putsSlot, 3, none)
theorem fX12_putsSlot : sm_mi mX12_putsSlot RX12 1 := ⟨sm_in 1427 (by decide +kernel) (by decide +kernel), sm_in 1426 (by decide +kernel) (by decide +kernel), sm_in 47 (by decide +kernel) (by decide +kernel), sm_in 93 (by decide +kernel) (by decide +kernel), rfl, ⟨by decide +kernel, by decide +kernel, by decide +kernel⟩, by decide⟩
def gX12_putsSlot_2 (E : sm_E) (L : sm_S → Prop) (d : Nat) (vs : List Value) (x1 : Int32) (x2 : Int32) (m : sm_M) (Q : sm_M → Prop) : Prop := sm_go E L mX12_putsSlot d 0 0 vs 2 [(0, .ref (sm_B E + 109)), (1, .int x1), (2, .int x2)] [] m 0 0 (sm_Z E L vs 0 0 (sm_QV Q))
theorem dX12_putsSlot_2 : decode cX12_putsSlot 2 = .ok (.iload_n 2, 1) := dk_iload_n_2 (by decide +kernel)
theorem dX12_putsSlot_3 : decode cX12_putsSlot 3 = .ok (.aload_n 0, 1) := dk_aload_n_0 (by decide +kernel)
theorem dX12_putsSlot_4 : decode cX12_putsSlot 4 = .ok (.getfield 16, 3) := dk_getfield 16 (b1 := 0) (b2 := 16) (by decide +kernel) (by decide +kernel) (by decide +kernel) (by decide +kernel)
theorem dX12_putsSlot_7 : decode cX12_putsSlot 7 = .ok (.iload_n 1, 1) := dk_iload_n_1 (by decide +kernel)
theorem dX12_putsSlot_8 : decode cX12_putsSlot 8 = .ok (.iaload, 1) := dk_iaload (by decide +kernel)
theorem dX12_putsSlot_9 : decode cX12_putsSlot 9 = .ok (.if_icmp .ge 24, 3) := dk_if_icmp_ge 24 (b1 := 0) (b2 := 24) (by decide +kernel) (by decide +kernel) (by decide +kernel) (by decide +kernel)
theorem dX12_putsSlot_33 : decode cX12_putsSlot 33 = .ok (.return_, 1) := dk_return_ (by decide +kernel)
theorem dX12_putsSlot_12 : decode cX12_putsSlot 12 = .ok (.aload_n 0, 1) := dk_aload_n_0 (by decide +kernel)
theorem dX12_putsSlot_13 : decode cX12_putsSlot 13 = .ok (.aload_n 0, 1) := dk_aload_n_0 (by decide +kernel)
theorem dX12_putsSlot_14 : decode cX12_putsSlot 14 = .ok (.getfield 13, 3) := dk_getfield 13 (b1 := 0) (b2 := 13) (by decide +kernel) (by decide +kernel) (by decide +kernel) (by decide +kernel)
theorem dX12_putsSlot_17 : decode cX12_putsSlot 17 = .ok (.bipush 60, 2) := dk_bipush 60 (b := 60) (by decide +kernel) (by decide +kernel) (by decide +kernel)
theorem dX12_putsSlot_19 : decode cX12_putsSlot 19 = .ok (.iload_n 1, 1) := dk_iload_n_1 (by decide +kernel)
theorem dX12_putsSlot_20 : decode cX12_putsSlot 20 = .ok (.imul, 1) := dk_imul (by decide +kernel)
theorem dX12_putsSlot_21 : decode cX12_putsSlot 21 = .ok (.iload_n 2, 1) := dk_iload_n_2 (by decide +kernel)
theorem dX12_putsSlot_22 : decode cX12_putsSlot 22 = .ok (.iadd, 1) := dk_iadd (by decide +kernel)
theorem dX12_putsSlot_23 : decode cX12_putsSlot 23 = .ok (.iaload, 1) := dk_iaload (by decide +kernel)
theorem wRX12_204 : Cond.methodLink RX12 204 yX12_puts ∈ sm_T := sm_in 1409 (by decide +kernel) (by decide +kernel)
theorem dX12_putsSlot_24 : decode cX12_putsSlot 24 = .ok (.invokevirtual 204, 3) := dk_invokevirtual 204 (b1 := 0) (b2 := 204) (by decide +kernel) (by decide +kernel) (by decide +kernel) (by decide +kernel)
theorem dX12_putsSlot_27 : decode cX12_putsSlot 27 = .ok (.iinc 2 1, 3) := dk_iinc 2 1 (b1 := 2) (b2 := 1) (by decide +kernel) (by decide +kernel) (by decide +kernel) (by decide +kernel) (by decide +kernel)
theorem dX12_putsSlot_30 : decode cX12_putsSlot 30 = .ok (.goto (-28), 3) := dk_goto (-28) (b1 := 255) (b2 := 228) (by decide +kernel) (by decide +kernel) (by decide +kernel) (by decide +kernel)
set_option maxRecDepth 20000 in
theorem vX12_putsSlot_2 {E : sm_E} {L : sm_S → Prop} {d : Nat} {vs : List Value} {x1 : Int32} {x2 : Int32}  {m : sm_M} {Q : sm_M → Prop} (hly : ∀ S, L S → ly S) (hd : 2 ≤ d) 
  (h : (vp_in x1 6) ∧ ((m.1 112 x1.toNatClampNeg) ≤ x2 →
      Q m) ∧
   (¬ (m.1 112 x1.toNatClampNeg) ≤ x2 →
      (vp_in (((60 : Int32) * x1) + x2) 360) ∧ sm_callV E L mX12_puts 1 0 0 [.ref (sm_B E + 109), .int (m.1 111 (((60 : Int32) * x1) + x2).toNatClampNeg)] m (fun m_3 =>
      ∀ x2_4 : Int32, x2_4 = x2 + 1 →
      gX12_putsSlot_2 E L d vs x1 x2_4 m_3 Q))) :
  gX12_putsSlot_2 E L d vs x1 x2 m Q := by
  refine sm_iload_n (Y := mX12_putsSlot) (pc := 2) 2 2 rfl rfl dX12_putsSlot_2 ?_
  refine sm_aload_n (Y := mX12_putsSlot) (pc := 3) 0 0 rfl rfl dX12_putsSlot_3 ?_
  refine gf_RX12_16 (Y := mX12_putsSlot) (pc := 4) (b := 112) rfl ((lk_109 hly) _) (lf_109_2 hly _) dX12_putsSlot_4 ?_
  refine sm_iload_n (Y := mX12_putsSlot) (pc := 7) 1 1 rfl rfl dX12_putsSlot_7 ?_
  obtain ⟨hn_1, h⟩ := h
  refine sm_iald (Y := mX12_putsSlot) (pc := 8) (la_112 hly _) hn_1 dX12_putsSlot_8 ?_
  refine sm_icmp_ge (Y := mX12_putsSlot) (pc := 9) 33 (by decide) dX12_putsSlot_9 (fun hc => ?_) (fun hc => ?_)
  · replace h := h.1 hc
    exact sm_vret (Y := mX12_putsSlot) (pc := 33) rfl rfl rfl dX12_putsSlot_33 ⟨rfl, h⟩
  · replace h := h.2 hc
    refine sm_aload_n (Y := mX12_putsSlot) (pc := 12) 0 0 rfl rfl dX12_putsSlot_12 ?_
    refine sm_aload_n (Y := mX12_putsSlot) (pc := 13) 0 0 rfl rfl dX12_putsSlot_13 ?_
    refine gf_RX12_13 (Y := mX12_putsSlot) (pc := 14) (b := 111) rfl ((lk_109 hly) _) (lf_109_1 hly _) dX12_putsSlot_14 ?_
    refine sm_bipush (Y := mX12_putsSlot) (pc := 17) 60 (by decide) dX12_putsSlot_17 ?_
    refine sm_iload_n (Y := mX12_putsSlot) (pc := 19) 1 1 rfl rfl dX12_putsSlot_19 ?_
    refine sm_imul (Y := mX12_putsSlot) (pc := 20) dX12_putsSlot_20 ?_
    refine sm_iload_n (Y := mX12_putsSlot) (pc := 21) 2 2 rfl rfl dX12_putsSlot_21 ?_
    refine sm_iadd (Y := mX12_putsSlot) (pc := 22) dX12_putsSlot_22 ?_
    obtain ⟨hn_2, h⟩ := h
    refine sm_iald (Y := mX12_putsSlot) (pc := 23) (la_111 hly _) hn_2 dX12_putsSlot_23 ?_
    refine sm_iv_V (Y := mX12_putsSlot) (pc := 24) (As := [.int (m.1 111 (((60 : Int32) * x1) + x2).toNatClampNeg)]) (a := 109) fX12_puts wRX12_204 (lk_109 hly) (by decide) rfl rfl rfl (Nat.le_trans (by decide) hd) (Nat.le_of_ble_eq_true rfl) ⟨Nat.le_refl _, Nat.le_refl _⟩ dX12_putsSlot_24 rfl (sm_monoV h (fun m_3 h => ?_))
    refine sm_iinc (Y := mX12_putsSlot) (pc := 27) (fun y => [(2, .int y), (0, .ref (sm_B E + 109)), (1, .int x1)]) 2 2 rfl (by decide) (fun _ => rfl) dX12_putsSlot_27 (fun x2_4 ex2_4 => ?_)
    replace h := h x2_4 ex2_4
    refine sm_goto (Y := mX12_putsSlot) (pc := 30) 2 (by decide) dX12_putsSlot_30 ?_
    refine sm_sub [1, 2, 0] rfl ?_
    exact h
theorem dX12_putsSlot_0 : decode cX12_putsSlot 0 = .ok (.iconst 0, 1) := dk_iconst_0 (by decide +kernel)
theorem dX12_putsSlot_1 : decode cX12_putsSlot 1 = .ok (.istore_n 2, 1) := dk_istore_n_2 (by decide +kernel)
set_option maxRecDepth 20000 in
theorem vX12_putsSlot_0 {E : sm_E} {L : sm_S → Prop} {d : Nat} {x1 : Int32}  {m : sm_M} {Q : sm_M → Prop}  (hd : 2 ≤ d) 
  (h : gX12_putsSlot_2 E L d ([.ref (sm_B E + 109), .int x1]) x1 0 m Q) :
  sm_callV E L mX12_putsSlot d 0 0 [.ref (sm_B E + 109), .int x1] m Q := by
  refine sm_enter (by decide +kernel) (by simp [lg_sl, Value.category]) ?_
  refine sm_iconst (Y := mX12_putsSlot) (pc := 0) 0 (by decide) dX12_putsSlot_0 ?_
  refine sm_istore0_n (Y := mX12_putsSlot) (pc := 1) [(2, .int 0), (0, .ref (sm_B E + 109)), (1, .int x1)] 2 rfl (by decide) rfl dX12_putsSlot_1 ?_
  refine sm_sub [1, 2, 0] rfl ?_
  exact h
abbrev mX12_isTooMuch : sm_Y := (yX12_isTooMuch, cX12_isTooMuch, 1, (some FieldType.boolean))
theorem fX12_isTooMuch : sm_mi mX12_isTooMuch RX12 0 := ⟨sm_in 1431 (by decide +kernel) (by decide +kernel), sm_in 1430 (by decide +kernel) (by decide +kernel), sm_in 48 (by decide +kernel) (by decide +kernel), sm_in 93 (by decide +kernel) (by decide +kernel), rfl, ⟨by decide +kernel, by decide +kernel, by decide +kernel⟩, by decide⟩
theorem dX12_isTooMuch_0 : decode cX12_isTooMuch 0 = .ok (.aload_n 0, 1) := dk_aload_n_0 (by decide +kernel)
theorem dX12_isTooMuch_1 : decode cX12_isTooMuch 1 = .ok (.aload_n 0, 1) := dk_aload_n_0 (by decide +kernel)
theorem dX12_isTooMuch_2 : decode cX12_isTooMuch 2 = .ok (.getfield 25, 3) := dk_getfield 25 (b1 := 0) (b2 := 25) (by decide +kernel) (by decide +kernel) (by decide +kernel) (by decide +kernel)
theorem dX12_isTooMuch_5 : decode cX12_isTooMuch 5 = .ok (.iconst 0, 1) := dk_iconst_0 (by decide +kernel)
theorem dX12_isTooMuch_6 : decode cX12_isTooMuch 6 = .ok (.aload_n 0, 1) := dk_aload_n_0 (by decide +kernel)
theorem dX12_isTooMuch_7 : decode cX12_isTooMuch 7 = .ok (.getfield 201, 3) := dk_getfield 201 (b1 := 0) (b2 := 201) (by decide +kernel) (by decide +kernel) (by decide +kernel) (by decide +kernel)
theorem dX12_isTooMuch_10 : decode cX12_isTooMuch 10 = .ok (.invokevirtual 162, 3) := dk_invokevirtual 162 (b1 := 0) (b2 := 162) (by decide +kernel) (by decide +kernel) (by decide +kernel) (by decide +kernel)
theorem dX12_isTooMuch_13 : decode cX12_isTooMuch 13 = .ok (.aload_n 0, 1) := dk_aload_n_0 (by decide +kernel)
theorem dX12_isTooMuch_14 : decode cX12_isTooMuch 14 = .ok (.getfield 138, 3) := dk_getfield 138 (b1 := 0) (b2 := 138) (by decide +kernel) (by decide +kernel) (by decide +kernel) (by decide +kernel)
theorem dX12_isTooMuch_17 : decode cX12_isTooMuch 17 = .ok (.bipush 24, 2) := dk_bipush 24 (b := 24) (by decide +kernel) (by decide +kernel) (by decide +kernel)
theorem dX12_isTooMuch_19 : decode cX12_isTooMuch 19 = .ok (.if_icmp .gt 21, 3) := dk_if_icmp_gt 21 (b1 := 0) (b2 := 21) (by decide +kernel) (by decide +kernel) (by decide +kernel) (by decide +kernel)
theorem dX12_isTooMuch_40 : decode cX12_isTooMuch 40 = .ok (.iconst 1, 1) := dk_iconst_1 (by decide +kernel)
theorem dX12_isTooMuch_41 : decode cX12_isTooMuch 41 = .ok (.goto 4, 3) := dk_goto 4 (b1 := 0) (b2 := 4) (by decide +kernel) (by decide +kernel) (by decide +kernel) (by decide +kernel)
theorem dX12_isTooMuch_45 : decode cX12_isTooMuch 45 = .ok (.ireturn, 1) := dk_ireturn (by decide +kernel)
theorem dX12_isTooMuch_22 : decode cX12_isTooMuch 22 = .ok (.aload_n 0, 1) := dk_aload_n_0 (by decide +kernel)
theorem dX12_isTooMuch_23 : decode cX12_isTooMuch 23 = .ok (.getfield 141, 3) := dk_getfield 141 (b1 := 0) (b2 := 141) (by decide +kernel) (by decide +kernel) (by decide +kernel) (by decide +kernel)
theorem dX12_isTooMuch_26 : decode cX12_isTooMuch 26 = .ok (.bipush 24, 2) := dk_bipush 24 (b := 24) (by decide +kernel) (by decide +kernel) (by decide +kernel)
theorem dX12_isTooMuch_28 : decode cX12_isTooMuch 28 = .ok (.if_icmp .gt 12, 3) := dk_if_icmp_gt 12 (b1 := 0) (b2 := 12) (by decide +kernel) (by decide +kernel) (by decide +kernel) (by decide +kernel)
theorem dX12_isTooMuch_31 : decode cX12_isTooMuch 31 = .ok (.aload_n 0, 1) := dk_aload_n_0 (by decide +kernel)
theorem dX12_isTooMuch_32 : decode cX12_isTooMuch 32 = .ok (.getfield 201, 3) := dk_getfield 201 (b1 := 0) (b2 := 201) (by decide +kernel) (by decide +kernel) (by decide +kernel) (by decide +kernel)
theorem dX12_isTooMuch_35 : decode cX12_isTooMuch 35 = .ok (.bipush 60, 2) := dk_bipush 60 (b := 60) (by decide +kernel) (by decide +kernel) (by decide +kernel)
theorem dX12_isTooMuch_37 : decode cX12_isTooMuch 37 = .ok (.if_icmp .le 7, 3) := dk_if_icmp_le 7 (b1 := 0) (b2 := 7) (by decide +kernel) (by decide +kernel) (by decide +kernel) (by decide +kernel)
theorem dX12_isTooMuch_44 : decode cX12_isTooMuch 44 = .ok (.iconst 0, 1) := dk_iconst_0 (by decide +kernel)
set_option maxRecDepth 20000 in
theorem vX12_isTooMuch_0 {E : sm_E} {L : sm_S → Prop} {d : Nat}   {m : sm_M} {Q : Int32 → sm_M → Prop} (hly : ∀ S, L S → ly S) (hd : 3 ≤ d) 
  (h : sm_callV E L mX12_measures 2 0 0 [.ref (sm_B E + 109), .ref (sm_B E + 115), .int 0, .int (m.1 109 6)] m (fun m_1 =>
   (24 < (m_1.1 109 26) →
      Q 1 m_1) ∧
   (¬ 24 < (m_1.1 109 26) →
      (24 < (m_1.1 109 27) →
         Q 1 m_1) ∧
      (¬ 24 < (m_1.1 109 27) →
         ((m_1.1 109 6) ≤ 60 →
            Q 0 m_1) ∧
         (¬ (m_1.1 109 6) ≤ 60 →
            Q 1 m_1))))) :
  sm_callI E L mX12_isTooMuch d 0 0 [.ref (sm_B E + 109)] m Q := by
  refine sm_enter (by decide +kernel) (by simp [lg_sl, Value.category]) ?_
  refine sm_aload_n (Y := mX12_isTooMuch) (pc := 0) 0 0 rfl rfl dX12_isTooMuch_0 ?_
  refine sm_aload_n (Y := mX12_isTooMuch) (pc := 1) 0 0 rfl rfl dX12_isTooMuch_1 ?_
  refine gf_RX12_25 (Y := mX12_isTooMuch) (pc := 2) (b := 115) rfl ((lk_109 hly) _) (lf_109_5 hly _) dX12_isTooMuch_2 ?_
  refine sm_iconst (Y := mX12_isTooMuch) (pc := 5) 0 (by decide) dX12_isTooMuch_5 ?_
  refine sm_aload_n (Y := mX12_isTooMuch) (pc := 6) 0 0 rfl rfl dX12_isTooMuch_6 ?_
  refine gf_RX12_201 (Y := mX12_isTooMuch) (pc := 7) rfl ((lk_109 hly) _) dX12_isTooMuch_7 ?_
  refine sm_iv_V (Y := mX12_isTooMuch) (pc := 10) (As := [.ref (sm_B E + 115), .int 0, .int (m.1 109 6)]) (a := 109) fX12_measures wRX12_162 (lk_109 hly) (by decide) rfl rfl rfl (Nat.le_trans (by decide) hd) (Nat.le_of_ble_eq_true rfl) ⟨Nat.le_refl _, Nat.le_refl _⟩ dX12_isTooMuch_10 rfl (sm_monoV h (fun m_1 h => ?_))
  refine sm_aload_n (Y := mX12_isTooMuch) (pc := 13) 0 0 rfl rfl dX12_isTooMuch_13 ?_
  refine gf_RX12_138 (Y := mX12_isTooMuch) (pc := 14) rfl ((lk_109 hly) _) dX12_isTooMuch_14 ?_
  refine sm_bipush (Y := mX12_isTooMuch) (pc := 17) 24 (by decide) dX12_isTooMuch_17 ?_
  refine sm_icmp_gt (Y := mX12_isTooMuch) (pc := 19) 40 (by decide) dX12_isTooMuch_19 (fun hc => ?_) (fun hc => ?_)
  · replace h := h.1 hc
    refine sm_iconst (Y := mX12_isTooMuch) (pc := 40) 1 (by decide) dX12_isTooMuch_40 ?_
    refine sm_goto (Y := mX12_isTooMuch) (pc := 41) 45 (by decide) dX12_isTooMuch_41 ?_
    exact sm_zret (Y := mX12_isTooMuch) (pc := 45) rfl (by decide) rfl rfl dX12_isTooMuch_45 ⟨_, rfl, h⟩
  · replace h := h.2 hc
    refine sm_aload_n (Y := mX12_isTooMuch) (pc := 22) 0 0 rfl rfl dX12_isTooMuch_22 ?_
    refine gf_RX12_141 (Y := mX12_isTooMuch) (pc := 23) rfl ((lk_109 hly) _) dX12_isTooMuch_23 ?_
    refine sm_bipush (Y := mX12_isTooMuch) (pc := 26) 24 (by decide) dX12_isTooMuch_26 ?_
    refine sm_icmp_gt (Y := mX12_isTooMuch) (pc := 28) 40 (by decide) dX12_isTooMuch_28 (fun hc => ?_) (fun hc => ?_)
    · replace h := h.1 hc
      refine sm_iconst (Y := mX12_isTooMuch) (pc := 40) 1 (by decide) dX12_isTooMuch_40 ?_
      refine sm_goto (Y := mX12_isTooMuch) (pc := 41) 45 (by decide) dX12_isTooMuch_41 ?_
      exact sm_zret (Y := mX12_isTooMuch) (pc := 45) rfl (by decide) rfl rfl dX12_isTooMuch_45 ⟨_, rfl, h⟩
    · replace h := h.2 hc
      refine sm_aload_n (Y := mX12_isTooMuch) (pc := 31) 0 0 rfl rfl dX12_isTooMuch_31 ?_
      refine gf_RX12_201 (Y := mX12_isTooMuch) (pc := 32) rfl ((lk_109 hly) _) dX12_isTooMuch_32 ?_
      refine sm_bipush (Y := mX12_isTooMuch) (pc := 35) 60 (by decide) dX12_isTooMuch_35 ?_
      refine sm_icmp_le (Y := mX12_isTooMuch) (pc := 37) 44 (by decide) dX12_isTooMuch_37 (fun hc => ?_) (fun hc => ?_)
      · replace h := h.1 hc
        refine sm_iconst (Y := mX12_isTooMuch) (pc := 44) 0 (by decide) dX12_isTooMuch_44 ?_
        exact sm_zret (Y := mX12_isTooMuch) (pc := 45) rfl (by decide) rfl rfl dX12_isTooMuch_45 ⟨_, rfl, h⟩
      · replace h := h.2 hc
        refine sm_iconst (Y := mX12_isTooMuch) (pc := 40) 1 (by decide) dX12_isTooMuch_40 ?_
        refine sm_goto (Y := mX12_isTooMuch) (pc := 41) 45 (by decide) dX12_isTooMuch_41 ?_
        exact sm_zret (Y := mX12_isTooMuch) (pc := 45) rfl (by decide) rfl rfl dX12_isTooMuch_45 ⟨_, rfl, h⟩
abbrev mX12_comesTo : sm_Y := (yX12_comesTo, cX12_comesTo, 3, (some FieldType.int))
theorem fX12_comesTo : sm_mi mX12_comesTo RX12 1 := ⟨sm_in 1416 (by decide +kernel) (by decide +kernel), sm_in 1415 (by decide +kernel) (by decide +kernel), sm_in 46 (by decide +kernel) (by decide +kernel), sm_in 93 (by decide +kernel) (by decide +kernel), rfl, ⟨by decide +kernel, by decide +kernel, by decide +kernel⟩, by decide⟩
def gX12_comesTo_12 (E : sm_E) (L : sm_S → Prop) (d : Nat) (vs : List Value) (x1 : Int32) (x2 : Int32) (m : sm_M) (Q : Int32 → sm_M → Prop) : Prop := sm_go E L mX12_comesTo d 0 0 vs 12 [(0, .ref (sm_B E + 109)), (1, .int x1), (2, .int x2)] [] m 0 0 (sm_Z E L vs 0 0 (sm_QI Q))
theorem dX12_comesTo_12 : decode cX12_comesTo 12 = .ok (.iload_n 2, 1) := dk_iload_n_2 (by decide +kernel)
theorem dX12_comesTo_13 : decode cX12_comesTo 13 = .ok (.aload_n 0, 1) := dk_aload_n_0 (by decide +kernel)
theorem dX12_comesTo_14 : decode cX12_comesTo 14 = .ok (.getfield 201, 3) := dk_getfield 201 (b1 := 0) (b2 := 201) (by decide +kernel) (by decide +kernel) (by decide +kernel) (by decide +kernel)
theorem dX12_comesTo_17 : decode cX12_comesTo 17 = .ok (.if_icmp .ge 26, 3) := dk_if_icmp_ge 26 (b1 := 0) (b2 := 26) (by decide +kernel) (by decide +kernel) (by decide +kernel) (by decide +kernel)
theorem dX12_comesTo_43 : decode cX12_comesTo 43 = .ok (.aload_n 0, 1) := dk_aload_n_0 (by decide +kernel)
theorem dX12_comesTo_44 : decode cX12_comesTo 44 = .ok (.iload_n 1, 1) := dk_iload_n_1 (by decide +kernel)
theorem dX12_comesTo_45 : decode cX12_comesTo 45 = .ok (.invokevirtual 176, 3) := dk_invokevirtual 176 (b1 := 0) (b2 := 176) (by decide +kernel) (by decide +kernel) (by decide +kernel) (by decide +kernel)
theorem dX12_comesTo_48 : decode cX12_comesTo 48 = .ok (.aload_n 0, 1) := dk_aload_n_0 (by decide +kernel)
theorem dX12_comesTo_49 : decode cX12_comesTo 49 = .ok (.getfield 141, 3) := dk_getfield 141 (b1 := 0) (b2 := 141) (by decide +kernel) (by decide +kernel) (by decide +kernel) (by decide +kernel)
theorem dX12_comesTo_52 : decode cX12_comesTo 52 = .ok (.ireturn, 1) := dk_ireturn (by decide +kernel)
theorem dX12_comesTo_20 : decode cX12_comesTo 20 = .ok (.aload_n 0, 1) := dk_aload_n_0 (by decide +kernel)
theorem dX12_comesTo_21 : decode cX12_comesTo 21 = .ok (.getfield 13, 3) := dk_getfield 13 (b1 := 0) (b2 := 13) (by decide +kernel) (by decide +kernel) (by decide +kernel) (by decide +kernel)
theorem dX12_comesTo_24 : decode cX12_comesTo 24 = .ok (.bipush 60, 2) := dk_bipush 60 (b := 60) (by decide +kernel) (by decide +kernel) (by decide +kernel)
theorem dX12_comesTo_26 : decode cX12_comesTo 26 = .ok (.iload_n 1, 1) := dk_iload_n_1 (by decide +kernel)
theorem dX12_comesTo_27 : decode cX12_comesTo 27 = .ok (.imul, 1) := dk_imul (by decide +kernel)
theorem dX12_comesTo_28 : decode cX12_comesTo 28 = .ok (.iload_n 2, 1) := dk_iload_n_2 (by decide +kernel)
theorem dX12_comesTo_29 : decode cX12_comesTo 29 = .ok (.iadd, 1) := dk_iadd (by decide +kernel)
theorem dX12_comesTo_30 : decode cX12_comesTo 30 = .ok (.aload_n 0, 1) := dk_aload_n_0 (by decide +kernel)
theorem dX12_comesTo_31 : decode cX12_comesTo 31 = .ok (.getfield 25, 3) := dk_getfield 25 (b1 := 0) (b2 := 25) (by decide +kernel) (by decide +kernel) (by decide +kernel) (by decide +kernel)
theorem dX12_comesTo_34 : decode cX12_comesTo 34 = .ok (.iload_n 2, 1) := dk_iload_n_2 (by decide +kernel)
theorem dX12_comesTo_35 : decode cX12_comesTo 35 = .ok (.iaload, 1) := dk_iaload (by decide +kernel)
theorem dX12_comesTo_36 : decode cX12_comesTo 36 = .ok (.iastore, 1) := dk_iastore (by decide +kernel)
theorem dX12_comesTo_37 : decode cX12_comesTo 37 = .ok (.iinc 2 1, 3) := dk_iinc 2 1 (b1 := 2) (b2 := 1) (by decide +kernel) (by decide +kernel) (by decide +kernel) (by decide +kernel) (by decide +kernel)
theorem dX12_comesTo_40 : decode cX12_comesTo 40 = .ok (.goto (-28), 3) := dk_goto (-28) (b1 := 255) (b2 := 228) (by decide +kernel) (by decide +kernel) (by decide +kernel) (by decide +kernel)
set_option maxRecDepth 20000 in
theorem vX12_comesTo_12 {E : sm_E} {L : sm_S → Prop} {d : Nat} {vs : List Value} {x1 : Int32} {x2 : Int32}  {m : sm_M} {Q : Int32 → sm_M → Prop} (hly : ∀ S, L S → ly S) (hd : 4 ≤ d) 
  (h : ((m.1 109 6) ≤ x2 →
      sm_callV E L mX12_measured 3 0 0 [.ref (sm_B E + 109), .int x1] m (fun m_1 =>
      Q (m_1.1 109 27) m_1)) ∧
   (¬ (m.1 109 6) ≤ x2 →
      (vp_in x2 200) ∧ (vp_in (((60 : Int32) * x1) + x2) 360) ∧ ∀ m_3 : sm_M, m_3 = sm_wI m 111 (((60 : Int32) * x1) + x2).toNatClampNeg (m.1 115 x2.toNatClampNeg) →
      ∀ x2_5 : Int32, x2_5 = x2 + 1 →
      gX12_comesTo_12 E L d vs x1 x2_5 m_3 Q)) :
  gX12_comesTo_12 E L d vs x1 x2 m Q := by
  refine sm_iload_n (Y := mX12_comesTo) (pc := 12) 2 2 rfl rfl dX12_comesTo_12 ?_
  refine sm_aload_n (Y := mX12_comesTo) (pc := 13) 0 0 rfl rfl dX12_comesTo_13 ?_
  refine gf_RX12_201 (Y := mX12_comesTo) (pc := 14) rfl ((lk_109 hly) _) dX12_comesTo_14 ?_
  refine sm_icmp_ge (Y := mX12_comesTo) (pc := 17) 43 (by decide) dX12_comesTo_17 (fun hc => ?_) (fun hc => ?_)
  · replace h := h.1 hc
    refine sm_aload_n (Y := mX12_comesTo) (pc := 43) 0 0 rfl rfl dX12_comesTo_43 ?_
    refine sm_iload_n (Y := mX12_comesTo) (pc := 44) 1 1 rfl rfl dX12_comesTo_44 ?_
    refine sm_iv_V (Y := mX12_comesTo) (pc := 45) (As := [.int x1]) (a := 109) fX12_measured wRX12_176 (lk_109 hly) (by decide) rfl rfl rfl (Nat.le_trans (by decide) hd) (Nat.le_of_ble_eq_true rfl) ⟨Nat.le_refl _, Nat.le_refl _⟩ dX12_comesTo_45 rfl (sm_monoV h (fun m_1 h => ?_))
    refine sm_aload_n (Y := mX12_comesTo) (pc := 48) 0 0 rfl rfl dX12_comesTo_48 ?_
    refine gf_RX12_141 (Y := mX12_comesTo) (pc := 49) rfl ((lk_109 hly) _) dX12_comesTo_49 ?_
    exact sm_iret (Y := mX12_comesTo) (pc := 52) rfl rfl rfl dX12_comesTo_52 ⟨_, rfl, h⟩
  · replace h := h.2 hc
    refine sm_aload_n (Y := mX12_comesTo) (pc := 20) 0 0 rfl rfl dX12_comesTo_20 ?_
    refine gf_RX12_13 (Y := mX12_comesTo) (pc := 21) (b := 111) rfl ((lk_109 hly) _) (lf_109_1 hly _) dX12_comesTo_21 ?_
    refine sm_bipush (Y := mX12_comesTo) (pc := 24) 60 (by decide) dX12_comesTo_24 ?_
    refine sm_iload_n (Y := mX12_comesTo) (pc := 26) 1 1 rfl rfl dX12_comesTo_26 ?_
    refine sm_imul (Y := mX12_comesTo) (pc := 27) dX12_comesTo_27 ?_
    refine sm_iload_n (Y := mX12_comesTo) (pc := 28) 2 2 rfl rfl dX12_comesTo_28 ?_
    refine sm_iadd (Y := mX12_comesTo) (pc := 29) dX12_comesTo_29 ?_
    refine sm_aload_n (Y := mX12_comesTo) (pc := 30) 0 0 rfl rfl dX12_comesTo_30 ?_
    refine gf_RX12_25 (Y := mX12_comesTo) (pc := 31) (b := 115) rfl ((lk_109 hly) _) (lf_109_5 hly _) dX12_comesTo_31 ?_
    refine sm_iload_n (Y := mX12_comesTo) (pc := 34) 2 2 rfl rfl dX12_comesTo_34 ?_
    obtain ⟨hn_2, h⟩ := h
    refine sm_iald (Y := mX12_comesTo) (pc := 35) (la_115 hly _) hn_2 dX12_comesTo_35 ?_
    obtain ⟨hn_4, h⟩ := h
    refine sm_iast (Y := mX12_comesTo) (pc := 36) (la_111 hly _) hn_4 dX12_comesTo_36 (fun m_3 em_3 => ?_)
    replace h := h m_3 em_3
    refine sm_iinc (Y := mX12_comesTo) (pc := 37) (fun y => [(2, .int y), (0, .ref (sm_B E + 109)), (1, .int x1)]) 2 2 rfl (by decide) (fun _ => rfl) dX12_comesTo_37 (fun x2_5 ex2_5 => ?_)
    replace h := h x2_5 ex2_5
    refine sm_goto (Y := mX12_comesTo) (pc := 40) 12 (by decide) dX12_comesTo_40 ?_
    refine sm_sub [1, 2, 0] rfl ?_
    exact h
theorem dX12_comesTo_0 : decode cX12_comesTo 0 = .ok (.aload_n 0, 1) := dk_aload_n_0 (by decide +kernel)
theorem dX12_comesTo_1 : decode cX12_comesTo 1 = .ok (.getfield 16, 3) := dk_getfield 16 (b1 := 0) (b2 := 16) (by decide +kernel) (by decide +kernel) (by decide +kernel) (by decide +kernel)
theorem dX12_comesTo_4 : decode cX12_comesTo 4 = .ok (.iload_n 1, 1) := dk_iload_n_1 (by decide +kernel)
theorem dX12_comesTo_5 : decode cX12_comesTo 5 = .ok (.aload_n 0, 1) := dk_aload_n_0 (by decide +kernel)
theorem dX12_comesTo_6 : decode cX12_comesTo 6 = .ok (.getfield 201, 3) := dk_getfield 201 (b1 := 0) (b2 := 201) (by decide +kernel) (by decide +kernel) (by decide +kernel) (by decide +kernel)
theorem dX12_comesTo_9 : decode cX12_comesTo 9 = .ok (.iastore, 1) := dk_iastore (by decide +kernel)
theorem dX12_comesTo_10 : decode cX12_comesTo 10 = .ok (.iconst 0, 1) := dk_iconst_0 (by decide +kernel)
theorem dX12_comesTo_11 : decode cX12_comesTo 11 = .ok (.istore_n 2, 1) := dk_istore_n_2 (by decide +kernel)
set_option maxRecDepth 20000 in
theorem vX12_comesTo_0 {E : sm_E} {L : sm_S → Prop} {d : Nat} {x1 : Int32}  {m : sm_M} {Q : Int32 → sm_M → Prop} (hly : ∀ S, L S → ly S) (hd : 4 ≤ d) 
  (h : (vp_in x1 6) ∧ ∀ m_1 : sm_M, m_1 = sm_wI m 112 x1.toNatClampNeg (m.1 109 6) →
   gX12_comesTo_12 E L d ([.ref (sm_B E + 109), .int x1]) x1 0 m_1 Q) :
  sm_callI E L mX12_comesTo d 0 0 [.ref (sm_B E + 109), .int x1] m Q := by
  refine sm_enter (by decide +kernel) (by simp [lg_sl, Value.category]) ?_
  refine sm_aload_n (Y := mX12_comesTo) (pc := 0) 0 0 rfl rfl dX12_comesTo_0 ?_
  refine gf_RX12_16 (Y := mX12_comesTo) (pc := 1) (b := 112) rfl ((lk_109 hly) _) (lf_109_2 hly _) dX12_comesTo_1 ?_
  refine sm_iload_n (Y := mX12_comesTo) (pc := 4) 1 1 rfl rfl dX12_comesTo_4 ?_
  refine sm_aload_n (Y := mX12_comesTo) (pc := 5) 0 0 rfl rfl dX12_comesTo_5 ?_
  refine gf_RX12_201 (Y := mX12_comesTo) (pc := 6) rfl ((lk_109 hly) _) dX12_comesTo_6 ?_
  obtain ⟨hn_2, h⟩ := h
  refine sm_iast (Y := mX12_comesTo) (pc := 9) (la_112 hly _) hn_2 dX12_comesTo_9 (fun m_1 em_1 => ?_)
  replace h := h m_1 em_1
  refine sm_iconst (Y := mX12_comesTo) (pc := 10) 0 (by decide) dX12_comesTo_10 ?_
  refine sm_istore0_n (Y := mX12_comesTo) (pc := 11) [(2, .int 0), (0, .ref (sm_B E + 109)), (1, .int x1)] 2 rfl (by decide) rfl dX12_comesTo_11 ?_
  refine sm_sub [1, 2, 0] rfl ?_
  exact h
abbrev mX12_leaf : sm_Y := (yX12_leaf, cX12_leaf, 3, (some FieldType.int))
theorem fX12_leaf : sm_mi mX12_leaf RX12 2 := ⟨sm_in 1406 (by decide +kernel) (by decide +kernel), sm_in 1404 (by decide +kernel) (by decide +kernel), sm_in 1405 (by decide +kernel) (by decide +kernel), sm_in 93 (by decide +kernel) (by decide +kernel), rfl, ⟨by decide +kernel, by decide +kernel, by decide +kernel⟩, by decide⟩
theorem dX12_leaf_0 : decode cX12_leaf 0 = .ok (.iload_n 1, 1) := dk_iload_n_1 (by decide +kernel)
theorem dX12_leaf_1 : decode cX12_leaf 1 = .ok (.invokestatic 184, 3) := dk_invokestatic 184 (b1 := 0) (b2 := 184) (by decide +kernel) (by decide +kernel) (by decide +kernel) (by decide +kernel)
theorem dX12_leaf_4 : decode cX12_leaf 4 = .ok (.ifCond .eq 17, 3) := dk_ifCond_eq 17 (b1 := 0) (b2 := 17) (by decide +kernel) (by decide +kernel) (by decide +kernel) (by decide +kernel)
theorem dX12_leaf_21 : decode cX12_leaf 21 = .ok (.aload_n 0, 1) := dk_aload_n_0 (by decide +kernel)
theorem dX12_leaf_22 : decode cX12_leaf 22 = .ok (.iconst 1, 1) := dk_iconst_1 (by decide +kernel)
theorem dX12_leaf_23 : decode cX12_leaf 23 = .ok (.invokevirtual 194, 3) := dk_invokevirtual 194 (b1 := 0) (b2 := 194) (by decide +kernel) (by decide +kernel) (by decide +kernel) (by decide +kernel)
theorem dX12_leaf_26 : decode cX12_leaf 26 = .ok (.ireturn, 1) := dk_ireturn (by decide +kernel)
theorem dX12_leaf_7 : decode cX12_leaf 7 = .ok (.iload_n 2, 1) := dk_iload_n_2 (by decide +kernel)
theorem dX12_leaf_8 : decode cX12_leaf 8 = .ok (.i2l, 1) := dk_i2l (by decide +kernel)
theorem wRX12_207 : Cond.constantLong RX12 207 (-9) ∈ sm_T := sm_in 1407 (by decide +kernel) (by decide +kernel)
theorem dX12_leaf_9 : decode cX12_leaf 9 = .ok (.ldc2_w 207, 3) := dk_ldc2_w 207 (b1 := 0) (b2 := 207) (by decide +kernel) (by decide +kernel) (by decide +kernel) (by decide +kernel)
theorem wRX12_209 : Cond.constantLong RX12 209 10 ∈ sm_T := sm_in 1408 (by decide +kernel) (by decide +kernel)
theorem dX12_leaf_12 : decode cX12_leaf 12 = .ok (.ldc2_w 209, 3) := dk_ldc2_w 209 (b1 := 0) (b2 := 209) (by decide +kernel) (by decide +kernel) (by decide +kernel) (by decide +kernel)
theorem dX12_leaf_15 : decode cX12_leaf 15 = .ok (.invokestatic 190, 3) := dk_invokestatic 190 (b1 := 0) (b2 := 190) (by decide +kernel) (by decide +kernel) (by decide +kernel) (by decide +kernel)
theorem dX12_leaf_18 : decode cX12_leaf 18 = .ok (.ifCond .ne 9, 3) := dk_ifCond_ne 9 (b1 := 0) (b2 := 9) (by decide +kernel) (by decide +kernel) (by decide +kernel) (by decide +kernel)
theorem dX12_leaf_27 : decode cX12_leaf 27 = .ok (.aload_n 0, 1) := dk_aload_n_0 (by decide +kernel)
theorem dX12_leaf_28 : decode cX12_leaf 28 = .ok (.iconst 0, 1) := dk_iconst_0 (by decide +kernel)
theorem dX12_leaf_29 : decode cX12_leaf 29 = .ok (.putfield 201, 3) := dk_putfield 201 (b1 := 0) (b2 := 201) (by decide +kernel) (by decide +kernel) (by decide +kernel) (by decide +kernel)
theorem dX12_leaf_32 : decode cX12_leaf 32 = .ok (.aload_n 0, 1) := dk_aload_n_0 (by decide +kernel)
theorem dX12_leaf_33 : decode cX12_leaf 33 = .ok (.iload_n 2, 1) := dk_iload_n_2 (by decide +kernel)
theorem dX12_leaf_34 : decode cX12_leaf 34 = .ok (.invokevirtual 204, 3) := dk_invokevirtual 204 (b1 := 0) (b2 := 204) (by decide +kernel) (by decide +kernel) (by decide +kernel) (by decide +kernel)
theorem dX12_leaf_37 : decode cX12_leaf 37 = .ok (.aload_n 0, 1) := dk_aload_n_0 (by decide +kernel)
theorem dX12_leaf_38 : decode cX12_leaf 38 = .ok (.iload_n 1, 1) := dk_iload_n_1 (by decide +kernel)
theorem wRX12_211 : Cond.methodLink RX12 211 yX12_comesTo ∈ sm_T := sm_in 1413 (by decide +kernel) (by decide +kernel)
theorem dX12_leaf_39 : decode cX12_leaf 39 = .ok (.invokevirtual 211, 3) := dk_invokevirtual 211 (b1 := 0) (b2 := 211) (by decide +kernel) (by decide +kernel) (by decide +kernel) (by decide +kernel)
theorem dX12_leaf_42 : decode cX12_leaf 42 = .ok (.ireturn, 1) := dk_ireturn (by decide +kernel)
set_option maxRecDepth 20000 in
theorem vX12_leaf_0 {E : sm_E} {L : sm_S → Prop} {d : Nat} {x1 : Int32} {x2 : Int32}  {m : sm_M} {Q : Int32 → sm_M → Prop} (hly : ∀ S, L S → ly S) (hd : 5 ≤ d) 
  (h : sm_callI E L mX12_isSlot 1 0 0 [.int x1] m (fun r_2 m_1 =>
   (r_2 = 0 →
      sm_callI E L mX12_finds 1 0 0 [.ref (sm_B E + 109), .int 1] m_1 (fun r_4 m_3 =>
      Q r_4 m_3)) ∧
   (¬ r_2 = 0 →
      sm_callI E L mX12_isIn 1 0 0 [.long (x2.toInt64), .long (-9), .long 10] m_1 (fun r_6 m_5 =>
      (¬ r_6 = 0 →
         ∀ m_7 : sm_M, m_7 = sm_wI m_5 109 6 0 →
         sm_callV E L mX12_puts 1 0 0 [.ref (sm_B E + 109), .int x2] m_7 (fun m_8 =>
         sm_callI E L mX12_comesTo 4 0 0 [.ref (sm_B E + 109), .int x1] m_8 (fun r_10 m_9 =>
         Q r_10 m_9))) ∧
      (r_6 = 0 →
         sm_callI E L mX12_finds 1 0 0 [.ref (sm_B E + 109), .int 1] m_5 (fun r_12 m_11 =>
         Q r_12 m_11)))))) :
  sm_callI E L mX12_leaf d 0 0 [.ref (sm_B E + 109), .int x1, .int x2] m Q := by
  refine sm_enter (by decide +kernel) (by simp [lg_sl, Value.category]) ?_
  refine sm_iload_n (Y := mX12_leaf) (pc := 0) 1 1 rfl rfl dX12_leaf_0 ?_
  refine sm_is_I (Y := mX12_leaf) (pc := 1) (As := [.int x1]) fX12_isSlot wRX12_184 rfl (Nat.le_trans (by decide) hd) (Nat.le_of_ble_eq_true rfl) ⟨Nat.le_refl _, Nat.le_refl _⟩ dX12_leaf_1 rfl (sm_monoI h (fun r_2 m_1 h => ?_))
  refine sm_if_eq (Y := mX12_leaf) (pc := 4) 21 (by decide) dX12_leaf_4 (fun hc => ?_) (fun hc => ?_)
  · replace h := h.1 hc
    refine sm_aload_n (Y := mX12_leaf) (pc := 21) 0 0 rfl rfl dX12_leaf_21 ?_
    refine sm_iconst (Y := mX12_leaf) (pc := 22) 1 (by decide) dX12_leaf_22 ?_
    refine sm_iv_I (Y := mX12_leaf) (pc := 23) (As := [.int 1]) (a := 109) fX12_finds wRX12_194 (lk_109 hly) (by decide) rfl rfl rfl (Nat.le_trans (by decide) hd) (Nat.le_of_ble_eq_true rfl) ⟨Nat.le_refl _, Nat.le_refl _⟩ dX12_leaf_23 rfl (sm_monoI h (fun r_4 m_3 h => ?_))
    exact sm_iret (Y := mX12_leaf) (pc := 26) rfl rfl rfl dX12_leaf_26 ⟨_, rfl, h⟩
  · replace h := h.2 hc
    refine sm_iload_n (Y := mX12_leaf) (pc := 7) 2 2 rfl rfl dX12_leaf_7 ?_
    refine sm_i2l (Y := mX12_leaf) (pc := 8) dX12_leaf_8 ?_
    refine sm_ldc2_w (Y := mX12_leaf) (pc := 9) (-9) wRX12_207 dX12_leaf_9 ?_
    refine sm_ldc2_w (Y := mX12_leaf) (pc := 12) 10 wRX12_209 dX12_leaf_12 ?_
    refine sm_is_I (Y := mX12_leaf) (pc := 15) (As := [.long (x2.toInt64), .long (-9), .long 10]) fX12_isIn wRX12_190 rfl (Nat.le_trans (by decide) hd) (Nat.le_of_ble_eq_true rfl) ⟨Nat.le_refl _, Nat.le_refl _⟩ dX12_leaf_15 rfl (sm_monoI h (fun r_6 m_5 h => ?_))
    refine sm_if_ne (Y := mX12_leaf) (pc := 18) 27 (by decide) dX12_leaf_18 (fun hc => ?_) (fun hc => ?_)
    · replace h := h.1 hc
      refine sm_aload_n (Y := mX12_leaf) (pc := 27) 0 0 rfl rfl dX12_leaf_27 ?_
      refine sm_iconst (Y := mX12_leaf) (pc := 28) 0 (by decide) dX12_leaf_28 ?_
      refine pf_RX12_201 (Y := mX12_leaf) (pc := 29) rfl ((lk_109 hly) _) dX12_leaf_29 (fun m_7 em_7 => ?_)
      replace h := h m_7 em_7
      refine sm_aload_n (Y := mX12_leaf) (pc := 32) 0 0 rfl rfl dX12_leaf_32 ?_
      refine sm_iload_n (Y := mX12_leaf) (pc := 33) 2 2 rfl rfl dX12_leaf_33 ?_
      refine sm_iv_V (Y := mX12_leaf) (pc := 34) (As := [.int x2]) (a := 109) fX12_puts wRX12_204 (lk_109 hly) (by decide) rfl rfl rfl (Nat.le_trans (by decide) hd) (Nat.le_of_ble_eq_true rfl) ⟨Nat.le_refl _, Nat.le_refl _⟩ dX12_leaf_34 rfl (sm_monoV h (fun m_8 h => ?_))
      refine sm_aload_n (Y := mX12_leaf) (pc := 37) 0 0 rfl rfl dX12_leaf_37 ?_
      refine sm_iload_n (Y := mX12_leaf) (pc := 38) 1 1 rfl rfl dX12_leaf_38 ?_
      refine sm_iv_I (Y := mX12_leaf) (pc := 39) (As := [.int x1]) (a := 109) fX12_comesTo wRX12_211 (lk_109 hly) (by decide) rfl rfl rfl (Nat.le_trans (by decide) hd) (Nat.le_of_ble_eq_true rfl) ⟨Nat.le_refl _, Nat.le_refl _⟩ dX12_leaf_39 rfl (sm_monoI h (fun r_10 m_9 h => ?_))
      exact sm_iret (Y := mX12_leaf) (pc := 42) rfl rfl rfl dX12_leaf_42 ⟨_, rfl, h⟩
    · replace h := h.2 hc
      refine sm_aload_n (Y := mX12_leaf) (pc := 21) 0 0 rfl rfl dX12_leaf_21 ?_
      refine sm_iconst (Y := mX12_leaf) (pc := 22) 1 (by decide) dX12_leaf_22 ?_
      refine sm_iv_I (Y := mX12_leaf) (pc := 23) (As := [.int 1]) (a := 109) fX12_finds wRX12_194 (lk_109 hly) (by decide) rfl rfl rfl (Nat.le_trans (by decide) hd) (Nat.le_of_ble_eq_true rfl) ⟨Nat.le_refl _, Nat.le_refl _⟩ dX12_leaf_23 rfl (sm_monoI h (fun r_12 m_11 h => ?_))
      exact sm_iret (Y := mX12_leaf) (pc := 26) rfl rfl rfl dX12_leaf_26 ⟨_, rfl, h⟩
abbrev mX12_join : sm_Y := (yX12_join, cX12_join, 5, (some FieldType.int))
theorem fX12_join : sm_mi mX12_join RX12 4 := ⟨sm_in 1420 (by decide +kernel) (by decide +kernel), sm_in 1418 (by decide +kernel) (by decide +kernel), sm_in 1419 (by decide +kernel) (by decide +kernel), sm_in 93 (by decide +kernel) (by decide +kernel), rfl, ⟨by decide +kernel, by decide +kernel, by decide +kernel⟩, by decide⟩
def gX12_join_62 (E : sm_E) (L : sm_S → Prop) (d : Nat) (vs : List Value) (x4 : Int32) (s1 : Int32) (m : sm_M) (Q : Int32 → sm_M → Prop) : Prop := sm_go E L mX12_join d 0 0 vs 62 [(0, .ref (sm_B E + 109)), (4, .int x4)] [.int s1, .ref (sm_B E + 109)] m 0 0 (sm_Z E L vs 0 0 (sm_QI Q))
theorem dX12_join_62 : decode cX12_join 62 = .ok (.invokevirtual 204, 3) := dk_invokevirtual 204 (b1 := 0) (b2 := 204) (by decide +kernel) (by decide +kernel) (by decide +kernel) (by decide +kernel)
theorem dX12_join_65 : decode cX12_join 65 = .ok (.aload_n 0, 1) := dk_aload_n_0 (by decide +kernel)
theorem wRX12_220 : Cond.methodLink RX12 220 yX12_isTooMuch ∈ sm_T := sm_in 1428 (by decide +kernel) (by decide +kernel)
theorem dX12_join_66 : decode cX12_join 66 = .ok (.invokevirtual 220, 3) := dk_invokevirtual 220 (b1 := 0) (b2 := 220) (by decide +kernel) (by decide +kernel) (by decide +kernel) (by decide +kernel)
theorem dX12_join_69 : decode cX12_join 69 = .ok (.ifCond .eq 11, 3) := dk_ifCond_eq 11 (b1 := 0) (b2 := 11) (by decide +kernel) (by decide +kernel) (by decide +kernel) (by decide +kernel)
theorem dX12_join_80 : decode cX12_join 80 = .ok (.aload_n 0, 1) := dk_aload_n_0 (by decide +kernel)
theorem dX12_join_81 : decode cX12_join 81 = .ok (.iload 4, 2) := dk_iload 4 (b := 4) (by decide +kernel) (by decide +kernel) (by decide +kernel)
theorem dX12_join_83 : decode cX12_join 83 = .ok (.invokevirtual 211, 3) := dk_invokevirtual 211 (b1 := 0) (b2 := 211) (by decide +kernel) (by decide +kernel) (by decide +kernel) (by decide +kernel)
theorem dX12_join_86 : decode cX12_join 86 = .ok (.ireturn, 1) := dk_ireturn (by decide +kernel)
theorem dX12_join_72 : decode cX12_join 72 = .ok (.aload_n 0, 1) := dk_aload_n_0 (by decide +kernel)
theorem dX12_join_73 : decode cX12_join 73 = .ok (.iconst 4, 1) := dk_iconst_4 (by decide +kernel)
theorem dX12_join_74 : decode cX12_join 74 = .ok (.invokevirtual 194, 3) := dk_invokevirtual 194 (b1 := 0) (b2 := 194) (by decide +kernel) (by decide +kernel) (by decide +kernel) (by decide +kernel)
theorem dX12_join_77 : decode cX12_join 77 = .ok (.goto 9, 3) := dk_goto 9 (b1 := 0) (b2 := 9) (by decide +kernel) (by decide +kernel) (by decide +kernel) (by decide +kernel)
set_option maxRecDepth 20000 in
theorem vX12_join_62 {E : sm_E} {L : sm_S → Prop} {d : Nat} {vs : List Value} {x4 : Int32} {s1 : Int32}  {m : sm_M} {Q : Int32 → sm_M → Prop} (hly : ∀ S, L S → ly S) (hd : 5 ≤ d) 
  (h : sm_callV E L mX12_puts 1 0 0 [.ref (sm_B E + 109), .int s1] m (fun m_1 =>
   sm_callI E L mX12_isTooMuch 3 0 0 [.ref (sm_B E + 109)] m_1 (fun r_3 m_2 =>
   (r_3 = 0 →
      sm_callI E L mX12_comesTo 4 0 0 [.ref (sm_B E + 109), .int x4] m_2 (fun r_5 m_4 =>
      Q r_5 m_4)) ∧
   (¬ r_3 = 0 →
      sm_callI E L mX12_finds 1 0 0 [.ref (sm_B E + 109), .int 4] m_2 (fun r_7 m_6 =>
      Q r_7 m_6))))) :
  gX12_join_62 E L d vs x4 s1 m Q := by
  refine sm_iv_V (Y := mX12_join) (pc := 62) (As := [.int s1]) (a := 109) fX12_puts wRX12_204 (lk_109 hly) (by decide) rfl rfl rfl (Nat.le_trans (by decide) hd) (Nat.le_of_ble_eq_true rfl) ⟨Nat.le_refl _, Nat.le_refl _⟩ dX12_join_62 rfl (sm_monoV h (fun m_1 h => ?_))
  refine sm_aload_n (Y := mX12_join) (pc := 65) 0 0 rfl rfl dX12_join_65 ?_
  refine sm_iv_I (Y := mX12_join) (pc := 66) (As := []) (a := 109) fX12_isTooMuch wRX12_220 (lk_109 hly) (by decide) rfl rfl rfl (Nat.le_trans (by decide) hd) (Nat.le_of_ble_eq_true rfl) ⟨Nat.le_refl _, Nat.le_refl _⟩ dX12_join_66 rfl (sm_monoI h (fun r_3 m_2 h => ?_))
  refine sm_if_eq (Y := mX12_join) (pc := 69) 80 (by decide) dX12_join_69 (fun hc => ?_) (fun hc => ?_)
  · replace h := h.1 hc
    refine sm_aload_n (Y := mX12_join) (pc := 80) 0 0 rfl rfl dX12_join_80 ?_
    refine sm_iload (Y := mX12_join) (pc := 81) 1 4 rfl dX12_join_81 ?_
    refine sm_iv_I (Y := mX12_join) (pc := 83) (As := [.int x4]) (a := 109) fX12_comesTo wRX12_211 (lk_109 hly) (by decide) rfl rfl rfl (Nat.le_trans (by decide) hd) (Nat.le_of_ble_eq_true rfl) ⟨Nat.le_refl _, Nat.le_refl _⟩ dX12_join_83 rfl (sm_monoI h (fun r_5 m_4 h => ?_))
    exact sm_iret (Y := mX12_join) (pc := 86) rfl rfl rfl dX12_join_86 ⟨_, rfl, h⟩
  · replace h := h.2 hc
    refine sm_aload_n (Y := mX12_join) (pc := 72) 0 0 rfl rfl dX12_join_72 ?_
    refine sm_iconst (Y := mX12_join) (pc := 73) 4 (by decide) dX12_join_73 ?_
    refine sm_iv_I (Y := mX12_join) (pc := 74) (As := [.int 4]) (a := 109) fX12_finds wRX12_194 (lk_109 hly) (by decide) rfl rfl rfl (Nat.le_trans (by decide) hd) (Nat.le_of_ble_eq_true rfl) ⟨Nat.le_refl _, Nat.le_refl _⟩ dX12_join_74 rfl (sm_monoI h (fun r_7 m_6 h => ?_))
    refine sm_goto (Y := mX12_join) (pc := 77) 86 (by decide) dX12_join_77 ?_
    exact sm_iret (Y := mX12_join) (pc := 86) rfl rfl rfl dX12_join_86 ⟨_, rfl, h⟩
theorem dX12_join_0 : decode cX12_join 0 = .ok (.iload_n 1, 1) := dk_iload_n_1 (by decide +kernel)
theorem dX12_join_1 : decode cX12_join 1 = .ok (.invokestatic 184, 3) := dk_invokestatic 184 (b1 := 0) (b2 := 184) (by decide +kernel) (by decide +kernel) (by decide +kernel) (by decide +kernel)
theorem dX12_join_4 : decode cX12_join 4 = .ok (.ifCond .eq 25, 3) := dk_ifCond_eq 25 (b1 := 0) (b2 := 25) (by decide +kernel) (by decide +kernel) (by decide +kernel) (by decide +kernel)
theorem dX12_join_29 : decode cX12_join 29 = .ok (.aload_n 0, 1) := dk_aload_n_0 (by decide +kernel)
theorem dX12_join_30 : decode cX12_join 30 = .ok (.iconst 1, 1) := dk_iconst_1 (by decide +kernel)
theorem dX12_join_31 : decode cX12_join 31 = .ok (.invokevirtual 194, 3) := dk_invokevirtual 194 (b1 := 0) (b2 := 194) (by decide +kernel) (by decide +kernel) (by decide +kernel) (by decide +kernel)
theorem dX12_join_34 : decode cX12_join 34 = .ok (.ireturn, 1) := dk_ireturn (by decide +kernel)
theorem dX12_join_7 : decode cX12_join 7 = .ok (.iload_n 2, 1) := dk_iload_n_2 (by decide +kernel)
theorem dX12_join_8 : decode cX12_join 8 = .ok (.invokestatic 184, 3) := dk_invokestatic 184 (b1 := 0) (b2 := 184) (by decide +kernel) (by decide +kernel) (by decide +kernel) (by decide +kernel)
theorem dX12_join_11 : decode cX12_join 11 = .ok (.ifCond .eq 18, 3) := dk_ifCond_eq 18 (b1 := 0) (b2 := 18) (by decide +kernel) (by decide +kernel) (by decide +kernel) (by decide +kernel)
theorem dX12_join_14 : decode cX12_join 14 = .ok (.iload_n 3, 1) := dk_iload_n_3 (by decide +kernel)
theorem wRX12_214 : Cond.methodLink RX12 214 yX12_isPart ∈ sm_T := sm_in 1421 (by decide +kernel) (by decide +kernel)
theorem dX12_join_15 : decode cX12_join 15 = .ok (.invokestatic 214, 3) := dk_invokestatic 214 (b1 := 0) (b2 := 214) (by decide +kernel) (by decide +kernel) (by decide +kernel) (by decide +kernel)
theorem dX12_join_18 : decode cX12_join 18 = .ok (.ifCond .eq 11, 3) := dk_ifCond_eq 11 (b1 := 0) (b2 := 11) (by decide +kernel) (by decide +kernel) (by decide +kernel) (by decide +kernel)
theorem dX12_join_21 : decode cX12_join 21 = .ok (.iload 4, 2) := dk_iload 4 (b := 4) (by decide +kernel) (by decide +kernel) (by decide +kernel)
theorem dX12_join_23 : decode cX12_join 23 = .ok (.invokestatic 184, 3) := dk_invokestatic 184 (b1 := 0) (b2 := 184) (by decide +kernel) (by decide +kernel) (by decide +kernel) (by decide +kernel)
theorem dX12_join_26 : decode cX12_join 26 = .ok (.ifCond .ne 9, 3) := dk_ifCond_ne 9 (b1 := 0) (b2 := 9) (by decide +kernel) (by decide +kernel) (by decide +kernel) (by decide +kernel)
theorem dX12_join_35 : decode cX12_join 35 = .ok (.aload_n 0, 1) := dk_aload_n_0 (by decide +kernel)
theorem dX12_join_36 : decode cX12_join 36 = .ok (.iconst 0, 1) := dk_iconst_0 (by decide +kernel)
theorem dX12_join_37 : decode cX12_join 37 = .ok (.putfield 201, 3) := dk_putfield 201 (b1 := 0) (b2 := 201) (by decide +kernel) (by decide +kernel) (by decide +kernel) (by decide +kernel)
theorem dX12_join_40 : decode cX12_join 40 = .ok (.aload_n 0, 1) := dk_aload_n_0 (by decide +kernel)
theorem dX12_join_41 : decode cX12_join 41 = .ok (.iload_n 1, 1) := dk_iload_n_1 (by decide +kernel)
theorem wRX12_217 : Cond.methodLink RX12 217 yX12_putsSlot ∈ sm_T := sm_in 1424 (by decide +kernel) (by decide +kernel)
theorem dX12_join_42 : decode cX12_join 42 = .ok (.invokevirtual 217, 3) := dk_invokevirtual 217 (b1 := 0) (b2 := 217) (by decide +kernel) (by decide +kernel) (by decide +kernel) (by decide +kernel)
theorem dX12_join_45 : decode cX12_join 45 = .ok (.aload_n 0, 1) := dk_aload_n_0 (by decide +kernel)
theorem dX12_join_46 : decode cX12_join 46 = .ok (.iload_n 2, 1) := dk_iload_n_2 (by decide +kernel)
theorem dX12_join_47 : decode cX12_join 47 = .ok (.invokevirtual 217, 3) := dk_invokevirtual 217 (b1 := 0) (b2 := 217) (by decide +kernel) (by decide +kernel) (by decide +kernel) (by decide +kernel)
theorem dX12_join_50 : decode cX12_join 50 = .ok (.aload_n 0, 1) := dk_aload_n_0 (by decide +kernel)
theorem dX12_join_51 : decode cX12_join 51 = .ok (.iload_n 3, 1) := dk_iload_n_3 (by decide +kernel)
theorem dX12_join_52 : decode cX12_join 52 = .ok (.ifCond .ne 8, 3) := dk_ifCond_ne 8 (b1 := 0) (b2 := 8) (by decide +kernel) (by decide +kernel) (by decide +kernel) (by decide +kernel)
theorem dX12_join_60 : decode cX12_join 60 = .ok (.bipush 21, 2) := dk_bipush 21 (b := 21) (by decide +kernel) (by decide +kernel) (by decide +kernel)
theorem dX12_join_55 : decode cX12_join 55 = .ok (.bipush 20, 2) := dk_bipush 20 (b := 20) (by decide +kernel) (by decide +kernel) (by decide +kernel)
theorem dX12_join_57 : decode cX12_join 57 = .ok (.goto 5, 3) := dk_goto 5 (b1 := 0) (b2 := 5) (by decide +kernel) (by decide +kernel) (by decide +kernel) (by decide +kernel)
set_option maxRecDepth 20000 in
theorem vX12_join_0 {E : sm_E} {L : sm_S → Prop} {d : Nat} {x1 : Int32} {x2 : Int32} {x3 : Int32} {x4 : Int32}  {m : sm_M} {Q : Int32 → sm_M → Prop} (hly : ∀ S, L S → ly S) (hd : 5 ≤ d) 
  (h : sm_callI E L mX12_isSlot 1 0 0 [.int x1] m (fun r_2 m_1 =>
   (r_2 = 0 →
      sm_callI E L mX12_finds 1 0 0 [.ref (sm_B E + 109), .int 1] m_1 (fun r_4 m_3 =>
      Q r_4 m_3)) ∧
   (¬ r_2 = 0 →
      sm_callI E L mX12_isSlot 1 0 0 [.int x2] m_1 (fun r_6 m_5 =>
      (r_6 = 0 →
         sm_callI E L mX12_finds 1 0 0 [.ref (sm_B E + 109), .int 1] m_5 (fun r_8 m_7 =>
         Q r_8 m_7)) ∧
      (¬ r_6 = 0 →
         sm_callI E L mX12_isPart 1 0 0 [.int x3] m_5 (fun r_10 m_9 =>
         (r_10 = 0 →
            sm_callI E L mX12_finds 1 0 0 [.ref (sm_B E + 109), .int 1] m_9 (fun r_12 m_11 =>
            Q r_12 m_11)) ∧
         (¬ r_10 = 0 →
            sm_callI E L mX12_isSlot 1 0 0 [.int x4] m_9 (fun r_14 m_13 =>
            (¬ r_14 = 0 →
               ∀ m_15 : sm_M, m_15 = sm_wI m_13 109 6 0 →
               sm_callV E L mX12_putsSlot 2 0 0 [.ref (sm_B E + 109), .int x1] m_15 (fun m_16 =>
               sm_callV E L mX12_putsSlot 2 0 0 [.ref (sm_B E + 109), .int x2] m_16 (fun m_17 =>
               (¬ x3 = 0 →
                  gX12_join_62 E L d ([.ref (sm_B E + 109), .int x1, .int x2, .int x3, .int x4]) x4 21 m_17 Q) ∧
               (x3 = 0 →
                  gX12_join_62 E L d ([.ref (sm_B E + 109), .int x1, .int x2, .int x3, .int x4]) x4 20 m_17 Q)))) ∧
            (r_14 = 0 →
               sm_callI E L mX12_finds 1 0 0 [.ref (sm_B E + 109), .int 1] m_13 (fun r_19 m_18 =>
               Q r_19 m_18)))))))))) :
  sm_callI E L mX12_join d 0 0 [.ref (sm_B E + 109), .int x1, .int x2, .int x3, .int x4] m Q := by
  refine sm_enter (by decide +kernel) (by simp [lg_sl, Value.category]) ?_
  refine sm_iload_n (Y := mX12_join) (pc := 0) 1 1 rfl rfl dX12_join_0 ?_
  refine sm_is_I (Y := mX12_join) (pc := 1) (As := [.int x1]) fX12_isSlot wRX12_184 rfl (Nat.le_trans (by decide) hd) (Nat.le_of_ble_eq_true rfl) ⟨Nat.le_refl _, Nat.le_refl _⟩ dX12_join_1 rfl (sm_monoI h (fun r_2 m_1 h => ?_))
  refine sm_if_eq (Y := mX12_join) (pc := 4) 29 (by decide) dX12_join_4 (fun hc => ?_) (fun hc => ?_)
  · replace h := h.1 hc
    refine sm_aload_n (Y := mX12_join) (pc := 29) 0 0 rfl rfl dX12_join_29 ?_
    refine sm_iconst (Y := mX12_join) (pc := 30) 1 (by decide) dX12_join_30 ?_
    refine sm_iv_I (Y := mX12_join) (pc := 31) (As := [.int 1]) (a := 109) fX12_finds wRX12_194 (lk_109 hly) (by decide) rfl rfl rfl (Nat.le_trans (by decide) hd) (Nat.le_of_ble_eq_true rfl) ⟨Nat.le_refl _, Nat.le_refl _⟩ dX12_join_31 rfl (sm_monoI h (fun r_4 m_3 h => ?_))
    exact sm_iret (Y := mX12_join) (pc := 34) rfl rfl rfl dX12_join_34 ⟨_, rfl, h⟩
  · replace h := h.2 hc
    refine sm_iload_n (Y := mX12_join) (pc := 7) 2 2 rfl rfl dX12_join_7 ?_
    refine sm_is_I (Y := mX12_join) (pc := 8) (As := [.int x2]) fX12_isSlot wRX12_184 rfl (Nat.le_trans (by decide) hd) (Nat.le_of_ble_eq_true rfl) ⟨Nat.le_refl _, Nat.le_refl _⟩ dX12_join_8 rfl (sm_monoI h (fun r_6 m_5 h => ?_))
    refine sm_if_eq (Y := mX12_join) (pc := 11) 29 (by decide) dX12_join_11 (fun hc => ?_) (fun hc => ?_)
    · replace h := h.1 hc
      refine sm_aload_n (Y := mX12_join) (pc := 29) 0 0 rfl rfl dX12_join_29 ?_
      refine sm_iconst (Y := mX12_join) (pc := 30) 1 (by decide) dX12_join_30 ?_
      refine sm_iv_I (Y := mX12_join) (pc := 31) (As := [.int 1]) (a := 109) fX12_finds wRX12_194 (lk_109 hly) (by decide) rfl rfl rfl (Nat.le_trans (by decide) hd) (Nat.le_of_ble_eq_true rfl) ⟨Nat.le_refl _, Nat.le_refl _⟩ dX12_join_31 rfl (sm_monoI h (fun r_8 m_7 h => ?_))
      exact sm_iret (Y := mX12_join) (pc := 34) rfl rfl rfl dX12_join_34 ⟨_, rfl, h⟩
    · replace h := h.2 hc
      refine sm_iload_n (Y := mX12_join) (pc := 14) 3 3 rfl rfl dX12_join_14 ?_
      refine sm_is_I (Y := mX12_join) (pc := 15) (As := [.int x3]) fX12_isPart wRX12_214 rfl (Nat.le_trans (by decide) hd) (Nat.le_of_ble_eq_true rfl) ⟨Nat.le_refl _, Nat.le_refl _⟩ dX12_join_15 rfl (sm_monoI h (fun r_10 m_9 h => ?_))
      refine sm_if_eq (Y := mX12_join) (pc := 18) 29 (by decide) dX12_join_18 (fun hc => ?_) (fun hc => ?_)
      · replace h := h.1 hc
        refine sm_aload_n (Y := mX12_join) (pc := 29) 0 0 rfl rfl dX12_join_29 ?_
        refine sm_iconst (Y := mX12_join) (pc := 30) 1 (by decide) dX12_join_30 ?_
        refine sm_iv_I (Y := mX12_join) (pc := 31) (As := [.int 1]) (a := 109) fX12_finds wRX12_194 (lk_109 hly) (by decide) rfl rfl rfl (Nat.le_trans (by decide) hd) (Nat.le_of_ble_eq_true rfl) ⟨Nat.le_refl _, Nat.le_refl _⟩ dX12_join_31 rfl (sm_monoI h (fun r_12 m_11 h => ?_))
        exact sm_iret (Y := mX12_join) (pc := 34) rfl rfl rfl dX12_join_34 ⟨_, rfl, h⟩
      · replace h := h.2 hc
        refine sm_iload (Y := mX12_join) (pc := 21) 4 4 rfl dX12_join_21 ?_
        refine sm_is_I (Y := mX12_join) (pc := 23) (As := [.int x4]) fX12_isSlot wRX12_184 rfl (Nat.le_trans (by decide) hd) (Nat.le_of_ble_eq_true rfl) ⟨Nat.le_refl _, Nat.le_refl _⟩ dX12_join_23 rfl (sm_monoI h (fun r_14 m_13 h => ?_))
        refine sm_if_ne (Y := mX12_join) (pc := 26) 35 (by decide) dX12_join_26 (fun hc => ?_) (fun hc => ?_)
        · replace h := h.1 hc
          refine sm_aload_n (Y := mX12_join) (pc := 35) 0 0 rfl rfl dX12_join_35 ?_
          refine sm_iconst (Y := mX12_join) (pc := 36) 0 (by decide) dX12_join_36 ?_
          refine pf_RX12_201 (Y := mX12_join) (pc := 37) rfl ((lk_109 hly) _) dX12_join_37 (fun m_15 em_15 => ?_)
          replace h := h m_15 em_15
          refine sm_aload_n (Y := mX12_join) (pc := 40) 0 0 rfl rfl dX12_join_40 ?_
          refine sm_iload_n (Y := mX12_join) (pc := 41) 1 1 rfl rfl dX12_join_41 ?_
          refine sm_iv_V (Y := mX12_join) (pc := 42) (As := [.int x1]) (a := 109) fX12_putsSlot wRX12_217 (lk_109 hly) (by decide) rfl rfl rfl (Nat.le_trans (by decide) hd) (Nat.le_of_ble_eq_true rfl) ⟨Nat.le_refl _, Nat.le_refl _⟩ dX12_join_42 rfl (sm_monoV h (fun m_16 h => ?_))
          refine sm_aload_n (Y := mX12_join) (pc := 45) 0 0 rfl rfl dX12_join_45 ?_
          refine sm_iload_n (Y := mX12_join) (pc := 46) 2 2 rfl rfl dX12_join_46 ?_
          refine sm_iv_V (Y := mX12_join) (pc := 47) (As := [.int x2]) (a := 109) fX12_putsSlot wRX12_217 (lk_109 hly) (by decide) rfl rfl rfl (Nat.le_trans (by decide) hd) (Nat.le_of_ble_eq_true rfl) ⟨Nat.le_refl _, Nat.le_refl _⟩ dX12_join_47 rfl (sm_monoV h (fun m_17 h => ?_))
          refine sm_aload_n (Y := mX12_join) (pc := 50) 0 0 rfl rfl dX12_join_50 ?_
          refine sm_iload_n (Y := mX12_join) (pc := 51) 3 3 rfl rfl dX12_join_51 ?_
          refine sm_if_ne (Y := mX12_join) (pc := 52) 60 (by decide) dX12_join_52 (fun hc => ?_) (fun hc => ?_)
          · replace h := h.1 hc
            refine sm_bipush (Y := mX12_join) (pc := 60) 21 (by decide) dX12_join_60 ?_
            refine sm_sub [0, 4] rfl ?_
            exact h
          · replace h := h.2 hc
            refine sm_bipush (Y := mX12_join) (pc := 55) 20 (by decide) dX12_join_55 ?_
            refine sm_goto (Y := mX12_join) (pc := 57) 62 (by decide) dX12_join_57 ?_
            refine sm_sub [0, 4] rfl ?_
            exact h
        · replace h := h.2 hc
          refine sm_aload_n (Y := mX12_join) (pc := 29) 0 0 rfl rfl dX12_join_29 ?_
          refine sm_iconst (Y := mX12_join) (pc := 30) 1 (by decide) dX12_join_30 ?_
          refine sm_iv_I (Y := mX12_join) (pc := 31) (As := [.int 1]) (a := 109) fX12_finds wRX12_194 (lk_109 hly) (by decide) rfl rfl rfl (Nat.le_trans (by decide) hd) (Nat.le_of_ble_eq_true rfl) ⟨Nat.le_refl _, Nat.le_refl _⟩ dX12_join_31 rfl (sm_monoI h (fun r_19 m_18 h => ?_))
          exact sm_iret (Y := mX12_join) (pc := 34) rfl rfl rfl dX12_join_34 ⟨_, rfl, h⟩
abbrev mX12_putsMove : sm_Y := (yX12_putsMove, cX12_putsMove, 2, none)
theorem fX12_putsMove : sm_mi mX12_putsMove RX12 1 := ⟨sm_in 1440 (by decide +kernel) (by decide +kernel), sm_in 1439 (by decide +kernel) (by decide +kernel), sm_in 49 (by decide +kernel) (by decide +kernel), sm_in 93 (by decide +kernel) (by decide +kernel), rfl, ⟨by decide +kernel, by decide +kernel, by decide +kernel⟩, by decide⟩
def gX12_putsMove_44 (E : sm_E) (L : sm_S → Prop) (d : Nat) (vs : List Value) (x1 : Int32) (s1 : Int32) (m : sm_M) (Q : sm_M → Prop) : Prop := sm_go E L mX12_putsMove d 0 0 vs 44 [(0, .ref (sm_B E + 109)), (1, .int x1)] [.int s1, .ref (sm_B E + 109)] m 0 0 (sm_Z E L vs 0 0 (sm_QV Q))
def gX12_putsMove_10 (E : sm_E) (L : sm_S → Prop) (d : Nat) (vs : List Value) (x1 : Int32) (m : sm_M) (Q : sm_M → Prop) : Prop := sm_go E L mX12_putsMove d 0 0 vs 10 [(0, .ref (sm_B E + 109)), (1, .int x1)] [] m 0 0 (sm_Z E L vs 0 0 (sm_QV Q))
theorem dX12_putsMove_44 : decode cX12_putsMove 44 = .ok (.invokevirtual 204, 3) := dk_invokevirtual 204 (b1 := 0) (b2 := 204) (by decide +kernel) (by decide +kernel) (by decide +kernel) (by decide +kernel)
theorem dX12_putsMove_47 : decode cX12_putsMove 47 = .ok (.aload_n 0, 1) := dk_aload_n_0 (by decide +kernel)
theorem dX12_putsMove_48 : decode cX12_putsMove 48 = .ok (.iload_n 1, 1) := dk_iload_n_1 (by decide +kernel)
theorem dX12_putsMove_49 : decode cX12_putsMove 49 = .ok (.iconst 2, 1) := dk_iconst_2 (by decide +kernel)
theorem dX12_putsMove_50 : decode cX12_putsMove 50 = .ok (.if_icmp .ge 8, 3) := dk_if_icmp_ge 8 (b1 := 0) (b2 := 8) (by decide +kernel) (by decide +kernel) (by decide +kernel) (by decide +kernel)
theorem dX12_putsMove_58 : decode cX12_putsMove 58 = .ok (.bipush 21, 2) := dk_bipush 21 (b := 21) (by decide +kernel) (by decide +kernel) (by decide +kernel)
theorem dX12_putsMove_60 : decode cX12_putsMove 60 = .ok (.invokevirtual 204, 3) := dk_invokevirtual 204 (b1 := 0) (b2 := 204) (by decide +kernel) (by decide +kernel) (by decide +kernel) (by decide +kernel)
theorem dX12_putsMove_63 : decode cX12_putsMove 63 = .ok (.return_, 1) := dk_return_ (by decide +kernel)
theorem dX12_putsMove_53 : decode cX12_putsMove 53 = .ok (.bipush 20, 2) := dk_bipush 20 (b := 20) (by decide +kernel) (by decide +kernel) (by decide +kernel)
theorem dX12_putsMove_55 : decode cX12_putsMove 55 = .ok (.goto 5, 3) := dk_goto 5 (b1 := 0) (b2 := 5) (by decide +kernel) (by decide +kernel) (by decide +kernel) (by decide +kernel)
set_option maxRecDepth 20000 in
theorem vX12_putsMove_44 {E : sm_E} {L : sm_S → Prop} {d : Nat} {vs : List Value} {x1 : Int32} {s1 : Int32}  {m : sm_M} {Q : sm_M → Prop} (hly : ∀ S, L S → ly S) (hd : 2 ≤ d) 
  (h : sm_callV E L mX12_puts 1 0 0 [.ref (sm_B E + 109), .int s1] m (fun m_1 =>
   (2 ≤ x1 →
      sm_callV E L mX12_puts 1 0 0 [.ref (sm_B E + 109), .int 21] m_1 (fun m_2 =>
      Q m_2)) ∧
   (¬ 2 ≤ x1 →
      sm_callV E L mX12_puts 1 0 0 [.ref (sm_B E + 109), .int 20] m_1 (fun m_3 =>
      Q m_3)))) :
  gX12_putsMove_44 E L d vs x1 s1 m Q := by
  refine sm_iv_V (Y := mX12_putsMove) (pc := 44) (As := [.int s1]) (a := 109) fX12_puts wRX12_204 (lk_109 hly) (by decide) rfl rfl rfl (Nat.le_trans (by decide) hd) (Nat.le_of_ble_eq_true rfl) ⟨Nat.le_refl _, Nat.le_refl _⟩ dX12_putsMove_44 rfl (sm_monoV h (fun m_1 h => ?_))
  refine sm_aload_n (Y := mX12_putsMove) (pc := 47) 0 0 rfl rfl dX12_putsMove_47 ?_
  refine sm_iload_n (Y := mX12_putsMove) (pc := 48) 1 1 rfl rfl dX12_putsMove_48 ?_
  refine sm_iconst (Y := mX12_putsMove) (pc := 49) 2 (by decide) dX12_putsMove_49 ?_
  refine sm_icmp_ge (Y := mX12_putsMove) (pc := 50) 58 (by decide) dX12_putsMove_50 (fun hc => ?_) (fun hc => ?_)
  · replace h := h.1 hc
    refine sm_bipush (Y := mX12_putsMove) (pc := 58) 21 (by decide) dX12_putsMove_58 ?_
    refine sm_iv_V (Y := mX12_putsMove) (pc := 60) (As := [.int 21]) (a := 109) fX12_puts wRX12_204 (lk_109 hly) (by decide) rfl rfl rfl (Nat.le_trans (by decide) hd) (Nat.le_of_ble_eq_true rfl) ⟨Nat.le_refl _, Nat.le_refl _⟩ dX12_putsMove_60 rfl (sm_monoV h (fun m_2 h => ?_))
    exact sm_vret (Y := mX12_putsMove) (pc := 63) rfl rfl rfl dX12_putsMove_63 ⟨rfl, h⟩
  · replace h := h.2 hc
    refine sm_bipush (Y := mX12_putsMove) (pc := 53) 20 (by decide) dX12_putsMove_53 ?_
    refine sm_goto (Y := mX12_putsMove) (pc := 55) 60 (by decide) dX12_putsMove_55 ?_
    refine sm_iv_V (Y := mX12_putsMove) (pc := 60) (As := [.int 20]) (a := 109) fX12_puts wRX12_204 (lk_109 hly) (by decide) rfl rfl rfl (Nat.le_trans (by decide) hd) (Nat.le_of_ble_eq_true rfl) ⟨Nat.le_refl _, Nat.le_refl _⟩ dX12_putsMove_60 rfl (sm_monoV h (fun m_3 h => ?_))
    exact sm_vret (Y := mX12_putsMove) (pc := 63) rfl rfl rfl dX12_putsMove_63 ⟨rfl, h⟩
theorem dX12_putsMove_10 : decode cX12_putsMove 10 = .ok (.aload_n 0, 1) := dk_aload_n_0 (by decide +kernel)
theorem dX12_putsMove_11 : decode cX12_putsMove 11 = .ok (.iload_n 1, 1) := dk_iload_n_1 (by decide +kernel)
theorem dX12_putsMove_12 : decode cX12_putsMove 12 = .ok (.iconst 2, 1) := dk_iconst_2 (by decide +kernel)
theorem dX12_putsMove_13 : decode cX12_putsMove 13 = .ok (.if_icmp .ne 8, 3) := dk_if_icmp_ne 8 (b1 := 0) (b2 := 8) (by decide +kernel) (by decide +kernel) (by decide +kernel) (by decide +kernel)
theorem dX12_putsMove_21 : decode cX12_putsMove 21 = .ok (.bipush 23, 2) := dk_bipush 23 (b := 23) (by decide +kernel) (by decide +kernel) (by decide +kernel)
theorem dX12_putsMove_23 : decode cX12_putsMove 23 = .ok (.invokevirtual 204, 3) := dk_invokevirtual 204 (b1 := 0) (b2 := 204) (by decide +kernel) (by decide +kernel) (by decide +kernel) (by decide +kernel)
theorem dX12_putsMove_26 : decode cX12_putsMove 26 = .ok (.goto 37, 3) := dk_goto 37 (b1 := 0) (b2 := 37) (by decide +kernel) (by decide +kernel) (by decide +kernel) (by decide +kernel)
theorem dX12_putsMove_16 : decode cX12_putsMove 16 = .ok (.bipush 22, 2) := dk_bipush 22 (b := 22) (by decide +kernel) (by decide +kernel) (by decide +kernel)
theorem dX12_putsMove_18 : decode cX12_putsMove 18 = .ok (.goto 5, 3) := dk_goto 5 (b1 := 0) (b2 := 5) (by decide +kernel) (by decide +kernel) (by decide +kernel) (by decide +kernel)
set_option maxRecDepth 20000 in
theorem vX12_putsMove_10 {E : sm_E} {L : sm_S → Prop} {d : Nat} {vs : List Value} {x1 : Int32}  {m : sm_M} {Q : sm_M → Prop} (hly : ∀ S, L S → ly S) (hd : 2 ≤ d) 
  (h : (¬ x1 = 2 →
      sm_callV E L mX12_puts 1 0 0 [.ref (sm_B E + 109), .int 23] m (fun m_1 =>
      Q m_1)) ∧
   (x1 = 2 →
      sm_callV E L mX12_puts 1 0 0 [.ref (sm_B E + 109), .int 22] m (fun m_2 =>
      Q m_2))) :
  gX12_putsMove_10 E L d vs x1 m Q := by
  refine sm_aload_n (Y := mX12_putsMove) (pc := 10) 0 0 rfl rfl dX12_putsMove_10 ?_
  refine sm_iload_n (Y := mX12_putsMove) (pc := 11) 1 1 rfl rfl dX12_putsMove_11 ?_
  refine sm_iconst (Y := mX12_putsMove) (pc := 12) 2 (by decide) dX12_putsMove_12 ?_
  refine sm_icmp_ne (Y := mX12_putsMove) (pc := 13) 21 (by decide) dX12_putsMove_13 (fun hc => ?_) (fun hc => ?_)
  · replace h := h.1 hc
    refine sm_bipush (Y := mX12_putsMove) (pc := 21) 23 (by decide) dX12_putsMove_21 ?_
    refine sm_iv_V (Y := mX12_putsMove) (pc := 23) (As := [.int 23]) (a := 109) fX12_puts wRX12_204 (lk_109 hly) (by decide) rfl rfl rfl (Nat.le_trans (by decide) hd) (Nat.le_of_ble_eq_true rfl) ⟨Nat.le_refl _, Nat.le_refl _⟩ dX12_putsMove_23 rfl (sm_monoV h (fun m_1 h => ?_))
    refine sm_goto (Y := mX12_putsMove) (pc := 26) 63 (by decide) dX12_putsMove_26 ?_
    exact sm_vret (Y := mX12_putsMove) (pc := 63) rfl rfl rfl dX12_putsMove_63 ⟨rfl, h⟩
  · replace h := h.2 hc
    refine sm_bipush (Y := mX12_putsMove) (pc := 16) 22 (by decide) dX12_putsMove_16 ?_
    refine sm_goto (Y := mX12_putsMove) (pc := 18) 23 (by decide) dX12_putsMove_18 ?_
    refine sm_iv_V (Y := mX12_putsMove) (pc := 23) (As := [.int 22]) (a := 109) fX12_puts wRX12_204 (lk_109 hly) (by decide) rfl rfl rfl (Nat.le_trans (by decide) hd) (Nat.le_of_ble_eq_true rfl) ⟨Nat.le_refl _, Nat.le_refl _⟩ dX12_putsMove_23 rfl (sm_monoV h (fun m_2 h => ?_))
    refine sm_goto (Y := mX12_putsMove) (pc := 26) 63 (by decide) dX12_putsMove_26 ?_
    exact sm_vret (Y := mX12_putsMove) (pc := 63) rfl rfl rfl dX12_putsMove_63 ⟨rfl, h⟩
theorem dX12_putsMove_0 : decode cX12_putsMove 0 = .ok (.iload_n 1, 1) := dk_iload_n_1 (by decide +kernel)
theorem dX12_putsMove_1 : decode cX12_putsMove 1 = .ok (.iconst 2, 1) := dk_iconst_2 (by decide +kernel)
theorem dX12_putsMove_2 : decode cX12_putsMove 2 = .ok (.if_icmp .eq 8, 3) := dk_if_icmp_eq 8 (b1 := 0) (b2 := 8) (by decide +kernel) (by decide +kernel) (by decide +kernel) (by decide +kernel)
theorem dX12_putsMove_5 : decode cX12_putsMove 5 = .ok (.iload_n 1, 1) := dk_iload_n_1 (by decide +kernel)
theorem dX12_putsMove_6 : decode cX12_putsMove 6 = .ok (.iconst 3, 1) := dk_iconst_3 (by decide +kernel)
theorem dX12_putsMove_7 : decode cX12_putsMove 7 = .ok (.if_icmp .ne 22, 3) := dk_if_icmp_ne 22 (b1 := 0) (b2 := 22) (by decide +kernel) (by decide +kernel) (by decide +kernel) (by decide +kernel)
theorem dX12_putsMove_29 : decode cX12_putsMove 29 = .ok (.aload_n 0, 1) := dk_aload_n_0 (by decide +kernel)
theorem dX12_putsMove_30 : decode cX12_putsMove 30 = .ok (.iload_n 1, 1) := dk_iload_n_1 (by decide +kernel)
theorem dX12_putsMove_31 : decode cX12_putsMove 31 = .ok (.ifCond .eq 8, 3) := dk_ifCond_eq 8 (b1 := 0) (b2 := 8) (by decide +kernel) (by decide +kernel) (by decide +kernel) (by decide +kernel)
theorem dX12_putsMove_39 : decode cX12_putsMove 39 = .ok (.iconst 1, 1) := dk_iconst_1 (by decide +kernel)
theorem dX12_putsMove_40 : decode cX12_putsMove 40 = .ok (.goto 4, 3) := dk_goto 4 (b1 := 0) (b2 := 4) (by decide +kernel) (by decide +kernel) (by decide +kernel) (by decide +kernel)
theorem dX12_putsMove_34 : decode cX12_putsMove 34 = .ok (.iload_n 1, 1) := dk_iload_n_1 (by decide +kernel)
theorem dX12_putsMove_35 : decode cX12_putsMove 35 = .ok (.iconst 4, 1) := dk_iconst_4 (by decide +kernel)
theorem dX12_putsMove_36 : decode cX12_putsMove 36 = .ok (.if_icmp .ne 7, 3) := dk_if_icmp_ne 7 (b1 := 0) (b2 := 7) (by decide +kernel) (by decide +kernel) (by decide +kernel) (by decide +kernel)
theorem dX12_putsMove_43 : decode cX12_putsMove 43 = .ok (.iconst (-1), 1) := dk_iconst_m1 (by decide +kernel)
set_option maxRecDepth 20000 in
theorem vX12_putsMove_0 {E : sm_E} {L : sm_S → Prop} {d : Nat} {x1 : Int32}  {m : sm_M} {Q : sm_M → Prop}  (hd : 2 ≤ d) 
  (h : (x1 = 2 →
      gX12_putsMove_10 E L d ([.ref (sm_B E + 109), .int x1]) x1 m Q) ∧
   (¬ x1 = 2 →
      (¬ x1 = 3 →
         (x1 = 0 →
            gX12_putsMove_44 E L d ([.ref (sm_B E + 109), .int x1]) x1 1 m Q) ∧
         (¬ x1 = 0 →
            (¬ x1 = 4 →
               gX12_putsMove_44 E L d ([.ref (sm_B E + 109), .int x1]) x1 (-1) m Q) ∧
            (x1 = 4 →
               gX12_putsMove_44 E L d ([.ref (sm_B E + 109), .int x1]) x1 1 m Q))) ∧
      (x1 = 3 →
         gX12_putsMove_10 E L d ([.ref (sm_B E + 109), .int x1]) x1 m Q))) :
  sm_callV E L mX12_putsMove d 0 0 [.ref (sm_B E + 109), .int x1] m Q := by
  refine sm_enter (by decide +kernel) (by simp [lg_sl, Value.category]) ?_
  refine sm_iload_n (Y := mX12_putsMove) (pc := 0) 1 1 rfl rfl dX12_putsMove_0 ?_
  refine sm_iconst (Y := mX12_putsMove) (pc := 1) 2 (by decide) dX12_putsMove_1 ?_
  refine sm_icmp_eq (Y := mX12_putsMove) (pc := 2) 10 (by decide) dX12_putsMove_2 (fun hc => ?_) (fun hc => ?_)
  · replace h := h.1 hc
    exact h
  · replace h := h.2 hc
    refine sm_iload_n (Y := mX12_putsMove) (pc := 5) 1 1 rfl rfl dX12_putsMove_5 ?_
    refine sm_iconst (Y := mX12_putsMove) (pc := 6) 3 (by decide) dX12_putsMove_6 ?_
    refine sm_icmp_ne (Y := mX12_putsMove) (pc := 7) 29 (by decide) dX12_putsMove_7 (fun hc => ?_) (fun hc => ?_)
    · replace h := h.1 hc
      refine sm_aload_n (Y := mX12_putsMove) (pc := 29) 0 0 rfl rfl dX12_putsMove_29 ?_
      refine sm_iload_n (Y := mX12_putsMove) (pc := 30) 1 1 rfl rfl dX12_putsMove_30 ?_
      refine sm_if_eq (Y := mX12_putsMove) (pc := 31) 39 (by decide) dX12_putsMove_31 (fun hc => ?_) (fun hc => ?_)
      · replace h := h.1 hc
        refine sm_iconst (Y := mX12_putsMove) (pc := 39) 1 (by decide) dX12_putsMove_39 ?_
        refine sm_goto (Y := mX12_putsMove) (pc := 40) 44 (by decide) dX12_putsMove_40 ?_
        exact h
      · replace h := h.2 hc
        refine sm_iload_n (Y := mX12_putsMove) (pc := 34) 1 1 rfl rfl dX12_putsMove_34 ?_
        refine sm_iconst (Y := mX12_putsMove) (pc := 35) 4 (by decide) dX12_putsMove_35 ?_
        refine sm_icmp_ne (Y := mX12_putsMove) (pc := 36) 43 (by decide) dX12_putsMove_36 (fun hc => ?_) (fun hc => ?_)
        · replace h := h.1 hc
          refine sm_iconst (Y := mX12_putsMove) (pc := 43) (-1) (by decide) dX12_putsMove_43 ?_
          exact h
        · replace h := h.2 hc
          refine sm_iconst (Y := mX12_putsMove) (pc := 39) 1 (by decide) dX12_putsMove_39 ?_
          refine sm_goto (Y := mX12_putsMove) (pc := 40) 44 (by decide) dX12_putsMove_40 ?_
          exact h
    · replace h := h.2 hc
      exact h
abbrev mX12_move : sm_Y := (yX12_move, cX12_move, 3, (some FieldType.int))
theorem fX12_move : sm_mi mX12_move RX12 2 := ⟨sm_in 1435 (by decide +kernel) (by decide +kernel), sm_in 1433 (by decide +kernel) (by decide +kernel), sm_in 1434 (by decide +kernel) (by decide +kernel), sm_in 93 (by decide +kernel) (by decide +kernel), rfl, ⟨by decide +kernel, by decide +kernel, by decide +kernel⟩, by decide⟩
theorem dX12_move_0 : decode cX12_move 0 = .ok (.iload_n 1, 1) := dk_iload_n_1 (by decide +kernel)
theorem dX12_move_1 : decode cX12_move 1 = .ok (.invokestatic 184, 3) := dk_invokestatic 184 (b1 := 0) (b2 := 184) (by decide +kernel) (by decide +kernel) (by decide +kernel) (by decide +kernel)
theorem dX12_move_4 : decode cX12_move 4 = .ok (.ifCond .eq 15, 3) := dk_ifCond_eq 15 (b1 := 0) (b2 := 15) (by decide +kernel) (by decide +kernel) (by decide +kernel) (by decide +kernel)
theorem dX12_move_19 : decode cX12_move 19 = .ok (.aload_n 0, 1) := dk_aload_n_0 (by decide +kernel)
theorem dX12_move_20 : decode cX12_move 20 = .ok (.iconst 1, 1) := dk_iconst_1 (by decide +kernel)
theorem dX12_move_21 : decode cX12_move 21 = .ok (.invokevirtual 194, 3) := dk_invokevirtual 194 (b1 := 0) (b2 := 194) (by decide +kernel) (by decide +kernel) (by decide +kernel) (by decide +kernel)
theorem dX12_move_24 : decode cX12_move 24 = .ok (.ireturn, 1) := dk_ireturn (by decide +kernel)
theorem dX12_move_7 : decode cX12_move 7 = .ok (.iload_n 2, 1) := dk_iload_n_2 (by decide +kernel)
theorem dX12_move_8 : decode cX12_move 8 = .ok (.i2l, 1) := dk_i2l (by decide +kernel)
theorem dX12_move_9 : decode cX12_move 9 = .ok (.lconst 0, 1) := dk_lconst_0 (by decide +kernel)
theorem wRX12_224 : Cond.constantLong RX12 224 5 ∈ sm_T := sm_in 1436 (by decide +kernel) (by decide +kernel)
theorem dX12_move_10 : decode cX12_move 10 = .ok (.ldc2_w 224, 3) := dk_ldc2_w 224 (b1 := 0) (b2 := 224) (by decide +kernel) (by decide +kernel) (by decide +kernel) (by decide +kernel)
theorem dX12_move_13 : decode cX12_move 13 = .ok (.invokestatic 190, 3) := dk_invokestatic 190 (b1 := 0) (b2 := 190) (by decide +kernel) (by decide +kernel) (by decide +kernel) (by decide +kernel)
theorem dX12_move_16 : decode cX12_move 16 = .ok (.ifCond .ne 9, 3) := dk_ifCond_ne 9 (b1 := 0) (b2 := 9) (by decide +kernel) (by decide +kernel) (by decide +kernel) (by decide +kernel)
theorem dX12_move_25 : decode cX12_move 25 = .ok (.aload_n 0, 1) := dk_aload_n_0 (by decide +kernel)
theorem dX12_move_26 : decode cX12_move 26 = .ok (.iconst 0, 1) := dk_iconst_0 (by decide +kernel)
theorem dX12_move_27 : decode cX12_move 27 = .ok (.putfield 201, 3) := dk_putfield 201 (b1 := 0) (b2 := 201) (by decide +kernel) (by decide +kernel) (by decide +kernel) (by decide +kernel)
theorem dX12_move_30 : decode cX12_move 30 = .ok (.aload_n 0, 1) := dk_aload_n_0 (by decide +kernel)
theorem dX12_move_31 : decode cX12_move 31 = .ok (.iload_n 1, 1) := dk_iload_n_1 (by decide +kernel)
theorem dX12_move_32 : decode cX12_move 32 = .ok (.invokevirtual 217, 3) := dk_invokevirtual 217 (b1 := 0) (b2 := 217) (by decide +kernel) (by decide +kernel) (by decide +kernel) (by decide +kernel)
theorem dX12_move_35 : decode cX12_move 35 = .ok (.aload_n 0, 1) := dk_aload_n_0 (by decide +kernel)
theorem dX12_move_36 : decode cX12_move 36 = .ok (.iload_n 2, 1) := dk_iload_n_2 (by decide +kernel)
theorem wRX12_226 : Cond.methodLink RX12 226 yX12_putsMove ∈ sm_T := sm_in 1437 (by decide +kernel) (by decide +kernel)
theorem dX12_move_37 : decode cX12_move 37 = .ok (.invokevirtual 226, 3) := dk_invokevirtual 226 (b1 := 0) (b2 := 226) (by decide +kernel) (by decide +kernel) (by decide +kernel) (by decide +kernel)
theorem dX12_move_40 : decode cX12_move 40 = .ok (.aload_n 0, 1) := dk_aload_n_0 (by decide +kernel)
theorem dX12_move_41 : decode cX12_move 41 = .ok (.invokevirtual 220, 3) := dk_invokevirtual 220 (b1 := 0) (b2 := 220) (by decide +kernel) (by decide +kernel) (by decide +kernel) (by decide +kernel)
theorem dX12_move_44 : decode cX12_move 44 = .ok (.ifCond .eq 11, 3) := dk_ifCond_eq 11 (b1 := 0) (b2 := 11) (by decide +kernel) (by decide +kernel) (by decide +kernel) (by decide +kernel)
theorem dX12_move_55 : decode cX12_move 55 = .ok (.aload_n 0, 1) := dk_aload_n_0 (by decide +kernel)
theorem dX12_move_56 : decode cX12_move 56 = .ok (.iload_n 1, 1) := dk_iload_n_1 (by decide +kernel)
theorem dX12_move_57 : decode cX12_move 57 = .ok (.invokevirtual 211, 3) := dk_invokevirtual 211 (b1 := 0) (b2 := 211) (by decide +kernel) (by decide +kernel) (by decide +kernel) (by decide +kernel)
theorem dX12_move_60 : decode cX12_move 60 = .ok (.ireturn, 1) := dk_ireturn (by decide +kernel)
theorem dX12_move_47 : decode cX12_move 47 = .ok (.aload_n 0, 1) := dk_aload_n_0 (by decide +kernel)
theorem dX12_move_48 : decode cX12_move 48 = .ok (.iconst 4, 1) := dk_iconst_4 (by decide +kernel)
theorem dX12_move_49 : decode cX12_move 49 = .ok (.invokevirtual 194, 3) := dk_invokevirtual 194 (b1 := 0) (b2 := 194) (by decide +kernel) (by decide +kernel) (by decide +kernel) (by decide +kernel)
theorem dX12_move_52 : decode cX12_move 52 = .ok (.goto 8, 3) := dk_goto 8 (b1 := 0) (b2 := 8) (by decide +kernel) (by decide +kernel) (by decide +kernel) (by decide +kernel)
set_option maxRecDepth 20000 in
theorem vX12_move_0 {E : sm_E} {L : sm_S → Prop} {d : Nat} {x1 : Int32} {x2 : Int32}  {m : sm_M} {Q : Int32 → sm_M → Prop} (hly : ∀ S, L S → ly S) (hd : 5 ≤ d) 
  (h : sm_callI E L mX12_isSlot 1 0 0 [.int x1] m (fun r_2 m_1 =>
   (r_2 = 0 →
      sm_callI E L mX12_finds 1 0 0 [.ref (sm_B E + 109), .int 1] m_1 (fun r_4 m_3 =>
      Q r_4 m_3)) ∧
   (¬ r_2 = 0 →
      sm_callI E L mX12_isIn 1 0 0 [.long (x2.toInt64), .long 0, .long 5] m_1 (fun r_6 m_5 =>
      (¬ r_6 = 0 →
         ∀ m_7 : sm_M, m_7 = sm_wI m_5 109 6 0 →
         sm_callV E L mX12_putsSlot 2 0 0 [.ref (sm_B E + 109), .int x1] m_7 (fun m_8 =>
         sm_callV E L mX12_putsMove 2 0 0 [.ref (sm_B E + 109), .int x2] m_8 (fun m_9 =>
         sm_callI E L mX12_isTooMuch 3 0 0 [.ref (sm_B E + 109)] m_9 (fun r_11 m_10 =>
         (r_11 = 0 →
            sm_callI E L mX12_comesTo 4 0 0 [.ref (sm_B E + 109), .int x1] m_10 (fun r_13 m_12 =>
            Q r_13 m_12)) ∧
         (¬ r_11 = 0 →
            sm_callI E L mX12_finds 1 0 0 [.ref (sm_B E + 109), .int 4] m_10 (fun r_15 m_14 =>
            Q r_15 m_14)))))) ∧
      (r_6 = 0 →
         sm_callI E L mX12_finds 1 0 0 [.ref (sm_B E + 109), .int 1] m_5 (fun r_17 m_16 =>
         Q r_17 m_16)))))) :
  sm_callI E L mX12_move d 0 0 [.ref (sm_B E + 109), .int x1, .int x2] m Q := by
  refine sm_enter (by decide +kernel) (by simp [lg_sl, Value.category]) ?_
  refine sm_iload_n (Y := mX12_move) (pc := 0) 1 1 rfl rfl dX12_move_0 ?_
  refine sm_is_I (Y := mX12_move) (pc := 1) (As := [.int x1]) fX12_isSlot wRX12_184 rfl (Nat.le_trans (by decide) hd) (Nat.le_of_ble_eq_true rfl) ⟨Nat.le_refl _, Nat.le_refl _⟩ dX12_move_1 rfl (sm_monoI h (fun r_2 m_1 h => ?_))
  refine sm_if_eq (Y := mX12_move) (pc := 4) 19 (by decide) dX12_move_4 (fun hc => ?_) (fun hc => ?_)
  · replace h := h.1 hc
    refine sm_aload_n (Y := mX12_move) (pc := 19) 0 0 rfl rfl dX12_move_19 ?_
    refine sm_iconst (Y := mX12_move) (pc := 20) 1 (by decide) dX12_move_20 ?_
    refine sm_iv_I (Y := mX12_move) (pc := 21) (As := [.int 1]) (a := 109) fX12_finds wRX12_194 (lk_109 hly) (by decide) rfl rfl rfl (Nat.le_trans (by decide) hd) (Nat.le_of_ble_eq_true rfl) ⟨Nat.le_refl _, Nat.le_refl _⟩ dX12_move_21 rfl (sm_monoI h (fun r_4 m_3 h => ?_))
    exact sm_iret (Y := mX12_move) (pc := 24) rfl rfl rfl dX12_move_24 ⟨_, rfl, h⟩
  · replace h := h.2 hc
    refine sm_iload_n (Y := mX12_move) (pc := 7) 2 2 rfl rfl dX12_move_7 ?_
    refine sm_i2l (Y := mX12_move) (pc := 8) dX12_move_8 ?_
    refine sm_lconst (Y := mX12_move) (pc := 9) 0 (by decide) dX12_move_9 ?_
    refine sm_ldc2_w (Y := mX12_move) (pc := 10) 5 wRX12_224 dX12_move_10 ?_
    refine sm_is_I (Y := mX12_move) (pc := 13) (As := [.long (x2.toInt64), .long 0, .long 5]) fX12_isIn wRX12_190 rfl (Nat.le_trans (by decide) hd) (Nat.le_of_ble_eq_true rfl) ⟨Nat.le_refl _, Nat.le_refl _⟩ dX12_move_13 rfl (sm_monoI h (fun r_6 m_5 h => ?_))
    refine sm_if_ne (Y := mX12_move) (pc := 16) 25 (by decide) dX12_move_16 (fun hc => ?_) (fun hc => ?_)
    · replace h := h.1 hc
      refine sm_aload_n (Y := mX12_move) (pc := 25) 0 0 rfl rfl dX12_move_25 ?_
      refine sm_iconst (Y := mX12_move) (pc := 26) 0 (by decide) dX12_move_26 ?_
      refine pf_RX12_201 (Y := mX12_move) (pc := 27) rfl ((lk_109 hly) _) dX12_move_27 (fun m_7 em_7 => ?_)
      replace h := h m_7 em_7
      refine sm_aload_n (Y := mX12_move) (pc := 30) 0 0 rfl rfl dX12_move_30 ?_
      refine sm_iload_n (Y := mX12_move) (pc := 31) 1 1 rfl rfl dX12_move_31 ?_
      refine sm_iv_V (Y := mX12_move) (pc := 32) (As := [.int x1]) (a := 109) fX12_putsSlot wRX12_217 (lk_109 hly) (by decide) rfl rfl rfl (Nat.le_trans (by decide) hd) (Nat.le_of_ble_eq_true rfl) ⟨Nat.le_refl _, Nat.le_refl _⟩ dX12_move_32 rfl (sm_monoV h (fun m_8 h => ?_))
      refine sm_aload_n (Y := mX12_move) (pc := 35) 0 0 rfl rfl dX12_move_35 ?_
      refine sm_iload_n (Y := mX12_move) (pc := 36) 2 2 rfl rfl dX12_move_36 ?_
      refine sm_iv_V (Y := mX12_move) (pc := 37) (As := [.int x2]) (a := 109) fX12_putsMove wRX12_226 (lk_109 hly) (by decide) rfl rfl rfl (Nat.le_trans (by decide) hd) (Nat.le_of_ble_eq_true rfl) ⟨Nat.le_refl _, Nat.le_refl _⟩ dX12_move_37 rfl (sm_monoV h (fun m_9 h => ?_))
      refine sm_aload_n (Y := mX12_move) (pc := 40) 0 0 rfl rfl dX12_move_40 ?_
      refine sm_iv_I (Y := mX12_move) (pc := 41) (As := []) (a := 109) fX12_isTooMuch wRX12_220 (lk_109 hly) (by decide) rfl rfl rfl (Nat.le_trans (by decide) hd) (Nat.le_of_ble_eq_true rfl) ⟨Nat.le_refl _, Nat.le_refl _⟩ dX12_move_41 rfl (sm_monoI h (fun r_11 m_10 h => ?_))
      refine sm_if_eq (Y := mX12_move) (pc := 44) 55 (by decide) dX12_move_44 (fun hc => ?_) (fun hc => ?_)
      · replace h := h.1 hc
        refine sm_aload_n (Y := mX12_move) (pc := 55) 0 0 rfl rfl dX12_move_55 ?_
        refine sm_iload_n (Y := mX12_move) (pc := 56) 1 1 rfl rfl dX12_move_56 ?_
        refine sm_iv_I (Y := mX12_move) (pc := 57) (As := [.int x1]) (a := 109) fX12_comesTo wRX12_211 (lk_109 hly) (by decide) rfl rfl rfl (Nat.le_trans (by decide) hd) (Nat.le_of_ble_eq_true rfl) ⟨Nat.le_refl _, Nat.le_refl _⟩ dX12_move_57 rfl (sm_monoI h (fun r_13 m_12 h => ?_))
        exact sm_iret (Y := mX12_move) (pc := 60) rfl rfl rfl dX12_move_60 ⟨_, rfl, h⟩
      · replace h := h.2 hc
        refine sm_aload_n (Y := mX12_move) (pc := 47) 0 0 rfl rfl dX12_move_47 ?_
        refine sm_iconst (Y := mX12_move) (pc := 48) 4 (by decide) dX12_move_48 ?_
        refine sm_iv_I (Y := mX12_move) (pc := 49) (As := [.int 4]) (a := 109) fX12_finds wRX12_194 (lk_109 hly) (by decide) rfl rfl rfl (Nat.le_trans (by decide) hd) (Nat.le_of_ble_eq_true rfl) ⟨Nat.le_refl _, Nat.le_refl _⟩ dX12_move_49 rfl (sm_monoI h (fun r_15 m_14 h => ?_))
        refine sm_goto (Y := mX12_move) (pc := 52) 60 (by decide) dX12_move_52 ?_
        exact sm_iret (Y := mX12_move) (pc := 60) rfl rfl rfl dX12_move_60 ⟨_, rfl, h⟩
    · replace h := h.2 hc
      refine sm_aload_n (Y := mX12_move) (pc := 19) 0 0 rfl rfl dX12_move_19 ?_
      refine sm_iconst (Y := mX12_move) (pc := 20) 1 (by decide) dX12_move_20 ?_
      refine sm_iv_I (Y := mX12_move) (pc := 21) (As := [.int 1]) (a := 109) fX12_finds wRX12_194 (lk_109 hly) (by decide) rfl rfl rfl (Nat.le_trans (by decide) hd) (Nat.le_of_ble_eq_true rfl) ⟨Nat.le_refl _, Nat.le_refl _⟩ dX12_move_21 rfl (sm_monoI h (fun r_17 m_16 h => ?_))
      exact sm_iret (Y := mX12_move) (pc := 24) rfl rfl rfl dX12_move_24 ⟨_, rfl, h⟩
abbrev mX12_feed : sm_Y := (yX12_feed, cX12_feed, 5, (some FieldType.int))
theorem fX12_feed : sm_mi mX12_feed RX12 2 := ⟨sm_in 1444 (by decide +kernel) (by decide +kernel), sm_in 1442 (by decide +kernel) (by decide +kernel), sm_in 1443 (by decide +kernel) (by decide +kernel), sm_in 93 (by decide +kernel) (by decide +kernel), rfl, ⟨by decide +kernel, by decide +kernel, by decide +kernel⟩, by decide⟩
def gX12_feed_38 (E : sm_E) (L : sm_S → Prop) (d : Nat) (vs : List Value) (x1 : Int64) (x3 : Int32) (x4 : Int32) (m : sm_M) (Q : Int32 → sm_M → Prop) : Prop := sm_go E L mX12_feed d 0 0 vs 38 [(0, .ref (sm_B E + 109)), (1, .long x1), (3, .int x3), (4, .int x4)] [] m 0 0 (sm_Z E L vs 0 0 (sm_QI Q))
theorem dX12_feed_38 : decode cX12_feed 38 = .ok (.iload 4, 2) := dk_iload 4 (b := 4) (by decide +kernel) (by decide +kernel) (by decide +kernel)
theorem dX12_feed_40 : decode cX12_feed 40 = .ok (.iload_n 3, 1) := dk_iload_n_3 (by decide +kernel)
theorem dX12_feed_41 : decode cX12_feed 41 = .ok (.if_icmp .ge 40, 3) := dk_if_icmp_ge 40 (b1 := 0) (b2 := 40) (by decide +kernel) (by decide +kernel) (by decide +kernel) (by decide +kernel)
theorem dX12_feed_81 : decode cX12_feed 81 = .ok (.aload_n 0, 1) := dk_aload_n_0 (by decide +kernel)
theorem dX12_feed_82 : decode cX12_feed 82 = .ok (.getfield 229, 3) := dk_getfield 229 (b1 := 0) (b2 := 229) (by decide +kernel) (by decide +kernel) (by decide +kernel) (by decide +kernel)
theorem dX12_feed_85 : decode cX12_feed 85 = .ok (.ireturn, 1) := dk_ireturn (by decide +kernel)
theorem dX12_feed_44 : decode cX12_feed 44 = .ok (.aload_n 0, 1) := dk_aload_n_0 (by decide +kernel)
theorem dX12_feed_45 : decode cX12_feed 45 = .ok (.getfield 32, 3) := dk_getfield 32 (b1 := 0) (b2 := 32) (by decide +kernel) (by decide +kernel) (by decide +kernel) (by decide +kernel)
theorem dX12_feed_48 : decode cX12_feed 48 = .ok (.aload_n 0, 1) := dk_aload_n_0 (by decide +kernel)
theorem dX12_feed_49 : decode cX12_feed 49 = .ok (.getfield 229, 3) := dk_getfield 229 (b1 := 0) (b2 := 229) (by decide +kernel) (by decide +kernel) (by decide +kernel) (by decide +kernel)
theorem dX12_feed_52 : decode cX12_feed 52 = .ok (.lload_n 1, 1) := dk_lload_n_1 (by decide +kernel)
theorem dX12_feed_53 : decode cX12_feed 53 = .ok (.bipush 8, 2) := dk_bipush 8 (b := 8) (by decide +kernel) (by decide +kernel) (by decide +kernel)
theorem dX12_feed_55 : decode cX12_feed 55 = .ok (.iload 4, 2) := dk_iload 4 (b := 4) (by decide +kernel) (by decide +kernel) (by decide +kernel)
theorem dX12_feed_57 : decode cX12_feed 57 = .ok (.imul, 1) := dk_imul (by decide +kernel)
theorem dX12_feed_58 : decode cX12_feed 58 = .ok (.lshr, 1) := dk_lshr (by decide +kernel)
theorem wRX12_232 : Cond.constantLong RX12 232 255 ∈ sm_T := sm_in 1445 (by decide +kernel) (by decide +kernel)
theorem dX12_feed_59 : decode cX12_feed 59 = .ok (.ldc2_w 232, 3) := dk_ldc2_w 232 (b1 := 0) (b2 := 232) (by decide +kernel) (by decide +kernel) (by decide +kernel) (by decide +kernel)
theorem dX12_feed_62 : decode cX12_feed 62 = .ok (.land, 1) := dk_land (by decide +kernel)
theorem dX12_feed_63 : decode cX12_feed 63 = .ok (.l2i, 1) := dk_l2i (by decide +kernel)
theorem dX12_feed_64 : decode cX12_feed 64 = .ok (.iastore, 1) := dk_iastore (by decide +kernel)
theorem dX12_feed_65 : decode cX12_feed 65 = .ok (.aload_n 0, 1) := dk_aload_n_0 (by decide +kernel)
theorem dX12_feed_66 : decode cX12_feed 66 = .ok (.dup, 1) := dk_dup (by decide +kernel)
theorem dX12_feed_67 : decode cX12_feed 67 = .ok (.getfield 229, 3) := dk_getfield 229 (b1 := 0) (b2 := 229) (by decide +kernel) (by decide +kernel) (by decide +kernel) (by decide +kernel)
theorem dX12_feed_70 : decode cX12_feed 70 = .ok (.iconst 1, 1) := dk_iconst_1 (by decide +kernel)
theorem dX12_feed_71 : decode cX12_feed 71 = .ok (.iadd, 1) := dk_iadd (by decide +kernel)
theorem dX12_feed_72 : decode cX12_feed 72 = .ok (.putfield 229, 3) := dk_putfield 229 (b1 := 0) (b2 := 229) (by decide +kernel) (by decide +kernel) (by decide +kernel) (by decide +kernel)
theorem dX12_feed_75 : decode cX12_feed 75 = .ok (.iinc 4 1, 3) := dk_iinc 4 1 (b1 := 4) (b2 := 1) (by decide +kernel) (by decide +kernel) (by decide +kernel) (by decide +kernel) (by decide +kernel)
theorem dX12_feed_78 : decode cX12_feed 78 = .ok (.goto (-40), 3) := dk_goto (-40) (b1 := 255) (b2 := 216) (by decide +kernel) (by decide +kernel) (by decide +kernel) (by decide +kernel)
set_option maxRecDepth 20000 in
theorem vX12_feed_38 {E : sm_E} {L : sm_S → Prop} {d : Nat} {vs : List Value} {x1 : Int64} {x3 : Int32} {x4 : Int32}  {m : sm_M} {Q : Int32 → sm_M → Prop} (hly : ∀ S, L S → ly S) (hd : 2 ≤ d) 
  (h : (x3 ≤ x4 →
      Q (m.1 109 11) m) ∧
   (¬ x3 ≤ x4 →
      (vp_in (m.1 109 11) 100) ∧ ∀ m_1 : sm_M, m_1 = sm_wI m 116 (m.1 109 11).toNatClampNeg (((x1 >>> (((8 : Int32) * x4).toInt64 &&& 63)) &&& 255).toInt32) →
      ∀ m_3 : sm_M, m_3 = sm_wI m_1 109 11 ((m_1.1 109 11) + 1) →
      ∀ x4_4 : Int32, x4_4 = x4 + 1 →
      gX12_feed_38 E L d vs x1 x3 x4_4 m_3 Q)) :
  gX12_feed_38 E L d vs x1 x3 x4 m Q := by
  refine sm_iload (Y := mX12_feed) (pc := 38) 3 4 rfl dX12_feed_38 ?_
  refine sm_iload_n (Y := mX12_feed) (pc := 40) 2 3 rfl rfl dX12_feed_40 ?_
  refine sm_icmp_ge (Y := mX12_feed) (pc := 41) 81 (by decide) dX12_feed_41 (fun hc => ?_) (fun hc => ?_)
  · replace h := h.1 hc
    refine sm_aload_n (Y := mX12_feed) (pc := 81) 0 0 rfl rfl dX12_feed_81 ?_
    refine gf_RX12_229 (Y := mX12_feed) (pc := 82) rfl ((lk_109 hly) _) dX12_feed_82 ?_
    exact sm_iret (Y := mX12_feed) (pc := 85) rfl rfl rfl dX12_feed_85 ⟨_, rfl, h⟩
  · replace h := h.2 hc
    refine sm_aload_n (Y := mX12_feed) (pc := 44) 0 0 rfl rfl dX12_feed_44 ?_
    refine gf_RX12_32 (Y := mX12_feed) (pc := 45) (b := 116) rfl ((lk_109 hly) _) (lf_109_10 hly _) dX12_feed_45 ?_
    refine sm_aload_n (Y := mX12_feed) (pc := 48) 0 0 rfl rfl dX12_feed_48 ?_
    refine gf_RX12_229 (Y := mX12_feed) (pc := 49) rfl ((lk_109 hly) _) dX12_feed_49 ?_
    refine sm_lload_n (Y := mX12_feed) (pc := 52) 1 1 rfl rfl dX12_feed_52 ?_
    refine sm_bipush (Y := mX12_feed) (pc := 53) 8 (by decide) dX12_feed_53 ?_
    refine sm_iload (Y := mX12_feed) (pc := 55) 3 4 rfl dX12_feed_55 ?_
    refine sm_imul (Y := mX12_feed) (pc := 57) dX12_feed_57 ?_
    refine sm_lshr (Y := mX12_feed) (pc := 58) dX12_feed_58 ?_
    refine sm_ldc2_w (Y := mX12_feed) (pc := 59) 255 wRX12_232 dX12_feed_59 ?_
    refine sm_land (Y := mX12_feed) (pc := 62) dX12_feed_62 ?_
    refine sm_l2i (Y := mX12_feed) (pc := 63) dX12_feed_63 ?_
    obtain ⟨hn_2, h⟩ := h
    refine sm_iast (Y := mX12_feed) (pc := 64) (la_116 hly _) hn_2 dX12_feed_64 (fun m_1 em_1 => ?_)
    replace h := h m_1 em_1
    refine sm_aload_n (Y := mX12_feed) (pc := 65) 0 0 rfl rfl dX12_feed_65 ?_
    refine sm_dup (Y := mX12_feed) (pc := 66) rfl dX12_feed_66 ?_
    refine gf_RX12_229 (Y := mX12_feed) (pc := 67) rfl ((lk_109 hly) _) dX12_feed_67 ?_
    refine sm_iconst (Y := mX12_feed) (pc := 70) 1 (by decide) dX12_feed_70 ?_
    refine sm_iadd (Y := mX12_feed) (pc := 71) dX12_feed_71 ?_
    refine pf_RX12_229 (Y := mX12_feed) (pc := 72) rfl ((lk_109 hly) _) dX12_feed_72 (fun m_3 em_3 => ?_)
    replace h := h m_3 em_3
    refine sm_iinc (Y := mX12_feed) (pc := 75) (fun y => [(4, .int y), (0, .ref (sm_B E + 109)), (1, .long x1), (3, .int x3)]) 3 4 rfl (by decide) (fun _ => rfl) dX12_feed_75 (fun x4_4 ex4_4 => ?_)
    replace h := h x4_4 ex4_4
    refine sm_goto (Y := mX12_feed) (pc := 78) 38 (by decide) dX12_feed_78 ?_
    refine sm_sub [1, 2, 3, 0] rfl ?_
    exact h
theorem dX12_feed_0 : decode cX12_feed 0 = .ok (.iload_n 3, 1) := dk_iload_n_3 (by decide +kernel)
theorem dX12_feed_1 : decode cX12_feed 1 = .ok (.i2l, 1) := dk_i2l (by decide +kernel)
theorem dX12_feed_2 : decode cX12_feed 2 = .ok (.lconst 1, 1) := dk_lconst_1 (by decide +kernel)
theorem dX12_feed_3 : decode cX12_feed 3 = .ok (.ldc2_w 188, 3) := dk_ldc2_w 188 (b1 := 0) (b2 := 188) (by decide +kernel) (by decide +kernel) (by decide +kernel) (by decide +kernel)
theorem dX12_feed_6 : decode cX12_feed 6 = .ok (.invokestatic 190, 3) := dk_invokestatic 190 (b1 := 0) (b2 := 190) (by decide +kernel) (by decide +kernel) (by decide +kernel) (by decide +kernel)
theorem dX12_feed_9 : decode cX12_feed 9 = .ok (.ifCond .ne 9, 3) := dk_ifCond_ne 9 (b1 := 0) (b2 := 9) (by decide +kernel) (by decide +kernel) (by decide +kernel) (by decide +kernel)
theorem dX12_feed_18 : decode cX12_feed 18 = .ok (.aload_n 0, 1) := dk_aload_n_0 (by decide +kernel)
theorem dX12_feed_19 : decode cX12_feed 19 = .ok (.getfield 229, 3) := dk_getfield 229 (b1 := 0) (b2 := 229) (by decide +kernel) (by decide +kernel) (by decide +kernel) (by decide +kernel)
theorem dX12_feed_22 : decode cX12_feed 22 = .ok (.iload_n 3, 1) := dk_iload_n_3 (by decide +kernel)
theorem dX12_feed_23 : decode cX12_feed 23 = .ok (.iadd, 1) := dk_iadd (by decide +kernel)
theorem dX12_feed_24 : decode cX12_feed 24 = .ok (.bipush 100, 2) := dk_bipush 100 (b := 100) (by decide +kernel) (by decide +kernel) (by decide +kernel)
theorem dX12_feed_26 : decode cX12_feed 26 = .ok (.if_icmp .le 9, 3) := dk_if_icmp_le 9 (b1 := 0) (b2 := 9) (by decide +kernel) (by decide +kernel) (by decide +kernel) (by decide +kernel)
theorem dX12_feed_35 : decode cX12_feed 35 = .ok (.iconst 0, 1) := dk_iconst_0 (by decide +kernel)
theorem dX12_feed_36 : decode cX12_feed 36 = .ok (.istore 4, 2) := dk_istore 4 (b := 4) (by decide +kernel) (by decide +kernel) (by decide +kernel)
theorem dX12_feed_29 : decode cX12_feed 29 = .ok (.aload_n 0, 1) := dk_aload_n_0 (by decide +kernel)
theorem dX12_feed_30 : decode cX12_feed 30 = .ok (.iconst 4, 1) := dk_iconst_4 (by decide +kernel)
theorem dX12_feed_31 : decode cX12_feed 31 = .ok (.invokevirtual 194, 3) := dk_invokevirtual 194 (b1 := 0) (b2 := 194) (by decide +kernel) (by decide +kernel) (by decide +kernel) (by decide +kernel)
theorem dX12_feed_34 : decode cX12_feed 34 = .ok (.ireturn, 1) := dk_ireturn (by decide +kernel)
theorem dX12_feed_12 : decode cX12_feed 12 = .ok (.aload_n 0, 1) := dk_aload_n_0 (by decide +kernel)
theorem dX12_feed_13 : decode cX12_feed 13 = .ok (.iconst 1, 1) := dk_iconst_1 (by decide +kernel)
theorem dX12_feed_14 : decode cX12_feed 14 = .ok (.invokevirtual 194, 3) := dk_invokevirtual 194 (b1 := 0) (b2 := 194) (by decide +kernel) (by decide +kernel) (by decide +kernel) (by decide +kernel)
theorem dX12_feed_17 : decode cX12_feed 17 = .ok (.ireturn, 1) := dk_ireturn (by decide +kernel)
set_option maxRecDepth 20000 in
theorem vX12_feed_0 {E : sm_E} {L : sm_S → Prop} {d : Nat} {x1 : Int64} {x3 : Int32}  {m : sm_M} {Q : Int32 → sm_M → Prop} (hly : ∀ S, L S → ly S) (hd : 2 ≤ d) 
  (h : sm_callI E L mX12_isIn 1 0 0 [.long (x3.toInt64), .long 1, .long 8] m (fun r_2 m_1 =>
   (¬ r_2 = 0 →
      (((m_1.1 109 11) + x3) ≤ 100 →
         gX12_feed_38 E L d ([.ref (sm_B E + 109), .long x1, .int x3]) x1 x3 0 m_1 Q) ∧
      (¬ ((m_1.1 109 11) + x3) ≤ 100 →
         sm_callI E L mX12_finds 1 0 0 [.ref (sm_B E + 109), .int 4] m_1 (fun r_5 m_4 =>
         Q r_5 m_4))) ∧
   (r_2 = 0 →
      sm_callI E L mX12_finds 1 0 0 [.ref (sm_B E + 109), .int 1] m_1 (fun r_7 m_6 =>
      Q r_7 m_6)))) :
  sm_callI E L mX12_feed d 0 0 [.ref (sm_B E + 109), .long x1, .int x3] m Q := by
  refine sm_enter (by decide +kernel) (by simp [lg_sl, Value.category]) ?_
  refine sm_iload_n (Y := mX12_feed) (pc := 0) 2 3 rfl rfl dX12_feed_0 ?_
  refine sm_i2l (Y := mX12_feed) (pc := 1) dX12_feed_1 ?_
  refine sm_lconst (Y := mX12_feed) (pc := 2) 1 (by decide) dX12_feed_2 ?_
  refine sm_ldc2_w (Y := mX12_feed) (pc := 3) 8 wRX12_188 dX12_feed_3 ?_
  refine sm_is_I (Y := mX12_feed) (pc := 6) (As := [.long (x3.toInt64), .long 1, .long 8]) fX12_isIn wRX12_190 rfl (Nat.le_trans (by decide) hd) (Nat.le_of_ble_eq_true rfl) ⟨Nat.le_refl _, Nat.le_refl _⟩ dX12_feed_6 rfl (sm_monoI h (fun r_2 m_1 h => ?_))
  refine sm_if_ne (Y := mX12_feed) (pc := 9) 18 (by decide) dX12_feed_9 (fun hc => ?_) (fun hc => ?_)
  · replace h := h.1 hc
    refine sm_aload_n (Y := mX12_feed) (pc := 18) 0 0 rfl rfl dX12_feed_18 ?_
    refine gf_RX12_229 (Y := mX12_feed) (pc := 19) rfl ((lk_109 hly) _) dX12_feed_19 ?_
    refine sm_iload_n (Y := mX12_feed) (pc := 22) 2 3 rfl rfl dX12_feed_22 ?_
    refine sm_iadd (Y := mX12_feed) (pc := 23) dX12_feed_23 ?_
    refine sm_bipush (Y := mX12_feed) (pc := 24) 100 (by decide) dX12_feed_24 ?_
    refine sm_icmp_le (Y := mX12_feed) (pc := 26) 35 (by decide) dX12_feed_26 (fun hc => ?_) (fun hc => ?_)
    · replace h := h.1 hc
      refine sm_iconst (Y := mX12_feed) (pc := 35) 0 (by decide) dX12_feed_35 ?_
      refine sm_istore0 (Y := mX12_feed) (pc := 36) [(4, .int 0), (0, .ref (sm_B E + 109)), (1, .long x1), (3, .int x3)] 4 (by decide) rfl dX12_feed_36 ?_
      refine sm_sub [1, 2, 3, 0] rfl ?_
      exact h
    · replace h := h.2 hc
      refine sm_aload_n (Y := mX12_feed) (pc := 29) 0 0 rfl rfl dX12_feed_29 ?_
      refine sm_iconst (Y := mX12_feed) (pc := 30) 4 (by decide) dX12_feed_30 ?_
      refine sm_iv_I (Y := mX12_feed) (pc := 31) (As := [.int 4]) (a := 109) fX12_finds wRX12_194 (lk_109 hly) (by decide) rfl rfl rfl (Nat.le_trans (by decide) hd) (Nat.le_of_ble_eq_true rfl) ⟨Nat.le_refl _, Nat.le_refl _⟩ dX12_feed_31 rfl (sm_monoI h (fun r_5 m_4 h => ?_))
      exact sm_iret (Y := mX12_feed) (pc := 34) rfl rfl rfl dX12_feed_34 ⟨_, rfl, h⟩
  · replace h := h.2 hc
    refine sm_aload_n (Y := mX12_feed) (pc := 12) 0 0 rfl rfl dX12_feed_12 ?_
    refine sm_iconst (Y := mX12_feed) (pc := 13) 1 (by decide) dX12_feed_13 ?_
    refine sm_iv_I (Y := mX12_feed) (pc := 14) (As := [.int 1]) (a := 109) fX12_finds wRX12_194 (lk_109 hly) (by decide) rfl rfl rfl (Nat.le_trans (by decide) hd) (Nat.le_of_ble_eq_true rfl) ⟨Nat.le_refl _, Nat.le_refl _⟩ dX12_feed_14 rfl (sm_monoI h (fun r_7 m_6 h => ?_))
    exact sm_iret (Y := mX12_feed) (pc := 17) rfl rfl rfl dX12_feed_17 ⟨_, rfl, h⟩
abbrev mX12_byteAt : sm_Y := (yX12_byteAt, cX12_byteAt, 2, (some FieldType.int))
theorem fX12_byteAt : sm_mi mX12_byteAt RX12 1 := ⟨sm_in 1465 (by decide +kernel) (by decide +kernel), sm_in 1464 (by decide +kernel) (by decide +kernel), sm_in 53 (by decide +kernel) (by decide +kernel), sm_in 93 (by decide +kernel) (by decide +kernel), rfl, ⟨by decide +kernel, by decide +kernel, by decide +kernel⟩, by decide⟩
theorem dX12_byteAt_0 : decode cX12_byteAt 0 = .ok (.iload_n 1, 1) := dk_iload_n_1 (by decide +kernel)
theorem dX12_byteAt_1 : decode cX12_byteAt 1 = .ok (.aload_n 0, 1) := dk_aload_n_0 (by decide +kernel)
theorem dX12_byteAt_2 : decode cX12_byteAt 2 = .ok (.getfield 234, 3) := dk_getfield 234 (b1 := 0) (b2 := 234) (by decide +kernel) (by decide +kernel) (by decide +kernel) (by decide +kernel)
theorem dX12_byteAt_5 : decode cX12_byteAt 5 = .ok (.if_icmp .ge 12, 3) := dk_if_icmp_ge 12 (b1 := 0) (b2 := 12) (by decide +kernel) (by decide +kernel) (by decide +kernel) (by decide +kernel)
theorem dX12_byteAt_17 : decode cX12_byteAt 17 = .ok (.iconst (-1), 1) := dk_iconst_m1 (by decide +kernel)
theorem dX12_byteAt_18 : decode cX12_byteAt 18 = .ok (.ireturn, 1) := dk_ireturn (by decide +kernel)
theorem dX12_byteAt_8 : decode cX12_byteAt 8 = .ok (.aload_n 0, 1) := dk_aload_n_0 (by decide +kernel)
theorem dX12_byteAt_9 : decode cX12_byteAt 9 = .ok (.getfield 32, 3) := dk_getfield 32 (b1 := 0) (b2 := 32) (by decide +kernel) (by decide +kernel) (by decide +kernel) (by decide +kernel)
theorem dX12_byteAt_12 : decode cX12_byteAt 12 = .ok (.iload_n 1, 1) := dk_iload_n_1 (by decide +kernel)
theorem dX12_byteAt_13 : decode cX12_byteAt 13 = .ok (.iaload, 1) := dk_iaload (by decide +kernel)
theorem dX12_byteAt_14 : decode cX12_byteAt 14 = .ok (.goto 4, 3) := dk_goto 4 (b1 := 0) (b2 := 4) (by decide +kernel) (by decide +kernel) (by decide +kernel) (by decide +kernel)
set_option maxRecDepth 20000 in
theorem vX12_byteAt_0 {E : sm_E} {L : sm_S → Prop} {d : Nat} {x1 : Int32}  {m : sm_M} {Q : Int32 → sm_M → Prop} (hly : ∀ S, L S → ly S) (hd : 1 ≤ d) 
  (h : ((m.1 109 32) ≤ x1 →
      Q (-1) m) ∧
   (¬ (m.1 109 32) ≤ x1 →
      (vp_in x1 100) ∧ Q (m.1 116 x1.toNatClampNeg) m)) :
  sm_callI E L mX12_byteAt d 0 0 [.ref (sm_B E + 109), .int x1] m Q := by
  refine sm_enter (by decide +kernel) (by simp [lg_sl, Value.category]) ?_
  refine sm_iload_n (Y := mX12_byteAt) (pc := 0) 1 1 rfl rfl dX12_byteAt_0 ?_
  refine sm_aload_n (Y := mX12_byteAt) (pc := 1) 0 0 rfl rfl dX12_byteAt_1 ?_
  refine gf_RX12_234 (Y := mX12_byteAt) (pc := 2) rfl ((lk_109 hly) _) dX12_byteAt_2 ?_
  refine sm_icmp_ge (Y := mX12_byteAt) (pc := 5) 17 (by decide) dX12_byteAt_5 (fun hc => ?_) (fun hc => ?_)
  · replace h := h.1 hc
    refine sm_iconst (Y := mX12_byteAt) (pc := 17) (-1) (by decide) dX12_byteAt_17 ?_
    exact sm_iret (Y := mX12_byteAt) (pc := 18) rfl rfl rfl dX12_byteAt_18 ⟨_, rfl, h⟩
  · replace h := h.2 hc
    refine sm_aload_n (Y := mX12_byteAt) (pc := 8) 0 0 rfl rfl dX12_byteAt_8 ?_
    refine gf_RX12_32 (Y := mX12_byteAt) (pc := 9) (b := 116) rfl ((lk_109 hly) _) (lf_109_10 hly _) dX12_byteAt_9 ?_
    refine sm_iload_n (Y := mX12_byteAt) (pc := 12) 1 1 rfl rfl dX12_byteAt_12 ?_
    obtain ⟨hn_1, h⟩ := h
    refine sm_iald (Y := mX12_byteAt) (pc := 13) (la_116 hly _) hn_1 dX12_byteAt_13 ?_
    refine sm_goto (Y := mX12_byteAt) (pc := 14) 18 (by decide) dX12_byteAt_14 ?_
    exact sm_iret (Y := mX12_byteAt) (pc := 18) rfl rfl rfl dX12_byteAt_18 ⟨_, rfl, h⟩
abbrev mX12_isDigit : sm_Y := (yX12_isDigit, cX12_isDigit, 1, (some FieldType.boolean))
theorem fX12_isDigit : sm_mt mX12_isDigit 1 := ⟨sm_in 1472 (by decide +kernel) (by decide +kernel), sm_in 1471 (by decide +kernel) (by decide +kernel), sm_in 93 (by decide +kernel) (by decide +kernel), ⟨by decide +kernel, by decide +kernel, by decide +kernel⟩, by decide⟩
theorem dX12_isDigit_0 : decode cX12_isDigit 0 = .ok (.iload_n 0, 1) := dk_iload_n_0 (by decide +kernel)
theorem dX12_isDigit_1 : decode cX12_isDigit 1 = .ok (.bipush 48, 2) := dk_bipush 48 (b := 48) (by decide +kernel) (by decide +kernel) (by decide +kernel)
theorem dX12_isDigit_3 : decode cX12_isDigit 3 = .ok (.if_icmp .lt 13, 3) := dk_if_icmp_lt 13 (b1 := 0) (b2 := 13) (by decide +kernel) (by decide +kernel) (by decide +kernel) (by decide +kernel)
theorem dX12_isDigit_16 : decode cX12_isDigit 16 = .ok (.iconst 0, 1) := dk_iconst_0 (by decide +kernel)
theorem dX12_isDigit_17 : decode cX12_isDigit 17 = .ok (.ireturn, 1) := dk_ireturn (by decide +kernel)
theorem dX12_isDigit_6 : decode cX12_isDigit 6 = .ok (.iload_n 0, 1) := dk_iload_n_0 (by decide +kernel)
theorem dX12_isDigit_7 : decode cX12_isDigit 7 = .ok (.bipush 57, 2) := dk_bipush 57 (b := 57) (by decide +kernel) (by decide +kernel) (by decide +kernel)
theorem dX12_isDigit_9 : decode cX12_isDigit 9 = .ok (.if_icmp .gt 7, 3) := dk_if_icmp_gt 7 (b1 := 0) (b2 := 7) (by decide +kernel) (by decide +kernel) (by decide +kernel) (by decide +kernel)
theorem dX12_isDigit_12 : decode cX12_isDigit 12 = .ok (.iconst 1, 1) := dk_iconst_1 (by decide +kernel)
theorem dX12_isDigit_13 : decode cX12_isDigit 13 = .ok (.goto 4, 3) := dk_goto 4 (b1 := 0) (b2 := 4) (by decide +kernel) (by decide +kernel) (by decide +kernel) (by decide +kernel)
set_option maxRecDepth 20000 in
theorem vX12_isDigit_0 {E : sm_E} {L : sm_S → Prop} {d : Nat} {x0 : Int32}  {m : sm_M} {Q : Int32 → sm_M → Prop}  (hd : 1 ≤ d) 
  (h : (x0 < 48 →
      Q 0 m) ∧
   (¬ x0 < 48 →
      (57 < x0 →
         Q 0 m) ∧
      (¬ 57 < x0 →
         Q 1 m))) :
  sm_callI E L mX12_isDigit d 0 0 [.int x0] m Q := by
  refine sm_enter (by decide +kernel) (by simp [lg_sl, Value.category]) ?_
  refine sm_iload_n (Y := mX12_isDigit) (pc := 0) 0 0 rfl rfl dX12_isDigit_0 ?_
  refine sm_bipush (Y := mX12_isDigit) (pc := 1) 48 (by decide) dX12_isDigit_1 ?_
  refine sm_icmp_lt (Y := mX12_isDigit) (pc := 3) 16 (by decide) dX12_isDigit_3 (fun hc => ?_) (fun hc => ?_)
  · replace h := h.1 hc
    refine sm_iconst (Y := mX12_isDigit) (pc := 16) 0 (by decide) dX12_isDigit_16 ?_
    exact sm_zret (Y := mX12_isDigit) (pc := 17) rfl (by decide) rfl rfl dX12_isDigit_17 ⟨_, rfl, h⟩
  · replace h := h.2 hc
    refine sm_iload_n (Y := mX12_isDigit) (pc := 6) 0 0 rfl rfl dX12_isDigit_6 ?_
    refine sm_bipush (Y := mX12_isDigit) (pc := 7) 57 (by decide) dX12_isDigit_7 ?_
    refine sm_icmp_gt (Y := mX12_isDigit) (pc := 9) 16 (by decide) dX12_isDigit_9 (fun hc => ?_) (fun hc => ?_)
    · replace h := h.1 hc
      refine sm_iconst (Y := mX12_isDigit) (pc := 16) 0 (by decide) dX12_isDigit_16 ?_
      exact sm_zret (Y := mX12_isDigit) (pc := 17) rfl (by decide) rfl rfl dX12_isDigit_17 ⟨_, rfl, h⟩
    · replace h := h.2 hc
      refine sm_iconst (Y := mX12_isDigit) (pc := 12) 1 (by decide) dX12_isDigit_12 ?_
      refine sm_goto (Y := mX12_isDigit) (pc := 13) 17 (by decide) dX12_isDigit_13 ?_
      exact sm_zret (Y := mX12_isDigit) (pc := 17) rfl (by decide) rfl rfl dX12_isDigit_17 ⟨_, rfl, h⟩
abbrev mX12_readsLeaf : sm_Y := (yX12_readsLeaf, cX12_readsLeaf, 3, none)
theorem fX12_readsLeaf : sm_mi mX12_readsLeaf RX12 0 := ⟨sm_in 1469 (by decide +kernel) (by decide +kernel), sm_in 1468 (by decide +kernel) (by decide +kernel), sm_in 54 (by decide +kernel) (by decide +kernel), sm_in 93 (by decide +kernel) (by decide +kernel), rfl, ⟨by decide +kernel, by decide +kernel, by decide +kernel⟩, by decide⟩
def gX12_readsLeaf_57 (E : sm_E) (L : sm_S → Prop) (d : Nat) (vs : List Value) (x1 : Int32) (s1 : Int32) (m : sm_M) (Q : sm_M → Prop) : Prop := sm_go E L mX12_readsLeaf d 0 0 vs 57 [(0, .ref (sm_B E + 109)), (1, .int x1)] [.int s1, .ref (sm_B E + 109)] m 0 0 (sm_Z E L vs 0 0 (sm_QV Q))
def gX12_readsLeaf_33 (E : sm_E) (L : sm_S → Prop) (d : Nat) (vs : List Value) (x1 : Int32) (s1 : Int32) (s2 : Int32) (m : sm_M) (Q : sm_M → Prop) : Prop := sm_go E L mX12_readsLeaf d 0 0 vs 33 [(0, .ref (sm_B E + 109)), (1, .int x1)] [.int s2, .int s1, .ref (sm_B E + 109)] m 0 0 (sm_Z E L vs 0 0 (sm_QV Q))
theorem dX12_readsLeaf_57 : decode cX12_readsLeaf 57 = .ok (.putfield 246, 3) := dk_putfield 246 (b1 := 0) (b2 := 246) (by decide +kernel) (by decide +kernel) (by decide +kernel) (by decide +kernel)
theorem dX12_readsLeaf_60 : decode cX12_readsLeaf 60 = .ok (.aload_n 0, 1) := dk_aload_n_0 (by decide +kernel)
theorem dX12_readsLeaf_61 : decode cX12_readsLeaf 61 = .ok (.getfield 246, 3) := dk_getfield 246 (b1 := 0) (b2 := 246) (by decide +kernel) (by decide +kernel) (by decide +kernel) (by decide +kernel)
theorem dX12_readsLeaf_64 : decode cX12_readsLeaf 64 = .ok (.ifCond .ne 39, 3) := dk_ifCond_ne 39 (b1 := 0) (b2 := 39) (by decide +kernel) (by decide +kernel) (by decide +kernel) (by decide +kernel)
theorem dX12_readsLeaf_103 : decode cX12_readsLeaf 103 = .ok (.return_, 1) := dk_return_ (by decide +kernel)
theorem dX12_readsLeaf_67 : decode cX12_readsLeaf 67 = .ok (.aload_n 0, 1) := dk_aload_n_0 (by decide +kernel)
theorem dX12_readsLeaf_68 : decode cX12_readsLeaf 68 = .ok (.aload_n 0, 1) := dk_aload_n_0 (by decide +kernel)
theorem dX12_readsLeaf_69 : decode cX12_readsLeaf 69 = .ok (.getfield 237, 3) := dk_getfield 237 (b1 := 0) (b2 := 237) (by decide +kernel) (by decide +kernel) (by decide +kernel) (by decide +kernel)
theorem wRX12_240 : Cond.methodLink RX12 240 yX12_byteAt ∈ sm_T := sm_in 1462 (by decide +kernel) (by decide +kernel)
theorem dX12_readsLeaf_72 : decode cX12_readsLeaf 72 = .ok (.invokevirtual 240, 3) := dk_invokevirtual 240 (b1 := 0) (b2 := 240) (by decide +kernel) (by decide +kernel) (by decide +kernel) (by decide +kernel)
theorem dX12_readsLeaf_75 : decode cX12_readsLeaf 75 = .ok (.bipush 48, 2) := dk_bipush 48 (b := 48) (by decide +kernel) (by decide +kernel) (by decide +kernel)
theorem dX12_readsLeaf_77 : decode cX12_readsLeaf 77 = .ok (.isub, 1) := dk_isub (by decide +kernel)
theorem dX12_readsLeaf_78 : decode cX12_readsLeaf 78 = .ok (.istore_n 2, 1) := dk_istore_n_2 (by decide +kernel)
theorem dX12_readsLeaf_79 : decode cX12_readsLeaf 79 = .ok (.aload_n 0, 1) := dk_aload_n_0 (by decide +kernel)
theorem dX12_readsLeaf_80 : decode cX12_readsLeaf 80 = .ok (.iload_n 1, 1) := dk_iload_n_1 (by decide +kernel)
theorem dX12_readsLeaf_81 : decode cX12_readsLeaf 81 = .ok (.ifCond .eq 8, 3) := dk_ifCond_eq 8 (b1 := 0) (b2 := 8) (by decide +kernel) (by decide +kernel) (by decide +kernel) (by decide +kernel)
theorem dX12_readsLeaf_89 : decode cX12_readsLeaf 89 = .ok (.iload_n 2, 1) := dk_iload_n_2 (by decide +kernel)
theorem dX12_readsLeaf_90 : decode cX12_readsLeaf 90 = .ok (.invokevirtual 204, 3) := dk_invokevirtual 204 (b1 := 0) (b2 := 204) (by decide +kernel) (by decide +kernel) (by decide +kernel) (by decide +kernel)
theorem dX12_readsLeaf_93 : decode cX12_readsLeaf 93 = .ok (.aload_n 0, 1) := dk_aload_n_0 (by decide +kernel)
theorem dX12_readsLeaf_94 : decode cX12_readsLeaf 94 = .ok (.dup, 1) := dk_dup (by decide +kernel)
theorem dX12_readsLeaf_95 : decode cX12_readsLeaf 95 = .ok (.getfield 237, 3) := dk_getfield 237 (b1 := 0) (b2 := 237) (by decide +kernel) (by decide +kernel) (by decide +kernel) (by decide +kernel)
theorem dX12_readsLeaf_98 : decode cX12_readsLeaf 98 = .ok (.iconst 1, 1) := dk_iconst_1 (by decide +kernel)
theorem dX12_readsLeaf_99 : decode cX12_readsLeaf 99 = .ok (.iadd, 1) := dk_iadd (by decide +kernel)
theorem dX12_readsLeaf_100 : decode cX12_readsLeaf 100 = .ok (.putfield 237, 3) := dk_putfield 237 (b1 := 0) (b2 := 237) (by decide +kernel) (by decide +kernel) (by decide +kernel) (by decide +kernel)
theorem dX12_readsLeaf_84 : decode cX12_readsLeaf 84 = .ok (.iload_n 2, 1) := dk_iload_n_2 (by decide +kernel)
theorem dX12_readsLeaf_85 : decode cX12_readsLeaf 85 = .ok (.ineg, 1) := dk_ineg (by decide +kernel)
theorem dX12_readsLeaf_86 : decode cX12_readsLeaf 86 = .ok (.goto 4, 3) := dk_goto 4 (b1 := 0) (b2 := 4) (by decide +kernel) (by decide +kernel) (by decide +kernel) (by decide +kernel)
set_option maxRecDepth 20000 in
theorem vX12_readsLeaf_57 {E : sm_E} {L : sm_S → Prop} {d : Nat} {vs : List Value} {x1 : Int32} {s1 : Int32}  {m : sm_M} {Q : sm_M → Prop} (hly : ∀ S, L S → ly S) (hd : 2 ≤ d) 
  (h : (s1 = 0 ∨ s1 = 1) ∧ ∀ m_1 : sm_M, m_1 = sm_wI m 109 34 s1 →
   (¬ (m_1.1 109 34) = 0 →
      Q m_1) ∧
   ((m_1.1 109 34) = 0 →
      sm_callI E L mX12_byteAt 1 0 0 [.ref (sm_B E + 109), .int (m_1.1 109 31)] m_1 (fun r_4 m_3 =>
      ∀ x2_5 : Int32, x2_5 = r_4 - 48 →
      (x1 = 0 →
         sm_callV E L mX12_puts 1 0 0 [.ref (sm_B E + 109), .int x2_5] m_3 (fun m_6 =>
         ∀ m_7 : sm_M, m_7 = sm_wI m_6 109 31 ((m_6.1 109 31) + 1) →
         Q m_7)) ∧
      (¬ x1 = 0 →
         sm_callV E L mX12_puts 1 0 0 [.ref (sm_B E + 109), .int (-x2_5)] m_3 (fun m_8 =>
         ∀ m_9 : sm_M, m_9 = sm_wI m_8 109 31 ((m_8.1 109 31) + 1) →
         Q m_9))))) :
  gX12_readsLeaf_57 E L d vs x1 s1 m Q := by
  obtain ⟨hn_2, h⟩ := h
  refine pf_RX12_246 (Y := mX12_readsLeaf) (pc := 57) rfl hn_2 ((lk_109 hly) _) dX12_readsLeaf_57 (fun m_1 em_1 => ?_)
  replace h := h m_1 em_1
  refine sm_aload_n (Y := mX12_readsLeaf) (pc := 60) 0 0 rfl rfl dX12_readsLeaf_60 ?_
  refine gf_RX12_246 (Y := mX12_readsLeaf) (pc := 61) rfl ((lk_109 hly) _) dX12_readsLeaf_61 ?_
  refine sm_if_ne (Y := mX12_readsLeaf) (pc := 64) 103 (by decide) dX12_readsLeaf_64 (fun hc => ?_) (fun hc => ?_)
  · replace h := h.1 hc
    exact sm_vret (Y := mX12_readsLeaf) (pc := 103) rfl rfl rfl dX12_readsLeaf_103 ⟨rfl, h⟩
  · replace h := h.2 hc
    refine sm_aload_n (Y := mX12_readsLeaf) (pc := 67) 0 0 rfl rfl dX12_readsLeaf_67 ?_
    refine sm_aload_n (Y := mX12_readsLeaf) (pc := 68) 0 0 rfl rfl dX12_readsLeaf_68 ?_
    refine gf_RX12_237 (Y := mX12_readsLeaf) (pc := 69) rfl ((lk_109 hly) _) dX12_readsLeaf_69 ?_
    refine sm_iv_I (Y := mX12_readsLeaf) (pc := 72) (As := [.int (m_1.1 109 31)]) (a := 109) fX12_byteAt wRX12_240 (lk_109 hly) (by decide) rfl rfl rfl (Nat.le_trans (by decide) hd) (Nat.le_of_ble_eq_true rfl) ⟨Nat.le_refl _, Nat.le_refl _⟩ dX12_readsLeaf_72 rfl (sm_monoI h (fun r_4 m_3 h => ?_))
    refine sm_bipush (Y := mX12_readsLeaf) (pc := 75) 48 (by decide) dX12_readsLeaf_75 ?_
    refine sm_isub (Y := mX12_readsLeaf) (pc := 77) dX12_readsLeaf_77 ?_
    refine sm_istore_n (Y := mX12_readsLeaf) (pc := 78) (fun y => [(2, .int y), (0, .ref (sm_B E + 109)), (1, .int x1)]) 2 rfl (by decide) (fun _ => rfl) dX12_readsLeaf_78 (fun x2_5 ex2_5 => ?_)
    replace h := h x2_5 ex2_5
    refine sm_aload_n (Y := mX12_readsLeaf) (pc := 79) 1 0 rfl rfl dX12_readsLeaf_79 ?_
    refine sm_iload_n (Y := mX12_readsLeaf) (pc := 80) 2 1 rfl rfl dX12_readsLeaf_80 ?_
    refine sm_if_eq (Y := mX12_readsLeaf) (pc := 81) 89 (by decide) dX12_readsLeaf_81 (fun hc => ?_) (fun hc => ?_)
    · replace h := h.1 hc
      refine sm_iload_n (Y := mX12_readsLeaf) (pc := 89) 0 2 rfl rfl dX12_readsLeaf_89 ?_
      refine sm_iv_V (Y := mX12_readsLeaf) (pc := 90) (As := [.int x2_5]) (a := 109) fX12_puts wRX12_204 (lk_109 hly) (by decide) rfl rfl rfl (Nat.le_trans (by decide) hd) (Nat.le_of_ble_eq_true rfl) ⟨Nat.le_refl _, Nat.le_refl _⟩ dX12_readsLeaf_90 rfl (sm_monoV h (fun m_6 h => ?_))
      refine sm_aload_n (Y := mX12_readsLeaf) (pc := 93) 1 0 rfl rfl dX12_readsLeaf_93 ?_
      refine sm_dup (Y := mX12_readsLeaf) (pc := 94) rfl dX12_readsLeaf_94 ?_
      refine gf_RX12_237 (Y := mX12_readsLeaf) (pc := 95) rfl ((lk_109 hly) _) dX12_readsLeaf_95 ?_
      refine sm_iconst (Y := mX12_readsLeaf) (pc := 98) 1 (by decide) dX12_readsLeaf_98 ?_
      refine sm_iadd (Y := mX12_readsLeaf) (pc := 99) dX12_readsLeaf_99 ?_
      refine pf_RX12_237 (Y := mX12_readsLeaf) (pc := 100) rfl ((lk_109 hly) _) dX12_readsLeaf_100 (fun m_7 em_7 => ?_)
      replace h := h m_7 em_7
      exact sm_vret (Y := mX12_readsLeaf) (pc := 103) rfl rfl rfl dX12_readsLeaf_103 ⟨rfl, h⟩
    · replace h := h.2 hc
      refine sm_iload_n (Y := mX12_readsLeaf) (pc := 84) 0 2 rfl rfl dX12_readsLeaf_84 ?_
      refine sm_ineg (Y := mX12_readsLeaf) (pc := 85) dX12_readsLeaf_85 ?_
      refine sm_goto (Y := mX12_readsLeaf) (pc := 86) 90 (by decide) dX12_readsLeaf_86 ?_
      refine sm_iv_V (Y := mX12_readsLeaf) (pc := 90) (As := [.int (-x2_5)]) (a := 109) fX12_puts wRX12_204 (lk_109 hly) (by decide) rfl rfl rfl (Nat.le_trans (by decide) hd) (Nat.le_of_ble_eq_true rfl) ⟨Nat.le_refl _, Nat.le_refl _⟩ dX12_readsLeaf_90 rfl (sm_monoV h (fun m_8 h => ?_))
      refine sm_aload_n (Y := mX12_readsLeaf) (pc := 93) 1 0 rfl rfl dX12_readsLeaf_93 ?_
      refine sm_dup (Y := mX12_readsLeaf) (pc := 94) rfl dX12_readsLeaf_94 ?_
      refine gf_RX12_237 (Y := mX12_readsLeaf) (pc := 95) rfl ((lk_109 hly) _) dX12_readsLeaf_95 ?_
      refine sm_iconst (Y := mX12_readsLeaf) (pc := 98) 1 (by decide) dX12_readsLeaf_98 ?_
      refine sm_iadd (Y := mX12_readsLeaf) (pc := 99) dX12_readsLeaf_99 ?_
      refine pf_RX12_237 (Y := mX12_readsLeaf) (pc := 100) rfl ((lk_109 hly) _) dX12_readsLeaf_100 (fun m_9 em_9 => ?_)
      replace h := h m_9 em_9
      exact sm_vret (Y := mX12_readsLeaf) (pc := 103) rfl rfl rfl dX12_readsLeaf_103 ⟨rfl, h⟩
theorem dX12_readsLeaf_33 : decode cX12_readsLeaf 33 = .ok (.iadd, 1) := dk_iadd (by decide +kernel)
theorem dX12_readsLeaf_34 : decode cX12_readsLeaf 34 = .ok (.putfield 237, 3) := dk_putfield 237 (b1 := 0) (b2 := 237) (by decide +kernel) (by decide +kernel) (by decide +kernel) (by decide +kernel)
theorem dX12_readsLeaf_37 : decode cX12_readsLeaf 37 = .ok (.aload_n 0, 1) := dk_aload_n_0 (by decide +kernel)
theorem dX12_readsLeaf_38 : decode cX12_readsLeaf 38 = .ok (.aload_n 0, 1) := dk_aload_n_0 (by decide +kernel)
theorem dX12_readsLeaf_39 : decode cX12_readsLeaf 39 = .ok (.aload_n 0, 1) := dk_aload_n_0 (by decide +kernel)
theorem dX12_readsLeaf_40 : decode cX12_readsLeaf 40 = .ok (.getfield 237, 3) := dk_getfield 237 (b1 := 0) (b2 := 237) (by decide +kernel) (by decide +kernel) (by decide +kernel) (by decide +kernel)
theorem dX12_readsLeaf_43 : decode cX12_readsLeaf 43 = .ok (.invokevirtual 240, 3) := dk_invokevirtual 240 (b1 := 0) (b2 := 240) (by decide +kernel) (by decide +kernel) (by decide +kernel) (by decide +kernel)
theorem wRX12_243 : Cond.methodLink RX12 243 yX12_isDigit ∈ sm_T := sm_in 1470 (by decide +kernel) (by decide +kernel)
theorem dX12_readsLeaf_46 : decode cX12_readsLeaf 46 = .ok (.invokestatic 243, 3) := dk_invokestatic 243 (b1 := 0) (b2 := 243) (by decide +kernel) (by decide +kernel) (by decide +kernel) (by decide +kernel)
theorem dX12_readsLeaf_49 : decode cX12_readsLeaf 49 = .ok (.ifCond .ne 7, 3) := dk_ifCond_ne 7 (b1 := 0) (b2 := 7) (by decide +kernel) (by decide +kernel) (by decide +kernel) (by decide +kernel)
theorem dX12_readsLeaf_56 : decode cX12_readsLeaf 56 = .ok (.iconst 0, 1) := dk_iconst_0 (by decide +kernel)
theorem dX12_readsLeaf_52 : decode cX12_readsLeaf 52 = .ok (.iconst 1, 1) := dk_iconst_1 (by decide +kernel)
theorem dX12_readsLeaf_53 : decode cX12_readsLeaf 53 = .ok (.goto 4, 3) := dk_goto 4 (b1 := 0) (b2 := 4) (by decide +kernel) (by decide +kernel) (by decide +kernel) (by decide +kernel)
set_option maxRecDepth 20000 in
theorem vX12_readsLeaf_33 {E : sm_E} {L : sm_S → Prop} {d : Nat} {vs : List Value} {x1 : Int32} {s1 : Int32} {s2 : Int32}  {m : sm_M} {Q : sm_M → Prop} (hly : ∀ S, L S → ly S) (hd : 2 ≤ d) 
  (h : ∀ m_1 : sm_M, m_1 = sm_wI m 109 31 (s1 + s2) →
   sm_callI E L mX12_byteAt 1 0 0 [.ref (sm_B E + 109), .int (m_1.1 109 31)] m_1 (fun r_3 m_2 =>
   sm_callI E L mX12_isDigit 1 0 0 [.int r_3] m_2 (fun r_5 m_4 =>
   (¬ r_5 = 0 →
      gX12_readsLeaf_57 E L d vs x1 0 m_4 Q) ∧
   (r_5 = 0 →
      gX12_readsLeaf_57 E L d vs x1 1 m_4 Q)))) :
  gX12_readsLeaf_33 E L d vs x1 s1 s2 m Q := by
  refine sm_iadd (Y := mX12_readsLeaf) (pc := 33) dX12_readsLeaf_33 ?_
  refine pf_RX12_237 (Y := mX12_readsLeaf) (pc := 34) rfl ((lk_109 hly) _) dX12_readsLeaf_34 (fun m_1 em_1 => ?_)
  replace h := h m_1 em_1
  refine sm_aload_n (Y := mX12_readsLeaf) (pc := 37) 0 0 rfl rfl dX12_readsLeaf_37 ?_
  refine sm_aload_n (Y := mX12_readsLeaf) (pc := 38) 0 0 rfl rfl dX12_readsLeaf_38 ?_
  refine sm_aload_n (Y := mX12_readsLeaf) (pc := 39) 0 0 rfl rfl dX12_readsLeaf_39 ?_
  refine gf_RX12_237 (Y := mX12_readsLeaf) (pc := 40) rfl ((lk_109 hly) _) dX12_readsLeaf_40 ?_
  refine sm_iv_I (Y := mX12_readsLeaf) (pc := 43) (As := [.int (m_1.1 109 31)]) (a := 109) fX12_byteAt wRX12_240 (lk_109 hly) (by decide) rfl rfl rfl (Nat.le_trans (by decide) hd) (Nat.le_of_ble_eq_true rfl) ⟨Nat.le_refl _, Nat.le_refl _⟩ dX12_readsLeaf_43 rfl (sm_monoI h (fun r_3 m_2 h => ?_))
  refine sm_is_I (Y := mX12_readsLeaf) (pc := 46) (As := [.int r_3]) fX12_isDigit wRX12_243 rfl (Nat.le_trans (by decide) hd) (Nat.le_of_ble_eq_true rfl) ⟨Nat.le_refl _, Nat.le_refl _⟩ dX12_readsLeaf_46 rfl (sm_monoI h (fun r_5 m_4 h => ?_))
  refine sm_if_ne (Y := mX12_readsLeaf) (pc := 49) 56 (by decide) dX12_readsLeaf_49 (fun hc => ?_) (fun hc => ?_)
  · replace h := h.1 hc
    refine sm_iconst (Y := mX12_readsLeaf) (pc := 56) 0 (by decide) dX12_readsLeaf_56 ?_
    exact h
  · replace h := h.2 hc
    refine sm_iconst (Y := mX12_readsLeaf) (pc := 52) 1 (by decide) dX12_readsLeaf_52 ?_
    refine sm_goto (Y := mX12_readsLeaf) (pc := 53) 57 (by decide) dX12_readsLeaf_53 ?_
    exact h
theorem dX12_readsLeaf_0 : decode cX12_readsLeaf 0 = .ok (.aload_n 0, 1) := dk_aload_n_0 (by decide +kernel)
theorem dX12_readsLeaf_1 : decode cX12_readsLeaf 1 = .ok (.aload_n 0, 1) := dk_aload_n_0 (by decide +kernel)
theorem dX12_readsLeaf_2 : decode cX12_readsLeaf 2 = .ok (.getfield 237, 3) := dk_getfield 237 (b1 := 0) (b2 := 237) (by decide +kernel) (by decide +kernel) (by decide +kernel) (by decide +kernel)
theorem dX12_readsLeaf_5 : decode cX12_readsLeaf 5 = .ok (.invokevirtual 240, 3) := dk_invokevirtual 240 (b1 := 0) (b2 := 240) (by decide +kernel) (by decide +kernel) (by decide +kernel) (by decide +kernel)
theorem dX12_readsLeaf_8 : decode cX12_readsLeaf 8 = .ok (.bipush 45, 2) := dk_bipush 45 (b := 45) (by decide +kernel) (by decide +kernel) (by decide +kernel)
theorem dX12_readsLeaf_10 : decode cX12_readsLeaf 10 = .ok (.if_icmp .ne 7, 3) := dk_if_icmp_ne 7 (b1 := 0) (b2 := 7) (by decide +kernel) (by decide +kernel) (by decide +kernel) (by decide +kernel)
theorem dX12_readsLeaf_17 : decode cX12_readsLeaf 17 = .ok (.iconst 0, 1) := dk_iconst_0 (by decide +kernel)
theorem dX12_readsLeaf_18 : decode cX12_readsLeaf 18 = .ok (.istore_n 1, 1) := dk_istore_n_1 (by decide +kernel)
theorem dX12_readsLeaf_19 : decode cX12_readsLeaf 19 = .ok (.aload_n 0, 1) := dk_aload_n_0 (by decide +kernel)
theorem dX12_readsLeaf_20 : decode cX12_readsLeaf 20 = .ok (.dup, 1) := dk_dup (by decide +kernel)
theorem dX12_readsLeaf_21 : decode cX12_readsLeaf 21 = .ok (.getfield 237, 3) := dk_getfield 237 (b1 := 0) (b2 := 237) (by decide +kernel) (by decide +kernel) (by decide +kernel) (by decide +kernel)
theorem dX12_readsLeaf_24 : decode cX12_readsLeaf 24 = .ok (.iload_n 1, 1) := dk_iload_n_1 (by decide +kernel)
theorem dX12_readsLeaf_25 : decode cX12_readsLeaf 25 = .ok (.ifCond .eq 7, 3) := dk_ifCond_eq 7 (b1 := 0) (b2 := 7) (by decide +kernel) (by decide +kernel) (by decide +kernel) (by decide +kernel)
theorem dX12_readsLeaf_32 : decode cX12_readsLeaf 32 = .ok (.iconst 0, 1) := dk_iconst_0 (by decide +kernel)
theorem dX12_readsLeaf_13 : decode cX12_readsLeaf 13 = .ok (.iconst 1, 1) := dk_iconst_1 (by decide +kernel)
theorem dX12_readsLeaf_14 : decode cX12_readsLeaf 14 = .ok (.goto 4, 3) := dk_goto 4 (b1 := 0) (b2 := 4) (by decide +kernel) (by decide +kernel) (by decide +kernel) (by decide +kernel)
theorem dX12_readsLeaf_28 : decode cX12_readsLeaf 28 = .ok (.iconst 1, 1) := dk_iconst_1 (by decide +kernel)
theorem dX12_readsLeaf_29 : decode cX12_readsLeaf 29 = .ok (.goto 4, 3) := dk_goto 4 (b1 := 0) (b2 := 4) (by decide +kernel) (by decide +kernel) (by decide +kernel) (by decide +kernel)
set_option maxRecDepth 20000 in
theorem vX12_readsLeaf_0 {E : sm_E} {L : sm_S → Prop} {d : Nat}   {m : sm_M} {Q : sm_M → Prop} (hly : ∀ S, L S → ly S) (hd : 2 ≤ d) 
  (h : sm_callI E L mX12_byteAt 1 0 0 [.ref (sm_B E + 109), .int (m.1 109 31)] m (fun r_2 m_1 =>
   (¬ r_2 = 45 →
      gX12_readsLeaf_33 E L d ([.ref (sm_B E + 109)]) 0 (m_1.1 109 31) 0 m_1 Q) ∧
   (r_2 = 45 →
      gX12_readsLeaf_33 E L d ([.ref (sm_B E + 109)]) 1 (m_1.1 109 31) 1 m_1 Q))) :
  sm_callV E L mX12_readsLeaf d 0 0 [.ref (sm_B E + 109)] m Q := by
  refine sm_enter (by decide +kernel) (by simp [lg_sl, Value.category]) ?_
  refine sm_aload_n (Y := mX12_readsLeaf) (pc := 0) 0 0 rfl rfl dX12_readsLeaf_0 ?_
  refine sm_aload_n (Y := mX12_readsLeaf) (pc := 1) 0 0 rfl rfl dX12_readsLeaf_1 ?_
  refine gf_RX12_237 (Y := mX12_readsLeaf) (pc := 2) rfl ((lk_109 hly) _) dX12_readsLeaf_2 ?_
  refine sm_iv_I (Y := mX12_readsLeaf) (pc := 5) (As := [.int (m.1 109 31)]) (a := 109) fX12_byteAt wRX12_240 (lk_109 hly) (by decide) rfl rfl rfl (Nat.le_trans (by decide) hd) (Nat.le_of_ble_eq_true rfl) ⟨Nat.le_refl _, Nat.le_refl _⟩ dX12_readsLeaf_5 rfl (sm_monoI h (fun r_2 m_1 h => ?_))
  refine sm_bipush (Y := mX12_readsLeaf) (pc := 8) 45 (by decide) dX12_readsLeaf_8 ?_
  refine sm_icmp_ne (Y := mX12_readsLeaf) (pc := 10) 17 (by decide) dX12_readsLeaf_10 (fun hc => ?_) (fun hc => ?_)
  · replace h := h.1 hc
    refine sm_iconst (Y := mX12_readsLeaf) (pc := 17) 0 (by decide) dX12_readsLeaf_17 ?_
    refine sm_istore0_n (Y := mX12_readsLeaf) (pc := 18) [(1, .int 0), (0, .ref (sm_B E + 109))] 1 rfl (by decide) rfl dX12_readsLeaf_18 ?_
    refine sm_aload_n (Y := mX12_readsLeaf) (pc := 19) 1 0 rfl rfl dX12_readsLeaf_19 ?_
    refine sm_dup (Y := mX12_readsLeaf) (pc := 20) rfl dX12_readsLeaf_20 ?_
    refine gf_RX12_237 (Y := mX12_readsLeaf) (pc := 21) rfl ((lk_109 hly) _) dX12_readsLeaf_21 ?_
    refine sm_iload_n (Y := mX12_readsLeaf) (pc := 24) 0 1 rfl rfl dX12_readsLeaf_24 ?_
    refine sm_if_eq (Y := mX12_readsLeaf) (pc := 25) 32 (by decide) dX12_readsLeaf_25 (fun hc => ?_) (fun hc => ?_)
    rotate_left
    · exact absurd hc (by decide)
    refine sm_iconst (Y := mX12_readsLeaf) (pc := 32) 0 (by decide) dX12_readsLeaf_32 ?_
    refine sm_sub [1, 0] rfl ?_
    exact h
  · replace h := h.2 hc
    refine sm_iconst (Y := mX12_readsLeaf) (pc := 13) 1 (by decide) dX12_readsLeaf_13 ?_
    refine sm_goto (Y := mX12_readsLeaf) (pc := 14) 18 (by decide) dX12_readsLeaf_14 ?_
    refine sm_istore0_n (Y := mX12_readsLeaf) (pc := 18) [(1, .int 1), (0, .ref (sm_B E + 109))] 1 rfl (by decide) rfl dX12_readsLeaf_18 ?_
    refine sm_aload_n (Y := mX12_readsLeaf) (pc := 19) 1 0 rfl rfl dX12_readsLeaf_19 ?_
    refine sm_dup (Y := mX12_readsLeaf) (pc := 20) rfl dX12_readsLeaf_20 ?_
    refine gf_RX12_237 (Y := mX12_readsLeaf) (pc := 21) rfl ((lk_109 hly) _) dX12_readsLeaf_21 ?_
    refine sm_iload_n (Y := mX12_readsLeaf) (pc := 24) 0 1 rfl rfl dX12_readsLeaf_24 ?_
    refine sm_if_eq (Y := mX12_readsLeaf) (pc := 25) 32 (by decide) dX12_readsLeaf_25 (fun hc => ?_) (fun hc => ?_)
    · exact absurd hc (by decide)
    refine sm_iconst (Y := mX12_readsLeaf) (pc := 28) 1 (by decide) dX12_readsLeaf_28 ?_
    refine sm_goto (Y := mX12_readsLeaf) (pc := 29) 33 (by decide) dX12_readsLeaf_29 ?_
    refine sm_sub [1, 0] rfl ?_
    exact h
abbrev mX12_readsUnit : sm_Y := (yX12_readsUnit, cX12_readsUnit, 3, none)
theorem fX12_readsUnit : sm_mi mX12_readsUnit RX12 0 := ⟨sm_in 1461 (by decide +kernel) (by decide +kernel), sm_in 1460 (by decide +kernel) (by decide +kernel), sm_in 52 (by decide +kernel) (by decide +kernel), sm_in 93 (by decide +kernel) (by decide +kernel), rfl, ⟨by decide +kernel, by decide +kernel, by decide +kernel⟩, by decide⟩
def gX12_readsUnit_169 (E : sm_E) (L : sm_S → Prop) (d : Nat) (vs : List Value) (s1 : Int32) (s2 : Int32) (m : sm_M) (Q : sm_M → Prop) : Prop := sm_go E L mX12_readsUnit d 0 0 vs 169 [(0, .ref (sm_B E + 109))] [.int s2, .int s1, .ref (sm_B E + 109)] m 0 0 (sm_Z E L vs 0 0 (sm_QV Q))
def gX12_readsUnit_149 (E : sm_E) (L : sm_S → Prop) (d : Nat) (vs : List Value) (s1 : Int32) (m : sm_M) (Q : sm_M → Prop) : Prop := sm_go E L mX12_readsUnit d 0 0 vs 149 [(0, .ref (sm_B E + 109))] [.int s1, .ref (sm_B E + 109)] m 0 0 (sm_Z E L vs 0 0 (sm_QV Q))
def gX12_readsUnit_82 (E : sm_E) (L : sm_S → Prop) (d : Nat) (vs : List Value) (x1 : Int32) (s1 : Int32) (m : sm_M) (Q : sm_M → Prop) : Prop := sm_go E L mX12_readsUnit d 0 0 vs 82 [(0, .ref (sm_B E + 109)), (1, .int x1)] [.int s1, .ref (sm_B E + 109)] m 0 0 (sm_Z E L vs 0 0 (sm_QV Q))
def gX12_readsUnit_32 (E : sm_E) (L : sm_S → Prop) (d : Nat) (vs : List Value) (x1 : Int32) (s0 : Int32) (m : sm_M) (Q : sm_M → Prop) : Prop := sm_go E L mX12_readsUnit d 0 0 vs 32 [(0, .ref (sm_B E + 109)), (1, .int x1)] [.int s0] m 0 0 (sm_Z E L vs 0 0 (sm_QV Q))
theorem dX12_readsUnit_169 : decode cX12_readsUnit 169 = .ok (.iadd, 1) := dk_iadd (by decide +kernel)
theorem dX12_readsUnit_170 : decode cX12_readsUnit 170 = .ok (.putfield 237, 3) := dk_putfield 237 (b1 := 0) (b2 := 237) (by decide +kernel) (by decide +kernel) (by decide +kernel) (by decide +kernel)
theorem dX12_readsUnit_173 : decode cX12_readsUnit 173 = .ok (.goto 31, 3) := dk_goto 31 (b1 := 0) (b2 := 31) (by decide +kernel) (by decide +kernel) (by decide +kernel) (by decide +kernel)
theorem dX12_readsUnit_204 : decode cX12_readsUnit 204 = .ok (.aload_n 0, 1) := dk_aload_n_0 (by decide +kernel)
theorem dX12_readsUnit_205 : decode cX12_readsUnit 205 = .ok (.dup, 1) := dk_dup (by decide +kernel)
theorem dX12_readsUnit_206 : decode cX12_readsUnit 206 = .ok (.getfield 252, 3) := dk_getfield 252 (b1 := 0) (b2 := 252) (by decide +kernel) (by decide +kernel) (by decide +kernel) (by decide +kernel)
theorem dX12_readsUnit_209 : decode cX12_readsUnit 209 = .ok (.iconst 1, 1) := dk_iconst_1 (by decide +kernel)
theorem dX12_readsUnit_210 : decode cX12_readsUnit 210 = .ok (.isub, 1) := dk_isub (by decide +kernel)
theorem dX12_readsUnit_211 : decode cX12_readsUnit 211 = .ok (.putfield 252, 3) := dk_putfield 252 (b1 := 0) (b2 := 252) (by decide +kernel) (by decide +kernel) (by decide +kernel) (by decide +kernel)
theorem dX12_readsUnit_214 : decode cX12_readsUnit 214 = .ok (.return_, 1) := dk_return_ (by decide +kernel)
set_option maxRecDepth 20000 in
theorem vX12_readsUnit_169 {E : sm_E} {L : sm_S → Prop} {d : Nat} {vs : List Value} {s1 : Int32} {s2 : Int32}  {m : sm_M} {Q : sm_M → Prop} (hly : ∀ S, L S → ly S) {dr : Nat} (hd : 4 ≤ d) (hr : dr + 1 ≤ d) 
  (h : ∀ m_1 : sm_M, m_1 = sm_wI m 109 31 (s1 + s2) →
   ∀ m_2 : sm_M, m_2 = sm_wI m_1 109 33 ((m_1.1 109 33) - 1) →
   Q m_2) :
  gX12_readsUnit_169 E L d vs s1 s2 m Q := by
  refine sm_iadd (Y := mX12_readsUnit) (pc := 169) dX12_readsUnit_169 ?_
  refine pf_RX12_237 (Y := mX12_readsUnit) (pc := 170) rfl ((lk_109 hly) _) dX12_readsUnit_170 (fun m_1 em_1 => ?_)
  replace h := h m_1 em_1
  refine sm_goto (Y := mX12_readsUnit) (pc := 173) 204 (by decide) dX12_readsUnit_173 ?_
  refine sm_aload_n (Y := mX12_readsUnit) (pc := 204) 0 0 rfl rfl dX12_readsUnit_204 ?_
  refine sm_dup (Y := mX12_readsUnit) (pc := 205) rfl dX12_readsUnit_205 ?_
  refine gf_RX12_252 (Y := mX12_readsUnit) (pc := 206) rfl ((lk_109 hly) _) dX12_readsUnit_206 ?_
  refine sm_iconst (Y := mX12_readsUnit) (pc := 209) 1 (by decide) dX12_readsUnit_209 ?_
  refine sm_isub (Y := mX12_readsUnit) (pc := 210) dX12_readsUnit_210 ?_
  refine pf_RX12_252 (Y := mX12_readsUnit) (pc := 211) rfl ((lk_109 hly) _) dX12_readsUnit_211 (fun m_2 em_2 => ?_)
  replace h := h m_2 em_2
  exact sm_vret (Y := mX12_readsUnit) (pc := 214) rfl rfl rfl dX12_readsUnit_214 ⟨rfl, h⟩
theorem dX12_readsUnit_149 : decode cX12_readsUnit 149 = .ok (.putfield 246, 3) := dk_putfield 246 (b1 := 0) (b2 := 246) (by decide +kernel) (by decide +kernel) (by decide +kernel) (by decide +kernel)
theorem dX12_readsUnit_152 : decode cX12_readsUnit 152 = .ok (.aload_n 0, 1) := dk_aload_n_0 (by decide +kernel)
theorem dX12_readsUnit_153 : decode cX12_readsUnit 153 = .ok (.dup, 1) := dk_dup (by decide +kernel)
theorem dX12_readsUnit_154 : decode cX12_readsUnit 154 = .ok (.getfield 237, 3) := dk_getfield 237 (b1 := 0) (b2 := 237) (by decide +kernel) (by decide +kernel) (by decide +kernel) (by decide +kernel)
theorem dX12_readsUnit_157 : decode cX12_readsUnit 157 = .ok (.aload_n 0, 1) := dk_aload_n_0 (by decide +kernel)
theorem dX12_readsUnit_158 : decode cX12_readsUnit 158 = .ok (.getfield 246, 3) := dk_getfield 246 (b1 := 0) (b2 := 246) (by decide +kernel) (by decide +kernel) (by decide +kernel) (by decide +kernel)
theorem dX12_readsUnit_161 : decode cX12_readsUnit 161 = .ok (.ifCond .eq 7, 3) := dk_ifCond_eq 7 (b1 := 0) (b2 := 7) (by decide +kernel) (by decide +kernel) (by decide +kernel) (by decide +kernel)
theorem dX12_readsUnit_168 : decode cX12_readsUnit 168 = .ok (.iconst 1, 1) := dk_iconst_1 (by decide +kernel)
theorem dX12_readsUnit_164 : decode cX12_readsUnit 164 = .ok (.iconst 0, 1) := dk_iconst_0 (by decide +kernel)
theorem dX12_readsUnit_165 : decode cX12_readsUnit 165 = .ok (.goto 4, 3) := dk_goto 4 (b1 := 0) (b2 := 4) (by decide +kernel) (by decide +kernel) (by decide +kernel) (by decide +kernel)
set_option maxRecDepth 20000 in
theorem vX12_readsUnit_149 {E : sm_E} {L : sm_S → Prop} {d : Nat} {vs : List Value} {s1 : Int32}  {m : sm_M} {Q : sm_M → Prop} (hly : ∀ S, L S → ly S) {dr : Nat} (hd : 4 ≤ d) (hr : dr + 1 ≤ d) 
  (h : (s1 = 0 ∨ s1 = 1) ∧ ∀ m_1 : sm_M, m_1 = sm_wI m 109 34 s1 →
   ((m_1.1 109 34) = 0 →
      gX12_readsUnit_169 E L d vs (m_1.1 109 31) 1 m_1 Q) ∧
   (¬ (m_1.1 109 34) = 0 →
      gX12_readsUnit_169 E L d vs (m_1.1 109 31) 0 m_1 Q)) :
  gX12_readsUnit_149 E L d vs s1 m Q := by
  obtain ⟨hn_2, h⟩ := h
  refine pf_RX12_246 (Y := mX12_readsUnit) (pc := 149) rfl hn_2 ((lk_109 hly) _) dX12_readsUnit_149 (fun m_1 em_1 => ?_)
  replace h := h m_1 em_1
  refine sm_aload_n (Y := mX12_readsUnit) (pc := 152) 0 0 rfl rfl dX12_readsUnit_152 ?_
  refine sm_dup (Y := mX12_readsUnit) (pc := 153) rfl dX12_readsUnit_153 ?_
  refine gf_RX12_237 (Y := mX12_readsUnit) (pc := 154) rfl ((lk_109 hly) _) dX12_readsUnit_154 ?_
  refine sm_aload_n (Y := mX12_readsUnit) (pc := 157) 0 0 rfl rfl dX12_readsUnit_157 ?_
  refine gf_RX12_246 (Y := mX12_readsUnit) (pc := 158) rfl ((lk_109 hly) _) dX12_readsUnit_158 ?_
  refine sm_if_eq (Y := mX12_readsUnit) (pc := 161) 168 (by decide) dX12_readsUnit_161 (fun hc => ?_) (fun hc => ?_)
  · replace h := h.1 hc
    refine sm_iconst (Y := mX12_readsUnit) (pc := 168) 1 (by decide) dX12_readsUnit_168 ?_
    exact h
  · replace h := h.2 hc
    refine sm_iconst (Y := mX12_readsUnit) (pc := 164) 0 (by decide) dX12_readsUnit_164 ?_
    refine sm_goto (Y := mX12_readsUnit) (pc := 165) 169 (by decide) dX12_readsUnit_165 ?_
    exact h
theorem dX12_readsUnit_82 : decode cX12_readsUnit 82 = .ok (.putfield 246, 3) := dk_putfield 246 (b1 := 0) (b2 := 246) (by decide +kernel) (by decide +kernel) (by decide +kernel) (by decide +kernel)
theorem dX12_readsUnit_85 : decode cX12_readsUnit 85 = .ok (.aload_n 0, 1) := dk_aload_n_0 (by decide +kernel)
theorem dX12_readsUnit_86 : decode cX12_readsUnit 86 = .ok (.getfield 246, 3) := dk_getfield 246 (b1 := 0) (b2 := 246) (by decide +kernel) (by decide +kernel) (by decide +kernel) (by decide +kernel)
theorem dX12_readsUnit_89 : decode cX12_readsUnit 89 = .ok (.ifCond .eq 4, 3) := dk_ifCond_eq 4 (b1 := 0) (b2 := 4) (by decide +kernel) (by decide +kernel) (by decide +kernel) (by decide +kernel)
theorem dX12_readsUnit_93 : decode cX12_readsUnit 93 = .ok (.aload_n 0, 1) := dk_aload_n_0 (by decide +kernel)
theorem dX12_readsUnit_94 : decode cX12_readsUnit 94 = .ok (.dup, 1) := dk_dup (by decide +kernel)
theorem dX12_readsUnit_95 : decode cX12_readsUnit 95 = .ok (.getfield 252, 3) := dk_getfield 252 (b1 := 0) (b2 := 252) (by decide +kernel) (by decide +kernel) (by decide +kernel) (by decide +kernel)
theorem dX12_readsUnit_98 : decode cX12_readsUnit 98 = .ok (.iconst 1, 1) := dk_iconst_1 (by decide +kernel)
theorem dX12_readsUnit_99 : decode cX12_readsUnit 99 = .ok (.iadd, 1) := dk_iadd (by decide +kernel)
theorem dX12_readsUnit_100 : decode cX12_readsUnit 100 = .ok (.putfield 252, 3) := dk_putfield 252 (b1 := 0) (b2 := 252) (by decide +kernel) (by decide +kernel) (by decide +kernel) (by decide +kernel)
theorem dX12_readsUnit_103 : decode cX12_readsUnit 103 = .ok (.aload_n 0, 1) := dk_aload_n_0 (by decide +kernel)
theorem dX12_readsUnit_104 : decode cX12_readsUnit 104 = .ok (.dup, 1) := dk_dup (by decide +kernel)
theorem dX12_readsUnit_105 : decode cX12_readsUnit 105 = .ok (.getfield 237, 3) := dk_getfield 237 (b1 := 0) (b2 := 237) (by decide +kernel) (by decide +kernel) (by decide +kernel) (by decide +kernel)
theorem dX12_readsUnit_108 : decode cX12_readsUnit 108 = .ok (.iconst 1, 1) := dk_iconst_1 (by decide +kernel)
theorem dX12_readsUnit_109 : decode cX12_readsUnit 109 = .ok (.iadd, 1) := dk_iadd (by decide +kernel)
theorem dX12_readsUnit_110 : decode cX12_readsUnit 110 = .ok (.putfield 237, 3) := dk_putfield 237 (b1 := 0) (b2 := 237) (by decide +kernel) (by decide +kernel) (by decide +kernel) (by decide +kernel)
theorem dX12_readsUnit_113 : decode cX12_readsUnit 113 = .ok (.iload_n 1, 1) := dk_iload_n_1 (by decide +kernel)
theorem dX12_readsUnit_114 : decode cX12_readsUnit 114 = .ok (.bipush 40, 2) := dk_bipush 40 (b := 40) (by decide +kernel) (by decide +kernel) (by decide +kernel)
theorem dX12_readsUnit_116 : decode cX12_readsUnit 116 = .ok (.if_icmp .ne 60, 3) := dk_if_icmp_ne 60 (b1 := 0) (b2 := 60) (by decide +kernel) (by decide +kernel) (by decide +kernel) (by decide +kernel)
theorem dX12_readsUnit_176 : decode cX12_readsUnit 176 = .ok (.aload_n 0, 1) := dk_aload_n_0 (by decide +kernel)
theorem wRX12_258 : Cond.methodLink RX12 258 yX12_readsUnit ∈ sm_T := sm_in 1458 (by decide +kernel) (by decide +kernel)
theorem dX12_readsUnit_177 : decode cX12_readsUnit 177 = .ok (.invokevirtual 258, 3) := dk_invokevirtual 258 (b1 := 1) (b2 := 2) (by decide +kernel) (by decide +kernel) (by decide +kernel) (by decide +kernel)
theorem dX12_readsUnit_180 : decode cX12_readsUnit 180 = .ok (.aload_n 0, 1) := dk_aload_n_0 (by decide +kernel)
theorem dX12_readsUnit_181 : decode cX12_readsUnit 181 = .ok (.getfield 246, 3) := dk_getfield 246 (b1 := 0) (b2 := 246) (by decide +kernel) (by decide +kernel) (by decide +kernel) (by decide +kernel)
theorem dX12_readsUnit_184 : decode cX12_readsUnit 184 = .ok (.ifCond .ne 20, 3) := dk_ifCond_ne 20 (b1 := 0) (b2 := 20) (by decide +kernel) (by decide +kernel) (by decide +kernel) (by decide +kernel)
theorem dX12_readsUnit_187 : decode cX12_readsUnit 187 = .ok (.aload_n 0, 1) := dk_aload_n_0 (by decide +kernel)
theorem dX12_readsUnit_188 : decode cX12_readsUnit 188 = .ok (.iload_n 1, 1) := dk_iload_n_1 (by decide +kernel)
theorem dX12_readsUnit_189 : decode cX12_readsUnit 189 = .ok (.bipush 116, 2) := dk_bipush 116 (b := 116) (by decide +kernel) (by decide +kernel) (by decide +kernel)
theorem dX12_readsUnit_191 : decode cX12_readsUnit 191 = .ok (.if_icmp .ne 8, 3) := dk_if_icmp_ne 8 (b1 := 0) (b2 := 8) (by decide +kernel) (by decide +kernel) (by decide +kernel) (by decide +kernel)
theorem dX12_readsUnit_199 : decode cX12_readsUnit 199 = .ok (.bipush 23, 2) := dk_bipush 23 (b := 23) (by decide +kernel) (by decide +kernel) (by decide +kernel)
theorem dX12_readsUnit_201 : decode cX12_readsUnit 201 = .ok (.invokevirtual 204, 3) := dk_invokevirtual 204 (b1 := 0) (b2 := 204) (by decide +kernel) (by decide +kernel) (by decide +kernel) (by decide +kernel)
theorem dX12_readsUnit_194 : decode cX12_readsUnit 194 = .ok (.bipush 22, 2) := dk_bipush 22 (b := 22) (by decide +kernel) (by decide +kernel) (by decide +kernel)
theorem dX12_readsUnit_196 : decode cX12_readsUnit 196 = .ok (.goto 5, 3) := dk_goto 5 (b1 := 0) (b2 := 5) (by decide +kernel) (by decide +kernel) (by decide +kernel) (by decide +kernel)
theorem dX12_readsUnit_119 : decode cX12_readsUnit 119 = .ok (.aload_n 0, 1) := dk_aload_n_0 (by decide +kernel)
theorem wRX12_255 : Cond.methodLink RX12 255 yX12_readsAll ∈ sm_T := sm_in 1450 (by decide +kernel) (by decide +kernel)
abbrev mX12_readsAll : sm_Y := (yX12_readsAll, cX12_readsAll, 1, none)
theorem fX12_readsAll : sm_mi mX12_readsAll RX12 0 := ⟨sm_in 1453 (by decide +kernel) (by decide +kernel), sm_in 1452 (by decide +kernel) (by decide +kernel), sm_in 50 (by decide +kernel) (by decide +kernel), sm_in 93 (by decide +kernel) (by decide +kernel), rfl, ⟨by decide +kernel, by decide +kernel, by decide +kernel⟩, by decide⟩
theorem dX12_readsUnit_120 : decode cX12_readsUnit 120 = .ok (.invokevirtual 255, 3) := dk_invokevirtual 255 (b1 := 0) (b2 := 255) (by decide +kernel) (by decide +kernel) (by decide +kernel) (by decide +kernel)
theorem dX12_readsUnit_123 : decode cX12_readsUnit 123 = .ok (.aload_n 0, 1) := dk_aload_n_0 (by decide +kernel)
theorem dX12_readsUnit_124 : decode cX12_readsUnit 124 = .ok (.aload_n 0, 1) := dk_aload_n_0 (by decide +kernel)
theorem dX12_readsUnit_125 : decode cX12_readsUnit 125 = .ok (.getfield 246, 3) := dk_getfield 246 (b1 := 0) (b2 := 246) (by decide +kernel) (by decide +kernel) (by decide +kernel) (by decide +kernel)
theorem dX12_readsUnit_128 : decode cX12_readsUnit 128 = .ok (.ifCond .ne 16, 3) := dk_ifCond_ne 16 (b1 := 0) (b2 := 16) (by decide +kernel) (by decide +kernel) (by decide +kernel) (by decide +kernel)
theorem dX12_readsUnit_144 : decode cX12_readsUnit 144 = .ok (.iconst 1, 1) := dk_iconst_1 (by decide +kernel)
theorem dX12_readsUnit_145 : decode cX12_readsUnit 145 = .ok (.goto 4, 3) := dk_goto 4 (b1 := 0) (b2 := 4) (by decide +kernel) (by decide +kernel) (by decide +kernel) (by decide +kernel)
theorem dX12_readsUnit_131 : decode cX12_readsUnit 131 = .ok (.aload_n 0, 1) := dk_aload_n_0 (by decide +kernel)
theorem dX12_readsUnit_132 : decode cX12_readsUnit 132 = .ok (.aload_n 0, 1) := dk_aload_n_0 (by decide +kernel)
theorem dX12_readsUnit_133 : decode cX12_readsUnit 133 = .ok (.getfield 237, 3) := dk_getfield 237 (b1 := 0) (b2 := 237) (by decide +kernel) (by decide +kernel) (by decide +kernel) (by decide +kernel)
theorem dX12_readsUnit_136 : decode cX12_readsUnit 136 = .ok (.invokevirtual 240, 3) := dk_invokevirtual 240 (b1 := 0) (b2 := 240) (by decide +kernel) (by decide +kernel) (by decide +kernel) (by decide +kernel)
theorem dX12_readsUnit_139 : decode cX12_readsUnit 139 = .ok (.bipush 41, 2) := dk_bipush 41 (b := 41) (by decide +kernel) (by decide +kernel) (by decide +kernel)
theorem dX12_readsUnit_141 : decode cX12_readsUnit 141 = .ok (.if_icmp .eq 7, 3) := dk_if_icmp_eq 7 (b1 := 0) (b2 := 7) (by decide +kernel) (by decide +kernel) (by decide +kernel) (by decide +kernel)
theorem dX12_readsUnit_148 : decode cX12_readsUnit 148 = .ok (.iconst 0, 1) := dk_iconst_0 (by decide +kernel)
theorem dX12_readsUnit_92 : decode cX12_readsUnit 92 = .ok (.return_, 1) := dk_return_ (by decide +kernel)
set_option maxRecDepth 20000 in
theorem vX12_readsUnit_82 {E : sm_E} {L : sm_S → Prop} {d : Nat} {vs : List Value} {x1 : Int32} {s1 : Int32}  {m : sm_M} {Q : sm_M → Prop} (hly : ∀ S, L S → ly S) {dr : Nat} (hd : 4 ≤ d) (hr : dr + 1 ≤ d) 
  (h : (s1 = 0 ∨ s1 = 1) ∧ ∀ m_1 : sm_M, m_1 = sm_wI m 109 34 s1 →
   ((m_1.1 109 34) = 0 →
      ∀ m_3 : sm_M, m_3 = sm_wI m_1 109 33 ((m_1.1 109 33) + 1) →
      ∀ m_4 : sm_M, m_4 = sm_wI m_3 109 31 ((m_3.1 109 31) + 1) →
      (¬ x1 = 40 →
         sm_callV E L mX12_readsUnit dr 0 0 [.ref (sm_B E + 109)] m_4 (fun m_5 =>
         (¬ (m_5.1 109 34) = 0 →
            ∀ m_6 : sm_M, m_6 = sm_wI m_5 109 33 ((m_5.1 109 33) - 1) →
            Q m_6) ∧
         ((m_5.1 109 34) = 0 →
            (¬ x1 = 116 →
               sm_callV E L mX12_puts 1 0 0 [.ref (sm_B E + 109), .int 23] m_5 (fun m_7 =>
               ∀ m_8 : sm_M, m_8 = sm_wI m_7 109 33 ((m_7.1 109 33) - 1) →
               Q m_8)) ∧
            (x1 = 116 →
               sm_callV E L mX12_puts 1 0 0 [.ref (sm_B E + 109), .int 22] m_5 (fun m_9 =>
               ∀ m_10 : sm_M, m_10 = sm_wI m_9 109 33 ((m_9.1 109 33) - 1) →
               Q m_10))))) ∧
      (x1 = 40 →
         sm_callV E L mX12_readsAll dr 0 0 [.ref (sm_B E + 109)] m_4 (fun m_11 =>
         (¬ (m_11.1 109 34) = 0 →
            gX12_readsUnit_149 E L d vs 1 m_11 Q) ∧
         ((m_11.1 109 34) = 0 →
            sm_callI E L mX12_byteAt 1 0 0 [.ref (sm_B E + 109), .int (m_11.1 109 31)] m_11 (fun r_13 m_12 =>
            (r_13 = 41 →
               gX12_readsUnit_149 E L d vs 0 m_12 Q) ∧
            (¬ r_13 = 41 →
               gX12_readsUnit_149 E L d vs 1 m_12 Q)))))) ∧
   (¬ (m_1.1 109 34) = 0 →
      Q m_1)) :
  gX12_readsUnit_82 E L d vs x1 s1 m Q := by
  obtain ⟨hn_2, h⟩ := h
  refine pf_RX12_246 (Y := mX12_readsUnit) (pc := 82) rfl hn_2 ((lk_109 hly) _) dX12_readsUnit_82 (fun m_1 em_1 => ?_)
  replace h := h m_1 em_1
  refine sm_aload_n (Y := mX12_readsUnit) (pc := 85) 0 0 rfl rfl dX12_readsUnit_85 ?_
  refine gf_RX12_246 (Y := mX12_readsUnit) (pc := 86) rfl ((lk_109 hly) _) dX12_readsUnit_86 ?_
  refine sm_if_eq (Y := mX12_readsUnit) (pc := 89) 93 (by decide) dX12_readsUnit_89 (fun hc => ?_) (fun hc => ?_)
  · replace h := h.1 hc
    refine sm_aload_n (Y := mX12_readsUnit) (pc := 93) 0 0 rfl rfl dX12_readsUnit_93 ?_
    refine sm_dup (Y := mX12_readsUnit) (pc := 94) rfl dX12_readsUnit_94 ?_
    refine gf_RX12_252 (Y := mX12_readsUnit) (pc := 95) rfl ((lk_109 hly) _) dX12_readsUnit_95 ?_
    refine sm_iconst (Y := mX12_readsUnit) (pc := 98) 1 (by decide) dX12_readsUnit_98 ?_
    refine sm_iadd (Y := mX12_readsUnit) (pc := 99) dX12_readsUnit_99 ?_
    refine pf_RX12_252 (Y := mX12_readsUnit) (pc := 100) rfl ((lk_109 hly) _) dX12_readsUnit_100 (fun m_3 em_3 => ?_)
    replace h := h m_3 em_3
    refine sm_aload_n (Y := mX12_readsUnit) (pc := 103) 0 0 rfl rfl dX12_readsUnit_103 ?_
    refine sm_dup (Y := mX12_readsUnit) (pc := 104) rfl dX12_readsUnit_104 ?_
    refine gf_RX12_237 (Y := mX12_readsUnit) (pc := 105) rfl ((lk_109 hly) _) dX12_readsUnit_105 ?_
    refine sm_iconst (Y := mX12_readsUnit) (pc := 108) 1 (by decide) dX12_readsUnit_108 ?_
    refine sm_iadd (Y := mX12_readsUnit) (pc := 109) dX12_readsUnit_109 ?_
    refine pf_RX12_237 (Y := mX12_readsUnit) (pc := 110) rfl ((lk_109 hly) _) dX12_readsUnit_110 (fun m_4 em_4 => ?_)
    replace h := h m_4 em_4
    refine sm_iload_n (Y := mX12_readsUnit) (pc := 113) 1 1 rfl rfl dX12_readsUnit_113 ?_
    refine sm_bipush (Y := mX12_readsUnit) (pc := 114) 40 (by decide) dX12_readsUnit_114 ?_
    refine sm_icmp_ne (Y := mX12_readsUnit) (pc := 116) 176 (by decide) dX12_readsUnit_116 (fun hc => ?_) (fun hc => ?_)
    · replace h := h.1 hc
      refine sm_aload_n (Y := mX12_readsUnit) (pc := 176) 0 0 rfl rfl dX12_readsUnit_176 ?_
      refine sm_iv_V (Y := mX12_readsUnit) (pc := 177) (As := []) (a := 109) fX12_readsUnit wRX12_258 (lk_109 hly) (by decide) rfl rfl rfl hr (Nat.le_of_ble_eq_true rfl) ⟨Nat.le_refl _, Nat.le_refl _⟩ dX12_readsUnit_177 rfl (sm_monoV h (fun m_5 h => ?_))
      refine sm_aload_n (Y := mX12_readsUnit) (pc := 180) 0 0 rfl rfl dX12_readsUnit_180 ?_
      refine gf_RX12_246 (Y := mX12_readsUnit) (pc := 181) rfl ((lk_109 hly) _) dX12_readsUnit_181 ?_
      refine sm_if_ne (Y := mX12_readsUnit) (pc := 184) 204 (by decide) dX12_readsUnit_184 (fun hc => ?_) (fun hc => ?_)
      · replace h := h.1 hc
        refine sm_aload_n (Y := mX12_readsUnit) (pc := 204) 0 0 rfl rfl dX12_readsUnit_204 ?_
        refine sm_dup (Y := mX12_readsUnit) (pc := 205) rfl dX12_readsUnit_205 ?_
        refine gf_RX12_252 (Y := mX12_readsUnit) (pc := 206) rfl ((lk_109 hly) _) dX12_readsUnit_206 ?_
        refine sm_iconst (Y := mX12_readsUnit) (pc := 209) 1 (by decide) dX12_readsUnit_209 ?_
        refine sm_isub (Y := mX12_readsUnit) (pc := 210) dX12_readsUnit_210 ?_
        refine pf_RX12_252 (Y := mX12_readsUnit) (pc := 211) rfl ((lk_109 hly) _) dX12_readsUnit_211 (fun m_6 em_6 => ?_)
        replace h := h m_6 em_6
        exact sm_vret (Y := mX12_readsUnit) (pc := 214) rfl rfl rfl dX12_readsUnit_214 ⟨rfl, h⟩
      · replace h := h.2 hc
        refine sm_aload_n (Y := mX12_readsUnit) (pc := 187) 0 0 rfl rfl dX12_readsUnit_187 ?_
        refine sm_iload_n (Y := mX12_readsUnit) (pc := 188) 1 1 rfl rfl dX12_readsUnit_188 ?_
        refine sm_bipush (Y := mX12_readsUnit) (pc := 189) 116 (by decide) dX12_readsUnit_189 ?_
        refine sm_icmp_ne (Y := mX12_readsUnit) (pc := 191) 199 (by decide) dX12_readsUnit_191 (fun hc => ?_) (fun hc => ?_)
        · replace h := h.1 hc
          refine sm_bipush (Y := mX12_readsUnit) (pc := 199) 23 (by decide) dX12_readsUnit_199 ?_
          refine sm_iv_V (Y := mX12_readsUnit) (pc := 201) (As := [.int 23]) (a := 109) fX12_puts wRX12_204 (lk_109 hly) (by decide) rfl rfl rfl (Nat.le_trans (by decide) hd) (Nat.le_of_ble_eq_true rfl) ⟨Nat.le_refl _, Nat.le_refl _⟩ dX12_readsUnit_201 rfl (sm_monoV h (fun m_7 h => ?_))
          refine sm_aload_n (Y := mX12_readsUnit) (pc := 204) 0 0 rfl rfl dX12_readsUnit_204 ?_
          refine sm_dup (Y := mX12_readsUnit) (pc := 205) rfl dX12_readsUnit_205 ?_
          refine gf_RX12_252 (Y := mX12_readsUnit) (pc := 206) rfl ((lk_109 hly) _) dX12_readsUnit_206 ?_
          refine sm_iconst (Y := mX12_readsUnit) (pc := 209) 1 (by decide) dX12_readsUnit_209 ?_
          refine sm_isub (Y := mX12_readsUnit) (pc := 210) dX12_readsUnit_210 ?_
          refine pf_RX12_252 (Y := mX12_readsUnit) (pc := 211) rfl ((lk_109 hly) _) dX12_readsUnit_211 (fun m_8 em_8 => ?_)
          replace h := h m_8 em_8
          exact sm_vret (Y := mX12_readsUnit) (pc := 214) rfl rfl rfl dX12_readsUnit_214 ⟨rfl, h⟩
        · replace h := h.2 hc
          refine sm_bipush (Y := mX12_readsUnit) (pc := 194) 22 (by decide) dX12_readsUnit_194 ?_
          refine sm_goto (Y := mX12_readsUnit) (pc := 196) 201 (by decide) dX12_readsUnit_196 ?_
          refine sm_iv_V (Y := mX12_readsUnit) (pc := 201) (As := [.int 22]) (a := 109) fX12_puts wRX12_204 (lk_109 hly) (by decide) rfl rfl rfl (Nat.le_trans (by decide) hd) (Nat.le_of_ble_eq_true rfl) ⟨Nat.le_refl _, Nat.le_refl _⟩ dX12_readsUnit_201 rfl (sm_monoV h (fun m_9 h => ?_))
          refine sm_aload_n (Y := mX12_readsUnit) (pc := 204) 0 0 rfl rfl dX12_readsUnit_204 ?_
          refine sm_dup (Y := mX12_readsUnit) (pc := 205) rfl dX12_readsUnit_205 ?_
          refine gf_RX12_252 (Y := mX12_readsUnit) (pc := 206) rfl ((lk_109 hly) _) dX12_readsUnit_206 ?_
          refine sm_iconst (Y := mX12_readsUnit) (pc := 209) 1 (by decide) dX12_readsUnit_209 ?_
          refine sm_isub (Y := mX12_readsUnit) (pc := 210) dX12_readsUnit_210 ?_
          refine pf_RX12_252 (Y := mX12_readsUnit) (pc := 211) rfl ((lk_109 hly) _) dX12_readsUnit_211 (fun m_10 em_10 => ?_)
          replace h := h m_10 em_10
          exact sm_vret (Y := mX12_readsUnit) (pc := 214) rfl rfl rfl dX12_readsUnit_214 ⟨rfl, h⟩
    · replace h := h.2 hc
      refine sm_aload_n (Y := mX12_readsUnit) (pc := 119) 0 0 rfl rfl dX12_readsUnit_119 ?_
      refine sm_iv_V (Y := mX12_readsUnit) (pc := 120) (As := []) (a := 109) fX12_readsAll wRX12_255 (lk_109 hly) (by decide) rfl rfl rfl hr (Nat.le_of_ble_eq_true rfl) ⟨Nat.le_refl _, Nat.le_refl _⟩ dX12_readsUnit_120 rfl (sm_monoV h (fun m_11 h => ?_))
      refine sm_aload_n (Y := mX12_readsUnit) (pc := 123) 0 0 rfl rfl dX12_readsUnit_123 ?_
      refine sm_aload_n (Y := mX12_readsUnit) (pc := 124) 0 0 rfl rfl dX12_readsUnit_124 ?_
      refine gf_RX12_246 (Y := mX12_readsUnit) (pc := 125) rfl ((lk_109 hly) _) dX12_readsUnit_125 ?_
      refine sm_if_ne (Y := mX12_readsUnit) (pc := 128) 144 (by decide) dX12_readsUnit_128 (fun hc => ?_) (fun hc => ?_)
      · replace h := h.1 hc
        refine sm_iconst (Y := mX12_readsUnit) (pc := 144) 1 (by decide) dX12_readsUnit_144 ?_
        refine sm_goto (Y := mX12_readsUnit) (pc := 145) 149 (by decide) dX12_readsUnit_145 ?_
        refine sm_sub [0] rfl ?_
        exact h
      · replace h := h.2 hc
        refine sm_aload_n (Y := mX12_readsUnit) (pc := 131) 0 0 rfl rfl dX12_readsUnit_131 ?_
        refine sm_aload_n (Y := mX12_readsUnit) (pc := 132) 0 0 rfl rfl dX12_readsUnit_132 ?_
        refine gf_RX12_237 (Y := mX12_readsUnit) (pc := 133) rfl ((lk_109 hly) _) dX12_readsUnit_133 ?_
        refine sm_iv_I (Y := mX12_readsUnit) (pc := 136) (As := [.int (m_11.1 109 31)]) (a := 109) fX12_byteAt wRX12_240 (lk_109 hly) (by decide) rfl rfl rfl (Nat.le_trans (by decide) hd) (Nat.le_of_ble_eq_true rfl) ⟨Nat.le_refl _, Nat.le_refl _⟩ dX12_readsUnit_136 rfl (sm_monoI h (fun r_13 m_12 h => ?_))
        refine sm_bipush (Y := mX12_readsUnit) (pc := 139) 41 (by decide) dX12_readsUnit_139 ?_
        refine sm_icmp_eq (Y := mX12_readsUnit) (pc := 141) 148 (by decide) dX12_readsUnit_141 (fun hc => ?_) (fun hc => ?_)
        · replace h := h.1 hc
          refine sm_iconst (Y := mX12_readsUnit) (pc := 148) 0 (by decide) dX12_readsUnit_148 ?_
          refine sm_sub [0] rfl ?_
          exact h
        · replace h := h.2 hc
          refine sm_iconst (Y := mX12_readsUnit) (pc := 144) 1 (by decide) dX12_readsUnit_144 ?_
          refine sm_goto (Y := mX12_readsUnit) (pc := 145) 149 (by decide) dX12_readsUnit_145 ?_
          refine sm_sub [0] rfl ?_
          exact h
  · replace h := h.2 hc
    exact sm_vret (Y := mX12_readsUnit) (pc := 92) rfl rfl rfl dX12_readsUnit_92 ⟨rfl, h⟩
theorem dX12_readsUnit_32 : decode cX12_readsUnit 32 = .ok (.istore_n 2, 1) := dk_istore_n_2 (by decide +kernel)
theorem dX12_readsUnit_33 : decode cX12_readsUnit 33 = .ok (.iload_n 2, 1) := dk_iload_n_2 (by decide +kernel)
theorem dX12_readsUnit_34 : decode cX12_readsUnit 34 = .ok (.ifCond .ne 33, 3) := dk_ifCond_ne 33 (b1 := 0) (b2 := 33) (by decide +kernel) (by decide +kernel) (by decide +kernel) (by decide +kernel)
theorem dX12_readsUnit_67 : decode cX12_readsUnit 67 = .ok (.aload_n 0, 1) := dk_aload_n_0 (by decide +kernel)
theorem dX12_readsUnit_68 : decode cX12_readsUnit 68 = .ok (.aload_n 0, 1) := dk_aload_n_0 (by decide +kernel)
theorem dX12_readsUnit_69 : decode cX12_readsUnit 69 = .ok (.getfield 252, 3) := dk_getfield 252 (b1 := 0) (b2 := 252) (by decide +kernel) (by decide +kernel) (by decide +kernel) (by decide +kernel)
theorem dX12_readsUnit_72 : decode cX12_readsUnit 72 = .ok (.bipush 6, 2) := dk_bipush 6 (b := 6) (by decide +kernel) (by decide +kernel) (by decide +kernel)
theorem dX12_readsUnit_74 : decode cX12_readsUnit 74 = .ok (.if_icmp .ne 7, 3) := dk_if_icmp_ne 7 (b1 := 0) (b2 := 7) (by decide +kernel) (by decide +kernel) (by decide +kernel) (by decide +kernel)
theorem dX12_readsUnit_81 : decode cX12_readsUnit 81 = .ok (.iconst 0, 1) := dk_iconst_0 (by decide +kernel)
theorem dX12_readsUnit_77 : decode cX12_readsUnit 77 = .ok (.iconst 1, 1) := dk_iconst_1 (by decide +kernel)
theorem dX12_readsUnit_78 : decode cX12_readsUnit 78 = .ok (.goto 4, 3) := dk_goto 4 (b1 := 0) (b2 := 4) (by decide +kernel) (by decide +kernel) (by decide +kernel) (by decide +kernel)
theorem dX12_readsUnit_37 : decode cX12_readsUnit 37 = .ok (.iload_n 1, 1) := dk_iload_n_1 (by decide +kernel)
theorem dX12_readsUnit_38 : decode cX12_readsUnit 38 = .ok (.bipush 105, 2) := dk_bipush 105 (b := 105) (by decide +kernel) (by decide +kernel) (by decide +kernel)
theorem dX12_readsUnit_40 : decode cX12_readsUnit 40 = .ok (.if_icmp .ne 22, 3) := dk_if_icmp_ne 22 (b1 := 0) (b2 := 22) (by decide +kernel) (by decide +kernel) (by decide +kernel) (by decide +kernel)
theorem dX12_readsUnit_62 : decode cX12_readsUnit 62 = .ok (.aload_n 0, 1) := dk_aload_n_0 (by decide +kernel)
theorem wRX12_249 : Cond.methodLink RX12 249 yX12_readsLeaf ∈ sm_T := sm_in 1466 (by decide +kernel) (by decide +kernel)
theorem dX12_readsUnit_63 : decode cX12_readsUnit 63 = .ok (.invokevirtual 249, 3) := dk_invokevirtual 249 (b1 := 0) (b2 := 249) (by decide +kernel) (by decide +kernel) (by decide +kernel) (by decide +kernel)
theorem dX12_readsUnit_66 : decode cX12_readsUnit 66 = .ok (.return_, 1) := dk_return_ (by decide +kernel)
theorem dX12_readsUnit_43 : decode cX12_readsUnit 43 = .ok (.aload_n 0, 1) := dk_aload_n_0 (by decide +kernel)
theorem dX12_readsUnit_44 : decode cX12_readsUnit 44 = .ok (.bipush 10, 2) := dk_bipush 10 (b := 10) (by decide +kernel) (by decide +kernel) (by decide +kernel)
theorem dX12_readsUnit_46 : decode cX12_readsUnit 46 = .ok (.invokevirtual 204, 3) := dk_invokevirtual 204 (b1 := 0) (b2 := 204) (by decide +kernel) (by decide +kernel) (by decide +kernel) (by decide +kernel)
theorem dX12_readsUnit_49 : decode cX12_readsUnit 49 = .ok (.aload_n 0, 1) := dk_aload_n_0 (by decide +kernel)
theorem dX12_readsUnit_50 : decode cX12_readsUnit 50 = .ok (.dup, 1) := dk_dup (by decide +kernel)
theorem dX12_readsUnit_51 : decode cX12_readsUnit 51 = .ok (.getfield 237, 3) := dk_getfield 237 (b1 := 0) (b2 := 237) (by decide +kernel) (by decide +kernel) (by decide +kernel) (by decide +kernel)
theorem dX12_readsUnit_54 : decode cX12_readsUnit 54 = .ok (.iconst 1, 1) := dk_iconst_1 (by decide +kernel)
theorem dX12_readsUnit_55 : decode cX12_readsUnit 55 = .ok (.iadd, 1) := dk_iadd (by decide +kernel)
theorem dX12_readsUnit_56 : decode cX12_readsUnit 56 = .ok (.putfield 237, 3) := dk_putfield 237 (b1 := 0) (b2 := 237) (by decide +kernel) (by decide +kernel) (by decide +kernel) (by decide +kernel)
theorem dX12_readsUnit_59 : decode cX12_readsUnit 59 = .ok (.goto 7, 3) := dk_goto 7 (b1 := 0) (b2 := 7) (by decide +kernel) (by decide +kernel) (by decide +kernel) (by decide +kernel)
set_option maxRecDepth 20000 in
theorem vX12_readsUnit_32 {E : sm_E} {L : sm_S → Prop} {d : Nat} {vs : List Value} {x1 : Int32} {s0 : Int32}  {m : sm_M} {Q : sm_M → Prop} (hly : ∀ S, L S → ly S) {dr : Nat} (hd : 4 ≤ d) (hr : dr + 1 ≤ d) 
  (h : (¬ s0 = 0 →
      (¬ (m.1 109 33) = 6 →
         gX12_readsUnit_82 E L d vs x1 0 m Q) ∧
      ((m.1 109 33) = 6 →
         gX12_readsUnit_82 E L d vs x1 1 m Q)) ∧
   (s0 = 0 →
      (¬ x1 = 105 →
         sm_callV E L mX12_readsLeaf 2 0 0 [.ref (sm_B E + 109)] m (fun m_2 =>
         Q m_2)) ∧
      (x1 = 105 →
         sm_callV E L mX12_puts 1 0 0 [.ref (sm_B E + 109), .int 10] m (fun m_3 =>
         ∀ m_4 : sm_M, m_4 = sm_wI m_3 109 31 ((m_3.1 109 31) + 1) →
         Q m_4)))) :
  gX12_readsUnit_32 E L d vs x1 s0 m Q := by
  refine sm_istore0_n (Y := mX12_readsUnit) (pc := 32) [(2, .int s0), (0, .ref (sm_B E + 109)), (1, .int x1)] 2 rfl (by decide) rfl dX12_readsUnit_32 ?_
  refine sm_iload_n (Y := mX12_readsUnit) (pc := 33) 0 2 rfl rfl dX12_readsUnit_33 ?_
  refine sm_if_ne (Y := mX12_readsUnit) (pc := 34) 67 (by decide) dX12_readsUnit_34 (fun hc => ?_) (fun hc => ?_)
  · replace h := h.1 hc
    refine sm_aload_n (Y := mX12_readsUnit) (pc := 67) 1 0 rfl rfl dX12_readsUnit_67 ?_
    refine sm_aload_n (Y := mX12_readsUnit) (pc := 68) 1 0 rfl rfl dX12_readsUnit_68 ?_
    refine gf_RX12_252 (Y := mX12_readsUnit) (pc := 69) rfl ((lk_109 hly) _) dX12_readsUnit_69 ?_
    refine sm_bipush (Y := mX12_readsUnit) (pc := 72) 6 (by decide) dX12_readsUnit_72 ?_
    refine sm_icmp_ne (Y := mX12_readsUnit) (pc := 74) 81 (by decide) dX12_readsUnit_74 (fun hc => ?_) (fun hc => ?_)
    · replace h := h.1 hc
      refine sm_iconst (Y := mX12_readsUnit) (pc := 81) 0 (by decide) dX12_readsUnit_81 ?_
      refine sm_sub [1, 2] rfl ?_
      exact h
    · replace h := h.2 hc
      refine sm_iconst (Y := mX12_readsUnit) (pc := 77) 1 (by decide) dX12_readsUnit_77 ?_
      refine sm_goto (Y := mX12_readsUnit) (pc := 78) 82 (by decide) dX12_readsUnit_78 ?_
      refine sm_sub [1, 2] rfl ?_
      exact h
  · replace h := h.2 hc
    refine sm_iload_n (Y := mX12_readsUnit) (pc := 37) 2 1 rfl rfl dX12_readsUnit_37 ?_
    refine sm_bipush (Y := mX12_readsUnit) (pc := 38) 105 (by decide) dX12_readsUnit_38 ?_
    refine sm_icmp_ne (Y := mX12_readsUnit) (pc := 40) 62 (by decide) dX12_readsUnit_40 (fun hc => ?_) (fun hc => ?_)
    · replace h := h.1 hc
      refine sm_aload_n (Y := mX12_readsUnit) (pc := 62) 1 0 rfl rfl dX12_readsUnit_62 ?_
      refine sm_iv_V (Y := mX12_readsUnit) (pc := 63) (As := []) (a := 109) fX12_readsLeaf wRX12_249 (lk_109 hly) (by decide) rfl rfl rfl (Nat.le_trans (by decide) hd) (Nat.le_of_ble_eq_true rfl) ⟨Nat.le_refl _, Nat.le_refl _⟩ dX12_readsUnit_63 rfl (sm_monoV h (fun m_2 h => ?_))
      exact sm_vret (Y := mX12_readsUnit) (pc := 66) rfl rfl rfl dX12_readsUnit_66 ⟨rfl, h⟩
    · replace h := h.2 hc
      refine sm_aload_n (Y := mX12_readsUnit) (pc := 43) 1 0 rfl rfl dX12_readsUnit_43 ?_
      refine sm_bipush (Y := mX12_readsUnit) (pc := 44) 10 (by decide) dX12_readsUnit_44 ?_
      refine sm_iv_V (Y := mX12_readsUnit) (pc := 46) (As := [.int 10]) (a := 109) fX12_puts wRX12_204 (lk_109 hly) (by decide) rfl rfl rfl (Nat.le_trans (by decide) hd) (Nat.le_of_ble_eq_true rfl) ⟨Nat.le_refl _, Nat.le_refl _⟩ dX12_readsUnit_46 rfl (sm_monoV h (fun m_3 h => ?_))
      refine sm_aload_n (Y := mX12_readsUnit) (pc := 49) 1 0 rfl rfl dX12_readsUnit_49 ?_
      refine sm_dup (Y := mX12_readsUnit) (pc := 50) rfl dX12_readsUnit_50 ?_
      refine gf_RX12_237 (Y := mX12_readsUnit) (pc := 51) rfl ((lk_109 hly) _) dX12_readsUnit_51 ?_
      refine sm_iconst (Y := mX12_readsUnit) (pc := 54) 1 (by decide) dX12_readsUnit_54 ?_
      refine sm_iadd (Y := mX12_readsUnit) (pc := 55) dX12_readsUnit_55 ?_
      refine pf_RX12_237 (Y := mX12_readsUnit) (pc := 56) rfl ((lk_109 hly) _) dX12_readsUnit_56 (fun m_4 em_4 => ?_)
      replace h := h m_4 em_4
      refine sm_goto (Y := mX12_readsUnit) (pc := 59) 66 (by decide) dX12_readsUnit_59 ?_
      exact sm_vret (Y := mX12_readsUnit) (pc := 66) rfl rfl rfl dX12_readsUnit_66 ⟨rfl, h⟩
theorem dX12_readsUnit_0 : decode cX12_readsUnit 0 = .ok (.aload_n 0, 1) := dk_aload_n_0 (by decide +kernel)
theorem dX12_readsUnit_1 : decode cX12_readsUnit 1 = .ok (.aload_n 0, 1) := dk_aload_n_0 (by decide +kernel)
theorem dX12_readsUnit_2 : decode cX12_readsUnit 2 = .ok (.getfield 237, 3) := dk_getfield 237 (b1 := 0) (b2 := 237) (by decide +kernel) (by decide +kernel) (by decide +kernel) (by decide +kernel)
theorem dX12_readsUnit_5 : decode cX12_readsUnit 5 = .ok (.invokevirtual 240, 3) := dk_invokevirtual 240 (b1 := 0) (b2 := 240) (by decide +kernel) (by decide +kernel) (by decide +kernel) (by decide +kernel)
theorem dX12_readsUnit_8 : decode cX12_readsUnit 8 = .ok (.istore_n 1, 1) := dk_istore_n_1 (by decide +kernel)
theorem dX12_readsUnit_9 : decode cX12_readsUnit 9 = .ok (.iload_n 1, 1) := dk_iload_n_1 (by decide +kernel)
theorem dX12_readsUnit_10 : decode cX12_readsUnit 10 = .ok (.bipush 40, 2) := dk_bipush 40 (b := 40) (by decide +kernel) (by decide +kernel) (by decide +kernel)
theorem dX12_readsUnit_12 : decode cX12_readsUnit 12 = .ok (.if_icmp .eq 15, 3) := dk_if_icmp_eq 15 (b1 := 0) (b2 := 15) (by decide +kernel) (by decide +kernel) (by decide +kernel) (by decide +kernel)
theorem dX12_readsUnit_27 : decode cX12_readsUnit 27 = .ok (.iconst 1, 1) := dk_iconst_1 (by decide +kernel)
theorem dX12_readsUnit_28 : decode cX12_readsUnit 28 = .ok (.goto 4, 3) := dk_goto 4 (b1 := 0) (b2 := 4) (by decide +kernel) (by decide +kernel) (by decide +kernel) (by decide +kernel)
theorem dX12_readsUnit_15 : decode cX12_readsUnit 15 = .ok (.iload_n 1, 1) := dk_iload_n_1 (by decide +kernel)
theorem dX12_readsUnit_16 : decode cX12_readsUnit 16 = .ok (.bipush 116, 2) := dk_bipush 116 (b := 116) (by decide +kernel) (by decide +kernel) (by decide +kernel)
theorem dX12_readsUnit_18 : decode cX12_readsUnit 18 = .ok (.if_icmp .eq 9, 3) := dk_if_icmp_eq 9 (b1 := 0) (b2 := 9) (by decide +kernel) (by decide +kernel) (by decide +kernel) (by decide +kernel)
theorem dX12_readsUnit_21 : decode cX12_readsUnit 21 = .ok (.iload_n 1, 1) := dk_iload_n_1 (by decide +kernel)
theorem dX12_readsUnit_22 : decode cX12_readsUnit 22 = .ok (.bipush 109, 2) := dk_bipush 109 (b := 109) (by decide +kernel) (by decide +kernel) (by decide +kernel)
theorem dX12_readsUnit_24 : decode cX12_readsUnit 24 = .ok (.if_icmp .ne 7, 3) := dk_if_icmp_ne 7 (b1 := 0) (b2 := 7) (by decide +kernel) (by decide +kernel) (by decide +kernel) (by decide +kernel)
theorem dX12_readsUnit_31 : decode cX12_readsUnit 31 = .ok (.iconst 0, 1) := dk_iconst_0 (by decide +kernel)
set_option maxRecDepth 20000 in
theorem vX12_readsUnit_0 {E : sm_E} {L : sm_S → Prop} {d : Nat}   {m : sm_M} {Q : sm_M → Prop} (hly : ∀ S, L S → ly S) {dr : Nat} (hd : 4 ≤ d) (hr : dr + 1 ≤ d) 
  (h : sm_callI E L mX12_byteAt 1 0 0 [.ref (sm_B E + 109), .int (m.1 109 31)] m (fun r_2 m_1 =>
   (r_2 = 40 →
      gX12_readsUnit_32 E L d ([.ref (sm_B E + 109)]) r_2 1 m_1 Q) ∧
   (¬ r_2 = 40 →
      (r_2 = 116 →
         gX12_readsUnit_32 E L d ([.ref (sm_B E + 109)]) r_2 1 m_1 Q) ∧
      (¬ r_2 = 116 →
         (¬ r_2 = 109 →
            gX12_readsUnit_32 E L d ([.ref (sm_B E + 109)]) r_2 0 m_1 Q) ∧
         (r_2 = 109 →
            gX12_readsUnit_32 E L d ([.ref (sm_B E + 109)]) r_2 1 m_1 Q))))) :
  sm_callV E L mX12_readsUnit d 0 0 [.ref (sm_B E + 109)] m Q := by
  refine sm_enter (by decide +kernel) (by simp [lg_sl, Value.category]) ?_
  refine sm_aload_n (Y := mX12_readsUnit) (pc := 0) 0 0 rfl rfl dX12_readsUnit_0 ?_
  refine sm_aload_n (Y := mX12_readsUnit) (pc := 1) 0 0 rfl rfl dX12_readsUnit_1 ?_
  refine gf_RX12_237 (Y := mX12_readsUnit) (pc := 2) rfl ((lk_109 hly) _) dX12_readsUnit_2 ?_
  refine sm_iv_I (Y := mX12_readsUnit) (pc := 5) (As := [.int (m.1 109 31)]) (a := 109) fX12_byteAt wRX12_240 (lk_109 hly) (by decide) rfl rfl rfl (Nat.le_trans (by decide) hd) (Nat.le_of_ble_eq_true rfl) ⟨Nat.le_refl _, Nat.le_refl _⟩ dX12_readsUnit_5 rfl (sm_monoI h (fun r_2 m_1 h => ?_))
  refine sm_istore0_n (Y := mX12_readsUnit) (pc := 8) [(1, .int r_2), (0, .ref (sm_B E + 109))] 1 rfl (by decide) rfl dX12_readsUnit_8 ?_
  refine sm_iload_n (Y := mX12_readsUnit) (pc := 9) 0 1 rfl rfl dX12_readsUnit_9 ?_
  refine sm_bipush (Y := mX12_readsUnit) (pc := 10) 40 (by decide) dX12_readsUnit_10 ?_
  refine sm_icmp_eq (Y := mX12_readsUnit) (pc := 12) 27 (by decide) dX12_readsUnit_12 (fun hc => ?_) (fun hc => ?_)
  · replace h := h.1 hc
    refine sm_iconst (Y := mX12_readsUnit) (pc := 27) 1 (by decide) dX12_readsUnit_27 ?_
    refine sm_goto (Y := mX12_readsUnit) (pc := 28) 32 (by decide) dX12_readsUnit_28 ?_
    refine sm_sub [1, 0] rfl ?_
    exact h
  · replace h := h.2 hc
    refine sm_iload_n (Y := mX12_readsUnit) (pc := 15) 0 1 rfl rfl dX12_readsUnit_15 ?_
    refine sm_bipush (Y := mX12_readsUnit) (pc := 16) 116 (by decide) dX12_readsUnit_16 ?_
    refine sm_icmp_eq (Y := mX12_readsUnit) (pc := 18) 27 (by decide) dX12_readsUnit_18 (fun hc => ?_) (fun hc => ?_)
    · replace h := h.1 hc
      refine sm_iconst (Y := mX12_readsUnit) (pc := 27) 1 (by decide) dX12_readsUnit_27 ?_
      refine sm_goto (Y := mX12_readsUnit) (pc := 28) 32 (by decide) dX12_readsUnit_28 ?_
      refine sm_sub [1, 0] rfl ?_
      exact h
    · replace h := h.2 hc
      refine sm_iload_n (Y := mX12_readsUnit) (pc := 21) 0 1 rfl rfl dX12_readsUnit_21 ?_
      refine sm_bipush (Y := mX12_readsUnit) (pc := 22) 109 (by decide) dX12_readsUnit_22 ?_
      refine sm_icmp_ne (Y := mX12_readsUnit) (pc := 24) 31 (by decide) dX12_readsUnit_24 (fun hc => ?_) (fun hc => ?_)
      · replace h := h.1 hc
        refine sm_iconst (Y := mX12_readsUnit) (pc := 31) 0 (by decide) dX12_readsUnit_31 ?_
        refine sm_sub [1, 0] rfl ?_
        exact h
      · replace h := h.2 hc
        refine sm_iconst (Y := mX12_readsUnit) (pc := 27) 1 (by decide) dX12_readsUnit_27 ?_
        refine sm_goto (Y := mX12_readsUnit) (pc := 28) 32 (by decide) dX12_readsUnit_28 ?_
        refine sm_sub [1, 0] rfl ?_
        exact h
