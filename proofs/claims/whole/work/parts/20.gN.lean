abbrev mX12_readsStack : sm_Y := (yX12_readsStack, cX12_readsStack, 1, none)
theorem fX12_readsStack : sm_mi mX12_readsStack RX12 0 := ⟨sm_in 1457 (by decide +kernel) (by decide +kernel), sm_in 1456 (by decide +kernel) (by decide +kernel), sm_in 51 (by decide +kernel) (by decide +kernel), sm_in 93 (by decide +kernel) (by decide +kernel), rfl, ⟨by decide +kernel, by decide +kernel, by decide +kernel⟩, by decide⟩
def gX12_readsStack_4 (E : sm_E) (L : sm_S → Prop) (d : Nat) (vs : List Value)  (m : sm_M) (Q : sm_M → Prop) : Prop := sm_go E L mX12_readsStack d 0 0 vs 4 [(0, .ref (sm_B E + 109))] [] m 0 0 (sm_Z E L vs 0 0 (sm_QV Q))
theorem dX12_readsStack_4 : decode cX12_readsStack 4 = .ok (.aload_n 0, 1) := dk_aload_n_0 (by decide +kernel)
theorem dX12_readsStack_5 : decode cX12_readsStack 5 = .ok (.getfield 246, 3) := dk_getfield 246 (b1 := 0) (b2 := 246) (by decide +kernel) (by decide +kernel) (by decide +kernel) (by decide +kernel)
theorem dX12_readsStack_8 : decode cX12_readsStack 8 = .ok (.ifCond .ne 46, 3) := dk_ifCond_ne 46 (b1 := 0) (b2 := 46) (by decide +kernel) (by decide +kernel) (by decide +kernel) (by decide +kernel)
theorem dX12_readsStack_54 : decode cX12_readsStack 54 = .ok (.return_, 1) := dk_return_ (by decide +kernel)
theorem dX12_readsStack_11 : decode cX12_readsStack 11 = .ok (.aload_n 0, 1) := dk_aload_n_0 (by decide +kernel)
theorem dX12_readsStack_12 : decode cX12_readsStack 12 = .ok (.aload_n 0, 1) := dk_aload_n_0 (by decide +kernel)
theorem dX12_readsStack_13 : decode cX12_readsStack 13 = .ok (.getfield 237, 3) := dk_getfield 237 (b1 := 0) (b2 := 237) (by decide +kernel) (by decide +kernel) (by decide +kernel) (by decide +kernel)
theorem dX12_readsStack_16 : decode cX12_readsStack 16 = .ok (.invokevirtual 240, 3) := dk_invokevirtual 240 (b1 := 0) (b2 := 240) (by decide +kernel) (by decide +kernel) (by decide +kernel) (by decide +kernel)
theorem dX12_readsStack_19 : decode cX12_readsStack 19 = .ok (.bipush 42, 2) := dk_bipush 42 (b := 42) (by decide +kernel) (by decide +kernel) (by decide +kernel)
theorem dX12_readsStack_21 : decode cX12_readsStack 21 = .ok (.if_icmp .ne 33, 3) := dk_if_icmp_ne 33 (b1 := 0) (b2 := 33) (by decide +kernel) (by decide +kernel) (by decide +kernel) (by decide +kernel)
theorem dX12_readsStack_24 : decode cX12_readsStack 24 = .ok (.aload_n 0, 1) := dk_aload_n_0 (by decide +kernel)
theorem dX12_readsStack_25 : decode cX12_readsStack 25 = .ok (.dup, 1) := dk_dup (by decide +kernel)
theorem dX12_readsStack_26 : decode cX12_readsStack 26 = .ok (.getfield 237, 3) := dk_getfield 237 (b1 := 0) (b2 := 237) (by decide +kernel) (by decide +kernel) (by decide +kernel) (by decide +kernel)
theorem dX12_readsStack_29 : decode cX12_readsStack 29 = .ok (.iconst 1, 1) := dk_iconst_1 (by decide +kernel)
theorem dX12_readsStack_30 : decode cX12_readsStack 30 = .ok (.iadd, 1) := dk_iadd (by decide +kernel)
theorem dX12_readsStack_31 : decode cX12_readsStack 31 = .ok (.putfield 237, 3) := dk_putfield 237 (b1 := 0) (b2 := 237) (by decide +kernel) (by decide +kernel) (by decide +kernel) (by decide +kernel)
theorem dX12_readsStack_34 : decode cX12_readsStack 34 = .ok (.aload_n 0, 1) := dk_aload_n_0 (by decide +kernel)
theorem dX12_readsStack_35 : decode cX12_readsStack 35 = .ok (.invokevirtual 258, 3) := dk_invokevirtual 258 (b1 := 1) (b2 := 2) (by decide +kernel) (by decide +kernel) (by decide +kernel) (by decide +kernel)
theorem dX12_readsStack_38 : decode cX12_readsStack 38 = .ok (.aload_n 0, 1) := dk_aload_n_0 (by decide +kernel)
theorem dX12_readsStack_39 : decode cX12_readsStack 39 = .ok (.getfield 246, 3) := dk_getfield 246 (b1 := 0) (b2 := 246) (by decide +kernel) (by decide +kernel) (by decide +kernel) (by decide +kernel)
theorem dX12_readsStack_42 : decode cX12_readsStack 42 = .ok (.ifCond .ne (-38), 3) := dk_ifCond_ne (-38) (b1 := 255) (b2 := 218) (by decide +kernel) (by decide +kernel) (by decide +kernel) (by decide +kernel)
theorem dX12_readsStack_45 : decode cX12_readsStack 45 = .ok (.aload_n 0, 1) := dk_aload_n_0 (by decide +kernel)
theorem dX12_readsStack_46 : decode cX12_readsStack 46 = .ok (.bipush 21, 2) := dk_bipush 21 (b := 21) (by decide +kernel) (by decide +kernel) (by decide +kernel)
theorem dX12_readsStack_48 : decode cX12_readsStack 48 = .ok (.invokevirtual 204, 3) := dk_invokevirtual 204 (b1 := 0) (b2 := 204) (by decide +kernel) (by decide +kernel) (by decide +kernel) (by decide +kernel)
theorem dX12_readsStack_51 : decode cX12_readsStack 51 = .ok (.goto (-47), 3) := dk_goto (-47) (b1 := 255) (b2 := 209) (by decide +kernel) (by decide +kernel) (by decide +kernel) (by decide +kernel)
set_option maxRecDepth 20000 in
theorem vX12_readsStack_4 {E : sm_E} {L : sm_S → Prop} {d : Nat} {vs : List Value}   {m : sm_M} {Q : sm_M → Prop} (hly : ∀ S, L S → ly S) {dr : Nat} (hd : 4 ≤ d) (hr : dr + 1 ≤ d) 
  (h : (¬ (m.1 109 34) = 0 →
      Q m) ∧
   ((m.1 109 34) = 0 →
      sm_callI E L mX12_byteAt 1 0 0 [.ref (sm_B E + 109), .int (m.1 109 31)] m (fun r_2 m_1 =>
      (¬ r_2 = 42 →
         Q m_1) ∧
      (r_2 = 42 →
         ∀ m_3 : sm_M, m_3 = sm_wI m_1 109 31 ((m_1.1 109 31) + 1) →
         sm_callV E L mX12_readsUnit dr 0 0 [.ref (sm_B E + 109)] m_3 (fun m_4 =>
         (¬ (m_4.1 109 34) = 0 →
            gX12_readsStack_4 E L d vs  m_4 Q) ∧
         ((m_4.1 109 34) = 0 →
            sm_callV E L mX12_puts 1 0 0 [.ref (sm_B E + 109), .int 21] m_4 (fun m_5 =>
            gX12_readsStack_4 E L d vs  m_5 Q))))))) :
  gX12_readsStack_4 E L d vs  m Q := by
  refine sm_aload_n (Y := mX12_readsStack) (pc := 4) 0 0 rfl rfl dX12_readsStack_4 ?_
  refine gf_RX12_246 (Y := mX12_readsStack) (pc := 5) rfl ((lk_109 hly) _) dX12_readsStack_5 ?_
  refine sm_if_ne (Y := mX12_readsStack) (pc := 8) 54 (by decide) dX12_readsStack_8 (fun hc => ?_) (fun hc => ?_)
  · replace h := h.1 hc
    exact sm_vret (Y := mX12_readsStack) (pc := 54) rfl rfl rfl dX12_readsStack_54 ⟨rfl, h⟩
  · replace h := h.2 hc
    refine sm_aload_n (Y := mX12_readsStack) (pc := 11) 0 0 rfl rfl dX12_readsStack_11 ?_
    refine sm_aload_n (Y := mX12_readsStack) (pc := 12) 0 0 rfl rfl dX12_readsStack_12 ?_
    refine gf_RX12_237 (Y := mX12_readsStack) (pc := 13) rfl ((lk_109 hly) _) dX12_readsStack_13 ?_
    refine sm_iv_I (Y := mX12_readsStack) (pc := 16) (As := [.int (m.1 109 31)]) (a := 109) fX12_byteAt wRX12_240 (lk_109 hly) (by decide) rfl rfl rfl (Nat.le_trans (by decide) hd) (Nat.le_of_ble_eq_true rfl) ⟨Nat.le_refl _, Nat.le_refl _⟩ dX12_readsStack_16 rfl (sm_monoI h (fun r_2 m_1 h => ?_))
    refine sm_bipush (Y := mX12_readsStack) (pc := 19) 42 (by decide) dX12_readsStack_19 ?_
    refine sm_icmp_ne (Y := mX12_readsStack) (pc := 21) 54 (by decide) dX12_readsStack_21 (fun hc => ?_) (fun hc => ?_)
    · replace h := h.1 hc
      exact sm_vret (Y := mX12_readsStack) (pc := 54) rfl rfl rfl dX12_readsStack_54 ⟨rfl, h⟩
    · replace h := h.2 hc
      refine sm_aload_n (Y := mX12_readsStack) (pc := 24) 0 0 rfl rfl dX12_readsStack_24 ?_
      refine sm_dup (Y := mX12_readsStack) (pc := 25) rfl dX12_readsStack_25 ?_
      refine gf_RX12_237 (Y := mX12_readsStack) (pc := 26) rfl ((lk_109 hly) _) dX12_readsStack_26 ?_
      refine sm_iconst (Y := mX12_readsStack) (pc := 29) 1 (by decide) dX12_readsStack_29 ?_
      refine sm_iadd (Y := mX12_readsStack) (pc := 30) dX12_readsStack_30 ?_
      refine pf_RX12_237 (Y := mX12_readsStack) (pc := 31) rfl ((lk_109 hly) _) dX12_readsStack_31 (fun m_3 em_3 => ?_)
      replace h := h m_3 em_3
      refine sm_aload_n (Y := mX12_readsStack) (pc := 34) 0 0 rfl rfl dX12_readsStack_34 ?_
      refine sm_iv_V (Y := mX12_readsStack) (pc := 35) (As := []) (a := 109) fX12_readsUnit wRX12_258 (lk_109 hly) (by decide) rfl rfl rfl hr (Nat.le_of_ble_eq_true rfl) ⟨Nat.le_refl _, Nat.le_refl _⟩ dX12_readsStack_35 rfl (sm_monoV h (fun m_4 h => ?_))
      refine sm_aload_n (Y := mX12_readsStack) (pc := 38) 0 0 rfl rfl dX12_readsStack_38 ?_
      refine gf_RX12_246 (Y := mX12_readsStack) (pc := 39) rfl ((lk_109 hly) _) dX12_readsStack_39 ?_
      refine sm_if_ne (Y := mX12_readsStack) (pc := 42) 4 (by decide) dX12_readsStack_42 (fun hc => ?_) (fun hc => ?_)
      · replace h := h.1 hc
        exact h
      · replace h := h.2 hc
        refine sm_aload_n (Y := mX12_readsStack) (pc := 45) 0 0 rfl rfl dX12_readsStack_45 ?_
        refine sm_bipush (Y := mX12_readsStack) (pc := 46) 21 (by decide) dX12_readsStack_46 ?_
        refine sm_iv_V (Y := mX12_readsStack) (pc := 48) (As := [.int 21]) (a := 109) fX12_puts wRX12_204 (lk_109 hly) (by decide) rfl rfl rfl (Nat.le_trans (by decide) hd) (Nat.le_of_ble_eq_true rfl) ⟨Nat.le_refl _, Nat.le_refl _⟩ dX12_readsStack_48 rfl (sm_monoV h (fun m_5 h => ?_))
        refine sm_goto (Y := mX12_readsStack) (pc := 51) 4 (by decide) dX12_readsStack_51 ?_
        exact h
theorem dX12_readsStack_0 : decode cX12_readsStack 0 = .ok (.aload_n 0, 1) := dk_aload_n_0 (by decide +kernel)
theorem dX12_readsStack_1 : decode cX12_readsStack 1 = .ok (.invokevirtual 258, 3) := dk_invokevirtual 258 (b1 := 1) (b2 := 2) (by decide +kernel) (by decide +kernel) (by decide +kernel) (by decide +kernel)
set_option maxRecDepth 20000 in
theorem vX12_readsStack_0 {E : sm_E} {L : sm_S → Prop} {d : Nat}   {m : sm_M} {Q : sm_M → Prop} (hly : ∀ S, L S → ly S) {dr : Nat} (hd : 4 ≤ d) (hr : dr + 1 ≤ d) 
  (h : sm_callV E L mX12_readsUnit dr 0 0 [.ref (sm_B E + 109)] m (fun m_1 =>
   gX12_readsStack_4 E L d ([.ref (sm_B E + 109)])  m_1 Q)) :
  sm_callV E L mX12_readsStack d 0 0 [.ref (sm_B E + 109)] m Q := by
  refine sm_enter (by decide +kernel) (by simp [lg_sl, Value.category]) ?_
  refine sm_aload_n (Y := mX12_readsStack) (pc := 0) 0 0 rfl rfl dX12_readsStack_0 ?_
  refine sm_iv_V (Y := mX12_readsStack) (pc := 1) (As := []) (a := 109) fX12_readsUnit wRX12_258 (lk_109 hly) (by decide) rfl rfl rfl hr (Nat.le_of_ble_eq_true rfl) ⟨Nat.le_refl _, Nat.le_refl _⟩ dX12_readsStack_1 rfl (sm_monoV h (fun m_1 h => ?_))
  exact h
def gX12_readsAll_4 (E : sm_E) (L : sm_S → Prop) (d : Nat) (vs : List Value)  (m : sm_M) (Q : sm_M → Prop) : Prop := sm_go E L mX12_readsAll d 0 0 vs 4 [(0, .ref (sm_B E + 109))] [] m 0 0 (sm_Z E L vs 0 0 (sm_QV Q))
theorem dX12_readsAll_4 : decode cX12_readsAll 4 = .ok (.aload_n 0, 1) := dk_aload_n_0 (by decide +kernel)
theorem dX12_readsAll_5 : decode cX12_readsAll 5 = .ok (.getfield 246, 3) := dk_getfield 246 (b1 := 0) (b2 := 246) (by decide +kernel) (by decide +kernel) (by decide +kernel) (by decide +kernel)
theorem dX12_readsAll_8 : decode cX12_readsAll 8 = .ok (.ifCond .ne 46, 3) := dk_ifCond_ne 46 (b1 := 0) (b2 := 46) (by decide +kernel) (by decide +kernel) (by decide +kernel) (by decide +kernel)
theorem dX12_readsAll_54 : decode cX12_readsAll 54 = .ok (.return_, 1) := dk_return_ (by decide +kernel)
theorem dX12_readsAll_11 : decode cX12_readsAll 11 = .ok (.aload_n 0, 1) := dk_aload_n_0 (by decide +kernel)
theorem dX12_readsAll_12 : decode cX12_readsAll 12 = .ok (.aload_n 0, 1) := dk_aload_n_0 (by decide +kernel)
theorem dX12_readsAll_13 : decode cX12_readsAll 13 = .ok (.getfield 237, 3) := dk_getfield 237 (b1 := 0) (b2 := 237) (by decide +kernel) (by decide +kernel) (by decide +kernel) (by decide +kernel)
theorem dX12_readsAll_16 : decode cX12_readsAll 16 = .ok (.invokevirtual 240, 3) := dk_invokevirtual 240 (b1 := 0) (b2 := 240) (by decide +kernel) (by decide +kernel) (by decide +kernel) (by decide +kernel)
theorem dX12_readsAll_19 : decode cX12_readsAll 19 = .ok (.bipush 43, 2) := dk_bipush 43 (b := 43) (by decide +kernel) (by decide +kernel) (by decide +kernel)
theorem dX12_readsAll_21 : decode cX12_readsAll 21 = .ok (.if_icmp .ne 33, 3) := dk_if_icmp_ne 33 (b1 := 0) (b2 := 33) (by decide +kernel) (by decide +kernel) (by decide +kernel) (by decide +kernel)
theorem dX12_readsAll_24 : decode cX12_readsAll 24 = .ok (.aload_n 0, 1) := dk_aload_n_0 (by decide +kernel)
theorem dX12_readsAll_25 : decode cX12_readsAll 25 = .ok (.dup, 1) := dk_dup (by decide +kernel)
theorem dX12_readsAll_26 : decode cX12_readsAll 26 = .ok (.getfield 237, 3) := dk_getfield 237 (b1 := 0) (b2 := 237) (by decide +kernel) (by decide +kernel) (by decide +kernel) (by decide +kernel)
theorem dX12_readsAll_29 : decode cX12_readsAll 29 = .ok (.iconst 1, 1) := dk_iconst_1 (by decide +kernel)
theorem dX12_readsAll_30 : decode cX12_readsAll 30 = .ok (.iadd, 1) := dk_iadd (by decide +kernel)
theorem dX12_readsAll_31 : decode cX12_readsAll 31 = .ok (.putfield 237, 3) := dk_putfield 237 (b1 := 0) (b2 := 237) (by decide +kernel) (by decide +kernel) (by decide +kernel) (by decide +kernel)
theorem dX12_readsAll_34 : decode cX12_readsAll 34 = .ok (.aload_n 0, 1) := dk_aload_n_0 (by decide +kernel)
theorem wRX12_261 : Cond.methodLink RX12 261 yX12_readsStack ∈ sm_T := sm_in 1454 (by decide +kernel) (by decide +kernel)
theorem dX12_readsAll_35 : decode cX12_readsAll 35 = .ok (.invokevirtual 261, 3) := dk_invokevirtual 261 (b1 := 1) (b2 := 5) (by decide +kernel) (by decide +kernel) (by decide +kernel) (by decide +kernel)
theorem dX12_readsAll_38 : decode cX12_readsAll 38 = .ok (.aload_n 0, 1) := dk_aload_n_0 (by decide +kernel)
theorem dX12_readsAll_39 : decode cX12_readsAll 39 = .ok (.getfield 246, 3) := dk_getfield 246 (b1 := 0) (b2 := 246) (by decide +kernel) (by decide +kernel) (by decide +kernel) (by decide +kernel)
theorem dX12_readsAll_42 : decode cX12_readsAll 42 = .ok (.ifCond .ne (-38), 3) := dk_ifCond_ne (-38) (b1 := 255) (b2 := 218) (by decide +kernel) (by decide +kernel) (by decide +kernel) (by decide +kernel)
theorem dX12_readsAll_45 : decode cX12_readsAll 45 = .ok (.aload_n 0, 1) := dk_aload_n_0 (by decide +kernel)
theorem dX12_readsAll_46 : decode cX12_readsAll 46 = .ok (.bipush 20, 2) := dk_bipush 20 (b := 20) (by decide +kernel) (by decide +kernel) (by decide +kernel)
theorem dX12_readsAll_48 : decode cX12_readsAll 48 = .ok (.invokevirtual 204, 3) := dk_invokevirtual 204 (b1 := 0) (b2 := 204) (by decide +kernel) (by decide +kernel) (by decide +kernel) (by decide +kernel)
theorem dX12_readsAll_51 : decode cX12_readsAll 51 = .ok (.goto (-47), 3) := dk_goto (-47) (b1 := 255) (b2 := 209) (by decide +kernel) (by decide +kernel) (by decide +kernel) (by decide +kernel)
set_option maxRecDepth 20000 in
theorem vX12_readsAll_4 {E : sm_E} {L : sm_S → Prop} {d : Nat} {vs : List Value}   {m : sm_M} {Q : sm_M → Prop} (hly : ∀ S, L S → ly S) {dr : Nat} (hd : 4 ≤ d) (hr : dr + 1 ≤ d) 
  (h : (¬ (m.1 109 34) = 0 →
      Q m) ∧
   ((m.1 109 34) = 0 →
      sm_callI E L mX12_byteAt 1 0 0 [.ref (sm_B E + 109), .int (m.1 109 31)] m (fun r_2 m_1 =>
      (¬ r_2 = 43 →
         Q m_1) ∧
      (r_2 = 43 →
         ∀ m_3 : sm_M, m_3 = sm_wI m_1 109 31 ((m_1.1 109 31) + 1) →
         sm_callV E L mX12_readsStack dr 0 0 [.ref (sm_B E + 109)] m_3 (fun m_4 =>
         (¬ (m_4.1 109 34) = 0 →
            gX12_readsAll_4 E L d vs  m_4 Q) ∧
         ((m_4.1 109 34) = 0 →
            sm_callV E L mX12_puts 1 0 0 [.ref (sm_B E + 109), .int 20] m_4 (fun m_5 =>
            gX12_readsAll_4 E L d vs  m_5 Q))))))) :
  gX12_readsAll_4 E L d vs  m Q := by
  refine sm_aload_n (Y := mX12_readsAll) (pc := 4) 0 0 rfl rfl dX12_readsAll_4 ?_
  refine gf_RX12_246 (Y := mX12_readsAll) (pc := 5) rfl ((lk_109 hly) _) dX12_readsAll_5 ?_
  refine sm_if_ne (Y := mX12_readsAll) (pc := 8) 54 (by decide) dX12_readsAll_8 (fun hc => ?_) (fun hc => ?_)
  · replace h := h.1 hc
    exact sm_vret (Y := mX12_readsAll) (pc := 54) rfl rfl rfl dX12_readsAll_54 ⟨rfl, h⟩
  · replace h := h.2 hc
    refine sm_aload_n (Y := mX12_readsAll) (pc := 11) 0 0 rfl rfl dX12_readsAll_11 ?_
    refine sm_aload_n (Y := mX12_readsAll) (pc := 12) 0 0 rfl rfl dX12_readsAll_12 ?_
    refine gf_RX12_237 (Y := mX12_readsAll) (pc := 13) rfl ((lk_109 hly) _) dX12_readsAll_13 ?_
    refine sm_iv_I (Y := mX12_readsAll) (pc := 16) (As := [.int (m.1 109 31)]) (a := 109) fX12_byteAt wRX12_240 (lk_109 hly) (by decide) rfl rfl rfl (Nat.le_trans (by decide) hd) (Nat.le_of_ble_eq_true rfl) ⟨Nat.le_refl _, Nat.le_refl _⟩ dX12_readsAll_16 rfl (sm_monoI h (fun r_2 m_1 h => ?_))
    refine sm_bipush (Y := mX12_readsAll) (pc := 19) 43 (by decide) dX12_readsAll_19 ?_
    refine sm_icmp_ne (Y := mX12_readsAll) (pc := 21) 54 (by decide) dX12_readsAll_21 (fun hc => ?_) (fun hc => ?_)
    · replace h := h.1 hc
      exact sm_vret (Y := mX12_readsAll) (pc := 54) rfl rfl rfl dX12_readsAll_54 ⟨rfl, h⟩
    · replace h := h.2 hc
      refine sm_aload_n (Y := mX12_readsAll) (pc := 24) 0 0 rfl rfl dX12_readsAll_24 ?_
      refine sm_dup (Y := mX12_readsAll) (pc := 25) rfl dX12_readsAll_25 ?_
      refine gf_RX12_237 (Y := mX12_readsAll) (pc := 26) rfl ((lk_109 hly) _) dX12_readsAll_26 ?_
      refine sm_iconst (Y := mX12_readsAll) (pc := 29) 1 (by decide) dX12_readsAll_29 ?_
      refine sm_iadd (Y := mX12_readsAll) (pc := 30) dX12_readsAll_30 ?_
      refine pf_RX12_237 (Y := mX12_readsAll) (pc := 31) rfl ((lk_109 hly) _) dX12_readsAll_31 (fun m_3 em_3 => ?_)
      replace h := h m_3 em_3
      refine sm_aload_n (Y := mX12_readsAll) (pc := 34) 0 0 rfl rfl dX12_readsAll_34 ?_
      refine sm_iv_V (Y := mX12_readsAll) (pc := 35) (As := []) (a := 109) fX12_readsStack wRX12_261 (lk_109 hly) (by decide) rfl rfl rfl hr (Nat.le_of_ble_eq_true rfl) ⟨Nat.le_refl _, Nat.le_refl _⟩ dX12_readsAll_35 rfl (sm_monoV h (fun m_4 h => ?_))
      refine sm_aload_n (Y := mX12_readsAll) (pc := 38) 0 0 rfl rfl dX12_readsAll_38 ?_
      refine gf_RX12_246 (Y := mX12_readsAll) (pc := 39) rfl ((lk_109 hly) _) dX12_readsAll_39 ?_
      refine sm_if_ne (Y := mX12_readsAll) (pc := 42) 4 (by decide) dX12_readsAll_42 (fun hc => ?_) (fun hc => ?_)
      · replace h := h.1 hc
        exact h
      · replace h := h.2 hc
        refine sm_aload_n (Y := mX12_readsAll) (pc := 45) 0 0 rfl rfl dX12_readsAll_45 ?_
        refine sm_bipush (Y := mX12_readsAll) (pc := 46) 20 (by decide) dX12_readsAll_46 ?_
        refine sm_iv_V (Y := mX12_readsAll) (pc := 48) (As := [.int 20]) (a := 109) fX12_puts wRX12_204 (lk_109 hly) (by decide) rfl rfl rfl (Nat.le_trans (by decide) hd) (Nat.le_of_ble_eq_true rfl) ⟨Nat.le_refl _, Nat.le_refl _⟩ dX12_readsAll_48 rfl (sm_monoV h (fun m_5 h => ?_))
        refine sm_goto (Y := mX12_readsAll) (pc := 51) 4 (by decide) dX12_readsAll_51 ?_
        exact h
theorem dX12_readsAll_0 : decode cX12_readsAll 0 = .ok (.aload_n 0, 1) := dk_aload_n_0 (by decide +kernel)
theorem dX12_readsAll_1 : decode cX12_readsAll 1 = .ok (.invokevirtual 261, 3) := dk_invokevirtual 261 (b1 := 1) (b2 := 5) (by decide +kernel) (by decide +kernel) (by decide +kernel) (by decide +kernel)
set_option maxRecDepth 20000 in
theorem vX12_readsAll_0 {E : sm_E} {L : sm_S → Prop} {d : Nat}   {m : sm_M} {Q : sm_M → Prop} (hly : ∀ S, L S → ly S) {dr : Nat} (hd : 4 ≤ d) (hr : dr + 1 ≤ d) 
  (h : sm_callV E L mX12_readsStack dr 0 0 [.ref (sm_B E + 109)] m (fun m_1 =>
   gX12_readsAll_4 E L d ([.ref (sm_B E + 109)])  m_1 Q)) :
  sm_callV E L mX12_readsAll d 0 0 [.ref (sm_B E + 109)] m Q := by
  refine sm_enter (by decide +kernel) (by simp [lg_sl, Value.category]) ?_
  refine sm_aload_n (Y := mX12_readsAll) (pc := 0) 0 0 rfl rfl dX12_readsAll_0 ?_
  refine sm_iv_V (Y := mX12_readsAll) (pc := 1) (As := []) (a := 109) fX12_readsStack wRX12_261 (lk_109 hly) (by decide) rfl rfl rfl hr (Nat.le_of_ble_eq_true rfl) ⟨Nat.le_refl _, Nat.le_refl _⟩ dX12_readsAll_1 rfl (sm_monoV h (fun m_1 h => ?_))
  exact h
abbrev mX12_tangle : sm_Y := (yX12_tangle, cX12_tangle, 2, (some FieldType.int))
theorem fX12_tangle : sm_mi mX12_tangle RX12 1 := ⟨sm_in 1449 (by decide +kernel) (by decide +kernel), sm_in 1447 (by decide +kernel) (by decide +kernel), sm_in 1448 (by decide +kernel) (by decide +kernel), sm_in 93 (by decide +kernel) (by decide +kernel), rfl, ⟨by decide +kernel, by decide +kernel, by decide +kernel⟩, by decide⟩
theorem dX12_tangle_0 : decode cX12_tangle 0 = .ok (.iload_n 1, 1) := dk_iload_n_1 (by decide +kernel)
theorem dX12_tangle_1 : decode cX12_tangle 1 = .ok (.invokestatic 184, 3) := dk_invokestatic 184 (b1 := 0) (b2 := 184) (by decide +kernel) (by decide +kernel) (by decide +kernel) (by decide +kernel)
theorem dX12_tangle_4 : decode cX12_tangle 4 = .ok (.ifCond .ne 9, 3) := dk_ifCond_ne 9 (b1 := 0) (b2 := 9) (by decide +kernel) (by decide +kernel) (by decide +kernel) (by decide +kernel)
theorem dX12_tangle_13 : decode cX12_tangle 13 = .ok (.aload_n 0, 1) := dk_aload_n_0 (by decide +kernel)
theorem dX12_tangle_14 : decode cX12_tangle 14 = .ok (.aload_n 0, 1) := dk_aload_n_0 (by decide +kernel)
theorem dX12_tangle_15 : decode cX12_tangle 15 = .ok (.getfield 229, 3) := dk_getfield 229 (b1 := 0) (b2 := 229) (by decide +kernel) (by decide +kernel) (by decide +kernel) (by decide +kernel)
theorem dX12_tangle_18 : decode cX12_tangle 18 = .ok (.putfield 234, 3) := dk_putfield 234 (b1 := 0) (b2 := 234) (by decide +kernel) (by decide +kernel) (by decide +kernel) (by decide +kernel)
theorem dX12_tangle_21 : decode cX12_tangle 21 = .ok (.aload_n 0, 1) := dk_aload_n_0 (by decide +kernel)
theorem dX12_tangle_22 : decode cX12_tangle 22 = .ok (.iconst 0, 1) := dk_iconst_0 (by decide +kernel)
theorem dX12_tangle_23 : decode cX12_tangle 23 = .ok (.putfield 229, 3) := dk_putfield 229 (b1 := 0) (b2 := 229) (by decide +kernel) (by decide +kernel) (by decide +kernel) (by decide +kernel)
theorem dX12_tangle_26 : decode cX12_tangle 26 = .ok (.aload_n 0, 1) := dk_aload_n_0 (by decide +kernel)
theorem dX12_tangle_27 : decode cX12_tangle 27 = .ok (.iconst 0, 1) := dk_iconst_0 (by decide +kernel)
theorem dX12_tangle_28 : decode cX12_tangle 28 = .ok (.putfield 237, 3) := dk_putfield 237 (b1 := 0) (b2 := 237) (by decide +kernel) (by decide +kernel) (by decide +kernel) (by decide +kernel)
theorem dX12_tangle_31 : decode cX12_tangle 31 = .ok (.aload_n 0, 1) := dk_aload_n_0 (by decide +kernel)
theorem dX12_tangle_32 : decode cX12_tangle 32 = .ok (.iconst 0, 1) := dk_iconst_0 (by decide +kernel)
theorem dX12_tangle_33 : decode cX12_tangle 33 = .ok (.putfield 252, 3) := dk_putfield 252 (b1 := 0) (b2 := 252) (by decide +kernel) (by decide +kernel) (by decide +kernel) (by decide +kernel)
theorem dX12_tangle_36 : decode cX12_tangle 36 = .ok (.aload_n 0, 1) := dk_aload_n_0 (by decide +kernel)
theorem dX12_tangle_37 : decode cX12_tangle 37 = .ok (.iconst 0, 1) := dk_iconst_0 (by decide +kernel)
theorem dX12_tangle_38 : decode cX12_tangle 38 = .ok (.putfield 246, 3) := dk_putfield 246 (b1 := 0) (b2 := 246) (by decide +kernel) (by decide +kernel) (by decide +kernel) (by decide +kernel)
theorem dX12_tangle_41 : decode cX12_tangle 41 = .ok (.aload_n 0, 1) := dk_aload_n_0 (by decide +kernel)
theorem dX12_tangle_42 : decode cX12_tangle 42 = .ok (.iconst 0, 1) := dk_iconst_0 (by decide +kernel)
theorem dX12_tangle_43 : decode cX12_tangle 43 = .ok (.putfield 201, 3) := dk_putfield 201 (b1 := 0) (b2 := 201) (by decide +kernel) (by decide +kernel) (by decide +kernel) (by decide +kernel)
theorem dX12_tangle_46 : decode cX12_tangle 46 = .ok (.aload_n 0, 1) := dk_aload_n_0 (by decide +kernel)
theorem dX12_tangle_47 : decode cX12_tangle 47 = .ok (.invokevirtual 255, 3) := dk_invokevirtual 255 (b1 := 0) (b2 := 255) (by decide +kernel) (by decide +kernel) (by decide +kernel) (by decide +kernel)
theorem dX12_tangle_50 : decode cX12_tangle 50 = .ok (.aload_n 0, 1) := dk_aload_n_0 (by decide +kernel)
theorem dX12_tangle_51 : decode cX12_tangle 51 = .ok (.getfield 246, 3) := dk_getfield 246 (b1 := 0) (b2 := 246) (by decide +kernel) (by decide +kernel) (by decide +kernel) (by decide +kernel)
theorem dX12_tangle_54 : decode cX12_tangle 54 = .ok (.ifCond .ne 14, 3) := dk_ifCond_ne 14 (b1 := 0) (b2 := 14) (by decide +kernel) (by decide +kernel) (by decide +kernel) (by decide +kernel)
theorem dX12_tangle_68 : decode cX12_tangle 68 = .ok (.bipush (-10), 2) := dk_bipush (-10) (b := 246) (by decide +kernel) (by decide +kernel) (by decide +kernel)
theorem dX12_tangle_70 : decode cX12_tangle 70 = .ok (.aload_n 0, 1) := dk_aload_n_0 (by decide +kernel)
theorem dX12_tangle_71 : decode cX12_tangle 71 = .ok (.getfield 237, 3) := dk_getfield 237 (b1 := 0) (b2 := 237) (by decide +kernel) (by decide +kernel) (by decide +kernel) (by decide +kernel)
theorem dX12_tangle_74 : decode cX12_tangle 74 = .ok (.isub, 1) := dk_isub (by decide +kernel)
theorem dX12_tangle_75 : decode cX12_tangle 75 = .ok (.ireturn, 1) := dk_ireturn (by decide +kernel)
theorem dX12_tangle_57 : decode cX12_tangle 57 = .ok (.aload_n 0, 1) := dk_aload_n_0 (by decide +kernel)
theorem dX12_tangle_58 : decode cX12_tangle 58 = .ok (.getfield 237, 3) := dk_getfield 237 (b1 := 0) (b2 := 237) (by decide +kernel) (by decide +kernel) (by decide +kernel) (by decide +kernel)
theorem dX12_tangle_61 : decode cX12_tangle 61 = .ok (.aload_n 0, 1) := dk_aload_n_0 (by decide +kernel)
theorem dX12_tangle_62 : decode cX12_tangle 62 = .ok (.getfield 234, 3) := dk_getfield 234 (b1 := 0) (b2 := 234) (by decide +kernel) (by decide +kernel) (by decide +kernel) (by decide +kernel)
theorem dX12_tangle_65 : decode cX12_tangle 65 = .ok (.if_icmp .ge 11, 3) := dk_if_icmp_ge 11 (b1 := 0) (b2 := 11) (by decide +kernel) (by decide +kernel) (by decide +kernel) (by decide +kernel)
theorem dX12_tangle_76 : decode cX12_tangle 76 = .ok (.aload_n 0, 1) := dk_aload_n_0 (by decide +kernel)
theorem dX12_tangle_77 : decode cX12_tangle 77 = .ok (.invokevirtual 220, 3) := dk_invokevirtual 220 (b1 := 0) (b2 := 220) (by decide +kernel) (by decide +kernel) (by decide +kernel) (by decide +kernel)
theorem dX12_tangle_80 : decode cX12_tangle 80 = .ok (.ifCond .eq 11, 3) := dk_ifCond_eq 11 (b1 := 0) (b2 := 11) (by decide +kernel) (by decide +kernel) (by decide +kernel) (by decide +kernel)
theorem dX12_tangle_91 : decode cX12_tangle 91 = .ok (.aload_n 0, 1) := dk_aload_n_0 (by decide +kernel)
theorem dX12_tangle_92 : decode cX12_tangle 92 = .ok (.iload_n 1, 1) := dk_iload_n_1 (by decide +kernel)
theorem dX12_tangle_93 : decode cX12_tangle 93 = .ok (.invokevirtual 211, 3) := dk_invokevirtual 211 (b1 := 0) (b2 := 211) (by decide +kernel) (by decide +kernel) (by decide +kernel) (by decide +kernel)
theorem dX12_tangle_96 : decode cX12_tangle 96 = .ok (.ireturn, 1) := dk_ireturn (by decide +kernel)
theorem dX12_tangle_83 : decode cX12_tangle 83 = .ok (.aload_n 0, 1) := dk_aload_n_0 (by decide +kernel)
theorem dX12_tangle_84 : decode cX12_tangle 84 = .ok (.iconst 4, 1) := dk_iconst_4 (by decide +kernel)
theorem dX12_tangle_85 : decode cX12_tangle 85 = .ok (.invokevirtual 194, 3) := dk_invokevirtual 194 (b1 := 0) (b2 := 194) (by decide +kernel) (by decide +kernel) (by decide +kernel) (by decide +kernel)
theorem dX12_tangle_88 : decode cX12_tangle 88 = .ok (.goto 8, 3) := dk_goto 8 (b1 := 0) (b2 := 8) (by decide +kernel) (by decide +kernel) (by decide +kernel) (by decide +kernel)
theorem dX12_tangle_7 : decode cX12_tangle 7 = .ok (.aload_n 0, 1) := dk_aload_n_0 (by decide +kernel)
theorem dX12_tangle_8 : decode cX12_tangle 8 = .ok (.iconst 1, 1) := dk_iconst_1 (by decide +kernel)
theorem dX12_tangle_9 : decode cX12_tangle 9 = .ok (.invokevirtual 194, 3) := dk_invokevirtual 194 (b1 := 0) (b2 := 194) (by decide +kernel) (by decide +kernel) (by decide +kernel) (by decide +kernel)
theorem dX12_tangle_12 : decode cX12_tangle 12 = .ok (.ireturn, 1) := dk_ireturn (by decide +kernel)
set_option maxRecDepth 20000 in
theorem vX12_tangle_0 {E : sm_E} {L : sm_S → Prop} {d : Nat} {x1 : Int32}  {m : sm_M} {Q : Int32 → sm_M → Prop} (hly : ∀ S, L S → ly S) (hd : 61 ≤ d) 
  (h : sm_callI E L mX12_isSlot 1 0 0 [.int x1] m (fun r_2 m_1 =>
   (¬ r_2 = 0 →
      ∀ m_3 : sm_M, m_3 = sm_wI m_1 109 32 (m_1.1 109 11) →
      ∀ m_4 : sm_M, m_4 = sm_wI m_3 109 11 0 →
      ∀ m_5 : sm_M, m_5 = sm_wI m_4 109 31 0 →
      ∀ m_6 : sm_M, m_6 = sm_wI m_5 109 33 0 →
      ∀ m_7 : sm_M, m_7 = sm_wI m_6 109 34 0 →
      ∀ m_8 : sm_M, m_8 = sm_wI m_7 109 6 0 →
      sm_callV E L mX12_readsAll 60 0 0 [.ref (sm_B E + 109)] m_8 (fun m_9 =>
      (¬ (m_9.1 109 34) = 0 →
         Q ((-10 : Int32) - (m_9.1 109 31)) m_9) ∧
      ((m_9.1 109 34) = 0 →
         ((m_9.1 109 32) ≤ (m_9.1 109 31) →
            sm_callI E L mX12_isTooMuch 3 0 0 [.ref (sm_B E + 109)] m_9 (fun r_11 m_10 =>
            (r_11 = 0 →
               sm_callI E L mX12_comesTo 4 0 0 [.ref (sm_B E + 109), .int x1] m_10 (fun r_13 m_12 =>
               Q r_13 m_12)) ∧
            (¬ r_11 = 0 →
               sm_callI E L mX12_finds 1 0 0 [.ref (sm_B E + 109), .int 4] m_10 (fun r_15 m_14 =>
               Q r_15 m_14)))) ∧
         (¬ (m_9.1 109 32) ≤ (m_9.1 109 31) →
            Q ((-10 : Int32) - (m_9.1 109 31)) m_9)))) ∧
   (r_2 = 0 →
      sm_callI E L mX12_finds 1 0 0 [.ref (sm_B E + 109), .int 1] m_1 (fun r_17 m_16 =>
      Q r_17 m_16)))) :
  sm_callI E L mX12_tangle d 0 0 [.ref (sm_B E + 109), .int x1] m Q := by
  refine sm_enter (by decide +kernel) (by simp [lg_sl, Value.category]) ?_
  refine sm_iload_n (Y := mX12_tangle) (pc := 0) 1 1 rfl rfl dX12_tangle_0 ?_
  refine sm_is_I (Y := mX12_tangle) (pc := 1) (As := [.int x1]) fX12_isSlot wRX12_184 rfl (Nat.le_trans (by decide) hd) (Nat.le_of_ble_eq_true rfl) ⟨Nat.le_refl _, Nat.le_refl _⟩ dX12_tangle_1 rfl (sm_monoI h (fun r_2 m_1 h => ?_))
  refine sm_if_ne (Y := mX12_tangle) (pc := 4) 13 (by decide) dX12_tangle_4 (fun hc => ?_) (fun hc => ?_)
  · replace h := h.1 hc
    refine sm_aload_n (Y := mX12_tangle) (pc := 13) 0 0 rfl rfl dX12_tangle_13 ?_
    refine sm_aload_n (Y := mX12_tangle) (pc := 14) 0 0 rfl rfl dX12_tangle_14 ?_
    refine gf_RX12_229 (Y := mX12_tangle) (pc := 15) rfl ((lk_109 hly) _) dX12_tangle_15 ?_
    refine pf_RX12_234 (Y := mX12_tangle) (pc := 18) rfl ((lk_109 hly) _) dX12_tangle_18 (fun m_3 em_3 => ?_)
    replace h := h m_3 em_3
    refine sm_aload_n (Y := mX12_tangle) (pc := 21) 0 0 rfl rfl dX12_tangle_21 ?_
    refine sm_iconst (Y := mX12_tangle) (pc := 22) 0 (by decide) dX12_tangle_22 ?_
    refine pf_RX12_229 (Y := mX12_tangle) (pc := 23) rfl ((lk_109 hly) _) dX12_tangle_23 (fun m_4 em_4 => ?_)
    replace h := h m_4 em_4
    refine sm_aload_n (Y := mX12_tangle) (pc := 26) 0 0 rfl rfl dX12_tangle_26 ?_
    refine sm_iconst (Y := mX12_tangle) (pc := 27) 0 (by decide) dX12_tangle_27 ?_
    refine pf_RX12_237 (Y := mX12_tangle) (pc := 28) rfl ((lk_109 hly) _) dX12_tangle_28 (fun m_5 em_5 => ?_)
    replace h := h m_5 em_5
    refine sm_aload_n (Y := mX12_tangle) (pc := 31) 0 0 rfl rfl dX12_tangle_31 ?_
    refine sm_iconst (Y := mX12_tangle) (pc := 32) 0 (by decide) dX12_tangle_32 ?_
    refine pf_RX12_252 (Y := mX12_tangle) (pc := 33) rfl ((lk_109 hly) _) dX12_tangle_33 (fun m_6 em_6 => ?_)
    replace h := h m_6 em_6
    refine sm_aload_n (Y := mX12_tangle) (pc := 36) 0 0 rfl rfl dX12_tangle_36 ?_
    refine sm_iconst (Y := mX12_tangle) (pc := 37) 0 (by decide) dX12_tangle_37 ?_
    refine pf_RX12_246 (Y := mX12_tangle) (pc := 38) rfl (by decide) ((lk_109 hly) _) dX12_tangle_38 (fun m_7 em_7 => ?_)
    replace h := h m_7 em_7
    refine sm_aload_n (Y := mX12_tangle) (pc := 41) 0 0 rfl rfl dX12_tangle_41 ?_
    refine sm_iconst (Y := mX12_tangle) (pc := 42) 0 (by decide) dX12_tangle_42 ?_
    refine pf_RX12_201 (Y := mX12_tangle) (pc := 43) rfl ((lk_109 hly) _) dX12_tangle_43 (fun m_8 em_8 => ?_)
    replace h := h m_8 em_8
    refine sm_aload_n (Y := mX12_tangle) (pc := 46) 0 0 rfl rfl dX12_tangle_46 ?_
    refine sm_iv_V (Y := mX12_tangle) (pc := 47) (As := []) (a := 109) fX12_readsAll wRX12_255 (lk_109 hly) (by decide) rfl rfl rfl (Nat.le_trans (by decide) hd) (Nat.le_of_ble_eq_true rfl) ⟨Nat.le_refl _, Nat.le_refl _⟩ dX12_tangle_47 rfl (sm_monoV h (fun m_9 h => ?_))
    refine sm_aload_n (Y := mX12_tangle) (pc := 50) 0 0 rfl rfl dX12_tangle_50 ?_
    refine gf_RX12_246 (Y := mX12_tangle) (pc := 51) rfl ((lk_109 hly) _) dX12_tangle_51 ?_
    refine sm_if_ne (Y := mX12_tangle) (pc := 54) 68 (by decide) dX12_tangle_54 (fun hc => ?_) (fun hc => ?_)
    · replace h := h.1 hc
      refine sm_bipush (Y := mX12_tangle) (pc := 68) (-10) (by decide) dX12_tangle_68 ?_
      refine sm_aload_n (Y := mX12_tangle) (pc := 70) 0 0 rfl rfl dX12_tangle_70 ?_
      refine gf_RX12_237 (Y := mX12_tangle) (pc := 71) rfl ((lk_109 hly) _) dX12_tangle_71 ?_
      refine sm_isub (Y := mX12_tangle) (pc := 74) dX12_tangle_74 ?_
      exact sm_iret (Y := mX12_tangle) (pc := 75) rfl rfl rfl dX12_tangle_75 ⟨_, rfl, h⟩
    · replace h := h.2 hc
      refine sm_aload_n (Y := mX12_tangle) (pc := 57) 0 0 rfl rfl dX12_tangle_57 ?_
      refine gf_RX12_237 (Y := mX12_tangle) (pc := 58) rfl ((lk_109 hly) _) dX12_tangle_58 ?_
      refine sm_aload_n (Y := mX12_tangle) (pc := 61) 0 0 rfl rfl dX12_tangle_61 ?_
      refine gf_RX12_234 (Y := mX12_tangle) (pc := 62) rfl ((lk_109 hly) _) dX12_tangle_62 ?_
      refine sm_icmp_ge (Y := mX12_tangle) (pc := 65) 76 (by decide) dX12_tangle_65 (fun hc => ?_) (fun hc => ?_)
      · replace h := h.1 hc
        refine sm_aload_n (Y := mX12_tangle) (pc := 76) 0 0 rfl rfl dX12_tangle_76 ?_
        refine sm_iv_I (Y := mX12_tangle) (pc := 77) (As := []) (a := 109) fX12_isTooMuch wRX12_220 (lk_109 hly) (by decide) rfl rfl rfl (Nat.le_trans (by decide) hd) (Nat.le_of_ble_eq_true rfl) ⟨Nat.le_refl _, Nat.le_refl _⟩ dX12_tangle_77 rfl (sm_monoI h (fun r_11 m_10 h => ?_))
        refine sm_if_eq (Y := mX12_tangle) (pc := 80) 91 (by decide) dX12_tangle_80 (fun hc => ?_) (fun hc => ?_)
        · replace h := h.1 hc
          refine sm_aload_n (Y := mX12_tangle) (pc := 91) 0 0 rfl rfl dX12_tangle_91 ?_
          refine sm_iload_n (Y := mX12_tangle) (pc := 92) 1 1 rfl rfl dX12_tangle_92 ?_
          refine sm_iv_I (Y := mX12_tangle) (pc := 93) (As := [.int x1]) (a := 109) fX12_comesTo wRX12_211 (lk_109 hly) (by decide) rfl rfl rfl (Nat.le_trans (by decide) hd) (Nat.le_of_ble_eq_true rfl) ⟨Nat.le_refl _, Nat.le_refl _⟩ dX12_tangle_93 rfl (sm_monoI h (fun r_13 m_12 h => ?_))
          exact sm_iret (Y := mX12_tangle) (pc := 96) rfl rfl rfl dX12_tangle_96 ⟨_, rfl, h⟩
        · replace h := h.2 hc
          refine sm_aload_n (Y := mX12_tangle) (pc := 83) 0 0 rfl rfl dX12_tangle_83 ?_
          refine sm_iconst (Y := mX12_tangle) (pc := 84) 4 (by decide) dX12_tangle_84 ?_
          refine sm_iv_I (Y := mX12_tangle) (pc := 85) (As := [.int 4]) (a := 109) fX12_finds wRX12_194 (lk_109 hly) (by decide) rfl rfl rfl (Nat.le_trans (by decide) hd) (Nat.le_of_ble_eq_true rfl) ⟨Nat.le_refl _, Nat.le_refl _⟩ dX12_tangle_85 rfl (sm_monoI h (fun r_15 m_14 h => ?_))
          refine sm_goto (Y := mX12_tangle) (pc := 88) 96 (by decide) dX12_tangle_88 ?_
          exact sm_iret (Y := mX12_tangle) (pc := 96) rfl rfl rfl dX12_tangle_96 ⟨_, rfl, h⟩
      · replace h := h.2 hc
        refine sm_bipush (Y := mX12_tangle) (pc := 68) (-10) (by decide) dX12_tangle_68 ?_
        refine sm_aload_n (Y := mX12_tangle) (pc := 70) 0 0 rfl rfl dX12_tangle_70 ?_
        refine gf_RX12_237 (Y := mX12_tangle) (pc := 71) rfl ((lk_109 hly) _) dX12_tangle_71 ?_
        refine sm_isub (Y := mX12_tangle) (pc := 74) dX12_tangle_74 ?_
        exact sm_iret (Y := mX12_tangle) (pc := 75) rfl rfl rfl dX12_tangle_75 ⟨_, rfl, h⟩
  · replace h := h.2 hc
    refine sm_aload_n (Y := mX12_tangle) (pc := 7) 0 0 rfl rfl dX12_tangle_7 ?_
    refine sm_iconst (Y := mX12_tangle) (pc := 8) 1 (by decide) dX12_tangle_8 ?_
    refine sm_iv_I (Y := mX12_tangle) (pc := 9) (As := [.int 1]) (a := 109) fX12_finds wRX12_194 (lk_109 hly) (by decide) rfl rfl rfl (Nat.le_trans (by decide) hd) (Nat.le_of_ble_eq_true rfl) ⟨Nat.le_refl _, Nat.le_refl _⟩ dX12_tangle_9 rfl (sm_monoI h (fun r_17 m_16 h => ?_))
    exact sm_iret (Y := mX12_tangle) (pc := 12) rfl rfl rfl dX12_tangle_12 ⟨_, rfl, h⟩
abbrev mX12_moveAt : sm_Y := (yX12_moveAt, cX12_moveAt, 7, (some FieldType.int))
theorem fX12_moveAt : sm_mi mX12_moveAt RX12 2 := ⟨sm_in 1480 (by decide +kernel) (by decide +kernel), sm_in 1479 (by decide +kernel) (by decide +kernel), sm_in 55 (by decide +kernel) (by decide +kernel), sm_in 93 (by decide +kernel) (by decide +kernel), rfl, ⟨by decide +kernel, by decide +kernel, by decide +kernel⟩, by decide⟩
def gX12_moveAt_62 (E : sm_E) (L : sm_S → Prop) (d : Nat) (vs : List Value) (x1 : Int32) (x2 : Int32) (x3 : Int32) (x4 : Int32) (x6 : Int32) (s0 : Int32) (m : sm_M) (Q : Int32 → sm_M → Prop) : Prop := sm_go E L mX12_moveAt d 0 0 vs 62 [(0, .ref (sm_B E + 109)), (1, .int x1), (2, .int x2), (3, .int x3), (4, .int x4), (6, .int x6)] [.int s0] m 0 0 (sm_Z E L vs 0 0 (sm_QI Q))
def gX12_moveAt_30 (E : sm_E) (L : sm_S → Prop) (d : Nat) (vs : List Value) (x1 : Int32) (x2 : Int32) (x3 : Int32) (x4 : Int32) (x5 : Int32) (x6 : Int32) (m : sm_M) (Q : Int32 → sm_M → Prop) : Prop := sm_go E L mX12_moveAt d 0 0 vs 30 [(0, .ref (sm_B E + 109)), (1, .int x1), (2, .int x2), (3, .int x3), (4, .int x4), (5, .int x5), (6, .int x6)] [] m 0 0 (sm_Z E L vs 0 0 (sm_QI Q))
def gX12_moveAt_5 (E : sm_E) (L : sm_S → Prop) (d : Nat) (vs : List Value) (x1 : Int32) (x2 : Int32) (x3 : Int32) (x4 : Int32) (m : sm_M) (Q : Int32 → sm_M → Prop) : Prop := sm_go E L mX12_moveAt d 0 0 vs 5 [(0, .ref (sm_B E + 109)), (1, .int x1), (2, .int x2), (3, .int x3), (4, .int x4)] [] m 0 0 (sm_Z E L vs 0 0 (sm_QI Q))
theorem wRX12_264 : Cond.fieldLink RX12 264 RX12 "WORDS" "[I" ∈ sm_T := sm_in 1481 (by decide +kernel) (by decide +kernel)
theorem dX12_moveAt_62 : decode cX12_moveAt 62 = .ok (.getstatic 264, 3) := dk_getstatic 264 (b1 := 1) (b2 := 8) (by decide +kernel) (by decide +kernel) (by decide +kernel) (by decide +kernel)
theorem dX12_moveAt_65 : decode cX12_moveAt 65 = .ok (.bipush 7, 2) := dk_bipush 7 (b := 7) (by decide +kernel) (by decide +kernel) (by decide +kernel)
theorem dX12_moveAt_67 : decode cX12_moveAt 67 = .ok (.iload 4, 2) := dk_iload 4 (b := 4) (by decide +kernel) (by decide +kernel) (by decide +kernel)
theorem dX12_moveAt_69 : decode cX12_moveAt 69 = .ok (.imul, 1) := dk_imul (by decide +kernel)
theorem dX12_moveAt_70 : decode cX12_moveAt 70 = .ok (.iload 6, 2) := dk_iload 6 (b := 6) (by decide +kernel) (by decide +kernel) (by decide +kernel)
theorem dX12_moveAt_72 : decode cX12_moveAt 72 = .ok (.iadd, 1) := dk_iadd (by decide +kernel)
theorem dX12_moveAt_73 : decode cX12_moveAt 73 = .ok (.iaload, 1) := dk_iaload (by decide +kernel)
theorem dX12_moveAt_74 : decode cX12_moveAt 74 = .ok (.if_icmp .ne 7, 3) := dk_if_icmp_ne 7 (b1 := 0) (b2 := 7) (by decide +kernel) (by decide +kernel) (by decide +kernel) (by decide +kernel)
theorem dX12_moveAt_81 : decode cX12_moveAt 81 = .ok (.iconst 0, 1) := dk_iconst_0 (by decide +kernel)
theorem dX12_moveAt_82 : decode cX12_moveAt 82 = .ok (.istore 5, 2) := dk_istore 5 (b := 5) (by decide +kernel) (by decide +kernel) (by decide +kernel)
theorem dX12_moveAt_84 : decode cX12_moveAt 84 = .ok (.iinc 6 1, 3) := dk_iinc 6 1 (b1 := 6) (b2 := 1) (by decide +kernel) (by decide +kernel) (by decide +kernel) (by decide +kernel) (by decide +kernel)
theorem dX12_moveAt_87 : decode cX12_moveAt 87 = .ok (.goto (-57), 3) := dk_goto (-57) (b1 := 255) (b2 := 199) (by decide +kernel) (by decide +kernel) (by decide +kernel) (by decide +kernel)
theorem dX12_moveAt_77 : decode cX12_moveAt 77 = .ok (.iconst 1, 1) := dk_iconst_1 (by decide +kernel)
theorem dX12_moveAt_78 : decode cX12_moveAt 78 = .ok (.goto 4, 3) := dk_goto 4 (b1 := 0) (b2 := 4) (by decide +kernel) (by decide +kernel) (by decide +kernel) (by decide +kernel)
set_option maxRecDepth 20000 in
theorem vX12_moveAt_62 {E : sm_E} {L : sm_S → Prop} {d : Nat} {vs : List Value} {x1 : Int32} {x2 : Int32} {x3 : Int32} {x4 : Int32} {x6 : Int32} {s0 : Int32}  {m : sm_M} {Q : Int32 → sm_M → Prop}  (hd : 2 ≤ d) 
  (h : (vp_in (((7 : Int32) * x4) + x6) 42) ∧ (¬ s0 = (sm_words.getD (((7 : Int32) * x4) + x6).toNatClampNeg 0) →
      ∀ x6_3 : Int32, x6_3 = x6 + 1 →
      gX12_moveAt_30 E L d vs x1 x2 x3 x4 0 x6_3 m Q) ∧
   (s0 = (sm_words.getD (((7 : Int32) * x4) + x6).toNatClampNeg 0) →
      ∀ x6_5 : Int32, x6_5 = x6 + 1 →
      gX12_moveAt_30 E L d vs x1 x2 x3 x4 1 x6_5 m Q)) :
  gX12_moveAt_62 E L d vs x1 x2 x3 x4 x6 s0 m Q := by
  refine sm_gWords (Y := mX12_moveAt) (pc := 62) wRX12_264 dX12_moveAt_62 ?_
  refine sm_bipush (Y := mX12_moveAt) (pc := 65) 7 (by decide) dX12_moveAt_65 ?_
  refine sm_iload (Y := mX12_moveAt) (pc := 67) 4 4 rfl dX12_moveAt_67 ?_
  refine sm_imul (Y := mX12_moveAt) (pc := 69) dX12_moveAt_69 ?_
  refine sm_iload (Y := mX12_moveAt) (pc := 70) 5 6 rfl dX12_moveAt_70 ?_
  refine sm_iadd (Y := mX12_moveAt) (pc := 72) dX12_moveAt_72 ?_
  obtain ⟨hn_1, h⟩ := h
  refine sm_iWords (Y := mX12_moveAt) (pc := 73) hn_1 dX12_moveAt_73 ?_
  refine sm_icmp_ne (Y := mX12_moveAt) (pc := 74) 81 (by decide) dX12_moveAt_74 (fun hc => ?_) (fun hc => ?_)
  · replace h := h.1 hc
    refine sm_iconst (Y := mX12_moveAt) (pc := 81) 0 (by decide) dX12_moveAt_81 ?_
    refine sm_istore0 (Y := mX12_moveAt) (pc := 82) [(5, .int 0), (0, .ref (sm_B E + 109)), (1, .int x1), (2, .int x2), (3, .int x3), (4, .int x4), (6, .int x6)] 5 (by decide) rfl dX12_moveAt_82 ?_
    refine sm_iinc (Y := mX12_moveAt) (pc := 84) (fun y => [(6, .int y), (5, .int 0), (0, .ref (sm_B E + 109)), (1, .int x1), (2, .int x2), (3, .int x3), (4, .int x4)]) 6 6 rfl (by decide) (fun _ => rfl) dX12_moveAt_84 (fun x6_3 ex6_3 => ?_)
    replace h := h x6_3 ex6_3
    refine sm_goto (Y := mX12_moveAt) (pc := 87) 30 (by decide) dX12_moveAt_87 ?_
    refine sm_sub [2, 3, 4, 5, 6, 1, 0] rfl ?_
    exact h
  · replace h := h.2 hc
    refine sm_iconst (Y := mX12_moveAt) (pc := 77) 1 (by decide) dX12_moveAt_77 ?_
    refine sm_goto (Y := mX12_moveAt) (pc := 78) 82 (by decide) dX12_moveAt_78 ?_
    refine sm_istore0 (Y := mX12_moveAt) (pc := 82) [(5, .int 1), (0, .ref (sm_B E + 109)), (1, .int x1), (2, .int x2), (3, .int x3), (4, .int x4), (6, .int x6)] 5 (by decide) rfl dX12_moveAt_82 ?_
    refine sm_iinc (Y := mX12_moveAt) (pc := 84) (fun y => [(6, .int y), (5, .int 1), (0, .ref (sm_B E + 109)), (1, .int x1), (2, .int x2), (3, .int x3), (4, .int x4)]) 6 6 rfl (by decide) (fun _ => rfl) dX12_moveAt_84 (fun x6_5 ex6_5 => ?_)
    replace h := h x6_5 ex6_5
    refine sm_goto (Y := mX12_moveAt) (pc := 87) 30 (by decide) dX12_moveAt_87 ?_
    refine sm_sub [2, 3, 4, 5, 6, 1, 0] rfl ?_
    exact h
theorem dX12_moveAt_30 : decode cX12_moveAt 30 = .ok (.iload 6, 2) := dk_iload 6 (b := 6) (by decide +kernel) (by decide +kernel) (by decide +kernel)
theorem dX12_moveAt_32 : decode cX12_moveAt 32 = .ok (.bipush 7, 2) := dk_bipush 7 (b := 7) (by decide +kernel) (by decide +kernel) (by decide +kernel)
theorem dX12_moveAt_34 : decode cX12_moveAt 34 = .ok (.if_icmp .ge 56, 3) := dk_if_icmp_ge 56 (b1 := 0) (b2 := 56) (by decide +kernel) (by decide +kernel) (by decide +kernel) (by decide +kernel)
theorem dX12_moveAt_90 : decode cX12_moveAt 90 = .ok (.iload 5, 2) := dk_iload 5 (b := 5) (by decide +kernel) (by decide +kernel) (by decide +kernel)
theorem dX12_moveAt_92 : decode cX12_moveAt 92 = .ok (.ifCond .eq 8, 3) := dk_ifCond_eq 8 (b1 := 0) (b2 := 8) (by decide +kernel) (by decide +kernel) (by decide +kernel) (by decide +kernel)
theorem dX12_moveAt_100 : decode cX12_moveAt 100 = .ok (.iload_n 3, 1) := dk_iload_n_3 (by decide +kernel)
theorem dX12_moveAt_101 : decode cX12_moveAt 101 = .ok (.istore_n 3, 1) := dk_istore_n_3 (by decide +kernel)
theorem dX12_moveAt_102 : decode cX12_moveAt 102 = .ok (.iinc 4 1, 3) := dk_iinc 4 1 (b1 := 4) (b2 := 1) (by decide +kernel) (by decide +kernel) (by decide +kernel) (by decide +kernel) (by decide +kernel)
theorem dX12_moveAt_105 : decode cX12_moveAt 105 = .ok (.goto (-100), 3) := dk_goto (-100) (b1 := 255) (b2 := 156) (by decide +kernel) (by decide +kernel) (by decide +kernel) (by decide +kernel)
theorem dX12_moveAt_95 : decode cX12_moveAt 95 = .ok (.iload 4, 2) := dk_iload 4 (b := 4) (by decide +kernel) (by decide +kernel) (by decide +kernel)
theorem dX12_moveAt_97 : decode cX12_moveAt 97 = .ok (.goto 4, 3) := dk_goto 4 (b1 := 0) (b2 := 4) (by decide +kernel) (by decide +kernel) (by decide +kernel) (by decide +kernel)
theorem dX12_moveAt_37 : decode cX12_moveAt 37 = .ok (.iload 5, 2) := dk_iload 5 (b := 5) (by decide +kernel) (by decide +kernel) (by decide +kernel)
theorem dX12_moveAt_39 : decode cX12_moveAt 39 = .ok (.ifCond .eq 42, 3) := dk_ifCond_eq 42 (b1 := 0) (b2 := 42) (by decide +kernel) (by decide +kernel) (by decide +kernel) (by decide +kernel)
theorem dX12_moveAt_42 : decode cX12_moveAt 42 = .ok (.iload_n 1, 1) := dk_iload_n_1 (by decide +kernel)
theorem dX12_moveAt_43 : decode cX12_moveAt 43 = .ok (.iload 6, 2) := dk_iload 6 (b := 6) (by decide +kernel) (by decide +kernel) (by decide +kernel)
theorem dX12_moveAt_45 : decode cX12_moveAt 45 = .ok (.iadd, 1) := dk_iadd (by decide +kernel)
theorem dX12_moveAt_46 : decode cX12_moveAt 46 = .ok (.iload_n 2, 1) := dk_iload_n_2 (by decide +kernel)
theorem dX12_moveAt_47 : decode cX12_moveAt 47 = .ok (.if_icmp .ge 14, 3) := dk_if_icmp_ge 14 (b1 := 0) (b2 := 14) (by decide +kernel) (by decide +kernel) (by decide +kernel) (by decide +kernel)
theorem dX12_moveAt_61 : decode cX12_moveAt 61 = .ok (.iconst (-1), 1) := dk_iconst_m1 (by decide +kernel)
theorem dX12_moveAt_50 : decode cX12_moveAt 50 = .ok (.aload_n 0, 1) := dk_aload_n_0 (by decide +kernel)
theorem dX12_moveAt_51 : decode cX12_moveAt 51 = .ok (.iload_n 1, 1) := dk_iload_n_1 (by decide +kernel)
theorem dX12_moveAt_52 : decode cX12_moveAt 52 = .ok (.iload 6, 2) := dk_iload 6 (b := 6) (by decide +kernel) (by decide +kernel) (by decide +kernel)
theorem dX12_moveAt_54 : decode cX12_moveAt 54 = .ok (.iadd, 1) := dk_iadd (by decide +kernel)
theorem dX12_moveAt_55 : decode cX12_moveAt 55 = .ok (.invokevirtual 240, 3) := dk_invokevirtual 240 (b1 := 0) (b2 := 240) (by decide +kernel) (by decide +kernel) (by decide +kernel) (by decide +kernel)
theorem dX12_moveAt_58 : decode cX12_moveAt 58 = .ok (.goto 4, 3) := dk_goto 4 (b1 := 0) (b2 := 4) (by decide +kernel) (by decide +kernel) (by decide +kernel) (by decide +kernel)
set_option maxRecDepth 20000 in
theorem vX12_moveAt_30 {E : sm_E} {L : sm_S → Prop} {d : Nat} {vs : List Value} {x1 : Int32} {x2 : Int32} {x3 : Int32} {x4 : Int32} {x5 : Int32} {x6 : Int32}  {m : sm_M} {Q : Int32 → sm_M → Prop} (hly : ∀ S, L S → ly S) (hd : 2 ≤ d) 
  (h : (7 ≤ x6 →
      (x5 = 0 →
         ∀ x4_2 : Int32, x4_2 = x4 + 1 →
         gX12_moveAt_5 E L d vs x1 x2 x3 x4_2 m Q) ∧
      (¬ x5 = 0 →
         ∀ x4_4 : Int32, x4_4 = x4 + 1 →
         gX12_moveAt_5 E L d vs x1 x2 x4 x4_4 m Q)) ∧
   (¬ 7 ≤ x6 →
      (x5 = 0 →
         ∀ x6_6 : Int32, x6_6 = x6 + 1 →
         gX12_moveAt_30 E L d vs x1 x2 x3 x4 0 x6_6 m Q) ∧
      (¬ x5 = 0 →
         (x2 ≤ (x1 + x6) →
            gX12_moveAt_62 E L d vs x1 x2 x3 x4 x6 (-1) m Q) ∧
         (¬ x2 ≤ (x1 + x6) →
            sm_callI E L mX12_byteAt 1 0 0 [.ref (sm_B E + 109), .int (x1 + x6)] m (fun r_8 m_7 =>
            gX12_moveAt_62 E L d vs x1 x2 x3 x4 x6 r_8 m_7 Q))))) :
  gX12_moveAt_30 E L d vs x1 x2 x3 x4 x5 x6 m Q := by
  refine sm_iload (Y := mX12_moveAt) (pc := 30) 6 6 rfl dX12_moveAt_30 ?_
  refine sm_bipush (Y := mX12_moveAt) (pc := 32) 7 (by decide) dX12_moveAt_32 ?_
  refine sm_icmp_ge (Y := mX12_moveAt) (pc := 34) 90 (by decide) dX12_moveAt_34 (fun hc => ?_) (fun hc => ?_)
  · replace h := h.1 hc
    refine sm_iload (Y := mX12_moveAt) (pc := 90) 5 5 rfl dX12_moveAt_90 ?_
    refine sm_if_eq (Y := mX12_moveAt) (pc := 92) 100 (by decide) dX12_moveAt_92 (fun hc => ?_) (fun hc => ?_)
    · replace h := h.1 hc
      refine sm_iload_n (Y := mX12_moveAt) (pc := 100) 3 3 rfl rfl dX12_moveAt_100 ?_
      refine sm_istore0_n (Y := mX12_moveAt) (pc := 101) [(3, .int x3), (0, .ref (sm_B E + 109)), (1, .int x1), (2, .int x2), (4, .int x4), (5, .int x5), (6, .int x6)] 3 rfl (by decide) rfl dX12_moveAt_101 ?_
      refine sm_iinc (Y := mX12_moveAt) (pc := 102) (fun y => [(4, .int y), (3, .int x3), (0, .ref (sm_B E + 109)), (1, .int x1), (2, .int x2), (5, .int x5), (6, .int x6)]) 4 4 rfl (by decide) (fun _ => rfl) dX12_moveAt_102 (fun x4_2 ex4_2 => ?_)
      replace h := h x4_2 ex4_2
      refine sm_goto (Y := mX12_moveAt) (pc := 105) 5 (by decide) dX12_moveAt_105 ?_
      refine sm_sub [2, 3, 4, 1, 0] rfl ?_
      exact h
    · replace h := h.2 hc
      refine sm_iload (Y := mX12_moveAt) (pc := 95) 4 4 rfl dX12_moveAt_95 ?_
      refine sm_goto (Y := mX12_moveAt) (pc := 97) 101 (by decide) dX12_moveAt_97 ?_
      refine sm_istore0_n (Y := mX12_moveAt) (pc := 101) [(3, .int x4), (0, .ref (sm_B E + 109)), (1, .int x1), (2, .int x2), (4, .int x4), (5, .int x5), (6, .int x6)] 3 rfl (by decide) rfl dX12_moveAt_101 ?_
      refine sm_iinc (Y := mX12_moveAt) (pc := 102) (fun y => [(4, .int y), (3, .int x4), (0, .ref (sm_B E + 109)), (1, .int x1), (2, .int x2), (5, .int x5), (6, .int x6)]) 4 4 rfl (by decide) (fun _ => rfl) dX12_moveAt_102 (fun x4_4 ex4_4 => ?_)
      replace h := h x4_4 ex4_4
      refine sm_goto (Y := mX12_moveAt) (pc := 105) 5 (by decide) dX12_moveAt_105 ?_
      refine sm_sub [2, 3, 4, 1, 0] rfl ?_
      exact h
  · replace h := h.2 hc
    refine sm_iload (Y := mX12_moveAt) (pc := 37) 5 5 rfl dX12_moveAt_37 ?_
    refine sm_if_eq (Y := mX12_moveAt) (pc := 39) 81 (by decide) dX12_moveAt_39 (fun hc => ?_) (fun hc => ?_)
    · replace h := h.1 hc
      refine sm_iconst (Y := mX12_moveAt) (pc := 81) 0 (by decide) dX12_moveAt_81 ?_
      refine sm_istore0 (Y := mX12_moveAt) (pc := 82) [(5, .int 0), (0, .ref (sm_B E + 109)), (1, .int x1), (2, .int x2), (3, .int x3), (4, .int x4), (6, .int x6)] 5 (by decide) rfl dX12_moveAt_82 ?_
      refine sm_iinc (Y := mX12_moveAt) (pc := 84) (fun y => [(6, .int y), (5, .int 0), (0, .ref (sm_B E + 109)), (1, .int x1), (2, .int x2), (3, .int x3), (4, .int x4)]) 6 6 rfl (by decide) (fun _ => rfl) dX12_moveAt_84 (fun x6_6 ex6_6 => ?_)
      replace h := h x6_6 ex6_6
      refine sm_goto (Y := mX12_moveAt) (pc := 87) 30 (by decide) dX12_moveAt_87 ?_
      refine sm_sub [2, 3, 4, 5, 6, 1, 0] rfl ?_
      exact h
    · replace h := h.2 hc
      refine sm_iload_n (Y := mX12_moveAt) (pc := 42) 1 1 rfl rfl dX12_moveAt_42 ?_
      refine sm_iload (Y := mX12_moveAt) (pc := 43) 6 6 rfl dX12_moveAt_43 ?_
      refine sm_iadd (Y := mX12_moveAt) (pc := 45) dX12_moveAt_45 ?_
      refine sm_iload_n (Y := mX12_moveAt) (pc := 46) 2 2 rfl rfl dX12_moveAt_46 ?_
      refine sm_icmp_ge (Y := mX12_moveAt) (pc := 47) 61 (by decide) dX12_moveAt_47 (fun hc => ?_) (fun hc => ?_)
      · replace h := h.1 hc
        refine sm_iconst (Y := mX12_moveAt) (pc := 61) (-1) (by decide) dX12_moveAt_61 ?_
        refine sm_sub [0, 1, 2, 3, 4, 6] rfl ?_
        exact h
      · replace h := h.2 hc
        refine sm_aload_n (Y := mX12_moveAt) (pc := 50) 0 0 rfl rfl dX12_moveAt_50 ?_
        refine sm_iload_n (Y := mX12_moveAt) (pc := 51) 1 1 rfl rfl dX12_moveAt_51 ?_
        refine sm_iload (Y := mX12_moveAt) (pc := 52) 6 6 rfl dX12_moveAt_52 ?_
        refine sm_iadd (Y := mX12_moveAt) (pc := 54) dX12_moveAt_54 ?_
        refine sm_iv_I (Y := mX12_moveAt) (pc := 55) (As := [.int (x1 + x6)]) (a := 109) fX12_byteAt wRX12_240 (lk_109 hly) (by decide) rfl rfl rfl (Nat.le_trans (by decide) hd) (Nat.le_of_ble_eq_true rfl) ⟨Nat.le_refl _, Nat.le_refl _⟩ dX12_moveAt_55 rfl (sm_monoI h (fun r_8 m_7 h => ?_))
        refine sm_goto (Y := mX12_moveAt) (pc := 58) 62 (by decide) dX12_moveAt_58 ?_
        refine sm_sub [0, 1, 2, 3, 4, 6] rfl ?_
        exact h
theorem dX12_moveAt_5 : decode cX12_moveAt 5 = .ok (.iload 4, 2) := dk_iload 4 (b := 4) (by decide +kernel) (by decide +kernel) (by decide +kernel)
theorem dX12_moveAt_7 : decode cX12_moveAt 7 = .ok (.bipush 6, 2) := dk_bipush 6 (b := 6) (by decide +kernel) (by decide +kernel) (by decide +kernel)
theorem dX12_moveAt_9 : decode cX12_moveAt 9 = .ok (.if_icmp .ge 99, 3) := dk_if_icmp_ge 99 (b1 := 0) (b2 := 99) (by decide +kernel) (by decide +kernel) (by decide +kernel) (by decide +kernel)
theorem dX12_moveAt_108 : decode cX12_moveAt 108 = .ok (.iload_n 3, 1) := dk_iload_n_3 (by decide +kernel)
theorem dX12_moveAt_109 : decode cX12_moveAt 109 = .ok (.ireturn, 1) := dk_ireturn (by decide +kernel)
theorem dX12_moveAt_12 : decode cX12_moveAt 12 = .ok (.iload_n 2, 1) := dk_iload_n_2 (by decide +kernel)
theorem dX12_moveAt_13 : decode cX12_moveAt 13 = .ok (.iload_n 1, 1) := dk_iload_n_1 (by decide +kernel)
theorem dX12_moveAt_14 : decode cX12_moveAt 14 = .ok (.isub, 1) := dk_isub (by decide +kernel)
theorem dX12_moveAt_15 : decode cX12_moveAt 15 = .ok (.bipush 7, 2) := dk_bipush 7 (b := 7) (by decide +kernel) (by decide +kernel) (by decide +kernel)
theorem dX12_moveAt_17 : decode cX12_moveAt 17 = .ok (.if_icmp .gt 7, 3) := dk_if_icmp_gt 7 (b1 := 0) (b2 := 7) (by decide +kernel) (by decide +kernel) (by decide +kernel) (by decide +kernel)
theorem dX12_moveAt_24 : decode cX12_moveAt 24 = .ok (.iconst 0, 1) := dk_iconst_0 (by decide +kernel)
theorem dX12_moveAt_25 : decode cX12_moveAt 25 = .ok (.istore 5, 2) := dk_istore 5 (b := 5) (by decide +kernel) (by decide +kernel) (by decide +kernel)
theorem dX12_moveAt_27 : decode cX12_moveAt 27 = .ok (.iconst 0, 1) := dk_iconst_0 (by decide +kernel)
theorem dX12_moveAt_28 : decode cX12_moveAt 28 = .ok (.istore 6, 2) := dk_istore 6 (b := 6) (by decide +kernel) (by decide +kernel) (by decide +kernel)
theorem dX12_moveAt_20 : decode cX12_moveAt 20 = .ok (.iconst 1, 1) := dk_iconst_1 (by decide +kernel)
theorem dX12_moveAt_21 : decode cX12_moveAt 21 = .ok (.goto 4, 3) := dk_goto 4 (b1 := 0) (b2 := 4) (by decide +kernel) (by decide +kernel) (by decide +kernel) (by decide +kernel)
set_option maxRecDepth 20000 in
theorem vX12_moveAt_5 {E : sm_E} {L : sm_S → Prop} {d : Nat} {vs : List Value} {x1 : Int32} {x2 : Int32} {x3 : Int32} {x4 : Int32}  {m : sm_M} {Q : Int32 → sm_M → Prop}  (hd : 2 ≤ d) 
  (h : (6 ≤ x4 →
      Q x3 m) ∧
   (¬ 6 ≤ x4 →
      (7 < (x2 - x1) →
         gX12_moveAt_30 E L d vs x1 x2 x3 x4 0 0 m Q) ∧
      (¬ 7 < (x2 - x1) →
         gX12_moveAt_30 E L d vs x1 x2 x3 x4 1 0 m Q))) :
  gX12_moveAt_5 E L d vs x1 x2 x3 x4 m Q := by
  refine sm_iload (Y := mX12_moveAt) (pc := 5) 4 4 rfl dX12_moveAt_5 ?_
  refine sm_bipush (Y := mX12_moveAt) (pc := 7) 6 (by decide) dX12_moveAt_7 ?_
  refine sm_icmp_ge (Y := mX12_moveAt) (pc := 9) 108 (by decide) dX12_moveAt_9 (fun hc => ?_) (fun hc => ?_)
  · replace h := h.1 hc
    refine sm_iload_n (Y := mX12_moveAt) (pc := 108) 3 3 rfl rfl dX12_moveAt_108 ?_
    exact sm_iret (Y := mX12_moveAt) (pc := 109) rfl rfl rfl dX12_moveAt_109 ⟨_, rfl, h⟩
  · replace h := h.2 hc
    refine sm_iload_n (Y := mX12_moveAt) (pc := 12) 2 2 rfl rfl dX12_moveAt_12 ?_
    refine sm_iload_n (Y := mX12_moveAt) (pc := 13) 1 1 rfl rfl dX12_moveAt_13 ?_
    refine sm_isub (Y := mX12_moveAt) (pc := 14) dX12_moveAt_14 ?_
    refine sm_bipush (Y := mX12_moveAt) (pc := 15) 7 (by decide) dX12_moveAt_15 ?_
    refine sm_icmp_gt (Y := mX12_moveAt) (pc := 17) 24 (by decide) dX12_moveAt_17 (fun hc => ?_) (fun hc => ?_)
    · replace h := h.1 hc
      refine sm_iconst (Y := mX12_moveAt) (pc := 24) 0 (by decide) dX12_moveAt_24 ?_
      refine sm_istore0 (Y := mX12_moveAt) (pc := 25) [(5, .int 0), (0, .ref (sm_B E + 109)), (1, .int x1), (2, .int x2), (3, .int x3), (4, .int x4)] 5 (by decide) rfl dX12_moveAt_25 ?_
      refine sm_iconst (Y := mX12_moveAt) (pc := 27) 0 (by decide) dX12_moveAt_27 ?_
      refine sm_istore0 (Y := mX12_moveAt) (pc := 28) [(6, .int 0), (5, .int 0), (0, .ref (sm_B E + 109)), (1, .int x1), (2, .int x2), (3, .int x3), (4, .int x4)] 6 (by decide) rfl dX12_moveAt_28 ?_
      refine sm_sub [2, 3, 4, 5, 6, 1, 0] rfl ?_
      exact h
    · replace h := h.2 hc
      refine sm_iconst (Y := mX12_moveAt) (pc := 20) 1 (by decide) dX12_moveAt_20 ?_
      refine sm_goto (Y := mX12_moveAt) (pc := 21) 25 (by decide) dX12_moveAt_21 ?_
      refine sm_istore0 (Y := mX12_moveAt) (pc := 25) [(5, .int 1), (0, .ref (sm_B E + 109)), (1, .int x1), (2, .int x2), (3, .int x3), (4, .int x4)] 5 (by decide) rfl dX12_moveAt_25 ?_
      refine sm_iconst (Y := mX12_moveAt) (pc := 27) 0 (by decide) dX12_moveAt_27 ?_
      refine sm_istore0 (Y := mX12_moveAt) (pc := 28) [(6, .int 0), (5, .int 1), (0, .ref (sm_B E + 109)), (1, .int x1), (2, .int x2), (3, .int x3), (4, .int x4)] 6 (by decide) rfl dX12_moveAt_28 ?_
      refine sm_sub [2, 3, 4, 5, 6, 1, 0] rfl ?_
      exact h
theorem dX12_moveAt_0 : decode cX12_moveAt 0 = .ok (.iconst (-1), 1) := dk_iconst_m1 (by decide +kernel)
theorem dX12_moveAt_1 : decode cX12_moveAt 1 = .ok (.istore_n 3, 1) := dk_istore_n_3 (by decide +kernel)
theorem dX12_moveAt_2 : decode cX12_moveAt 2 = .ok (.iconst 0, 1) := dk_iconst_0 (by decide +kernel)
theorem dX12_moveAt_3 : decode cX12_moveAt 3 = .ok (.istore 4, 2) := dk_istore 4 (b := 4) (by decide +kernel) (by decide +kernel) (by decide +kernel)
set_option maxRecDepth 20000 in
theorem vX12_moveAt_0 {E : sm_E} {L : sm_S → Prop} {d : Nat} {x1 : Int32} {x2 : Int32}  {m : sm_M} {Q : Int32 → sm_M → Prop}  (hd : 2 ≤ d) 
  (h : gX12_moveAt_5 E L d ([.ref (sm_B E + 109), .int x1, .int x2]) x1 x2 (-1) 0 m Q) :
  sm_callI E L mX12_moveAt d 0 0 [.ref (sm_B E + 109), .int x1, .int x2] m Q := by
  refine sm_enter (by decide +kernel) (by simp [lg_sl, Value.category]) ?_
  refine sm_iconst (Y := mX12_moveAt) (pc := 0) (-1) (by decide) dX12_moveAt_0 ?_
  refine sm_istore0_n (Y := mX12_moveAt) (pc := 1) [(3, .int (-1)), (0, .ref (sm_B E + 109)), (1, .int x1), (2, .int x2)] 3 rfl (by decide) rfl dX12_moveAt_1 ?_
  refine sm_iconst (Y := mX12_moveAt) (pc := 2) 0 (by decide) dX12_moveAt_2 ?_
  refine sm_istore0 (Y := mX12_moveAt) (pc := 3) [(4, .int 0), (3, .int (-1)), (0, .ref (sm_B E + 109)), (1, .int x1), (2, .int x2)] 4 (by decide) rfl dX12_moveAt_3 ?_
  refine sm_sub [2, 3, 4, 1, 0] rfl ?_
  exact h
abbrev mX12_moves : sm_Y := (yX12_moves, cX12_moves, 7, (some FieldType.int))
theorem fX12_moves : sm_mi mX12_moves RX12 1 := ⟨sm_in 1476 (by decide +kernel) (by decide +kernel), sm_in 1474 (by decide +kernel) (by decide +kernel), sm_in 1475 (by decide +kernel) (by decide +kernel), sm_in 93 (by decide +kernel) (by decide +kernel), rfl, ⟨by decide +kernel, by decide +kernel, by decide +kernel⟩, by decide⟩
def gX12_moves_134 (E : sm_E) (L : sm_S → Prop) (d : Nat) (vs : List Value) (x1 : Int32) (x2 : Int32) (x3 : Int32) (x5 : Int32) (x6 : Int32) (m : sm_M) (Q : Int32 → sm_M → Prop) : Prop := sm_go E L mX12_moves d 0 0 vs 134 [(0, .ref (sm_B E + 109)), (1, .int x1), (2, .int x2), (3, .int x3), (5, .int x5), (6, .int x6)] [] m 0 0 (sm_Z E L vs 0 0 (sm_QI Q))
def gX12_moves_106 (E : sm_E) (L : sm_S → Prop) (d : Nat) (vs : List Value) (x1 : Int32) (x2 : Int32) (x3 : Int32) (x4 : Int32) (x5 : Int32) (s0 : Int32) (m : sm_M) (Q : Int32 → sm_M → Prop) : Prop := sm_go E L mX12_moves d 0 0 vs 106 [(0, .ref (sm_B E + 109)), (1, .int x1), (2, .int x2), (3, .int x3), (4, .int x4), (5, .int x5)] [.int s0] m 0 0 (sm_Z E L vs 0 0 (sm_QI Q))
def gX12_moves_61 (E : sm_E) (L : sm_S → Prop) (d : Nat) (vs : List Value) (x1 : Int32) (x2 : Int32) (x3 : Int32) (x4 : Int32) (x5 : Int32) (m : sm_M) (Q : Int32 → sm_M → Prop) : Prop := sm_go E L mX12_moves d 0 0 vs 61 [(0, .ref (sm_B E + 109)), (1, .int x1), (2, .int x2), (3, .int x3), (4, .int x4), (5, .int x5)] [] m 0 0 (sm_Z E L vs 0 0 (sm_QI Q))
def gX12_moves_48 (E : sm_E) (L : sm_S → Prop) (d : Nat) (vs : List Value) (x1 : Int32) (x2 : Int32) (x3 : Int32) (x4 : Int32) (m : sm_M) (Q : Int32 → sm_M → Prop) : Prop := sm_go E L mX12_moves d 0 0 vs 48 [(0, .ref (sm_B E + 109)), (1, .int x1), (2, .int x2), (3, .int x3), (4, .int x4)] [] m 0 0 (sm_Z E L vs 0 0 (sm_QI Q))
def gX12_moves_28 (E : sm_E) (L : sm_S → Prop) (d : Nat) (vs : List Value) (x1 : Int32) (x2 : Int32) (m : sm_M) (Q : Int32 → sm_M → Prop) : Prop := sm_go E L mX12_moves d 0 0 vs 28 [(0, .ref (sm_B E + 109)), (1, .int x1), (2, .int x2)] [] m 0 0 (sm_Z E L vs 0 0 (sm_QI Q))
theorem dX12_moves_134 : decode cX12_moves 134 = .ok (.iload 6, 2) := dk_iload 6 (b := 6) (by decide +kernel) (by decide +kernel) (by decide +kernel)
theorem dX12_moves_136 : decode cX12_moves 136 = .ok (.ifCond .lt 27, 3) := dk_ifCond_lt 27 (b1 := 0) (b2 := 27) (by decide +kernel) (by decide +kernel) (by decide +kernel) (by decide +kernel)
theorem dX12_moves_163 : decode cX12_moves 163 = .ok (.iload 5, 2) := dk_iload 5 (b := 5) (by decide +kernel) (by decide +kernel) (by decide +kernel)
theorem dX12_moves_165 : decode cX12_moves 165 = .ok (.iconst 1, 1) := dk_iconst_1 (by decide +kernel)
theorem dX12_moves_166 : decode cX12_moves 166 = .ok (.iadd, 1) := dk_iadd (by decide +kernel)
theorem dX12_moves_167 : decode cX12_moves 167 = .ok (.istore 4, 2) := dk_istore 4 (b := 4) (by decide +kernel) (by decide +kernel) (by decide +kernel)
theorem dX12_moves_169 : decode cX12_moves 169 = .ok (.goto (-121), 3) := dk_goto (-121) (b1 := 255) (b2 := 135) (by decide +kernel) (by decide +kernel) (by decide +kernel) (by decide +kernel)
theorem dX12_moves_139 : decode cX12_moves 139 = .ok (.iload_n 2, 1) := dk_iload_n_2 (by decide +kernel)
theorem dX12_moves_140 : decode cX12_moves 140 = .ok (.iconst 1, 1) := dk_iconst_1 (by decide +kernel)
theorem dX12_moves_141 : decode cX12_moves 141 = .ok (.if_icmp .ne 22, 3) := dk_if_icmp_ne 22 (b1 := 0) (b2 := 22) (by decide +kernel) (by decide +kernel) (by decide +kernel) (by decide +kernel)
theorem dX12_moves_144 : decode cX12_moves 144 = .ok (.aload_n 0, 1) := dk_aload_n_0 (by decide +kernel)
theorem dX12_moves_145 : decode cX12_moves 145 = .ok (.iload 6, 2) := dk_iload 6 (b := 6) (by decide +kernel) (by decide +kernel) (by decide +kernel)
theorem dX12_moves_147 : decode cX12_moves 147 = .ok (.invokevirtual 226, 3) := dk_invokevirtual 226 (b1 := 0) (b2 := 226) (by decide +kernel) (by decide +kernel) (by decide +kernel) (by decide +kernel)
theorem dX12_moves_150 : decode cX12_moves 150 = .ok (.aload_n 0, 1) := dk_aload_n_0 (by decide +kernel)
theorem dX12_moves_151 : decode cX12_moves 151 = .ok (.invokevirtual 220, 3) := dk_invokevirtual 220 (b1 := 0) (b2 := 220) (by decide +kernel) (by decide +kernel) (by decide +kernel) (by decide +kernel)
theorem dX12_moves_154 : decode cX12_moves 154 = .ok (.ifCond .eq 9, 3) := dk_ifCond_eq 9 (b1 := 0) (b2 := 9) (by decide +kernel) (by decide +kernel) (by decide +kernel) (by decide +kernel)
theorem dX12_moves_157 : decode cX12_moves 157 = .ok (.aload_n 0, 1) := dk_aload_n_0 (by decide +kernel)
theorem dX12_moves_158 : decode cX12_moves 158 = .ok (.iconst 4, 1) := dk_iconst_4 (by decide +kernel)
theorem dX12_moves_159 : decode cX12_moves 159 = .ok (.invokevirtual 194, 3) := dk_invokevirtual 194 (b1 := 0) (b2 := 194) (by decide +kernel) (by decide +kernel) (by decide +kernel) (by decide +kernel)
theorem dX12_moves_162 : decode cX12_moves 162 = .ok (.ireturn, 1) := dk_ireturn (by decide +kernel)
set_option maxRecDepth 20000 in
theorem vX12_moves_134 {E : sm_E} {L : sm_S → Prop} {d : Nat} {vs : List Value} {x1 : Int32} {x2 : Int32} {x3 : Int32} {x5 : Int32} {x6 : Int32}  {m : sm_M} {Q : Int32 → sm_M → Prop} (hly : ∀ S, L S → ly S) (hd : 5 ≤ d) 
  (h : (x6 < 0 →
      ∀ x4_1 : Int32, x4_1 = x5 + 1 →
      gX12_moves_48 E L d vs x1 x2 x3 x4_1 m Q) ∧
   (¬ x6 < 0 →
      (¬ x2 = 1 →
         ∀ x4_2 : Int32, x4_2 = x5 + 1 →
         gX12_moves_48 E L d vs x1 x2 x3 x4_2 m Q) ∧
      (x2 = 1 →
         sm_callV E L mX12_putsMove 2 0 0 [.ref (sm_B E + 109), .int x6] m (fun m_3 =>
         sm_callI E L mX12_isTooMuch 3 0 0 [.ref (sm_B E + 109)] m_3 (fun r_5 m_4 =>
         (r_5 = 0 →
            ∀ x4_6 : Int32, x4_6 = x5 + 1 →
            gX12_moves_48 E L d vs x1 x2 x3 x4_6 m_4 Q) ∧
         (¬ r_5 = 0 →
            sm_callI E L mX12_finds 1 0 0 [.ref (sm_B E + 109), .int 4] m_4 (fun r_8 m_7 =>
            Q r_8 m_7))))))) :
  gX12_moves_134 E L d vs x1 x2 x3 x5 x6 m Q := by
  refine sm_iload (Y := mX12_moves) (pc := 134) 5 6 rfl dX12_moves_134 ?_
  refine sm_if_lt (Y := mX12_moves) (pc := 136) 163 (by decide) dX12_moves_136 (fun hc => ?_) (fun hc => ?_)
  · replace h := h.1 hc
    refine sm_iload (Y := mX12_moves) (pc := 163) 4 5 rfl dX12_moves_163 ?_
    refine sm_iconst (Y := mX12_moves) (pc := 165) 1 (by decide) dX12_moves_165 ?_
    refine sm_iadd (Y := mX12_moves) (pc := 166) dX12_moves_166 ?_
    refine sm_istore (Y := mX12_moves) (pc := 167) (fun y => [(4, .int y), (0, .ref (sm_B E + 109)), (1, .int x1), (2, .int x2), (3, .int x3), (5, .int x5), (6, .int x6)]) 4 (by decide) (fun _ => rfl) dX12_moves_167 (fun x4_1 ex4_1 => ?_)
    replace h := h x4_1 ex4_1
    refine sm_goto (Y := mX12_moves) (pc := 169) 48 (by decide) dX12_moves_169 ?_
    refine sm_sub [1, 2, 3, 4, 0] rfl ?_
    exact h
  · replace h := h.2 hc
    refine sm_iload_n (Y := mX12_moves) (pc := 139) 2 2 rfl rfl dX12_moves_139 ?_
    refine sm_iconst (Y := mX12_moves) (pc := 140) 1 (by decide) dX12_moves_140 ?_
    refine sm_icmp_ne (Y := mX12_moves) (pc := 141) 163 (by decide) dX12_moves_141 (fun hc => ?_) (fun hc => ?_)
    · replace h := h.1 hc
      refine sm_iload (Y := mX12_moves) (pc := 163) 4 5 rfl dX12_moves_163 ?_
      refine sm_iconst (Y := mX12_moves) (pc := 165) 1 (by decide) dX12_moves_165 ?_
      refine sm_iadd (Y := mX12_moves) (pc := 166) dX12_moves_166 ?_
      refine sm_istore (Y := mX12_moves) (pc := 167) (fun y => [(4, .int y), (0, .ref (sm_B E + 109)), (1, .int x1), (2, .int x2), (3, .int x3), (5, .int x5), (6, .int x6)]) 4 (by decide) (fun _ => rfl) dX12_moves_167 (fun x4_2 ex4_2 => ?_)
      replace h := h x4_2 ex4_2
      refine sm_goto (Y := mX12_moves) (pc := 169) 48 (by decide) dX12_moves_169 ?_
      refine sm_sub [1, 2, 3, 4, 0] rfl ?_
      exact h
    · replace h := h.2 hc
      refine sm_aload_n (Y := mX12_moves) (pc := 144) 0 0 rfl rfl dX12_moves_144 ?_
      refine sm_iload (Y := mX12_moves) (pc := 145) 5 6 rfl dX12_moves_145 ?_
      refine sm_iv_V (Y := mX12_moves) (pc := 147) (As := [.int x6]) (a := 109) fX12_putsMove wRX12_226 (lk_109 hly) (by decide) rfl rfl rfl (Nat.le_trans (by decide) hd) (Nat.le_of_ble_eq_true rfl) ⟨Nat.le_refl _, Nat.le_refl _⟩ dX12_moves_147 rfl (sm_monoV h (fun m_3 h => ?_))
      refine sm_aload_n (Y := mX12_moves) (pc := 150) 0 0 rfl rfl dX12_moves_150 ?_
      refine sm_iv_I (Y := mX12_moves) (pc := 151) (As := []) (a := 109) fX12_isTooMuch wRX12_220 (lk_109 hly) (by decide) rfl rfl rfl (Nat.le_trans (by decide) hd) (Nat.le_of_ble_eq_true rfl) ⟨Nat.le_refl _, Nat.le_refl _⟩ dX12_moves_151 rfl (sm_monoI h (fun r_5 m_4 h => ?_))
      refine sm_if_eq (Y := mX12_moves) (pc := 154) 163 (by decide) dX12_moves_154 (fun hc => ?_) (fun hc => ?_)
      · replace h := h.1 hc
        refine sm_iload (Y := mX12_moves) (pc := 163) 4 5 rfl dX12_moves_163 ?_
        refine sm_iconst (Y := mX12_moves) (pc := 165) 1 (by decide) dX12_moves_165 ?_
        refine sm_iadd (Y := mX12_moves) (pc := 166) dX12_moves_166 ?_
        refine sm_istore (Y := mX12_moves) (pc := 167) (fun y => [(4, .int y), (0, .ref (sm_B E + 109)), (1, .int x1), (2, .int x2), (3, .int x3), (5, .int x5), (6, .int x6)]) 4 (by decide) (fun _ => rfl) dX12_moves_167 (fun x4_6 ex4_6 => ?_)
        replace h := h x4_6 ex4_6
        refine sm_goto (Y := mX12_moves) (pc := 169) 48 (by decide) dX12_moves_169 ?_
        refine sm_sub [1, 2, 3, 4, 0] rfl ?_
        exact h
      · replace h := h.2 hc
        refine sm_aload_n (Y := mX12_moves) (pc := 157) 0 0 rfl rfl dX12_moves_157 ?_
        refine sm_iconst (Y := mX12_moves) (pc := 158) 4 (by decide) dX12_moves_158 ?_
        refine sm_iv_I (Y := mX12_moves) (pc := 159) (As := [.int 4]) (a := 109) fX12_finds wRX12_194 (lk_109 hly) (by decide) rfl rfl rfl (Nat.le_trans (by decide) hd) (Nat.le_of_ble_eq_true rfl) ⟨Nat.le_refl _, Nat.le_refl _⟩ dX12_moves_159 rfl (sm_monoI h (fun r_8 m_7 h => ?_))
        exact sm_iret (Y := mX12_moves) (pc := 162) rfl rfl rfl dX12_moves_162 ⟨_, rfl, h⟩
theorem dX12_moves_106 : decode cX12_moves 106 = .ok (.istore 6, 2) := dk_istore 6 (b := 6) (by decide +kernel) (by decide +kernel) (by decide +kernel)
theorem dX12_moves_108 : decode cX12_moves 108 = .ok (.iload 5, 2) := dk_iload 5 (b := 5) (by decide +kernel) (by decide +kernel) (by decide +kernel)
theorem dX12_moves_110 : decode cX12_moves 110 = .ok (.iload 4, 2) := dk_iload 4 (b := 4) (by decide +kernel) (by decide +kernel) (by decide +kernel)
theorem dX12_moves_112 : decode cX12_moves 112 = .ok (.if_icmp .le 14, 3) := dk_if_icmp_le 14 (b1 := 0) (b2 := 14) (by decide +kernel) (by decide +kernel) (by decide +kernel) (by decide +kernel)
theorem dX12_moves_126 : decode cX12_moves 126 = .ok (.iload 6, 2) := dk_iload 6 (b := 6) (by decide +kernel) (by decide +kernel) (by decide +kernel)
theorem dX12_moves_128 : decode cX12_moves 128 = .ok (.ifCond .lt 6, 3) := dk_ifCond_lt 6 (b1 := 0) (b2 := 6) (by decide +kernel) (by decide +kernel) (by decide +kernel) (by decide +kernel)
theorem dX12_moves_131 : decode cX12_moves 131 = .ok (.iinc 3 1, 3) := dk_iinc 3 1 (b1 := 3) (b2 := 1) (by decide +kernel) (by decide +kernel) (by decide +kernel) (by decide +kernel) (by decide +kernel)
theorem dX12_moves_115 : decode cX12_moves 115 = .ok (.iload 6, 2) := dk_iload 6 (b := 6) (by decide +kernel) (by decide +kernel) (by decide +kernel)
theorem dX12_moves_117 : decode cX12_moves 117 = .ok (.ifCond .ge 9, 3) := dk_ifCond_ge 9 (b1 := 0) (b2 := 9) (by decide +kernel) (by decide +kernel) (by decide +kernel) (by decide +kernel)
theorem dX12_moves_120 : decode cX12_moves 120 = .ok (.bipush (-10), 2) := dk_bipush (-10) (b := 246) (by decide +kernel) (by decide +kernel) (by decide +kernel)
theorem dX12_moves_122 : decode cX12_moves 122 = .ok (.iload 4, 2) := dk_iload 4 (b := 4) (by decide +kernel) (by decide +kernel) (by decide +kernel)
theorem dX12_moves_124 : decode cX12_moves 124 = .ok (.isub, 1) := dk_isub (by decide +kernel)
theorem dX12_moves_125 : decode cX12_moves 125 = .ok (.ireturn, 1) := dk_ireturn (by decide +kernel)
set_option maxRecDepth 20000 in
theorem vX12_moves_106 {E : sm_E} {L : sm_S → Prop} {d : Nat} {vs : List Value} {x1 : Int32} {x2 : Int32} {x3 : Int32} {x4 : Int32} {x5 : Int32} {s0 : Int32}  {m : sm_M} {Q : Int32 → sm_M → Prop}  (hd : 5 ≤ d) 
  (h : (x5 ≤ x4 →
      (s0 < 0 →
         gX12_moves_134 E L d vs x1 x2 x3 x5 s0 m Q) ∧
      (¬ s0 < 0 →
         ∀ x3_2 : Int32, x3_2 = x3 + 1 →
         gX12_moves_134 E L d vs x1 x2 x3_2 x5 s0 m Q)) ∧
   (¬ x5 ≤ x4 →
      (0 ≤ s0 →
         (s0 < 0 →
            gX12_moves_134 E L d vs x1 x2 x3 x5 s0 m Q) ∧
         (¬ s0 < 0 →
            ∀ x3_3 : Int32, x3_3 = x3 + 1 →
            gX12_moves_134 E L d vs x1 x2 x3_3 x5 s0 m Q)) ∧
      (¬ 0 ≤ s0 →
         Q ((-10 : Int32) - x4) m))) :
  gX12_moves_106 E L d vs x1 x2 x3 x4 x5 s0 m Q := by
  refine sm_istore0 (Y := mX12_moves) (pc := 106) [(6, .int s0), (0, .ref (sm_B E + 109)), (1, .int x1), (2, .int x2), (3, .int x3), (4, .int x4), (5, .int x5)] 6 (by decide) rfl dX12_moves_106 ?_
  refine sm_iload (Y := mX12_moves) (pc := 108) 6 5 rfl dX12_moves_108 ?_
  refine sm_iload (Y := mX12_moves) (pc := 110) 5 4 rfl dX12_moves_110 ?_
  refine sm_icmp_le (Y := mX12_moves) (pc := 112) 126 (by decide) dX12_moves_112 (fun hc => ?_) (fun hc => ?_)
  · replace h := h.1 hc
    refine sm_iload (Y := mX12_moves) (pc := 126) 0 6 rfl dX12_moves_126 ?_
    refine sm_if_lt (Y := mX12_moves) (pc := 128) 134 (by decide) dX12_moves_128 (fun hc => ?_) (fun hc => ?_)
    · replace h := h.1 hc
      refine sm_sub [1, 2, 3, 4, 6, 0] rfl ?_
      exact h
    · replace h := h.2 hc
      refine sm_iinc (Y := mX12_moves) (pc := 131) (fun y => [(3, .int y), (6, .int s0), (0, .ref (sm_B E + 109)), (1, .int x1), (2, .int x2), (4, .int x4), (5, .int x5)]) 4 3 rfl (by decide) (fun _ => rfl) dX12_moves_131 (fun x3_2 ex3_2 => ?_)
      replace h := h x3_2 ex3_2
      refine sm_sub [2, 3, 4, 0, 6, 1] rfl ?_
      exact h
  · replace h := h.2 hc
    refine sm_iload (Y := mX12_moves) (pc := 115) 0 6 rfl dX12_moves_115 ?_
    refine sm_if_ge (Y := mX12_moves) (pc := 117) 126 (by decide) dX12_moves_117 (fun hc => ?_) (fun hc => ?_)
    · replace h := h.1 hc
      refine sm_iload (Y := mX12_moves) (pc := 126) 0 6 rfl dX12_moves_126 ?_
      refine sm_if_lt (Y := mX12_moves) (pc := 128) 134 (by decide) dX12_moves_128 (fun hc => ?_) (fun hc => ?_)
      · replace h := h.1 hc
        refine sm_sub [1, 2, 3, 4, 6, 0] rfl ?_
        exact h
      · replace h := h.2 hc
        refine sm_iinc (Y := mX12_moves) (pc := 131) (fun y => [(3, .int y), (6, .int s0), (0, .ref (sm_B E + 109)), (1, .int x1), (2, .int x2), (4, .int x4), (5, .int x5)]) 4 3 rfl (by decide) (fun _ => rfl) dX12_moves_131 (fun x3_3 ex3_3 => ?_)
        replace h := h x3_3 ex3_3
        refine sm_sub [2, 3, 4, 0, 6, 1] rfl ?_
        exact h
    · replace h := h.2 hc
      refine sm_bipush (Y := mX12_moves) (pc := 120) (-10) (by decide) dX12_moves_120 ?_
      refine sm_iload (Y := mX12_moves) (pc := 122) 5 4 rfl dX12_moves_122 ?_
      refine sm_isub (Y := mX12_moves) (pc := 124) dX12_moves_124 ?_
      exact sm_iret (Y := mX12_moves) (pc := 125) rfl rfl rfl dX12_moves_125 ⟨_, rfl, h⟩
theorem dX12_moves_61 : decode cX12_moves 61 = .ok (.iload 5, 2) := dk_iload 5 (b := 5) (by decide +kernel) (by decide +kernel) (by decide +kernel)
theorem dX12_moves_63 : decode cX12_moves 63 = .ok (.aload_n 0, 1) := dk_aload_n_0 (by decide +kernel)
theorem dX12_moves_64 : decode cX12_moves 64 = .ok (.getfield 234, 3) := dk_getfield 234 (b1 := 0) (b2 := 234) (by decide +kernel) (by decide +kernel) (by decide +kernel) (by decide +kernel)
theorem dX12_moves_67 : decode cX12_moves 67 = .ok (.if_icmp .ge 20, 3) := dk_if_icmp_ge 20 (b1 := 0) (b2 := 20) (by decide +kernel) (by decide +kernel) (by decide +kernel) (by decide +kernel)
theorem dX12_moves_87 : decode cX12_moves 87 = .ok (.iload 5, 2) := dk_iload 5 (b := 5) (by decide +kernel) (by decide +kernel) (by decide +kernel)
theorem dX12_moves_89 : decode cX12_moves 89 = .ok (.iload 4, 2) := dk_iload 4 (b := 4) (by decide +kernel) (by decide +kernel) (by decide +kernel)
theorem dX12_moves_91 : decode cX12_moves 91 = .ok (.if_icmp .ne 7, 3) := dk_if_icmp_ne 7 (b1 := 0) (b2 := 7) (by decide +kernel) (by decide +kernel) (by decide +kernel) (by decide +kernel)
theorem dX12_moves_98 : decode cX12_moves 98 = .ok (.aload_n 0, 1) := dk_aload_n_0 (by decide +kernel)
theorem dX12_moves_99 : decode cX12_moves 99 = .ok (.iload 4, 2) := dk_iload 4 (b := 4) (by decide +kernel) (by decide +kernel) (by decide +kernel)
theorem dX12_moves_101 : decode cX12_moves 101 = .ok (.iload 5, 2) := dk_iload 5 (b := 5) (by decide +kernel) (by decide +kernel) (by decide +kernel)
theorem wRX12_267 : Cond.methodLink RX12 267 yX12_moveAt ∈ sm_T := sm_in 1477 (by decide +kernel) (by decide +kernel)
theorem dX12_moves_103 : decode cX12_moves 103 = .ok (.invokevirtual 267, 3) := dk_invokevirtual 267 (b1 := 1) (b2 := 11) (by decide +kernel) (by decide +kernel) (by decide +kernel) (by decide +kernel)
theorem dX12_moves_94 : decode cX12_moves 94 = .ok (.iconst (-1), 1) := dk_iconst_m1 (by decide +kernel)
theorem dX12_moves_95 : decode cX12_moves 95 = .ok (.goto 11, 3) := dk_goto 11 (b1 := 0) (b2 := 11) (by decide +kernel) (by decide +kernel) (by decide +kernel) (by decide +kernel)
theorem dX12_moves_70 : decode cX12_moves 70 = .ok (.aload_n 0, 1) := dk_aload_n_0 (by decide +kernel)
theorem dX12_moves_71 : decode cX12_moves 71 = .ok (.iload 5, 2) := dk_iload 5 (b := 5) (by decide +kernel) (by decide +kernel) (by decide +kernel)
theorem dX12_moves_73 : decode cX12_moves 73 = .ok (.invokevirtual 240, 3) := dk_invokevirtual 240 (b1 := 0) (b2 := 240) (by decide +kernel) (by decide +kernel) (by decide +kernel) (by decide +kernel)
theorem dX12_moves_76 : decode cX12_moves 76 = .ok (.bipush 32, 2) := dk_bipush 32 (b := 32) (by decide +kernel) (by decide +kernel) (by decide +kernel)
theorem dX12_moves_78 : decode cX12_moves 78 = .ok (.if_icmp .eq 9, 3) := dk_if_icmp_eq 9 (b1 := 0) (b2 := 9) (by decide +kernel) (by decide +kernel) (by decide +kernel) (by decide +kernel)
theorem dX12_moves_81 : decode cX12_moves 81 = .ok (.iinc 5 1, 3) := dk_iinc 5 1 (b1 := 5) (b2 := 1) (by decide +kernel) (by decide +kernel) (by decide +kernel) (by decide +kernel) (by decide +kernel)
theorem dX12_moves_84 : decode cX12_moves 84 = .ok (.goto (-23), 3) := dk_goto (-23) (b1 := 255) (b2 := 233) (by decide +kernel) (by decide +kernel) (by decide +kernel) (by decide +kernel)
set_option maxRecDepth 20000 in
theorem vX12_moves_61 {E : sm_E} {L : sm_S → Prop} {d : Nat} {vs : List Value} {x1 : Int32} {x2 : Int32} {x3 : Int32} {x4 : Int32} {x5 : Int32}  {m : sm_M} {Q : Int32 → sm_M → Prop} (hly : ∀ S, L S → ly S) (hd : 5 ≤ d) 
  (h : ((m.1 109 32) ≤ x5 →
      (¬ x5 = x4 →
         sm_callI E L mX12_moveAt 2 0 0 [.ref (sm_B E + 109), .int x4, .int x5] m (fun r_2 m_1 =>
         gX12_moves_106 E L d vs x1 x2 x3 x4 x5 r_2 m_1 Q)) ∧
      (x5 = x4 →
         gX12_moves_106 E L d vs x1 x2 x3 x4 x5 (-1) m Q)) ∧
   (¬ (m.1 109 32) ≤ x5 →
      sm_callI E L mX12_byteAt 1 0 0 [.ref (sm_B E + 109), .int x5] m (fun r_4 m_3 =>
      (r_4 = 32 →
         (¬ x5 = x4 →
            sm_callI E L mX12_moveAt 2 0 0 [.ref (sm_B E + 109), .int x4, .int x5] m_3 (fun r_6 m_5 =>
            gX12_moves_106 E L d vs x1 x2 x3 x4 x5 r_6 m_5 Q)) ∧
         (x5 = x4 →
            gX12_moves_106 E L d vs x1 x2 x3 x4 x5 (-1) m_3 Q)) ∧
      (¬ r_4 = 32 →
         ∀ x5_7 : Int32, x5_7 = x5 + 1 →
         gX12_moves_61 E L d vs x1 x2 x3 x4 x5_7 m_3 Q)))) :
  gX12_moves_61 E L d vs x1 x2 x3 x4 x5 m Q := by
  refine sm_iload (Y := mX12_moves) (pc := 61) 5 5 rfl dX12_moves_61 ?_
  refine sm_aload_n (Y := mX12_moves) (pc := 63) 0 0 rfl rfl dX12_moves_63 ?_
  refine gf_RX12_234 (Y := mX12_moves) (pc := 64) rfl ((lk_109 hly) _) dX12_moves_64 ?_
  refine sm_icmp_ge (Y := mX12_moves) (pc := 67) 87 (by decide) dX12_moves_67 (fun hc => ?_) (fun hc => ?_)
  · replace h := h.1 hc
    refine sm_iload (Y := mX12_moves) (pc := 87) 5 5 rfl dX12_moves_87 ?_
    refine sm_iload (Y := mX12_moves) (pc := 89) 4 4 rfl dX12_moves_89 ?_
    refine sm_icmp_ne (Y := mX12_moves) (pc := 91) 98 (by decide) dX12_moves_91 (fun hc => ?_) (fun hc => ?_)
    · replace h := h.1 hc
      refine sm_aload_n (Y := mX12_moves) (pc := 98) 0 0 rfl rfl dX12_moves_98 ?_
      refine sm_iload (Y := mX12_moves) (pc := 99) 4 4 rfl dX12_moves_99 ?_
      refine sm_iload (Y := mX12_moves) (pc := 101) 5 5 rfl dX12_moves_101 ?_
      refine sm_iv_I (Y := mX12_moves) (pc := 103) (As := [.int x4, .int x5]) (a := 109) fX12_moveAt wRX12_267 (lk_109 hly) (by decide) rfl rfl rfl (Nat.le_trans (by decide) hd) (Nat.le_of_ble_eq_true rfl) ⟨Nat.le_refl _, Nat.le_refl _⟩ dX12_moves_103 rfl (sm_monoI h (fun r_2 m_1 h => ?_))
      exact h
    · replace h := h.2 hc
      refine sm_iconst (Y := mX12_moves) (pc := 94) (-1) (by decide) dX12_moves_94 ?_
      refine sm_goto (Y := mX12_moves) (pc := 95) 106 (by decide) dX12_moves_95 ?_
      exact h
  · replace h := h.2 hc
    refine sm_aload_n (Y := mX12_moves) (pc := 70) 0 0 rfl rfl dX12_moves_70 ?_
    refine sm_iload (Y := mX12_moves) (pc := 71) 5 5 rfl dX12_moves_71 ?_
    refine sm_iv_I (Y := mX12_moves) (pc := 73) (As := [.int x5]) (a := 109) fX12_byteAt wRX12_240 (lk_109 hly) (by decide) rfl rfl rfl (Nat.le_trans (by decide) hd) (Nat.le_of_ble_eq_true rfl) ⟨Nat.le_refl _, Nat.le_refl _⟩ dX12_moves_73 rfl (sm_monoI h (fun r_4 m_3 h => ?_))
    refine sm_bipush (Y := mX12_moves) (pc := 76) 32 (by decide) dX12_moves_76 ?_
    refine sm_icmp_eq (Y := mX12_moves) (pc := 78) 87 (by decide) dX12_moves_78 (fun hc => ?_) (fun hc => ?_)
    · replace h := h.1 hc
      refine sm_iload (Y := mX12_moves) (pc := 87) 5 5 rfl dX12_moves_87 ?_
      refine sm_iload (Y := mX12_moves) (pc := 89) 4 4 rfl dX12_moves_89 ?_
      refine sm_icmp_ne (Y := mX12_moves) (pc := 91) 98 (by decide) dX12_moves_91 (fun hc => ?_) (fun hc => ?_)
      · replace h := h.1 hc
        refine sm_aload_n (Y := mX12_moves) (pc := 98) 0 0 rfl rfl dX12_moves_98 ?_
        refine sm_iload (Y := mX12_moves) (pc := 99) 4 4 rfl dX12_moves_99 ?_
        refine sm_iload (Y := mX12_moves) (pc := 101) 5 5 rfl dX12_moves_101 ?_
        refine sm_iv_I (Y := mX12_moves) (pc := 103) (As := [.int x4, .int x5]) (a := 109) fX12_moveAt wRX12_267 (lk_109 hly) (by decide) rfl rfl rfl (Nat.le_trans (by decide) hd) (Nat.le_of_ble_eq_true rfl) ⟨Nat.le_refl _, Nat.le_refl _⟩ dX12_moves_103 rfl (sm_monoI h (fun r_6 m_5 h => ?_))
        exact h
      · replace h := h.2 hc
        refine sm_iconst (Y := mX12_moves) (pc := 94) (-1) (by decide) dX12_moves_94 ?_
        refine sm_goto (Y := mX12_moves) (pc := 95) 106 (by decide) dX12_moves_95 ?_
        exact h
    · replace h := h.2 hc
      refine sm_iinc (Y := mX12_moves) (pc := 81) (fun y => [(5, .int y), (0, .ref (sm_B E + 109)), (1, .int x1), (2, .int x2), (3, .int x3), (4, .int x4)]) 5 5 rfl (by decide) (fun _ => rfl) dX12_moves_81 (fun x5_7 ex5_7 => ?_)
      replace h := h x5_7 ex5_7
      refine sm_goto (Y := mX12_moves) (pc := 84) 61 (by decide) dX12_moves_84 ?_
      refine sm_sub [1, 2, 3, 4, 5, 0] rfl ?_
      exact h
theorem dX12_moves_48 : decode cX12_moves 48 = .ok (.iload 4, 2) := dk_iload 4 (b := 4) (by decide +kernel) (by decide +kernel) (by decide +kernel)
theorem dX12_moves_50 : decode cX12_moves 50 = .ok (.aload_n 0, 1) := dk_aload_n_0 (by decide +kernel)
theorem dX12_moves_51 : decode cX12_moves 51 = .ok (.getfield 234, 3) := dk_getfield 234 (b1 := 0) (b2 := 234) (by decide +kernel) (by decide +kernel) (by decide +kernel) (by decide +kernel)
theorem dX12_moves_54 : decode cX12_moves 54 = .ok (.if_icmp .ge 118, 3) := dk_if_icmp_ge 118 (b1 := 0) (b2 := 118) (by decide +kernel) (by decide +kernel) (by decide +kernel) (by decide +kernel)
theorem dX12_moves_172 : decode cX12_moves 172 = .ok (.iload_n 2, 1) := dk_iload_n_2 (by decide +kernel)
theorem dX12_moves_173 : decode cX12_moves 173 = .ok (.iconst 1, 1) := dk_iconst_1 (by decide +kernel)
theorem dX12_moves_174 : decode cX12_moves 174 = .ok (.if_icmp .ne 11, 3) := dk_if_icmp_ne 11 (b1 := 0) (b2 := 11) (by decide +kernel) (by decide +kernel) (by decide +kernel) (by decide +kernel)
theorem dX12_moves_185 : decode cX12_moves 185 = .ok (.iinc 2 1, 3) := dk_iinc 2 1 (b1 := 2) (b2 := 1) (by decide +kernel) (by decide +kernel) (by decide +kernel) (by decide +kernel) (by decide +kernel)
theorem dX12_moves_188 : decode cX12_moves 188 = .ok (.goto (-160), 3) := dk_goto (-160) (b1 := 255) (b2 := 96) (by decide +kernel) (by decide +kernel) (by decide +kernel) (by decide +kernel)
theorem dX12_moves_177 : decode cX12_moves 177 = .ok (.aload_n 0, 1) := dk_aload_n_0 (by decide +kernel)
theorem dX12_moves_178 : decode cX12_moves 178 = .ok (.iload_n 1, 1) := dk_iload_n_1 (by decide +kernel)
theorem dX12_moves_179 : decode cX12_moves 179 = .ok (.invokevirtual 211, 3) := dk_invokevirtual 211 (b1 := 0) (b2 := 211) (by decide +kernel) (by decide +kernel) (by decide +kernel) (by decide +kernel)
theorem dX12_moves_182 : decode cX12_moves 182 = .ok (.pop, 1) := dk_pop (by decide +kernel)
theorem dX12_moves_183 : decode cX12_moves 183 = .ok (.iload_n 3, 1) := dk_iload_n_3 (by decide +kernel)
theorem dX12_moves_184 : decode cX12_moves 184 = .ok (.ireturn, 1) := dk_ireturn (by decide +kernel)
theorem dX12_moves_57 : decode cX12_moves 57 = .ok (.iload 4, 2) := dk_iload 4 (b := 4) (by decide +kernel) (by decide +kernel) (by decide +kernel)
theorem dX12_moves_59 : decode cX12_moves 59 = .ok (.istore 5, 2) := dk_istore 5 (b := 5) (by decide +kernel) (by decide +kernel) (by decide +kernel)
set_option maxRecDepth 20000 in
theorem vX12_moves_48 {E : sm_E} {L : sm_S → Prop} {d : Nat} {vs : List Value} {x1 : Int32} {x2 : Int32} {x3 : Int32} {x4 : Int32}  {m : sm_M} {Q : Int32 → sm_M → Prop} (hly : ∀ S, L S → ly S) (hd : 5 ≤ d) 
  (h : ((m.1 109 32) ≤ x4 →
      (¬ x2 = 1 →
         ∀ x2_1 : Int32, x2_1 = x2 + 1 →
         gX12_moves_28 E L d vs x1 x2_1 m Q) ∧
      (x2 = 1 →
         sm_callI E L mX12_comesTo 4 0 0 [.ref (sm_B E + 109), .int x1] m (fun r_3 m_2 =>
         Q x3 m_2))) ∧
   (¬ (m.1 109 32) ≤ x4 →
      gX12_moves_61 E L d vs x1 x2 x3 x4 x4 m Q)) :
  gX12_moves_48 E L d vs x1 x2 x3 x4 m Q := by
  refine sm_iload (Y := mX12_moves) (pc := 48) 4 4 rfl dX12_moves_48 ?_
  refine sm_aload_n (Y := mX12_moves) (pc := 50) 0 0 rfl rfl dX12_moves_50 ?_
  refine gf_RX12_234 (Y := mX12_moves) (pc := 51) rfl ((lk_109 hly) _) dX12_moves_51 ?_
  refine sm_icmp_ge (Y := mX12_moves) (pc := 54) 172 (by decide) dX12_moves_54 (fun hc => ?_) (fun hc => ?_)
  · replace h := h.1 hc
    refine sm_iload_n (Y := mX12_moves) (pc := 172) 2 2 rfl rfl dX12_moves_172 ?_
    refine sm_iconst (Y := mX12_moves) (pc := 173) 1 (by decide) dX12_moves_173 ?_
    refine sm_icmp_ne (Y := mX12_moves) (pc := 174) 185 (by decide) dX12_moves_174 (fun hc => ?_) (fun hc => ?_)
    · replace h := h.1 hc
      refine sm_iinc (Y := mX12_moves) (pc := 185) (fun y => [(2, .int y), (0, .ref (sm_B E + 109)), (1, .int x1), (3, .int x3), (4, .int x4)]) 2 2 rfl (by decide) (fun _ => rfl) dX12_moves_185 (fun x2_1 ex2_1 => ?_)
      replace h := h x2_1 ex2_1
      refine sm_goto (Y := mX12_moves) (pc := 188) 28 (by decide) dX12_moves_188 ?_
      refine sm_sub [1, 2, 0] rfl ?_
      exact h
    · replace h := h.2 hc
      refine sm_aload_n (Y := mX12_moves) (pc := 177) 0 0 rfl rfl dX12_moves_177 ?_
      refine sm_iload_n (Y := mX12_moves) (pc := 178) 1 1 rfl rfl dX12_moves_178 ?_
      refine sm_iv_I (Y := mX12_moves) (pc := 179) (As := [.int x1]) (a := 109) fX12_comesTo wRX12_211 (lk_109 hly) (by decide) rfl rfl rfl (Nat.le_trans (by decide) hd) (Nat.le_of_ble_eq_true rfl) ⟨Nat.le_refl _, Nat.le_refl _⟩ dX12_moves_179 rfl (sm_monoI h (fun r_3 m_2 h => ?_))
      refine sm_pop (Y := mX12_moves) (pc := 182) rfl dX12_moves_182 ?_
      refine sm_iload_n (Y := mX12_moves) (pc := 183) 3 3 rfl rfl dX12_moves_183 ?_
      exact sm_iret (Y := mX12_moves) (pc := 184) rfl rfl rfl dX12_moves_184 ⟨_, rfl, h⟩
  · replace h := h.2 hc
    refine sm_iload (Y := mX12_moves) (pc := 57) 4 4 rfl dX12_moves_57 ?_
    refine sm_istore0 (Y := mX12_moves) (pc := 59) [(5, .int x4), (0, .ref (sm_B E + 109)), (1, .int x1), (2, .int x2), (3, .int x3), (4, .int x4)] 5 (by decide) rfl dX12_moves_59 ?_
    refine sm_sub [1, 2, 3, 4, 5, 0] rfl ?_
    exact h
theorem dX12_moves_28 : decode cX12_moves 28 = .ok (.iload_n 2, 1) := dk_iload_n_2 (by decide +kernel)
theorem dX12_moves_29 : decode cX12_moves 29 = .ok (.iconst 2, 1) := dk_iconst_2 (by decide +kernel)
theorem dX12_moves_30 : decode cX12_moves 30 = .ok (.if_icmp .ge 161, 3) := dk_if_icmp_ge 161 (b1 := 0) (b2 := 161) (by decide +kernel) (by decide +kernel) (by decide +kernel) (by decide +kernel)
theorem dX12_moves_191 : decode cX12_moves 191 = .ok (.iconst 0, 1) := dk_iconst_0 (by decide +kernel)
theorem dX12_moves_192 : decode cX12_moves 192 = .ok (.ireturn, 1) := dk_ireturn (by decide +kernel)
theorem dX12_moves_33 : decode cX12_moves 33 = .ok (.aload_n 0, 1) := dk_aload_n_0 (by decide +kernel)
theorem dX12_moves_34 : decode cX12_moves 34 = .ok (.iconst 0, 1) := dk_iconst_0 (by decide +kernel)
theorem dX12_moves_35 : decode cX12_moves 35 = .ok (.putfield 201, 3) := dk_putfield 201 (b1 := 0) (b2 := 201) (by decide +kernel) (by decide +kernel) (by decide +kernel) (by decide +kernel)
theorem dX12_moves_38 : decode cX12_moves 38 = .ok (.aload_n 0, 1) := dk_aload_n_0 (by decide +kernel)
theorem dX12_moves_39 : decode cX12_moves 39 = .ok (.iload_n 1, 1) := dk_iload_n_1 (by decide +kernel)
theorem dX12_moves_40 : decode cX12_moves 40 = .ok (.invokevirtual 217, 3) := dk_invokevirtual 217 (b1 := 0) (b2 := 217) (by decide +kernel) (by decide +kernel) (by decide +kernel) (by decide +kernel)
theorem dX12_moves_43 : decode cX12_moves 43 = .ok (.iconst 0, 1) := dk_iconst_0 (by decide +kernel)
theorem dX12_moves_44 : decode cX12_moves 44 = .ok (.istore_n 3, 1) := dk_istore_n_3 (by decide +kernel)
theorem dX12_moves_45 : decode cX12_moves 45 = .ok (.iconst 0, 1) := dk_iconst_0 (by decide +kernel)
theorem dX12_moves_46 : decode cX12_moves 46 = .ok (.istore 4, 2) := dk_istore 4 (b := 4) (by decide +kernel) (by decide +kernel) (by decide +kernel)
set_option maxRecDepth 20000 in
theorem vX12_moves_28 {E : sm_E} {L : sm_S → Prop} {d : Nat} {vs : List Value} {x1 : Int32} {x2 : Int32}  {m : sm_M} {Q : Int32 → sm_M → Prop} (hly : ∀ S, L S → ly S) (hd : 5 ≤ d) 
  (h : (2 ≤ x2 →
      Q 0 m) ∧
   (¬ 2 ≤ x2 →
      ∀ m_1 : sm_M, m_1 = sm_wI m 109 6 0 →
      sm_callV E L mX12_putsSlot 2 0 0 [.ref (sm_B E + 109), .int x1] m_1 (fun m_2 =>
      gX12_moves_48 E L d vs x1 x2 0 0 m_2 Q))) :
  gX12_moves_28 E L d vs x1 x2 m Q := by
  refine sm_iload_n (Y := mX12_moves) (pc := 28) 2 2 rfl rfl dX12_moves_28 ?_
  refine sm_iconst (Y := mX12_moves) (pc := 29) 2 (by decide) dX12_moves_29 ?_
  refine sm_icmp_ge (Y := mX12_moves) (pc := 30) 191 (by decide) dX12_moves_30 (fun hc => ?_) (fun hc => ?_)
  · replace h := h.1 hc
    refine sm_iconst (Y := mX12_moves) (pc := 191) 0 (by decide) dX12_moves_191 ?_
    exact sm_iret (Y := mX12_moves) (pc := 192) rfl rfl rfl dX12_moves_192 ⟨_, rfl, h⟩
  · replace h := h.2 hc
    refine sm_aload_n (Y := mX12_moves) (pc := 33) 0 0 rfl rfl dX12_moves_33 ?_
    refine sm_iconst (Y := mX12_moves) (pc := 34) 0 (by decide) dX12_moves_34 ?_
    refine pf_RX12_201 (Y := mX12_moves) (pc := 35) rfl ((lk_109 hly) _) dX12_moves_35 (fun m_1 em_1 => ?_)
    replace h := h m_1 em_1
    refine sm_aload_n (Y := mX12_moves) (pc := 38) 0 0 rfl rfl dX12_moves_38 ?_
    refine sm_iload_n (Y := mX12_moves) (pc := 39) 1 1 rfl rfl dX12_moves_39 ?_
    refine sm_iv_V (Y := mX12_moves) (pc := 40) (As := [.int x1]) (a := 109) fX12_putsSlot wRX12_217 (lk_109 hly) (by decide) rfl rfl rfl (Nat.le_trans (by decide) hd) (Nat.le_of_ble_eq_true rfl) ⟨Nat.le_refl _, Nat.le_refl _⟩ dX12_moves_40 rfl (sm_monoV h (fun m_2 h => ?_))
    refine sm_iconst (Y := mX12_moves) (pc := 43) 0 (by decide) dX12_moves_43 ?_
    refine sm_istore0_n (Y := mX12_moves) (pc := 44) [(3, .int 0), (0, .ref (sm_B E + 109)), (1, .int x1), (2, .int x2)] 3 rfl (by decide) rfl dX12_moves_44 ?_
    refine sm_iconst (Y := mX12_moves) (pc := 45) 0 (by decide) dX12_moves_45 ?_
    refine sm_istore0 (Y := mX12_moves) (pc := 46) [(4, .int 0), (3, .int 0), (0, .ref (sm_B E + 109)), (1, .int x1), (2, .int x2)] 4 (by decide) rfl dX12_moves_46 ?_
    refine sm_sub [2, 3, 4, 1, 0] rfl ?_
    exact h
theorem dX12_moves_0 : decode cX12_moves 0 = .ok (.iload_n 1, 1) := dk_iload_n_1 (by decide +kernel)
theorem dX12_moves_1 : decode cX12_moves 1 = .ok (.invokestatic 184, 3) := dk_invokestatic 184 (b1 := 0) (b2 := 184) (by decide +kernel) (by decide +kernel) (by decide +kernel) (by decide +kernel)
theorem dX12_moves_4 : decode cX12_moves 4 = .ok (.ifCond .ne 9, 3) := dk_ifCond_ne 9 (b1 := 0) (b2 := 9) (by decide +kernel) (by decide +kernel) (by decide +kernel) (by decide +kernel)
theorem dX12_moves_13 : decode cX12_moves 13 = .ok (.aload_n 0, 1) := dk_aload_n_0 (by decide +kernel)
theorem dX12_moves_14 : decode cX12_moves 14 = .ok (.aload_n 0, 1) := dk_aload_n_0 (by decide +kernel)
theorem dX12_moves_15 : decode cX12_moves 15 = .ok (.getfield 229, 3) := dk_getfield 229 (b1 := 0) (b2 := 229) (by decide +kernel) (by decide +kernel) (by decide +kernel) (by decide +kernel)
theorem dX12_moves_18 : decode cX12_moves 18 = .ok (.putfield 234, 3) := dk_putfield 234 (b1 := 0) (b2 := 234) (by decide +kernel) (by decide +kernel) (by decide +kernel) (by decide +kernel)
theorem dX12_moves_21 : decode cX12_moves 21 = .ok (.aload_n 0, 1) := dk_aload_n_0 (by decide +kernel)
theorem dX12_moves_22 : decode cX12_moves 22 = .ok (.iconst 0, 1) := dk_iconst_0 (by decide +kernel)
theorem dX12_moves_23 : decode cX12_moves 23 = .ok (.putfield 229, 3) := dk_putfield 229 (b1 := 0) (b2 := 229) (by decide +kernel) (by decide +kernel) (by decide +kernel) (by decide +kernel)
theorem dX12_moves_26 : decode cX12_moves 26 = .ok (.iconst 0, 1) := dk_iconst_0 (by decide +kernel)
theorem dX12_moves_27 : decode cX12_moves 27 = .ok (.istore_n 2, 1) := dk_istore_n_2 (by decide +kernel)
theorem dX12_moves_7 : decode cX12_moves 7 = .ok (.aload_n 0, 1) := dk_aload_n_0 (by decide +kernel)
theorem dX12_moves_8 : decode cX12_moves 8 = .ok (.iconst 1, 1) := dk_iconst_1 (by decide +kernel)
theorem dX12_moves_9 : decode cX12_moves 9 = .ok (.invokevirtual 194, 3) := dk_invokevirtual 194 (b1 := 0) (b2 := 194) (by decide +kernel) (by decide +kernel) (by decide +kernel) (by decide +kernel)
theorem dX12_moves_12 : decode cX12_moves 12 = .ok (.ireturn, 1) := dk_ireturn (by decide +kernel)
set_option maxRecDepth 20000 in
theorem vX12_moves_0 {E : sm_E} {L : sm_S → Prop} {d : Nat} {x1 : Int32}  {m : sm_M} {Q : Int32 → sm_M → Prop} (hly : ∀ S, L S → ly S) (hd : 5 ≤ d) 
  (h : sm_callI E L mX12_isSlot 1 0 0 [.int x1] m (fun r_2 m_1 =>
   (¬ r_2 = 0 →
      ∀ m_3 : sm_M, m_3 = sm_wI m_1 109 32 (m_1.1 109 11) →
      ∀ m_4 : sm_M, m_4 = sm_wI m_3 109 11 0 →
      gX12_moves_28 E L d ([.ref (sm_B E + 109), .int x1]) x1 0 m_4 Q) ∧
   (r_2 = 0 →
      sm_callI E L mX12_finds 1 0 0 [.ref (sm_B E + 109), .int 1] m_1 (fun r_7 m_6 =>
      Q r_7 m_6)))) :
  sm_callI E L mX12_moves d 0 0 [.ref (sm_B E + 109), .int x1] m Q := by
  refine sm_enter (by decide +kernel) (by simp [lg_sl, Value.category]) ?_
  refine sm_iload_n (Y := mX12_moves) (pc := 0) 1 1 rfl rfl dX12_moves_0 ?_
  refine sm_is_I (Y := mX12_moves) (pc := 1) (As := [.int x1]) fX12_isSlot wRX12_184 rfl (Nat.le_trans (by decide) hd) (Nat.le_of_ble_eq_true rfl) ⟨Nat.le_refl _, Nat.le_refl _⟩ dX12_moves_1 rfl (sm_monoI h (fun r_2 m_1 h => ?_))
  refine sm_if_ne (Y := mX12_moves) (pc := 4) 13 (by decide) dX12_moves_4 (fun hc => ?_) (fun hc => ?_)
  · replace h := h.1 hc
    refine sm_aload_n (Y := mX12_moves) (pc := 13) 0 0 rfl rfl dX12_moves_13 ?_
    refine sm_aload_n (Y := mX12_moves) (pc := 14) 0 0 rfl rfl dX12_moves_14 ?_
    refine gf_RX12_229 (Y := mX12_moves) (pc := 15) rfl ((lk_109 hly) _) dX12_moves_15 ?_
    refine pf_RX12_234 (Y := mX12_moves) (pc := 18) rfl ((lk_109 hly) _) dX12_moves_18 (fun m_3 em_3 => ?_)
    replace h := h m_3 em_3
    refine sm_aload_n (Y := mX12_moves) (pc := 21) 0 0 rfl rfl dX12_moves_21 ?_
    refine sm_iconst (Y := mX12_moves) (pc := 22) 0 (by decide) dX12_moves_22 ?_
    refine pf_RX12_229 (Y := mX12_moves) (pc := 23) rfl ((lk_109 hly) _) dX12_moves_23 (fun m_4 em_4 => ?_)
    replace h := h m_4 em_4
    refine sm_iconst (Y := mX12_moves) (pc := 26) 0 (by decide) dX12_moves_26 ?_
    refine sm_istore0_n (Y := mX12_moves) (pc := 27) [(2, .int 0), (0, .ref (sm_B E + 109)), (1, .int x1)] 2 rfl (by decide) rfl dX12_moves_27 ?_
    refine sm_sub [1, 2, 0] rfl ?_
    exact h
  · replace h := h.2 hc
    refine sm_aload_n (Y := mX12_moves) (pc := 7) 0 0 rfl rfl dX12_moves_7 ?_
    refine sm_iconst (Y := mX12_moves) (pc := 8) 1 (by decide) dX12_moves_8 ?_
    refine sm_iv_I (Y := mX12_moves) (pc := 9) (As := [.int 1]) (a := 109) fX12_finds wRX12_194 (lk_109 hly) (by decide) rfl rfl rfl (Nat.le_trans (by decide) hd) (Nat.le_of_ble_eq_true rfl) ⟨Nat.le_refl _, Nat.le_refl _⟩ dX12_moves_9 rfl (sm_monoI h (fun r_7 m_6 h => ?_))
    exact sm_iret (Y := mX12_moves) (pc := 12) rfl rfl rfl dX12_moves_12 ⟨_, rfl, h⟩
abbrev mX12_termsOf : sm_Y := (yX12_termsOf, cX12_termsOf, 12, none)
theorem fX12_termsOf : sm_mi mX12_termsOf RX12 2 := ⟨sm_in 1490 (by decide +kernel) (by decide +kernel), sm_in 1489 (by decide +kernel) (by decide +kernel), sm_in 56 (by decide +kernel) (by decide +kernel), sm_in 93 (by decide +kernel) (by decide +kernel), rfl, ⟨by decide +kernel, by decide +kernel, by decide +kernel⟩, by decide⟩
def gX12_termsOf_134 (E : sm_E) (L : sm_S → Prop) (d : Nat) (vs : List Value) (x5 : Int32) (x10 : Int32) (m : sm_M) (Q : sm_M → Prop) : Prop := sm_go E L mX12_termsOf d 0 0 vs 134 [(0, .ref (sm_B E + 109)), (5, .int x5), (10, .int x10)] [] m 0 0 (sm_Z E L vs 0 0 (sm_QV Q))
def gX12_termsOf_41 (E : sm_E) (L : sm_S → Prop) (d : Nat) (vs : List Value) (x5 : Int32) (x6 : Int64) (x8 : Int64) (m : sm_M) (Q : sm_M → Prop) : Prop := sm_go E L mX12_termsOf d 0 0 vs 41 [(0, .ref (sm_B E + 109)), (5, .int x5), (6, .long x6), (8, .long x8)] [] m 0 0 (sm_Z E L vs 0 0 (sm_QV Q))
def gX12_termsOf_23 (E : sm_E) (L : sm_S → Prop) (d : Nat) (vs : List Value) (x1 : Int64) (x3 : Int64) (s0 : Int32) (m : sm_M) (Q : sm_M → Prop) : Prop := sm_go E L mX12_termsOf d 0 0 vs 23 [(0, .ref (sm_B E + 109)), (1, .long x1), (3, .long x3)] [.int s0] m 0 0 (sm_Z E L vs 0 0 (sm_QV Q))
theorem dX12_termsOf_134 : decode cX12_termsOf 134 = .ok (.iload 10, 2) := dk_iload 10 (b := 10) (by decide +kernel) (by decide +kernel) (by decide +kernel)
theorem dX12_termsOf_136 : decode cX12_termsOf 136 = .ok (.aload_n 0, 1) := dk_aload_n_0 (by decide +kernel)
theorem dX12_termsOf_137 : decode cX12_termsOf 137 = .ok (.getfield 271, 3) := dk_getfield 271 (b1 := 1) (b2 := 15) (by decide +kernel) (by decide +kernel) (by decide +kernel) (by decide +kernel)
theorem dX12_termsOf_140 : decode cX12_termsOf 140 = .ok (.if_icmp .ge 29, 3) := dk_if_icmp_ge 29 (b1 := 0) (b2 := 29) (by decide +kernel) (by decide +kernel) (by decide +kernel) (by decide +kernel)
theorem dX12_termsOf_169 : decode cX12_termsOf 169 = .ok (.return_, 1) := dk_return_ (by decide +kernel)
theorem dX12_termsOf_143 : decode cX12_termsOf 143 = .ok (.iload 5, 2) := dk_iload 5 (b := 5) (by decide +kernel) (by decide +kernel) (by decide +kernel)
theorem dX12_termsOf_145 : decode cX12_termsOf 145 = .ok (.ifCond .eq 24, 3) := dk_ifCond_eq 24 (b1 := 0) (b2 := 24) (by decide +kernel) (by decide +kernel) (by decide +kernel) (by decide +kernel)
theorem dX12_termsOf_148 : decode cX12_termsOf 148 = .ok (.aload_n 0, 1) := dk_aload_n_0 (by decide +kernel)
theorem dX12_termsOf_149 : decode cX12_termsOf 149 = .ok (.getfield 67, 3) := dk_getfield 67 (b1 := 0) (b2 := 67) (by decide +kernel) (by decide +kernel) (by decide +kernel) (by decide +kernel)
theorem dX12_termsOf_152 : decode cX12_termsOf 152 = .ok (.iload 10, 2) := dk_iload 10 (b := 10) (by decide +kernel) (by decide +kernel) (by decide +kernel)
theorem dX12_termsOf_154 : decode cX12_termsOf 154 = .ok (.aload_n 0, 1) := dk_aload_n_0 (by decide +kernel)
theorem dX12_termsOf_155 : decode cX12_termsOf 155 = .ok (.getfield 67, 3) := dk_getfield 67 (b1 := 0) (b2 := 67) (by decide +kernel) (by decide +kernel) (by decide +kernel) (by decide +kernel)
theorem dX12_termsOf_158 : decode cX12_termsOf 158 = .ok (.iload 10, 2) := dk_iload 10 (b := 10) (by decide +kernel) (by decide +kernel) (by decide +kernel)
theorem dX12_termsOf_160 : decode cX12_termsOf 160 = .ok (.laload, 1) := dk_laload (by decide +kernel)
theorem dX12_termsOf_161 : decode cX12_termsOf 161 = .ok (.lneg, 1) := dk_lneg (by decide +kernel)
theorem dX12_termsOf_162 : decode cX12_termsOf 162 = .ok (.lastore, 1) := dk_lastore (by decide +kernel)
theorem dX12_termsOf_163 : decode cX12_termsOf 163 = .ok (.iinc 10 1, 3) := dk_iinc 10 1 (b1 := 10) (b2 := 1) (by decide +kernel) (by decide +kernel) (by decide +kernel) (by decide +kernel) (by decide +kernel)
theorem dX12_termsOf_166 : decode cX12_termsOf 166 = .ok (.goto (-32), 3) := dk_goto (-32) (b1 := 255) (b2 := 224) (by decide +kernel) (by decide +kernel) (by decide +kernel) (by decide +kernel)
set_option maxRecDepth 20000 in
theorem vX12_termsOf_134 {E : sm_E} {L : sm_S → Prop} {d : Nat} {vs : List Value} {x5 : Int32} {x10 : Int32}  {m : sm_M} {Q : sm_M → Prop} (hly : ∀ S, L S → ly S) (hd : 1 ≤ d) 
  (h : ((m.1 109 36) ≤ x10 →
      Q m) ∧
   (¬ (m.1 109 36) ≤ x10 →
      (x5 = 0 →
         Q m) ∧
      (¬ x5 = 0 →
         (vp_in x10 64) ∧ (vp_in x10 64) ∧ ∀ m_2 : sm_M, m_2 = sm_wJ m 127 x10.toNatClampNeg (-(m.2.1 127 x10.toNatClampNeg)) →
         ∀ x10_4 : Int32, x10_4 = x10 + 1 →
         gX12_termsOf_134 E L d vs x5 x10_4 m_2 Q))) :
  gX12_termsOf_134 E L d vs x5 x10 m Q := by
  refine sm_iload (Y := mX12_termsOf) (pc := 134) 2 10 rfl dX12_termsOf_134 ?_
  refine sm_aload_n (Y := mX12_termsOf) (pc := 136) 0 0 rfl rfl dX12_termsOf_136 ?_
  refine gf_RX12_271 (Y := mX12_termsOf) (pc := 137) rfl ((lk_109 hly) _) dX12_termsOf_137 ?_
  refine sm_icmp_ge (Y := mX12_termsOf) (pc := 140) 169 (by decide) dX12_termsOf_140 (fun hc => ?_) (fun hc => ?_)
  · replace h := h.1 hc
    exact sm_vret (Y := mX12_termsOf) (pc := 169) rfl rfl rfl dX12_termsOf_169 ⟨rfl, h⟩
  · replace h := h.2 hc
    refine sm_iload (Y := mX12_termsOf) (pc := 143) 1 5 rfl dX12_termsOf_143 ?_
    refine sm_if_eq (Y := mX12_termsOf) (pc := 145) 169 (by decide) dX12_termsOf_145 (fun hc => ?_) (fun hc => ?_)
    · replace h := h.1 hc
      exact sm_vret (Y := mX12_termsOf) (pc := 169) rfl rfl rfl dX12_termsOf_169 ⟨rfl, h⟩
    · replace h := h.2 hc
      refine sm_aload_n (Y := mX12_termsOf) (pc := 148) 0 0 rfl rfl dX12_termsOf_148 ?_
      refine gf_RX12_67 (Y := mX12_termsOf) (pc := 149) (b := 127) rfl ((lk_109 hly) _) (lf_109_35 hly _) dX12_termsOf_149 ?_
      refine sm_iload (Y := mX12_termsOf) (pc := 152) 2 10 rfl dX12_termsOf_152 ?_
      refine sm_aload_n (Y := mX12_termsOf) (pc := 154) 0 0 rfl rfl dX12_termsOf_154 ?_
      refine gf_RX12_67 (Y := mX12_termsOf) (pc := 155) (b := 127) rfl ((lk_109 hly) _) (lf_109_35 hly _) dX12_termsOf_155 ?_
      refine sm_iload (Y := mX12_termsOf) (pc := 158) 2 10 rfl dX12_termsOf_158 ?_
      obtain ⟨hn_1, h⟩ := h
      refine sm_lald (Y := mX12_termsOf) (pc := 160) (la_127 hly _) hn_1 dX12_termsOf_160 ?_
      refine sm_lneg (Y := mX12_termsOf) (pc := 161) dX12_termsOf_161 ?_
      obtain ⟨hn_3, h⟩ := h
      refine sm_last (Y := mX12_termsOf) (pc := 162) (la_127 hly _) hn_3 dX12_termsOf_162 (fun m_2 em_2 => ?_)
      replace h := h m_2 em_2
      refine sm_iinc (Y := mX12_termsOf) (pc := 163) (fun y => [(10, .int y), (0, .ref (sm_B E + 109)), (5, .int x5)]) 2 10 rfl (by decide) (fun _ => rfl) dX12_termsOf_163 (fun x10_4 ex10_4 => ?_)
      replace h := h x10_4 ex10_4
      refine sm_goto (Y := mX12_termsOf) (pc := 166) 134 (by decide) dX12_termsOf_166 ?_
      refine sm_sub [1, 2, 0] rfl ?_
      exact h
theorem dX12_termsOf_41 : decode cX12_termsOf 41 = .ok (.aload_n 0, 1) := dk_aload_n_0 (by decide +kernel)
theorem dX12_termsOf_42 : decode cX12_termsOf 42 = .ok (.getfield 67, 3) := dk_getfield 67 (b1 := 0) (b2 := 67) (by decide +kernel) (by decide +kernel) (by decide +kernel) (by decide +kernel)
theorem dX12_termsOf_45 : decode cX12_termsOf 45 = .ok (.aload_n 0, 1) := dk_aload_n_0 (by decide +kernel)
theorem dX12_termsOf_46 : decode cX12_termsOf 46 = .ok (.getfield 271, 3) := dk_getfield 271 (b1 := 1) (b2 := 15) (by decide +kernel) (by decide +kernel) (by decide +kernel) (by decide +kernel)
theorem dX12_termsOf_49 : decode cX12_termsOf 49 = .ok (.lload 6, 2) := dk_lload 6 (b := 6) (by decide +kernel) (by decide +kernel) (by decide +kernel)
theorem dX12_termsOf_51 : decode cX12_termsOf 51 = .ok (.lload 8, 2) := dk_lload 8 (b := 8) (by decide +kernel) (by decide +kernel) (by decide +kernel)
theorem dX12_termsOf_53 : decode cX12_termsOf 53 = .ok (.ldiv, 1) := dk_ldiv (by decide +kernel)
theorem dX12_termsOf_54 : decode cX12_termsOf 54 = .ok (.lastore, 1) := dk_lastore (by decide +kernel)
theorem dX12_termsOf_55 : decode cX12_termsOf 55 = .ok (.aload_n 0, 1) := dk_aload_n_0 (by decide +kernel)
theorem dX12_termsOf_56 : decode cX12_termsOf 56 = .ok (.dup, 1) := dk_dup (by decide +kernel)
theorem dX12_termsOf_57 : decode cX12_termsOf 57 = .ok (.getfield 271, 3) := dk_getfield 271 (b1 := 1) (b2 := 15) (by decide +kernel) (by decide +kernel) (by decide +kernel) (by decide +kernel)
theorem dX12_termsOf_60 : decode cX12_termsOf 60 = .ok (.iconst 1, 1) := dk_iconst_1 (by decide +kernel)
theorem dX12_termsOf_61 : decode cX12_termsOf 61 = .ok (.iadd, 1) := dk_iadd (by decide +kernel)
theorem dX12_termsOf_62 : decode cX12_termsOf 62 = .ok (.putfield 271, 3) := dk_putfield 271 (b1 := 1) (b2 := 15) (by decide +kernel) (by decide +kernel) (by decide +kernel) (by decide +kernel)
theorem dX12_termsOf_65 : decode cX12_termsOf 65 = .ok (.lload 6, 2) := dk_lload 6 (b := 6) (by decide +kernel) (by decide +kernel) (by decide +kernel)
theorem dX12_termsOf_67 : decode cX12_termsOf 67 = .ok (.lload 8, 2) := dk_lload 8 (b := 8) (by decide +kernel) (by decide +kernel) (by decide +kernel)
theorem dX12_termsOf_69 : decode cX12_termsOf 69 = .ok (.lrem, 1) := dk_lrem (by decide +kernel)
theorem dX12_termsOf_70 : decode cX12_termsOf 70 = .ok (.lstore 10, 2) := dk_lstore 10 (b := 10) (by decide +kernel) (by decide +kernel) (by decide +kernel)
theorem dX12_termsOf_72 : decode cX12_termsOf 72 = .ok (.lload 8, 2) := dk_lload 8 (b := 8) (by decide +kernel) (by decide +kernel) (by decide +kernel)
theorem dX12_termsOf_74 : decode cX12_termsOf 74 = .ok (.lstore 6, 2) := dk_lstore 6 (b := 6) (by decide +kernel) (by decide +kernel) (by decide +kernel)
theorem dX12_termsOf_76 : decode cX12_termsOf 76 = .ok (.lload 10, 2) := dk_lload 10 (b := 10) (by decide +kernel) (by decide +kernel) (by decide +kernel)
theorem dX12_termsOf_78 : decode cX12_termsOf 78 = .ok (.lstore 8, 2) := dk_lstore 8 (b := 8) (by decide +kernel) (by decide +kernel) (by decide +kernel)
theorem dX12_termsOf_80 : decode cX12_termsOf 80 = .ok (.lload 8, 2) := dk_lload 8 (b := 8) (by decide +kernel) (by decide +kernel) (by decide +kernel)
theorem dX12_termsOf_82 : decode cX12_termsOf 82 = .ok (.lconst 0, 1) := dk_lconst_0 (by decide +kernel)
theorem dX12_termsOf_83 : decode cX12_termsOf 83 = .ok (.lcmp, 1) := dk_lcmp (by decide +kernel)
theorem dX12_termsOf_84 : decode cX12_termsOf 84 = .ok (.ifCond .ne (-43), 3) := dk_ifCond_ne (-43) (b1 := 255) (b2 := 213) (by decide +kernel) (by decide +kernel) (by decide +kernel) (by decide +kernel)
theorem dX12_termsOf_87 : decode cX12_termsOf 87 = .ok (.aload_n 0, 1) := dk_aload_n_0 (by decide +kernel)
theorem dX12_termsOf_88 : decode cX12_termsOf 88 = .ok (.getfield 271, 3) := dk_getfield 271 (b1 := 1) (b2 := 15) (by decide +kernel) (by decide +kernel) (by decide +kernel) (by decide +kernel)
theorem dX12_termsOf_91 : decode cX12_termsOf 91 = .ok (.iconst 2, 1) := dk_iconst_2 (by decide +kernel)
theorem dX12_termsOf_92 : decode cX12_termsOf 92 = .ok (.irem, 1) := dk_irem (by decide +kernel)
theorem dX12_termsOf_93 : decode cX12_termsOf 93 = .ok (.ifCond .ne 38, 3) := dk_ifCond_ne 38 (b1 := 0) (b2 := 38) (by decide +kernel) (by decide +kernel) (by decide +kernel) (by decide +kernel)
theorem dX12_termsOf_131 : decode cX12_termsOf 131 = .ok (.iconst 0, 1) := dk_iconst_0 (by decide +kernel)
theorem dX12_termsOf_132 : decode cX12_termsOf 132 = .ok (.istore 10, 2) := dk_istore 10 (b := 10) (by decide +kernel) (by decide +kernel) (by decide +kernel)
theorem dX12_termsOf_96 : decode cX12_termsOf 96 = .ok (.aload_n 0, 1) := dk_aload_n_0 (by decide +kernel)
theorem dX12_termsOf_97 : decode cX12_termsOf 97 = .ok (.getfield 67, 3) := dk_getfield 67 (b1 := 0) (b2 := 67) (by decide +kernel) (by decide +kernel) (by decide +kernel) (by decide +kernel)
theorem dX12_termsOf_100 : decode cX12_termsOf 100 = .ok (.aload_n 0, 1) := dk_aload_n_0 (by decide +kernel)
theorem dX12_termsOf_101 : decode cX12_termsOf 101 = .ok (.getfield 271, 3) := dk_getfield 271 (b1 := 1) (b2 := 15) (by decide +kernel) (by decide +kernel) (by decide +kernel) (by decide +kernel)
theorem dX12_termsOf_104 : decode cX12_termsOf 104 = .ok (.iconst 1, 1) := dk_iconst_1 (by decide +kernel)
theorem dX12_termsOf_105 : decode cX12_termsOf 105 = .ok (.isub, 1) := dk_isub (by decide +kernel)
theorem dX12_termsOf_106 : decode cX12_termsOf 106 = .ok (.dup2, 1) := dk_dup2 (by decide +kernel)
theorem dX12_termsOf_107 : decode cX12_termsOf 107 = .ok (.laload, 1) := dk_laload (by decide +kernel)
theorem dX12_termsOf_108 : decode cX12_termsOf 108 = .ok (.lconst 1, 1) := dk_lconst_1 (by decide +kernel)
theorem dX12_termsOf_109 : decode cX12_termsOf 109 = .ok (.lsub, 1) := dk_lsub (by decide +kernel)
theorem dX12_termsOf_110 : decode cX12_termsOf 110 = .ok (.lastore, 1) := dk_lastore (by decide +kernel)
theorem dX12_termsOf_111 : decode cX12_termsOf 111 = .ok (.aload_n 0, 1) := dk_aload_n_0 (by decide +kernel)
theorem dX12_termsOf_112 : decode cX12_termsOf 112 = .ok (.getfield 67, 3) := dk_getfield 67 (b1 := 0) (b2 := 67) (by decide +kernel) (by decide +kernel) (by decide +kernel) (by decide +kernel)
theorem dX12_termsOf_115 : decode cX12_termsOf 115 = .ok (.aload_n 0, 1) := dk_aload_n_0 (by decide +kernel)
theorem dX12_termsOf_116 : decode cX12_termsOf 116 = .ok (.getfield 271, 3) := dk_getfield 271 (b1 := 1) (b2 := 15) (by decide +kernel) (by decide +kernel) (by decide +kernel) (by decide +kernel)
theorem dX12_termsOf_119 : decode cX12_termsOf 119 = .ok (.lconst 1, 1) := dk_lconst_1 (by decide +kernel)
theorem dX12_termsOf_120 : decode cX12_termsOf 120 = .ok (.lastore, 1) := dk_lastore (by decide +kernel)
theorem dX12_termsOf_121 : decode cX12_termsOf 121 = .ok (.aload_n 0, 1) := dk_aload_n_0 (by decide +kernel)
theorem dX12_termsOf_122 : decode cX12_termsOf 122 = .ok (.dup, 1) := dk_dup (by decide +kernel)
theorem dX12_termsOf_123 : decode cX12_termsOf 123 = .ok (.getfield 271, 3) := dk_getfield 271 (b1 := 1) (b2 := 15) (by decide +kernel) (by decide +kernel) (by decide +kernel) (by decide +kernel)
theorem dX12_termsOf_126 : decode cX12_termsOf 126 = .ok (.iconst 1, 1) := dk_iconst_1 (by decide +kernel)
theorem dX12_termsOf_127 : decode cX12_termsOf 127 = .ok (.iadd, 1) := dk_iadd (by decide +kernel)
theorem dX12_termsOf_128 : decode cX12_termsOf 128 = .ok (.putfield 271, 3) := dk_putfield 271 (b1 := 1) (b2 := 15) (by decide +kernel) (by decide +kernel) (by decide +kernel) (by decide +kernel)
set_option maxRecDepth 20000 in
theorem vX12_termsOf_41 {E : sm_E} {L : sm_S → Prop} {d : Nat} {vs : List Value} {x5 : Int32} {x6 : Int64} {x8 : Int64}  {m : sm_M} {Q : sm_M → Prop} (hly : ∀ S, L S → ly S) (hd : 1 ≤ d) 
  (h : (¬ x8 = 0) ∧ (vp_in (m.1 109 36) 64) ∧ ∀ m_2 : sm_M, m_2 = sm_wJ m 127 (m.1 109 36).toNatClampNeg (x6 / x8) →
   ∀ m_4 : sm_M, m_4 = sm_wI m_2 109 36 ((m_2.1 109 36) + 1) →
   (¬ x8 = 0) ∧ ∀ x10_6 : Int64, x10_6 = sm_remL x6 x8 →
   (¬ x10_6 = 0 →
      gX12_termsOf_41 E L d vs x5 x8 x10_6 m_4 Q) ∧
   (x10_6 = 0 →
      (¬ (sm_rem (m_4.1 109 36) 2) = 0 →
         gX12_termsOf_134 E L d vs x5 0 m_4 Q) ∧
      ((sm_rem (m_4.1 109 36) 2) = 0 →
         (vp_in ((m_4.1 109 36) - 1) 64) ∧ (vp_in ((m_4.1 109 36) - 1) 64) ∧ ∀ m_11 : sm_M, m_11 = sm_wJ m_4 127 ((m_4.1 109 36) - 1).toNatClampNeg ((m_4.2.1 127 ((m_4.1 109 36) - 1).toNatClampNeg) - 1) →
         (vp_in (m_11.1 109 36) 64) ∧ ∀ m_13 : sm_M, m_13 = sm_wJ m_11 127 (m_11.1 109 36).toNatClampNeg 1 →
         ∀ m_15 : sm_M, m_15 = sm_wI m_13 109 36 ((m_13.1 109 36) + 1) →
         gX12_termsOf_134 E L d vs x5 0 m_15 Q))) :
  gX12_termsOf_41 E L d vs x5 x6 x8 m Q := by
  refine sm_aload_n (Y := mX12_termsOf) (pc := 41) 0 0 rfl rfl dX12_termsOf_41 ?_
  refine gf_RX12_67 (Y := mX12_termsOf) (pc := 42) (b := 127) rfl ((lk_109 hly) _) (lf_109_35 hly _) dX12_termsOf_42 ?_
  refine sm_aload_n (Y := mX12_termsOf) (pc := 45) 0 0 rfl rfl dX12_termsOf_45 ?_
  refine gf_RX12_271 (Y := mX12_termsOf) (pc := 46) rfl ((lk_109 hly) _) dX12_termsOf_46 ?_
  refine sm_lload (Y := mX12_termsOf) (pc := 49) 2 6 rfl dX12_termsOf_49 ?_
  refine sm_lload (Y := mX12_termsOf) (pc := 51) 3 8 rfl dX12_termsOf_51 ?_
  obtain ⟨hn_1, h⟩ := h
  refine sm_ldiv (Y := mX12_termsOf) (pc := 53) hn_1 dX12_termsOf_53 ?_
  obtain ⟨hn_3, h⟩ := h
  refine sm_last (Y := mX12_termsOf) (pc := 54) (la_127 hly _) hn_3 dX12_termsOf_54 (fun m_2 em_2 => ?_)
  replace h := h m_2 em_2
  refine sm_aload_n (Y := mX12_termsOf) (pc := 55) 0 0 rfl rfl dX12_termsOf_55 ?_
  refine sm_dup (Y := mX12_termsOf) (pc := 56) rfl dX12_termsOf_56 ?_
  refine gf_RX12_271 (Y := mX12_termsOf) (pc := 57) rfl ((lk_109 hly) _) dX12_termsOf_57 ?_
  refine sm_iconst (Y := mX12_termsOf) (pc := 60) 1 (by decide) dX12_termsOf_60 ?_
  refine sm_iadd (Y := mX12_termsOf) (pc := 61) dX12_termsOf_61 ?_
  refine pf_RX12_271 (Y := mX12_termsOf) (pc := 62) rfl ((lk_109 hly) _) dX12_termsOf_62 (fun m_4 em_4 => ?_)
  replace h := h m_4 em_4
  refine sm_lload (Y := mX12_termsOf) (pc := 65) 2 6 rfl dX12_termsOf_65 ?_
  refine sm_lload (Y := mX12_termsOf) (pc := 67) 3 8 rfl dX12_termsOf_67 ?_
  obtain ⟨hn_5, h⟩ := h
  refine sm_lrem (Y := mX12_termsOf) (pc := 69) hn_5 dX12_termsOf_69 ?_
  refine sm_lstore (Y := mX12_termsOf) (pc := 70) (fun y => [(10, .long y), (0, .ref (sm_B E + 109)), (5, .int x5), (6, .long x6), (8, .long x8)]) 10 (by decide) (fun _ => rfl) dX12_termsOf_70 (fun x10_6 ex10_6 => ?_)
  replace h := h x10_6 ex10_6
  refine sm_lload (Y := mX12_termsOf) (pc := 72) 4 8 rfl dX12_termsOf_72 ?_
  refine sm_lstore0 (Y := mX12_termsOf) (pc := 74) [(6, .long x8), (10, .long x10_6), (0, .ref (sm_B E + 109)), (5, .int x5), (8, .long x8)] 6 (by decide) rfl dX12_termsOf_74 ?_
  refine sm_lload (Y := mX12_termsOf) (pc := 76) 1 10 rfl dX12_termsOf_76 ?_
  refine sm_lstore0 (Y := mX12_termsOf) (pc := 78) [(8, .long x10_6), (6, .long x8), (10, .long x10_6), (0, .ref (sm_B E + 109)), (5, .int x5)] 8 (by decide) rfl dX12_termsOf_78 ?_
  refine sm_lload (Y := mX12_termsOf) (pc := 80) 0 8 rfl dX12_termsOf_80 ?_
  refine sm_lconst (Y := mX12_termsOf) (pc := 82) 0 (by decide) dX12_termsOf_82 ?_
  refine sm_lif_ne (Y := mX12_termsOf) (pc := 83) 41 (by decide) dX12_termsOf_83 dX12_termsOf_84 (fun hc => ?_) (fun hc => ?_)
  · replace h := h.1 hc
    refine sm_sub [3, 4, 1, 0] rfl ?_
    exact h
  · replace h := h.2 hc
    refine sm_aload_n (Y := mX12_termsOf) (pc := 87) 3 0 rfl rfl dX12_termsOf_87 ?_
    refine gf_RX12_271 (Y := mX12_termsOf) (pc := 88) rfl ((lk_109 hly) _) dX12_termsOf_88 ?_
    refine sm_iconst (Y := mX12_termsOf) (pc := 91) 2 (by decide) dX12_termsOf_91 ?_
    refine sm_irem (Y := mX12_termsOf) (pc := 92) (by decide) dX12_termsOf_92 ?_
    refine sm_if_ne (Y := mX12_termsOf) (pc := 93) 131 (by decide) dX12_termsOf_93 (fun hc => ?_) (fun hc => ?_)
    · replace h := h.1 hc
      refine sm_iconst (Y := mX12_termsOf) (pc := 131) 0 (by decide) dX12_termsOf_131 ?_
      refine sm_istore0 (Y := mX12_termsOf) (pc := 132) [(10, .int 0), (8, .long x10_6), (6, .long x8), (0, .ref (sm_B E + 109)), (5, .int x5)] 10 (by decide) rfl dX12_termsOf_132 ?_
      refine sm_sub [3, 4, 0] rfl ?_
      exact h
    · replace h := h.2 hc
      refine sm_aload_n (Y := mX12_termsOf) (pc := 96) 3 0 rfl rfl dX12_termsOf_96 ?_
      refine gf_RX12_67 (Y := mX12_termsOf) (pc := 97) (b := 127) rfl ((lk_109 hly) _) (lf_109_35 hly _) dX12_termsOf_97 ?_
      refine sm_aload_n (Y := mX12_termsOf) (pc := 100) 3 0 rfl rfl dX12_termsOf_100 ?_
      refine gf_RX12_271 (Y := mX12_termsOf) (pc := 101) rfl ((lk_109 hly) _) dX12_termsOf_101 ?_
      refine sm_iconst (Y := mX12_termsOf) (pc := 104) 1 (by decide) dX12_termsOf_104 ?_
      refine sm_isub (Y := mX12_termsOf) (pc := 105) dX12_termsOf_105 ?_
      refine sm_dup2_11 (Y := mX12_termsOf) (pc := 106) rfl rfl dX12_termsOf_106 ?_
      obtain ⟨hn_10, h⟩ := h
      refine sm_lald (Y := mX12_termsOf) (pc := 107) (la_127 hly _) hn_10 dX12_termsOf_107 ?_
      refine sm_lconst (Y := mX12_termsOf) (pc := 108) 1 (by decide) dX12_termsOf_108 ?_
      refine sm_lsub (Y := mX12_termsOf) (pc := 109) dX12_termsOf_109 ?_
      obtain ⟨hn_12, h⟩ := h
      refine sm_last (Y := mX12_termsOf) (pc := 110) (la_127 hly _) hn_12 dX12_termsOf_110 (fun m_11 em_11 => ?_)
      replace h := h m_11 em_11
      refine sm_aload_n (Y := mX12_termsOf) (pc := 111) 3 0 rfl rfl dX12_termsOf_111 ?_
      refine gf_RX12_67 (Y := mX12_termsOf) (pc := 112) (b := 127) rfl ((lk_109 hly) _) (lf_109_35 hly _) dX12_termsOf_112 ?_
      refine sm_aload_n (Y := mX12_termsOf) (pc := 115) 3 0 rfl rfl dX12_termsOf_115 ?_
      refine gf_RX12_271 (Y := mX12_termsOf) (pc := 116) rfl ((lk_109 hly) _) dX12_termsOf_116 ?_
      refine sm_lconst (Y := mX12_termsOf) (pc := 119) 1 (by decide) dX12_termsOf_119 ?_
      obtain ⟨hn_14, h⟩ := h
      refine sm_last (Y := mX12_termsOf) (pc := 120) (la_127 hly _) hn_14 dX12_termsOf_120 (fun m_13 em_13 => ?_)
      replace h := h m_13 em_13
      refine sm_aload_n (Y := mX12_termsOf) (pc := 121) 3 0 rfl rfl dX12_termsOf_121 ?_
      refine sm_dup (Y := mX12_termsOf) (pc := 122) rfl dX12_termsOf_122 ?_
      refine gf_RX12_271 (Y := mX12_termsOf) (pc := 123) rfl ((lk_109 hly) _) dX12_termsOf_123 ?_
      refine sm_iconst (Y := mX12_termsOf) (pc := 126) 1 (by decide) dX12_termsOf_126 ?_
      refine sm_iadd (Y := mX12_termsOf) (pc := 127) dX12_termsOf_127 ?_
      refine pf_RX12_271 (Y := mX12_termsOf) (pc := 128) rfl ((lk_109 hly) _) dX12_termsOf_128 (fun m_15 em_15 => ?_)
      replace h := h m_15 em_15
      refine sm_iconst (Y := mX12_termsOf) (pc := 131) 0 (by decide) dX12_termsOf_131 ?_
      refine sm_istore0 (Y := mX12_termsOf) (pc := 132) [(10, .int 0), (8, .long x10_6), (6, .long x8), (0, .ref (sm_B E + 109)), (5, .int x5)] 10 (by decide) rfl dX12_termsOf_132 ?_
      refine sm_sub [3, 4, 0] rfl ?_
      exact h
theorem dX12_termsOf_23 : decode cX12_termsOf 23 = .ok (.istore 5, 2) := dk_istore 5 (b := 5) (by decide +kernel) (by decide +kernel) (by decide +kernel)
theorem dX12_termsOf_25 : decode cX12_termsOf 25 = .ok (.iload 5, 2) := dk_iload 5 (b := 5) (by decide +kernel) (by decide +kernel) (by decide +kernel)
theorem dX12_termsOf_27 : decode cX12_termsOf 27 = .ok (.ifCond .eq 8, 3) := dk_ifCond_eq 8 (b1 := 0) (b2 := 8) (by decide +kernel) (by decide +kernel) (by decide +kernel) (by decide +kernel)
theorem dX12_termsOf_35 : decode cX12_termsOf 35 = .ok (.lload_n 1, 1) := dk_lload_n_1 (by decide +kernel)
theorem dX12_termsOf_36 : decode cX12_termsOf 36 = .ok (.lstore 6, 2) := dk_lstore 6 (b := 6) (by decide +kernel) (by decide +kernel) (by decide +kernel)
theorem dX12_termsOf_38 : decode cX12_termsOf 38 = .ok (.lload_n 3, 1) := dk_lload_n_3 (by decide +kernel)
theorem dX12_termsOf_39 : decode cX12_termsOf 39 = .ok (.lstore 8, 2) := dk_lstore 8 (b := 8) (by decide +kernel) (by decide +kernel) (by decide +kernel)
theorem dX12_termsOf_30 : decode cX12_termsOf 30 = .ok (.lload_n 1, 1) := dk_lload_n_1 (by decide +kernel)
theorem dX12_termsOf_31 : decode cX12_termsOf 31 = .ok (.lneg, 1) := dk_lneg (by decide +kernel)
theorem dX12_termsOf_32 : decode cX12_termsOf 32 = .ok (.goto 4, 3) := dk_goto 4 (b1 := 0) (b2 := 4) (by decide +kernel) (by decide +kernel) (by decide +kernel) (by decide +kernel)
set_option maxRecDepth 20000 in
theorem vX12_termsOf_23 {E : sm_E} {L : sm_S → Prop} {d : Nat} {vs : List Value} {x1 : Int64} {x3 : Int64} {s0 : Int32}  {m : sm_M} {Q : sm_M → Prop}  (hd : 1 ≤ d) 
  (h : (s0 = 0 →
      gX12_termsOf_41 E L d vs s0 x1 x3 m Q) ∧
   (¬ s0 = 0 →
      ∀ x6_4 : Int64, x6_4 = -x1 →
      gX12_termsOf_41 E L d vs s0 x6_4 x3 m Q)) :
  gX12_termsOf_23 E L d vs x1 x3 s0 m Q := by
  refine sm_istore0 (Y := mX12_termsOf) (pc := 23) [(5, .int s0), (0, .ref (sm_B E + 109)), (1, .long x1), (3, .long x3)] 5 (by decide) rfl dX12_termsOf_23 ?_
  refine sm_iload (Y := mX12_termsOf) (pc := 25) 0 5 rfl dX12_termsOf_25 ?_
  refine sm_if_eq (Y := mX12_termsOf) (pc := 27) 35 (by decide) dX12_termsOf_27 (fun hc => ?_) (fun hc => ?_)
  · replace h := h.1 hc
    refine sm_lload_n (Y := mX12_termsOf) (pc := 35) 2 1 rfl rfl dX12_termsOf_35 ?_
    refine sm_lstore0 (Y := mX12_termsOf) (pc := 36) [(6, .long x1), (5, .int s0), (0, .ref (sm_B E + 109)), (1, .long x1), (3, .long x3)] 6 (by decide) rfl dX12_termsOf_36 ?_
    refine sm_lload_n (Y := mX12_termsOf) (pc := 38) 4 3 rfl rfl dX12_termsOf_38 ?_
    refine sm_lstore0 (Y := mX12_termsOf) (pc := 39) [(8, .long x3), (6, .long x1), (5, .int s0), (0, .ref (sm_B E + 109)), (1, .long x1), (3, .long x3)] 8 (by decide) rfl dX12_termsOf_39 ?_
    refine sm_sub [3, 2, 1, 0] rfl ?_
    exact h
  · replace h := h.2 hc
    refine sm_lload_n (Y := mX12_termsOf) (pc := 30) 2 1 rfl rfl dX12_termsOf_30 ?_
    refine sm_lneg (Y := mX12_termsOf) (pc := 31) dX12_termsOf_31 ?_
    refine sm_goto (Y := mX12_termsOf) (pc := 32) 36 (by decide) dX12_termsOf_32 ?_
    refine sm_lstore (Y := mX12_termsOf) (pc := 36) (fun y => [(6, .long y), (5, .int s0), (0, .ref (sm_B E + 109)), (1, .long x1), (3, .long x3)]) 6 (by decide) (fun _ => rfl) dX12_termsOf_36 (fun x6_4 ex6_4 => ?_)
    replace h := h x6_4 ex6_4
    refine sm_lload_n (Y := mX12_termsOf) (pc := 38) 4 3 rfl rfl dX12_termsOf_38 ?_
    refine sm_lstore0 (Y := mX12_termsOf) (pc := 39) [(8, .long x3), (6, .long x6_4), (5, .int s0), (0, .ref (sm_B E + 109)), (1, .long x1), (3, .long x3)] 8 (by decide) rfl dX12_termsOf_39 ?_
    refine sm_sub [3, 2, 1, 0] rfl ?_
    exact h
theorem dX12_termsOf_0 : decode cX12_termsOf 0 = .ok (.aload_n 0, 1) := dk_aload_n_0 (by decide +kernel)
theorem dX12_termsOf_1 : decode cX12_termsOf 1 = .ok (.iconst 0, 1) := dk_iconst_0 (by decide +kernel)
theorem dX12_termsOf_2 : decode cX12_termsOf 2 = .ok (.putfield 271, 3) := dk_putfield 271 (b1 := 1) (b2 := 15) (by decide +kernel) (by decide +kernel) (by decide +kernel) (by decide +kernel)
theorem dX12_termsOf_5 : decode cX12_termsOf 5 = .ok (.lload_n 3, 1) := dk_lload_n_3 (by decide +kernel)
theorem dX12_termsOf_6 : decode cX12_termsOf 6 = .ok (.lconst 0, 1) := dk_lconst_0 (by decide +kernel)
theorem dX12_termsOf_7 : decode cX12_termsOf 7 = .ok (.lcmp, 1) := dk_lcmp (by decide +kernel)
theorem dX12_termsOf_8 : decode cX12_termsOf 8 = .ok (.ifCond .ne 4, 3) := dk_ifCond_ne 4 (b1 := 0) (b2 := 4) (by decide +kernel) (by decide +kernel) (by decide +kernel) (by decide +kernel)
theorem dX12_termsOf_12 : decode cX12_termsOf 12 = .ok (.lload_n 1, 1) := dk_lload_n_1 (by decide +kernel)
theorem dX12_termsOf_13 : decode cX12_termsOf 13 = .ok (.lconst 0, 1) := dk_lconst_0 (by decide +kernel)
theorem dX12_termsOf_14 : decode cX12_termsOf 14 = .ok (.lcmp, 1) := dk_lcmp (by decide +kernel)
theorem dX12_termsOf_15 : decode cX12_termsOf 15 = .ok (.ifCond .ge 7, 3) := dk_ifCond_ge 7 (b1 := 0) (b2 := 7) (by decide +kernel) (by decide +kernel) (by decide +kernel) (by decide +kernel)
theorem dX12_termsOf_22 : decode cX12_termsOf 22 = .ok (.iconst 0, 1) := dk_iconst_0 (by decide +kernel)
theorem dX12_termsOf_18 : decode cX12_termsOf 18 = .ok (.iconst 1, 1) := dk_iconst_1 (by decide +kernel)
theorem dX12_termsOf_19 : decode cX12_termsOf 19 = .ok (.goto 4, 3) := dk_goto 4 (b1 := 0) (b2 := 4) (by decide +kernel) (by decide +kernel) (by decide +kernel) (by decide +kernel)
theorem dX12_termsOf_11 : decode cX12_termsOf 11 = .ok (.return_, 1) := dk_return_ (by decide +kernel)
set_option maxRecDepth 20000 in
theorem vX12_termsOf_0 {E : sm_E} {L : sm_S → Prop} {d : Nat} {x1 : Int64} {x3 : Int64}  {m : sm_M} {Q : sm_M → Prop} (hly : ∀ S, L S → ly S) (hd : 1 ≤ d) 
  (h : ∀ m_1 : sm_M, m_1 = sm_wI m 109 36 0 →
   (¬ x3 = 0 →
      (0 ≤ x1 →
         gX12_termsOf_23 E L d ([.ref (sm_B E + 109), .long x1, .long x3]) x1 x3 0 m_1 Q) ∧
      (¬ 0 ≤ x1 →
         gX12_termsOf_23 E L d ([.ref (sm_B E + 109), .long x1, .long x3]) x1 x3 1 m_1 Q)) ∧
   (x3 = 0 →
      Q m_1)) :
  sm_callV E L mX12_termsOf d 0 0 [.ref (sm_B E + 109), .long x1, .long x3] m Q := by
  refine sm_enter (by decide +kernel) (by simp [lg_sl, Value.category]) ?_
  refine sm_aload_n (Y := mX12_termsOf) (pc := 0) 0 0 rfl rfl dX12_termsOf_0 ?_
  refine sm_iconst (Y := mX12_termsOf) (pc := 1) 0 (by decide) dX12_termsOf_1 ?_
  refine pf_RX12_271 (Y := mX12_termsOf) (pc := 2) rfl ((lk_109 hly) _) dX12_termsOf_2 (fun m_1 em_1 => ?_)
  replace h := h m_1 em_1
  refine sm_lload_n (Y := mX12_termsOf) (pc := 5) 2 3 rfl rfl dX12_termsOf_5 ?_
  refine sm_lconst (Y := mX12_termsOf) (pc := 6) 0 (by decide) dX12_termsOf_6 ?_
  refine sm_lif_ne (Y := mX12_termsOf) (pc := 7) 12 (by decide) dX12_termsOf_7 dX12_termsOf_8 (fun hc => ?_) (fun hc => ?_)
  · replace h := h.1 hc
    refine sm_lload_n (Y := mX12_termsOf) (pc := 12) 1 1 rfl rfl dX12_termsOf_12 ?_
    refine sm_lconst (Y := mX12_termsOf) (pc := 13) 0 (by decide) dX12_termsOf_13 ?_
    refine sm_lif_ge (Y := mX12_termsOf) (pc := 14) 22 (by decide) dX12_termsOf_14 dX12_termsOf_15 (fun hc => ?_) (fun hc => ?_)
    · replace h := h.1 hc
      refine sm_iconst (Y := mX12_termsOf) (pc := 22) 0 (by decide) dX12_termsOf_22 ?_
      exact h
    · replace h := h.2 hc
      refine sm_iconst (Y := mX12_termsOf) (pc := 18) 1 (by decide) dX12_termsOf_18 ?_
      refine sm_goto (Y := mX12_termsOf) (pc := 19) 23 (by decide) dX12_termsOf_19 ?_
      exact h
  · replace h := h.2 hc
    exact sm_vret (Y := mX12_termsOf) (pc := 11) rfl rfl rfl dX12_termsOf_11 ⟨rfl, h⟩
abbrev mX12_term : sm_Y := (yX12_term, cX12_term, 3, (some FieldType.int))
theorem fX12_term : sm_mi mX12_term RX12 2 := ⟨sm_in 1486 (by decide +kernel) (by decide +kernel), sm_in 1484 (by decide +kernel) (by decide +kernel), sm_in 1485 (by decide +kernel) (by decide +kernel), sm_in 93 (by decide +kernel) (by decide +kernel), rfl, ⟨by decide +kernel, by decide +kernel, by decide +kernel⟩, by decide⟩
theorem dX12_term_0 : decode cX12_term 0 = .ok (.iload_n 1, 1) := dk_iload_n_1 (by decide +kernel)
theorem dX12_term_1 : decode cX12_term 1 = .ok (.invokestatic 184, 3) := dk_invokestatic 184 (b1 := 0) (b2 := 184) (by decide +kernel) (by decide +kernel) (by decide +kernel) (by decide +kernel)
theorem dX12_term_4 : decode cX12_term 4 = .ok (.ifCond .eq 8, 3) := dk_ifCond_eq 8 (b1 := 0) (b2 := 8) (by decide +kernel) (by decide +kernel) (by decide +kernel) (by decide +kernel)
theorem dX12_term_12 : decode cX12_term 12 = .ok (.aload_n 0, 1) := dk_aload_n_0 (by decide +kernel)
theorem dX12_term_13 : decode cX12_term 13 = .ok (.iconst 1, 1) := dk_iconst_1 (by decide +kernel)
theorem dX12_term_14 : decode cX12_term 14 = .ok (.invokevirtual 194, 3) := dk_invokevirtual 194 (b1 := 0) (b2 := 194) (by decide +kernel) (by decide +kernel) (by decide +kernel) (by decide +kernel)
theorem dX12_term_17 : decode cX12_term 17 = .ok (.ireturn, 1) := dk_ireturn (by decide +kernel)
theorem dX12_term_7 : decode cX12_term 7 = .ok (.iload_n 2, 1) := dk_iload_n_2 (by decide +kernel)
theorem dX12_term_8 : decode cX12_term 8 = .ok (.iconst (-1), 1) := dk_iconst_m1 (by decide +kernel)
theorem dX12_term_9 : decode cX12_term 9 = .ok (.if_icmp .ge 9, 3) := dk_if_icmp_ge 9 (b1 := 0) (b2 := 9) (by decide +kernel) (by decide +kernel) (by decide +kernel) (by decide +kernel)
theorem dX12_term_18 : decode cX12_term 18 = .ok (.aload_n 0, 1) := dk_aload_n_0 (by decide +kernel)
theorem dX12_term_19 : decode cX12_term 19 = .ok (.iload_n 1, 1) := dk_iload_n_1 (by decide +kernel)
theorem dX12_term_20 : decode cX12_term 20 = .ok (.invokevirtual 198, 3) := dk_invokevirtual 198 (b1 := 0) (b2 := 198) (by decide +kernel) (by decide +kernel) (by decide +kernel) (by decide +kernel)
theorem dX12_term_23 : decode cX12_term 23 = .ok (.ifCond .ne 9, 3) := dk_ifCond_ne 9 (b1 := 0) (b2 := 9) (by decide +kernel) (by decide +kernel) (by decide +kernel) (by decide +kernel)
theorem dX12_term_32 : decode cX12_term 32 = .ok (.aload_n 0, 1) := dk_aload_n_0 (by decide +kernel)
theorem dX12_term_33 : decode cX12_term 33 = .ok (.aload_n 0, 1) := dk_aload_n_0 (by decide +kernel)
theorem dX12_term_34 : decode cX12_term 34 = .ok (.getfield 170, 3) := dk_getfield 170 (b1 := 0) (b2 := 170) (by decide +kernel) (by decide +kernel) (by decide +kernel) (by decide +kernel)
theorem dX12_term_37 : decode cX12_term 37 = .ok (.aload_n 0, 1) := dk_aload_n_0 (by decide +kernel)
theorem dX12_term_38 : decode cX12_term 38 = .ok (.getfield 173, 3) := dk_getfield 173 (b1 := 0) (b2 := 173) (by decide +kernel) (by decide +kernel) (by decide +kernel) (by decide +kernel)
theorem wRX12_274 : Cond.methodLink RX12 274 yX12_termsOf ∈ sm_T := sm_in 1487 (by decide +kernel) (by decide +kernel)
theorem dX12_term_41 : decode cX12_term 41 = .ok (.invokevirtual 274, 3) := dk_invokevirtual 274 (b1 := 1) (b2 := 18) (by decide +kernel) (by decide +kernel) (by decide +kernel) (by decide +kernel)
theorem dX12_term_44 : decode cX12_term 44 = .ok (.iload_n 2, 1) := dk_iload_n_2 (by decide +kernel)
theorem dX12_term_45 : decode cX12_term 45 = .ok (.ifCond .ge 10, 3) := dk_ifCond_ge 10 (b1 := 0) (b2 := 10) (by decide +kernel) (by decide +kernel) (by decide +kernel) (by decide +kernel)
theorem dX12_term_55 : decode cX12_term 55 = .ok (.iload_n 2, 1) := dk_iload_n_2 (by decide +kernel)
theorem dX12_term_56 : decode cX12_term 56 = .ok (.aload_n 0, 1) := dk_aload_n_0 (by decide +kernel)
theorem dX12_term_57 : decode cX12_term 57 = .ok (.getfield 271, 3) := dk_getfield 271 (b1 := 1) (b2 := 15) (by decide +kernel) (by decide +kernel) (by decide +kernel) (by decide +kernel)
theorem dX12_term_60 : decode cX12_term 60 = .ok (.if_icmp .ge 13, 3) := dk_if_icmp_ge 13 (b1 := 0) (b2 := 13) (by decide +kernel) (by decide +kernel) (by decide +kernel) (by decide +kernel)
theorem dX12_term_73 : decode cX12_term 73 = .ok (.aload_n 0, 1) := dk_aload_n_0 (by decide +kernel)
theorem dX12_term_74 : decode cX12_term 74 = .ok (.iconst 2, 1) := dk_iconst_2 (by decide +kernel)
theorem dX12_term_75 : decode cX12_term 75 = .ok (.invokevirtual 194, 3) := dk_invokevirtual 194 (b1 := 0) (b2 := 194) (by decide +kernel) (by decide +kernel) (by decide +kernel) (by decide +kernel)
theorem dX12_term_78 : decode cX12_term 78 = .ok (.ireturn, 1) := dk_ireturn (by decide +kernel)
theorem dX12_term_63 : decode cX12_term 63 = .ok (.aload_n 0, 1) := dk_aload_n_0 (by decide +kernel)
theorem dX12_term_64 : decode cX12_term 64 = .ok (.getfield 67, 3) := dk_getfield 67 (b1 := 0) (b2 := 67) (by decide +kernel) (by decide +kernel) (by decide +kernel) (by decide +kernel)
theorem dX12_term_67 : decode cX12_term 67 = .ok (.iload_n 2, 1) := dk_iload_n_2 (by decide +kernel)
theorem dX12_term_68 : decode cX12_term 68 = .ok (.laload, 1) := dk_laload (by decide +kernel)
theorem dX12_term_69 : decode cX12_term 69 = .ok (.l2i, 1) := dk_l2i (by decide +kernel)
theorem dX12_term_70 : decode cX12_term 70 = .ok (.goto 8, 3) := dk_goto 8 (b1 := 0) (b2 := 8) (by decide +kernel) (by decide +kernel) (by decide +kernel) (by decide +kernel)
theorem dX12_term_48 : decode cX12_term 48 = .ok (.aload_n 0, 1) := dk_aload_n_0 (by decide +kernel)
theorem dX12_term_49 : decode cX12_term 49 = .ok (.getfield 271, 3) := dk_getfield 271 (b1 := 1) (b2 := 15) (by decide +kernel) (by decide +kernel) (by decide +kernel) (by decide +kernel)
theorem dX12_term_52 : decode cX12_term 52 = .ok (.goto 26, 3) := dk_goto 26 (b1 := 0) (b2 := 26) (by decide +kernel) (by decide +kernel) (by decide +kernel) (by decide +kernel)
theorem dX12_term_26 : decode cX12_term 26 = .ok (.aload_n 0, 1) := dk_aload_n_0 (by decide +kernel)
theorem dX12_term_27 : decode cX12_term 27 = .ok (.iconst 2, 1) := dk_iconst_2 (by decide +kernel)
theorem dX12_term_28 : decode cX12_term 28 = .ok (.invokevirtual 194, 3) := dk_invokevirtual 194 (b1 := 0) (b2 := 194) (by decide +kernel) (by decide +kernel) (by decide +kernel) (by decide +kernel)
theorem dX12_term_31 : decode cX12_term 31 = .ok (.ireturn, 1) := dk_ireturn (by decide +kernel)
set_option maxRecDepth 20000 in
theorem vX12_term_0 {E : sm_E} {L : sm_S → Prop} {d : Nat} {x1 : Int32} {x2 : Int32}  {m : sm_M} {Q : Int32 → sm_M → Prop} (hly : ∀ S, L S → ly S) (hd : 5 ≤ d) 
  (h : sm_callI E L mX12_isSlot 1 0 0 [.int x1] m (fun r_2 m_1 =>
   (r_2 = 0 →
      sm_callI E L mX12_finds 1 0 0 [.ref (sm_B E + 109), .int 1] m_1 (fun r_4 m_3 =>
      Q r_4 m_3)) ∧
   (¬ r_2 = 0 →
      ((-1) ≤ x2 →
         sm_callI E L mX12_fraction 4 0 0 [.ref (sm_B E + 109), .int x1] m_1 (fun r_6 m_5 =>
         (¬ r_6 = 0 →
            sm_callV E L mX12_termsOf 1 0 0 [.ref (sm_B E + 109), .long (m_5.2.1 109 29), .long (m_5.2.1 109 30)] m_5 (fun m_7 =>
            (0 ≤ x2 →
               ((m_7.1 109 36) ≤ x2 →
                  sm_callI E L mX12_finds 1 0 0 [.ref (sm_B E + 109), .int 2] m_7 (fun r_9 m_8 =>
                  Q r_9 m_8)) ∧
               (¬ (m_7.1 109 36) ≤ x2 →
                  (vp_in x2 64) ∧ Q ((m_7.2.1 127 x2.toNatClampNeg).toInt32) m_7)) ∧
            (¬ 0 ≤ x2 →
               Q (m_7.1 109 36) m_7))) ∧
         (r_6 = 0 →
            sm_callI E L mX12_finds 1 0 0 [.ref (sm_B E + 109), .int 2] m_5 (fun r_12 m_11 =>
            Q r_12 m_11)))) ∧
      (¬ (-1) ≤ x2 →
         sm_callI E L mX12_finds 1 0 0 [.ref (sm_B E + 109), .int 1] m_1 (fun r_14 m_13 =>
         Q r_14 m_13))))) :
  sm_callI E L mX12_term d 0 0 [.ref (sm_B E + 109), .int x1, .int x2] m Q := by
  refine sm_enter (by decide +kernel) (by simp [lg_sl, Value.category]) ?_
  refine sm_iload_n (Y := mX12_term) (pc := 0) 1 1 rfl rfl dX12_term_0 ?_
  refine sm_is_I (Y := mX12_term) (pc := 1) (As := [.int x1]) fX12_isSlot wRX12_184 rfl (Nat.le_trans (by decide) hd) (Nat.le_of_ble_eq_true rfl) ⟨Nat.le_refl _, Nat.le_refl _⟩ dX12_term_1 rfl (sm_monoI h (fun r_2 m_1 h => ?_))
  refine sm_if_eq (Y := mX12_term) (pc := 4) 12 (by decide) dX12_term_4 (fun hc => ?_) (fun hc => ?_)
  · replace h := h.1 hc
    refine sm_aload_n (Y := mX12_term) (pc := 12) 0 0 rfl rfl dX12_term_12 ?_
    refine sm_iconst (Y := mX12_term) (pc := 13) 1 (by decide) dX12_term_13 ?_
    refine sm_iv_I (Y := mX12_term) (pc := 14) (As := [.int 1]) (a := 109) fX12_finds wRX12_194 (lk_109 hly) (by decide) rfl rfl rfl (Nat.le_trans (by decide) hd) (Nat.le_of_ble_eq_true rfl) ⟨Nat.le_refl _, Nat.le_refl _⟩ dX12_term_14 rfl (sm_monoI h (fun r_4 m_3 h => ?_))
    exact sm_iret (Y := mX12_term) (pc := 17) rfl rfl rfl dX12_term_17 ⟨_, rfl, h⟩
  · replace h := h.2 hc
    refine sm_iload_n (Y := mX12_term) (pc := 7) 2 2 rfl rfl dX12_term_7 ?_
    refine sm_iconst (Y := mX12_term) (pc := 8) (-1) (by decide) dX12_term_8 ?_
    refine sm_icmp_ge (Y := mX12_term) (pc := 9) 18 (by decide) dX12_term_9 (fun hc => ?_) (fun hc => ?_)
    · replace h := h.1 hc
      refine sm_aload_n (Y := mX12_term) (pc := 18) 0 0 rfl rfl dX12_term_18 ?_
      refine sm_iload_n (Y := mX12_term) (pc := 19) 1 1 rfl rfl dX12_term_19 ?_
      refine sm_iv_I (Y := mX12_term) (pc := 20) (As := [.int x1]) (a := 109) fX12_fraction wRX12_198 (lk_109 hly) (by decide) rfl rfl rfl (Nat.le_trans (by decide) hd) (Nat.le_of_ble_eq_true rfl) ⟨Nat.le_refl _, Nat.le_refl _⟩ dX12_term_20 rfl (sm_monoI h (fun r_6 m_5 h => ?_))
      refine sm_if_ne (Y := mX12_term) (pc := 23) 32 (by decide) dX12_term_23 (fun hc => ?_) (fun hc => ?_)
      · replace h := h.1 hc
        refine sm_aload_n (Y := mX12_term) (pc := 32) 0 0 rfl rfl dX12_term_32 ?_
        refine sm_aload_n (Y := mX12_term) (pc := 33) 0 0 rfl rfl dX12_term_33 ?_
        refine gf_RX12_170 (Y := mX12_term) (pc := 34) rfl ((lk_109 hly) _) dX12_term_34 ?_
        refine sm_aload_n (Y := mX12_term) (pc := 37) 0 0 rfl rfl dX12_term_37 ?_
        refine gf_RX12_173 (Y := mX12_term) (pc := 38) rfl ((lk_109 hly) _) dX12_term_38 ?_
        refine sm_iv_V (Y := mX12_term) (pc := 41) (As := [.long (m_5.2.1 109 29), .long (m_5.2.1 109 30)]) (a := 109) fX12_termsOf wRX12_274 (lk_109 hly) (by decide) rfl rfl rfl (Nat.le_trans (by decide) hd) (Nat.le_of_ble_eq_true rfl) ⟨Nat.le_refl _, Nat.le_refl _⟩ dX12_term_41 rfl (sm_monoV h (fun m_7 h => ?_))
        refine sm_iload_n (Y := mX12_term) (pc := 44) 2 2 rfl rfl dX12_term_44 ?_
        refine sm_if_ge (Y := mX12_term) (pc := 45) 55 (by decide) dX12_term_45 (fun hc => ?_) (fun hc => ?_)
        · replace h := h.1 hc
          refine sm_iload_n (Y := mX12_term) (pc := 55) 2 2 rfl rfl dX12_term_55 ?_
          refine sm_aload_n (Y := mX12_term) (pc := 56) 0 0 rfl rfl dX12_term_56 ?_
          refine gf_RX12_271 (Y := mX12_term) (pc := 57) rfl ((lk_109 hly) _) dX12_term_57 ?_
          refine sm_icmp_ge (Y := mX12_term) (pc := 60) 73 (by decide) dX12_term_60 (fun hc => ?_) (fun hc => ?_)
          · replace h := h.1 hc
            refine sm_aload_n (Y := mX12_term) (pc := 73) 0 0 rfl rfl dX12_term_73 ?_
            refine sm_iconst (Y := mX12_term) (pc := 74) 2 (by decide) dX12_term_74 ?_
            refine sm_iv_I (Y := mX12_term) (pc := 75) (As := [.int 2]) (a := 109) fX12_finds wRX12_194 (lk_109 hly) (by decide) rfl rfl rfl (Nat.le_trans (by decide) hd) (Nat.le_of_ble_eq_true rfl) ⟨Nat.le_refl _, Nat.le_refl _⟩ dX12_term_75 rfl (sm_monoI h (fun r_9 m_8 h => ?_))
            exact sm_iret (Y := mX12_term) (pc := 78) rfl rfl rfl dX12_term_78 ⟨_, rfl, h⟩
          · replace h := h.2 hc
            refine sm_aload_n (Y := mX12_term) (pc := 63) 0 0 rfl rfl dX12_term_63 ?_
            refine gf_RX12_67 (Y := mX12_term) (pc := 64) (b := 127) rfl ((lk_109 hly) _) (lf_109_35 hly _) dX12_term_64 ?_
            refine sm_iload_n (Y := mX12_term) (pc := 67) 2 2 rfl rfl dX12_term_67 ?_
            obtain ⟨hn_10, h⟩ := h
            refine sm_lald (Y := mX12_term) (pc := 68) (la_127 hly _) hn_10 dX12_term_68 ?_
            refine sm_l2i (Y := mX12_term) (pc := 69) dX12_term_69 ?_
            refine sm_goto (Y := mX12_term) (pc := 70) 78 (by decide) dX12_term_70 ?_
            exact sm_iret (Y := mX12_term) (pc := 78) rfl rfl rfl dX12_term_78 ⟨_, rfl, h⟩
        · replace h := h.2 hc
          refine sm_aload_n (Y := mX12_term) (pc := 48) 0 0 rfl rfl dX12_term_48 ?_
          refine gf_RX12_271 (Y := mX12_term) (pc := 49) rfl ((lk_109 hly) _) dX12_term_49 ?_
          refine sm_goto (Y := mX12_term) (pc := 52) 78 (by decide) dX12_term_52 ?_
          exact sm_iret (Y := mX12_term) (pc := 78) rfl rfl rfl dX12_term_78 ⟨_, rfl, h⟩
      · replace h := h.2 hc
        refine sm_aload_n (Y := mX12_term) (pc := 26) 0 0 rfl rfl dX12_term_26 ?_
        refine sm_iconst (Y := mX12_term) (pc := 27) 2 (by decide) dX12_term_27 ?_
        refine sm_iv_I (Y := mX12_term) (pc := 28) (As := [.int 2]) (a := 109) fX12_finds wRX12_194 (lk_109 hly) (by decide) rfl rfl rfl (Nat.le_trans (by decide) hd) (Nat.le_of_ble_eq_true rfl) ⟨Nat.le_refl _, Nat.le_refl _⟩ dX12_term_28 rfl (sm_monoI h (fun r_12 m_11 h => ?_))
        exact sm_iret (Y := mX12_term) (pc := 31) rfl rfl rfl dX12_term_31 ⟨_, rfl, h⟩
    · replace h := h.2 hc
      refine sm_aload_n (Y := mX12_term) (pc := 12) 0 0 rfl rfl dX12_term_12 ?_
      refine sm_iconst (Y := mX12_term) (pc := 13) 1 (by decide) dX12_term_13 ?_
      refine sm_iv_I (Y := mX12_term) (pc := 14) (As := [.int 1]) (a := 109) fX12_finds wRX12_194 (lk_109 hly) (by decide) rfl rfl rfl (Nat.le_trans (by decide) hd) (Nat.le_of_ble_eq_true rfl) ⟨Nat.le_refl _, Nat.le_refl _⟩ dX12_term_14 rfl (sm_monoI h (fun r_14 m_13 h => ?_))
      exact sm_iret (Y := mX12_term) (pc := 17) rfl rfl rfl dX12_term_17 ⟨_, rfl, h⟩
abbrev mX12_dance : sm_Y := (yX12_dance, cX12_dance, 11, (some FieldType.int))
theorem fX12_dance : sm_mi mX12_dance RX12 2 := ⟨sm_in 1494 (by decide +kernel) (by decide +kernel), sm_in 1492 (by decide +kernel) (by decide +kernel), sm_in 1493 (by decide +kernel) (by decide +kernel), sm_in 93 (by decide +kernel) (by decide +kernel), rfl, ⟨by decide +kernel, by decide +kernel, by decide +kernel⟩, by decide⟩
def gX12_dance_63 (E : sm_E) (L : sm_S → Prop) (d : Nat) (vs : List Value) (x2 : Int32) (x3 : Int64) (x5 : Int64) (x7 : Int32) (s0 : Int32) (m : sm_M) (Q : Int32 → sm_M → Prop) : Prop := sm_go E L mX12_dance d 0 0 vs 63 [(0, .ref (sm_B E + 109)), (2, .int x2), (3, .long x3), (5, .long x5), (7, .int x7)] [.int s0] m 0 0 (sm_Z E L vs 0 0 (sm_QI Q))
def gX12_dance_46 (E : sm_E) (L : sm_S → Prop) (d : Nat) (vs : List Value) (x2 : Int32) (x3 : Int64) (x5 : Int64) (x7 : Int32) (m : sm_M) (Q : Int32 → sm_M → Prop) : Prop := sm_go E L mX12_dance d 0 0 vs 46 [(0, .ref (sm_B E + 109)), (2, .int x2), (3, .long x3), (5, .long x5), (7, .int x7)] [] m 0 0 (sm_Z E L vs 0 0 (sm_QI Q))
theorem dX12_dance_63 : decode cX12_dance 63 = .ok (.istore 8, 2) := dk_istore 8 (b := 8) (by decide +kernel) (by decide +kernel) (by decide +kernel)
theorem dX12_dance_65 : decode cX12_dance 65 = .ok (.iload 7, 2) := dk_iload 7 (b := 7) (by decide +kernel) (by decide +kernel) (by decide +kernel)
theorem dX12_dance_67 : decode cX12_dance 67 = .ok (.iload_n 2, 1) := dk_iload_n_2 (by decide +kernel)
theorem dX12_dance_68 : decode cX12_dance 68 = .ok (.if_icmp .ne 6, 3) := dk_if_icmp_ne 6 (b1 := 0) (b2 := 6) (by decide +kernel) (by decide +kernel) (by decide +kernel) (by decide +kernel)
theorem dX12_dance_74 : decode cX12_dance 74 = .ok (.iload 8, 2) := dk_iload 8 (b := 8) (by decide +kernel) (by decide +kernel) (by decide +kernel)
theorem dX12_dance_76 : decode cX12_dance 76 = .ok (.ifCond .ne 11, 3) := dk_ifCond_ne 11 (b1 := 0) (b2 := 11) (by decide +kernel) (by decide +kernel) (by decide +kernel) (by decide +kernel)
theorem dX12_dance_87 : decode cX12_dance 87 = .ok (.lload_n 3, 1) := dk_lload_n_3 (by decide +kernel)
theorem dX12_dance_88 : decode cX12_dance 88 = .ok (.lstore 9, 2) := dk_lstore 9 (b := 9) (by decide +kernel) (by decide +kernel) (by decide +kernel)
theorem dX12_dance_90 : decode cX12_dance 90 = .ok (.lload 5, 2) := dk_lload 5 (b := 5) (by decide +kernel) (by decide +kernel) (by decide +kernel)
theorem dX12_dance_92 : decode cX12_dance 92 = .ok (.lneg, 1) := dk_lneg (by decide +kernel)
theorem dX12_dance_93 : decode cX12_dance 93 = .ok (.lstore_n 3, 1) := dk_lstore_n_3 (by decide +kernel)
theorem dX12_dance_94 : decode cX12_dance 94 = .ok (.lload 9, 2) := dk_lload 9 (b := 9) (by decide +kernel) (by decide +kernel) (by decide +kernel)
theorem dX12_dance_96 : decode cX12_dance 96 = .ok (.lstore 5, 2) := dk_lstore 5 (b := 5) (by decide +kernel) (by decide +kernel) (by decide +kernel)
theorem dX12_dance_98 : decode cX12_dance 98 = .ok (.iinc 7 1, 3) := dk_iinc 7 1 (b1 := 7) (b2 := 1) (by decide +kernel) (by decide +kernel) (by decide +kernel) (by decide +kernel) (by decide +kernel)
theorem dX12_dance_101 : decode cX12_dance 101 = .ok (.goto (-55), 3) := dk_goto (-55) (b1 := 255) (b2 := 201) (by decide +kernel) (by decide +kernel) (by decide +kernel) (by decide +kernel)
theorem dX12_dance_79 : decode cX12_dance 79 = .ok (.lload_n 3, 1) := dk_lload_n_3 (by decide +kernel)
theorem dX12_dance_80 : decode cX12_dance 80 = .ok (.lload 5, 2) := dk_lload 5 (b := 5) (by decide +kernel) (by decide +kernel) (by decide +kernel)
theorem dX12_dance_82 : decode cX12_dance 82 = .ok (.ladd, 1) := dk_ladd (by decide +kernel)
theorem dX12_dance_83 : decode cX12_dance 83 = .ok (.lstore_n 3, 1) := dk_lstore_n_3 (by decide +kernel)
theorem dX12_dance_84 : decode cX12_dance 84 = .ok (.goto 14, 3) := dk_goto 14 (b1 := 0) (b2 := 14) (by decide +kernel) (by decide +kernel) (by decide +kernel) (by decide +kernel)
theorem dX12_dance_71 : decode cX12_dance 71 = .ok (.iload 8, 2) := dk_iload 8 (b := 8) (by decide +kernel) (by decide +kernel) (by decide +kernel)
theorem dX12_dance_73 : decode cX12_dance 73 = .ok (.ireturn, 1) := dk_ireturn (by decide +kernel)
set_option maxRecDepth 20000 in
theorem vX12_dance_63 {E : sm_E} {L : sm_S → Prop} {d : Nat} {vs : List Value} {x2 : Int32} {x3 : Int64} {x5 : Int64} {x7 : Int32} {s0 : Int32}  {m : sm_M} {Q : Int32 → sm_M → Prop}  (hd : 5 ≤ d) 
  (h : (¬ x7 = x2 →
      (¬ s0 = 0 →
         ∀ x3_3 : Int64, x3_3 = -x5 →
         ∀ x7_5 : Int32, x7_5 = x7 + 1 →
         gX12_dance_46 E L d vs x2 x3_3 x3 x7_5 m Q) ∧
      (s0 = 0 →
         ∀ x3_6 : Int64, x3_6 = x3 + x5 →
         ∀ x7_7 : Int32, x7_7 = x7 + 1 →
         gX12_dance_46 E L d vs x2 x3_6 x5 x7_7 m Q)) ∧
   (x7 = x2 →
      Q s0 m)) :
  gX12_dance_63 E L d vs x2 x3 x5 x7 s0 m Q := by
  refine sm_istore0 (Y := mX12_dance) (pc := 63) [(8, .int s0), (0, .ref (sm_B E + 109)), (2, .int x2), (3, .long x3), (5, .long x5), (7, .int x7)] 8 (by decide) rfl dX12_dance_63 ?_
  refine sm_iload (Y := mX12_dance) (pc := 65) 5 7 rfl dX12_dance_65 ?_
  refine sm_iload_n (Y := mX12_dance) (pc := 67) 2 2 rfl rfl dX12_dance_67 ?_
  refine sm_icmp_ne (Y := mX12_dance) (pc := 68) 74 (by decide) dX12_dance_68 (fun hc => ?_) (fun hc => ?_)
  · replace h := h.1 hc
    refine sm_iload (Y := mX12_dance) (pc := 74) 0 8 rfl dX12_dance_74 ?_
    refine sm_if_ne (Y := mX12_dance) (pc := 76) 87 (by decide) dX12_dance_76 (fun hc => ?_) (fun hc => ?_)
    · replace h := h.1 hc
      refine sm_lload_n (Y := mX12_dance) (pc := 87) 3 3 rfl rfl dX12_dance_87 ?_
      refine sm_lstore0 (Y := mX12_dance) (pc := 88) [(9, .long x3), (8, .int s0), (0, .ref (sm_B E + 109)), (2, .int x2), (3, .long x3), (5, .long x5), (7, .int x7)] 9 (by decide) rfl dX12_dance_88 ?_
      refine sm_lload (Y := mX12_dance) (pc := 90) 5 5 rfl dX12_dance_90 ?_
      refine sm_lneg (Y := mX12_dance) (pc := 92) dX12_dance_92 ?_
      refine sm_lstore_n (Y := mX12_dance) (pc := 93) (fun y => [(3, .long y), (9, .long x3), (8, .int s0), (0, .ref (sm_B E + 109)), (2, .int x2), (5, .long x5), (7, .int x7)]) 3 rfl (by decide) (fun _ => rfl) dX12_dance_93 (fun x3_3 ex3_3 => ?_)
      replace h := h x3_3 ex3_3
      refine sm_lload (Y := mX12_dance) (pc := 94) 1 9 rfl dX12_dance_94 ?_
      refine sm_lstore0 (Y := mX12_dance) (pc := 96) [(5, .long x3), (3, .long x3_3), (9, .long x3), (8, .int s0), (0, .ref (sm_B E + 109)), (2, .int x2), (7, .int x7)] 5 (by decide) rfl dX12_dance_96 ?_
      refine sm_iinc (Y := mX12_dance) (pc := 98) (fun y => [(7, .int y), (5, .long x3), (3, .long x3_3), (9, .long x3), (8, .int s0), (0, .ref (sm_B E + 109)), (2, .int x2)]) 6 7 rfl (by decide) (fun _ => rfl) dX12_dance_98 (fun x7_5 ex7_5 => ?_)
      replace h := h x7_5 ex7_5
      refine sm_goto (Y := mX12_dance) (pc := 101) 46 (by decide) dX12_dance_101 ?_
      refine sm_sub [5, 6, 2, 1, 0] rfl ?_
      exact h
    · replace h := h.2 hc
      refine sm_lload_n (Y := mX12_dance) (pc := 79) 3 3 rfl rfl dX12_dance_79 ?_
      refine sm_lload (Y := mX12_dance) (pc := 80) 4 5 rfl dX12_dance_80 ?_
      refine sm_ladd (Y := mX12_dance) (pc := 82) dX12_dance_82 ?_
      refine sm_lstore_n (Y := mX12_dance) (pc := 83) (fun y => [(3, .long y), (8, .int s0), (0, .ref (sm_B E + 109)), (2, .int x2), (5, .long x5), (7, .int x7)]) 3 rfl (by decide) (fun _ => rfl) dX12_dance_83 (fun x3_6 ex3_6 => ?_)
      replace h := h x3_6 ex3_6
      refine sm_goto (Y := mX12_dance) (pc := 84) 98 (by decide) dX12_dance_84 ?_
      refine sm_iinc (Y := mX12_dance) (pc := 98) (fun y => [(7, .int y), (3, .long x3_6), (8, .int s0), (0, .ref (sm_B E + 109)), (2, .int x2), (5, .long x5)]) 5 7 rfl (by decide) (fun _ => rfl) dX12_dance_98 (fun x7_7 ex7_7 => ?_)
      replace h := h x7_7 ex7_7
      refine sm_goto (Y := mX12_dance) (pc := 101) 46 (by decide) dX12_dance_101 ?_
      refine sm_sub [3, 4, 1, 5, 0] rfl ?_
      exact h
  · replace h := h.2 hc
    refine sm_iload (Y := mX12_dance) (pc := 71) 0 8 rfl dX12_dance_71 ?_
    exact sm_iret (Y := mX12_dance) (pc := 73) rfl rfl rfl dX12_dance_73 ⟨_, rfl, h⟩
theorem dX12_dance_46 : decode cX12_dance 46 = .ok (.lload_n 3, 1) := dk_lload_n_3 (by decide +kernel)
theorem dX12_dance_47 : decode cX12_dance 47 = .ok (.lconst 0, 1) := dk_lconst_0 (by decide +kernel)
theorem dX12_dance_48 : decode cX12_dance 48 = .ok (.lcmp, 1) := dk_lcmp (by decide +kernel)
theorem dX12_dance_49 : decode cX12_dance 49 = .ok (.ifCond .eq 55, 3) := dk_ifCond_eq 55 (b1 := 0) (b2 := 55) (by decide +kernel) (by decide +kernel) (by decide +kernel) (by decide +kernel)
theorem dX12_dance_104 : decode cX12_dance 104 = .ok (.iload_n 2, 1) := dk_iload_n_2 (by decide +kernel)
theorem dX12_dance_105 : decode cX12_dance 105 = .ok (.ifCond .ge 8, 3) := dk_ifCond_ge 8 (b1 := 0) (b2 := 8) (by decide +kernel) (by decide +kernel) (by decide +kernel) (by decide +kernel)
theorem dX12_dance_113 : decode cX12_dance 113 = .ok (.aload_n 0, 1) := dk_aload_n_0 (by decide +kernel)
theorem dX12_dance_114 : decode cX12_dance 114 = .ok (.iconst 2, 1) := dk_iconst_2 (by decide +kernel)
theorem dX12_dance_115 : decode cX12_dance 115 = .ok (.invokevirtual 194, 3) := dk_invokevirtual 194 (b1 := 0) (b2 := 194) (by decide +kernel) (by decide +kernel) (by decide +kernel) (by decide +kernel)
theorem dX12_dance_118 : decode cX12_dance 118 = .ok (.ireturn, 1) := dk_ireturn (by decide +kernel)
theorem dX12_dance_108 : decode cX12_dance 108 = .ok (.iload 7, 2) := dk_iload 7 (b := 7) (by decide +kernel) (by decide +kernel) (by decide +kernel)
theorem dX12_dance_110 : decode cX12_dance 110 = .ok (.goto 8, 3) := dk_goto 8 (b1 := 0) (b2 := 8) (by decide +kernel) (by decide +kernel) (by decide +kernel) (by decide +kernel)
theorem dX12_dance_52 : decode cX12_dance 52 = .ok (.lload_n 3, 1) := dk_lload_n_3 (by decide +kernel)
theorem dX12_dance_53 : decode cX12_dance 53 = .ok (.lconst 0, 1) := dk_lconst_0 (by decide +kernel)
theorem dX12_dance_54 : decode cX12_dance 54 = .ok (.lcmp, 1) := dk_lcmp (by decide +kernel)
theorem dX12_dance_55 : decode cX12_dance 55 = .ok (.ifCond .ge 7, 3) := dk_ifCond_ge 7 (b1 := 0) (b2 := 7) (by decide +kernel) (by decide +kernel) (by decide +kernel) (by decide +kernel)
theorem dX12_dance_62 : decode cX12_dance 62 = .ok (.iconst 2, 1) := dk_iconst_2 (by decide +kernel)
theorem dX12_dance_58 : decode cX12_dance 58 = .ok (.iconst 0, 1) := dk_iconst_0 (by decide +kernel)
theorem dX12_dance_59 : decode cX12_dance 59 = .ok (.goto 4, 3) := dk_goto 4 (b1 := 0) (b2 := 4) (by decide +kernel) (by decide +kernel) (by decide +kernel) (by decide +kernel)
set_option maxRecDepth 20000 in
theorem vX12_dance_46 {E : sm_E} {L : sm_S → Prop} {d : Nat} {vs : List Value} {x2 : Int32} {x3 : Int64} {x5 : Int64} {x7 : Int32}  {m : sm_M} {Q : Int32 → sm_M → Prop} (hly : ∀ S, L S → ly S) (hd : 5 ≤ d) 
  (h : (x3 = 0 →
      (0 ≤ x2 →
         sm_callI E L mX12_finds 1 0 0 [.ref (sm_B E + 109), .int 2] m (fun r_2 m_1 =>
         Q r_2 m_1)) ∧
      (¬ 0 ≤ x2 →
         Q x7 m)) ∧
   (¬ x3 = 0 →
      (0 ≤ x3 →
         gX12_dance_63 E L d vs x2 x3 x5 x7 2 m Q) ∧
      (¬ 0 ≤ x3 →
         gX12_dance_63 E L d vs x2 x3 x5 x7 0 m Q))) :
  gX12_dance_46 E L d vs x2 x3 x5 x7 m Q := by
  refine sm_lload_n (Y := mX12_dance) (pc := 46) 2 3 rfl rfl dX12_dance_46 ?_
  refine sm_lconst (Y := mX12_dance) (pc := 47) 0 (by decide) dX12_dance_47 ?_
  refine sm_lif_eq (Y := mX12_dance) (pc := 48) 104 (by decide) dX12_dance_48 dX12_dance_49 (fun hc => ?_) (fun hc => ?_)
  · replace h := h.1 hc
    refine sm_iload_n (Y := mX12_dance) (pc := 104) 1 2 rfl rfl dX12_dance_104 ?_
    refine sm_if_ge (Y := mX12_dance) (pc := 105) 113 (by decide) dX12_dance_105 (fun hc => ?_) (fun hc => ?_)
    · replace h := h.1 hc
      refine sm_aload_n (Y := mX12_dance) (pc := 113) 0 0 rfl rfl dX12_dance_113 ?_
      refine sm_iconst (Y := mX12_dance) (pc := 114) 2 (by decide) dX12_dance_114 ?_
      refine sm_iv_I (Y := mX12_dance) (pc := 115) (As := [.int 2]) (a := 109) fX12_finds wRX12_194 (lk_109 hly) (by decide) rfl rfl rfl (Nat.le_trans (by decide) hd) (Nat.le_of_ble_eq_true rfl) ⟨Nat.le_refl _, Nat.le_refl _⟩ dX12_dance_115 rfl (sm_monoI h (fun r_2 m_1 h => ?_))
      exact sm_iret (Y := mX12_dance) (pc := 118) rfl rfl rfl dX12_dance_118 ⟨_, rfl, h⟩
    · replace h := h.2 hc
      refine sm_iload (Y := mX12_dance) (pc := 108) 4 7 rfl dX12_dance_108 ?_
      refine sm_goto (Y := mX12_dance) (pc := 110) 118 (by decide) dX12_dance_110 ?_
      exact sm_iret (Y := mX12_dance) (pc := 118) rfl rfl rfl dX12_dance_118 ⟨_, rfl, h⟩
  · replace h := h.2 hc
    refine sm_lload_n (Y := mX12_dance) (pc := 52) 2 3 rfl rfl dX12_dance_52 ?_
    refine sm_lconst (Y := mX12_dance) (pc := 53) 0 (by decide) dX12_dance_53 ?_
    refine sm_lif_ge (Y := mX12_dance) (pc := 54) 62 (by decide) dX12_dance_54 dX12_dance_55 (fun hc => ?_) (fun hc => ?_)
    · replace h := h.1 hc
      refine sm_iconst (Y := mX12_dance) (pc := 62) 2 (by decide) dX12_dance_62 ?_
      exact h
    · replace h := h.2 hc
      refine sm_iconst (Y := mX12_dance) (pc := 58) 0 (by decide) dX12_dance_58 ?_
      refine sm_goto (Y := mX12_dance) (pc := 59) 63 (by decide) dX12_dance_59 ?_
      exact h
theorem dX12_dance_0 : decode cX12_dance 0 = .ok (.iload_n 1, 1) := dk_iload_n_1 (by decide +kernel)
theorem dX12_dance_1 : decode cX12_dance 1 = .ok (.invokestatic 184, 3) := dk_invokestatic 184 (b1 := 0) (b2 := 184) (by decide +kernel) (by decide +kernel) (by decide +kernel) (by decide +kernel)
theorem dX12_dance_4 : decode cX12_dance 4 = .ok (.ifCond .eq 8, 3) := dk_ifCond_eq 8 (b1 := 0) (b2 := 8) (by decide +kernel) (by decide +kernel) (by decide +kernel) (by decide +kernel)
theorem dX12_dance_12 : decode cX12_dance 12 = .ok (.aload_n 0, 1) := dk_aload_n_0 (by decide +kernel)
theorem dX12_dance_13 : decode cX12_dance 13 = .ok (.iconst 1, 1) := dk_iconst_1 (by decide +kernel)
theorem dX12_dance_14 : decode cX12_dance 14 = .ok (.invokevirtual 194, 3) := dk_invokevirtual 194 (b1 := 0) (b2 := 194) (by decide +kernel) (by decide +kernel) (by decide +kernel) (by decide +kernel)
theorem dX12_dance_17 : decode cX12_dance 17 = .ok (.ireturn, 1) := dk_ireturn (by decide +kernel)
theorem dX12_dance_7 : decode cX12_dance 7 = .ok (.iload_n 2, 1) := dk_iload_n_2 (by decide +kernel)
theorem dX12_dance_8 : decode cX12_dance 8 = .ok (.iconst (-1), 1) := dk_iconst_m1 (by decide +kernel)
theorem dX12_dance_9 : decode cX12_dance 9 = .ok (.if_icmp .ge 9, 3) := dk_if_icmp_ge 9 (b1 := 0) (b2 := 9) (by decide +kernel) (by decide +kernel) (by decide +kernel) (by decide +kernel)
theorem dX12_dance_18 : decode cX12_dance 18 = .ok (.aload_n 0, 1) := dk_aload_n_0 (by decide +kernel)
theorem dX12_dance_19 : decode cX12_dance 19 = .ok (.iload_n 1, 1) := dk_iload_n_1 (by decide +kernel)
theorem dX12_dance_20 : decode cX12_dance 20 = .ok (.invokevirtual 198, 3) := dk_invokevirtual 198 (b1 := 0) (b2 := 198) (by decide +kernel) (by decide +kernel) (by decide +kernel) (by decide +kernel)
theorem dX12_dance_23 : decode cX12_dance 23 = .ok (.ifCond .ne 9, 3) := dk_ifCond_ne 9 (b1 := 0) (b2 := 9) (by decide +kernel) (by decide +kernel) (by decide +kernel) (by decide +kernel)
theorem dX12_dance_32 : decode cX12_dance 32 = .ok (.aload_n 0, 1) := dk_aload_n_0 (by decide +kernel)
theorem dX12_dance_33 : decode cX12_dance 33 = .ok (.getfield 170, 3) := dk_getfield 170 (b1 := 0) (b2 := 170) (by decide +kernel) (by decide +kernel) (by decide +kernel) (by decide +kernel)
theorem dX12_dance_36 : decode cX12_dance 36 = .ok (.lstore_n 3, 1) := dk_lstore_n_3 (by decide +kernel)
theorem dX12_dance_37 : decode cX12_dance 37 = .ok (.aload_n 0, 1) := dk_aload_n_0 (by decide +kernel)
theorem dX12_dance_38 : decode cX12_dance 38 = .ok (.getfield 173, 3) := dk_getfield 173 (b1 := 0) (b2 := 173) (by decide +kernel) (by decide +kernel) (by decide +kernel) (by decide +kernel)
theorem dX12_dance_41 : decode cX12_dance 41 = .ok (.lstore 5, 2) := dk_lstore 5 (b := 5) (by decide +kernel) (by decide +kernel) (by decide +kernel)
theorem dX12_dance_43 : decode cX12_dance 43 = .ok (.iconst 0, 1) := dk_iconst_0 (by decide +kernel)
theorem dX12_dance_44 : decode cX12_dance 44 = .ok (.istore 7, 2) := dk_istore 7 (b := 7) (by decide +kernel) (by decide +kernel) (by decide +kernel)
theorem dX12_dance_26 : decode cX12_dance 26 = .ok (.aload_n 0, 1) := dk_aload_n_0 (by decide +kernel)
theorem dX12_dance_27 : decode cX12_dance 27 = .ok (.iconst 2, 1) := dk_iconst_2 (by decide +kernel)
theorem dX12_dance_28 : decode cX12_dance 28 = .ok (.invokevirtual 194, 3) := dk_invokevirtual 194 (b1 := 0) (b2 := 194) (by decide +kernel) (by decide +kernel) (by decide +kernel) (by decide +kernel)
theorem dX12_dance_31 : decode cX12_dance 31 = .ok (.ireturn, 1) := dk_ireturn (by decide +kernel)
set_option maxRecDepth 20000 in
theorem vX12_dance_0 {E : sm_E} {L : sm_S → Prop} {d : Nat} {x1 : Int32} {x2 : Int32}  {m : sm_M} {Q : Int32 → sm_M → Prop} (hly : ∀ S, L S → ly S) (hd : 5 ≤ d) 
  (h : sm_callI E L mX12_isSlot 1 0 0 [.int x1] m (fun r_2 m_1 =>
   (r_2 = 0 →
      sm_callI E L mX12_finds 1 0 0 [.ref (sm_B E + 109), .int 1] m_1 (fun r_4 m_3 =>
      Q r_4 m_3)) ∧
   (¬ r_2 = 0 →
      ((-1) ≤ x2 →
         sm_callI E L mX12_fraction 4 0 0 [.ref (sm_B E + 109), .int x1] m_1 (fun r_6 m_5 =>
         (¬ r_6 = 0 →
            ∀ x3_7 : Int64, x3_7 = m_5.2.1 109 29 →
            ∀ x5_8 : Int64, x5_8 = m_5.2.1 109 30 →
            gX12_dance_46 E L d ([.ref (sm_B E + 109), .int x1, .int x2]) x2 x3_7 x5_8 0 m_5 Q) ∧
         (r_6 = 0 →
            sm_callI E L mX12_finds 1 0 0 [.ref (sm_B E + 109), .int 2] m_5 (fun r_11 m_10 =>
            Q r_11 m_10)))) ∧
      (¬ (-1) ≤ x2 →
         sm_callI E L mX12_finds 1 0 0 [.ref (sm_B E + 109), .int 1] m_1 (fun r_13 m_12 =>
         Q r_13 m_12))))) :
  sm_callI E L mX12_dance d 0 0 [.ref (sm_B E + 109), .int x1, .int x2] m Q := by
  refine sm_enter (by decide +kernel) (by simp [lg_sl, Value.category]) ?_
  refine sm_iload_n (Y := mX12_dance) (pc := 0) 1 1 rfl rfl dX12_dance_0 ?_
  refine sm_is_I (Y := mX12_dance) (pc := 1) (As := [.int x1]) fX12_isSlot wRX12_184 rfl (Nat.le_trans (by decide) hd) (Nat.le_of_ble_eq_true rfl) ⟨Nat.le_refl _, Nat.le_refl _⟩ dX12_dance_1 rfl (sm_monoI h (fun r_2 m_1 h => ?_))
  refine sm_if_eq (Y := mX12_dance) (pc := 4) 12 (by decide) dX12_dance_4 (fun hc => ?_) (fun hc => ?_)
  · replace h := h.1 hc
    refine sm_aload_n (Y := mX12_dance) (pc := 12) 0 0 rfl rfl dX12_dance_12 ?_
    refine sm_iconst (Y := mX12_dance) (pc := 13) 1 (by decide) dX12_dance_13 ?_
    refine sm_iv_I (Y := mX12_dance) (pc := 14) (As := [.int 1]) (a := 109) fX12_finds wRX12_194 (lk_109 hly) (by decide) rfl rfl rfl (Nat.le_trans (by decide) hd) (Nat.le_of_ble_eq_true rfl) ⟨Nat.le_refl _, Nat.le_refl _⟩ dX12_dance_14 rfl (sm_monoI h (fun r_4 m_3 h => ?_))
    exact sm_iret (Y := mX12_dance) (pc := 17) rfl rfl rfl dX12_dance_17 ⟨_, rfl, h⟩
  · replace h := h.2 hc
    refine sm_iload_n (Y := mX12_dance) (pc := 7) 2 2 rfl rfl dX12_dance_7 ?_
    refine sm_iconst (Y := mX12_dance) (pc := 8) (-1) (by decide) dX12_dance_8 ?_
    refine sm_icmp_ge (Y := mX12_dance) (pc := 9) 18 (by decide) dX12_dance_9 (fun hc => ?_) (fun hc => ?_)
    · replace h := h.1 hc
      refine sm_aload_n (Y := mX12_dance) (pc := 18) 0 0 rfl rfl dX12_dance_18 ?_
      refine sm_iload_n (Y := mX12_dance) (pc := 19) 1 1 rfl rfl dX12_dance_19 ?_
      refine sm_iv_I (Y := mX12_dance) (pc := 20) (As := [.int x1]) (a := 109) fX12_fraction wRX12_198 (lk_109 hly) (by decide) rfl rfl rfl (Nat.le_trans (by decide) hd) (Nat.le_of_ble_eq_true rfl) ⟨Nat.le_refl _, Nat.le_refl _⟩ dX12_dance_20 rfl (sm_monoI h (fun r_6 m_5 h => ?_))
      refine sm_if_ne (Y := mX12_dance) (pc := 23) 32 (by decide) dX12_dance_23 (fun hc => ?_) (fun hc => ?_)
      · replace h := h.1 hc
        refine sm_aload_n (Y := mX12_dance) (pc := 32) 0 0 rfl rfl dX12_dance_32 ?_
        refine gf_RX12_170 (Y := mX12_dance) (pc := 33) rfl ((lk_109 hly) _) dX12_dance_33 ?_
        refine sm_lstore_n (Y := mX12_dance) (pc := 36) (fun y => [(3, .long y), (0, .ref (sm_B E + 109)), (1, .int x1), (2, .int x2)]) 3 rfl (by decide) (fun _ => rfl) dX12_dance_36 (fun x3_7 ex3_7 => ?_)
        replace h := h x3_7 ex3_7
        refine sm_aload_n (Y := mX12_dance) (pc := 37) 1 0 rfl rfl dX12_dance_37 ?_
        refine gf_RX12_173 (Y := mX12_dance) (pc := 38) rfl ((lk_109 hly) _) dX12_dance_38 ?_
        refine sm_lstore (Y := mX12_dance) (pc := 41) (fun y => [(5, .long y), (3, .long x3_7), (0, .ref (sm_B E + 109)), (1, .int x1), (2, .int x2)]) 5 (by decide) (fun _ => rfl) dX12_dance_41 (fun x5_8 ex5_8 => ?_)
        replace h := h x5_8 ex5_8
        refine sm_iconst (Y := mX12_dance) (pc := 43) 0 (by decide) dX12_dance_43 ?_
        refine sm_istore0 (Y := mX12_dance) (pc := 44) [(7, .int 0), (5, .long x5_8), (3, .long x3_7), (0, .ref (sm_B E + 109)), (1, .int x1), (2, .int x2)] 7 (by decide) rfl dX12_dance_44 ?_
        refine sm_sub [3, 5, 2, 1, 0] rfl ?_
        exact h
      · replace h := h.2 hc
        refine sm_aload_n (Y := mX12_dance) (pc := 26) 0 0 rfl rfl dX12_dance_26 ?_
        refine sm_iconst (Y := mX12_dance) (pc := 27) 2 (by decide) dX12_dance_27 ?_
        refine sm_iv_I (Y := mX12_dance) (pc := 28) (As := [.int 2]) (a := 109) fX12_finds wRX12_194 (lk_109 hly) (by decide) rfl rfl rfl (Nat.le_trans (by decide) hd) (Nat.le_of_ble_eq_true rfl) ⟨Nat.le_refl _, Nat.le_refl _⟩ dX12_dance_28 rfl (sm_monoI h (fun r_11 m_10 h => ?_))
        exact sm_iret (Y := mX12_dance) (pc := 31) rfl rfl rfl dX12_dance_31 ⟨_, rfl, h⟩
    · replace h := h.2 hc
      refine sm_aload_n (Y := mX12_dance) (pc := 12) 0 0 rfl rfl dX12_dance_12 ?_
      refine sm_iconst (Y := mX12_dance) (pc := 13) 1 (by decide) dX12_dance_13 ?_
      refine sm_iv_I (Y := mX12_dance) (pc := 14) (As := [.int 1]) (a := 109) fX12_finds wRX12_194 (lk_109 hly) (by decide) rfl rfl rfl (Nat.le_trans (by decide) hd) (Nat.le_of_ble_eq_true rfl) ⟨Nat.le_refl _, Nat.le_refl _⟩ dX12_dance_14 rfl (sm_monoI h (fun r_13 m_12 h => ?_))
      exact sm_iret (Y := mX12_dance) (pc := 17) rfl rfl rfl dX12_dance_17 ⟨_, rfl, h⟩
abbrev mX12_leads : sm_Y := (yX12_leads, cX12_leads, 20, (some FieldType.boolean))
theorem fX12_leads : sm_mt mX12_leads 7 := ⟨sm_in 1501 (by decide +kernel) (by decide +kernel), sm_in 1500 (by decide +kernel) (by decide +kernel), sm_in 93 (by decide +kernel) (by decide +kernel), ⟨by decide +kernel, by decide +kernel, by decide +kernel⟩, by decide⟩
def gX12_leads_68 (E : sm_E) (L : sm_S → Prop) (d : Nat) (vs : List Value) (x4 : Int32) (x5 : Int32) (x7 : Int64) (x9 : Int64) (x11 : Int64) (x13 : Int64) (x15 : Int32) (x16 : Int32) (m : sm_M) (Q : Int32 → sm_M → Prop) : Prop := sm_go E L mX12_leads d 0 0 vs 68 [(4, .int x4), (5, .int x5), (7, .long x7), (9, .long x9), (11, .long x11), (13, .long x13), (15, .int x15), (16, .int x16)] [] m 0 0 (sm_Z E L vs 0 0 (sm_QI Q))
def gX12_leads_13 (E : sm_E) (L : sm_S → Prop) (d : Nat) (vs : List Value) (x4 : Int32) (x5 : Int32) (x7 : Int64) (x9 : Int64) (x11 : Int64) (x13 : Int64) (x15 : Int32) (x16 : Int32) (m : sm_M) (Q : Int32 → sm_M → Prop) : Prop := sm_go E L mX12_leads d 0 0 vs 13 [(4, .int x4), (5, .int x5), (7, .long x7), (9, .long x9), (11, .long x11), (13, .long x13), (15, .int x15), (16, .int x16)] [] m 0 0 (sm_Z E L vs 0 0 (sm_QI Q))
theorem dX12_leads_68 : decode cX12_leads 68 = .ok (.lload 13, 2) := dk_lload 13 (b := 13) (by decide +kernel) (by decide +kernel) (by decide +kernel)
theorem dX12_leads_70 : decode cX12_leads 70 = .ok (.lconst 0, 1) := dk_lconst_0 (by decide +kernel)
theorem dX12_leads_71 : decode cX12_leads 71 = .ok (.lcmp, 1) := dk_lcmp (by decide +kernel)
theorem dX12_leads_72 : decode cX12_leads 72 = .ok (.ifCond .ne 7, 3) := dk_ifCond_ne 7 (b1 := 0) (b2 := 7) (by decide +kernel) (by decide +kernel) (by decide +kernel) (by decide +kernel)
theorem dX12_leads_79 : decode cX12_leads 79 = .ok (.lload 11, 2) := dk_lload 11 (b := 11) (by decide +kernel) (by decide +kernel) (by decide +kernel)
theorem dX12_leads_81 : decode cX12_leads 81 = .ok (.lneg, 1) := dk_lneg (by decide +kernel)
theorem dX12_leads_82 : decode cX12_leads 82 = .ok (.lstore 11, 2) := dk_lstore 11 (b := 11) (by decide +kernel) (by decide +kernel) (by decide +kernel)
theorem dX12_leads_84 : decode cX12_leads 84 = .ok (.lload 13, 2) := dk_lload 13 (b := 13) (by decide +kernel) (by decide +kernel) (by decide +kernel)
theorem dX12_leads_86 : decode cX12_leads 86 = .ok (.lneg, 1) := dk_lneg (by decide +kernel)
theorem dX12_leads_87 : decode cX12_leads 87 = .ok (.lstore 13, 2) := dk_lstore 13 (b := 13) (by decide +kernel) (by decide +kernel) (by decide +kernel)
theorem dX12_leads_89 : decode cX12_leads 89 = .ok (.goto 21, 3) := dk_goto 21 (b1 := 0) (b2 := 21) (by decide +kernel) (by decide +kernel) (by decide +kernel) (by decide +kernel)
theorem dX12_leads_110 : decode cX12_leads 110 = .ok (.iinc 16 1, 3) := dk_iinc 16 1 (b1 := 16) (b2 := 1) (by decide +kernel) (by decide +kernel) (by decide +kernel) (by decide +kernel) (by decide +kernel)
theorem dX12_leads_113 : decode cX12_leads 113 = .ok (.goto (-100), 3) := dk_goto (-100) (b1 := 255) (b2 := 156) (by decide +kernel) (by decide +kernel) (by decide +kernel) (by decide +kernel)
theorem dX12_leads_75 : decode cX12_leads 75 = .ok (.lconst 1, 1) := dk_lconst_1 (by decide +kernel)
theorem dX12_leads_76 : decode cX12_leads 76 = .ok (.goto 6, 3) := dk_goto 6 (b1 := 0) (b2 := 6) (by decide +kernel) (by decide +kernel) (by decide +kernel) (by decide +kernel)
set_option maxRecDepth 20000 in
theorem vX12_leads_68 {E : sm_E} {L : sm_S → Prop} {d : Nat} {vs : List Value} {x4 : Int32} {x5 : Int32} {x7 : Int64} {x9 : Int64} {x11 : Int64} {x13 : Int64} {x15 : Int32} {x16 : Int32}  {m : sm_M} {Q : Int32 → sm_M → Prop}  (hd : 1 ≤ d) 
  (h : (¬ x13 = 0 →
      ∀ x11_1 : Int64, x11_1 = -x11 →
      ∀ x13_2 : Int64, x13_2 = -x13 →
      ∀ x16_3 : Int32, x16_3 = x16 + 1 →
      gX12_leads_13 E L d vs x4 x5 x7 x9 x11_1 x13_2 x15 x16_3 m Q) ∧
   (x13 = 0 →
      ∀ x13_5 : Int64, x13_5 = -x13 →
      ∀ x16_6 : Int32, x16_6 = x16 + 1 →
      gX12_leads_13 E L d vs x4 x5 x7 x9 1 x13_5 x15 x16_6 m Q)) :
  gX12_leads_68 E L d vs x4 x5 x7 x9 x11 x13 x15 x16 m Q := by
  refine sm_lload (Y := mX12_leads) (pc := 68) 5 13 rfl dX12_leads_68 ?_
  refine sm_lconst (Y := mX12_leads) (pc := 70) 0 (by decide) dX12_leads_70 ?_
  refine sm_lif_ne (Y := mX12_leads) (pc := 71) 79 (by decide) dX12_leads_71 dX12_leads_72 (fun hc => ?_) (fun hc => ?_)
  · replace h := h.1 hc
    refine sm_lload (Y := mX12_leads) (pc := 79) 4 11 rfl dX12_leads_79 ?_
    refine sm_lneg (Y := mX12_leads) (pc := 81) dX12_leads_81 ?_
    refine sm_lstore (Y := mX12_leads) (pc := 82) (fun y => [(11, .long y), (4, .int x4), (5, .int x5), (7, .long x7), (9, .long x9), (13, .long x13), (15, .int x15), (16, .int x16)]) 11 (by decide) (fun _ => rfl) dX12_leads_82 (fun x11_1 ex11_1 => ?_)
    replace h := h x11_1 ex11_1
    refine sm_lload (Y := mX12_leads) (pc := 84) 5 13 rfl dX12_leads_84 ?_
    refine sm_lneg (Y := mX12_leads) (pc := 86) dX12_leads_86 ?_
    refine sm_lstore (Y := mX12_leads) (pc := 87) (fun y => [(13, .long y), (11, .long x11_1), (4, .int x4), (5, .int x5), (7, .long x7), (9, .long x9), (15, .int x15), (16, .int x16)]) 13 (by decide) (fun _ => rfl) dX12_leads_87 (fun x13_2 ex13_2 => ?_)
    replace h := h x13_2 ex13_2
    refine sm_goto (Y := mX12_leads) (pc := 89) 110 (by decide) dX12_leads_89 ?_
    refine sm_iinc (Y := mX12_leads) (pc := 110) (fun y => [(16, .int y), (13, .long x13_2), (11, .long x11_1), (4, .int x4), (5, .int x5), (7, .long x7), (9, .long x9), (15, .int x15)]) 7 16 rfl (by decide) (fun _ => rfl) dX12_leads_110 (fun x16_3 ex16_3 => ?_)
    replace h := h x16_3 ex16_3
    refine sm_goto (Y := mX12_leads) (pc := 113) 13 (by decide) dX12_leads_113 ?_
    refine sm_sub [3, 4, 5, 6, 2, 1, 7, 0] rfl ?_
    exact h
  · replace h := h.2 hc
    refine sm_lconst (Y := mX12_leads) (pc := 75) 1 (by decide) dX12_leads_75 ?_
    refine sm_goto (Y := mX12_leads) (pc := 76) 82 (by decide) dX12_leads_76 ?_
    refine sm_lstore0 (Y := mX12_leads) (pc := 82) [(11, .long 1), (4, .int x4), (5, .int x5), (7, .long x7), (9, .long x9), (13, .long x13), (15, .int x15), (16, .int x16)] 11 (by decide) rfl dX12_leads_82 ?_
    refine sm_lload (Y := mX12_leads) (pc := 84) 5 13 rfl dX12_leads_84 ?_
    refine sm_lneg (Y := mX12_leads) (pc := 86) dX12_leads_86 ?_
    refine sm_lstore (Y := mX12_leads) (pc := 87) (fun y => [(13, .long y), (11, .long 1), (4, .int x4), (5, .int x5), (7, .long x7), (9, .long x9), (15, .int x15), (16, .int x16)]) 13 (by decide) (fun _ => rfl) dX12_leads_87 (fun x13_5 ex13_5 => ?_)
    replace h := h x13_5 ex13_5
    refine sm_goto (Y := mX12_leads) (pc := 89) 110 (by decide) dX12_leads_89 ?_
    refine sm_iinc (Y := mX12_leads) (pc := 110) (fun y => [(16, .int y), (13, .long x13_5), (11, .long 1), (4, .int x4), (5, .int x5), (7, .long x7), (9, .long x9), (15, .int x15)]) 7 16 rfl (by decide) (fun _ => rfl) dX12_leads_110 (fun x16_6 ex16_6 => ?_)
    replace h := h x16_6 ex16_6
    refine sm_goto (Y := mX12_leads) (pc := 113) 13 (by decide) dX12_leads_113 ?_
    refine sm_sub [3, 4, 5, 6, 2, 1, 7, 0] rfl ?_
    exact h
theorem dX12_leads_13 : decode cX12_leads 13 = .ok (.iload 16, 2) := dk_iload 16 (b := 16) (by decide +kernel) (by decide +kernel) (by decide +kernel)
theorem dX12_leads_15 : decode cX12_leads 15 = .ok (.iload 5, 2) := dk_iload 5 (b := 5) (by decide +kernel) (by decide +kernel) (by decide +kernel)
theorem dX12_leads_17 : decode cX12_leads 17 = .ok (.if_icmp .ge 99, 3) := dk_if_icmp_ge 99 (b1 := 0) (b2 := 99) (by decide +kernel) (by decide +kernel) (by decide +kernel) (by decide +kernel)
theorem dX12_leads_116 : decode cX12_leads 116 = .ok (.lload 11, 2) := dk_lload 11 (b := 11) (by decide +kernel) (by decide +kernel) (by decide +kernel)
theorem dX12_leads_118 : decode cX12_leads 118 = .ok (.lload 7, 2) := dk_lload 7 (b := 7) (by decide +kernel) (by decide +kernel) (by decide +kernel)
theorem dX12_leads_120 : decode cX12_leads 120 = .ok (.lcmp, 1) := dk_lcmp (by decide +kernel)
theorem dX12_leads_121 : decode cX12_leads 121 = .ok (.ifCond .ne 15, 3) := dk_ifCond_ne 15 (b1 := 0) (b2 := 15) (by decide +kernel) (by decide +kernel) (by decide +kernel) (by decide +kernel)
theorem dX12_leads_136 : decode cX12_leads 136 = .ok (.iconst 0, 1) := dk_iconst_0 (by decide +kernel)
theorem dX12_leads_137 : decode cX12_leads 137 = .ok (.ireturn, 1) := dk_ireturn (by decide +kernel)
theorem dX12_leads_124 : decode cX12_leads 124 = .ok (.lload 13, 2) := dk_lload 13 (b := 13) (by decide +kernel) (by decide +kernel) (by decide +kernel)
theorem dX12_leads_126 : decode cX12_leads 126 = .ok (.lload 9, 2) := dk_lload 9 (b := 9) (by decide +kernel) (by decide +kernel) (by decide +kernel)
theorem dX12_leads_128 : decode cX12_leads 128 = .ok (.lcmp, 1) := dk_lcmp (by decide +kernel)
theorem dX12_leads_129 : decode cX12_leads 129 = .ok (.ifCond .ne 7, 3) := dk_ifCond_ne 7 (b1 := 0) (b2 := 7) (by decide +kernel) (by decide +kernel) (by decide +kernel) (by decide +kernel)
theorem dX12_leads_132 : decode cX12_leads 132 = .ok (.iconst 1, 1) := dk_iconst_1 (by decide +kernel)
theorem dX12_leads_133 : decode cX12_leads 133 = .ok (.goto 4, 3) := dk_goto 4 (b1 := 0) (b2 := 4) (by decide +kernel) (by decide +kernel) (by decide +kernel) (by decide +kernel)
theorem dX12_leads_20 : decode cX12_leads 20 = .ok (.iload 4, 2) := dk_iload 4 (b := 4) (by decide +kernel) (by decide +kernel) (by decide +kernel)
theorem dX12_leads_22 : decode cX12_leads 22 = .ok (.iload 15, 2) := dk_iload 15 (b := 15) (by decide +kernel) (by decide +kernel) (by decide +kernel)
theorem dX12_leads_24 : decode cX12_leads 24 = .ok (.idiv, 1) := dk_idiv (by decide +kernel)
theorem dX12_leads_25 : decode cX12_leads 25 = .ok (.iconst 3, 1) := dk_iconst_3 (by decide +kernel)
theorem dX12_leads_26 : decode cX12_leads 26 = .ok (.irem, 1) := dk_irem (by decide +kernel)
theorem dX12_leads_27 : decode cX12_leads 27 = .ok (.istore 17, 2) := dk_istore 17 (b := 17) (by decide +kernel) (by decide +kernel) (by decide +kernel)
theorem dX12_leads_29 : decode cX12_leads 29 = .ok (.iload 15, 2) := dk_iload 15 (b := 15) (by decide +kernel) (by decide +kernel) (by decide +kernel)
theorem dX12_leads_31 : decode cX12_leads 31 = .ok (.iconst 3, 1) := dk_iconst_3 (by decide +kernel)
theorem dX12_leads_32 : decode cX12_leads 32 = .ok (.idiv, 1) := dk_idiv (by decide +kernel)
theorem dX12_leads_33 : decode cX12_leads 33 = .ok (.istore 15, 2) := dk_istore 15 (b := 15) (by decide +kernel) (by decide +kernel) (by decide +kernel)
theorem dX12_leads_35 : decode cX12_leads 35 = .ok (.iload 17, 2) := dk_iload 17 (b := 17) (by decide +kernel) (by decide +kernel) (by decide +kernel)
theorem dX12_leads_37 : decode cX12_leads 37 = .ok (.iconst 2, 1) := dk_iconst_2 (by decide +kernel)
theorem dX12_leads_38 : decode cX12_leads 38 = .ok (.if_icmp .ne 54, 3) := dk_if_icmp_ne 54 (b1 := 0) (b2 := 54) (by decide +kernel) (by decide +kernel) (by decide +kernel) (by decide +kernel)
theorem dX12_leads_92 : decode cX12_leads 92 = .ok (.lload 11, 2) := dk_lload 11 (b := 11) (by decide +kernel) (by decide +kernel) (by decide +kernel)
theorem dX12_leads_94 : decode cX12_leads 94 = .ok (.iload 17, 2) := dk_iload 17 (b := 17) (by decide +kernel) (by decide +kernel) (by decide +kernel)
theorem dX12_leads_96 : decode cX12_leads 96 = .ok (.ifCond .ne 8, 3) := dk_ifCond_ne 8 (b1 := 0) (b2 := 8) (by decide +kernel) (by decide +kernel) (by decide +kernel) (by decide +kernel)
theorem dX12_leads_104 : decode cX12_leads 104 = .ok (.lload 13, 2) := dk_lload 13 (b := 13) (by decide +kernel) (by decide +kernel) (by decide +kernel)
theorem dX12_leads_106 : decode cX12_leads 106 = .ok (.lneg, 1) := dk_lneg (by decide +kernel)
theorem dX12_leads_107 : decode cX12_leads 107 = .ok (.ladd, 1) := dk_ladd (by decide +kernel)
theorem dX12_leads_108 : decode cX12_leads 108 = .ok (.lstore 11, 2) := dk_lstore 11 (b := 11) (by decide +kernel) (by decide +kernel) (by decide +kernel)
theorem dX12_leads_99 : decode cX12_leads 99 = .ok (.lload 13, 2) := dk_lload 13 (b := 13) (by decide +kernel) (by decide +kernel) (by decide +kernel)
theorem dX12_leads_101 : decode cX12_leads 101 = .ok (.goto 6, 3) := dk_goto 6 (b1 := 0) (b2 := 6) (by decide +kernel) (by decide +kernel) (by decide +kernel) (by decide +kernel)
theorem dX12_leads_41 : decode cX12_leads 41 = .ok (.lload 11, 2) := dk_lload 11 (b := 11) (by decide +kernel) (by decide +kernel) (by decide +kernel)
theorem dX12_leads_43 : decode cX12_leads 43 = .ok (.lstore 18, 2) := dk_lstore 18 (b := 18) (by decide +kernel) (by decide +kernel) (by decide +kernel)
theorem dX12_leads_45 : decode cX12_leads 45 = .ok (.lload 13, 2) := dk_lload 13 (b := 13) (by decide +kernel) (by decide +kernel) (by decide +kernel)
theorem dX12_leads_47 : decode cX12_leads 47 = .ok (.lneg, 1) := dk_lneg (by decide +kernel)
theorem dX12_leads_48 : decode cX12_leads 48 = .ok (.lstore 11, 2) := dk_lstore 11 (b := 11) (by decide +kernel) (by decide +kernel) (by decide +kernel)
theorem dX12_leads_50 : decode cX12_leads 50 = .ok (.lload 18, 2) := dk_lload 18 (b := 18) (by decide +kernel) (by decide +kernel) (by decide +kernel)
theorem dX12_leads_52 : decode cX12_leads 52 = .ok (.lstore 13, 2) := dk_lstore 13 (b := 13) (by decide +kernel) (by decide +kernel) (by decide +kernel)
theorem dX12_leads_54 : decode cX12_leads 54 = .ok (.lload 13, 2) := dk_lload 13 (b := 13) (by decide +kernel) (by decide +kernel) (by decide +kernel)
theorem dX12_leads_56 : decode cX12_leads 56 = .ok (.lconst 0, 1) := dk_lconst_0 (by decide +kernel)
theorem dX12_leads_57 : decode cX12_leads 57 = .ok (.lcmp, 1) := dk_lcmp (by decide +kernel)
theorem dX12_leads_58 : decode cX12_leads 58 = .ok (.ifCond .lt 10, 3) := dk_ifCond_lt 10 (b1 := 0) (b2 := 10) (by decide +kernel) (by decide +kernel) (by decide +kernel) (by decide +kernel)
theorem dX12_leads_61 : decode cX12_leads 61 = .ok (.lload 13, 2) := dk_lload 13 (b := 13) (by decide +kernel) (by decide +kernel) (by decide +kernel)
theorem dX12_leads_63 : decode cX12_leads 63 = .ok (.lconst 0, 1) := dk_lconst_0 (by decide +kernel)
theorem dX12_leads_64 : decode cX12_leads 64 = .ok (.lcmp, 1) := dk_lcmp (by decide +kernel)
theorem dX12_leads_65 : decode cX12_leads 65 = .ok (.ifCond .ne 24, 3) := dk_ifCond_ne 24 (b1 := 0) (b2 := 24) (by decide +kernel) (by decide +kernel) (by decide +kernel) (by decide +kernel)
set_option maxRecDepth 20000 in
theorem vX12_leads_13 {E : sm_E} {L : sm_S → Prop} {d : Nat} {vs : List Value} {x4 : Int32} {x5 : Int32} {x7 : Int64} {x9 : Int64} {x11 : Int64} {x13 : Int64} {x15 : Int32} {x16 : Int32}  {m : sm_M} {Q : Int32 → sm_M → Prop}  (hd : 1 ≤ d) 
  (h : (x5 ≤ x16 →
      (¬ x11 = x7 →
         Q 0 m) ∧
      (x11 = x7 →
         (¬ x13 = x9 →
            Q 0 m) ∧
         (x13 = x9 →
            Q 1 m))) ∧
   (¬ x5 ≤ x16 →
      (¬ x15 = 0) ∧ ∀ x17_2 : Int32, x17_2 = sm_rem (x4 / x15) 3 →
      ∀ x15_3 : Int32, x15_3 = x15 / 3 →
      (¬ x17_2 = 2 →
         (¬ x17_2 = 0 →
            ∀ x11_4 : Int64, x11_4 = x11 + (-x13) →
            ∀ x16_5 : Int32, x16_5 = x16 + 1 →
            gX12_leads_13 E L d vs x4 x5 x7 x9 x11_4 x13 x15_3 x16_5 m Q) ∧
         (x17_2 = 0 →
            ∀ x11_6 : Int64, x11_6 = x11 + x13 →
            ∀ x16_7 : Int32, x16_7 = x16 + 1 →
            gX12_leads_13 E L d vs x4 x5 x7 x9 x11_6 x13 x15_3 x16_7 m Q)) ∧
      (x17_2 = 2 →
         ∀ x11_9 : Int64, x11_9 = -x13 →
         (x11 < 0 →
            gX12_leads_68 E L d vs x4 x5 x7 x9 x11_9 x11 x15_3 x16 m Q) ∧
         (¬ x11 < 0 →
            (¬ x11 = 0 →
               ∀ x16_11 : Int32, x16_11 = x16 + 1 →
               gX12_leads_13 E L d vs x4 x5 x7 x9 x11_9 x11 x15_3 x16_11 m Q) ∧
            (x11 = 0 →
               gX12_leads_68 E L d vs x4 x5 x7 x9 x11_9 x11 x15_3 x16 m Q))))) :
  gX12_leads_13 E L d vs x4 x5 x7 x9 x11 x13 x15 x16 m Q := by
  refine sm_iload (Y := mX12_leads) (pc := 13) 7 16 rfl dX12_leads_13 ?_
  refine sm_iload (Y := mX12_leads) (pc := 15) 1 5 rfl dX12_leads_15 ?_
  refine sm_icmp_ge (Y := mX12_leads) (pc := 17) 116 (by decide) dX12_leads_17 (fun hc => ?_) (fun hc => ?_)
  · replace h := h.1 hc
    refine sm_lload (Y := mX12_leads) (pc := 116) 4 11 rfl dX12_leads_116 ?_
    refine sm_lload (Y := mX12_leads) (pc := 118) 2 7 rfl dX12_leads_118 ?_
    refine sm_lif_ne (Y := mX12_leads) (pc := 120) 136 (by decide) dX12_leads_120 dX12_leads_121 (fun hc => ?_) (fun hc => ?_)
    · replace h := h.1 hc
      refine sm_iconst (Y := mX12_leads) (pc := 136) 0 (by decide) dX12_leads_136 ?_
      exact sm_zret (Y := mX12_leads) (pc := 137) rfl (by decide) rfl rfl dX12_leads_137 ⟨_, rfl, h⟩
    · replace h := h.2 hc
      refine sm_lload (Y := mX12_leads) (pc := 124) 5 13 rfl dX12_leads_124 ?_
      refine sm_lload (Y := mX12_leads) (pc := 126) 3 9 rfl dX12_leads_126 ?_
      refine sm_lif_ne (Y := mX12_leads) (pc := 128) 136 (by decide) dX12_leads_128 dX12_leads_129 (fun hc => ?_) (fun hc => ?_)
      · replace h := h.1 hc
        refine sm_iconst (Y := mX12_leads) (pc := 136) 0 (by decide) dX12_leads_136 ?_
        exact sm_zret (Y := mX12_leads) (pc := 137) rfl (by decide) rfl rfl dX12_leads_137 ⟨_, rfl, h⟩
      · replace h := h.2 hc
        refine sm_iconst (Y := mX12_leads) (pc := 132) 1 (by decide) dX12_leads_132 ?_
        refine sm_goto (Y := mX12_leads) (pc := 133) 137 (by decide) dX12_leads_133 ?_
        exact sm_zret (Y := mX12_leads) (pc := 137) rfl (by decide) rfl rfl dX12_leads_137 ⟨_, rfl, h⟩
  · replace h := h.2 hc
    refine sm_iload (Y := mX12_leads) (pc := 20) 0 4 rfl dX12_leads_20 ?_
    refine sm_iload (Y := mX12_leads) (pc := 22) 6 15 rfl dX12_leads_22 ?_
    obtain ⟨hn_1, h⟩ := h
    refine sm_idiv (Y := mX12_leads) (pc := 24) hn_1 dX12_leads_24 ?_
    refine sm_iconst (Y := mX12_leads) (pc := 25) 3 (by decide) dX12_leads_25 ?_
    refine sm_irem (Y := mX12_leads) (pc := 26) (by decide) dX12_leads_26 ?_
    refine sm_istore (Y := mX12_leads) (pc := 27) (fun y => [(17, .int y), (4, .int x4), (5, .int x5), (7, .long x7), (9, .long x9), (11, .long x11), (13, .long x13), (15, .int x15), (16, .int x16)]) 17 (by decide) (fun _ => rfl) dX12_leads_27 (fun x17_2 ex17_2 => ?_)
    replace h := h x17_2 ex17_2
    refine sm_iload (Y := mX12_leads) (pc := 29) 7 15 rfl dX12_leads_29 ?_
    refine sm_iconst (Y := mX12_leads) (pc := 31) 3 (by decide) dX12_leads_31 ?_
    refine sm_idiv (Y := mX12_leads) (pc := 32) (by decide) dX12_leads_32 ?_
    refine sm_istore (Y := mX12_leads) (pc := 33) (fun y => [(15, .int y), (17, .int x17_2), (4, .int x4), (5, .int x5), (7, .long x7), (9, .long x9), (11, .long x11), (13, .long x13), (16, .int x16)]) 15 (by decide) (fun _ => rfl) dX12_leads_33 (fun x15_3 ex15_3 => ?_)
    replace h := h x15_3 ex15_3
    refine sm_iload (Y := mX12_leads) (pc := 35) 1 17 rfl dX12_leads_35 ?_
    refine sm_iconst (Y := mX12_leads) (pc := 37) 2 (by decide) dX12_leads_37 ?_
    refine sm_icmp_ne (Y := mX12_leads) (pc := 38) 92 (by decide) dX12_leads_38 (fun hc => ?_) (fun hc => ?_)
    · replace h := h.1 hc
      refine sm_lload (Y := mX12_leads) (pc := 92) 6 11 rfl dX12_leads_92 ?_
      refine sm_iload (Y := mX12_leads) (pc := 94) 1 17 rfl dX12_leads_94 ?_
      refine sm_if_ne (Y := mX12_leads) (pc := 96) 104 (by decide) dX12_leads_96 (fun hc => ?_) (fun hc => ?_)
      · replace h := h.1 hc
        refine sm_lload (Y := mX12_leads) (pc := 104) 7 13 rfl dX12_leads_104 ?_
        refine sm_lneg (Y := mX12_leads) (pc := 106) dX12_leads_106 ?_
        refine sm_ladd (Y := mX12_leads) (pc := 107) dX12_leads_107 ?_
        refine sm_lstore (Y := mX12_leads) (pc := 108) (fun y => [(11, .long y), (15, .int x15_3), (17, .int x17_2), (4, .int x4), (5, .int x5), (7, .long x7), (9, .long x9), (13, .long x13), (16, .int x16)]) 11 (by decide) (fun _ => rfl) dX12_leads_108 (fun x11_4 ex11_4 => ?_)
        replace h := h x11_4 ex11_4
        refine sm_iinc (Y := mX12_leads) (pc := 110) (fun y => [(16, .int y), (11, .long x11_4), (15, .int x15_3), (17, .int x17_2), (4, .int x4), (5, .int x5), (7, .long x7), (9, .long x9), (13, .long x13)]) 8 16 rfl (by decide) (fun _ => rfl) dX12_leads_110 (fun x16_5 ex16_5 => ?_)
        replace h := h x16_5 ex16_5
        refine sm_goto (Y := mX12_leads) (pc := 113) 13 (by decide) dX12_leads_113 ?_
        refine sm_sub [4, 5, 6, 7, 1, 8, 2, 0] rfl ?_
        exact h
      · replace h := h.2 hc
        refine sm_lload (Y := mX12_leads) (pc := 99) 7 13 rfl dX12_leads_99 ?_
        refine sm_goto (Y := mX12_leads) (pc := 101) 107 (by decide) dX12_leads_101 ?_
        refine sm_ladd (Y := mX12_leads) (pc := 107) dX12_leads_107 ?_
        refine sm_lstore (Y := mX12_leads) (pc := 108) (fun y => [(11, .long y), (15, .int x15_3), (17, .int x17_2), (4, .int x4), (5, .int x5), (7, .long x7), (9, .long x9), (13, .long x13), (16, .int x16)]) 11 (by decide) (fun _ => rfl) dX12_leads_108 (fun x11_6 ex11_6 => ?_)
        replace h := h x11_6 ex11_6
        refine sm_iinc (Y := mX12_leads) (pc := 110) (fun y => [(16, .int y), (11, .long x11_6), (15, .int x15_3), (17, .int x17_2), (4, .int x4), (5, .int x5), (7, .long x7), (9, .long x9), (13, .long x13)]) 8 16 rfl (by decide) (fun _ => rfl) dX12_leads_110 (fun x16_7 ex16_7 => ?_)
        replace h := h x16_7 ex16_7
        refine sm_goto (Y := mX12_leads) (pc := 113) 13 (by decide) dX12_leads_113 ?_
        refine sm_sub [4, 5, 6, 7, 1, 8, 2, 0] rfl ?_
        exact h
    · replace h := h.2 hc
      refine sm_lload (Y := mX12_leads) (pc := 41) 6 11 rfl dX12_leads_41 ?_
      refine sm_lstore0 (Y := mX12_leads) (pc := 43) [(18, .long x11), (15, .int x15_3), (17, .int x17_2), (4, .int x4), (5, .int x5), (7, .long x7), (9, .long x9), (11, .long x11), (13, .long x13), (16, .int x16)] 18 (by decide) rfl dX12_leads_43 ?_
      refine sm_lload (Y := mX12_leads) (pc := 45) 8 13 rfl dX12_leads_45 ?_
      refine sm_lneg (Y := mX12_leads) (pc := 47) dX12_leads_47 ?_
      refine sm_lstore (Y := mX12_leads) (pc := 48) (fun y => [(11, .long y), (18, .long x11), (15, .int x15_3), (17, .int x17_2), (4, .int x4), (5, .int x5), (7, .long x7), (9, .long x9), (13, .long x13), (16, .int x16)]) 11 (by decide) (fun _ => rfl) dX12_leads_48 (fun x11_9 ex11_9 => ?_)
      replace h := h x11_9 ex11_9
      refine sm_lload (Y := mX12_leads) (pc := 50) 1 18 rfl dX12_leads_50 ?_
      refine sm_lstore0 (Y := mX12_leads) (pc := 52) [(13, .long x11), (11, .long x11_9), (18, .long x11), (15, .int x15_3), (17, .int x17_2), (4, .int x4), (5, .int x5), (7, .long x7), (9, .long x9), (16, .int x16)] 13 (by decide) rfl dX12_leads_52 ?_
      refine sm_lload (Y := mX12_leads) (pc := 54) 0 13 rfl dX12_leads_54 ?_
      refine sm_lconst (Y := mX12_leads) (pc := 56) 0 (by decide) dX12_leads_56 ?_
      refine sm_lif_lt (Y := mX12_leads) (pc := 57) 68 (by decide) dX12_leads_57 dX12_leads_58 (fun hc => ?_) (fun hc => ?_)
      · replace h := h.1 hc
        refine sm_sub [5, 6, 7, 8, 1, 0, 3, 9] rfl ?_
        exact h
      · replace h := h.2 hc
        refine sm_lload (Y := mX12_leads) (pc := 61) 0 13 rfl dX12_leads_61 ?_
        refine sm_lconst (Y := mX12_leads) (pc := 63) 0 (by decide) dX12_leads_63 ?_
        refine sm_lif_ne (Y := mX12_leads) (pc := 64) 89 (by decide) dX12_leads_64 dX12_leads_65 (fun hc => ?_) (fun hc => ?_)
        · replace h := h.1 hc
          refine sm_goto (Y := mX12_leads) (pc := 89) 110 (by decide) dX12_leads_89 ?_
          refine sm_iinc (Y := mX12_leads) (pc := 110) (fun y => [(16, .int y), (13, .long x11), (11, .long x11_9), (18, .long x11), (15, .int x15_3), (17, .int x17_2), (4, .int x4), (5, .int x5), (7, .long x7), (9, .long x9)]) 9 16 rfl (by decide) (fun _ => rfl) dX12_leads_110 (fun x16_11 ex16_11 => ?_)
          replace h := h x16_11 ex16_11
          refine sm_goto (Y := mX12_leads) (pc := 113) 13 (by decide) dX12_leads_113 ?_
          refine sm_sub [6, 7, 8, 9, 2, 1, 4, 0] rfl ?_
          exact h
        · replace h := h.2 hc
          refine sm_sub [5, 6, 7, 8, 1, 0, 3, 9] rfl ?_
          exact h
theorem dX12_leads_0 : decode cX12_leads 0 = .ok (.lload_n 0, 1) := dk_lload_n_0 (by decide +kernel)
theorem dX12_leads_1 : decode cX12_leads 1 = .ok (.lstore 11, 2) := dk_lstore 11 (b := 11) (by decide +kernel) (by decide +kernel) (by decide +kernel)
theorem dX12_leads_3 : decode cX12_leads 3 = .ok (.lload_n 2, 1) := dk_lload_n_2 (by decide +kernel)
theorem dX12_leads_4 : decode cX12_leads 4 = .ok (.lstore 13, 2) := dk_lstore 13 (b := 13) (by decide +kernel) (by decide +kernel) (by decide +kernel)
theorem dX12_leads_6 : decode cX12_leads 6 = .ok (.iload 6, 2) := dk_iload 6 (b := 6) (by decide +kernel) (by decide +kernel) (by decide +kernel)
theorem dX12_leads_8 : decode cX12_leads 8 = .ok (.istore 15, 2) := dk_istore 15 (b := 15) (by decide +kernel) (by decide +kernel) (by decide +kernel)
theorem dX12_leads_10 : decode cX12_leads 10 = .ok (.iconst 0, 1) := dk_iconst_0 (by decide +kernel)
theorem dX12_leads_11 : decode cX12_leads 11 = .ok (.istore 16, 2) := dk_istore 16 (b := 16) (by decide +kernel) (by decide +kernel) (by decide +kernel)
set_option maxRecDepth 20000 in
theorem vX12_leads_0 {E : sm_E} {L : sm_S → Prop} {d : Nat} {x0 : Int64} {x2 : Int64} {x4 : Int32} {x5 : Int32} {x6 : Int32} {x7 : Int64} {x9 : Int64}  {m : sm_M} {Q : Int32 → sm_M → Prop}  (hd : 1 ≤ d) 
  (h : gX12_leads_13 E L d ([.long x0, .long x2, .int x4, .int x5, .int x6, .long x7, .long x9]) x4 x5 x7 x9 x0 x2 x6 0 m Q) :
  sm_callI E L mX12_leads d 0 0 [.long x0, .long x2, .int x4, .int x5, .int x6, .long x7, .long x9] m Q := by
  refine sm_enter (by decide +kernel) (by simp [lg_sl, Value.category]) ?_
  refine sm_lload_n (Y := mX12_leads) (pc := 0) 0 0 rfl rfl dX12_leads_0 ?_
  refine sm_lstore0 (Y := mX12_leads) (pc := 1) [(11, .long x0), (0, .long x0), (2, .long x2), (4, .int x4), (5, .int x5), (6, .int x6), (7, .long x7), (9, .long x9)] 11 (by decide) rfl dX12_leads_1 ?_
  refine sm_lload_n (Y := mX12_leads) (pc := 3) 2 2 rfl rfl dX12_leads_3 ?_
  refine sm_lstore0 (Y := mX12_leads) (pc := 4) [(13, .long x2), (11, .long x0), (0, .long x0), (2, .long x2), (4, .int x4), (5, .int x5), (6, .int x6), (7, .long x7), (9, .long x9)] 13 (by decide) rfl dX12_leads_4 ?_
  refine sm_iload (Y := mX12_leads) (pc := 6) 6 6 rfl dX12_leads_6 ?_
  refine sm_istore0 (Y := mX12_leads) (pc := 8) [(15, .int x6), (13, .long x2), (11, .long x0), (0, .long x0), (2, .long x2), (4, .int x4), (5, .int x5), (6, .int x6), (7, .long x7), (9, .long x9)] 15 (by decide) rfl dX12_leads_8 ?_
  refine sm_iconst (Y := mX12_leads) (pc := 10) 0 (by decide) dX12_leads_10 ?_
  refine sm_istore0 (Y := mX12_leads) (pc := 11) [(16, .int 0), (15, .int x6), (13, .long x2), (11, .long x0), (0, .long x0), (2, .long x2), (4, .int x4), (5, .int x5), (6, .int x6), (7, .long x7), (9, .long x9)] 16 (by decide) rfl dX12_leads_11 ?_
  refine sm_sub [6, 7, 9, 10, 3, 2, 1, 0] rfl ?_
  exact h
abbrev mX12_least : sm_Y := (yX12_least, cX12_least, 12, (some FieldType.int))
theorem fX12_least : sm_mi mX12_least RX12 4 := ⟨sm_in 1498 (by decide +kernel) (by decide +kernel), sm_in 1496 (by decide +kernel) (by decide +kernel), sm_in 1497 (by decide +kernel) (by decide +kernel), sm_in 93 (by decide +kernel) (by decide +kernel), rfl, ⟨by decide +kernel, by decide +kernel, by decide +kernel⟩, by decide⟩
def gX12_least_95 (E : sm_E) (L : sm_S → Prop) (d : Nat) (vs : List Value) (x3 : Int32) (x4 : Int32) (x5 : Int64) (x7 : Int64) (x9 : Int32) (x10 : Int32) (x11 : Int32) (m : sm_M) (Q : Int32 → sm_M → Prop) : Prop := sm_go E L mX12_least d 0 0 vs 95 [(0, .ref (sm_B E + 109)), (3, .int x3), (4, .int x4), (5, .long x5), (7, .long x7), (9, .int x9), (10, .int x10), (11, .int x11)] [] m 0 0 (sm_Z E L vs 0 0 (sm_QI Q))
def gX12_least_86 (E : sm_E) (L : sm_S → Prop) (d : Nat) (vs : List Value) (x3 : Int32) (x4 : Int32) (x5 : Int64) (x7 : Int64) (x9 : Int32) (x10 : Int32) (m : sm_M) (Q : Int32 → sm_M → Prop) : Prop := sm_go E L mX12_least d 0 0 vs 86 [(0, .ref (sm_B E + 109)), (3, .int x3), (4, .int x4), (5, .long x5), (7, .long x7), (9, .int x9), (10, .int x10)] [] m 0 0 (sm_Z E L vs 0 0 (sm_QI Q))
theorem dX12_least_95 : decode cX12_least 95 = .ok (.iload 11, 2) := dk_iload 11 (b := 11) (by decide +kernel) (by decide +kernel) (by decide +kernel)
theorem dX12_least_97 : decode cX12_least 97 = .ok (.iload 9, 2) := dk_iload 9 (b := 9) (by decide +kernel) (by decide +kernel) (by decide +kernel)
theorem dX12_least_99 : decode cX12_least 99 = .ok (.if_icmp .ge 57, 3) := dk_if_icmp_ge 57 (b1 := 0) (b2 := 57) (by decide +kernel) (by decide +kernel) (by decide +kernel) (by decide +kernel)
theorem dX12_least_156 : decode cX12_least 156 = .ok (.iload 9, 2) := dk_iload 9 (b := 9) (by decide +kernel) (by decide +kernel) (by decide +kernel)
theorem dX12_least_158 : decode cX12_least 158 = .ok (.iconst 3, 1) := dk_iconst_3 (by decide +kernel)
theorem dX12_least_159 : decode cX12_least 159 = .ok (.imul, 1) := dk_imul (by decide +kernel)
theorem dX12_least_160 : decode cX12_least 160 = .ok (.istore 9, 2) := dk_istore 9 (b := 9) (by decide +kernel) (by decide +kernel) (by decide +kernel)
theorem dX12_least_162 : decode cX12_least 162 = .ok (.iinc 10 1, 3) := dk_iinc 10 1 (b1 := 10) (b2 := 1) (by decide +kernel) (by decide +kernel) (by decide +kernel) (by decide +kernel) (by decide +kernel)
theorem dX12_least_165 : decode cX12_least 165 = .ok (.goto (-79), 3) := dk_goto (-79) (b1 := 255) (b2 := 177) (by decide +kernel) (by decide +kernel) (by decide +kernel) (by decide +kernel)
theorem dX12_least_102 : decode cX12_least 102 = .ok (.lload 5, 2) := dk_lload 5 (b := 5) (by decide +kernel) (by decide +kernel) (by decide +kernel)
theorem dX12_least_104 : decode cX12_least 104 = .ok (.lload 7, 2) := dk_lload 7 (b := 7) (by decide +kernel) (by decide +kernel) (by decide +kernel)
theorem dX12_least_106 : decode cX12_least 106 = .ok (.iload 11, 2) := dk_iload 11 (b := 11) (by decide +kernel) (by decide +kernel) (by decide +kernel)
theorem dX12_least_108 : decode cX12_least 108 = .ok (.iload 10, 2) := dk_iload 10 (b := 10) (by decide +kernel) (by decide +kernel) (by decide +kernel)
theorem dX12_least_110 : decode cX12_least 110 = .ok (.iload 9, 2) := dk_iload 9 (b := 9) (by decide +kernel) (by decide +kernel) (by decide +kernel)
theorem dX12_least_112 : decode cX12_least 112 = .ok (.iconst 3, 1) := dk_iconst_3 (by decide +kernel)
theorem dX12_least_113 : decode cX12_least 113 = .ok (.idiv, 1) := dk_idiv (by decide +kernel)
theorem dX12_least_114 : decode cX12_least 114 = .ok (.aload_n 0, 1) := dk_aload_n_0 (by decide +kernel)
theorem dX12_least_115 : decode cX12_least 115 = .ok (.getfield 170, 3) := dk_getfield 170 (b1 := 0) (b2 := 170) (by decide +kernel) (by decide +kernel) (by decide +kernel) (by decide +kernel)
theorem dX12_least_118 : decode cX12_least 118 = .ok (.aload_n 0, 1) := dk_aload_n_0 (by decide +kernel)
theorem dX12_least_119 : decode cX12_least 119 = .ok (.getfield 173, 3) := dk_getfield 173 (b1 := 0) (b2 := 173) (by decide +kernel) (by decide +kernel) (by decide +kernel) (by decide +kernel)
theorem wRX12_278 : Cond.methodLink RX12 278 yX12_leads ∈ sm_T := sm_in 1499 (by decide +kernel) (by decide +kernel)
theorem dX12_least_122 : decode cX12_least 122 = .ok (.invokestatic 278, 3) := dk_invokestatic 278 (b1 := 1) (b2 := 22) (by decide +kernel) (by decide +kernel) (by decide +kernel) (by decide +kernel)
theorem dX12_least_125 : decode cX12_least 125 = .ok (.ifCond .eq 25, 3) := dk_ifCond_eq 25 (b1 := 0) (b2 := 25) (by decide +kernel) (by decide +kernel) (by decide +kernel) (by decide +kernel)
theorem dX12_least_150 : decode cX12_least 150 = .ok (.iinc 11 1, 3) := dk_iinc 11 1 (b1 := 11) (b2 := 1) (by decide +kernel) (by decide +kernel) (by decide +kernel) (by decide +kernel) (by decide +kernel)
theorem dX12_least_153 : decode cX12_least 153 = .ok (.goto (-58), 3) := dk_goto (-58) (b1 := 255) (b2 := 198) (by decide +kernel) (by decide +kernel) (by decide +kernel) (by decide +kernel)
theorem dX12_least_128 : decode cX12_least 128 = .ok (.iload 4, 2) := dk_iload 4 (b := 4) (by decide +kernel) (by decide +kernel) (by decide +kernel)
theorem dX12_least_130 : decode cX12_least 130 = .ok (.ifCond .ne 8, 3) := dk_ifCond_ne 8 (b1 := 0) (b2 := 8) (by decide +kernel) (by decide +kernel) (by decide +kernel) (by decide +kernel)
theorem dX12_least_138 : decode cX12_least 138 = .ok (.iload 11, 2) := dk_iload 11 (b := 11) (by decide +kernel) (by decide +kernel) (by decide +kernel)
theorem dX12_least_140 : decode cX12_least 140 = .ok (.iload 10, 2) := dk_iload 10 (b := 10) (by decide +kernel) (by decide +kernel) (by decide +kernel)
theorem dX12_least_142 : decode cX12_least 142 = .ok (.iload 9, 2) := dk_iload 9 (b := 9) (by decide +kernel) (by decide +kernel) (by decide +kernel)
theorem dX12_least_144 : decode cX12_least 144 = .ok (.iconst 3, 1) := dk_iconst_3 (by decide +kernel)
theorem dX12_least_145 : decode cX12_least 145 = .ok (.idiv, 1) := dk_idiv (by decide +kernel)
theorem wRX12_282 : Cond.methodLink RX12 282 yX12_asDigits ∈ sm_T := sm_in 1502 (by decide +kernel) (by decide +kernel)
abbrev mX12_asDigits : sm_Y := (yX12_asDigits, cX12_asDigits, 6, (some FieldType.int))
theorem fX12_asDigits : sm_mt mX12_asDigits 3 := ⟨sm_in 1504 (by decide +kernel) (by decide +kernel), sm_in 1503 (by decide +kernel) (by decide +kernel), sm_in 93 (by decide +kernel) (by decide +kernel), ⟨by decide +kernel, by decide +kernel, by decide +kernel⟩, by decide⟩
theorem dX12_least_146 : decode cX12_least 146 = .ok (.invokestatic 282, 3) := dk_invokestatic 282 (b1 := 1) (b2 := 26) (by decide +kernel) (by decide +kernel) (by decide +kernel) (by decide +kernel)
theorem dX12_least_149 : decode cX12_least 149 = .ok (.ireturn, 1) := dk_ireturn (by decide +kernel)
theorem dX12_least_133 : decode cX12_least 133 = .ok (.iload 10, 2) := dk_iload 10 (b := 10) (by decide +kernel) (by decide +kernel) (by decide +kernel)
theorem dX12_least_135 : decode cX12_least 135 = .ok (.goto 14, 3) := dk_goto 14 (b1 := 0) (b2 := 14) (by decide +kernel) (by decide +kernel) (by decide +kernel) (by decide +kernel)
set_option maxRecDepth 20000 in
theorem vX12_least_95 {E : sm_E} {L : sm_S → Prop} {d : Nat} {vs : List Value} {x3 : Int32} {x4 : Int32} {x5 : Int64} {x7 : Int64} {x9 : Int32} {x10 : Int32} {x11 : Int32}  {m : sm_M} {Q : Int32 → sm_M → Prop} (hly : ∀ S, L S → ly S) (hd : 5 ≤ d) 
  (h : (x9 ≤ x11 →
      ∀ x9_1 : Int32, x9_1 = x9 * 3 →
      ∀ x10_2 : Int32, x10_2 = x10 + 1 →
      gX12_least_86 E L d vs x3 x4 x5 x7 x9_1 x10_2 m Q) ∧
   (¬ x9 ≤ x11 →
      sm_callI E L mX12_leads 1 0 0 [.long x5, .long x7, .int x11, .int x10, .int (x9 / 3), .long (m.2.1 109 29), .long (m.2.1 109 30)] m (fun r_4 m_3 =>
      (r_4 = 0 →
         ∀ x11_5 : Int32, x11_5 = x11 + 1 →
         gX12_least_95 E L d vs x3 x4 x5 x7 x9 x10 x11_5 m_3 Q) ∧
      (¬ r_4 = 0 →
         (¬ x4 = 0 →
            sm_callI E L mX12_asDigits 1 0 0 [.int x11, .int x10, .int (x9 / 3)] m_3 (fun r_7 m_6 =>
            Q r_7 m_6)) ∧
         (x4 = 0 →
            Q x10 m_3))))) :
  gX12_least_95 E L d vs x3 x4 x5 x7 x9 x10 x11 m Q := by
  refine sm_iload (Y := mX12_least) (pc := 95) 7 11 rfl dX12_least_95 ?_
  refine sm_iload (Y := mX12_least) (pc := 97) 5 9 rfl dX12_least_97 ?_
  refine sm_icmp_ge (Y := mX12_least) (pc := 99) 156 (by decide) dX12_least_99 (fun hc => ?_) (fun hc => ?_)
  · replace h := h.1 hc
    refine sm_iload (Y := mX12_least) (pc := 156) 5 9 rfl dX12_least_156 ?_
    refine sm_iconst (Y := mX12_least) (pc := 158) 3 (by decide) dX12_least_158 ?_
    refine sm_imul (Y := mX12_least) (pc := 159) dX12_least_159 ?_
    refine sm_istore (Y := mX12_least) (pc := 160) (fun y => [(9, .int y), (0, .ref (sm_B E + 109)), (3, .int x3), (4, .int x4), (5, .long x5), (7, .long x7), (10, .int x10), (11, .int x11)]) 9 (by decide) (fun _ => rfl) dX12_least_160 (fun x9_1 ex9_1 => ?_)
    replace h := h x9_1 ex9_1
    refine sm_iinc (Y := mX12_least) (pc := 162) (fun y => [(10, .int y), (9, .int x9_1), (0, .ref (sm_B E + 109)), (3, .int x3), (4, .int x4), (5, .long x5), (7, .long x7), (11, .int x11)]) 6 10 rfl (by decide) (fun _ => rfl) dX12_least_162 (fun x10_2 ex10_2 => ?_)
    replace h := h x10_2 ex10_2
    refine sm_goto (Y := mX12_least) (pc := 165) 86 (by decide) dX12_least_165 ?_
    refine sm_sub [2, 3, 4, 5, 6, 1, 0] rfl ?_
    exact h
  · replace h := h.2 hc
    refine sm_lload (Y := mX12_least) (pc := 102) 3 5 rfl dX12_least_102 ?_
    refine sm_lload (Y := mX12_least) (pc := 104) 4 7 rfl dX12_least_104 ?_
    refine sm_iload (Y := mX12_least) (pc := 106) 7 11 rfl dX12_least_106 ?_
    refine sm_iload (Y := mX12_least) (pc := 108) 6 10 rfl dX12_least_108 ?_
    refine sm_iload (Y := mX12_least) (pc := 110) 5 9 rfl dX12_least_110 ?_
    refine sm_iconst (Y := mX12_least) (pc := 112) 3 (by decide) dX12_least_112 ?_
    refine sm_idiv (Y := mX12_least) (pc := 113) (by decide) dX12_least_113 ?_
    refine sm_aload_n (Y := mX12_least) (pc := 114) 0 0 rfl rfl dX12_least_114 ?_
    refine gf_RX12_170 (Y := mX12_least) (pc := 115) rfl ((lk_109 hly) _) dX12_least_115 ?_
    refine sm_aload_n (Y := mX12_least) (pc := 118) 0 0 rfl rfl dX12_least_118 ?_
    refine gf_RX12_173 (Y := mX12_least) (pc := 119) rfl ((lk_109 hly) _) dX12_least_119 ?_
    refine sm_is_I (Y := mX12_least) (pc := 122) (As := [.long x5, .long x7, .int x11, .int x10, .int (x9 / 3), .long (m.2.1 109 29), .long (m.2.1 109 30)]) fX12_leads wRX12_278 rfl (Nat.le_trans (by decide) hd) (Nat.le_of_ble_eq_true rfl) ⟨Nat.le_refl _, Nat.le_refl _⟩ dX12_least_122 rfl (sm_monoI h (fun r_4 m_3 h => ?_))
    refine sm_if_eq (Y := mX12_least) (pc := 125) 150 (by decide) dX12_least_125 (fun hc => ?_) (fun hc => ?_)
    · replace h := h.1 hc
      refine sm_iinc (Y := mX12_least) (pc := 150) (fun y => [(11, .int y), (0, .ref (sm_B E + 109)), (3, .int x3), (4, .int x4), (5, .long x5), (7, .long x7), (9, .int x9), (10, .int x10)]) 7 11 rfl (by decide) (fun _ => rfl) dX12_least_150 (fun x11_5 ex11_5 => ?_)
      replace h := h x11_5 ex11_5
      refine sm_goto (Y := mX12_least) (pc := 153) 95 (by decide) dX12_least_153 ?_
      refine sm_sub [1, 2, 3, 4, 5, 6, 7, 0] rfl ?_
      exact h
    · replace h := h.2 hc
      refine sm_iload (Y := mX12_least) (pc := 128) 2 4 rfl dX12_least_128 ?_
      refine sm_if_ne (Y := mX12_least) (pc := 130) 138 (by decide) dX12_least_130 (fun hc => ?_) (fun hc => ?_)
      · replace h := h.1 hc
        refine sm_iload (Y := mX12_least) (pc := 138) 7 11 rfl dX12_least_138 ?_
        refine sm_iload (Y := mX12_least) (pc := 140) 6 10 rfl dX12_least_140 ?_
        refine sm_iload (Y := mX12_least) (pc := 142) 5 9 rfl dX12_least_142 ?_
        refine sm_iconst (Y := mX12_least) (pc := 144) 3 (by decide) dX12_least_144 ?_
        refine sm_idiv (Y := mX12_least) (pc := 145) (by decide) dX12_least_145 ?_
        refine sm_is_I (Y := mX12_least) (pc := 146) (As := [.int x11, .int x10, .int (x9 / 3)]) fX12_asDigits wRX12_282 rfl (Nat.le_trans (by decide) hd) (Nat.le_of_ble_eq_true rfl) ⟨Nat.le_refl _, Nat.le_refl _⟩ dX12_least_146 rfl (sm_monoI h (fun r_7 m_6 h => ?_))
        exact sm_iret (Y := mX12_least) (pc := 149) rfl rfl rfl dX12_least_149 ⟨_, rfl, h⟩
      · replace h := h.2 hc
        refine sm_iload (Y := mX12_least) (pc := 133) 6 10 rfl dX12_least_133 ?_
        refine sm_goto (Y := mX12_least) (pc := 135) 149 (by decide) dX12_least_135 ?_
        exact sm_iret (Y := mX12_least) (pc := 149) rfl rfl rfl dX12_least_149 ⟨_, rfl, h⟩
theorem dX12_least_86 : decode cX12_least 86 = .ok (.iload 10, 2) := dk_iload 10 (b := 10) (by decide +kernel) (by decide +kernel) (by decide +kernel)
theorem dX12_least_88 : decode cX12_least 88 = .ok (.iload_n 3, 1) := dk_iload_n_3 (by decide +kernel)
theorem dX12_least_89 : decode cX12_least 89 = .ok (.if_icmp .gt 79, 3) := dk_if_icmp_gt 79 (b1 := 0) (b2 := 79) (by decide +kernel) (by decide +kernel) (by decide +kernel) (by decide +kernel)
theorem dX12_least_168 : decode cX12_least 168 = .ok (.aload_n 0, 1) := dk_aload_n_0 (by decide +kernel)
theorem dX12_least_169 : decode cX12_least 169 = .ok (.iconst 2, 1) := dk_iconst_2 (by decide +kernel)
theorem dX12_least_170 : decode cX12_least 170 = .ok (.invokevirtual 194, 3) := dk_invokevirtual 194 (b1 := 0) (b2 := 194) (by decide +kernel) (by decide +kernel) (by decide +kernel) (by decide +kernel)
theorem dX12_least_173 : decode cX12_least 173 = .ok (.ireturn, 1) := dk_ireturn (by decide +kernel)
theorem dX12_least_92 : decode cX12_least 92 = .ok (.iconst 0, 1) := dk_iconst_0 (by decide +kernel)
theorem dX12_least_93 : decode cX12_least 93 = .ok (.istore 11, 2) := dk_istore 11 (b := 11) (by decide +kernel) (by decide +kernel) (by decide +kernel)
set_option maxRecDepth 20000 in
theorem vX12_least_86 {E : sm_E} {L : sm_S → Prop} {d : Nat} {vs : List Value} {x3 : Int32} {x4 : Int32} {x5 : Int64} {x7 : Int64} {x9 : Int32} {x10 : Int32}  {m : sm_M} {Q : Int32 → sm_M → Prop} (hly : ∀ S, L S → ly S) (hd : 5 ≤ d) 
  (h : (x3 < x10 →
      sm_callI E L mX12_finds 1 0 0 [.ref (sm_B E + 109), .int 2] m (fun r_2 m_1 =>
      Q r_2 m_1)) ∧
   (¬ x3 < x10 →
      gX12_least_95 E L d vs x3 x4 x5 x7 x9 x10 0 m Q)) :
  gX12_least_86 E L d vs x3 x4 x5 x7 x9 x10 m Q := by
  refine sm_iload (Y := mX12_least) (pc := 86) 6 10 rfl dX12_least_86 ?_
  refine sm_iload_n (Y := mX12_least) (pc := 88) 1 3 rfl rfl dX12_least_88 ?_
  refine sm_icmp_gt (Y := mX12_least) (pc := 89) 168 (by decide) dX12_least_89 (fun hc => ?_) (fun hc => ?_)
  · replace h := h.1 hc
    refine sm_aload_n (Y := mX12_least) (pc := 168) 0 0 rfl rfl dX12_least_168 ?_
    refine sm_iconst (Y := mX12_least) (pc := 169) 2 (by decide) dX12_least_169 ?_
    refine sm_iv_I (Y := mX12_least) (pc := 170) (As := [.int 2]) (a := 109) fX12_finds wRX12_194 (lk_109 hly) (by decide) rfl rfl rfl (Nat.le_trans (by decide) hd) (Nat.le_of_ble_eq_true rfl) ⟨Nat.le_refl _, Nat.le_refl _⟩ dX12_least_170 rfl (sm_monoI h (fun r_2 m_1 h => ?_))
    exact sm_iret (Y := mX12_least) (pc := 173) rfl rfl rfl dX12_least_173 ⟨_, rfl, h⟩
  · replace h := h.2 hc
    refine sm_iconst (Y := mX12_least) (pc := 92) 0 (by decide) dX12_least_92 ?_
    refine sm_istore0 (Y := mX12_least) (pc := 93) [(11, .int 0), (0, .ref (sm_B E + 109)), (3, .int x3), (4, .int x4), (5, .long x5), (7, .long x7), (9, .int x9), (10, .int x10)] 11 (by decide) rfl dX12_least_93 ?_
    refine sm_sub [1, 2, 3, 4, 5, 6, 7, 0] rfl ?_
    exact h
theorem dX12_least_0 : decode cX12_least 0 = .ok (.iload_n 1, 1) := dk_iload_n_1 (by decide +kernel)
theorem dX12_least_1 : decode cX12_least 1 = .ok (.invokestatic 184, 3) := dk_invokestatic 184 (b1 := 0) (b2 := 184) (by decide +kernel) (by decide +kernel) (by decide +kernel) (by decide +kernel)
theorem dX12_least_4 : decode cX12_least 4 = .ok (.ifCond .eq 30, 3) := dk_ifCond_eq 30 (b1 := 0) (b2 := 30) (by decide +kernel) (by decide +kernel) (by decide +kernel) (by decide +kernel)
theorem dX12_least_34 : decode cX12_least 34 = .ok (.aload_n 0, 1) := dk_aload_n_0 (by decide +kernel)
theorem dX12_least_35 : decode cX12_least 35 = .ok (.iconst 1, 1) := dk_iconst_1 (by decide +kernel)
theorem dX12_least_36 : decode cX12_least 36 = .ok (.invokevirtual 194, 3) := dk_invokevirtual 194 (b1 := 0) (b2 := 194) (by decide +kernel) (by decide +kernel) (by decide +kernel) (by decide +kernel)
theorem dX12_least_39 : decode cX12_least 39 = .ok (.ireturn, 1) := dk_ireturn (by decide +kernel)
theorem dX12_least_7 : decode cX12_least 7 = .ok (.iload_n 2, 1) := dk_iload_n_2 (by decide +kernel)
theorem dX12_least_8 : decode cX12_least 8 = .ok (.invokestatic 184, 3) := dk_invokestatic 184 (b1 := 0) (b2 := 184) (by decide +kernel) (by decide +kernel) (by decide +kernel) (by decide +kernel)
theorem dX12_least_11 : decode cX12_least 11 = .ok (.ifCond .eq 23, 3) := dk_ifCond_eq 23 (b1 := 0) (b2 := 23) (by decide +kernel) (by decide +kernel) (by decide +kernel) (by decide +kernel)
theorem dX12_least_14 : decode cX12_least 14 = .ok (.iload_n 3, 1) := dk_iload_n_3 (by decide +kernel)
theorem dX12_least_15 : decode cX12_least 15 = .ok (.i2l, 1) := dk_i2l (by decide +kernel)
theorem dX12_least_16 : decode cX12_least 16 = .ok (.lconst 0, 1) := dk_lconst_0 (by decide +kernel)
theorem dX12_least_17 : decode cX12_least 17 = .ok (.ldc2_w 188, 3) := dk_ldc2_w 188 (b1 := 0) (b2 := 188) (by decide +kernel) (by decide +kernel) (by decide +kernel) (by decide +kernel)
theorem dX12_least_20 : decode cX12_least 20 = .ok (.invokestatic 190, 3) := dk_invokestatic 190 (b1 := 0) (b2 := 190) (by decide +kernel) (by decide +kernel) (by decide +kernel) (by decide +kernel)
theorem dX12_least_23 : decode cX12_least 23 = .ok (.ifCond .eq 11, 3) := dk_ifCond_eq 11 (b1 := 0) (b2 := 11) (by decide +kernel) (by decide +kernel) (by decide +kernel) (by decide +kernel)
theorem dX12_least_26 : decode cX12_least 26 = .ok (.iload 4, 2) := dk_iload 4 (b := 4) (by decide +kernel) (by decide +kernel) (by decide +kernel)
theorem dX12_least_28 : decode cX12_least 28 = .ok (.invokestatic 214, 3) := dk_invokestatic 214 (b1 := 0) (b2 := 214) (by decide +kernel) (by decide +kernel) (by decide +kernel) (by decide +kernel)
theorem dX12_least_31 : decode cX12_least 31 = .ok (.ifCond .ne 9, 3) := dk_ifCond_ne 9 (b1 := 0) (b2 := 9) (by decide +kernel) (by decide +kernel) (by decide +kernel) (by decide +kernel)
theorem dX12_least_40 : decode cX12_least 40 = .ok (.aload_n 0, 1) := dk_aload_n_0 (by decide +kernel)
theorem dX12_least_41 : decode cX12_least 41 = .ok (.iload_n 1, 1) := dk_iload_n_1 (by decide +kernel)
theorem dX12_least_42 : decode cX12_least 42 = .ok (.invokevirtual 198, 3) := dk_invokevirtual 198 (b1 := 0) (b2 := 198) (by decide +kernel) (by decide +kernel) (by decide +kernel) (by decide +kernel)
theorem dX12_least_45 : decode cX12_least 45 = .ok (.ifCond .ne 9, 3) := dk_ifCond_ne 9 (b1 := 0) (b2 := 9) (by decide +kernel) (by decide +kernel) (by decide +kernel) (by decide +kernel)
theorem dX12_least_54 : decode cX12_least 54 = .ok (.aload_n 0, 1) := dk_aload_n_0 (by decide +kernel)
theorem dX12_least_55 : decode cX12_least 55 = .ok (.getfield 170, 3) := dk_getfield 170 (b1 := 0) (b2 := 170) (by decide +kernel) (by decide +kernel) (by decide +kernel) (by decide +kernel)
theorem dX12_least_58 : decode cX12_least 58 = .ok (.lstore 5, 2) := dk_lstore 5 (b := 5) (by decide +kernel) (by decide +kernel) (by decide +kernel)
theorem dX12_least_60 : decode cX12_least 60 = .ok (.aload_n 0, 1) := dk_aload_n_0 (by decide +kernel)
theorem dX12_least_61 : decode cX12_least 61 = .ok (.getfield 173, 3) := dk_getfield 173 (b1 := 0) (b2 := 173) (by decide +kernel) (by decide +kernel) (by decide +kernel) (by decide +kernel)
theorem dX12_least_64 : decode cX12_least 64 = .ok (.lstore 7, 2) := dk_lstore 7 (b := 7) (by decide +kernel) (by decide +kernel) (by decide +kernel)
theorem dX12_least_66 : decode cX12_least 66 = .ok (.aload_n 0, 1) := dk_aload_n_0 (by decide +kernel)
theorem dX12_least_67 : decode cX12_least 67 = .ok (.iload_n 2, 1) := dk_iload_n_2 (by decide +kernel)
theorem dX12_least_68 : decode cX12_least 68 = .ok (.invokevirtual 198, 3) := dk_invokevirtual 198 (b1 := 0) (b2 := 198) (by decide +kernel) (by decide +kernel) (by decide +kernel) (by decide +kernel)
theorem dX12_least_71 : decode cX12_least 71 = .ok (.ifCond .ne 9, 3) := dk_ifCond_ne 9 (b1 := 0) (b2 := 9) (by decide +kernel) (by decide +kernel) (by decide +kernel) (by decide +kernel)
theorem dX12_least_80 : decode cX12_least 80 = .ok (.iconst 1, 1) := dk_iconst_1 (by decide +kernel)
theorem dX12_least_81 : decode cX12_least 81 = .ok (.istore 9, 2) := dk_istore 9 (b := 9) (by decide +kernel) (by decide +kernel) (by decide +kernel)
theorem dX12_least_83 : decode cX12_least 83 = .ok (.iconst 0, 1) := dk_iconst_0 (by decide +kernel)
theorem dX12_least_84 : decode cX12_least 84 = .ok (.istore 10, 2) := dk_istore 10 (b := 10) (by decide +kernel) (by decide +kernel) (by decide +kernel)
theorem dX12_least_74 : decode cX12_least 74 = .ok (.aload_n 0, 1) := dk_aload_n_0 (by decide +kernel)
theorem dX12_least_75 : decode cX12_least 75 = .ok (.iconst 2, 1) := dk_iconst_2 (by decide +kernel)
theorem dX12_least_76 : decode cX12_least 76 = .ok (.invokevirtual 194, 3) := dk_invokevirtual 194 (b1 := 0) (b2 := 194) (by decide +kernel) (by decide +kernel) (by decide +kernel) (by decide +kernel)
theorem dX12_least_79 : decode cX12_least 79 = .ok (.ireturn, 1) := dk_ireturn (by decide +kernel)
theorem dX12_least_48 : decode cX12_least 48 = .ok (.aload_n 0, 1) := dk_aload_n_0 (by decide +kernel)
theorem dX12_least_49 : decode cX12_least 49 = .ok (.iconst 2, 1) := dk_iconst_2 (by decide +kernel)
theorem dX12_least_50 : decode cX12_least 50 = .ok (.invokevirtual 194, 3) := dk_invokevirtual 194 (b1 := 0) (b2 := 194) (by decide +kernel) (by decide +kernel) (by decide +kernel) (by decide +kernel)
theorem dX12_least_53 : decode cX12_least 53 = .ok (.ireturn, 1) := dk_ireturn (by decide +kernel)
set_option maxRecDepth 20000 in
theorem vX12_least_0 {E : sm_E} {L : sm_S → Prop} {d : Nat} {x1 : Int32} {x2 : Int32} {x3 : Int32} {x4 : Int32}  {m : sm_M} {Q : Int32 → sm_M → Prop} (hly : ∀ S, L S → ly S) (hd : 5 ≤ d) 
  (h : sm_callI E L mX12_isSlot 1 0 0 [.int x1] m (fun r_2 m_1 =>
   (r_2 = 0 →
      sm_callI E L mX12_finds 1 0 0 [.ref (sm_B E + 109), .int 1] m_1 (fun r_4 m_3 =>
      Q r_4 m_3)) ∧
   (¬ r_2 = 0 →
      sm_callI E L mX12_isSlot 1 0 0 [.int x2] m_1 (fun r_6 m_5 =>
      (r_6 = 0 →
         sm_callI E L mX12_finds 1 0 0 [.ref (sm_B E + 109), .int 1] m_5 (fun r_8 m_7 =>
         Q r_8 m_7)) ∧
      (¬ r_6 = 0 →
         sm_callI E L mX12_isIn 1 0 0 [.long (x3.toInt64), .long 0, .long 8] m_5 (fun r_10 m_9 =>
         (r_10 = 0 →
            sm_callI E L mX12_finds 1 0 0 [.ref (sm_B E + 109), .int 1] m_9 (fun r_12 m_11 =>
            Q r_12 m_11)) ∧
         (¬ r_10 = 0 →
            sm_callI E L mX12_isPart 1 0 0 [.int x4] m_9 (fun r_14 m_13 =>
            (¬ r_14 = 0 →
               sm_callI E L mX12_fraction 4 0 0 [.ref (sm_B E + 109), .int x1] m_13 (fun r_16 m_15 =>
               (¬ r_16 = 0 →
                  ∀ x5_17 : Int64, x5_17 = m_15.2.1 109 29 →
                  ∀ x7_18 : Int64, x7_18 = m_15.2.1 109 30 →
                  sm_callI E L mX12_fraction 4 0 0 [.ref (sm_B E + 109), .int x2] m_15 (fun r_20 m_19 =>
                  (¬ r_20 = 0 →
                     gX12_least_86 E L d ([.ref (sm_B E + 109), .int x1, .int x2, .int x3, .int x4]) x3 x4 x5_17 x7_18 1 0 m_19 Q) ∧
                  (r_20 = 0 →
                     sm_callI E L mX12_finds 1 0 0 [.ref (sm_B E + 109), .int 2] m_19 (fun r_24 m_23 =>
                     Q r_24 m_23)))) ∧
               (r_16 = 0 →
                  sm_callI E L mX12_finds 1 0 0 [.ref (sm_B E + 109), .int 2] m_15 (fun r_26 m_25 =>
                  Q r_26 m_25)))) ∧
            (r_14 = 0 →
               sm_callI E L mX12_finds 1 0 0 [.ref (sm_B E + 109), .int 1] m_13 (fun r_28 m_27 =>
               Q r_28 m_27)))))))))) :
  sm_callI E L mX12_least d 0 0 [.ref (sm_B E + 109), .int x1, .int x2, .int x3, .int x4] m Q := by
  refine sm_enter (by decide +kernel) (by simp [lg_sl, Value.category]) ?_
  refine sm_iload_n (Y := mX12_least) (pc := 0) 1 1 rfl rfl dX12_least_0 ?_
  refine sm_is_I (Y := mX12_least) (pc := 1) (As := [.int x1]) fX12_isSlot wRX12_184 rfl (Nat.le_trans (by decide) hd) (Nat.le_of_ble_eq_true rfl) ⟨Nat.le_refl _, Nat.le_refl _⟩ dX12_least_1 rfl (sm_monoI h (fun r_2 m_1 h => ?_))
  refine sm_if_eq (Y := mX12_least) (pc := 4) 34 (by decide) dX12_least_4 (fun hc => ?_) (fun hc => ?_)
  · replace h := h.1 hc
    refine sm_aload_n (Y := mX12_least) (pc := 34) 0 0 rfl rfl dX12_least_34 ?_
    refine sm_iconst (Y := mX12_least) (pc := 35) 1 (by decide) dX12_least_35 ?_
    refine sm_iv_I (Y := mX12_least) (pc := 36) (As := [.int 1]) (a := 109) fX12_finds wRX12_194 (lk_109 hly) (by decide) rfl rfl rfl (Nat.le_trans (by decide) hd) (Nat.le_of_ble_eq_true rfl) ⟨Nat.le_refl _, Nat.le_refl _⟩ dX12_least_36 rfl (sm_monoI h (fun r_4 m_3 h => ?_))
    exact sm_iret (Y := mX12_least) (pc := 39) rfl rfl rfl dX12_least_39 ⟨_, rfl, h⟩
  · replace h := h.2 hc
    refine sm_iload_n (Y := mX12_least) (pc := 7) 2 2 rfl rfl dX12_least_7 ?_
    refine sm_is_I (Y := mX12_least) (pc := 8) (As := [.int x2]) fX12_isSlot wRX12_184 rfl (Nat.le_trans (by decide) hd) (Nat.le_of_ble_eq_true rfl) ⟨Nat.le_refl _, Nat.le_refl _⟩ dX12_least_8 rfl (sm_monoI h (fun r_6 m_5 h => ?_))
    refine sm_if_eq (Y := mX12_least) (pc := 11) 34 (by decide) dX12_least_11 (fun hc => ?_) (fun hc => ?_)
    · replace h := h.1 hc
      refine sm_aload_n (Y := mX12_least) (pc := 34) 0 0 rfl rfl dX12_least_34 ?_
      refine sm_iconst (Y := mX12_least) (pc := 35) 1 (by decide) dX12_least_35 ?_
      refine sm_iv_I (Y := mX12_least) (pc := 36) (As := [.int 1]) (a := 109) fX12_finds wRX12_194 (lk_109 hly) (by decide) rfl rfl rfl (Nat.le_trans (by decide) hd) (Nat.le_of_ble_eq_true rfl) ⟨Nat.le_refl _, Nat.le_refl _⟩ dX12_least_36 rfl (sm_monoI h (fun r_8 m_7 h => ?_))
      exact sm_iret (Y := mX12_least) (pc := 39) rfl rfl rfl dX12_least_39 ⟨_, rfl, h⟩
    · replace h := h.2 hc
      refine sm_iload_n (Y := mX12_least) (pc := 14) 3 3 rfl rfl dX12_least_14 ?_
      refine sm_i2l (Y := mX12_least) (pc := 15) dX12_least_15 ?_
      refine sm_lconst (Y := mX12_least) (pc := 16) 0 (by decide) dX12_least_16 ?_
      refine sm_ldc2_w (Y := mX12_least) (pc := 17) 8 wRX12_188 dX12_least_17 ?_
      refine sm_is_I (Y := mX12_least) (pc := 20) (As := [.long (x3.toInt64), .long 0, .long 8]) fX12_isIn wRX12_190 rfl (Nat.le_trans (by decide) hd) (Nat.le_of_ble_eq_true rfl) ⟨Nat.le_refl _, Nat.le_refl _⟩ dX12_least_20 rfl (sm_monoI h (fun r_10 m_9 h => ?_))
      refine sm_if_eq (Y := mX12_least) (pc := 23) 34 (by decide) dX12_least_23 (fun hc => ?_) (fun hc => ?_)
      · replace h := h.1 hc
        refine sm_aload_n (Y := mX12_least) (pc := 34) 0 0 rfl rfl dX12_least_34 ?_
        refine sm_iconst (Y := mX12_least) (pc := 35) 1 (by decide) dX12_least_35 ?_
        refine sm_iv_I (Y := mX12_least) (pc := 36) (As := [.int 1]) (a := 109) fX12_finds wRX12_194 (lk_109 hly) (by decide) rfl rfl rfl (Nat.le_trans (by decide) hd) (Nat.le_of_ble_eq_true rfl) ⟨Nat.le_refl _, Nat.le_refl _⟩ dX12_least_36 rfl (sm_monoI h (fun r_12 m_11 h => ?_))
        exact sm_iret (Y := mX12_least) (pc := 39) rfl rfl rfl dX12_least_39 ⟨_, rfl, h⟩
      · replace h := h.2 hc
        refine sm_iload (Y := mX12_least) (pc := 26) 4 4 rfl dX12_least_26 ?_
        refine sm_is_I (Y := mX12_least) (pc := 28) (As := [.int x4]) fX12_isPart wRX12_214 rfl (Nat.le_trans (by decide) hd) (Nat.le_of_ble_eq_true rfl) ⟨Nat.le_refl _, Nat.le_refl _⟩ dX12_least_28 rfl (sm_monoI h (fun r_14 m_13 h => ?_))
        refine sm_if_ne (Y := mX12_least) (pc := 31) 40 (by decide) dX12_least_31 (fun hc => ?_) (fun hc => ?_)
        · replace h := h.1 hc
          refine sm_aload_n (Y := mX12_least) (pc := 40) 0 0 rfl rfl dX12_least_40 ?_
          refine sm_iload_n (Y := mX12_least) (pc := 41) 1 1 rfl rfl dX12_least_41 ?_
          refine sm_iv_I (Y := mX12_least) (pc := 42) (As := [.int x1]) (a := 109) fX12_fraction wRX12_198 (lk_109 hly) (by decide) rfl rfl rfl (Nat.le_trans (by decide) hd) (Nat.le_of_ble_eq_true rfl) ⟨Nat.le_refl _, Nat.le_refl _⟩ dX12_least_42 rfl (sm_monoI h (fun r_16 m_15 h => ?_))
          refine sm_if_ne (Y := mX12_least) (pc := 45) 54 (by decide) dX12_least_45 (fun hc => ?_) (fun hc => ?_)
          · replace h := h.1 hc
            refine sm_aload_n (Y := mX12_least) (pc := 54) 0 0 rfl rfl dX12_least_54 ?_
            refine gf_RX12_170 (Y := mX12_least) (pc := 55) rfl ((lk_109 hly) _) dX12_least_55 ?_
            refine sm_lstore (Y := mX12_least) (pc := 58) (fun y => [(5, .long y), (0, .ref (sm_B E + 109)), (1, .int x1), (2, .int x2), (3, .int x3), (4, .int x4)]) 5 (by decide) (fun _ => rfl) dX12_least_58 (fun x5_17 ex5_17 => ?_)
            replace h := h x5_17 ex5_17
            refine sm_aload_n (Y := mX12_least) (pc := 60) 1 0 rfl rfl dX12_least_60 ?_
            refine gf_RX12_173 (Y := mX12_least) (pc := 61) rfl ((lk_109 hly) _) dX12_least_61 ?_
            refine sm_lstore (Y := mX12_least) (pc := 64) (fun y => [(7, .long y), (5, .long x5_17), (0, .ref (sm_B E + 109)), (1, .int x1), (2, .int x2), (3, .int x3), (4, .int x4)]) 7 (by decide) (fun _ => rfl) dX12_least_64 (fun x7_18 ex7_18 => ?_)
            replace h := h x7_18 ex7_18
            refine sm_aload_n (Y := mX12_least) (pc := 66) 2 0 rfl rfl dX12_least_66 ?_
            refine sm_iload_n (Y := mX12_least) (pc := 67) 4 2 rfl rfl dX12_least_67 ?_
            refine sm_iv_I (Y := mX12_least) (pc := 68) (As := [.int x2]) (a := 109) fX12_fraction wRX12_198 (lk_109 hly) (by decide) rfl rfl rfl (Nat.le_trans (by decide) hd) (Nat.le_of_ble_eq_true rfl) ⟨Nat.le_refl _, Nat.le_refl _⟩ dX12_least_68 rfl (sm_monoI h (fun r_20 m_19 h => ?_))
            refine sm_if_ne (Y := mX12_least) (pc := 71) 80 (by decide) dX12_least_71 (fun hc => ?_) (fun hc => ?_)
            · replace h := h.1 hc
              refine sm_iconst (Y := mX12_least) (pc := 80) 1 (by decide) dX12_least_80 ?_
              refine sm_istore0 (Y := mX12_least) (pc := 81) [(9, .int 1), (7, .long x7_18), (5, .long x5_17), (0, .ref (sm_B E + 109)), (1, .int x1), (2, .int x2), (3, .int x3), (4, .int x4)] 9 (by decide) rfl dX12_least_81 ?_
              refine sm_iconst (Y := mX12_least) (pc := 83) 0 (by decide) dX12_least_83 ?_
              refine sm_istore0 (Y := mX12_least) (pc := 84) [(10, .int 0), (9, .int 1), (7, .long x7_18), (5, .long x5_17), (0, .ref (sm_B E + 109)), (1, .int x1), (2, .int x2), (3, .int x3), (4, .int x4)] 10 (by decide) rfl dX12_least_84 ?_
              refine sm_sub [4, 7, 8, 3, 2, 1, 0] rfl ?_
              exact h
            · replace h := h.2 hc
              refine sm_aload_n (Y := mX12_least) (pc := 74) 2 0 rfl rfl dX12_least_74 ?_
              refine sm_iconst (Y := mX12_least) (pc := 75) 2 (by decide) dX12_least_75 ?_
              refine sm_iv_I (Y := mX12_least) (pc := 76) (As := [.int 2]) (a := 109) fX12_finds wRX12_194 (lk_109 hly) (by decide) rfl rfl rfl (Nat.le_trans (by decide) hd) (Nat.le_of_ble_eq_true rfl) ⟨Nat.le_refl _, Nat.le_refl _⟩ dX12_least_76 rfl (sm_monoI h (fun r_24 m_23 h => ?_))
              exact sm_iret (Y := mX12_least) (pc := 79) rfl rfl rfl dX12_least_79 ⟨_, rfl, h⟩
          · replace h := h.2 hc
            refine sm_aload_n (Y := mX12_least) (pc := 48) 0 0 rfl rfl dX12_least_48 ?_
            refine sm_iconst (Y := mX12_least) (pc := 49) 2 (by decide) dX12_least_49 ?_
            refine sm_iv_I (Y := mX12_least) (pc := 50) (As := [.int 2]) (a := 109) fX12_finds wRX12_194 (lk_109 hly) (by decide) rfl rfl rfl (Nat.le_trans (by decide) hd) (Nat.le_of_ble_eq_true rfl) ⟨Nat.le_refl _, Nat.le_refl _⟩ dX12_least_50 rfl (sm_monoI h (fun r_26 m_25 h => ?_))
            exact sm_iret (Y := mX12_least) (pc := 53) rfl rfl rfl dX12_least_53 ⟨_, rfl, h⟩
        · replace h := h.2 hc
          refine sm_aload_n (Y := mX12_least) (pc := 34) 0 0 rfl rfl dX12_least_34 ?_
          refine sm_iconst (Y := mX12_least) (pc := 35) 1 (by decide) dX12_least_35 ?_
          refine sm_iv_I (Y := mX12_least) (pc := 36) (As := [.int 1]) (a := 109) fX12_finds wRX12_194 (lk_109 hly) (by decide) rfl rfl rfl (Nat.le_trans (by decide) hd) (Nat.le_of_ble_eq_true rfl) ⟨Nat.le_refl _, Nat.le_refl _⟩ dX12_least_36 rfl (sm_monoI h (fun r_28 m_27 h => ?_))
          exact sm_iret (Y := mX12_least) (pc := 39) rfl rfl rfl dX12_least_39 ⟨_, rfl, h⟩
def gX12_asDigits_8 (E : sm_E) (L : sm_S → Prop) (d : Nat) (vs : List Value) (x0 : Int32) (x1 : Int32) (x3 : Int32) (x4 : Int32) (x5 : Int32) (m : sm_M) (Q : Int32 → sm_M → Prop) : Prop := sm_go E L mX12_asDigits d 0 0 vs 8 [(0, .int x0), (1, .int x1), (3, .int x3), (4, .int x4), (5, .int x5)] [] m 0 0 (sm_Z E L vs 0 0 (sm_QI Q))
theorem dX12_asDigits_8 : decode cX12_asDigits 8 = .ok (.iload 5, 2) := dk_iload 5 (b := 5) (by decide +kernel) (by decide +kernel) (by decide +kernel)
theorem dX12_asDigits_10 : decode cX12_asDigits 10 = .ok (.iload_n 1, 1) := dk_iload_n_1 (by decide +kernel)
theorem dX12_asDigits_11 : decode cX12_asDigits 11 = .ok (.if_icmp .ge 27, 3) := dk_if_icmp_ge 27 (b1 := 0) (b2 := 27) (by decide +kernel) (by decide +kernel) (by decide +kernel) (by decide +kernel)
theorem dX12_asDigits_38 : decode cX12_asDigits 38 = .ok (.iload_n 3, 1) := dk_iload_n_3 (by decide +kernel)
theorem dX12_asDigits_39 : decode cX12_asDigits 39 = .ok (.ireturn, 1) := dk_ireturn (by decide +kernel)
theorem dX12_asDigits_14 : decode cX12_asDigits 14 = .ok (.bipush 10, 2) := dk_bipush 10 (b := 10) (by decide +kernel) (by decide +kernel) (by decide +kernel)
theorem dX12_asDigits_16 : decode cX12_asDigits 16 = .ok (.iload_n 3, 1) := dk_iload_n_3 (by decide +kernel)
theorem dX12_asDigits_17 : decode cX12_asDigits 17 = .ok (.imul, 1) := dk_imul (by decide +kernel)
theorem dX12_asDigits_18 : decode cX12_asDigits 18 = .ok (.iload_n 0, 1) := dk_iload_n_0 (by decide +kernel)
theorem dX12_asDigits_19 : decode cX12_asDigits 19 = .ok (.iload 4, 2) := dk_iload 4 (b := 4) (by decide +kernel) (by decide +kernel) (by decide +kernel)
theorem dX12_asDigits_21 : decode cX12_asDigits 21 = .ok (.idiv, 1) := dk_idiv (by decide +kernel)
theorem dX12_asDigits_22 : decode cX12_asDigits 22 = .ok (.iconst 3, 1) := dk_iconst_3 (by decide +kernel)
theorem dX12_asDigits_23 : decode cX12_asDigits 23 = .ok (.irem, 1) := dk_irem (by decide +kernel)
theorem dX12_asDigits_24 : decode cX12_asDigits 24 = .ok (.iadd, 1) := dk_iadd (by decide +kernel)
theorem dX12_asDigits_25 : decode cX12_asDigits 25 = .ok (.istore_n 3, 1) := dk_istore_n_3 (by decide +kernel)
theorem dX12_asDigits_26 : decode cX12_asDigits 26 = .ok (.iload 4, 2) := dk_iload 4 (b := 4) (by decide +kernel) (by decide +kernel) (by decide +kernel)
theorem dX12_asDigits_28 : decode cX12_asDigits 28 = .ok (.iconst 3, 1) := dk_iconst_3 (by decide +kernel)
theorem dX12_asDigits_29 : decode cX12_asDigits 29 = .ok (.idiv, 1) := dk_idiv (by decide +kernel)
theorem dX12_asDigits_30 : decode cX12_asDigits 30 = .ok (.istore 4, 2) := dk_istore 4 (b := 4) (by decide +kernel) (by decide +kernel) (by decide +kernel)
theorem dX12_asDigits_32 : decode cX12_asDigits 32 = .ok (.iinc 5 1, 3) := dk_iinc 5 1 (b1 := 5) (b2 := 1) (by decide +kernel) (by decide +kernel) (by decide +kernel) (by decide +kernel) (by decide +kernel)
theorem dX12_asDigits_35 : decode cX12_asDigits 35 = .ok (.goto (-27), 3) := dk_goto (-27) (b1 := 255) (b2 := 229) (by decide +kernel) (by decide +kernel) (by decide +kernel) (by decide +kernel)
set_option maxRecDepth 20000 in
theorem vX12_asDigits_8 {E : sm_E} {L : sm_S → Prop} {d : Nat} {vs : List Value} {x0 : Int32} {x1 : Int32} {x3 : Int32} {x4 : Int32} {x5 : Int32}  {m : sm_M} {Q : Int32 → sm_M → Prop}  (hd : 1 ≤ d) 
  (h : (x1 ≤ x5 →
      Q x3 m) ∧
   (¬ x1 ≤ x5 →
      (¬ x4 = 0) ∧ ∀ x3_2 : Int32, x3_2 = ((10 : Int32) * x3) + (sm_rem (x0 / x4) 3) →
      ∀ x4_3 : Int32, x4_3 = x4 / 3 →
      ∀ x5_4 : Int32, x5_4 = x5 + 1 →
      gX12_asDigits_8 E L d vs x0 x1 x3_2 x4_3 x5_4 m Q)) :
  gX12_asDigits_8 E L d vs x0 x1 x3 x4 x5 m Q := by
  refine sm_iload (Y := mX12_asDigits) (pc := 8) 4 5 rfl dX12_asDigits_8 ?_
  refine sm_iload_n (Y := mX12_asDigits) (pc := 10) 1 1 rfl rfl dX12_asDigits_10 ?_
  refine sm_icmp_ge (Y := mX12_asDigits) (pc := 11) 38 (by decide) dX12_asDigits_11 (fun hc => ?_) (fun hc => ?_)
  · replace h := h.1 hc
    refine sm_iload_n (Y := mX12_asDigits) (pc := 38) 2 3 rfl rfl dX12_asDigits_38 ?_
    exact sm_iret (Y := mX12_asDigits) (pc := 39) rfl rfl rfl dX12_asDigits_39 ⟨_, rfl, h⟩
  · replace h := h.2 hc
    refine sm_bipush (Y := mX12_asDigits) (pc := 14) 10 (by decide) dX12_asDigits_14 ?_
    refine sm_iload_n (Y := mX12_asDigits) (pc := 16) 2 3 rfl rfl dX12_asDigits_16 ?_
    refine sm_imul (Y := mX12_asDigits) (pc := 17) dX12_asDigits_17 ?_
    refine sm_iload_n (Y := mX12_asDigits) (pc := 18) 0 0 rfl rfl dX12_asDigits_18 ?_
    refine sm_iload (Y := mX12_asDigits) (pc := 19) 3 4 rfl dX12_asDigits_19 ?_
    obtain ⟨hn_1, h⟩ := h
    refine sm_idiv (Y := mX12_asDigits) (pc := 21) hn_1 dX12_asDigits_21 ?_
    refine sm_iconst (Y := mX12_asDigits) (pc := 22) 3 (by decide) dX12_asDigits_22 ?_
    refine sm_irem (Y := mX12_asDigits) (pc := 23) (by decide) dX12_asDigits_23 ?_
    refine sm_iadd (Y := mX12_asDigits) (pc := 24) dX12_asDigits_24 ?_
    refine sm_istore_n (Y := mX12_asDigits) (pc := 25) (fun y => [(3, .int y), (0, .int x0), (1, .int x1), (4, .int x4), (5, .int x5)]) 3 rfl (by decide) (fun _ => rfl) dX12_asDigits_25 (fun x3_2 ex3_2 => ?_)
    replace h := h x3_2 ex3_2
    refine sm_iload (Y := mX12_asDigits) (pc := 26) 3 4 rfl dX12_asDigits_26 ?_
    refine sm_iconst (Y := mX12_asDigits) (pc := 28) 3 (by decide) dX12_asDigits_28 ?_
    refine sm_idiv (Y := mX12_asDigits) (pc := 29) (by decide) dX12_asDigits_29 ?_
    refine sm_istore (Y := mX12_asDigits) (pc := 30) (fun y => [(4, .int y), (3, .int x3_2), (0, .int x0), (1, .int x1), (5, .int x5)]) 4 (by decide) (fun _ => rfl) dX12_asDigits_30 (fun x4_3 ex4_3 => ?_)
    replace h := h x4_3 ex4_3
    refine sm_iinc (Y := mX12_asDigits) (pc := 32) (fun y => [(5, .int y), (4, .int x4_3), (3, .int x3_2), (0, .int x0), (1, .int x1)]) 4 5 rfl (by decide) (fun _ => rfl) dX12_asDigits_32 (fun x5_4 ex5_4 => ?_)
    replace h := h x5_4 ex5_4
    refine sm_goto (Y := mX12_asDigits) (pc := 35) 8 (by decide) dX12_asDigits_35 ?_
    refine sm_sub [3, 4, 2, 1, 0] rfl ?_
    exact h
theorem dX12_asDigits_0 : decode cX12_asDigits 0 = .ok (.iconst 1, 1) := dk_iconst_1 (by decide +kernel)
theorem dX12_asDigits_1 : decode cX12_asDigits 1 = .ok (.istore_n 3, 1) := dk_istore_n_3 (by decide +kernel)
theorem dX12_asDigits_2 : decode cX12_asDigits 2 = .ok (.iload_n 2, 1) := dk_iload_n_2 (by decide +kernel)
theorem dX12_asDigits_3 : decode cX12_asDigits 3 = .ok (.istore 4, 2) := dk_istore 4 (b := 4) (by decide +kernel) (by decide +kernel) (by decide +kernel)
theorem dX12_asDigits_5 : decode cX12_asDigits 5 = .ok (.iconst 0, 1) := dk_iconst_0 (by decide +kernel)
theorem dX12_asDigits_6 : decode cX12_asDigits 6 = .ok (.istore 5, 2) := dk_istore 5 (b := 5) (by decide +kernel) (by decide +kernel) (by decide +kernel)
set_option maxRecDepth 20000 in
theorem vX12_asDigits_0 {E : sm_E} {L : sm_S → Prop} {d : Nat} {x0 : Int32} {x1 : Int32} {x2 : Int32}  {m : sm_M} {Q : Int32 → sm_M → Prop}  (hd : 1 ≤ d) 
  (h : gX12_asDigits_8 E L d ([.int x0, .int x1, .int x2]) x0 x1 1 x2 0 m Q) :
  sm_callI E L mX12_asDigits d 0 0 [.int x0, .int x1, .int x2] m Q := by
  refine sm_enter (by decide +kernel) (by simp [lg_sl, Value.category]) ?_
  refine sm_iconst (Y := mX12_asDigits) (pc := 0) 1 (by decide) dX12_asDigits_0 ?_
  refine sm_istore0_n (Y := mX12_asDigits) (pc := 1) [(3, .int 1), (0, .int x0), (1, .int x1), (2, .int x2)] 3 rfl (by decide) rfl dX12_asDigits_1 ?_
  refine sm_iload_n (Y := mX12_asDigits) (pc := 2) 3 2 rfl rfl dX12_asDigits_2 ?_
  refine sm_istore0 (Y := mX12_asDigits) (pc := 3) [(4, .int x2), (3, .int 1), (0, .int x0), (1, .int x1), (2, .int x2)] 4 (by decide) rfl dX12_asDigits_3 ?_
  refine sm_iconst (Y := mX12_asDigits) (pc := 5) 0 (by decide) dX12_asDigits_5 ?_
  refine sm_istore0 (Y := mX12_asDigits) (pc := 6) [(5, .int 0), (4, .int x2), (3, .int 1), (0, .int x0), (1, .int x1), (2, .int x2)] 5 (by decide) rfl dX12_asDigits_6 ?_
  refine sm_sub [3, 4, 2, 1, 0] rfl ?_
  exact h
abbrev mX12_ties : sm_Y := (yX12_ties, cX12_ties, 3, none)
theorem fX12_ties : sm_mi mX12_ties RX12 2 := ⟨sm_in 1525 (by decide +kernel) (by decide +kernel), sm_in 1524 (by decide +kernel) (by decide +kernel), sm_in 60 (by decide +kernel) (by decide +kernel), sm_in 93 (by decide +kernel) (by decide +kernel), rfl, ⟨by decide +kernel, by decide +kernel, by decide +kernel⟩, by decide⟩
theorem dX12_ties_0 : decode cX12_ties 0 = .ok (.aload_n 0, 1) := dk_aload_n_0 (by decide +kernel)
theorem dX12_ties_1 : decode cX12_ties 1 = .ok (.getfield 70, 3) := dk_getfield 70 (b1 := 0) (b2 := 70) (by decide +kernel) (by decide +kernel) (by decide +kernel) (by decide +kernel)
theorem dX12_ties_4 : decode cX12_ties 4 = .ok (.iload_n 1, 1) := dk_iload_n_1 (by decide +kernel)
theorem dX12_ties_5 : decode cX12_ties 5 = .ok (.iload_n 2, 1) := dk_iload_n_2 (by decide +kernel)
theorem dX12_ties_6 : decode cX12_ties 6 = .ok (.iastore, 1) := dk_iastore (by decide +kernel)
theorem dX12_ties_7 : decode cX12_ties 7 = .ok (.aload_n 0, 1) := dk_aload_n_0 (by decide +kernel)
theorem dX12_ties_8 : decode cX12_ties 8 = .ok (.getfield 70, 3) := dk_getfield 70 (b1 := 0) (b2 := 70) (by decide +kernel) (by decide +kernel) (by decide +kernel) (by decide +kernel)
theorem dX12_ties_11 : decode cX12_ties 11 = .ok (.iload_n 2, 1) := dk_iload_n_2 (by decide +kernel)
theorem dX12_ties_12 : decode cX12_ties 12 = .ok (.iload_n 1, 1) := dk_iload_n_1 (by decide +kernel)
theorem dX12_ties_13 : decode cX12_ties 13 = .ok (.iastore, 1) := dk_iastore (by decide +kernel)
theorem dX12_ties_14 : decode cX12_ties 14 = .ok (.return_, 1) := dk_return_ (by decide +kernel)
set_option maxRecDepth 20000 in
theorem vX12_ties_0 {E : sm_E} {L : sm_S → Prop} {d : Nat} {x1 : Int32} {x2 : Int32}  {m : sm_M} {Q : sm_M → Prop} (hly : ∀ S, L S → ly S) (hd : 1 ≤ d) 
  (h : (vp_in x1 192) ∧ ∀ m_1 : sm_M, m_1 = sm_wI m 128 x1.toNatClampNeg x2 →
   (vp_in x2 192) ∧ ∀ m_3 : sm_M, m_3 = sm_wI m_1 128 x2.toNatClampNeg x1 →
   Q m_3) :
  sm_callV E L mX12_ties d 0 0 [.ref (sm_B E + 109), .int x1, .int x2] m Q := by
  refine sm_enter (by decide +kernel) (by simp [lg_sl, Value.category]) ?_
  refine sm_aload_n (Y := mX12_ties) (pc := 0) 0 0 rfl rfl dX12_ties_0 ?_
  refine gf_RX12_70 (Y := mX12_ties) (pc := 1) (b := 128) rfl ((lk_109 hly) _) (lf_109_37 hly _) dX12_ties_1 ?_
  refine sm_iload_n (Y := mX12_ties) (pc := 4) 1 1 rfl rfl dX12_ties_4 ?_
  refine sm_iload_n (Y := mX12_ties) (pc := 5) 2 2 rfl rfl dX12_ties_5 ?_
  obtain ⟨hn_2, h⟩ := h
  refine sm_iast (Y := mX12_ties) (pc := 6) (la_128 hly _) hn_2 dX12_ties_6 (fun m_1 em_1 => ?_)
  replace h := h m_1 em_1
  refine sm_aload_n (Y := mX12_ties) (pc := 7) 0 0 rfl rfl dX12_ties_7 ?_
  refine gf_RX12_70 (Y := mX12_ties) (pc := 8) (b := 128) rfl ((lk_109 hly) _) (lf_109_37 hly _) dX12_ties_8 ?_
  refine sm_iload_n (Y := mX12_ties) (pc := 11) 2 2 rfl rfl dX12_ties_11 ?_
  refine sm_iload_n (Y := mX12_ties) (pc := 12) 1 1 rfl rfl dX12_ties_12 ?_
  obtain ⟨hn_4, h⟩ := h
  refine sm_iast (Y := mX12_ties) (pc := 13) (la_128 hly _) hn_4 dX12_ties_13 (fun m_3 em_3 => ?_)
  replace h := h m_3 em_3
  exact sm_vret (Y := mX12_ties) (pc := 14) rfl rfl rfl dX12_ties_14 ⟨rfl, h⟩
abbrev mX12_layLeaf : sm_Y := (yX12_layLeaf, cX12_layLeaf, 8, none)
theorem fX12_layLeaf : sm_mi mX12_layLeaf RX12 2 := ⟨sm_in 1521 (by decide +kernel) (by decide +kernel), sm_in 1520 (by decide +kernel) (by decide +kernel), sm_in 59 (by decide +kernel) (by decide +kernel), sm_in 93 (by decide +kernel) (by decide +kernel), rfl, ⟨by decide +kernel, by decide +kernel, by decide +kernel⟩, by decide⟩
def gX12_layLeaf_236 (E : sm_E) (L : sm_S → Prop) (d : Nat) (vs : List Value) (x2 : Int32) (x4 : Int32) (x5 : Int32) (m : sm_M) (Q : sm_M → Prop) : Prop := sm_go E L mX12_layLeaf d 0 0 vs 236 [(0, .ref (sm_B E + 109)), (2, .int x2), (4, .int x4), (5, .int x5)] [] m 0 0 (sm_Z E L vs 0 0 (sm_QV Q))
def gX12_layLeaf_206 (E : sm_E) (L : sm_S → Prop) (d : Nat) (vs : List Value) (x2 : Int32) (x4 : Int32) (x5 : Int32) (x6 : Int32) (x7 : Int32) (m : sm_M) (Q : sm_M → Prop) : Prop := sm_go E L mX12_layLeaf d 0 0 vs 206 [(0, .ref (sm_B E + 109)), (2, .int x2), (4, .int x4), (5, .int x5), (6, .int x6), (7, .int x7)] [] m 0 0 (sm_Z E L vs 0 0 (sm_QV Q))
def gX12_layLeaf_97 (E : sm_E) (L : sm_S → Prop) (d : Nat) (vs : List Value) (x1 : Int32) (x2 : Int32) (x3 : Int32) (x4 : Int32) (x5 : Int32) (s1 : Int32) (s2 : Int32) (m : sm_M) (Q : sm_M → Prop) : Prop := sm_go E L mX12_layLeaf d 0 0 vs 97 [(0, .ref (sm_B E + 109)), (1, .int x1), (2, .int x2), (3, .int x3), (4, .int x4), (5, .int x5)] [.int s2, .int s1, .ref (sm_B E + 130)] m 0 0 (sm_Z E L vs 0 0 (sm_QV Q))
def gX12_layLeaf_51 (E : sm_E) (L : sm_S → Prop) (d : Nat) (vs : List Value) (x1 : Int32) (x2 : Int32) (x3 : Int32) (x4 : Int32) (x5 : Int32) (x6 : Int32) (m : sm_M) (Q : sm_M → Prop) : Prop := sm_go E L mX12_layLeaf d 0 0 vs 51 [(0, .ref (sm_B E + 109)), (1, .int x1), (2, .int x2), (3, .int x3), (4, .int x4), (5, .int x5), (6, .int x6)] [] m 0 0 (sm_Z E L vs 0 0 (sm_QV Q))
def gX12_layLeaf_34 (E : sm_E) (L : sm_S → Prop) (d : Nat) (vs : List Value) (x1 : Int32) (x2 : Int32) (x3 : Int32) (x4 : Int32) (m : sm_M) (Q : sm_M → Prop) : Prop := sm_go E L mX12_layLeaf d 0 0 vs 34 [(0, .ref (sm_B E + 109)), (1, .int x1), (2, .int x2), (3, .int x3), (4, .int x4)] [] m 0 0 (sm_Z E L vs 0 0 (sm_QV Q))
theorem dX12_layLeaf_236 : decode cX12_layLeaf 236 = .ok (.aload_n 0, 1) := dk_aload_n_0 (by decide +kernel)
theorem dX12_layLeaf_237 : decode cX12_layLeaf 237 = .ok (.getfield 79, 3) := dk_getfield 79 (b1 := 0) (b2 := 79) (by decide +kernel) (by decide +kernel) (by decide +kernel) (by decide +kernel)
theorem dX12_layLeaf_240 : decode cX12_layLeaf 240 = .ok (.iload_n 2, 1) := dk_iload_n_2 (by decide +kernel)
theorem dX12_layLeaf_241 : decode cX12_layLeaf 241 = .ok (.iload 4, 2) := dk_iload 4 (b := 4) (by decide +kernel) (by decide +kernel) (by decide +kernel)
theorem dX12_layLeaf_243 : decode cX12_layLeaf 243 = .ok (.iastore, 1) := dk_iastore (by decide +kernel)
theorem dX12_layLeaf_244 : decode cX12_layLeaf 244 = .ok (.aload_n 0, 1) := dk_aload_n_0 (by decide +kernel)
theorem dX12_layLeaf_245 : decode cX12_layLeaf 245 = .ok (.getfield 85, 3) := dk_getfield 85 (b1 := 0) (b2 := 85) (by decide +kernel) (by decide +kernel) (by decide +kernel) (by decide +kernel)
theorem dX12_layLeaf_248 : decode cX12_layLeaf 248 = .ok (.iload_n 2, 1) := dk_iload_n_2 (by decide +kernel)
theorem dX12_layLeaf_249 : decode cX12_layLeaf 249 = .ok (.iload 4, 2) := dk_iload 4 (b := 4) (by decide +kernel) (by decide +kernel) (by decide +kernel)
theorem dX12_layLeaf_251 : decode cX12_layLeaf 251 = .ok (.iconst 2, 1) := dk_iconst_2 (by decide +kernel)
theorem dX12_layLeaf_252 : decode cX12_layLeaf 252 = .ok (.iadd, 1) := dk_iadd (by decide +kernel)
theorem dX12_layLeaf_253 : decode cX12_layLeaf 253 = .ok (.iastore, 1) := dk_iastore (by decide +kernel)
theorem dX12_layLeaf_254 : decode cX12_layLeaf 254 = .ok (.aload_n 0, 1) := dk_aload_n_0 (by decide +kernel)
theorem dX12_layLeaf_255 : decode cX12_layLeaf 255 = .ok (.getfield 82, 3) := dk_getfield 82 (b1 := 0) (b2 := 82) (by decide +kernel) (by decide +kernel) (by decide +kernel) (by decide +kernel)
theorem dX12_layLeaf_258 : decode cX12_layLeaf 258 = .ok (.iload_n 2, 1) := dk_iload_n_2 (by decide +kernel)
theorem dX12_layLeaf_259 : decode cX12_layLeaf 259 = .ok (.iload 5, 2) := dk_iload 5 (b := 5) (by decide +kernel) (by decide +kernel) (by decide +kernel)
theorem dX12_layLeaf_261 : decode cX12_layLeaf 261 = .ok (.iconst 1, 1) := dk_iconst_1 (by decide +kernel)
theorem dX12_layLeaf_262 : decode cX12_layLeaf 262 = .ok (.iadd, 1) := dk_iadd (by decide +kernel)
theorem dX12_layLeaf_263 : decode cX12_layLeaf 263 = .ok (.iastore, 1) := dk_iastore (by decide +kernel)
theorem dX12_layLeaf_264 : decode cX12_layLeaf 264 = .ok (.aload_n 0, 1) := dk_aload_n_0 (by decide +kernel)
theorem dX12_layLeaf_265 : decode cX12_layLeaf 265 = .ok (.getfield 88, 3) := dk_getfield 88 (b1 := 0) (b2 := 88) (by decide +kernel) (by decide +kernel) (by decide +kernel) (by decide +kernel)
theorem dX12_layLeaf_268 : decode cX12_layLeaf 268 = .ok (.iload_n 2, 1) := dk_iload_n_2 (by decide +kernel)
theorem dX12_layLeaf_269 : decode cX12_layLeaf 269 = .ok (.iload 5, 2) := dk_iload 5 (b := 5) (by decide +kernel) (by decide +kernel) (by decide +kernel)
theorem dX12_layLeaf_271 : decode cX12_layLeaf 271 = .ok (.iconst 3, 1) := dk_iconst_3 (by decide +kernel)
theorem dX12_layLeaf_272 : decode cX12_layLeaf 272 = .ok (.iadd, 1) := dk_iadd (by decide +kernel)
theorem dX12_layLeaf_273 : decode cX12_layLeaf 273 = .ok (.iastore, 1) := dk_iastore (by decide +kernel)
theorem dX12_layLeaf_274 : decode cX12_layLeaf 274 = .ok (.return_, 1) := dk_return_ (by decide +kernel)
set_option maxRecDepth 20000 in
theorem vX12_layLeaf_236 {E : sm_E} {L : sm_S → Prop} {d : Nat} {vs : List Value} {x2 : Int32} {x4 : Int32} {x5 : Int32}  {m : sm_M} {Q : sm_M → Prop} (hly : ∀ S, L S → ly S) (hd : 2 ≤ d) 
  (h : (vp_in x2 64) ∧ ∀ m_1 : sm_M, m_1 = sm_wI m 131 x2.toNatClampNeg x4 →
   (vp_in x2 64) ∧ ∀ m_3 : sm_M, m_3 = sm_wI m_1 133 x2.toNatClampNeg (x4 + 2) →
   (vp_in x2 64) ∧ ∀ m_5 : sm_M, m_5 = sm_wI m_3 132 x2.toNatClampNeg (x5 + 1) →
   (vp_in x2 64) ∧ ∀ m_7 : sm_M, m_7 = sm_wI m_5 134 x2.toNatClampNeg (x5 + 3) →
   Q m_7) :
  gX12_layLeaf_236 E L d vs x2 x4 x5 m Q := by
  refine sm_aload_n (Y := mX12_layLeaf) (pc := 236) 0 0 rfl rfl dX12_layLeaf_236 ?_
  refine gf_RX12_79 (Y := mX12_layLeaf) (pc := 237) (b := 131) rfl ((lk_109 hly) _) (lf_109_40 hly _) dX12_layLeaf_237 ?_
  refine sm_iload_n (Y := mX12_layLeaf) (pc := 240) 1 2 rfl rfl dX12_layLeaf_240 ?_
  refine sm_iload (Y := mX12_layLeaf) (pc := 241) 2 4 rfl dX12_layLeaf_241 ?_
  obtain ⟨hn_2, h⟩ := h
  refine sm_iast (Y := mX12_layLeaf) (pc := 243) (la_131 hly _) hn_2 dX12_layLeaf_243 (fun m_1 em_1 => ?_)
  replace h := h m_1 em_1
  refine sm_aload_n (Y := mX12_layLeaf) (pc := 244) 0 0 rfl rfl dX12_layLeaf_244 ?_
  refine gf_RX12_85 (Y := mX12_layLeaf) (pc := 245) (b := 133) rfl ((lk_109 hly) _) (lf_109_42 hly _) dX12_layLeaf_245 ?_
  refine sm_iload_n (Y := mX12_layLeaf) (pc := 248) 1 2 rfl rfl dX12_layLeaf_248 ?_
  refine sm_iload (Y := mX12_layLeaf) (pc := 249) 2 4 rfl dX12_layLeaf_249 ?_
  refine sm_iconst (Y := mX12_layLeaf) (pc := 251) 2 (by decide) dX12_layLeaf_251 ?_
  refine sm_iadd (Y := mX12_layLeaf) (pc := 252) dX12_layLeaf_252 ?_
  obtain ⟨hn_4, h⟩ := h
  refine sm_iast (Y := mX12_layLeaf) (pc := 253) (la_133 hly _) hn_4 dX12_layLeaf_253 (fun m_3 em_3 => ?_)
  replace h := h m_3 em_3
  refine sm_aload_n (Y := mX12_layLeaf) (pc := 254) 0 0 rfl rfl dX12_layLeaf_254 ?_
  refine gf_RX12_82 (Y := mX12_layLeaf) (pc := 255) (b := 132) rfl ((lk_109 hly) _) (lf_109_41 hly _) dX12_layLeaf_255 ?_
  refine sm_iload_n (Y := mX12_layLeaf) (pc := 258) 1 2 rfl rfl dX12_layLeaf_258 ?_
  refine sm_iload (Y := mX12_layLeaf) (pc := 259) 3 5 rfl dX12_layLeaf_259 ?_
  refine sm_iconst (Y := mX12_layLeaf) (pc := 261) 1 (by decide) dX12_layLeaf_261 ?_
  refine sm_iadd (Y := mX12_layLeaf) (pc := 262) dX12_layLeaf_262 ?_
  obtain ⟨hn_6, h⟩ := h
  refine sm_iast (Y := mX12_layLeaf) (pc := 263) (la_132 hly _) hn_6 dX12_layLeaf_263 (fun m_5 em_5 => ?_)
  replace h := h m_5 em_5
  refine sm_aload_n (Y := mX12_layLeaf) (pc := 264) 0 0 rfl rfl dX12_layLeaf_264 ?_
  refine gf_RX12_88 (Y := mX12_layLeaf) (pc := 265) (b := 134) rfl ((lk_109 hly) _) (lf_109_43 hly _) dX12_layLeaf_265 ?_
  refine sm_iload_n (Y := mX12_layLeaf) (pc := 268) 1 2 rfl rfl dX12_layLeaf_268 ?_
  refine sm_iload (Y := mX12_layLeaf) (pc := 269) 3 5 rfl dX12_layLeaf_269 ?_
  refine sm_iconst (Y := mX12_layLeaf) (pc := 271) 3 (by decide) dX12_layLeaf_271 ?_
  refine sm_iadd (Y := mX12_layLeaf) (pc := 272) dX12_layLeaf_272 ?_
  obtain ⟨hn_8, h⟩ := h
  refine sm_iast (Y := mX12_layLeaf) (pc := 273) (la_134 hly _) hn_8 dX12_layLeaf_273 (fun m_7 em_7 => ?_)
  replace h := h m_7 em_7
  exact sm_vret (Y := mX12_layLeaf) (pc := 274) rfl rfl rfl dX12_layLeaf_274 ⟨rfl, h⟩
theorem dX12_layLeaf_206 : decode cX12_layLeaf 206 = .ok (.iload 7, 2) := dk_iload 7 (b := 7) (by decide +kernel) (by decide +kernel) (by decide +kernel)
theorem dX12_layLeaf_208 : decode cX12_layLeaf 208 = .ok (.iconst 4, 1) := dk_iconst_4 (by decide +kernel)
theorem dX12_layLeaf_209 : decode cX12_layLeaf 209 = .ok (.if_icmp .ge 27, 3) := dk_if_icmp_ge 27 (b1 := 0) (b2 := 27) (by decide +kernel) (by decide +kernel) (by decide +kernel) (by decide +kernel)
theorem dX12_layLeaf_212 : decode cX12_layLeaf 212 = .ok (.aload_n 0, 1) := dk_aload_n_0 (by decide +kernel)
theorem dX12_layLeaf_213 : decode cX12_layLeaf 213 = .ok (.getfield 73, 3) := dk_getfield 73 (b1 := 0) (b2 := 73) (by decide +kernel) (by decide +kernel) (by decide +kernel) (by decide +kernel)
theorem dX12_layLeaf_216 : decode cX12_layLeaf 216 = .ok (.iload 4, 2) := dk_iload 4 (b := 4) (by decide +kernel) (by decide +kernel) (by decide +kernel)
theorem dX12_layLeaf_218 : decode cX12_layLeaf 218 = .ok (.iload 7, 2) := dk_iload 7 (b := 7) (by decide +kernel) (by decide +kernel) (by decide +kernel)
theorem dX12_layLeaf_220 : decode cX12_layLeaf 220 = .ok (.iadd, 1) := dk_iadd (by decide +kernel)
theorem dX12_layLeaf_221 : decode cX12_layLeaf 221 = .ok (.iload 4, 2) := dk_iload 4 (b := 4) (by decide +kernel) (by decide +kernel) (by decide +kernel)
theorem dX12_layLeaf_223 : decode cX12_layLeaf 223 = .ok (.iload 7, 2) := dk_iload 7 (b := 7) (by decide +kernel) (by decide +kernel) (by decide +kernel)
theorem dX12_layLeaf_225 : decode cX12_layLeaf 225 = .ok (.iload 6, 2) := dk_iload 6 (b := 6) (by decide +kernel) (by decide +kernel) (by decide +kernel)
theorem dX12_layLeaf_227 : decode cX12_layLeaf 227 = .ok (.ixor, 1) := dk_ixor (by decide +kernel)
theorem dX12_layLeaf_228 : decode cX12_layLeaf 228 = .ok (.iadd, 1) := dk_iadd (by decide +kernel)
theorem dX12_layLeaf_229 : decode cX12_layLeaf 229 = .ok (.iastore, 1) := dk_iastore (by decide +kernel)
theorem dX12_layLeaf_230 : decode cX12_layLeaf 230 = .ok (.iinc 7 1, 3) := dk_iinc 7 1 (b1 := 7) (b2 := 1) (by decide +kernel) (by decide +kernel) (by decide +kernel) (by decide +kernel) (by decide +kernel)
theorem dX12_layLeaf_233 : decode cX12_layLeaf 233 = .ok (.goto (-27), 3) := dk_goto (-27) (b1 := 255) (b2 := 229) (by decide +kernel) (by decide +kernel) (by decide +kernel) (by decide +kernel)
set_option maxRecDepth 20000 in
theorem vX12_layLeaf_206 {E : sm_E} {L : sm_S → Prop} {d : Nat} {vs : List Value} {x2 : Int32} {x4 : Int32} {x5 : Int32} {x6 : Int32} {x7 : Int32}  {m : sm_M} {Q : sm_M → Prop} (hly : ∀ S, L S → ly S) (hd : 2 ≤ d) 
  (h : (4 ≤ x7 →
      gX12_layLeaf_236 E L d vs x2 x4 x5 m Q) ∧
   (¬ 4 ≤ x7 →
      (vp_in (x4 + x7) 192) ∧ ∀ m_1 : sm_M, m_1 = sm_wI m 129 (x4 + x7).toNatClampNeg (x4 + (x7 ^^^ x6)) →
      ∀ x7_3 : Int32, x7_3 = x7 + 1 →
      gX12_layLeaf_206 E L d vs x2 x4 x5 x6 x7_3 m_1 Q)) :
  gX12_layLeaf_206 E L d vs x2 x4 x5 x6 x7 m Q := by
  refine sm_iload (Y := mX12_layLeaf) (pc := 206) 5 7 rfl dX12_layLeaf_206 ?_
  refine sm_iconst (Y := mX12_layLeaf) (pc := 208) 4 (by decide) dX12_layLeaf_208 ?_
  refine sm_icmp_ge (Y := mX12_layLeaf) (pc := 209) 236 (by decide) dX12_layLeaf_209 (fun hc => ?_) (fun hc => ?_)
  · replace h := h.1 hc
    refine sm_sub [0, 1, 2, 3] rfl ?_
    exact h
  · replace h := h.2 hc
    refine sm_aload_n (Y := mX12_layLeaf) (pc := 212) 0 0 rfl rfl dX12_layLeaf_212 ?_
    refine gf_RX12_73 (Y := mX12_layLeaf) (pc := 213) (b := 129) rfl ((lk_109 hly) _) (lf_109_38 hly _) dX12_layLeaf_213 ?_
    refine sm_iload (Y := mX12_layLeaf) (pc := 216) 2 4 rfl dX12_layLeaf_216 ?_
    refine sm_iload (Y := mX12_layLeaf) (pc := 218) 5 7 rfl dX12_layLeaf_218 ?_
    refine sm_iadd (Y := mX12_layLeaf) (pc := 220) dX12_layLeaf_220 ?_
    refine sm_iload (Y := mX12_layLeaf) (pc := 221) 2 4 rfl dX12_layLeaf_221 ?_
    refine sm_iload (Y := mX12_layLeaf) (pc := 223) 5 7 rfl dX12_layLeaf_223 ?_
    refine sm_iload (Y := mX12_layLeaf) (pc := 225) 4 6 rfl dX12_layLeaf_225 ?_
    refine sm_ixor (Y := mX12_layLeaf) (pc := 227) dX12_layLeaf_227 ?_
    refine sm_iadd (Y := mX12_layLeaf) (pc := 228) dX12_layLeaf_228 ?_
    obtain ⟨hn_2, h⟩ := h
    refine sm_iast (Y := mX12_layLeaf) (pc := 229) (la_129 hly _) hn_2 dX12_layLeaf_229 (fun m_1 em_1 => ?_)
    replace h := h m_1 em_1
    refine sm_iinc (Y := mX12_layLeaf) (pc := 230) (fun y => [(7, .int y), (0, .ref (sm_B E + 109)), (2, .int x2), (4, .int x4), (5, .int x5), (6, .int x6)]) 5 7 rfl (by decide) (fun _ => rfl) dX12_layLeaf_230 (fun x7_3 ex7_3 => ?_)
    replace h := h x7_3 ex7_3
    refine sm_goto (Y := mX12_layLeaf) (pc := 233) 206 (by decide) dX12_layLeaf_233 ?_
    refine sm_sub [1, 2, 3, 4, 5, 0] rfl ?_
    exact h
theorem dX12_layLeaf_97 : decode cX12_layLeaf 97 = .ok (.iastore, 1) := dk_iastore (by decide +kernel)
theorem dX12_layLeaf_98 : decode cX12_layLeaf 98 = .ok (.iload 4, 2) := dk_iload 4 (b := 4) (by decide +kernel) (by decide +kernel) (by decide +kernel)
theorem dX12_layLeaf_100 : decode cX12_layLeaf 100 = .ok (.ifCond .le 25, 3) := dk_ifCond_le 25 (b1 := 0) (b2 := 25) (by decide +kernel) (by decide +kernel) (by decide +kernel) (by decide +kernel)
theorem dX12_layLeaf_125 : decode cX12_layLeaf 125 = .ok (.aload_n 0, 1) := dk_aload_n_0 (by decide +kernel)
theorem dX12_layLeaf_126 : decode cX12_layLeaf 126 = .ok (.dup, 1) := dk_dup (by decide +kernel)
theorem dX12_layLeaf_127 : decode cX12_layLeaf 127 = .ok (.getfield 286, 3) := dk_getfield 286 (b1 := 1) (b2 := 30) (by decide +kernel) (by decide +kernel) (by decide +kernel) (by decide +kernel)
theorem dX12_layLeaf_130 : decode cX12_layLeaf 130 = .ok (.iconst 1, 1) := dk_iconst_1 (by decide +kernel)
theorem dX12_layLeaf_131 : decode cX12_layLeaf 131 = .ok (.iadd, 1) := dk_iadd (by decide +kernel)
theorem dX12_layLeaf_132 : decode cX12_layLeaf 132 = .ok (.putfield 286, 3) := dk_putfield 286 (b1 := 1) (b2 := 30) (by decide +kernel) (by decide +kernel) (by decide +kernel) (by decide +kernel)
theorem dX12_layLeaf_135 : decode cX12_layLeaf 135 = .ok (.iinc 4 1, 3) := dk_iinc 4 1 (b1 := 4) (b2 := 1) (by decide +kernel) (by decide +kernel) (by decide +kernel) (by decide +kernel) (by decide +kernel)
theorem dX12_layLeaf_138 : decode cX12_layLeaf 138 = .ok (.goto (-104), 3) := dk_goto (-104) (b1 := 255) (b2 := 152) (by decide +kernel) (by decide +kernel) (by decide +kernel) (by decide +kernel)
theorem dX12_layLeaf_103 : decode cX12_layLeaf 103 = .ok (.aload_n 0, 1) := dk_aload_n_0 (by decide +kernel)
theorem dX12_layLeaf_104 : decode cX12_layLeaf 104 = .ok (.iload 5, 2) := dk_iload 5 (b := 5) (by decide +kernel) (by decide +kernel) (by decide +kernel)
theorem dX12_layLeaf_106 : decode cX12_layLeaf 106 = .ok (.iconst 3, 1) := dk_iconst_3 (by decide +kernel)
theorem dX12_layLeaf_107 : decode cX12_layLeaf 107 = .ok (.isub, 1) := dk_isub (by decide +kernel)
theorem dX12_layLeaf_108 : decode cX12_layLeaf 108 = .ok (.iload 5, 2) := dk_iload 5 (b := 5) (by decide +kernel) (by decide +kernel) (by decide +kernel)
theorem wRX12_289 : Cond.methodLink RX12 289 yX12_ties ∈ sm_T := sm_in 1522 (by decide +kernel) (by decide +kernel)
theorem dX12_layLeaf_110 : decode cX12_layLeaf 110 = .ok (.invokevirtual 289, 3) := dk_invokevirtual 289 (b1 := 1) (b2 := 33) (by decide +kernel) (by decide +kernel) (by decide +kernel) (by decide +kernel)
theorem dX12_layLeaf_113 : decode cX12_layLeaf 113 = .ok (.aload_n 0, 1) := dk_aload_n_0 (by decide +kernel)
theorem dX12_layLeaf_114 : decode cX12_layLeaf 114 = .ok (.iload 5, 2) := dk_iload 5 (b := 5) (by decide +kernel) (by decide +kernel) (by decide +kernel)
theorem dX12_layLeaf_116 : decode cX12_layLeaf 116 = .ok (.iconst 1, 1) := dk_iconst_1 (by decide +kernel)
theorem dX12_layLeaf_117 : decode cX12_layLeaf 117 = .ok (.isub, 1) := dk_isub (by decide +kernel)
theorem dX12_layLeaf_118 : decode cX12_layLeaf 118 = .ok (.iload 5, 2) := dk_iload 5 (b := 5) (by decide +kernel) (by decide +kernel) (by decide +kernel)
theorem dX12_layLeaf_120 : decode cX12_layLeaf 120 = .ok (.iconst 2, 1) := dk_iconst_2 (by decide +kernel)
theorem dX12_layLeaf_121 : decode cX12_layLeaf 121 = .ok (.iadd, 1) := dk_iadd (by decide +kernel)
theorem dX12_layLeaf_122 : decode cX12_layLeaf 122 = .ok (.invokevirtual 289, 3) := dk_invokevirtual 289 (b1 := 1) (b2 := 33) (by decide +kernel) (by decide +kernel) (by decide +kernel) (by decide +kernel)
set_option maxRecDepth 20000 in
theorem vX12_layLeaf_97 {E : sm_E} {L : sm_S → Prop} {d : Nat} {vs : List Value} {x1 : Int32} {x2 : Int32} {x3 : Int32} {x4 : Int32} {x5 : Int32} {s1 : Int32} {s2 : Int32}  {m : sm_M} {Q : sm_M → Prop} (hly : ∀ S, L S → ly S) (hd : 2 ≤ d) 
  (h : (vp_in s1 24) ∧ ∀ m_1 : sm_M, m_1 = sm_wI m 130 s1.toNatClampNeg s2 →
   (x4 ≤ 0 →
      ∀ m_3 : sm_M, m_3 = sm_wI m_1 109 45 ((m_1.1 109 45) + 1) →
      ∀ x4_4 : Int32, x4_4 = x4 + 1 →
      gX12_layLeaf_34 E L d vs x1 x2 x3 x4_4 m_3 Q) ∧
   (¬ x4 ≤ 0 →
      sm_callV E L mX12_ties 1 0 0 [.ref (sm_B E + 109), .int (x5 - 3), .int x5] m_1 (fun m_5 =>
      sm_callV E L mX12_ties 1 0 0 [.ref (sm_B E + 109), .int (x5 - 1), .int (x5 + 2)] m_5 (fun m_6 =>
      ∀ m_7 : sm_M, m_7 = sm_wI m_6 109 45 ((m_6.1 109 45) + 1) →
      ∀ x4_8 : Int32, x4_8 = x4 + 1 →
      gX12_layLeaf_34 E L d vs x1 x2 x3 x4_8 m_7 Q)))) :
  gX12_layLeaf_97 E L d vs x1 x2 x3 x4 x5 s1 s2 m Q := by
  obtain ⟨hn_2, h⟩ := h
  refine sm_iast (Y := mX12_layLeaf) (pc := 97) (la_130 hly _) hn_2 dX12_layLeaf_97 (fun m_1 em_1 => ?_)
  replace h := h m_1 em_1
  refine sm_iload (Y := mX12_layLeaf) (pc := 98) 4 4 rfl dX12_layLeaf_98 ?_
  refine sm_if_le (Y := mX12_layLeaf) (pc := 100) 125 (by decide) dX12_layLeaf_100 (fun hc => ?_) (fun hc => ?_)
  · replace h := h.1 hc
    refine sm_aload_n (Y := mX12_layLeaf) (pc := 125) 0 0 rfl rfl dX12_layLeaf_125 ?_
    refine sm_dup (Y := mX12_layLeaf) (pc := 126) rfl dX12_layLeaf_126 ?_
    refine gf_RX12_286 (Y := mX12_layLeaf) (pc := 127) rfl ((lk_109 hly) _) dX12_layLeaf_127 ?_
    refine sm_iconst (Y := mX12_layLeaf) (pc := 130) 1 (by decide) dX12_layLeaf_130 ?_
    refine sm_iadd (Y := mX12_layLeaf) (pc := 131) dX12_layLeaf_131 ?_
    refine pf_RX12_286 (Y := mX12_layLeaf) (pc := 132) rfl ((lk_109 hly) _) dX12_layLeaf_132 (fun m_3 em_3 => ?_)
    replace h := h m_3 em_3
    refine sm_iinc (Y := mX12_layLeaf) (pc := 135) (fun y => [(4, .int y), (0, .ref (sm_B E + 109)), (1, .int x1), (2, .int x2), (3, .int x3), (5, .int x5)]) 4 4 rfl (by decide) (fun _ => rfl) dX12_layLeaf_135 (fun x4_4 ex4_4 => ?_)
    replace h := h x4_4 ex4_4
    refine sm_goto (Y := mX12_layLeaf) (pc := 138) 34 (by decide) dX12_layLeaf_138 ?_
    refine sm_sub [1, 2, 3, 4, 0] rfl ?_
    exact h
  · replace h := h.2 hc
    refine sm_aload_n (Y := mX12_layLeaf) (pc := 103) 0 0 rfl rfl dX12_layLeaf_103 ?_
    refine sm_iload (Y := mX12_layLeaf) (pc := 104) 5 5 rfl dX12_layLeaf_104 ?_
    refine sm_iconst (Y := mX12_layLeaf) (pc := 106) 3 (by decide) dX12_layLeaf_106 ?_
    refine sm_isub (Y := mX12_layLeaf) (pc := 107) dX12_layLeaf_107 ?_
    refine sm_iload (Y := mX12_layLeaf) (pc := 108) 5 5 rfl dX12_layLeaf_108 ?_
    refine sm_iv_V (Y := mX12_layLeaf) (pc := 110) (As := [.int (x5 - 3), .int x5]) (a := 109) fX12_ties wRX12_289 (lk_109 hly) (by decide) rfl rfl rfl (Nat.le_trans (by decide) hd) (Nat.le_of_ble_eq_true rfl) ⟨Nat.le_refl _, Nat.le_refl _⟩ dX12_layLeaf_110 rfl (sm_monoV h (fun m_5 h => ?_))
    refine sm_aload_n (Y := mX12_layLeaf) (pc := 113) 0 0 rfl rfl dX12_layLeaf_113 ?_
    refine sm_iload (Y := mX12_layLeaf) (pc := 114) 5 5 rfl dX12_layLeaf_114 ?_
    refine sm_iconst (Y := mX12_layLeaf) (pc := 116) 1 (by decide) dX12_layLeaf_116 ?_
    refine sm_isub (Y := mX12_layLeaf) (pc := 117) dX12_layLeaf_117 ?_
    refine sm_iload (Y := mX12_layLeaf) (pc := 118) 5 5 rfl dX12_layLeaf_118 ?_
    refine sm_iconst (Y := mX12_layLeaf) (pc := 120) 2 (by decide) dX12_layLeaf_120 ?_
    refine sm_iadd (Y := mX12_layLeaf) (pc := 121) dX12_layLeaf_121 ?_
    refine sm_iv_V (Y := mX12_layLeaf) (pc := 122) (As := [.int (x5 - 1), .int (x5 + 2)]) (a := 109) fX12_ties wRX12_289 (lk_109 hly) (by decide) rfl rfl rfl (Nat.le_trans (by decide) hd) (Nat.le_of_ble_eq_true rfl) ⟨Nat.le_refl _, Nat.le_refl _⟩ dX12_layLeaf_122 rfl (sm_monoV h (fun m_6 h => ?_))
    refine sm_aload_n (Y := mX12_layLeaf) (pc := 125) 0 0 rfl rfl dX12_layLeaf_125 ?_
    refine sm_dup (Y := mX12_layLeaf) (pc := 126) rfl dX12_layLeaf_126 ?_
    refine gf_RX12_286 (Y := mX12_layLeaf) (pc := 127) rfl ((lk_109 hly) _) dX12_layLeaf_127 ?_
    refine sm_iconst (Y := mX12_layLeaf) (pc := 130) 1 (by decide) dX12_layLeaf_130 ?_
    refine sm_iadd (Y := mX12_layLeaf) (pc := 131) dX12_layLeaf_131 ?_
    refine pf_RX12_286 (Y := mX12_layLeaf) (pc := 132) rfl ((lk_109 hly) _) dX12_layLeaf_132 (fun m_7 em_7 => ?_)
    replace h := h m_7 em_7
    refine sm_iinc (Y := mX12_layLeaf) (pc := 135) (fun y => [(4, .int y), (0, .ref (sm_B E + 109)), (1, .int x1), (2, .int x2), (3, .int x3), (5, .int x5)]) 4 4 rfl (by decide) (fun _ => rfl) dX12_layLeaf_135 (fun x4_8 ex4_8 => ?_)
    replace h := h x4_8 ex4_8
    refine sm_goto (Y := mX12_layLeaf) (pc := 138) 34 (by decide) dX12_layLeaf_138 ?_
    refine sm_sub [1, 2, 3, 4, 0] rfl ?_
    exact h
theorem dX12_layLeaf_51 : decode cX12_layLeaf 51 = .ok (.iload 6, 2) := dk_iload 6 (b := 6) (by decide +kernel) (by decide +kernel) (by decide +kernel)
theorem dX12_layLeaf_53 : decode cX12_layLeaf 53 = .ok (.iconst 4, 1) := dk_iconst_4 (by decide +kernel)
theorem dX12_layLeaf_54 : decode cX12_layLeaf 54 = .ok (.if_icmp .ge 26, 3) := dk_if_icmp_ge 26 (b1 := 0) (b2 := 26) (by decide +kernel) (by decide +kernel) (by decide +kernel) (by decide +kernel)
theorem dX12_layLeaf_80 : decode cX12_layLeaf 80 = .ok (.aload_n 0, 1) := dk_aload_n_0 (by decide +kernel)
theorem dX12_layLeaf_81 : decode cX12_layLeaf 81 = .ok (.getfield 76, 3) := dk_getfield 76 (b1 := 0) (b2 := 76) (by decide +kernel) (by decide +kernel) (by decide +kernel) (by decide +kernel)
theorem dX12_layLeaf_84 : decode cX12_layLeaf 84 = .ok (.aload_n 0, 1) := dk_aload_n_0 (by decide +kernel)
theorem dX12_layLeaf_85 : decode cX12_layLeaf 85 = .ok (.getfield 286, 3) := dk_getfield 286 (b1 := 1) (b2 := 30) (by decide +kernel) (by decide +kernel) (by decide +kernel) (by decide +kernel)
theorem dX12_layLeaf_88 : decode cX12_layLeaf 88 = .ok (.iload_n 1, 1) := dk_iload_n_1 (by decide +kernel)
theorem dX12_layLeaf_89 : decode cX12_layLeaf 89 = .ok (.ifCond .le 7, 3) := dk_ifCond_le 7 (b1 := 0) (b2 := 7) (by decide +kernel) (by decide +kernel) (by decide +kernel) (by decide +kernel)
theorem dX12_layLeaf_96 : decode cX12_layLeaf 96 = .ok (.iconst (-1), 1) := dk_iconst_m1 (by decide +kernel)
theorem dX12_layLeaf_92 : decode cX12_layLeaf 92 = .ok (.iconst 1, 1) := dk_iconst_1 (by decide +kernel)
theorem dX12_layLeaf_93 : decode cX12_layLeaf 93 = .ok (.goto 4, 3) := dk_goto 4 (b1 := 0) (b2 := 4) (by decide +kernel) (by decide +kernel) (by decide +kernel) (by decide +kernel)
theorem dX12_layLeaf_57 : decode cX12_layLeaf 57 = .ok (.aload_n 0, 1) := dk_aload_n_0 (by decide +kernel)
theorem dX12_layLeaf_58 : decode cX12_layLeaf 58 = .ok (.getfield 73, 3) := dk_getfield 73 (b1 := 0) (b2 := 73) (by decide +kernel) (by decide +kernel) (by decide +kernel) (by decide +kernel)
theorem dX12_layLeaf_61 : decode cX12_layLeaf 61 = .ok (.iload 5, 2) := dk_iload 5 (b := 5) (by decide +kernel) (by decide +kernel) (by decide +kernel)
theorem dX12_layLeaf_63 : decode cX12_layLeaf 63 = .ok (.iload 6, 2) := dk_iload 6 (b := 6) (by decide +kernel) (by decide +kernel) (by decide +kernel)
theorem dX12_layLeaf_65 : decode cX12_layLeaf 65 = .ok (.iadd, 1) := dk_iadd (by decide +kernel)
theorem dX12_layLeaf_66 : decode cX12_layLeaf 66 = .ok (.iload 5, 2) := dk_iload 5 (b := 5) (by decide +kernel) (by decide +kernel) (by decide +kernel)
theorem dX12_layLeaf_68 : decode cX12_layLeaf 68 = .ok (.iconst 3, 1) := dk_iconst_3 (by decide +kernel)
theorem dX12_layLeaf_69 : decode cX12_layLeaf 69 = .ok (.iadd, 1) := dk_iadd (by decide +kernel)
theorem dX12_layLeaf_70 : decode cX12_layLeaf 70 = .ok (.iload 6, 2) := dk_iload 6 (b := 6) (by decide +kernel) (by decide +kernel) (by decide +kernel)
theorem dX12_layLeaf_72 : decode cX12_layLeaf 72 = .ok (.isub, 1) := dk_isub (by decide +kernel)
theorem dX12_layLeaf_73 : decode cX12_layLeaf 73 = .ok (.iastore, 1) := dk_iastore (by decide +kernel)
theorem dX12_layLeaf_74 : decode cX12_layLeaf 74 = .ok (.iinc 6 1, 3) := dk_iinc 6 1 (b1 := 6) (b2 := 1) (by decide +kernel) (by decide +kernel) (by decide +kernel) (by decide +kernel) (by decide +kernel)
theorem dX12_layLeaf_77 : decode cX12_layLeaf 77 = .ok (.goto (-26), 3) := dk_goto (-26) (b1 := 255) (b2 := 230) (by decide +kernel) (by decide +kernel) (by decide +kernel) (by decide +kernel)
set_option maxRecDepth 20000 in
theorem vX12_layLeaf_51 {E : sm_E} {L : sm_S → Prop} {d : Nat} {vs : List Value} {x1 : Int32} {x2 : Int32} {x3 : Int32} {x4 : Int32} {x5 : Int32} {x6 : Int32}  {m : sm_M} {Q : sm_M → Prop} (hly : ∀ S, L S → ly S) (hd : 2 ≤ d) 
  (h : (4 ≤ x6 →
      (x1 ≤ 0 →
         gX12_layLeaf_97 E L d vs x1 x2 x3 x4 x5 (m.1 109 45) (-1) m Q) ∧
      (¬ x1 ≤ 0 →
         gX12_layLeaf_97 E L d vs x1 x2 x3 x4 x5 (m.1 109 45) 1 m Q)) ∧
   (¬ 4 ≤ x6 →
      (vp_in (x5 + x6) 192) ∧ ∀ m_1 : sm_M, m_1 = sm_wI m 129 (x5 + x6).toNatClampNeg ((x5 + 3) - x6) →
      ∀ x6_3 : Int32, x6_3 = x6 + 1 →
      gX12_layLeaf_51 E L d vs x1 x2 x3 x4 x5 x6_3 m_1 Q)) :
  gX12_layLeaf_51 E L d vs x1 x2 x3 x4 x5 x6 m Q := by
  refine sm_iload (Y := mX12_layLeaf) (pc := 51) 6 6 rfl dX12_layLeaf_51 ?_
  refine sm_iconst (Y := mX12_layLeaf) (pc := 53) 4 (by decide) dX12_layLeaf_53 ?_
  refine sm_icmp_ge (Y := mX12_layLeaf) (pc := 54) 80 (by decide) dX12_layLeaf_54 (fun hc => ?_) (fun hc => ?_)
  · replace h := h.1 hc
    refine sm_aload_n (Y := mX12_layLeaf) (pc := 80) 0 0 rfl rfl dX12_layLeaf_80 ?_
    refine gf_RX12_76 (Y := mX12_layLeaf) (pc := 81) (b := 130) rfl ((lk_109 hly) _) (lf_109_39 hly _) dX12_layLeaf_81 ?_
    refine sm_aload_n (Y := mX12_layLeaf) (pc := 84) 0 0 rfl rfl dX12_layLeaf_84 ?_
    refine gf_RX12_286 (Y := mX12_layLeaf) (pc := 85) rfl ((lk_109 hly) _) dX12_layLeaf_85 ?_
    refine sm_iload_n (Y := mX12_layLeaf) (pc := 88) 1 1 rfl rfl dX12_layLeaf_88 ?_
    refine sm_if_le (Y := mX12_layLeaf) (pc := 89) 96 (by decide) dX12_layLeaf_89 (fun hc => ?_) (fun hc => ?_)
    · replace h := h.1 hc
      refine sm_iconst (Y := mX12_layLeaf) (pc := 96) (-1) (by decide) dX12_layLeaf_96 ?_
      refine sm_sub [0, 1, 2, 3, 4, 5] rfl ?_
      exact h
    · replace h := h.2 hc
      refine sm_iconst (Y := mX12_layLeaf) (pc := 92) 1 (by decide) dX12_layLeaf_92 ?_
      refine sm_goto (Y := mX12_layLeaf) (pc := 93) 97 (by decide) dX12_layLeaf_93 ?_
      refine sm_sub [0, 1, 2, 3, 4, 5] rfl ?_
      exact h
  · replace h := h.2 hc
    refine sm_aload_n (Y := mX12_layLeaf) (pc := 57) 0 0 rfl rfl dX12_layLeaf_57 ?_
    refine gf_RX12_73 (Y := mX12_layLeaf) (pc := 58) (b := 129) rfl ((lk_109 hly) _) (lf_109_38 hly _) dX12_layLeaf_58 ?_
    refine sm_iload (Y := mX12_layLeaf) (pc := 61) 5 5 rfl dX12_layLeaf_61 ?_
    refine sm_iload (Y := mX12_layLeaf) (pc := 63) 6 6 rfl dX12_layLeaf_63 ?_
    refine sm_iadd (Y := mX12_layLeaf) (pc := 65) dX12_layLeaf_65 ?_
    refine sm_iload (Y := mX12_layLeaf) (pc := 66) 5 5 rfl dX12_layLeaf_66 ?_
    refine sm_iconst (Y := mX12_layLeaf) (pc := 68) 3 (by decide) dX12_layLeaf_68 ?_
    refine sm_iadd (Y := mX12_layLeaf) (pc := 69) dX12_layLeaf_69 ?_
    refine sm_iload (Y := mX12_layLeaf) (pc := 70) 6 6 rfl dX12_layLeaf_70 ?_
    refine sm_isub (Y := mX12_layLeaf) (pc := 72) dX12_layLeaf_72 ?_
    obtain ⟨hn_2, h⟩ := h
    refine sm_iast (Y := mX12_layLeaf) (pc := 73) (la_129 hly _) hn_2 dX12_layLeaf_73 (fun m_1 em_1 => ?_)
    replace h := h m_1 em_1
    refine sm_iinc (Y := mX12_layLeaf) (pc := 74) (fun y => [(6, .int y), (0, .ref (sm_B E + 109)), (1, .int x1), (2, .int x2), (3, .int x3), (4, .int x4), (5, .int x5)]) 6 6 rfl (by decide) (fun _ => rfl) dX12_layLeaf_74 (fun x6_3 ex6_3 => ?_)
    replace h := h x6_3 ex6_3
    refine sm_goto (Y := mX12_layLeaf) (pc := 77) 51 (by decide) dX12_layLeaf_77 ?_
    refine sm_sub [1, 2, 3, 4, 5, 6, 0] rfl ?_
    exact h
theorem dX12_layLeaf_34 : decode cX12_layLeaf 34 = .ok (.iload 4, 2) := dk_iload 4 (b := 4) (by decide +kernel) (by decide +kernel) (by decide +kernel)
theorem dX12_layLeaf_36 : decode cX12_layLeaf 36 = .ok (.iload_n 3, 1) := dk_iload_n_3 (by decide +kernel)
theorem dX12_layLeaf_37 : decode cX12_layLeaf 37 = .ok (.if_icmp .ge 104, 3) := dk_if_icmp_ge 104 (b1 := 0) (b2 := 104) (by decide +kernel) (by decide +kernel) (by decide +kernel) (by decide +kernel)
theorem dX12_layLeaf_141 : decode cX12_layLeaf 141 = .ok (.iconst 4, 1) := dk_iconst_4 (by decide +kernel)
theorem dX12_layLeaf_142 : decode cX12_layLeaf 142 = .ok (.aload_n 0, 1) := dk_aload_n_0 (by decide +kernel)
theorem dX12_layLeaf_143 : decode cX12_layLeaf 143 = .ok (.getfield 91, 3) := dk_getfield 91 (b1 := 0) (b2 := 91) (by decide +kernel) (by decide +kernel) (by decide +kernel) (by decide +kernel)
theorem dX12_layLeaf_146 : decode cX12_layLeaf 146 = .ok (.iload_n 2, 1) := dk_iload_n_2 (by decide +kernel)
theorem dX12_layLeaf_147 : decode cX12_layLeaf 147 = .ok (.iaload, 1) := dk_iaload (by decide +kernel)
theorem dX12_layLeaf_148 : decode cX12_layLeaf 148 = .ok (.imul, 1) := dk_imul (by decide +kernel)
theorem dX12_layLeaf_149 : decode cX12_layLeaf 149 = .ok (.istore 4, 2) := dk_istore 4 (b := 4) (by decide +kernel) (by decide +kernel) (by decide +kernel)
theorem dX12_layLeaf_151 : decode cX12_layLeaf 151 = .ok (.iconst 4, 1) := dk_iconst_4 (by decide +kernel)
theorem dX12_layLeaf_152 : decode cX12_layLeaf 152 = .ok (.aload_n 0, 1) := dk_aload_n_0 (by decide +kernel)
theorem dX12_layLeaf_153 : decode cX12_layLeaf 153 = .ok (.getfield 286, 3) := dk_getfield 286 (b1 := 1) (b2 := 30) (by decide +kernel) (by decide +kernel) (by decide +kernel) (by decide +kernel)
theorem dX12_layLeaf_156 : decode cX12_layLeaf 156 = .ok (.iconst 1, 1) := dk_iconst_1 (by decide +kernel)
theorem dX12_layLeaf_157 : decode cX12_layLeaf 157 = .ok (.isub, 1) := dk_isub (by decide +kernel)
theorem dX12_layLeaf_158 : decode cX12_layLeaf 158 = .ok (.imul, 1) := dk_imul (by decide +kernel)
theorem dX12_layLeaf_159 : decode cX12_layLeaf 159 = .ok (.istore 5, 2) := dk_istore 5 (b := 5) (by decide +kernel) (by decide +kernel) (by decide +kernel)
theorem dX12_layLeaf_161 : decode cX12_layLeaf 161 = .ok (.iload_n 3, 1) := dk_iload_n_3 (by decide +kernel)
theorem dX12_layLeaf_162 : decode cX12_layLeaf 162 = .ok (.ifCond .ne 74, 3) := dk_ifCond_ne 74 (b1 := 0) (b2 := 74) (by decide +kernel) (by decide +kernel) (by decide +kernel) (by decide +kernel)
theorem dX12_layLeaf_165 : decode cX12_layLeaf 165 = .ok (.bipush 96, 2) := dk_bipush 96 (b := 96) (by decide +kernel) (by decide +kernel) (by decide +kernel)
theorem dX12_layLeaf_167 : decode cX12_layLeaf 167 = .ok (.iconst 4, 1) := dk_iconst_4 (by decide +kernel)
theorem dX12_layLeaf_168 : decode cX12_layLeaf 168 = .ok (.aload_n 0, 1) := dk_aload_n_0 (by decide +kernel)
theorem dX12_layLeaf_169 : decode cX12_layLeaf 169 = .ok (.getfield 293, 3) := dk_getfield 293 (b1 := 1) (b2 := 37) (by decide +kernel) (by decide +kernel) (by decide +kernel) (by decide +kernel)
theorem dX12_layLeaf_172 : decode cX12_layLeaf 172 = .ok (.imul, 1) := dk_imul (by decide +kernel)
theorem dX12_layLeaf_173 : decode cX12_layLeaf 173 = .ok (.iadd, 1) := dk_iadd (by decide +kernel)
theorem dX12_layLeaf_174 : decode cX12_layLeaf 174 = .ok (.istore 4, 2) := dk_istore 4 (b := 4) (by decide +kernel) (by decide +kernel) (by decide +kernel)
theorem dX12_layLeaf_176 : decode cX12_layLeaf 176 = .ok (.iload 4, 2) := dk_iload 4 (b := 4) (by decide +kernel) (by decide +kernel) (by decide +kernel)
theorem dX12_layLeaf_178 : decode cX12_layLeaf 178 = .ok (.istore 5, 2) := dk_istore 5 (b := 5) (by decide +kernel) (by decide +kernel) (by decide +kernel)
theorem dX12_layLeaf_180 : decode cX12_layLeaf 180 = .ok (.aload_n 0, 1) := dk_aload_n_0 (by decide +kernel)
theorem dX12_layLeaf_181 : decode cX12_layLeaf 181 = .ok (.dup, 1) := dk_dup (by decide +kernel)
theorem dX12_layLeaf_182 : decode cX12_layLeaf 182 = .ok (.getfield 293, 3) := dk_getfield 293 (b1 := 1) (b2 := 37) (by decide +kernel) (by decide +kernel) (by decide +kernel) (by decide +kernel)
theorem dX12_layLeaf_185 : decode cX12_layLeaf 185 = .ok (.iconst 1, 1) := dk_iconst_1 (by decide +kernel)
theorem dX12_layLeaf_186 : decode cX12_layLeaf 186 = .ok (.iadd, 1) := dk_iadd (by decide +kernel)
theorem dX12_layLeaf_187 : decode cX12_layLeaf 187 = .ok (.putfield 293, 3) := dk_putfield 293 (b1 := 1) (b2 := 37) (by decide +kernel) (by decide +kernel) (by decide +kernel) (by decide +kernel)
theorem dX12_layLeaf_190 : decode cX12_layLeaf 190 = .ok (.iload_n 1, 1) := dk_iload_n_1 (by decide +kernel)
theorem dX12_layLeaf_191 : decode cX12_layLeaf 191 = .ok (.bipush 10, 2) := dk_bipush 10 (b := 10) (by decide +kernel) (by decide +kernel) (by decide +kernel)
theorem dX12_layLeaf_193 : decode cX12_layLeaf 193 = .ok (.if_icmp .ne 7, 3) := dk_if_icmp_ne 7 (b1 := 0) (b2 := 7) (by decide +kernel) (by decide +kernel) (by decide +kernel) (by decide +kernel)
theorem dX12_layLeaf_200 : decode cX12_layLeaf 200 = .ok (.iconst 1, 1) := dk_iconst_1 (by decide +kernel)
theorem dX12_layLeaf_201 : decode cX12_layLeaf 201 = .ok (.istore 6, 2) := dk_istore 6 (b := 6) (by decide +kernel) (by decide +kernel) (by decide +kernel)
theorem dX12_layLeaf_203 : decode cX12_layLeaf 203 = .ok (.iconst 0, 1) := dk_iconst_0 (by decide +kernel)
theorem dX12_layLeaf_204 : decode cX12_layLeaf 204 = .ok (.istore 7, 2) := dk_istore 7 (b := 7) (by decide +kernel) (by decide +kernel) (by decide +kernel)
theorem dX12_layLeaf_196 : decode cX12_layLeaf 196 = .ok (.iconst 2, 1) := dk_iconst_2 (by decide +kernel)
theorem dX12_layLeaf_197 : decode cX12_layLeaf 197 = .ok (.goto 4, 3) := dk_goto 4 (b1 := 0) (b2 := 4) (by decide +kernel) (by decide +kernel) (by decide +kernel) (by decide +kernel)
theorem dX12_layLeaf_40 : decode cX12_layLeaf 40 = .ok (.iconst 4, 1) := dk_iconst_4 (by decide +kernel)
theorem dX12_layLeaf_41 : decode cX12_layLeaf 41 = .ok (.aload_n 0, 1) := dk_aload_n_0 (by decide +kernel)
theorem dX12_layLeaf_42 : decode cX12_layLeaf 42 = .ok (.getfield 286, 3) := dk_getfield 286 (b1 := 1) (b2 := 30) (by decide +kernel) (by decide +kernel) (by decide +kernel) (by decide +kernel)
theorem dX12_layLeaf_45 : decode cX12_layLeaf 45 = .ok (.imul, 1) := dk_imul (by decide +kernel)
theorem dX12_layLeaf_46 : decode cX12_layLeaf 46 = .ok (.istore 5, 2) := dk_istore 5 (b := 5) (by decide +kernel) (by decide +kernel) (by decide +kernel)
theorem dX12_layLeaf_48 : decode cX12_layLeaf 48 = .ok (.iconst 0, 1) := dk_iconst_0 (by decide +kernel)
theorem dX12_layLeaf_49 : decode cX12_layLeaf 49 = .ok (.istore 6, 2) := dk_istore 6 (b := 6) (by decide +kernel) (by decide +kernel) (by decide +kernel)
set_option maxRecDepth 20000 in
theorem vX12_layLeaf_34 {E : sm_E} {L : sm_S → Prop} {d : Nat} {vs : List Value} {x1 : Int32} {x2 : Int32} {x3 : Int32} {x4 : Int32}  {m : sm_M} {Q : sm_M → Prop} (hly : ∀ S, L S → ly S) (hd : 2 ≤ d) 
  (h : (x3 ≤ x4 →
      (vp_in x2 64) ∧ ∀ x4_2 : Int32, x4_2 = (4 : Int32) * (m.1 135 x2.toNatClampNeg) →
      ∀ x5_3 : Int32, x5_3 = (4 : Int32) * ((m.1 109 45) - 1) →
      (¬ x3 = 0 →
         gX12_layLeaf_236 E L d vs x2 x4_2 x5_3 m Q) ∧
      (x3 = 0 →
         ∀ x4_4 : Int32, x4_4 = (96 : Int32) + ((4 : Int32) * (m.1 109 46)) →
         ∀ m_6 : sm_M, m_6 = sm_wI m 109 46 ((m.1 109 46) + 1) →
         (¬ x1 = 10 →
            gX12_layLeaf_206 E L d vs x2 x4_4 x4_4 1 0 m_6 Q) ∧
         (x1 = 10 →
            gX12_layLeaf_206 E L d vs x2 x4_4 x4_4 2 0 m_6 Q))) ∧
   (¬ x3 ≤ x4 →
      ∀ x5_11 : Int32, x5_11 = (4 : Int32) * (m.1 109 45) →
      gX12_layLeaf_51 E L d vs x1 x2 x3 x4 x5_11 0 m Q)) :
  gX12_layLeaf_34 E L d vs x1 x2 x3 x4 m Q := by
  refine sm_iload (Y := mX12_layLeaf) (pc := 34) 4 4 rfl dX12_layLeaf_34 ?_
  refine sm_iload_n (Y := mX12_layLeaf) (pc := 36) 3 3 rfl rfl dX12_layLeaf_36 ?_
  refine sm_icmp_ge (Y := mX12_layLeaf) (pc := 37) 141 (by decide) dX12_layLeaf_37 (fun hc => ?_) (fun hc => ?_)
  · replace h := h.1 hc
    refine sm_iconst (Y := mX12_layLeaf) (pc := 141) 4 (by decide) dX12_layLeaf_141 ?_
    refine sm_aload_n (Y := mX12_layLeaf) (pc := 142) 0 0 rfl rfl dX12_layLeaf_142 ?_
    refine gf_RX12_91 (Y := mX12_layLeaf) (pc := 143) (b := 135) rfl ((lk_109 hly) _) (lf_109_44 hly _) dX12_layLeaf_143 ?_
    refine sm_iload_n (Y := mX12_layLeaf) (pc := 146) 2 2 rfl rfl dX12_layLeaf_146 ?_
    obtain ⟨hn_1, h⟩ := h
    refine sm_iald (Y := mX12_layLeaf) (pc := 147) (la_135 hly _) hn_1 dX12_layLeaf_147 ?_
    refine sm_imul (Y := mX12_layLeaf) (pc := 148) dX12_layLeaf_148 ?_
    refine sm_istore (Y := mX12_layLeaf) (pc := 149) (fun y => [(4, .int y), (0, .ref (sm_B E + 109)), (1, .int x1), (2, .int x2), (3, .int x3)]) 4 (by decide) (fun _ => rfl) dX12_layLeaf_149 (fun x4_2 ex4_2 => ?_)
    replace h := h x4_2 ex4_2
    refine sm_iconst (Y := mX12_layLeaf) (pc := 151) 4 (by decide) dX12_layLeaf_151 ?_
    refine sm_aload_n (Y := mX12_layLeaf) (pc := 152) 1 0 rfl rfl dX12_layLeaf_152 ?_
    refine gf_RX12_286 (Y := mX12_layLeaf) (pc := 153) rfl ((lk_109 hly) _) dX12_layLeaf_153 ?_
    refine sm_iconst (Y := mX12_layLeaf) (pc := 156) 1 (by decide) dX12_layLeaf_156 ?_
    refine sm_isub (Y := mX12_layLeaf) (pc := 157) dX12_layLeaf_157 ?_
    refine sm_imul (Y := mX12_layLeaf) (pc := 158) dX12_layLeaf_158 ?_
    refine sm_istore (Y := mX12_layLeaf) (pc := 159) (fun y => [(5, .int y), (4, .int x4_2), (0, .ref (sm_B E + 109)), (1, .int x1), (2, .int x2), (3, .int x3)]) 5 (by decide) (fun _ => rfl) dX12_layLeaf_159 (fun x5_3 ex5_3 => ?_)
    replace h := h x5_3 ex5_3
    refine sm_iload_n (Y := mX12_layLeaf) (pc := 161) 5 3 rfl rfl dX12_layLeaf_161 ?_
    refine sm_if_ne (Y := mX12_layLeaf) (pc := 162) 236 (by decide) dX12_layLeaf_162 (fun hc => ?_) (fun hc => ?_)
    · replace h := h.1 hc
      refine sm_sub [2, 4, 1, 0] rfl ?_
      exact h
    · replace h := h.2 hc
      refine sm_bipush (Y := mX12_layLeaf) (pc := 165) 96 (by decide) dX12_layLeaf_165 ?_
      refine sm_iconst (Y := mX12_layLeaf) (pc := 167) 4 (by decide) dX12_layLeaf_167 ?_
      refine sm_aload_n (Y := mX12_layLeaf) (pc := 168) 2 0 rfl rfl dX12_layLeaf_168 ?_
      refine gf_RX12_293 (Y := mX12_layLeaf) (pc := 169) rfl ((lk_109 hly) _) dX12_layLeaf_169 ?_
      refine sm_imul (Y := mX12_layLeaf) (pc := 172) dX12_layLeaf_172 ?_
      refine sm_iadd (Y := mX12_layLeaf) (pc := 173) dX12_layLeaf_173 ?_
      refine sm_istore (Y := mX12_layLeaf) (pc := 174) (fun y => [(4, .int y), (5, .int x5_3), (0, .ref (sm_B E + 109)), (1, .int x1), (2, .int x2), (3, .int x3)]) 4 (by decide) (fun _ => rfl) dX12_layLeaf_174 (fun x4_4 ex4_4 => ?_)
      replace h := h x4_4 ex4_4
      refine sm_iload (Y := mX12_layLeaf) (pc := 176) 0 4 rfl dX12_layLeaf_176 ?_
      refine sm_istore0 (Y := mX12_layLeaf) (pc := 178) [(5, .int x4_4), (4, .int x4_4), (0, .ref (sm_B E + 109)), (1, .int x1), (2, .int x2), (3, .int x3)] 5 (by decide) rfl dX12_layLeaf_178 ?_
      refine sm_aload_n (Y := mX12_layLeaf) (pc := 180) 2 0 rfl rfl dX12_layLeaf_180 ?_
      refine sm_dup (Y := mX12_layLeaf) (pc := 181) rfl dX12_layLeaf_181 ?_
      refine gf_RX12_293 (Y := mX12_layLeaf) (pc := 182) rfl ((lk_109 hly) _) dX12_layLeaf_182 ?_
      refine sm_iconst (Y := mX12_layLeaf) (pc := 185) 1 (by decide) dX12_layLeaf_185 ?_
      refine sm_iadd (Y := mX12_layLeaf) (pc := 186) dX12_layLeaf_186 ?_
      refine pf_RX12_293 (Y := mX12_layLeaf) (pc := 187) rfl ((lk_109 hly) _) dX12_layLeaf_187 (fun m_6 em_6 => ?_)
      replace h := h m_6 em_6
      refine sm_iload_n (Y := mX12_layLeaf) (pc := 190) 3 1 rfl rfl dX12_layLeaf_190 ?_
      refine sm_bipush (Y := mX12_layLeaf) (pc := 191) 10 (by decide) dX12_layLeaf_191 ?_
      refine sm_icmp_ne (Y := mX12_layLeaf) (pc := 193) 200 (by decide) dX12_layLeaf_193 (fun hc => ?_) (fun hc => ?_)
      · replace h := h.1 hc
        refine sm_iconst (Y := mX12_layLeaf) (pc := 200) 1 (by decide) dX12_layLeaf_200 ?_
        refine sm_istore0 (Y := mX12_layLeaf) (pc := 201) [(6, .int 1), (5, .int x4_4), (4, .int x4_4), (0, .ref (sm_B E + 109)), (1, .int x1), (2, .int x2), (3, .int x3)] 6 (by decide) rfl dX12_layLeaf_201 ?_
        refine sm_iconst (Y := mX12_layLeaf) (pc := 203) 0 (by decide) dX12_layLeaf_203 ?_
        refine sm_istore0 (Y := mX12_layLeaf) (pc := 204) [(7, .int 0), (6, .int 1), (5, .int x4_4), (4, .int x4_4), (0, .ref (sm_B E + 109)), (1, .int x1), (2, .int x2), (3, .int x3)] 7 (by decide) rfl dX12_layLeaf_204 ?_
        refine sm_sub [4, 6, 3, 2, 1, 0] rfl ?_
        exact h
      · replace h := h.2 hc
        refine sm_iconst (Y := mX12_layLeaf) (pc := 196) 2 (by decide) dX12_layLeaf_196 ?_
        refine sm_goto (Y := mX12_layLeaf) (pc := 197) 201 (by decide) dX12_layLeaf_197 ?_
        refine sm_istore0 (Y := mX12_layLeaf) (pc := 201) [(6, .int 2), (5, .int x4_4), (4, .int x4_4), (0, .ref (sm_B E + 109)), (1, .int x1), (2, .int x2), (3, .int x3)] 6 (by decide) rfl dX12_layLeaf_201 ?_
        refine sm_iconst (Y := mX12_layLeaf) (pc := 203) 0 (by decide) dX12_layLeaf_203 ?_
        refine sm_istore0 (Y := mX12_layLeaf) (pc := 204) [(7, .int 0), (6, .int 2), (5, .int x4_4), (4, .int x4_4), (0, .ref (sm_B E + 109)), (1, .int x1), (2, .int x2), (3, .int x3)] 7 (by decide) rfl dX12_layLeaf_204 ?_
        refine sm_sub [4, 6, 3, 2, 1, 0] rfl ?_
        exact h
  · replace h := h.2 hc
    refine sm_iconst (Y := mX12_layLeaf) (pc := 40) 4 (by decide) dX12_layLeaf_40 ?_
    refine sm_aload_n (Y := mX12_layLeaf) (pc := 41) 0 0 rfl rfl dX12_layLeaf_41 ?_
    refine gf_RX12_286 (Y := mX12_layLeaf) (pc := 42) rfl ((lk_109 hly) _) dX12_layLeaf_42 ?_
    refine sm_imul (Y := mX12_layLeaf) (pc := 45) dX12_layLeaf_45 ?_
    refine sm_istore (Y := mX12_layLeaf) (pc := 46) (fun y => [(5, .int y), (0, .ref (sm_B E + 109)), (1, .int x1), (2, .int x2), (3, .int x3), (4, .int x4)]) 5 (by decide) (fun _ => rfl) dX12_layLeaf_46 (fun x5_11 ex5_11 => ?_)
    replace h := h x5_11 ex5_11
    refine sm_iconst (Y := mX12_layLeaf) (pc := 48) 0 (by decide) dX12_layLeaf_48 ?_
    refine sm_istore0 (Y := mX12_layLeaf) (pc := 49) [(6, .int 0), (5, .int x5_11), (0, .ref (sm_B E + 109)), (1, .int x1), (2, .int x2), (3, .int x3), (4, .int x4)] 6 (by decide) rfl dX12_layLeaf_49 ?_
    refine sm_sub [2, 3, 4, 5, 6, 1, 0] rfl ?_
    exact h
theorem dX12_layLeaf_0 : decode cX12_layLeaf 0 = .ok (.aload_n 0, 1) := dk_aload_n_0 (by decide +kernel)
theorem dX12_layLeaf_1 : decode cX12_layLeaf 1 = .ok (.getfield 91, 3) := dk_getfield 91 (b1 := 0) (b2 := 91) (by decide +kernel) (by decide +kernel) (by decide +kernel) (by decide +kernel)
theorem dX12_layLeaf_4 : decode cX12_layLeaf 4 = .ok (.iload_n 2, 1) := dk_iload_n_2 (by decide +kernel)
theorem dX12_layLeaf_5 : decode cX12_layLeaf 5 = .ok (.aload_n 0, 1) := dk_aload_n_0 (by decide +kernel)
theorem dX12_layLeaf_6 : decode cX12_layLeaf 6 = .ok (.getfield 286, 3) := dk_getfield 286 (b1 := 1) (b2 := 30) (by decide +kernel) (by decide +kernel) (by decide +kernel) (by decide +kernel)
theorem dX12_layLeaf_9 : decode cX12_layLeaf 9 = .ok (.iastore, 1) := dk_iastore (by decide +kernel)
theorem dX12_layLeaf_10 : decode cX12_layLeaf 10 = .ok (.iload_n 1, 1) := dk_iload_n_1 (by decide +kernel)
theorem dX12_layLeaf_11 : decode cX12_layLeaf 11 = .ok (.bipush 10, 2) := dk_bipush 10 (b := 10) (by decide +kernel) (by decide +kernel) (by decide +kernel)
theorem dX12_layLeaf_13 : decode cX12_layLeaf 13 = .ok (.if_icmp .ne 7, 3) := dk_if_icmp_ne 7 (b1 := 0) (b2 := 7) (by decide +kernel) (by decide +kernel) (by decide +kernel) (by decide +kernel)
theorem dX12_layLeaf_20 : decode cX12_layLeaf 20 = .ok (.iload_n 1, 1) := dk_iload_n_1 (by decide +kernel)
theorem dX12_layLeaf_21 : decode cX12_layLeaf 21 = .ok (.ifCond .ge 8, 3) := dk_ifCond_ge 8 (b1 := 0) (b2 := 8) (by decide +kernel) (by decide +kernel) (by decide +kernel) (by decide +kernel)
theorem dX12_layLeaf_29 : decode cX12_layLeaf 29 = .ok (.iload_n 1, 1) := dk_iload_n_1 (by decide +kernel)
theorem dX12_layLeaf_30 : decode cX12_layLeaf 30 = .ok (.istore_n 3, 1) := dk_istore_n_3 (by decide +kernel)
theorem dX12_layLeaf_31 : decode cX12_layLeaf 31 = .ok (.iconst 0, 1) := dk_iconst_0 (by decide +kernel)
theorem dX12_layLeaf_32 : decode cX12_layLeaf 32 = .ok (.istore 4, 2) := dk_istore 4 (b := 4) (by decide +kernel) (by decide +kernel) (by decide +kernel)
theorem dX12_layLeaf_24 : decode cX12_layLeaf 24 = .ok (.iload_n 1, 1) := dk_iload_n_1 (by decide +kernel)
theorem dX12_layLeaf_25 : decode cX12_layLeaf 25 = .ok (.ineg, 1) := dk_ineg (by decide +kernel)
theorem dX12_layLeaf_26 : decode cX12_layLeaf 26 = .ok (.goto 4, 3) := dk_goto 4 (b1 := 0) (b2 := 4) (by decide +kernel) (by decide +kernel) (by decide +kernel) (by decide +kernel)
theorem dX12_layLeaf_16 : decode cX12_layLeaf 16 = .ok (.iconst 0, 1) := dk_iconst_0 (by decide +kernel)
theorem dX12_layLeaf_17 : decode cX12_layLeaf 17 = .ok (.goto 13, 3) := dk_goto 13 (b1 := 0) (b2 := 13) (by decide +kernel) (by decide +kernel) (by decide +kernel) (by decide +kernel)
set_option maxRecDepth 20000 in
theorem vX12_layLeaf_0 {E : sm_E} {L : sm_S → Prop} {d : Nat} {x1 : Int32} {x2 : Int32}  {m : sm_M} {Q : sm_M → Prop} (hly : ∀ S, L S → ly S) (hd : 2 ≤ d) 
  (h : (vp_in x2 64) ∧ ∀ m_1 : sm_M, m_1 = sm_wI m 135 x2.toNatClampNeg (m.1 109 45) →
   (¬ x1 = 10 →
      (0 ≤ x1 →
         gX12_layLeaf_34 E L d ([.ref (sm_B E + 109), .int x1, .int x2]) x1 x2 x1 0 m_1 Q) ∧
      (¬ 0 ≤ x1 →
         ∀ x3_5 : Int32, x3_5 = -x1 →
         gX12_layLeaf_34 E L d ([.ref (sm_B E + 109), .int x1, .int x2]) x1 x2 x3_5 0 m_1 Q)) ∧
   (x1 = 10 →
      gX12_layLeaf_34 E L d ([.ref (sm_B E + 109), .int x1, .int x2]) x1 x2 0 0 m_1 Q)) :
  sm_callV E L mX12_layLeaf d 0 0 [.ref (sm_B E + 109), .int x1, .int x2] m Q := by
  refine sm_enter (by decide +kernel) (by simp [lg_sl, Value.category]) ?_
  refine sm_aload_n (Y := mX12_layLeaf) (pc := 0) 0 0 rfl rfl dX12_layLeaf_0 ?_
  refine gf_RX12_91 (Y := mX12_layLeaf) (pc := 1) (b := 135) rfl ((lk_109 hly) _) (lf_109_44 hly _) dX12_layLeaf_1 ?_
  refine sm_iload_n (Y := mX12_layLeaf) (pc := 4) 2 2 rfl rfl dX12_layLeaf_4 ?_
  refine sm_aload_n (Y := mX12_layLeaf) (pc := 5) 0 0 rfl rfl dX12_layLeaf_5 ?_
  refine gf_RX12_286 (Y := mX12_layLeaf) (pc := 6) rfl ((lk_109 hly) _) dX12_layLeaf_6 ?_
  obtain ⟨hn_2, h⟩ := h
  refine sm_iast (Y := mX12_layLeaf) (pc := 9) (la_135 hly _) hn_2 dX12_layLeaf_9 (fun m_1 em_1 => ?_)
  replace h := h m_1 em_1
  refine sm_iload_n (Y := mX12_layLeaf) (pc := 10) 1 1 rfl rfl dX12_layLeaf_10 ?_
  refine sm_bipush (Y := mX12_layLeaf) (pc := 11) 10 (by decide) dX12_layLeaf_11 ?_
  refine sm_icmp_ne (Y := mX12_layLeaf) (pc := 13) 20 (by decide) dX12_layLeaf_13 (fun hc => ?_) (fun hc => ?_)
  · replace h := h.1 hc
    refine sm_iload_n (Y := mX12_layLeaf) (pc := 20) 1 1 rfl rfl dX12_layLeaf_20 ?_
    refine sm_if_ge (Y := mX12_layLeaf) (pc := 21) 29 (by decide) dX12_layLeaf_21 (fun hc => ?_) (fun hc => ?_)
    · replace h := h.1 hc
      refine sm_iload_n (Y := mX12_layLeaf) (pc := 29) 1 1 rfl rfl dX12_layLeaf_29 ?_
      refine sm_istore0_n (Y := mX12_layLeaf) (pc := 30) [(3, .int x1), (0, .ref (sm_B E + 109)), (1, .int x1), (2, .int x2)] 3 rfl (by decide) rfl dX12_layLeaf_30 ?_
      refine sm_iconst (Y := mX12_layLeaf) (pc := 31) 0 (by decide) dX12_layLeaf_31 ?_
      refine sm_istore0 (Y := mX12_layLeaf) (pc := 32) [(4, .int 0), (3, .int x1), (0, .ref (sm_B E + 109)), (1, .int x1), (2, .int x2)] 4 (by decide) rfl dX12_layLeaf_32 ?_
      refine sm_sub [2, 3, 4, 1, 0] rfl ?_
      exact h
    · replace h := h.2 hc
      refine sm_iload_n (Y := mX12_layLeaf) (pc := 24) 1 1 rfl rfl dX12_layLeaf_24 ?_
      refine sm_ineg (Y := mX12_layLeaf) (pc := 25) dX12_layLeaf_25 ?_
      refine sm_goto (Y := mX12_layLeaf) (pc := 26) 30 (by decide) dX12_layLeaf_26 ?_
      refine sm_istore_n (Y := mX12_layLeaf) (pc := 30) (fun y => [(3, .int y), (0, .ref (sm_B E + 109)), (1, .int x1), (2, .int x2)]) 3 rfl (by decide) (fun _ => rfl) dX12_layLeaf_30 (fun x3_5 ex3_5 => ?_)
      replace h := h x3_5 ex3_5
      refine sm_iconst (Y := mX12_layLeaf) (pc := 31) 0 (by decide) dX12_layLeaf_31 ?_
      refine sm_istore0 (Y := mX12_layLeaf) (pc := 32) [(4, .int 0), (3, .int x3_5), (0, .ref (sm_B E + 109)), (1, .int x1), (2, .int x2)] 4 (by decide) rfl dX12_layLeaf_32 ?_
      refine sm_sub [2, 3, 4, 1, 0] rfl ?_
      exact h
  · replace h := h.2 hc
    refine sm_iconst (Y := mX12_layLeaf) (pc := 16) 0 (by decide) dX12_layLeaf_16 ?_
    refine sm_goto (Y := mX12_layLeaf) (pc := 17) 30 (by decide) dX12_layLeaf_17 ?_
    refine sm_istore0_n (Y := mX12_layLeaf) (pc := 30) [(3, .int 0), (0, .ref (sm_B E + 109)), (1, .int x1), (2, .int x2)] 3 rfl (by decide) rfl dX12_layLeaf_30 ?_
    refine sm_iconst (Y := mX12_layLeaf) (pc := 31) 0 (by decide) dX12_layLeaf_31 ?_
    refine sm_istore0 (Y := mX12_layLeaf) (pc := 32) [(4, .int 0), (3, .int 0), (0, .ref (sm_B E + 109)), (1, .int x1), (2, .int x2)] 4 (by decide) rfl dX12_layLeaf_32 ?_
    refine sm_sub [2, 3, 4, 1, 0] rfl ?_
    exact h
abbrev mX12_turns : sm_Y := (yX12_turns, cX12_turns, 5, none)
theorem fX12_turns : sm_mi mX12_turns RX12 1 := ⟨sm_in 1529 (by decide +kernel) (by decide +kernel), sm_in 1528 (by decide +kernel) (by decide +kernel), sm_in 61 (by decide +kernel) (by decide +kernel), sm_in 93 (by decide +kernel) (by decide +kernel), rfl, ⟨by decide +kernel, by decide +kernel, by decide +kernel⟩, by decide⟩
theorem dX12_turns_0 : decode cX12_turns 0 = .ok (.aload_n 0, 1) := dk_aload_n_0 (by decide +kernel)
theorem dX12_turns_1 : decode cX12_turns 1 = .ok (.getfield 79, 3) := dk_getfield 79 (b1 := 0) (b2 := 79) (by decide +kernel) (by decide +kernel) (by decide +kernel) (by decide +kernel)
theorem dX12_turns_4 : decode cX12_turns 4 = .ok (.iload_n 1, 1) := dk_iload_n_1 (by decide +kernel)
theorem dX12_turns_5 : decode cX12_turns 5 = .ok (.iaload, 1) := dk_iaload (by decide +kernel)
theorem dX12_turns_6 : decode cX12_turns 6 = .ok (.istore_n 2, 1) := dk_istore_n_2 (by decide +kernel)
theorem dX12_turns_7 : decode cX12_turns 7 = .ok (.aload_n 0, 1) := dk_aload_n_0 (by decide +kernel)
theorem dX12_turns_8 : decode cX12_turns 8 = .ok (.getfield 85, 3) := dk_getfield 85 (b1 := 0) (b2 := 85) (by decide +kernel) (by decide +kernel) (by decide +kernel) (by decide +kernel)
theorem dX12_turns_11 : decode cX12_turns 11 = .ok (.iload_n 1, 1) := dk_iload_n_1 (by decide +kernel)
theorem dX12_turns_12 : decode cX12_turns 12 = .ok (.iaload, 1) := dk_iaload (by decide +kernel)
theorem dX12_turns_13 : decode cX12_turns 13 = .ok (.istore_n 3, 1) := dk_istore_n_3 (by decide +kernel)
theorem dX12_turns_14 : decode cX12_turns 14 = .ok (.aload_n 0, 1) := dk_aload_n_0 (by decide +kernel)
theorem dX12_turns_15 : decode cX12_turns 15 = .ok (.getfield 88, 3) := dk_getfield 88 (b1 := 0) (b2 := 88) (by decide +kernel) (by decide +kernel) (by decide +kernel) (by decide +kernel)
theorem dX12_turns_18 : decode cX12_turns 18 = .ok (.iload_n 1, 1) := dk_iload_n_1 (by decide +kernel)
theorem dX12_turns_19 : decode cX12_turns 19 = .ok (.iaload, 1) := dk_iaload (by decide +kernel)
theorem dX12_turns_20 : decode cX12_turns 20 = .ok (.istore 4, 2) := dk_istore 4 (b := 4) (by decide +kernel) (by decide +kernel) (by decide +kernel)
theorem dX12_turns_22 : decode cX12_turns 22 = .ok (.aload_n 0, 1) := dk_aload_n_0 (by decide +kernel)
theorem dX12_turns_23 : decode cX12_turns 23 = .ok (.getfield 79, 3) := dk_getfield 79 (b1 := 0) (b2 := 79) (by decide +kernel) (by decide +kernel) (by decide +kernel) (by decide +kernel)
theorem dX12_turns_26 : decode cX12_turns 26 = .ok (.iload_n 1, 1) := dk_iload_n_1 (by decide +kernel)
theorem dX12_turns_27 : decode cX12_turns 27 = .ok (.aload_n 0, 1) := dk_aload_n_0 (by decide +kernel)
theorem dX12_turns_28 : decode cX12_turns 28 = .ok (.getfield 82, 3) := dk_getfield 82 (b1 := 0) (b2 := 82) (by decide +kernel) (by decide +kernel) (by decide +kernel) (by decide +kernel)
theorem dX12_turns_31 : decode cX12_turns 31 = .ok (.iload_n 1, 1) := dk_iload_n_1 (by decide +kernel)
theorem dX12_turns_32 : decode cX12_turns 32 = .ok (.iaload, 1) := dk_iaload (by decide +kernel)
theorem dX12_turns_33 : decode cX12_turns 33 = .ok (.iastore, 1) := dk_iastore (by decide +kernel)
theorem dX12_turns_34 : decode cX12_turns 34 = .ok (.aload_n 0, 1) := dk_aload_n_0 (by decide +kernel)
theorem dX12_turns_35 : decode cX12_turns 35 = .ok (.getfield 85, 3) := dk_getfield 85 (b1 := 0) (b2 := 85) (by decide +kernel) (by decide +kernel) (by decide +kernel) (by decide +kernel)
theorem dX12_turns_38 : decode cX12_turns 38 = .ok (.iload_n 1, 1) := dk_iload_n_1 (by decide +kernel)
theorem dX12_turns_39 : decode cX12_turns 39 = .ok (.iload_n 2, 1) := dk_iload_n_2 (by decide +kernel)
theorem dX12_turns_40 : decode cX12_turns 40 = .ok (.iastore, 1) := dk_iastore (by decide +kernel)
theorem dX12_turns_41 : decode cX12_turns 41 = .ok (.aload_n 0, 1) := dk_aload_n_0 (by decide +kernel)
theorem dX12_turns_42 : decode cX12_turns 42 = .ok (.getfield 88, 3) := dk_getfield 88 (b1 := 0) (b2 := 88) (by decide +kernel) (by decide +kernel) (by decide +kernel) (by decide +kernel)
theorem dX12_turns_45 : decode cX12_turns 45 = .ok (.iload_n 1, 1) := dk_iload_n_1 (by decide +kernel)
theorem dX12_turns_46 : decode cX12_turns 46 = .ok (.iload_n 3, 1) := dk_iload_n_3 (by decide +kernel)
theorem dX12_turns_47 : decode cX12_turns 47 = .ok (.iastore, 1) := dk_iastore (by decide +kernel)
theorem dX12_turns_48 : decode cX12_turns 48 = .ok (.aload_n 0, 1) := dk_aload_n_0 (by decide +kernel)
theorem dX12_turns_49 : decode cX12_turns 49 = .ok (.getfield 82, 3) := dk_getfield 82 (b1 := 0) (b2 := 82) (by decide +kernel) (by decide +kernel) (by decide +kernel) (by decide +kernel)
theorem dX12_turns_52 : decode cX12_turns 52 = .ok (.iload_n 1, 1) := dk_iload_n_1 (by decide +kernel)
theorem dX12_turns_53 : decode cX12_turns 53 = .ok (.iload 4, 2) := dk_iload 4 (b := 4) (by decide +kernel) (by decide +kernel) (by decide +kernel)
theorem dX12_turns_55 : decode cX12_turns 55 = .ok (.iastore, 1) := dk_iastore (by decide +kernel)
theorem dX12_turns_56 : decode cX12_turns 56 = .ok (.return_, 1) := dk_return_ (by decide +kernel)
set_option maxRecDepth 20000 in
theorem vX12_turns_0 {E : sm_E} {L : sm_S → Prop} {d : Nat} {x1 : Int32}  {m : sm_M} {Q : sm_M → Prop} (hly : ∀ S, L S → ly S) (hd : 1 ≤ d) 
  (h : (vp_in x1 64) ∧ ∀ x2_2 : Int32, x2_2 = m.1 131 x1.toNatClampNeg →
   (vp_in x1 64) ∧ ∀ x3_4 : Int32, x3_4 = m.1 133 x1.toNatClampNeg →
   (vp_in x1 64) ∧ ∀ x4_6 : Int32, x4_6 = m.1 134 x1.toNatClampNeg →
   (vp_in x1 64) ∧ (vp_in x1 64) ∧ ∀ m_8 : sm_M, m_8 = sm_wI m 131 x1.toNatClampNeg (m.1 132 x1.toNatClampNeg) →
   (vp_in x1 64) ∧ ∀ m_10 : sm_M, m_10 = sm_wI m_8 133 x1.toNatClampNeg x2_2 →
   (vp_in x1 64) ∧ ∀ m_12 : sm_M, m_12 = sm_wI m_10 134 x1.toNatClampNeg x3_4 →
   (vp_in x1 64) ∧ ∀ m_14 : sm_M, m_14 = sm_wI m_12 132 x1.toNatClampNeg x4_6 →
   Q m_14) :
  sm_callV E L mX12_turns d 0 0 [.ref (sm_B E + 109), .int x1] m Q := by
  refine sm_enter (by decide +kernel) (by simp [lg_sl, Value.category]) ?_
  refine sm_aload_n (Y := mX12_turns) (pc := 0) 0 0 rfl rfl dX12_turns_0 ?_
  refine gf_RX12_79 (Y := mX12_turns) (pc := 1) (b := 131) rfl ((lk_109 hly) _) (lf_109_40 hly _) dX12_turns_1 ?_
  refine sm_iload_n (Y := mX12_turns) (pc := 4) 1 1 rfl rfl dX12_turns_4 ?_
  obtain ⟨hn_1, h⟩ := h
  refine sm_iald (Y := mX12_turns) (pc := 5) (la_131 hly _) hn_1 dX12_turns_5 ?_
  refine sm_istore_n (Y := mX12_turns) (pc := 6) (fun y => [(2, .int y), (0, .ref (sm_B E + 109)), (1, .int x1)]) 2 rfl (by decide) (fun _ => rfl) dX12_turns_6 (fun x2_2 ex2_2 => ?_)
  replace h := h x2_2 ex2_2
  refine sm_aload_n (Y := mX12_turns) (pc := 7) 1 0 rfl rfl dX12_turns_7 ?_
  refine gf_RX12_85 (Y := mX12_turns) (pc := 8) (b := 133) rfl ((lk_109 hly) _) (lf_109_42 hly _) dX12_turns_8 ?_
  refine sm_iload_n (Y := mX12_turns) (pc := 11) 2 1 rfl rfl dX12_turns_11 ?_
  obtain ⟨hn_3, h⟩ := h
  refine sm_iald (Y := mX12_turns) (pc := 12) (la_133 hly _) hn_3 dX12_turns_12 ?_
  refine sm_istore_n (Y := mX12_turns) (pc := 13) (fun y => [(3, .int y), (2, .int x2_2), (0, .ref (sm_B E + 109)), (1, .int x1)]) 3 rfl (by decide) (fun _ => rfl) dX12_turns_13 (fun x3_4 ex3_4 => ?_)
  replace h := h x3_4 ex3_4
  refine sm_aload_n (Y := mX12_turns) (pc := 14) 2 0 rfl rfl dX12_turns_14 ?_
  refine gf_RX12_88 (Y := mX12_turns) (pc := 15) (b := 134) rfl ((lk_109 hly) _) (lf_109_43 hly _) dX12_turns_15 ?_
  refine sm_iload_n (Y := mX12_turns) (pc := 18) 3 1 rfl rfl dX12_turns_18 ?_
  obtain ⟨hn_5, h⟩ := h
  refine sm_iald (Y := mX12_turns) (pc := 19) (la_134 hly _) hn_5 dX12_turns_19 ?_
  refine sm_istore (Y := mX12_turns) (pc := 20) (fun y => [(4, .int y), (3, .int x3_4), (2, .int x2_2), (0, .ref (sm_B E + 109)), (1, .int x1)]) 4 (by decide) (fun _ => rfl) dX12_turns_20 (fun x4_6 ex4_6 => ?_)
  replace h := h x4_6 ex4_6
  refine sm_aload_n (Y := mX12_turns) (pc := 22) 3 0 rfl rfl dX12_turns_22 ?_
  refine gf_RX12_79 (Y := mX12_turns) (pc := 23) (b := 131) rfl ((lk_109 hly) _) (lf_109_40 hly _) dX12_turns_23 ?_
  refine sm_iload_n (Y := mX12_turns) (pc := 26) 4 1 rfl rfl dX12_turns_26 ?_
  refine sm_aload_n (Y := mX12_turns) (pc := 27) 3 0 rfl rfl dX12_turns_27 ?_
  refine gf_RX12_82 (Y := mX12_turns) (pc := 28) (b := 132) rfl ((lk_109 hly) _) (lf_109_41 hly _) dX12_turns_28 ?_
  refine sm_iload_n (Y := mX12_turns) (pc := 31) 4 1 rfl rfl dX12_turns_31 ?_
  obtain ⟨hn_7, h⟩ := h
  refine sm_iald (Y := mX12_turns) (pc := 32) (la_132 hly _) hn_7 dX12_turns_32 ?_
  obtain ⟨hn_9, h⟩ := h
  refine sm_iast (Y := mX12_turns) (pc := 33) (la_131 hly _) hn_9 dX12_turns_33 (fun m_8 em_8 => ?_)
  replace h := h m_8 em_8
  refine sm_aload_n (Y := mX12_turns) (pc := 34) 3 0 rfl rfl dX12_turns_34 ?_
  refine gf_RX12_85 (Y := mX12_turns) (pc := 35) (b := 133) rfl ((lk_109 hly) _) (lf_109_42 hly _) dX12_turns_35 ?_
  refine sm_iload_n (Y := mX12_turns) (pc := 38) 4 1 rfl rfl dX12_turns_38 ?_
  refine sm_iload_n (Y := mX12_turns) (pc := 39) 2 2 rfl rfl dX12_turns_39 ?_
  obtain ⟨hn_11, h⟩ := h
  refine sm_iast (Y := mX12_turns) (pc := 40) (la_133 hly _) hn_11 dX12_turns_40 (fun m_10 em_10 => ?_)
  replace h := h m_10 em_10
  refine sm_aload_n (Y := mX12_turns) (pc := 41) 3 0 rfl rfl dX12_turns_41 ?_
  refine gf_RX12_88 (Y := mX12_turns) (pc := 42) (b := 134) rfl ((lk_109 hly) _) (lf_109_43 hly _) dX12_turns_42 ?_
  refine sm_iload_n (Y := mX12_turns) (pc := 45) 4 1 rfl rfl dX12_turns_45 ?_
  refine sm_iload_n (Y := mX12_turns) (pc := 46) 1 3 rfl rfl dX12_turns_46 ?_
  obtain ⟨hn_13, h⟩ := h
  refine sm_iast (Y := mX12_turns) (pc := 47) (la_134 hly _) hn_13 dX12_turns_47 (fun m_12 em_12 => ?_)
  replace h := h m_12 em_12
  refine sm_aload_n (Y := mX12_turns) (pc := 48) 3 0 rfl rfl dX12_turns_48 ?_
  refine gf_RX12_82 (Y := mX12_turns) (pc := 49) (b := 132) rfl ((lk_109 hly) _) (lf_109_41 hly _) dX12_turns_49 ?_
  refine sm_iload_n (Y := mX12_turns) (pc := 52) 4 1 rfl rfl dX12_turns_52 ?_
  refine sm_iload (Y := mX12_turns) (pc := 53) 0 4 rfl dX12_turns_53 ?_
  obtain ⟨hn_15, h⟩ := h
  refine sm_iast (Y := mX12_turns) (pc := 55) (la_132 hly _) hn_15 dX12_turns_55 (fun m_14 em_14 => ?_)
  replace h := h m_14 em_14
  exact sm_vret (Y := mX12_turns) (pc := 56) rfl rfl rfl dX12_turns_56 ⟨rfl, h⟩
abbrev mX12_lay : sm_Y := (yX12_lay, cX12_lay, 7, none)
theorem fX12_lay : sm_mi mX12_lay RX12 2 := ⟨sm_in 1517 (by decide +kernel) (by decide +kernel), sm_in 1516 (by decide +kernel) (by decide +kernel), sm_in 58 (by decide +kernel) (by decide +kernel), sm_in 93 (by decide +kernel) (by decide +kernel), rfl, ⟨by decide +kernel, by decide +kernel, by decide +kernel⟩, by decide⟩
def gX12_lay_284 (E : sm_E) (L : sm_S → Prop) (d : Nat) (vs : List Value) (x2 : Int32) (s1 : Int32) (s2 : Int32) (m : sm_M) (Q : sm_M → Prop) : Prop := sm_go E L mX12_lay d 0 0 vs 284 [(0, .ref (sm_B E + 109)), (2, .int x2)] [.int s2, .int s1, .ref (sm_B E + 109)] m 0 0 (sm_Z E L vs 0 0 (sm_QV Q))
def gX12_lay_238 (E : sm_E) (L : sm_S → Prop) (d : Nat) (vs : List Value) (x1 : Int32) (x2 : Int32) (x3 : Int32) (x4 : Int32) (m : sm_M) (Q : sm_M → Prop) : Prop := sm_go E L mX12_lay d 0 0 vs 238 [(0, .ref (sm_B E + 109)), (1, .int x1), (2, .int x2), (3, .int x3), (4, .int x4)] [] m 0 0 (sm_Z E L vs 0 0 (sm_QV Q))
def gX12_lay_197 (E : sm_E) (L : sm_S → Prop) (d : Nat) (vs : List Value) (x1 : Int32) (x2 : Int32) (x3 : Int32) (x4 : Int32) (x5 : Int32) (s1 : Int32) (s2 : Int32) (m : sm_M) (Q : sm_M → Prop) : Prop := sm_go E L mX12_lay d 0 0 vs 197 [(0, .ref (sm_B E + 109)), (1, .int x1), (2, .int x2), (3, .int x3), (4, .int x4), (5, .int x5)] [.int s2, .int s1, .ref (sm_B E + 109)] m 0 0 (sm_Z E L vs 0 0 (sm_QV Q))
def gX12_lay_157 (E : sm_E) (L : sm_S → Prop) (d : Nat) (vs : List Value) (x1 : Int32) (x2 : Int32) (x3 : Int32) (x4 : Int32) (x5 : Int32) (s1 : Int32) (m : sm_M) (Q : sm_M → Prop) : Prop := sm_go E L mX12_lay d 0 0 vs 157 [(0, .ref (sm_B E + 109)), (1, .int x1), (2, .int x2), (3, .int x3), (4, .int x4), (5, .int x5)] [.int s1, .ref (sm_B E + 109)] m 0 0 (sm_Z E L vs 0 0 (sm_QV Q))
def gX12_lay_94 (E : sm_E) (L : sm_S → Prop) (d : Nat) (vs : List Value) (x1 : Int32) (x2 : Int32) (x3 : Int32) (x4 : Int32) (x6 : Int32) (m : sm_M) (Q : sm_M → Prop) : Prop := sm_go E L mX12_lay d 0 0 vs 94 [(0, .ref (sm_B E + 109)), (1, .int x1), (2, .int x2), (3, .int x3), (4, .int x4), (6, .int x6)] [] m 0 0 (sm_Z E L vs 0 0 (sm_QV Q))
def gX12_lay_15 (E : sm_E) (L : sm_S → Prop) (d : Nat) (vs : List Value) (x1 : Int32) (x2 : Int32) (x3 : Int32) (x4 : Int32) (m : sm_M) (Q : sm_M → Prop) : Prop := sm_go E L mX12_lay d 0 0 vs 15 [(0, .ref (sm_B E + 109)), (1, .int x1), (2, .int x2), (3, .int x3), (4, .int x4)] [] m 0 0 (sm_Z E L vs 0 0 (sm_QV Q))
theorem dX12_lay_284 : decode cX12_lay 284 = .ok (.invokevirtual 289, 3) := dk_invokevirtual 289 (b1 := 1) (b2 := 33) (by decide +kernel) (by decide +kernel) (by decide +kernel) (by decide +kernel)
theorem dX12_lay_287 : decode cX12_lay 287 = .ok (.aload_n 0, 1) := dk_aload_n_0 (by decide +kernel)
theorem dX12_lay_288 : decode cX12_lay 288 = .ok (.aload_n 0, 1) := dk_aload_n_0 (by decide +kernel)
theorem dX12_lay_289 : decode cX12_lay 289 = .ok (.getfield 88, 3) := dk_getfield 88 (b1 := 0) (b2 := 88) (by decide +kernel) (by decide +kernel) (by decide +kernel) (by decide +kernel)
theorem dX12_lay_292 : decode cX12_lay 292 = .ok (.iconst 0, 1) := dk_iconst_0 (by decide +kernel)
theorem dX12_lay_293 : decode cX12_lay 293 = .ok (.iaload, 1) := dk_iaload (by decide +kernel)
theorem dX12_lay_294 : decode cX12_lay 294 = .ok (.iload_n 2, 1) := dk_iload_n_2 (by decide +kernel)
theorem dX12_lay_295 : decode cX12_lay 295 = .ok (.ifCond .ne 12, 3) := dk_ifCond_ne 12 (b1 := 0) (b2 := 12) (by decide +kernel) (by decide +kernel) (by decide +kernel) (by decide +kernel)
theorem dX12_lay_307 : decode cX12_lay 307 = .ok (.aload_n 0, 1) := dk_aload_n_0 (by decide +kernel)
theorem dX12_lay_308 : decode cX12_lay 308 = .ok (.getfield 82, 3) := dk_getfield 82 (b1 := 0) (b2 := 82) (by decide +kernel) (by decide +kernel) (by decide +kernel) (by decide +kernel)
theorem dX12_lay_311 : decode cX12_lay 311 = .ok (.iconst 0, 1) := dk_iconst_0 (by decide +kernel)
theorem dX12_lay_312 : decode cX12_lay 312 = .ok (.iaload, 1) := dk_iaload (by decide +kernel)
theorem dX12_lay_313 : decode cX12_lay 313 = .ok (.invokevirtual 289, 3) := dk_invokevirtual 289 (b1 := 1) (b2 := 33) (by decide +kernel) (by decide +kernel) (by decide +kernel) (by decide +kernel)
theorem dX12_lay_316 : decode cX12_lay 316 = .ok (.return_, 1) := dk_return_ (by decide +kernel)
theorem dX12_lay_298 : decode cX12_lay 298 = .ok (.aload_n 0, 1) := dk_aload_n_0 (by decide +kernel)
theorem dX12_lay_299 : decode cX12_lay 299 = .ok (.getfield 85, 3) := dk_getfield 85 (b1 := 0) (b2 := 85) (by decide +kernel) (by decide +kernel) (by decide +kernel) (by decide +kernel)
theorem dX12_lay_302 : decode cX12_lay 302 = .ok (.iconst 0, 1) := dk_iconst_0 (by decide +kernel)
theorem dX12_lay_303 : decode cX12_lay 303 = .ok (.iaload, 1) := dk_iaload (by decide +kernel)
theorem dX12_lay_304 : decode cX12_lay 304 = .ok (.goto 9, 3) := dk_goto 9 (b1 := 0) (b2 := 9) (by decide +kernel) (by decide +kernel) (by decide +kernel) (by decide +kernel)
set_option maxRecDepth 20000 in
theorem vX12_lay_284 {E : sm_E} {L : sm_S → Prop} {d : Nat} {vs : List Value} {x2 : Int32} {s1 : Int32} {s2 : Int32}  {m : sm_M} {Q : sm_M → Prop} (hly : ∀ S, L S → ly S) (hd : 3 ≤ d) 
  (h : sm_callV E L mX12_ties 1 0 0 [.ref (sm_B E + 109), .int s1, .int s2] m (fun m_1 =>
   (¬ x2 = 0 →
      sm_callV E L mX12_ties 1 0 0 [.ref (sm_B E + 109), .int (m_1.1 134 (0 : Int32).toNatClampNeg), .int (m_1.1 132 (0 : Int32).toNatClampNeg)] m_1 (fun m_2 =>
      Q m_2)) ∧
   (x2 = 0 →
      sm_callV E L mX12_ties 1 0 0 [.ref (sm_B E + 109), .int (m_1.1 134 (0 : Int32).toNatClampNeg), .int (m_1.1 133 (0 : Int32).toNatClampNeg)] m_1 (fun m_3 =>
      Q m_3)))) :
  gX12_lay_284 E L d vs x2 s1 s2 m Q := by
  refine sm_iv_V (Y := mX12_lay) (pc := 284) (As := [.int s1, .int s2]) (a := 109) fX12_ties wRX12_289 (lk_109 hly) (by decide) rfl rfl rfl (Nat.le_trans (by decide) hd) (Nat.le_of_ble_eq_true rfl) ⟨Nat.le_refl _, Nat.le_refl _⟩ dX12_lay_284 rfl (sm_monoV h (fun m_1 h => ?_))
  refine sm_aload_n (Y := mX12_lay) (pc := 287) 0 0 rfl rfl dX12_lay_287 ?_
  refine sm_aload_n (Y := mX12_lay) (pc := 288) 0 0 rfl rfl dX12_lay_288 ?_
  refine gf_RX12_88 (Y := mX12_lay) (pc := 289) (b := 134) rfl ((lk_109 hly) _) (lf_109_43 hly _) dX12_lay_289 ?_
  refine sm_iconst (Y := mX12_lay) (pc := 292) 0 (by decide) dX12_lay_292 ?_
  refine sm_iald (Y := mX12_lay) (pc := 293) (la_134 hly _) (sm_lin (by decide)) dX12_lay_293 ?_
  refine sm_iload_n (Y := mX12_lay) (pc := 294) 1 2 rfl rfl dX12_lay_294 ?_
  refine sm_if_ne (Y := mX12_lay) (pc := 295) 307 (by decide) dX12_lay_295 (fun hc => ?_) (fun hc => ?_)
  · replace h := h.1 hc
    refine sm_aload_n (Y := mX12_lay) (pc := 307) 0 0 rfl rfl dX12_lay_307 ?_
    refine gf_RX12_82 (Y := mX12_lay) (pc := 308) (b := 132) rfl ((lk_109 hly) _) (lf_109_41 hly _) dX12_lay_308 ?_
    refine sm_iconst (Y := mX12_lay) (pc := 311) 0 (by decide) dX12_lay_311 ?_
    refine sm_iald (Y := mX12_lay) (pc := 312) (la_132 hly _) (sm_lin (by decide)) dX12_lay_312 ?_
    refine sm_iv_V (Y := mX12_lay) (pc := 313) (As := [.int (m_1.1 134 (0 : Int32).toNatClampNeg), .int (m_1.1 132 (0 : Int32).toNatClampNeg)]) (a := 109) fX12_ties wRX12_289 (lk_109 hly) (by decide) rfl rfl rfl (Nat.le_trans (by decide) hd) (Nat.le_of_ble_eq_true rfl) ⟨Nat.le_refl _, Nat.le_refl _⟩ dX12_lay_313 rfl (sm_monoV h (fun m_2 h => ?_))
    exact sm_vret (Y := mX12_lay) (pc := 316) rfl rfl rfl dX12_lay_316 ⟨rfl, h⟩
  · replace h := h.2 hc
    refine sm_aload_n (Y := mX12_lay) (pc := 298) 0 0 rfl rfl dX12_lay_298 ?_
    refine gf_RX12_85 (Y := mX12_lay) (pc := 299) (b := 133) rfl ((lk_109 hly) _) (lf_109_42 hly _) dX12_lay_299 ?_
    refine sm_iconst (Y := mX12_lay) (pc := 302) 0 (by decide) dX12_lay_302 ?_
    refine sm_iald (Y := mX12_lay) (pc := 303) (la_133 hly _) (sm_lin (by decide)) dX12_lay_303 ?_
    refine sm_goto (Y := mX12_lay) (pc := 304) 313 (by decide) dX12_lay_304 ?_
    refine sm_iv_V (Y := mX12_lay) (pc := 313) (As := [.int (m_1.1 134 (0 : Int32).toNatClampNeg), .int (m_1.1 133 (0 : Int32).toNatClampNeg)]) (a := 109) fX12_ties wRX12_289 (lk_109 hly) (by decide) rfl rfl rfl (Nat.le_trans (by decide) hd) (Nat.le_of_ble_eq_true rfl) ⟨Nat.le_refl _, Nat.le_refl _⟩ dX12_lay_313 rfl (sm_monoV h (fun m_3 h => ?_))
    exact sm_vret (Y := mX12_lay) (pc := 316) rfl rfl rfl dX12_lay_316 ⟨rfl, h⟩
theorem dX12_lay_238 : decode cX12_lay 238 = .ok (.aload_n 0, 1) := dk_aload_n_0 (by decide +kernel)
theorem dX12_lay_239 : decode cX12_lay 239 = .ok (.getfield 88, 3) := dk_getfield 88 (b1 := 0) (b2 := 88) (by decide +kernel) (by decide +kernel) (by decide +kernel) (by decide +kernel)
theorem dX12_lay_242 : decode cX12_lay 242 = .ok (.iload_n 3, 1) := dk_iload_n_3 (by decide +kernel)
theorem dX12_lay_243 : decode cX12_lay 243 = .ok (.iconst 1, 1) := dk_iconst_1 (by decide +kernel)
theorem dX12_lay_244 : decode cX12_lay 244 = .ok (.isub, 1) := dk_isub (by decide +kernel)
theorem dX12_lay_245 : decode cX12_lay 245 = .ok (.aload_n 0, 1) := dk_aload_n_0 (by decide +kernel)
theorem dX12_lay_246 : decode cX12_lay 246 = .ok (.getfield 88, 3) := dk_getfield 88 (b1 := 0) (b2 := 88) (by decide +kernel) (by decide +kernel) (by decide +kernel) (by decide +kernel)
theorem dX12_lay_249 : decode cX12_lay 249 = .ok (.iload_n 3, 1) := dk_iload_n_3 (by decide +kernel)
theorem dX12_lay_250 : decode cX12_lay 250 = .ok (.iaload, 1) := dk_iaload (by decide +kernel)
theorem dX12_lay_251 : decode cX12_lay 251 = .ok (.iastore, 1) := dk_iastore (by decide +kernel)
theorem dX12_lay_252 : decode cX12_lay 252 = .ok (.iinc 4 1, 3) := dk_iinc 4 1 (b1 := 4) (b2 := 1) (by decide +kernel) (by decide +kernel) (by decide +kernel) (by decide +kernel) (by decide +kernel)
theorem dX12_lay_255 : decode cX12_lay 255 = .ok (.goto (-240), 3) := dk_goto (-240) (b1 := 255) (b2 := 16) (by decide +kernel) (by decide +kernel) (by decide +kernel) (by decide +kernel)
set_option maxRecDepth 20000 in
theorem vX12_lay_238 {E : sm_E} {L : sm_S → Prop} {d : Nat} {vs : List Value} {x1 : Int32} {x2 : Int32} {x3 : Int32} {x4 : Int32}  {m : sm_M} {Q : sm_M → Prop} (hly : ∀ S, L S → ly S) (hd : 3 ≤ d) 
  (h : (vp_in x3 64) ∧ (vp_in (x3 - 1) 64) ∧ ∀ m_2 : sm_M, m_2 = sm_wI m 134 (x3 - 1).toNatClampNeg (m.1 134 x3.toNatClampNeg) →
   ∀ x4_4 : Int32, x4_4 = x4 + 1 →
   gX12_lay_15 E L d vs x1 x2 x3 x4_4 m_2 Q) :
  gX12_lay_238 E L d vs x1 x2 x3 x4 m Q := by
  refine sm_aload_n (Y := mX12_lay) (pc := 238) 0 0 rfl rfl dX12_lay_238 ?_
  refine gf_RX12_88 (Y := mX12_lay) (pc := 239) (b := 134) rfl ((lk_109 hly) _) (lf_109_43 hly _) dX12_lay_239 ?_
  refine sm_iload_n (Y := mX12_lay) (pc := 242) 3 3 rfl rfl dX12_lay_242 ?_
  refine sm_iconst (Y := mX12_lay) (pc := 243) 1 (by decide) dX12_lay_243 ?_
  refine sm_isub (Y := mX12_lay) (pc := 244) dX12_lay_244 ?_
  refine sm_aload_n (Y := mX12_lay) (pc := 245) 0 0 rfl rfl dX12_lay_245 ?_
  refine gf_RX12_88 (Y := mX12_lay) (pc := 246) (b := 134) rfl ((lk_109 hly) _) (lf_109_43 hly _) dX12_lay_246 ?_
  refine sm_iload_n (Y := mX12_lay) (pc := 249) 3 3 rfl rfl dX12_lay_249 ?_
  obtain ⟨hn_1, h⟩ := h
  refine sm_iald (Y := mX12_lay) (pc := 250) (la_134 hly _) hn_1 dX12_lay_250 ?_
  obtain ⟨hn_3, h⟩ := h
  refine sm_iast (Y := mX12_lay) (pc := 251) (la_134 hly _) hn_3 dX12_lay_251 (fun m_2 em_2 => ?_)
  replace h := h m_2 em_2
  refine sm_iinc (Y := mX12_lay) (pc := 252) (fun y => [(4, .int y), (0, .ref (sm_B E + 109)), (1, .int x1), (2, .int x2), (3, .int x3)]) 4 4 rfl (by decide) (fun _ => rfl) dX12_lay_252 (fun x4_4 ex4_4 => ?_)
  replace h := h x4_4 ex4_4
  refine sm_goto (Y := mX12_lay) (pc := 255) 15 (by decide) dX12_lay_255 ?_
  refine sm_sub [1, 2, 3, 4, 0] rfl ?_
  exact h
theorem dX12_lay_197 : decode cX12_lay 197 = .ok (.invokevirtual 289, 3) := dk_invokevirtual 289 (b1 := 1) (b2 := 33) (by decide +kernel) (by decide +kernel) (by decide +kernel) (by decide +kernel)
theorem dX12_lay_200 : decode cX12_lay 200 = .ok (.iload 5, 2) := dk_iload 5 (b := 5) (by decide +kernel) (by decide +kernel) (by decide +kernel)
theorem dX12_lay_202 : decode cX12_lay 202 = .ok (.bipush 20, 2) := dk_bipush 20 (b := 20) (by decide +kernel) (by decide +kernel) (by decide +kernel)
theorem dX12_lay_204 : decode cX12_lay 204 = .ok (.if_icmp .ne 20, 3) := dk_if_icmp_ne 20 (b1 := 0) (b2 := 20) (by decide +kernel) (by decide +kernel) (by decide +kernel) (by decide +kernel)
theorem dX12_lay_224 : decode cX12_lay 224 = .ok (.aload_n 0, 1) := dk_aload_n_0 (by decide +kernel)
theorem dX12_lay_225 : decode cX12_lay 225 = .ok (.getfield 85, 3) := dk_getfield 85 (b1 := 0) (b2 := 85) (by decide +kernel) (by decide +kernel) (by decide +kernel) (by decide +kernel)
theorem dX12_lay_228 : decode cX12_lay 228 = .ok (.iload_n 3, 1) := dk_iload_n_3 (by decide +kernel)
theorem dX12_lay_229 : decode cX12_lay 229 = .ok (.iconst 1, 1) := dk_iconst_1 (by decide +kernel)
theorem dX12_lay_230 : decode cX12_lay 230 = .ok (.isub, 1) := dk_isub (by decide +kernel)
theorem dX12_lay_231 : decode cX12_lay 231 = .ok (.aload_n 0, 1) := dk_aload_n_0 (by decide +kernel)
theorem dX12_lay_232 : decode cX12_lay 232 = .ok (.getfield 85, 3) := dk_getfield 85 (b1 := 0) (b2 := 85) (by decide +kernel) (by decide +kernel) (by decide +kernel) (by decide +kernel)
theorem dX12_lay_235 : decode cX12_lay 235 = .ok (.iload_n 3, 1) := dk_iload_n_3 (by decide +kernel)
theorem dX12_lay_236 : decode cX12_lay 236 = .ok (.iaload, 1) := dk_iaload (by decide +kernel)
theorem dX12_lay_237 : decode cX12_lay 237 = .ok (.iastore, 1) := dk_iastore (by decide +kernel)
theorem dX12_lay_207 : decode cX12_lay 207 = .ok (.aload_n 0, 1) := dk_aload_n_0 (by decide +kernel)
theorem dX12_lay_208 : decode cX12_lay 208 = .ok (.getfield 82, 3) := dk_getfield 82 (b1 := 0) (b2 := 82) (by decide +kernel) (by decide +kernel) (by decide +kernel) (by decide +kernel)
theorem dX12_lay_211 : decode cX12_lay 211 = .ok (.iload_n 3, 1) := dk_iload_n_3 (by decide +kernel)
theorem dX12_lay_212 : decode cX12_lay 212 = .ok (.iconst 1, 1) := dk_iconst_1 (by decide +kernel)
theorem dX12_lay_213 : decode cX12_lay 213 = .ok (.isub, 1) := dk_isub (by decide +kernel)
theorem dX12_lay_214 : decode cX12_lay 214 = .ok (.aload_n 0, 1) := dk_aload_n_0 (by decide +kernel)
theorem dX12_lay_215 : decode cX12_lay 215 = .ok (.getfield 82, 3) := dk_getfield 82 (b1 := 0) (b2 := 82) (by decide +kernel) (by decide +kernel) (by decide +kernel) (by decide +kernel)
theorem dX12_lay_218 : decode cX12_lay 218 = .ok (.iload_n 3, 1) := dk_iload_n_3 (by decide +kernel)
theorem dX12_lay_219 : decode cX12_lay 219 = .ok (.iaload, 1) := dk_iaload (by decide +kernel)
theorem dX12_lay_220 : decode cX12_lay 220 = .ok (.iastore, 1) := dk_iastore (by decide +kernel)
theorem dX12_lay_221 : decode cX12_lay 221 = .ok (.goto 17, 3) := dk_goto 17 (b1 := 0) (b2 := 17) (by decide +kernel) (by decide +kernel) (by decide +kernel) (by decide +kernel)
set_option maxRecDepth 20000 in
theorem vX12_lay_197 {E : sm_E} {L : sm_S → Prop} {d : Nat} {vs : List Value} {x1 : Int32} {x2 : Int32} {x3 : Int32} {x4 : Int32} {x5 : Int32} {s1 : Int32} {s2 : Int32}  {m : sm_M} {Q : sm_M → Prop} (hly : ∀ S, L S → ly S) (hd : 3 ≤ d) 
  (h : sm_callV E L mX12_ties 1 0 0 [.ref (sm_B E + 109), .int s1, .int s2] m (fun m_1 =>
   (¬ x5 = 20 →
      (vp_in x3 64) ∧ (vp_in (x3 - 1) 64) ∧ ∀ m_3 : sm_M, m_3 = sm_wI m_1 133 (x3 - 1).toNatClampNeg (m_1.1 133 x3.toNatClampNeg) →
      gX12_lay_238 E L d vs x1 x2 x3 x4 m_3 Q) ∧
   (x5 = 20 →
      (vp_in x3 64) ∧ (vp_in (x3 - 1) 64) ∧ ∀ m_6 : sm_M, m_6 = sm_wI m_1 132 (x3 - 1).toNatClampNeg (m_1.1 132 x3.toNatClampNeg) →
      gX12_lay_238 E L d vs x1 x2 x3 x4 m_6 Q))) :
  gX12_lay_197 E L d vs x1 x2 x3 x4 x5 s1 s2 m Q := by
  refine sm_iv_V (Y := mX12_lay) (pc := 197) (As := [.int s1, .int s2]) (a := 109) fX12_ties wRX12_289 (lk_109 hly) (by decide) rfl rfl rfl (Nat.le_trans (by decide) hd) (Nat.le_of_ble_eq_true rfl) ⟨Nat.le_refl _, Nat.le_refl _⟩ dX12_lay_197 rfl (sm_monoV h (fun m_1 h => ?_))
  refine sm_iload (Y := mX12_lay) (pc := 200) 5 5 rfl dX12_lay_200 ?_
  refine sm_bipush (Y := mX12_lay) (pc := 202) 20 (by decide) dX12_lay_202 ?_
  refine sm_icmp_ne (Y := mX12_lay) (pc := 204) 224 (by decide) dX12_lay_204 (fun hc => ?_) (fun hc => ?_)
  · replace h := h.1 hc
    refine sm_aload_n (Y := mX12_lay) (pc := 224) 0 0 rfl rfl dX12_lay_224 ?_
    refine gf_RX12_85 (Y := mX12_lay) (pc := 225) (b := 133) rfl ((lk_109 hly) _) (lf_109_42 hly _) dX12_lay_225 ?_
    refine sm_iload_n (Y := mX12_lay) (pc := 228) 3 3 rfl rfl dX12_lay_228 ?_
    refine sm_iconst (Y := mX12_lay) (pc := 229) 1 (by decide) dX12_lay_229 ?_
    refine sm_isub (Y := mX12_lay) (pc := 230) dX12_lay_230 ?_
    refine sm_aload_n (Y := mX12_lay) (pc := 231) 0 0 rfl rfl dX12_lay_231 ?_
    refine gf_RX12_85 (Y := mX12_lay) (pc := 232) (b := 133) rfl ((lk_109 hly) _) (lf_109_42 hly _) dX12_lay_232 ?_
    refine sm_iload_n (Y := mX12_lay) (pc := 235) 3 3 rfl rfl dX12_lay_235 ?_
    obtain ⟨hn_2, h⟩ := h
    refine sm_iald (Y := mX12_lay) (pc := 236) (la_133 hly _) hn_2 dX12_lay_236 ?_
    obtain ⟨hn_4, h⟩ := h
    refine sm_iast (Y := mX12_lay) (pc := 237) (la_133 hly _) hn_4 dX12_lay_237 (fun m_3 em_3 => ?_)
    replace h := h m_3 em_3
    refine sm_sub [0, 1, 2, 3, 4] rfl ?_
    exact h
  · replace h := h.2 hc
    refine sm_aload_n (Y := mX12_lay) (pc := 207) 0 0 rfl rfl dX12_lay_207 ?_
    refine gf_RX12_82 (Y := mX12_lay) (pc := 208) (b := 132) rfl ((lk_109 hly) _) (lf_109_41 hly _) dX12_lay_208 ?_
    refine sm_iload_n (Y := mX12_lay) (pc := 211) 3 3 rfl rfl dX12_lay_211 ?_
    refine sm_iconst (Y := mX12_lay) (pc := 212) 1 (by decide) dX12_lay_212 ?_
    refine sm_isub (Y := mX12_lay) (pc := 213) dX12_lay_213 ?_
    refine sm_aload_n (Y := mX12_lay) (pc := 214) 0 0 rfl rfl dX12_lay_214 ?_
    refine gf_RX12_82 (Y := mX12_lay) (pc := 215) (b := 132) rfl ((lk_109 hly) _) (lf_109_41 hly _) dX12_lay_215 ?_
    refine sm_iload_n (Y := mX12_lay) (pc := 218) 3 3 rfl rfl dX12_lay_218 ?_
    obtain ⟨hn_5, h⟩ := h
    refine sm_iald (Y := mX12_lay) (pc := 219) (la_132 hly _) hn_5 dX12_lay_219 ?_
    obtain ⟨hn_7, h⟩ := h
    refine sm_iast (Y := mX12_lay) (pc := 220) (la_132 hly _) hn_7 dX12_lay_220 (fun m_6 em_6 => ?_)
    replace h := h m_6 em_6
    refine sm_goto (Y := mX12_lay) (pc := 221) 238 (by decide) dX12_lay_221 ?_
    refine sm_sub [0, 1, 2, 3, 4] rfl ?_
    exact h
theorem dX12_lay_157 : decode cX12_lay 157 = .ok (.aload_n 0, 1) := dk_aload_n_0 (by decide +kernel)
theorem dX12_lay_158 : decode cX12_lay 158 = .ok (.getfield 79, 3) := dk_getfield 79 (b1 := 0) (b2 := 79) (by decide +kernel) (by decide +kernel) (by decide +kernel) (by decide +kernel)
theorem dX12_lay_161 : decode cX12_lay 161 = .ok (.iload_n 3, 1) := dk_iload_n_3 (by decide +kernel)
theorem dX12_lay_162 : decode cX12_lay 162 = .ok (.iaload, 1) := dk_iaload (by decide +kernel)
theorem dX12_lay_163 : decode cX12_lay 163 = .ok (.invokevirtual 289, 3) := dk_invokevirtual 289 (b1 := 1) (b2 := 33) (by decide +kernel) (by decide +kernel) (by decide +kernel) (by decide +kernel)
theorem dX12_lay_166 : decode cX12_lay 166 = .ok (.aload_n 0, 1) := dk_aload_n_0 (by decide +kernel)
theorem dX12_lay_167 : decode cX12_lay 167 = .ok (.aload_n 0, 1) := dk_aload_n_0 (by decide +kernel)
theorem dX12_lay_168 : decode cX12_lay 168 = .ok (.getfield 88, 3) := dk_getfield 88 (b1 := 0) (b2 := 88) (by decide +kernel) (by decide +kernel) (by decide +kernel) (by decide +kernel)
theorem dX12_lay_171 : decode cX12_lay 171 = .ok (.iload_n 3, 1) := dk_iload_n_3 (by decide +kernel)
theorem dX12_lay_172 : decode cX12_lay 172 = .ok (.iconst 1, 1) := dk_iconst_1 (by decide +kernel)
theorem dX12_lay_173 : decode cX12_lay 173 = .ok (.isub, 1) := dk_isub (by decide +kernel)
theorem dX12_lay_174 : decode cX12_lay 174 = .ok (.iaload, 1) := dk_iaload (by decide +kernel)
theorem dX12_lay_175 : decode cX12_lay 175 = .ok (.iload 5, 2) := dk_iload 5 (b := 5) (by decide +kernel) (by decide +kernel) (by decide +kernel)
theorem dX12_lay_177 : decode cX12_lay 177 = .ok (.bipush 20, 2) := dk_bipush 20 (b := 20) (by decide +kernel) (by decide +kernel) (by decide +kernel)
theorem dX12_lay_179 : decode cX12_lay 179 = .ok (.if_icmp .ne 12, 3) := dk_if_icmp_ne 12 (b1 := 0) (b2 := 12) (by decide +kernel) (by decide +kernel) (by decide +kernel) (by decide +kernel)
theorem dX12_lay_191 : decode cX12_lay 191 = .ok (.aload_n 0, 1) := dk_aload_n_0 (by decide +kernel)
theorem dX12_lay_192 : decode cX12_lay 192 = .ok (.getfield 82, 3) := dk_getfield 82 (b1 := 0) (b2 := 82) (by decide +kernel) (by decide +kernel) (by decide +kernel) (by decide +kernel)
theorem dX12_lay_195 : decode cX12_lay 195 = .ok (.iload_n 3, 1) := dk_iload_n_3 (by decide +kernel)
theorem dX12_lay_196 : decode cX12_lay 196 = .ok (.iaload, 1) := dk_iaload (by decide +kernel)
theorem dX12_lay_182 : decode cX12_lay 182 = .ok (.aload_n 0, 1) := dk_aload_n_0 (by decide +kernel)
theorem dX12_lay_183 : decode cX12_lay 183 = .ok (.getfield 85, 3) := dk_getfield 85 (b1 := 0) (b2 := 85) (by decide +kernel) (by decide +kernel) (by decide +kernel) (by decide +kernel)
theorem dX12_lay_186 : decode cX12_lay 186 = .ok (.iload_n 3, 1) := dk_iload_n_3 (by decide +kernel)
theorem dX12_lay_187 : decode cX12_lay 187 = .ok (.iaload, 1) := dk_iaload (by decide +kernel)
theorem dX12_lay_188 : decode cX12_lay 188 = .ok (.goto 9, 3) := dk_goto 9 (b1 := 0) (b2 := 9) (by decide +kernel) (by decide +kernel) (by decide +kernel) (by decide +kernel)
set_option maxRecDepth 20000 in
theorem vX12_lay_157 {E : sm_E} {L : sm_S → Prop} {d : Nat} {vs : List Value} {x1 : Int32} {x2 : Int32} {x3 : Int32} {x4 : Int32} {x5 : Int32} {s1 : Int32}  {m : sm_M} {Q : sm_M → Prop} (hly : ∀ S, L S → ly S) (hd : 3 ≤ d) 
  (h : (vp_in x3 64) ∧ sm_callV E L mX12_ties 1 0 0 [.ref (sm_B E + 109), .int s1, .int (m.1 131 x3.toNatClampNeg)] m (fun m_2 =>
   (vp_in (x3 - 1) 64) ∧ (¬ x5 = 20 →
      (vp_in x3 64) ∧ gX12_lay_197 E L d vs x1 x2 x3 x4 x5 (m_2.1 134 (x3 - 1).toNatClampNeg) (m_2.1 132 x3.toNatClampNeg) m_2 Q) ∧
   (x5 = 20 →
      (vp_in x3 64) ∧ gX12_lay_197 E L d vs x1 x2 x3 x4 x5 (m_2.1 134 (x3 - 1).toNatClampNeg) (m_2.1 133 x3.toNatClampNeg) m_2 Q))) :
  gX12_lay_157 E L d vs x1 x2 x3 x4 x5 s1 m Q := by
  refine sm_aload_n (Y := mX12_lay) (pc := 157) 0 0 rfl rfl dX12_lay_157 ?_
  refine gf_RX12_79 (Y := mX12_lay) (pc := 158) (b := 131) rfl ((lk_109 hly) _) (lf_109_40 hly _) dX12_lay_158 ?_
  refine sm_iload_n (Y := mX12_lay) (pc := 161) 3 3 rfl rfl dX12_lay_161 ?_
  obtain ⟨hn_1, h⟩ := h
  refine sm_iald (Y := mX12_lay) (pc := 162) (la_131 hly _) hn_1 dX12_lay_162 ?_
  refine sm_iv_V (Y := mX12_lay) (pc := 163) (As := [.int s1, .int (m.1 131 x3.toNatClampNeg)]) (a := 109) fX12_ties wRX12_289 (lk_109 hly) (by decide) rfl rfl rfl (Nat.le_trans (by decide) hd) (Nat.le_of_ble_eq_true rfl) ⟨Nat.le_refl _, Nat.le_refl _⟩ dX12_lay_163 rfl (sm_monoV h (fun m_2 h => ?_))
  refine sm_aload_n (Y := mX12_lay) (pc := 166) 0 0 rfl rfl dX12_lay_166 ?_
  refine sm_aload_n (Y := mX12_lay) (pc := 167) 0 0 rfl rfl dX12_lay_167 ?_
  refine gf_RX12_88 (Y := mX12_lay) (pc := 168) (b := 134) rfl ((lk_109 hly) _) (lf_109_43 hly _) dX12_lay_168 ?_
  refine sm_iload_n (Y := mX12_lay) (pc := 171) 3 3 rfl rfl dX12_lay_171 ?_
  refine sm_iconst (Y := mX12_lay) (pc := 172) 1 (by decide) dX12_lay_172 ?_
  refine sm_isub (Y := mX12_lay) (pc := 173) dX12_lay_173 ?_
  obtain ⟨hn_3, h⟩ := h
  refine sm_iald (Y := mX12_lay) (pc := 174) (la_134 hly _) hn_3 dX12_lay_174 ?_
  refine sm_iload (Y := mX12_lay) (pc := 175) 5 5 rfl dX12_lay_175 ?_
  refine sm_bipush (Y := mX12_lay) (pc := 177) 20 (by decide) dX12_lay_177 ?_
  refine sm_icmp_ne (Y := mX12_lay) (pc := 179) 191 (by decide) dX12_lay_179 (fun hc => ?_) (fun hc => ?_)
  · replace h := h.1 hc
    refine sm_aload_n (Y := mX12_lay) (pc := 191) 0 0 rfl rfl dX12_lay_191 ?_
    refine gf_RX12_82 (Y := mX12_lay) (pc := 192) (b := 132) rfl ((lk_109 hly) _) (lf_109_41 hly _) dX12_lay_192 ?_
    refine sm_iload_n (Y := mX12_lay) (pc := 195) 3 3 rfl rfl dX12_lay_195 ?_
    obtain ⟨hn_4, h⟩ := h
    refine sm_iald (Y := mX12_lay) (pc := 196) (la_132 hly _) hn_4 dX12_lay_196 ?_
    exact h
  · replace h := h.2 hc
    refine sm_aload_n (Y := mX12_lay) (pc := 182) 0 0 rfl rfl dX12_lay_182 ?_
    refine gf_RX12_85 (Y := mX12_lay) (pc := 183) (b := 133) rfl ((lk_109 hly) _) (lf_109_42 hly _) dX12_lay_183 ?_
    refine sm_iload_n (Y := mX12_lay) (pc := 186) 3 3 rfl rfl dX12_lay_186 ?_
    obtain ⟨hn_5, h⟩ := h
    refine sm_iald (Y := mX12_lay) (pc := 187) (la_133 hly _) hn_5 dX12_lay_187 ?_
    refine sm_goto (Y := mX12_lay) (pc := 188) 197 (by decide) dX12_lay_188 ?_
    exact h
theorem dX12_lay_94 : decode cX12_lay 94 = .ok (.iload 6, 2) := dk_iload 6 (b := 6) (by decide +kernel) (by decide +kernel) (by decide +kernel)
theorem dX12_lay_96 : decode cX12_lay 96 = .ok (.aload_n 0, 1) := dk_aload_n_0 (by decide +kernel)
theorem dX12_lay_97 : decode cX12_lay 97 = .ok (.getfield 286, 3) := dk_getfield 286 (b1 := 1) (b2 := 30) (by decide +kernel) (by decide +kernel) (by decide +kernel) (by decide +kernel)
theorem dX12_lay_100 : decode cX12_lay 100 = .ok (.if_icmp .ge 24, 3) := dk_if_icmp_ge 24 (b1 := 0) (b2 := 24) (by decide +kernel) (by decide +kernel) (by decide +kernel) (by decide +kernel)
theorem dX12_lay_124 : decode cX12_lay 124 = .ok (.goto 128, 3) := dk_goto 128 (b1 := 0) (b2 := 128) (by decide +kernel) (by decide +kernel) (by decide +kernel) (by decide +kernel)
theorem dX12_lay_103 : decode cX12_lay 103 = .ok (.aload_n 0, 1) := dk_aload_n_0 (by decide +kernel)
theorem dX12_lay_104 : decode cX12_lay 104 = .ok (.getfield 76, 3) := dk_getfield 76 (b1 := 0) (b2 := 76) (by decide +kernel) (by decide +kernel) (by decide +kernel) (by decide +kernel)
theorem dX12_lay_107 : decode cX12_lay 107 = .ok (.iload 6, 2) := dk_iload 6 (b := 6) (by decide +kernel) (by decide +kernel) (by decide +kernel)
theorem dX12_lay_109 : decode cX12_lay 109 = .ok (.aload_n 0, 1) := dk_aload_n_0 (by decide +kernel)
theorem dX12_lay_110 : decode cX12_lay 110 = .ok (.getfield 76, 3) := dk_getfield 76 (b1 := 0) (b2 := 76) (by decide +kernel) (by decide +kernel) (by decide +kernel) (by decide +kernel)
theorem dX12_lay_113 : decode cX12_lay 113 = .ok (.iload 6, 2) := dk_iload 6 (b := 6) (by decide +kernel) (by decide +kernel) (by decide +kernel)
theorem dX12_lay_115 : decode cX12_lay 115 = .ok (.iaload, 1) := dk_iaload (by decide +kernel)
theorem dX12_lay_116 : decode cX12_lay 116 = .ok (.ineg, 1) := dk_ineg (by decide +kernel)
theorem dX12_lay_117 : decode cX12_lay 117 = .ok (.iastore, 1) := dk_iastore (by decide +kernel)
theorem dX12_lay_118 : decode cX12_lay 118 = .ok (.iinc 6 1, 3) := dk_iinc 6 1 (b1 := 6) (b2 := 1) (by decide +kernel) (by decide +kernel) (by decide +kernel) (by decide +kernel) (by decide +kernel)
theorem dX12_lay_121 : decode cX12_lay 121 = .ok (.goto (-27), 3) := dk_goto (-27) (b1 := 255) (b2 := 229) (by decide +kernel) (by decide +kernel) (by decide +kernel) (by decide +kernel)
set_option maxRecDepth 20000 in
theorem vX12_lay_94 {E : sm_E} {L : sm_S → Prop} {d : Nat} {vs : List Value} {x1 : Int32} {x2 : Int32} {x3 : Int32} {x4 : Int32} {x6 : Int32}  {m : sm_M} {Q : sm_M → Prop} (hly : ∀ S, L S → ly S) (hd : 3 ≤ d) 
  (h : ((m.1 109 45) ≤ x6 →
      ∀ x4_1 : Int32, x4_1 = x4 + 1 →
      gX12_lay_15 E L d vs x1 x2 x3 x4_1 m Q) ∧
   (¬ (m.1 109 45) ≤ x6 →
      (vp_in x6 24) ∧ (vp_in x6 24) ∧ ∀ m_3 : sm_M, m_3 = sm_wI m 130 x6.toNatClampNeg (-(m.1 130 x6.toNatClampNeg)) →
      ∀ x6_5 : Int32, x6_5 = x6 + 1 →
      gX12_lay_94 E L d vs x1 x2 x3 x4 x6_5 m_3 Q)) :
  gX12_lay_94 E L d vs x1 x2 x3 x4 x6 m Q := by
  refine sm_iload (Y := mX12_lay) (pc := 94) 5 6 rfl dX12_lay_94 ?_
  refine sm_aload_n (Y := mX12_lay) (pc := 96) 0 0 rfl rfl dX12_lay_96 ?_
  refine gf_RX12_286 (Y := mX12_lay) (pc := 97) rfl ((lk_109 hly) _) dX12_lay_97 ?_
  refine sm_icmp_ge (Y := mX12_lay) (pc := 100) 124 (by decide) dX12_lay_100 (fun hc => ?_) (fun hc => ?_)
  · replace h := h.1 hc
    refine sm_goto (Y := mX12_lay) (pc := 124) 252 (by decide) dX12_lay_124 ?_
    refine sm_iinc (Y := mX12_lay) (pc := 252) (fun y => [(4, .int y), (0, .ref (sm_B E + 109)), (1, .int x1), (2, .int x2), (3, .int x3), (6, .int x6)]) 4 4 rfl (by decide) (fun _ => rfl) dX12_lay_252 (fun x4_1 ex4_1 => ?_)
    replace h := h x4_1 ex4_1
    refine sm_goto (Y := mX12_lay) (pc := 255) 15 (by decide) dX12_lay_255 ?_
    refine sm_sub [1, 2, 3, 4, 0] rfl ?_
    exact h
  · replace h := h.2 hc
    refine sm_aload_n (Y := mX12_lay) (pc := 103) 0 0 rfl rfl dX12_lay_103 ?_
    refine gf_RX12_76 (Y := mX12_lay) (pc := 104) (b := 130) rfl ((lk_109 hly) _) (lf_109_39 hly _) dX12_lay_104 ?_
    refine sm_iload (Y := mX12_lay) (pc := 107) 5 6 rfl dX12_lay_107 ?_
    refine sm_aload_n (Y := mX12_lay) (pc := 109) 0 0 rfl rfl dX12_lay_109 ?_
    refine gf_RX12_76 (Y := mX12_lay) (pc := 110) (b := 130) rfl ((lk_109 hly) _) (lf_109_39 hly _) dX12_lay_110 ?_
    refine sm_iload (Y := mX12_lay) (pc := 113) 5 6 rfl dX12_lay_113 ?_
    obtain ⟨hn_2, h⟩ := h
    refine sm_iald (Y := mX12_lay) (pc := 115) (la_130 hly _) hn_2 dX12_lay_115 ?_
    refine sm_ineg (Y := mX12_lay) (pc := 116) dX12_lay_116 ?_
    obtain ⟨hn_4, h⟩ := h
    refine sm_iast (Y := mX12_lay) (pc := 117) (la_130 hly _) hn_4 dX12_lay_117 (fun m_3 em_3 => ?_)
    replace h := h m_3 em_3
    refine sm_iinc (Y := mX12_lay) (pc := 118) (fun y => [(6, .int y), (0, .ref (sm_B E + 109)), (1, .int x1), (2, .int x2), (3, .int x3), (4, .int x4)]) 5 6 rfl (by decide) (fun _ => rfl) dX12_lay_118 (fun x6_5 ex6_5 => ?_)
    replace h := h x6_5 ex6_5
    refine sm_goto (Y := mX12_lay) (pc := 121) 94 (by decide) dX12_lay_121 ?_
    refine sm_sub [1, 2, 3, 4, 5, 0] rfl ?_
    exact h
theorem dX12_lay_15 : decode cX12_lay 15 = .ok (.iload 4, 2) := dk_iload 4 (b := 4) (by decide +kernel) (by decide +kernel) (by decide +kernel)
theorem dX12_lay_17 : decode cX12_lay 17 = .ok (.aload_n 0, 1) := dk_aload_n_0 (by decide +kernel)
theorem dX12_lay_18 : decode cX12_lay 18 = .ok (.getfield 16, 3) := dk_getfield 16 (b1 := 0) (b2 := 16) (by decide +kernel) (by decide +kernel) (by decide +kernel) (by decide +kernel)
theorem dX12_lay_21 : decode cX12_lay 21 = .ok (.iload_n 1, 1) := dk_iload_n_1 (by decide +kernel)
theorem dX12_lay_22 : decode cX12_lay 22 = .ok (.iaload, 1) := dk_iaload (by decide +kernel)
theorem dX12_lay_23 : decode cX12_lay 23 = .ok (.if_icmp .ge 235, 3) := dk_if_icmp_ge 235 (b1 := 0) (b2 := 235) (by decide +kernel) (by decide +kernel) (by decide +kernel) (by decide +kernel)
theorem dX12_lay_258 : decode cX12_lay 258 = .ok (.aload_n 0, 1) := dk_aload_n_0 (by decide +kernel)
theorem dX12_lay_259 : decode cX12_lay 259 = .ok (.aload_n 0, 1) := dk_aload_n_0 (by decide +kernel)
theorem dX12_lay_260 : decode cX12_lay 260 = .ok (.getfield 79, 3) := dk_getfield 79 (b1 := 0) (b2 := 79) (by decide +kernel) (by decide +kernel) (by decide +kernel) (by decide +kernel)
theorem dX12_lay_263 : decode cX12_lay 263 = .ok (.iconst 0, 1) := dk_iconst_0 (by decide +kernel)
theorem dX12_lay_264 : decode cX12_lay 264 = .ok (.iaload, 1) := dk_iaload (by decide +kernel)
theorem dX12_lay_265 : decode cX12_lay 265 = .ok (.iload_n 2, 1) := dk_iload_n_2 (by decide +kernel)
theorem dX12_lay_266 : decode cX12_lay 266 = .ok (.ifCond .ne 12, 3) := dk_ifCond_ne 12 (b1 := 0) (b2 := 12) (by decide +kernel) (by decide +kernel) (by decide +kernel) (by decide +kernel)
theorem dX12_lay_278 : decode cX12_lay 278 = .ok (.aload_n 0, 1) := dk_aload_n_0 (by decide +kernel)
theorem dX12_lay_279 : decode cX12_lay 279 = .ok (.getfield 85, 3) := dk_getfield 85 (b1 := 0) (b2 := 85) (by decide +kernel) (by decide +kernel) (by decide +kernel) (by decide +kernel)
theorem dX12_lay_282 : decode cX12_lay 282 = .ok (.iconst 0, 1) := dk_iconst_0 (by decide +kernel)
theorem dX12_lay_283 : decode cX12_lay 283 = .ok (.iaload, 1) := dk_iaload (by decide +kernel)
theorem dX12_lay_269 : decode cX12_lay 269 = .ok (.aload_n 0, 1) := dk_aload_n_0 (by decide +kernel)
theorem dX12_lay_270 : decode cX12_lay 270 = .ok (.getfield 82, 3) := dk_getfield 82 (b1 := 0) (b2 := 82) (by decide +kernel) (by decide +kernel) (by decide +kernel) (by decide +kernel)
theorem dX12_lay_273 : decode cX12_lay 273 = .ok (.iconst 0, 1) := dk_iconst_0 (by decide +kernel)
theorem dX12_lay_274 : decode cX12_lay 274 = .ok (.iaload, 1) := dk_iaload (by decide +kernel)
theorem dX12_lay_275 : decode cX12_lay 275 = .ok (.goto 9, 3) := dk_goto 9 (b1 := 0) (b2 := 9) (by decide +kernel) (by decide +kernel) (by decide +kernel) (by decide +kernel)
theorem dX12_lay_26 : decode cX12_lay 26 = .ok (.aload_n 0, 1) := dk_aload_n_0 (by decide +kernel)
theorem dX12_lay_27 : decode cX12_lay 27 = .ok (.getfield 13, 3) := dk_getfield 13 (b1 := 0) (b2 := 13) (by decide +kernel) (by decide +kernel) (by decide +kernel) (by decide +kernel)
theorem dX12_lay_30 : decode cX12_lay 30 = .ok (.bipush 60, 2) := dk_bipush 60 (b := 60) (by decide +kernel) (by decide +kernel) (by decide +kernel)
theorem dX12_lay_32 : decode cX12_lay 32 = .ok (.iload_n 1, 1) := dk_iload_n_1 (by decide +kernel)
theorem dX12_lay_33 : decode cX12_lay 33 = .ok (.imul, 1) := dk_imul (by decide +kernel)
theorem dX12_lay_34 : decode cX12_lay 34 = .ok (.iload 4, 2) := dk_iload 4 (b := 4) (by decide +kernel) (by decide +kernel) (by decide +kernel)
theorem dX12_lay_36 : decode cX12_lay 36 = .ok (.iadd, 1) := dk_iadd (by decide +kernel)
theorem dX12_lay_37 : decode cX12_lay 37 = .ok (.iaload, 1) := dk_iaload (by decide +kernel)
theorem dX12_lay_38 : decode cX12_lay 38 = .ok (.istore 5, 2) := dk_istore 5 (b := 5) (by decide +kernel) (by decide +kernel) (by decide +kernel)
theorem dX12_lay_40 : decode cX12_lay 40 = .ok (.iload 5, 2) := dk_iload 5 (b := 5) (by decide +kernel) (by decide +kernel) (by decide +kernel)
theorem dX12_lay_42 : decode cX12_lay 42 = .ok (.bipush 10, 2) := dk_bipush 10 (b := 10) (by decide +kernel) (by decide +kernel) (by decide +kernel)
theorem dX12_lay_44 : decode cX12_lay 44 = .ok (.if_icmp .gt 16, 3) := dk_if_icmp_gt 16 (b1 := 0) (b2 := 16) (by decide +kernel) (by decide +kernel) (by decide +kernel) (by decide +kernel)
theorem dX12_lay_60 : decode cX12_lay 60 = .ok (.iload 5, 2) := dk_iload 5 (b := 5) (by decide +kernel) (by decide +kernel) (by decide +kernel)
theorem dX12_lay_62 : decode cX12_lay 62 = .ok (.bipush 22, 2) := dk_bipush 22 (b := 22) (by decide +kernel) (by decide +kernel) (by decide +kernel)
theorem dX12_lay_64 : decode cX12_lay 64 = .ok (.if_icmp .ne 13, 3) := dk_if_icmp_ne 13 (b1 := 0) (b2 := 13) (by decide +kernel) (by decide +kernel) (by decide +kernel) (by decide +kernel)
theorem dX12_lay_77 : decode cX12_lay 77 = .ok (.iload 5, 2) := dk_iload 5 (b := 5) (by decide +kernel) (by decide +kernel) (by decide +kernel)
theorem dX12_lay_79 : decode cX12_lay 79 = .ok (.bipush 23, 2) := dk_bipush 23 (b := 23) (by decide +kernel) (by decide +kernel) (by decide +kernel)
theorem dX12_lay_81 : decode cX12_lay 81 = .ok (.if_icmp .ne 46, 3) := dk_if_icmp_ne 46 (b1 := 0) (b2 := 46) (by decide +kernel) (by decide +kernel) (by decide +kernel) (by decide +kernel)
theorem dX12_lay_127 : decode cX12_lay 127 = .ok (.iinc 3 (-1), 3) := dk_iinc 3 (-1) (b1 := 3) (b2 := 255) (by decide +kernel) (by decide +kernel) (by decide +kernel) (by decide +kernel) (by decide +kernel)
theorem dX12_lay_130 : decode cX12_lay 130 = .ok (.aload_n 0, 1) := dk_aload_n_0 (by decide +kernel)
theorem dX12_lay_131 : decode cX12_lay 131 = .ok (.iload 5, 2) := dk_iload 5 (b := 5) (by decide +kernel) (by decide +kernel) (by decide +kernel)
theorem dX12_lay_133 : decode cX12_lay 133 = .ok (.bipush 20, 2) := dk_bipush 20 (b := 20) (by decide +kernel) (by decide +kernel) (by decide +kernel)
theorem dX12_lay_135 : decode cX12_lay 135 = .ok (.if_icmp .ne 14, 3) := dk_if_icmp_ne 14 (b1 := 0) (b2 := 14) (by decide +kernel) (by decide +kernel) (by decide +kernel) (by decide +kernel)
theorem dX12_lay_149 : decode cX12_lay 149 = .ok (.aload_n 0, 1) := dk_aload_n_0 (by decide +kernel)
theorem dX12_lay_150 : decode cX12_lay 150 = .ok (.getfield 85, 3) := dk_getfield 85 (b1 := 0) (b2 := 85) (by decide +kernel) (by decide +kernel) (by decide +kernel) (by decide +kernel)
theorem dX12_lay_153 : decode cX12_lay 153 = .ok (.iload_n 3, 1) := dk_iload_n_3 (by decide +kernel)
theorem dX12_lay_154 : decode cX12_lay 154 = .ok (.iconst 1, 1) := dk_iconst_1 (by decide +kernel)
theorem dX12_lay_155 : decode cX12_lay 155 = .ok (.isub, 1) := dk_isub (by decide +kernel)
theorem dX12_lay_156 : decode cX12_lay 156 = .ok (.iaload, 1) := dk_iaload (by decide +kernel)
theorem dX12_lay_138 : decode cX12_lay 138 = .ok (.aload_n 0, 1) := dk_aload_n_0 (by decide +kernel)
theorem dX12_lay_139 : decode cX12_lay 139 = .ok (.getfield 82, 3) := dk_getfield 82 (b1 := 0) (b2 := 82) (by decide +kernel) (by decide +kernel) (by decide +kernel) (by decide +kernel)
theorem dX12_lay_142 : decode cX12_lay 142 = .ok (.iload_n 3, 1) := dk_iload_n_3 (by decide +kernel)
theorem dX12_lay_143 : decode cX12_lay 143 = .ok (.iconst 1, 1) := dk_iconst_1 (by decide +kernel)
theorem dX12_lay_144 : decode cX12_lay 144 = .ok (.isub, 1) := dk_isub (by decide +kernel)
theorem dX12_lay_145 : decode cX12_lay 145 = .ok (.iaload, 1) := dk_iaload (by decide +kernel)
theorem dX12_lay_146 : decode cX12_lay 146 = .ok (.goto 11, 3) := dk_goto 11 (b1 := 0) (b2 := 11) (by decide +kernel) (by decide +kernel) (by decide +kernel) (by decide +kernel)
theorem dX12_lay_84 : decode cX12_lay 84 = .ok (.aload_n 0, 1) := dk_aload_n_0 (by decide +kernel)
theorem dX12_lay_85 : decode cX12_lay 85 = .ok (.getfield 91, 3) := dk_getfield 91 (b1 := 0) (b2 := 91) (by decide +kernel) (by decide +kernel) (by decide +kernel) (by decide +kernel)
theorem dX12_lay_88 : decode cX12_lay 88 = .ok (.iload_n 3, 1) := dk_iload_n_3 (by decide +kernel)
theorem dX12_lay_89 : decode cX12_lay 89 = .ok (.iconst 1, 1) := dk_iconst_1 (by decide +kernel)
theorem dX12_lay_90 : decode cX12_lay 90 = .ok (.isub, 1) := dk_isub (by decide +kernel)
theorem dX12_lay_91 : decode cX12_lay 91 = .ok (.iaload, 1) := dk_iaload (by decide +kernel)
theorem dX12_lay_92 : decode cX12_lay 92 = .ok (.istore 6, 2) := dk_istore 6 (b := 6) (by decide +kernel) (by decide +kernel) (by decide +kernel)
theorem dX12_lay_67 : decode cX12_lay 67 = .ok (.aload_n 0, 1) := dk_aload_n_0 (by decide +kernel)
theorem dX12_lay_68 : decode cX12_lay 68 = .ok (.iload_n 3, 1) := dk_iload_n_3 (by decide +kernel)
theorem dX12_lay_69 : decode cX12_lay 69 = .ok (.iconst 1, 1) := dk_iconst_1 (by decide +kernel)
theorem dX12_lay_70 : decode cX12_lay 70 = .ok (.isub, 1) := dk_isub (by decide +kernel)
theorem wRX12_299 : Cond.methodLink RX12 299 yX12_turns ∈ sm_T := sm_in 1526 (by decide +kernel) (by decide +kernel)
theorem dX12_lay_71 : decode cX12_lay 71 = .ok (.invokevirtual 299, 3) := dk_invokevirtual 299 (b1 := 1) (b2 := 43) (by decide +kernel) (by decide +kernel) (by decide +kernel) (by decide +kernel)
theorem dX12_lay_74 : decode cX12_lay 74 = .ok (.goto 178, 3) := dk_goto 178 (b1 := 0) (b2 := 178) (by decide +kernel) (by decide +kernel) (by decide +kernel) (by decide +kernel)
theorem dX12_lay_47 : decode cX12_lay 47 = .ok (.aload_n 0, 1) := dk_aload_n_0 (by decide +kernel)
theorem dX12_lay_48 : decode cX12_lay 48 = .ok (.iload 5, 2) := dk_iload 5 (b := 5) (by decide +kernel) (by decide +kernel) (by decide +kernel)
theorem dX12_lay_50 : decode cX12_lay 50 = .ok (.iload_n 3, 1) := dk_iload_n_3 (by decide +kernel)
theorem wRX12_296 : Cond.methodLink RX12 296 yX12_layLeaf ∈ sm_T := sm_in 1518 (by decide +kernel) (by decide +kernel)
theorem dX12_lay_51 : decode cX12_lay 51 = .ok (.invokevirtual 296, 3) := dk_invokevirtual 296 (b1 := 1) (b2 := 40) (by decide +kernel) (by decide +kernel) (by decide +kernel) (by decide +kernel)
theorem dX12_lay_54 : decode cX12_lay 54 = .ok (.iinc 3 1, 3) := dk_iinc 3 1 (b1 := 3) (b2 := 1) (by decide +kernel) (by decide +kernel) (by decide +kernel) (by decide +kernel) (by decide +kernel)
theorem dX12_lay_57 : decode cX12_lay 57 = .ok (.goto 195, 3) := dk_goto 195 (b1 := 0) (b2 := 195) (by decide +kernel) (by decide +kernel) (by decide +kernel) (by decide +kernel)
set_option maxRecDepth 20000 in
theorem vX12_lay_15 {E : sm_E} {L : sm_S → Prop} {d : Nat} {vs : List Value} {x1 : Int32} {x2 : Int32} {x3 : Int32} {x4 : Int32}  {m : sm_M} {Q : sm_M → Prop} (hly : ∀ S, L S → ly S) (hd : 3 ≤ d) 
  (h : (vp_in x1 6) ∧ ((m.1 112 x1.toNatClampNeg) ≤ x4 →
      (¬ x2 = 0 →
         gX12_lay_284 E L d vs x2 (m.1 131 (0 : Int32).toNatClampNeg) (m.1 133 (0 : Int32).toNatClampNeg) m Q) ∧
      (x2 = 0 →
         gX12_lay_284 E L d vs x2 (m.1 131 (0 : Int32).toNatClampNeg) (m.1 132 (0 : Int32).toNatClampNeg) m Q)) ∧
   (¬ (m.1 112 x1.toNatClampNeg) ≤ x4 →
      (vp_in (((60 : Int32) * x1) + x4) 360) ∧ ∀ x5_3 : Int32, x5_3 = m.1 111 (((60 : Int32) * x1) + x4).toNatClampNeg →
      (10 < x5_3 →
         (¬ x5_3 = 22 →
            (¬ x5_3 = 23 →
               ∀ x3_4 : Int32, x3_4 = x3 + (-1) →
               (¬ x5_3 = 20 →
                  (vp_in (x3_4 - 1) 64) ∧ gX12_lay_157 E L d vs x1 x2 x3_4 x4 x5_3 (m.1 133 (x3_4 - 1).toNatClampNeg) m Q) ∧
               (x5_3 = 20 →
                  (vp_in (x3_4 - 1) 64) ∧ gX12_lay_157 E L d vs x1 x2 x3_4 x4 x5_3 (m.1 132 (x3_4 - 1).toNatClampNeg) m Q)) ∧
            (x5_3 = 23 →
               (vp_in (x3 - 1) 64) ∧ ∀ x6_8 : Int32, x6_8 = m.1 135 (x3 - 1).toNatClampNeg →
               gX12_lay_94 E L d vs x1 x2 x3 x4 x6_8 m Q)) ∧
         (x5_3 = 22 →
            sm_callV E L mX12_turns 1 0 0 [.ref (sm_B E + 109), .int (x3 - 1)] m (fun m_9 =>
            ∀ x4_10 : Int32, x4_10 = x4 + 1 →
            gX12_lay_15 E L d vs x1 x2 x3 x4_10 m_9 Q))) ∧
      (¬ 10 < x5_3 →
         sm_callV E L mX12_layLeaf 2 0 0 [.ref (sm_B E + 109), .int x5_3, .int x3] m (fun m_11 =>
         ∀ x3_12 : Int32, x3_12 = x3 + 1 →
         ∀ x4_13 : Int32, x4_13 = x4 + 1 →
         gX12_lay_15 E L d vs x1 x2 x3_12 x4_13 m_11 Q)))) :
  gX12_lay_15 E L d vs x1 x2 x3 x4 m Q := by
  refine sm_iload (Y := mX12_lay) (pc := 15) 4 4 rfl dX12_lay_15 ?_
  refine sm_aload_n (Y := mX12_lay) (pc := 17) 0 0 rfl rfl dX12_lay_17 ?_
  refine gf_RX12_16 (Y := mX12_lay) (pc := 18) (b := 112) rfl ((lk_109 hly) _) (lf_109_2 hly _) dX12_lay_18 ?_
  refine sm_iload_n (Y := mX12_lay) (pc := 21) 1 1 rfl rfl dX12_lay_21 ?_
  obtain ⟨hn_1, h⟩ := h
  refine sm_iald (Y := mX12_lay) (pc := 22) (la_112 hly _) hn_1 dX12_lay_22 ?_
  refine sm_icmp_ge (Y := mX12_lay) (pc := 23) 258 (by decide) dX12_lay_23 (fun hc => ?_) (fun hc => ?_)
  · replace h := h.1 hc
    refine sm_aload_n (Y := mX12_lay) (pc := 258) 0 0 rfl rfl dX12_lay_258 ?_
    refine sm_aload_n (Y := mX12_lay) (pc := 259) 0 0 rfl rfl dX12_lay_259 ?_
    refine gf_RX12_79 (Y := mX12_lay) (pc := 260) (b := 131) rfl ((lk_109 hly) _) (lf_109_40 hly _) dX12_lay_260 ?_
    refine sm_iconst (Y := mX12_lay) (pc := 263) 0 (by decide) dX12_lay_263 ?_
    refine sm_iald (Y := mX12_lay) (pc := 264) (la_131 hly _) (sm_lin (by decide)) dX12_lay_264 ?_
    refine sm_iload_n (Y := mX12_lay) (pc := 265) 2 2 rfl rfl dX12_lay_265 ?_
    refine sm_if_ne (Y := mX12_lay) (pc := 266) 278 (by decide) dX12_lay_266 (fun hc => ?_) (fun hc => ?_)
    · replace h := h.1 hc
      refine sm_aload_n (Y := mX12_lay) (pc := 278) 0 0 rfl rfl dX12_lay_278 ?_
      refine gf_RX12_85 (Y := mX12_lay) (pc := 279) (b := 133) rfl ((lk_109 hly) _) (lf_109_42 hly _) dX12_lay_279 ?_
      refine sm_iconst (Y := mX12_lay) (pc := 282) 0 (by decide) dX12_lay_282 ?_
      refine sm_iald (Y := mX12_lay) (pc := 283) (la_133 hly _) (sm_lin (by decide)) dX12_lay_283 ?_
      refine sm_sub [0, 2] rfl ?_
      exact h
    · replace h := h.2 hc
      refine sm_aload_n (Y := mX12_lay) (pc := 269) 0 0 rfl rfl dX12_lay_269 ?_
      refine gf_RX12_82 (Y := mX12_lay) (pc := 270) (b := 132) rfl ((lk_109 hly) _) (lf_109_41 hly _) dX12_lay_270 ?_
      refine sm_iconst (Y := mX12_lay) (pc := 273) 0 (by decide) dX12_lay_273 ?_
      refine sm_iald (Y := mX12_lay) (pc := 274) (la_132 hly _) (sm_lin (by decide)) dX12_lay_274 ?_
      refine sm_goto (Y := mX12_lay) (pc := 275) 284 (by decide) dX12_lay_275 ?_
      refine sm_sub [0, 2] rfl ?_
      exact h
  · replace h := h.2 hc
    refine sm_aload_n (Y := mX12_lay) (pc := 26) 0 0 rfl rfl dX12_lay_26 ?_
    refine gf_RX12_13 (Y := mX12_lay) (pc := 27) (b := 111) rfl ((lk_109 hly) _) (lf_109_1 hly _) dX12_lay_27 ?_
    refine sm_bipush (Y := mX12_lay) (pc := 30) 60 (by decide) dX12_lay_30 ?_
    refine sm_iload_n (Y := mX12_lay) (pc := 32) 1 1 rfl rfl dX12_lay_32 ?_
    refine sm_imul (Y := mX12_lay) (pc := 33) dX12_lay_33 ?_
    refine sm_iload (Y := mX12_lay) (pc := 34) 4 4 rfl dX12_lay_34 ?_
    refine sm_iadd (Y := mX12_lay) (pc := 36) dX12_lay_36 ?_
    obtain ⟨hn_2, h⟩ := h
    refine sm_iald (Y := mX12_lay) (pc := 37) (la_111 hly _) hn_2 dX12_lay_37 ?_
    refine sm_istore (Y := mX12_lay) (pc := 38) (fun y => [(5, .int y), (0, .ref (sm_B E + 109)), (1, .int x1), (2, .int x2), (3, .int x3), (4, .int x4)]) 5 (by decide) (fun _ => rfl) dX12_lay_38 (fun x5_3 ex5_3 => ?_)
    replace h := h x5_3 ex5_3
    refine sm_iload (Y := mX12_lay) (pc := 40) 0 5 rfl dX12_lay_40 ?_
    refine sm_bipush (Y := mX12_lay) (pc := 42) 10 (by decide) dX12_lay_42 ?_
    refine sm_icmp_gt (Y := mX12_lay) (pc := 44) 60 (by decide) dX12_lay_44 (fun hc => ?_) (fun hc => ?_)
    · replace h := h.1 hc
      refine sm_iload (Y := mX12_lay) (pc := 60) 0 5 rfl dX12_lay_60 ?_
      refine sm_bipush (Y := mX12_lay) (pc := 62) 22 (by decide) dX12_lay_62 ?_
      refine sm_icmp_ne (Y := mX12_lay) (pc := 64) 77 (by decide) dX12_lay_64 (fun hc => ?_) (fun hc => ?_)
      · replace h := h.1 hc
        refine sm_iload (Y := mX12_lay) (pc := 77) 0 5 rfl dX12_lay_77 ?_
        refine sm_bipush (Y := mX12_lay) (pc := 79) 23 (by decide) dX12_lay_79 ?_
        refine sm_icmp_ne (Y := mX12_lay) (pc := 81) 127 (by decide) dX12_lay_81 (fun hc => ?_) (fun hc => ?_)
        · replace h := h.1 hc
          refine sm_iinc (Y := mX12_lay) (pc := 127) (fun y => [(3, .int y), (5, .int x5_3), (0, .ref (sm_B E + 109)), (1, .int x1), (2, .int x2), (4, .int x4)]) 4 3 rfl (by decide) (fun _ => rfl) dX12_lay_127 (fun x3_4 ex3_4 => ?_)
          replace h := h x3_4 ex3_4
          refine sm_aload_n (Y := mX12_lay) (pc := 130) 2 0 rfl rfl dX12_lay_130 ?_
          refine sm_iload (Y := mX12_lay) (pc := 131) 1 5 rfl dX12_lay_131 ?_
          refine sm_bipush (Y := mX12_lay) (pc := 133) 20 (by decide) dX12_lay_133 ?_
          refine sm_icmp_ne (Y := mX12_lay) (pc := 135) 149 (by decide) dX12_lay_135 (fun hc => ?_) (fun hc => ?_)
          · replace h := h.1 hc
            refine sm_aload_n (Y := mX12_lay) (pc := 149) 2 0 rfl rfl dX12_lay_149 ?_
            refine gf_RX12_85 (Y := mX12_lay) (pc := 150) (b := 133) rfl ((lk_109 hly) _) (lf_109_42 hly _) dX12_lay_150 ?_
            refine sm_iload_n (Y := mX12_lay) (pc := 153) 0 3 rfl rfl dX12_lay_153 ?_
            refine sm_iconst (Y := mX12_lay) (pc := 154) 1 (by decide) dX12_lay_154 ?_
            refine sm_isub (Y := mX12_lay) (pc := 155) dX12_lay_155 ?_
            obtain ⟨hn_5, h⟩ := h
            refine sm_iald (Y := mX12_lay) (pc := 156) (la_133 hly _) hn_5 dX12_lay_156 ?_
            refine sm_sub [2, 3, 4, 0, 5, 1] rfl ?_
            exact h
          · replace h := h.2 hc
            refine sm_aload_n (Y := mX12_lay) (pc := 138) 2 0 rfl rfl dX12_lay_138 ?_
            refine gf_RX12_82 (Y := mX12_lay) (pc := 139) (b := 132) rfl ((lk_109 hly) _) (lf_109_41 hly _) dX12_lay_139 ?_
            refine sm_iload_n (Y := mX12_lay) (pc := 142) 0 3 rfl rfl dX12_lay_142 ?_
            refine sm_iconst (Y := mX12_lay) (pc := 143) 1 (by decide) dX12_lay_143 ?_
            refine sm_isub (Y := mX12_lay) (pc := 144) dX12_lay_144 ?_
            obtain ⟨hn_6, h⟩ := h
            refine sm_iald (Y := mX12_lay) (pc := 145) (la_132 hly _) hn_6 dX12_lay_145 ?_
            refine sm_goto (Y := mX12_lay) (pc := 146) 157 (by decide) dX12_lay_146 ?_
            refine sm_sub [2, 3, 4, 0, 5, 1] rfl ?_
            exact h
        · replace h := h.2 hc
          refine sm_aload_n (Y := mX12_lay) (pc := 84) 1 0 rfl rfl dX12_lay_84 ?_
          refine gf_RX12_91 (Y := mX12_lay) (pc := 85) (b := 135) rfl ((lk_109 hly) _) (lf_109_44 hly _) dX12_lay_85 ?_
          refine sm_iload_n (Y := mX12_lay) (pc := 88) 4 3 rfl rfl dX12_lay_88 ?_
          refine sm_iconst (Y := mX12_lay) (pc := 89) 1 (by decide) dX12_lay_89 ?_
          refine sm_isub (Y := mX12_lay) (pc := 90) dX12_lay_90 ?_
          obtain ⟨hn_7, h⟩ := h
          refine sm_iald (Y := mX12_lay) (pc := 91) (la_135 hly _) hn_7 dX12_lay_91 ?_
          refine sm_istore (Y := mX12_lay) (pc := 92) (fun y => [(6, .int y), (5, .int x5_3), (0, .ref (sm_B E + 109)), (1, .int x1), (2, .int x2), (3, .int x3), (4, .int x4)]) 6 (by decide) (fun _ => rfl) dX12_lay_92 (fun x6_8 ex6_8 => ?_)
          replace h := h x6_8 ex6_8
          refine sm_sub [2, 3, 4, 5, 6, 0] rfl ?_
          exact h
      · replace h := h.2 hc
        refine sm_aload_n (Y := mX12_lay) (pc := 67) 1 0 rfl rfl dX12_lay_67 ?_
        refine sm_iload_n (Y := mX12_lay) (pc := 68) 4 3 rfl rfl dX12_lay_68 ?_
        refine sm_iconst (Y := mX12_lay) (pc := 69) 1 (by decide) dX12_lay_69 ?_
        refine sm_isub (Y := mX12_lay) (pc := 70) dX12_lay_70 ?_
        refine sm_iv_V (Y := mX12_lay) (pc := 71) (As := [.int (x3 - 1)]) (a := 109) fX12_turns wRX12_299 (lk_109 hly) (by decide) rfl rfl rfl (Nat.le_trans (by decide) hd) (Nat.le_of_ble_eq_true rfl) ⟨Nat.le_refl _, Nat.le_refl _⟩ dX12_lay_71 rfl (sm_monoV h (fun m_9 h => ?_))
        refine sm_goto (Y := mX12_lay) (pc := 74) 252 (by decide) dX12_lay_74 ?_
        refine sm_iinc (Y := mX12_lay) (pc := 252) (fun y => [(4, .int y), (5, .int x5_3), (0, .ref (sm_B E + 109)), (1, .int x1), (2, .int x2), (3, .int x3)]) 5 4 rfl (by decide) (fun _ => rfl) dX12_lay_252 (fun x4_10 ex4_10 => ?_)
        replace h := h x4_10 ex4_10
        refine sm_goto (Y := mX12_lay) (pc := 255) 15 (by decide) dX12_lay_255 ?_
        refine sm_sub [2, 3, 4, 5, 0] rfl ?_
        exact h
    · replace h := h.2 hc
      refine sm_aload_n (Y := mX12_lay) (pc := 47) 1 0 rfl rfl dX12_lay_47 ?_
      refine sm_iload (Y := mX12_lay) (pc := 48) 0 5 rfl dX12_lay_48 ?_
      refine sm_iload_n (Y := mX12_lay) (pc := 50) 4 3 rfl rfl dX12_lay_50 ?_
      refine sm_iv_V (Y := mX12_lay) (pc := 51) (As := [.int x5_3, .int x3]) (a := 109) fX12_layLeaf wRX12_296 (lk_109 hly) (by decide) rfl rfl rfl (Nat.le_trans (by decide) hd) (Nat.le_of_ble_eq_true rfl) ⟨Nat.le_refl _, Nat.le_refl _⟩ dX12_lay_51 rfl (sm_monoV h (fun m_11 h => ?_))
      refine sm_iinc (Y := mX12_lay) (pc := 54) (fun y => [(3, .int y), (5, .int x5_3), (0, .ref (sm_B E + 109)), (1, .int x1), (2, .int x2), (4, .int x4)]) 4 3 rfl (by decide) (fun _ => rfl) dX12_lay_54 (fun x3_12 ex3_12 => ?_)
      replace h := h x3_12 ex3_12
      refine sm_goto (Y := mX12_lay) (pc := 57) 252 (by decide) dX12_lay_57 ?_
      refine sm_iinc (Y := mX12_lay) (pc := 252) (fun y => [(4, .int y), (3, .int x3_12), (5, .int x5_3), (0, .ref (sm_B E + 109)), (1, .int x1), (2, .int x2)]) 5 4 rfl (by decide) (fun _ => rfl) dX12_lay_252 (fun x4_13 ex4_13 => ?_)
      replace h := h x4_13 ex4_13
      refine sm_goto (Y := mX12_lay) (pc := 255) 15 (by decide) dX12_lay_255 ?_
      refine sm_sub [3, 4, 5, 1, 0] rfl ?_
      exact h
theorem dX12_lay_0 : decode cX12_lay 0 = .ok (.aload_n 0, 1) := dk_aload_n_0 (by decide +kernel)
theorem dX12_lay_1 : decode cX12_lay 1 = .ok (.iconst 0, 1) := dk_iconst_0 (by decide +kernel)
theorem dX12_lay_2 : decode cX12_lay 2 = .ok (.putfield 286, 3) := dk_putfield 286 (b1 := 1) (b2 := 30) (by decide +kernel) (by decide +kernel) (by decide +kernel) (by decide +kernel)
theorem dX12_lay_5 : decode cX12_lay 5 = .ok (.aload_n 0, 1) := dk_aload_n_0 (by decide +kernel)
theorem dX12_lay_6 : decode cX12_lay 6 = .ok (.iconst 0, 1) := dk_iconst_0 (by decide +kernel)
theorem dX12_lay_7 : decode cX12_lay 7 = .ok (.putfield 293, 3) := dk_putfield 293 (b1 := 1) (b2 := 37) (by decide +kernel) (by decide +kernel) (by decide +kernel) (by decide +kernel)
theorem dX12_lay_10 : decode cX12_lay 10 = .ok (.iconst 0, 1) := dk_iconst_0 (by decide +kernel)
theorem dX12_lay_11 : decode cX12_lay 11 = .ok (.istore_n 3, 1) := dk_istore_n_3 (by decide +kernel)
theorem dX12_lay_12 : decode cX12_lay 12 = .ok (.iconst 0, 1) := dk_iconst_0 (by decide +kernel)
theorem dX12_lay_13 : decode cX12_lay 13 = .ok (.istore 4, 2) := dk_istore 4 (b := 4) (by decide +kernel) (by decide +kernel) (by decide +kernel)
set_option maxRecDepth 20000 in
theorem vX12_lay_0 {E : sm_E} {L : sm_S → Prop} {d : Nat} {x1 : Int32} {x2 : Int32}  {m : sm_M} {Q : sm_M → Prop} (hly : ∀ S, L S → ly S) (hd : 3 ≤ d) 
  (h : ∀ m_1 : sm_M, m_1 = sm_wI m 109 45 0 →
   ∀ m_2 : sm_M, m_2 = sm_wI m_1 109 46 0 →
   gX12_lay_15 E L d ([.ref (sm_B E + 109), .int x1, .int x2]) x1 x2 0 0 m_2 Q) :
  sm_callV E L mX12_lay d 0 0 [.ref (sm_B E + 109), .int x1, .int x2] m Q := by
  refine sm_enter (by decide +kernel) (by simp [lg_sl, Value.category]) ?_
  refine sm_aload_n (Y := mX12_lay) (pc := 0) 0 0 rfl rfl dX12_lay_0 ?_
  refine sm_iconst (Y := mX12_lay) (pc := 1) 0 (by decide) dX12_lay_1 ?_
  refine pf_RX12_286 (Y := mX12_lay) (pc := 2) rfl ((lk_109 hly) _) dX12_lay_2 (fun m_1 em_1 => ?_)
  replace h := h m_1 em_1
  refine sm_aload_n (Y := mX12_lay) (pc := 5) 0 0 rfl rfl dX12_lay_5 ?_
  refine sm_iconst (Y := mX12_lay) (pc := 6) 0 (by decide) dX12_lay_6 ?_
  refine pf_RX12_293 (Y := mX12_lay) (pc := 7) rfl ((lk_109 hly) _) dX12_lay_7 (fun m_2 em_2 => ?_)
  replace h := h m_2 em_2
  refine sm_iconst (Y := mX12_lay) (pc := 10) 0 (by decide) dX12_lay_10 ?_
  refine sm_istore0_n (Y := mX12_lay) (pc := 11) [(3, .int 0), (0, .ref (sm_B E + 109)), (1, .int x1), (2, .int x2)] 3 rfl (by decide) rfl dX12_lay_11 ?_
  refine sm_iconst (Y := mX12_lay) (pc := 12) 0 (by decide) dX12_lay_12 ?_
  refine sm_istore0 (Y := mX12_lay) (pc := 13) [(4, .int 0), (3, .int 0), (0, .ref (sm_B E + 109)), (1, .int x1), (2, .int x2)] 4 (by decide) rfl dX12_lay_13 ?_
  refine sm_sub [2, 3, 4, 1, 0] rfl ?_
  exact h
abbrev mX12_passAt : sm_Y := (yX12_passAt, cX12_passAt, 4, (some FieldType.int))
theorem fX12_passAt : sm_mi mX12_passAt RX12 1 := ⟨sm_in 1537 (by decide +kernel) (by decide +kernel), sm_in 1536 (by decide +kernel) (by decide +kernel), sm_in 63 (by decide +kernel) (by decide +kernel), sm_in 93 (by decide +kernel) (by decide +kernel), rfl, ⟨by decide +kernel, by decide +kernel, by decide +kernel⟩, by decide⟩
def gX12_passAt_22 (E : sm_E) (L : sm_S → Prop) (d : Nat) (vs : List Value) (x2 : Int32) (s0 : Int32) (m : sm_M) (Q : Int32 → sm_M → Prop) : Prop := sm_go E L mX12_passAt d 0 0 vs 22 [(0, .ref (sm_B E + 109)), (2, .int x2)] [.int s0] m 0 0 (sm_Z E L vs 0 0 (sm_QI Q))
theorem dX12_passAt_22 : decode cX12_passAt 22 = .ok (.istore_n 3, 1) := dk_istore_n_3 (by decide +kernel)
theorem dX12_passAt_23 : decode cX12_passAt 23 = .ok (.iconst 2, 1) := dk_iconst_2 (by decide +kernel)
theorem dX12_passAt_24 : decode cX12_passAt 24 = .ok (.iload_n 2, 1) := dk_iload_n_2 (by decide +kernel)
theorem dX12_passAt_25 : decode cX12_passAt 25 = .ok (.imul, 1) := dk_imul (by decide +kernel)
theorem dX12_passAt_26 : decode cX12_passAt 26 = .ok (.iload_n 3, 1) := dk_iload_n_3 (by decide +kernel)
theorem dX12_passAt_27 : decode cX12_passAt 27 = .ok (.aload_n 0, 1) := dk_aload_n_0 (by decide +kernel)
theorem dX12_passAt_28 : decode cX12_passAt 28 = .ok (.getfield 76, 3) := dk_getfield 76 (b1 := 0) (b2 := 76) (by decide +kernel) (by decide +kernel) (by decide +kernel) (by decide +kernel)
theorem dX12_passAt_31 : decode cX12_passAt 31 = .ok (.iload_n 2, 1) := dk_iload_n_2 (by decide +kernel)
theorem dX12_passAt_32 : decode cX12_passAt 32 = .ok (.iaload, 1) := dk_iaload (by decide +kernel)
theorem dX12_passAt_33 : decode cX12_passAt 33 = .ok (.ifCond .le 7, 3) := dk_ifCond_le 7 (b1 := 0) (b2 := 7) (by decide +kernel) (by decide +kernel) (by decide +kernel) (by decide +kernel)
theorem dX12_passAt_40 : decode cX12_passAt 40 = .ok (.iconst 0, 1) := dk_iconst_0 (by decide +kernel)
theorem dX12_passAt_41 : decode cX12_passAt 41 = .ok (.if_icmp .ne 7, 3) := dk_if_icmp_ne 7 (b1 := 0) (b2 := 7) (by decide +kernel) (by decide +kernel) (by decide +kernel) (by decide +kernel)
theorem dX12_passAt_48 : decode cX12_passAt 48 = .ok (.iconst 1, 1) := dk_iconst_1 (by decide +kernel)
theorem dX12_passAt_49 : decode cX12_passAt 49 = .ok (.iadd, 1) := dk_iadd (by decide +kernel)
theorem dX12_passAt_50 : decode cX12_passAt 50 = .ok (.ireturn, 1) := dk_ireturn (by decide +kernel)
theorem dX12_passAt_44 : decode cX12_passAt 44 = .ok (.iconst 0, 1) := dk_iconst_0 (by decide +kernel)
theorem dX12_passAt_45 : decode cX12_passAt 45 = .ok (.goto 4, 3) := dk_goto 4 (b1 := 0) (b2 := 4) (by decide +kernel) (by decide +kernel) (by decide +kernel) (by decide +kernel)
theorem dX12_passAt_36 : decode cX12_passAt 36 = .ok (.iconst 1, 1) := dk_iconst_1 (by decide +kernel)
theorem dX12_passAt_37 : decode cX12_passAt 37 = .ok (.goto 4, 3) := dk_goto 4 (b1 := 0) (b2 := 4) (by decide +kernel) (by decide +kernel) (by decide +kernel) (by decide +kernel)
set_option maxRecDepth 20000 in
theorem vX12_passAt_22 {E : sm_E} {L : sm_S → Prop} {d : Nat} {vs : List Value} {x2 : Int32} {s0 : Int32}  {m : sm_M} {Q : Int32 → sm_M → Prop} (hly : ∀ S, L S → ly S) (hd : 1 ≤ d) 
  (h : (vp_in x2 24) ∧ ((m.1 130 x2.toNatClampNeg) ≤ 0 →
      (¬ s0 = 0 →
         Q (((2 : Int32) * x2) + 1) m) ∧
      (s0 = 0 →
         Q (((2 : Int32) * x2) + 0) m)) ∧
   (¬ (m.1 130 x2.toNatClampNeg) ≤ 0 →
      (¬ s0 = 1 →
         Q (((2 : Int32) * x2) + 1) m) ∧
      (s0 = 1 →
         Q (((2 : Int32) * x2) + 0) m))) :
  gX12_passAt_22 E L d vs x2 s0 m Q := by
  refine sm_istore0_n (Y := mX12_passAt) (pc := 22) [(3, .int s0), (0, .ref (sm_B E + 109)), (2, .int x2)] 3 rfl (by decide) rfl dX12_passAt_22 ?_
  refine sm_iconst (Y := mX12_passAt) (pc := 23) 2 (by decide) dX12_passAt_23 ?_
  refine sm_iload_n (Y := mX12_passAt) (pc := 24) 2 2 rfl rfl dX12_passAt_24 ?_
  refine sm_imul (Y := mX12_passAt) (pc := 25) dX12_passAt_25 ?_
  refine sm_iload_n (Y := mX12_passAt) (pc := 26) 0 3 rfl rfl dX12_passAt_26 ?_
  refine sm_aload_n (Y := mX12_passAt) (pc := 27) 1 0 rfl rfl dX12_passAt_27 ?_
  refine gf_RX12_76 (Y := mX12_passAt) (pc := 28) (b := 130) rfl ((lk_109 hly) _) (lf_109_39 hly _) dX12_passAt_28 ?_
  refine sm_iload_n (Y := mX12_passAt) (pc := 31) 2 2 rfl rfl dX12_passAt_31 ?_
  obtain ⟨hn_2, h⟩ := h
  refine sm_iald (Y := mX12_passAt) (pc := 32) (la_130 hly _) hn_2 dX12_passAt_32 ?_
  refine sm_if_le (Y := mX12_passAt) (pc := 33) 40 (by decide) dX12_passAt_33 (fun hc => ?_) (fun hc => ?_)
  · replace h := h.1 hc
    refine sm_iconst (Y := mX12_passAt) (pc := 40) 0 (by decide) dX12_passAt_40 ?_
    refine sm_icmp_ne (Y := mX12_passAt) (pc := 41) 48 (by decide) dX12_passAt_41 (fun hc => ?_) (fun hc => ?_)
    · replace h := h.1 hc
      refine sm_iconst (Y := mX12_passAt) (pc := 48) 1 (by decide) dX12_passAt_48 ?_
      refine sm_iadd (Y := mX12_passAt) (pc := 49) dX12_passAt_49 ?_
      exact sm_iret (Y := mX12_passAt) (pc := 50) rfl rfl rfl dX12_passAt_50 ⟨_, rfl, h⟩
    · replace h := h.2 hc
      refine sm_iconst (Y := mX12_passAt) (pc := 44) 0 (by decide) dX12_passAt_44 ?_
      refine sm_goto (Y := mX12_passAt) (pc := 45) 49 (by decide) dX12_passAt_45 ?_
      refine sm_iadd (Y := mX12_passAt) (pc := 49) dX12_passAt_49 ?_
      exact sm_iret (Y := mX12_passAt) (pc := 50) rfl rfl rfl dX12_passAt_50 ⟨_, rfl, h⟩
  · replace h := h.2 hc
    refine sm_iconst (Y := mX12_passAt) (pc := 36) 1 (by decide) dX12_passAt_36 ?_
    refine sm_goto (Y := mX12_passAt) (pc := 37) 41 (by decide) dX12_passAt_37 ?_
    refine sm_icmp_ne (Y := mX12_passAt) (pc := 41) 48 (by decide) dX12_passAt_41 (fun hc => ?_) (fun hc => ?_)
    · replace h := h.1 hc
      refine sm_iconst (Y := mX12_passAt) (pc := 48) 1 (by decide) dX12_passAt_48 ?_
      refine sm_iadd (Y := mX12_passAt) (pc := 49) dX12_passAt_49 ?_
      exact sm_iret (Y := mX12_passAt) (pc := 50) rfl rfl rfl dX12_passAt_50 ⟨_, rfl, h⟩
    · replace h := h.2 hc
      refine sm_iconst (Y := mX12_passAt) (pc := 44) 0 (by decide) dX12_passAt_44 ?_
      refine sm_goto (Y := mX12_passAt) (pc := 45) 49 (by decide) dX12_passAt_45 ?_
      refine sm_iadd (Y := mX12_passAt) (pc := 49) dX12_passAt_49 ?_
      exact sm_iret (Y := mX12_passAt) (pc := 50) rfl rfl rfl dX12_passAt_50 ⟨_, rfl, h⟩
theorem dX12_passAt_0 : decode cX12_passAt 0 = .ok (.iload_n 1, 1) := dk_iload_n_1 (by decide +kernel)
theorem dX12_passAt_1 : decode cX12_passAt 1 = .ok (.iconst 4, 1) := dk_iconst_4 (by decide +kernel)
theorem dX12_passAt_2 : decode cX12_passAt 2 = .ok (.idiv, 1) := dk_idiv (by decide +kernel)
theorem dX12_passAt_3 : decode cX12_passAt 3 = .ok (.istore_n 2, 1) := dk_istore_n_2 (by decide +kernel)
theorem dX12_passAt_4 : decode cX12_passAt 4 = .ok (.iload_n 1, 1) := dk_iload_n_1 (by decide +kernel)
theorem dX12_passAt_5 : decode cX12_passAt 5 = .ok (.iconst 4, 1) := dk_iconst_4 (by decide +kernel)
theorem dX12_passAt_6 : decode cX12_passAt 6 = .ok (.irem, 1) := dk_irem (by decide +kernel)
theorem dX12_passAt_7 : decode cX12_passAt 7 = .ok (.ifCond .eq 10, 3) := dk_ifCond_eq 10 (b1 := 0) (b2 := 10) (by decide +kernel) (by decide +kernel) (by decide +kernel) (by decide +kernel)
theorem dX12_passAt_17 : decode cX12_passAt 17 = .ok (.iconst 1, 1) := dk_iconst_1 (by decide +kernel)
theorem dX12_passAt_18 : decode cX12_passAt 18 = .ok (.goto 4, 3) := dk_goto 4 (b1 := 0) (b2 := 4) (by decide +kernel) (by decide +kernel) (by decide +kernel) (by decide +kernel)
theorem dX12_passAt_10 : decode cX12_passAt 10 = .ok (.iload_n 1, 1) := dk_iload_n_1 (by decide +kernel)
theorem dX12_passAt_11 : decode cX12_passAt 11 = .ok (.iconst 4, 1) := dk_iconst_4 (by decide +kernel)
theorem dX12_passAt_12 : decode cX12_passAt 12 = .ok (.irem, 1) := dk_irem (by decide +kernel)
theorem dX12_passAt_13 : decode cX12_passAt 13 = .ok (.iconst 3, 1) := dk_iconst_3 (by decide +kernel)
theorem dX12_passAt_14 : decode cX12_passAt 14 = .ok (.if_icmp .ne 7, 3) := dk_if_icmp_ne 7 (b1 := 0) (b2 := 7) (by decide +kernel) (by decide +kernel) (by decide +kernel) (by decide +kernel)
theorem dX12_passAt_21 : decode cX12_passAt 21 = .ok (.iconst 0, 1) := dk_iconst_0 (by decide +kernel)
set_option maxRecDepth 20000 in
theorem vX12_passAt_0 {E : sm_E} {L : sm_S → Prop} {d : Nat} {x1 : Int32}  {m : sm_M} {Q : Int32 → sm_M → Prop}  (hd : 1 ≤ d) 
  (h : ∀ x2_1 : Int32, x2_1 = x1 / 4 →
   ((sm_rem x1 4) = 0 →
      gX12_passAt_22 E L d ([.ref (sm_B E + 109), .int x1]) x2_1 1 m Q) ∧
   (¬ (sm_rem x1 4) = 0 →
      (¬ (sm_rem x1 4) = 3 →
         gX12_passAt_22 E L d ([.ref (sm_B E + 109), .int x1]) x2_1 0 m Q) ∧
      ((sm_rem x1 4) = 3 →
         gX12_passAt_22 E L d ([.ref (sm_B E + 109), .int x1]) x2_1 1 m Q))) :
  sm_callI E L mX12_passAt d 0 0 [.ref (sm_B E + 109), .int x1] m Q := by
  refine sm_enter (by decide +kernel) (by simp [lg_sl, Value.category]) ?_
  refine sm_iload_n (Y := mX12_passAt) (pc := 0) 1 1 rfl rfl dX12_passAt_0 ?_
  refine sm_iconst (Y := mX12_passAt) (pc := 1) 4 (by decide) dX12_passAt_1 ?_
  refine sm_idiv (Y := mX12_passAt) (pc := 2) (by decide) dX12_passAt_2 ?_
  refine sm_istore_n (Y := mX12_passAt) (pc := 3) (fun y => [(2, .int y), (0, .ref (sm_B E + 109)), (1, .int x1)]) 2 rfl (by decide) (fun _ => rfl) dX12_passAt_3 (fun x2_1 ex2_1 => ?_)
  replace h := h x2_1 ex2_1
  refine sm_iload_n (Y := mX12_passAt) (pc := 4) 2 1 rfl rfl dX12_passAt_4 ?_
  refine sm_iconst (Y := mX12_passAt) (pc := 5) 4 (by decide) dX12_passAt_5 ?_
  refine sm_irem (Y := mX12_passAt) (pc := 6) (by decide) dX12_passAt_6 ?_
  refine sm_if_eq (Y := mX12_passAt) (pc := 7) 17 (by decide) dX12_passAt_7 (fun hc => ?_) (fun hc => ?_)
  · replace h := h.1 hc
    refine sm_iconst (Y := mX12_passAt) (pc := 17) 1 (by decide) dX12_passAt_17 ?_
    refine sm_goto (Y := mX12_passAt) (pc := 18) 22 (by decide) dX12_passAt_18 ?_
    refine sm_sub [1, 0] rfl ?_
    exact h
  · replace h := h.2 hc
    refine sm_iload_n (Y := mX12_passAt) (pc := 10) 2 1 rfl rfl dX12_passAt_10 ?_
    refine sm_iconst (Y := mX12_passAt) (pc := 11) 4 (by decide) dX12_passAt_11 ?_
    refine sm_irem (Y := mX12_passAt) (pc := 12) (by decide) dX12_passAt_12 ?_
    refine sm_iconst (Y := mX12_passAt) (pc := 13) 3 (by decide) dX12_passAt_13 ?_
    refine sm_icmp_ne (Y := mX12_passAt) (pc := 14) 21 (by decide) dX12_passAt_14 (fun hc => ?_) (fun hc => ?_)
    · replace h := h.1 hc
      refine sm_iconst (Y := mX12_passAt) (pc := 21) 0 (by decide) dX12_passAt_21 ?_
      refine sm_sub [1, 0] rfl ?_
      exact h
    · replace h := h.2 hc
      refine sm_iconst (Y := mX12_passAt) (pc := 17) 1 (by decide) dX12_passAt_17 ?_
      refine sm_goto (Y := mX12_passAt) (pc := 18) 22 (by decide) dX12_passAt_18 ?_
      refine sm_sub [1, 0] rfl ?_
      exact h
abbrev mX12_goes : sm_Y := (yX12_goes, cX12_goes, 4, none)
theorem fX12_goes : sm_mi mX12_goes RX12 1 := ⟨sm_in 1533 (by decide +kernel) (by decide +kernel), sm_in 1532 (by decide +kernel) (by decide +kernel), sm_in 62 (by decide +kernel) (by decide +kernel), sm_in 93 (by decide +kernel) (by decide +kernel), rfl, ⟨by decide +kernel, by decide +kernel, by decide +kernel⟩, by decide⟩
def gX12_goes_67 (E : sm_E) (L : sm_S → Prop) (d : Nat) (vs : List Value) (x1 : Int32) (x2 : Int32) (m : sm_M) (Q : sm_M → Prop) : Prop := sm_go E L mX12_goes d 0 0 vs 67 [(0, .ref (sm_B E + 109)), (1, .int x1), (2, .int x2)] [] m 0 0 (sm_Z E L vs 0 0 (sm_QV Q))
def gX12_goes_34 (E : sm_E) (L : sm_S → Prop) (d : Nat) (vs : List Value) (x1 : Int32) (x2 : Int32) (x3 : Int32) (s1 : Int32) (s2 : Int32) (m : sm_M) (Q : sm_M → Prop) : Prop := sm_go E L mX12_goes d 0 0 vs 34 [(0, .ref (sm_B E + 109)), (1, .int x1), (2, .int x2), (3, .int x3)] [.int s2, .int s1, .ref (sm_B E + 137)] m 0 0 (sm_Z E L vs 0 0 (sm_QV Q))
def gX12_goes_2 (E : sm_E) (L : sm_S → Prop) (d : Nat) (vs : List Value) (x1 : Int32) (x2 : Int32) (m : sm_M) (Q : sm_M → Prop) : Prop := sm_go E L mX12_goes d 0 0 vs 2 [(0, .ref (sm_B E + 109)), (1, .int x1), (2, .int x2)] [] m 0 0 (sm_Z E L vs 0 0 (sm_QV Q))
theorem dX12_goes_67 : decode cX12_goes 67 = .ok (.iload_n 2, 1) := dk_iload_n_2 (by decide +kernel)
theorem dX12_goes_68 : decode cX12_goes 68 = .ok (.bipush 96, 2) := dk_bipush 96 (b := 96) (by decide +kernel) (by decide +kernel) (by decide +kernel)
theorem dX12_goes_70 : decode cX12_goes 70 = .ok (.if_icmp .lt 37, 3) := dk_if_icmp_lt 37 (b1 := 0) (b2 := 37) (by decide +kernel) (by decide +kernel) (by decide +kernel) (by decide +kernel)
theorem dX12_goes_107 : decode cX12_goes 107 = .ok (.iload_n 2, 1) := dk_iload_n_2 (by decide +kernel)
theorem dX12_goes_108 : decode cX12_goes 108 = .ok (.iload_n 1, 1) := dk_iload_n_1 (by decide +kernel)
theorem dX12_goes_109 : decode cX12_goes 109 = .ok (.if_icmp .ne (-107), 3) := dk_if_icmp_ne (-107) (b1 := 255) (b2 := 149) (by decide +kernel) (by decide +kernel) (by decide +kernel) (by decide +kernel)
theorem dX12_goes_112 : decode cX12_goes 112 = .ok (.return_, 1) := dk_return_ (by decide +kernel)
theorem dX12_goes_73 : decode cX12_goes 73 = .ok (.aload_n 0, 1) := dk_aload_n_0 (by decide +kernel)
theorem dX12_goes_74 : decode cX12_goes 74 = .ok (.getfield 106, 3) := dk_getfield 106 (b1 := 0) (b2 := 106) (by decide +kernel) (by decide +kernel) (by decide +kernel) (by decide +kernel)
theorem dX12_goes_77 : decode cX12_goes 77 = .ok (.iload_n 2, 1) := dk_iload_n_2 (by decide +kernel)
theorem dX12_goes_78 : decode cX12_goes 78 = .ok (.iconst 1, 1) := dk_iconst_1 (by decide +kernel)
theorem dX12_goes_79 : decode cX12_goes 79 = .ok (.bastore, 1) := dk_bastore (by decide +kernel)
theorem dX12_goes_80 : decode cX12_goes 80 = .ok (.aload_n 0, 1) := dk_aload_n_0 (by decide +kernel)
theorem dX12_goes_81 : decode cX12_goes 81 = .ok (.getfield 106, 3) := dk_getfield 106 (b1 := 0) (b2 := 106) (by decide +kernel) (by decide +kernel) (by decide +kernel) (by decide +kernel)
theorem dX12_goes_84 : decode cX12_goes 84 = .ok (.aload_n 0, 1) := dk_aload_n_0 (by decide +kernel)
theorem dX12_goes_85 : decode cX12_goes 85 = .ok (.getfield 73, 3) := dk_getfield 73 (b1 := 0) (b2 := 73) (by decide +kernel) (by decide +kernel) (by decide +kernel) (by decide +kernel)
theorem dX12_goes_88 : decode cX12_goes 88 = .ok (.iload_n 2, 1) := dk_iload_n_2 (by decide +kernel)
theorem dX12_goes_89 : decode cX12_goes 89 = .ok (.iaload, 1) := dk_iaload (by decide +kernel)
theorem dX12_goes_90 : decode cX12_goes 90 = .ok (.iconst 1, 1) := dk_iconst_1 (by decide +kernel)
theorem dX12_goes_91 : decode cX12_goes 91 = .ok (.bastore, 1) := dk_bastore (by decide +kernel)
theorem dX12_goes_92 : decode cX12_goes 92 = .ok (.aload_n 0, 1) := dk_aload_n_0 (by decide +kernel)
theorem dX12_goes_93 : decode cX12_goes 93 = .ok (.getfield 70, 3) := dk_getfield 70 (b1 := 0) (b2 := 70) (by decide +kernel) (by decide +kernel) (by decide +kernel) (by decide +kernel)
theorem dX12_goes_96 : decode cX12_goes 96 = .ok (.aload_n 0, 1) := dk_aload_n_0 (by decide +kernel)
theorem dX12_goes_97 : decode cX12_goes 97 = .ok (.getfield 73, 3) := dk_getfield 73 (b1 := 0) (b2 := 73) (by decide +kernel) (by decide +kernel) (by decide +kernel) (by decide +kernel)
theorem dX12_goes_100 : decode cX12_goes 100 = .ok (.iload_n 2, 1) := dk_iload_n_2 (by decide +kernel)
theorem dX12_goes_101 : decode cX12_goes 101 = .ok (.iaload, 1) := dk_iaload (by decide +kernel)
theorem dX12_goes_102 : decode cX12_goes 102 = .ok (.iaload, 1) := dk_iaload (by decide +kernel)
theorem dX12_goes_103 : decode cX12_goes 103 = .ok (.istore_n 2, 1) := dk_istore_n_2 (by decide +kernel)
theorem dX12_goes_104 : decode cX12_goes 104 = .ok (.goto (-37), 3) := dk_goto (-37) (b1 := 255) (b2 := 219) (by decide +kernel) (by decide +kernel) (by decide +kernel) (by decide +kernel)
set_option maxRecDepth 20000 in
theorem vX12_goes_67 {E : sm_E} {L : sm_S → Prop} {d : Nat} {vs : List Value} {x1 : Int32} {x2 : Int32}  {m : sm_M} {Q : sm_M → Prop} (hly : ∀ S, L S → ly S) (hd : 2 ≤ d) 
  (h : (x2 < 96 →
      (¬ x2 = x1 →
         gX12_goes_2 E L d vs x1 x2 m Q) ∧
      (x2 = x1 →
         Q m)) ∧
   (¬ x2 < 96 →
      (vp_in x2 192) ∧ ∀ m_1 : sm_M, m_1 = sm_wI m 140 x2.toNatClampNeg 1 →
      (vp_in x2 192) ∧ (vp_in (m_1.1 129 x2.toNatClampNeg) 192) ∧ ∀ m_4 : sm_M, m_4 = sm_wI m_1 140 (m_1.1 129 x2.toNatClampNeg).toNatClampNeg 1 →
      (vp_in x2 192) ∧ (vp_in (m_4.1 129 x2.toNatClampNeg) 192) ∧ ∀ x2_8 : Int32, x2_8 = m_4.1 128 (m_4.1 129 x2.toNatClampNeg).toNatClampNeg →
      gX12_goes_67 E L d vs x1 x2_8 m_4 Q)) :
  gX12_goes_67 E L d vs x1 x2 m Q := by
  refine sm_iload_n (Y := mX12_goes) (pc := 67) 2 2 rfl rfl dX12_goes_67 ?_
  refine sm_bipush (Y := mX12_goes) (pc := 68) 96 (by decide) dX12_goes_68 ?_
  refine sm_icmp_lt (Y := mX12_goes) (pc := 70) 107 (by decide) dX12_goes_70 (fun hc => ?_) (fun hc => ?_)
  · replace h := h.1 hc
    refine sm_iload_n (Y := mX12_goes) (pc := 107) 2 2 rfl rfl dX12_goes_107 ?_
    refine sm_iload_n (Y := mX12_goes) (pc := 108) 1 1 rfl rfl dX12_goes_108 ?_
    refine sm_icmp_ne (Y := mX12_goes) (pc := 109) 2 (by decide) dX12_goes_109 (fun hc => ?_) (fun hc => ?_)
    · replace h := h.1 hc
      exact h
    · replace h := h.2 hc
      exact sm_vret (Y := mX12_goes) (pc := 112) rfl rfl rfl dX12_goes_112 ⟨rfl, h⟩
  · replace h := h.2 hc
    refine sm_aload_n (Y := mX12_goes) (pc := 73) 0 0 rfl rfl dX12_goes_73 ?_
    refine gf_RX12_106 (Y := mX12_goes) (pc := 74) (b := 140) rfl ((lk_109 hly) _) (lf_109_51 hly _) dX12_goes_74 ?_
    refine sm_iload_n (Y := mX12_goes) (pc := 77) 2 2 rfl rfl dX12_goes_77 ?_
    refine sm_iconst (Y := mX12_goes) (pc := 78) 1 (by decide) dX12_goes_78 ?_
    obtain ⟨hn_2, h⟩ := h
    refine sm_zast (Y := mX12_goes) (pc := 79) (la_140 hly _) hn_2 (by decide) dX12_goes_79 (fun m_1 em_1 => ?_)
    replace h := h m_1 em_1
    refine sm_aload_n (Y := mX12_goes) (pc := 80) 0 0 rfl rfl dX12_goes_80 ?_
    refine gf_RX12_106 (Y := mX12_goes) (pc := 81) (b := 140) rfl ((lk_109 hly) _) (lf_109_51 hly _) dX12_goes_81 ?_
    refine sm_aload_n (Y := mX12_goes) (pc := 84) 0 0 rfl rfl dX12_goes_84 ?_
    refine gf_RX12_73 (Y := mX12_goes) (pc := 85) (b := 129) rfl ((lk_109 hly) _) (lf_109_38 hly _) dX12_goes_85 ?_
    refine sm_iload_n (Y := mX12_goes) (pc := 88) 2 2 rfl rfl dX12_goes_88 ?_
    obtain ⟨hn_3, h⟩ := h
    refine sm_iald (Y := mX12_goes) (pc := 89) (la_129 hly _) hn_3 dX12_goes_89 ?_
    refine sm_iconst (Y := mX12_goes) (pc := 90) 1 (by decide) dX12_goes_90 ?_
    obtain ⟨hn_5, h⟩ := h
    refine sm_zast (Y := mX12_goes) (pc := 91) (la_140 hly _) hn_5 (by decide) dX12_goes_91 (fun m_4 em_4 => ?_)
    replace h := h m_4 em_4
    refine sm_aload_n (Y := mX12_goes) (pc := 92) 0 0 rfl rfl dX12_goes_92 ?_
    refine gf_RX12_70 (Y := mX12_goes) (pc := 93) (b := 128) rfl ((lk_109 hly) _) (lf_109_37 hly _) dX12_goes_93 ?_
    refine sm_aload_n (Y := mX12_goes) (pc := 96) 0 0 rfl rfl dX12_goes_96 ?_
    refine gf_RX12_73 (Y := mX12_goes) (pc := 97) (b := 129) rfl ((lk_109 hly) _) (lf_109_38 hly _) dX12_goes_97 ?_
    refine sm_iload_n (Y := mX12_goes) (pc := 100) 2 2 rfl rfl dX12_goes_100 ?_
    obtain ⟨hn_6, h⟩ := h
    refine sm_iald (Y := mX12_goes) (pc := 101) (la_129 hly _) hn_6 dX12_goes_101 ?_
    obtain ⟨hn_7, h⟩ := h
    refine sm_iald (Y := mX12_goes) (pc := 102) (la_128 hly _) hn_7 dX12_goes_102 ?_
    refine sm_istore_n (Y := mX12_goes) (pc := 103) (fun y => [(2, .int y), (0, .ref (sm_B E + 109)), (1, .int x1)]) 2 rfl (by decide) (fun _ => rfl) dX12_goes_103 (fun x2_8 ex2_8 => ?_)
    replace h := h x2_8 ex2_8
    refine sm_goto (Y := mX12_goes) (pc := 104) 67 (by decide) dX12_goes_104 ?_
    refine sm_sub [1, 2, 0] rfl ?_
    exact h
theorem dX12_goes_34 : decode cX12_goes 34 = .ok (.iastore, 1) := dk_iastore (by decide +kernel)
theorem dX12_goes_35 : decode cX12_goes 35 = .ok (.aload_n 0, 1) := dk_aload_n_0 (by decide +kernel)
theorem dX12_goes_36 : decode cX12_goes 36 = .ok (.getfield 100, 3) := dk_getfield 100 (b1 := 0) (b2 := 100) (by decide +kernel) (by decide +kernel) (by decide +kernel) (by decide +kernel)
theorem dX12_goes_39 : decode cX12_goes 39 = .ok (.aload_n 0, 1) := dk_aload_n_0 (by decide +kernel)
theorem dX12_goes_40 : decode cX12_goes 40 = .ok (.getfield 308, 3) := dk_getfield 308 (b1 := 1) (b2 := 52) (by decide +kernel) (by decide +kernel) (by decide +kernel) (by decide +kernel)
theorem dX12_goes_43 : decode cX12_goes 43 = .ok (.iload_n 3, 1) := dk_iload_n_3 (by decide +kernel)
theorem dX12_goes_44 : decode cX12_goes 44 = .ok (.iastore, 1) := dk_iastore (by decide +kernel)
theorem dX12_goes_45 : decode cX12_goes 45 = .ok (.aload_n 0, 1) := dk_aload_n_0 (by decide +kernel)
theorem dX12_goes_46 : decode cX12_goes 46 = .ok (.dup, 1) := dk_dup (by decide +kernel)
theorem dX12_goes_47 : decode cX12_goes 47 = .ok (.getfield 308, 3) := dk_getfield 308 (b1 := 1) (b2 := 52) (by decide +kernel) (by decide +kernel) (by decide +kernel) (by decide +kernel)
theorem dX12_goes_50 : decode cX12_goes 50 = .ok (.iconst 1, 1) := dk_iconst_1 (by decide +kernel)
theorem dX12_goes_51 : decode cX12_goes 51 = .ok (.iadd, 1) := dk_iadd (by decide +kernel)
theorem dX12_goes_52 : decode cX12_goes 52 = .ok (.putfield 308, 3) := dk_putfield 308 (b1 := 1) (b2 := 52) (by decide +kernel) (by decide +kernel) (by decide +kernel) (by decide +kernel)
theorem dX12_goes_55 : decode cX12_goes 55 = .ok (.aload_n 0, 1) := dk_aload_n_0 (by decide +kernel)
theorem dX12_goes_56 : decode cX12_goes 56 = .ok (.getfield 70, 3) := dk_getfield 70 (b1 := 0) (b2 := 70) (by decide +kernel) (by decide +kernel) (by decide +kernel) (by decide +kernel)
theorem dX12_goes_59 : decode cX12_goes 59 = .ok (.aload_n 0, 1) := dk_aload_n_0 (by decide +kernel)
theorem dX12_goes_60 : decode cX12_goes 60 = .ok (.getfield 73, 3) := dk_getfield 73 (b1 := 0) (b2 := 73) (by decide +kernel) (by decide +kernel) (by decide +kernel) (by decide +kernel)
theorem dX12_goes_63 : decode cX12_goes 63 = .ok (.iload_n 2, 1) := dk_iload_n_2 (by decide +kernel)
theorem dX12_goes_64 : decode cX12_goes 64 = .ok (.iaload, 1) := dk_iaload (by decide +kernel)
theorem dX12_goes_65 : decode cX12_goes 65 = .ok (.iaload, 1) := dk_iaload (by decide +kernel)
theorem dX12_goes_66 : decode cX12_goes 66 = .ok (.istore_n 2, 1) := dk_istore_n_2 (by decide +kernel)
set_option maxRecDepth 20000 in
theorem vX12_goes_34 {E : sm_E} {L : sm_S → Prop} {d : Nat} {vs : List Value} {x1 : Int32} {x2 : Int32} {x3 : Int32} {s1 : Int32} {s2 : Int32}  {m : sm_M} {Q : sm_M → Prop} (hly : ∀ S, L S → ly S) (hd : 2 ≤ d) 
  (h : (vp_in s1 48) ∧ ∀ m_1 : sm_M, m_1 = sm_wI m 137 s1.toNatClampNeg s2 →
   (vp_in (m_1.1 109 53) 48) ∧ ∀ m_3 : sm_M, m_3 = sm_wI m_1 138 (m_1.1 109 53).toNatClampNeg x3 →
   ∀ m_5 : sm_M, m_5 = sm_wI m_3 109 53 ((m_3.1 109 53) + 1) →
   (vp_in x2 192) ∧ (vp_in (m_5.1 129 x2.toNatClampNeg) 192) ∧ ∀ x2_8 : Int32, x2_8 = m_5.1 128 (m_5.1 129 x2.toNatClampNeg).toNatClampNeg →
   gX12_goes_67 E L d vs x1 x2_8 m_5 Q) :
  gX12_goes_34 E L d vs x1 x2 x3 s1 s2 m Q := by
  obtain ⟨hn_2, h⟩ := h
  refine sm_iast (Y := mX12_goes) (pc := 34) (la_137 hly _) hn_2 dX12_goes_34 (fun m_1 em_1 => ?_)
  replace h := h m_1 em_1
  refine sm_aload_n (Y := mX12_goes) (pc := 35) 0 0 rfl rfl dX12_goes_35 ?_
  refine gf_RX12_100 (Y := mX12_goes) (pc := 36) (b := 138) rfl ((lk_109 hly) _) (lf_109_49 hly _) dX12_goes_36 ?_
  refine sm_aload_n (Y := mX12_goes) (pc := 39) 0 0 rfl rfl dX12_goes_39 ?_
  refine gf_RX12_308 (Y := mX12_goes) (pc := 40) rfl ((lk_109 hly) _) dX12_goes_40 ?_
  refine sm_iload_n (Y := mX12_goes) (pc := 43) 3 3 rfl rfl dX12_goes_43 ?_
  obtain ⟨hn_4, h⟩ := h
  refine sm_iast (Y := mX12_goes) (pc := 44) (la_138 hly _) hn_4 dX12_goes_44 (fun m_3 em_3 => ?_)
  replace h := h m_3 em_3
  refine sm_aload_n (Y := mX12_goes) (pc := 45) 0 0 rfl rfl dX12_goes_45 ?_
  refine sm_dup (Y := mX12_goes) (pc := 46) rfl dX12_goes_46 ?_
  refine gf_RX12_308 (Y := mX12_goes) (pc := 47) rfl ((lk_109 hly) _) dX12_goes_47 ?_
  refine sm_iconst (Y := mX12_goes) (pc := 50) 1 (by decide) dX12_goes_50 ?_
  refine sm_iadd (Y := mX12_goes) (pc := 51) dX12_goes_51 ?_
  refine pf_RX12_308 (Y := mX12_goes) (pc := 52) rfl ((lk_109 hly) _) dX12_goes_52 (fun m_5 em_5 => ?_)
  replace h := h m_5 em_5
  refine sm_aload_n (Y := mX12_goes) (pc := 55) 0 0 rfl rfl dX12_goes_55 ?_
  refine gf_RX12_70 (Y := mX12_goes) (pc := 56) (b := 128) rfl ((lk_109 hly) _) (lf_109_37 hly _) dX12_goes_56 ?_
  refine sm_aload_n (Y := mX12_goes) (pc := 59) 0 0 rfl rfl dX12_goes_59 ?_
  refine gf_RX12_73 (Y := mX12_goes) (pc := 60) (b := 129) rfl ((lk_109 hly) _) (lf_109_38 hly _) dX12_goes_60 ?_
  refine sm_iload_n (Y := mX12_goes) (pc := 63) 2 2 rfl rfl dX12_goes_63 ?_
  obtain ⟨hn_6, h⟩ := h
  refine sm_iald (Y := mX12_goes) (pc := 64) (la_129 hly _) hn_6 dX12_goes_64 ?_
  obtain ⟨hn_7, h⟩ := h
  refine sm_iald (Y := mX12_goes) (pc := 65) (la_128 hly _) hn_7 dX12_goes_65 ?_
  refine sm_istore_n (Y := mX12_goes) (pc := 66) (fun y => [(2, .int y), (0, .ref (sm_B E + 109)), (1, .int x1), (3, .int x3)]) 2 rfl (by decide) (fun _ => rfl) dX12_goes_66 (fun x2_8 ex2_8 => ?_)
  replace h := h x2_8 ex2_8
  refine sm_sub [1, 2, 0] rfl ?_
  exact h
theorem dX12_goes_2 : decode cX12_goes 2 = .ok (.aload_n 0, 1) := dk_aload_n_0 (by decide +kernel)
theorem dX12_goes_3 : decode cX12_goes 3 = .ok (.iload_n 2, 1) := dk_iload_n_2 (by decide +kernel)
theorem wRX12_302 : Cond.methodLink RX12 302 yX12_passAt ∈ sm_T := sm_in 1534 (by decide +kernel) (by decide +kernel)
theorem dX12_goes_4 : decode cX12_goes 4 = .ok (.invokevirtual 302, 3) := dk_invokevirtual 302 (b1 := 1) (b2 := 46) (by decide +kernel) (by decide +kernel) (by decide +kernel) (by decide +kernel)
theorem dX12_goes_7 : decode cX12_goes 7 = .ok (.istore_n 3, 1) := dk_istore_n_3 (by decide +kernel)
theorem dX12_goes_8 : decode cX12_goes 8 = .ok (.aload_n 0, 1) := dk_aload_n_0 (by decide +kernel)
theorem dX12_goes_9 : decode cX12_goes 9 = .ok (.getfield 94, 3) := dk_getfield 94 (b1 := 0) (b2 := 94) (by decide +kernel) (by decide +kernel) (by decide +kernel) (by decide +kernel)
theorem dX12_goes_12 : decode cX12_goes 12 = .ok (.iload_n 3, 1) := dk_iload_n_3 (by decide +kernel)
theorem dX12_goes_13 : decode cX12_goes 13 = .ok (.aload_n 0, 1) := dk_aload_n_0 (by decide +kernel)
theorem dX12_goes_14 : decode cX12_goes 14 = .ok (.getfield 305, 3) := dk_getfield 305 (b1 := 1) (b2 := 49) (by decide +kernel) (by decide +kernel) (by decide +kernel) (by decide +kernel)
theorem dX12_goes_17 : decode cX12_goes 17 = .ok (.iastore, 1) := dk_iastore (by decide +kernel)
theorem dX12_goes_18 : decode cX12_goes 18 = .ok (.aload_n 0, 1) := dk_aload_n_0 (by decide +kernel)
theorem dX12_goes_19 : decode cX12_goes 19 = .ok (.getfield 97, 3) := dk_getfield 97 (b1 := 0) (b2 := 97) (by decide +kernel) (by decide +kernel) (by decide +kernel) (by decide +kernel)
theorem dX12_goes_22 : decode cX12_goes 22 = .ok (.iload_n 3, 1) := dk_iload_n_3 (by decide +kernel)
theorem dX12_goes_23 : decode cX12_goes 23 = .ok (.iload_n 2, 1) := dk_iload_n_2 (by decide +kernel)
theorem dX12_goes_24 : decode cX12_goes 24 = .ok (.iconst 2, 1) := dk_iconst_2 (by decide +kernel)
theorem dX12_goes_25 : decode cX12_goes 25 = .ok (.irem, 1) := dk_irem (by decide +kernel)
theorem dX12_goes_26 : decode cX12_goes 26 = .ok (.ifCond .ne 7, 3) := dk_ifCond_ne 7 (b1 := 0) (b2 := 7) (by decide +kernel) (by decide +kernel) (by decide +kernel) (by decide +kernel)
theorem dX12_goes_33 : decode cX12_goes 33 = .ok (.iconst 0, 1) := dk_iconst_0 (by decide +kernel)
theorem dX12_goes_29 : decode cX12_goes 29 = .ok (.iconst 1, 1) := dk_iconst_1 (by decide +kernel)
theorem dX12_goes_30 : decode cX12_goes 30 = .ok (.goto 4, 3) := dk_goto 4 (b1 := 0) (b2 := 4) (by decide +kernel) (by decide +kernel) (by decide +kernel) (by decide +kernel)
set_option maxRecDepth 20000 in
theorem vX12_goes_2 {E : sm_E} {L : sm_S → Prop} {d : Nat} {vs : List Value} {x1 : Int32} {x2 : Int32}  {m : sm_M} {Q : sm_M → Prop} (hly : ∀ S, L S → ly S) (hd : 2 ≤ d) 
  (h : sm_callI E L mX12_passAt 1 0 0 [.ref (sm_B E + 109), .int x2] m (fun r_2 m_1 =>
   (vp_in r_2 48) ∧ ∀ m_4 : sm_M, m_4 = sm_wI m_1 136 r_2.toNatClampNeg (m_1.1 109 52) →
   (¬ (sm_rem x2 2) = 0 →
      gX12_goes_34 E L d vs x1 x2 r_2 r_2 0 m_4 Q) ∧
   ((sm_rem x2 2) = 0 →
      gX12_goes_34 E L d vs x1 x2 r_2 r_2 1 m_4 Q))) :
  gX12_goes_2 E L d vs x1 x2 m Q := by
  refine sm_aload_n (Y := mX12_goes) (pc := 2) 0 0 rfl rfl dX12_goes_2 ?_
  refine sm_iload_n (Y := mX12_goes) (pc := 3) 2 2 rfl rfl dX12_goes_3 ?_
  refine sm_iv_I (Y := mX12_goes) (pc := 4) (As := [.int x2]) (a := 109) fX12_passAt wRX12_302 (lk_109 hly) (by decide) rfl rfl rfl (Nat.le_trans (by decide) hd) (Nat.le_of_ble_eq_true rfl) ⟨Nat.le_refl _, Nat.le_refl _⟩ dX12_goes_4 rfl (sm_monoI h (fun r_2 m_1 h => ?_))
  refine sm_istore0_n (Y := mX12_goes) (pc := 7) [(3, .int r_2), (0, .ref (sm_B E + 109)), (1, .int x1), (2, .int x2)] 3 rfl (by decide) rfl dX12_goes_7 ?_
  refine sm_aload_n (Y := mX12_goes) (pc := 8) 1 0 rfl rfl dX12_goes_8 ?_
  refine gf_RX12_94 (Y := mX12_goes) (pc := 9) (b := 136) rfl ((lk_109 hly) _) (lf_109_47 hly _) dX12_goes_9 ?_
  refine sm_iload_n (Y := mX12_goes) (pc := 12) 0 3 rfl rfl dX12_goes_12 ?_
  refine sm_aload_n (Y := mX12_goes) (pc := 13) 1 0 rfl rfl dX12_goes_13 ?_
  refine gf_RX12_305 (Y := mX12_goes) (pc := 14) rfl ((lk_109 hly) _) dX12_goes_14 ?_
  obtain ⟨hn_5, h⟩ := h
  refine sm_iast (Y := mX12_goes) (pc := 17) (la_136 hly _) hn_5 dX12_goes_17 (fun m_4 em_4 => ?_)
  replace h := h m_4 em_4
  refine sm_aload_n (Y := mX12_goes) (pc := 18) 1 0 rfl rfl dX12_goes_18 ?_
  refine gf_RX12_97 (Y := mX12_goes) (pc := 19) (b := 137) rfl ((lk_109 hly) _) (lf_109_48 hly _) dX12_goes_19 ?_
  refine sm_iload_n (Y := mX12_goes) (pc := 22) 0 3 rfl rfl dX12_goes_22 ?_
  refine sm_iload_n (Y := mX12_goes) (pc := 23) 3 2 rfl rfl dX12_goes_23 ?_
  refine sm_iconst (Y := mX12_goes) (pc := 24) 2 (by decide) dX12_goes_24 ?_
  refine sm_irem (Y := mX12_goes) (pc := 25) (by decide) dX12_goes_25 ?_
  refine sm_if_ne (Y := mX12_goes) (pc := 26) 33 (by decide) dX12_goes_26 (fun hc => ?_) (fun hc => ?_)
  · replace h := h.1 hc
    refine sm_iconst (Y := mX12_goes) (pc := 33) 0 (by decide) dX12_goes_33 ?_
    refine sm_sub [1, 2, 3, 0] rfl ?_
    exact h
  · replace h := h.2 hc
    refine sm_iconst (Y := mX12_goes) (pc := 29) 1 (by decide) dX12_goes_29 ?_
    refine sm_goto (Y := mX12_goes) (pc := 30) 34 (by decide) dX12_goes_30 ?_
    refine sm_sub [1, 2, 3, 0] rfl ?_
    exact h
theorem dX12_goes_0 : decode cX12_goes 0 = .ok (.iload_n 1, 1) := dk_iload_n_1 (by decide +kernel)
theorem dX12_goes_1 : decode cX12_goes 1 = .ok (.istore_n 2, 1) := dk_istore_n_2 (by decide +kernel)
set_option maxRecDepth 20000 in
theorem vX12_goes_0 {E : sm_E} {L : sm_S → Prop} {d : Nat} {x1 : Int32}  {m : sm_M} {Q : sm_M → Prop}  (hd : 2 ≤ d) 
  (h : gX12_goes_2 E L d ([.ref (sm_B E + 109), .int x1]) x1 x1 m Q) :
  sm_callV E L mX12_goes d 0 0 [.ref (sm_B E + 109), .int x1] m Q := by
  refine sm_enter (by decide +kernel) (by simp [lg_sl, Value.category]) ?_
  refine sm_iload_n (Y := mX12_goes) (pc := 0) 1 1 rfl rfl dX12_goes_0 ?_
  refine sm_istore0_n (Y := mX12_goes) (pc := 1) [(2, .int x1), (0, .ref (sm_B E + 109)), (1, .int x1)] 2 rfl (by decide) rfl dX12_goes_1 ?_
  refine sm_sub [1, 2, 0] rfl ?_
  exact h
abbrev mX12_curves : sm_Y := (yX12_curves, cX12_curves, 5, none)
theorem fX12_curves : sm_mi mX12_curves RX12 2 := ⟨sm_in 1513 (by decide +kernel) (by decide +kernel), sm_in 1512 (by decide +kernel) (by decide +kernel), sm_in 57 (by decide +kernel) (by decide +kernel), sm_in 93 (by decide +kernel) (by decide +kernel), rfl, ⟨by decide +kernel, by decide +kernel, by decide +kernel⟩, by decide⟩
def gX12_curves_232 (E : sm_E) (L : sm_S → Prop) (d : Nat) (vs : List Value) (x3 : Int32) (x4 : Int32) (m : sm_M) (Q : sm_M → Prop) : Prop := sm_go E L mX12_curves d 0 0 vs 232 [(0, .ref (sm_B E + 109)), (3, .int x3), (4, .int x4)] [] m 0 0 (sm_Z E L vs 0 0 (sm_QV Q))
def gX12_curves_194 (E : sm_E) (L : sm_S → Prop) (d : Nat) (vs : List Value) (x3 : Int32) (m : sm_M) (Q : sm_M → Prop) : Prop := sm_go E L mX12_curves d 0 0 vs 194 [(0, .ref (sm_B E + 109)), (3, .int x3)] [] m 0 0 (sm_Z E L vs 0 0 (sm_QV Q))
def gX12_curves_158 (E : sm_E) (L : sm_S → Prop) (d : Nat) (vs : List Value) (x3 : Int32) (s1 : Int32) (s2 : Int32) (m : sm_M) (Q : sm_M → Prop) : Prop := sm_go E L mX12_curves d 0 0 vs 158 [(0, .ref (sm_B E + 109)), (3, .int x3)] [.int s2, .int s1, .ref (sm_B E + 109)] m 0 0 (sm_Z E L vs 0 0 (sm_QV Q))
def gX12_curves_127 (E : sm_E) (L : sm_S → Prop) (d : Nat) (vs : List Value) (x3 : Int32) (s0 : Int32) (m : sm_M) (Q : sm_M → Prop) : Prop := sm_go E L mX12_curves d 0 0 vs 127 [(0, .ref (sm_B E + 109)), (3, .int x3)] [.int s0] m 0 0 (sm_Z E L vs 0 0 (sm_QV Q))
def gX12_curves_103 (E : sm_E) (L : sm_S → Prop) (d : Nat) (vs : List Value) (x3 : Int32) (s0 : Int32) (m : sm_M) (Q : sm_M → Prop) : Prop := sm_go E L mX12_curves d 0 0 vs 103 [(0, .ref (sm_B E + 109)), (3, .int x3)] [.int s0] m 0 0 (sm_Z E L vs 0 0 (sm_QV Q))
def gX12_curves_70 (E : sm_E) (L : sm_S → Prop) (d : Nat) (vs : List Value) (x3 : Int32) (m : sm_M) (Q : sm_M → Prop) : Prop := sm_go E L mX12_curves d 0 0 vs 70 [(0, .ref (sm_B E + 109)), (3, .int x3)] [] m 0 0 (sm_Z E L vs 0 0 (sm_QV Q))
def gX12_curves_45 (E : sm_E) (L : sm_S → Prop) (d : Nat) (vs : List Value) (x3 : Int32) (m : sm_M) (Q : sm_M → Prop) : Prop := sm_go E L mX12_curves d 0 0 vs 45 [(0, .ref (sm_B E + 109)), (3, .int x3)] [] m 0 0 (sm_Z E L vs 0 0 (sm_QV Q))
def gX12_curves_23 (E : sm_E) (L : sm_S → Prop) (d : Nat) (vs : List Value) (x3 : Int32) (m : sm_M) (Q : sm_M → Prop) : Prop := sm_go E L mX12_curves d 0 0 vs 23 [(0, .ref (sm_B E + 109)), (3, .int x3)] [] m 0 0 (sm_Z E L vs 0 0 (sm_QV Q))
theorem dX12_curves_232 : decode cX12_curves 232 = .ok (.aload_n 0, 1) := dk_aload_n_0 (by decide +kernel)
theorem dX12_curves_233 : decode cX12_curves 233 = .ok (.getfield 106, 3) := dk_getfield 106 (b1 := 0) (b2 := 106) (by decide +kernel) (by decide +kernel) (by decide +kernel) (by decide +kernel)
theorem dX12_curves_236 : decode cX12_curves 236 = .ok (.iload 4, 2) := dk_iload 4 (b := 4) (by decide +kernel) (by decide +kernel) (by decide +kernel)
theorem dX12_curves_238 : decode cX12_curves 238 = .ok (.iconst 1, 1) := dk_iconst_1 (by decide +kernel)
theorem dX12_curves_239 : decode cX12_curves 239 = .ok (.bastore, 1) := dk_bastore (by decide +kernel)
theorem dX12_curves_240 : decode cX12_curves 240 = .ok (.aload_n 0, 1) := dk_aload_n_0 (by decide +kernel)
theorem dX12_curves_241 : decode cX12_curves 241 = .ok (.getfield 106, 3) := dk_getfield 106 (b1 := 0) (b2 := 106) (by decide +kernel) (by decide +kernel) (by decide +kernel) (by decide +kernel)
theorem dX12_curves_244 : decode cX12_curves 244 = .ok (.aload_n 0, 1) := dk_aload_n_0 (by decide +kernel)
theorem dX12_curves_245 : decode cX12_curves 245 = .ok (.getfield 73, 3) := dk_getfield 73 (b1 := 0) (b2 := 73) (by decide +kernel) (by decide +kernel) (by decide +kernel) (by decide +kernel)
theorem dX12_curves_248 : decode cX12_curves 248 = .ok (.iload 4, 2) := dk_iload 4 (b := 4) (by decide +kernel) (by decide +kernel) (by decide +kernel)
theorem dX12_curves_250 : decode cX12_curves 250 = .ok (.iaload, 1) := dk_iaload (by decide +kernel)
theorem dX12_curves_251 : decode cX12_curves 251 = .ok (.iconst 1, 1) := dk_iconst_1 (by decide +kernel)
theorem dX12_curves_252 : decode cX12_curves 252 = .ok (.bastore, 1) := dk_bastore (by decide +kernel)
theorem dX12_curves_253 : decode cX12_curves 253 = .ok (.aload_n 0, 1) := dk_aload_n_0 (by decide +kernel)
theorem dX12_curves_254 : decode cX12_curves 254 = .ok (.getfield 70, 3) := dk_getfield 70 (b1 := 0) (b2 := 70) (by decide +kernel) (by decide +kernel) (by decide +kernel) (by decide +kernel)
theorem dX12_curves_257 : decode cX12_curves 257 = .ok (.aload_n 0, 1) := dk_aload_n_0 (by decide +kernel)
theorem dX12_curves_258 : decode cX12_curves 258 = .ok (.getfield 73, 3) := dk_getfield 73 (b1 := 0) (b2 := 73) (by decide +kernel) (by decide +kernel) (by decide +kernel) (by decide +kernel)
theorem dX12_curves_261 : decode cX12_curves 261 = .ok (.iload 4, 2) := dk_iload 4 (b := 4) (by decide +kernel) (by decide +kernel) (by decide +kernel)
theorem dX12_curves_263 : decode cX12_curves 263 = .ok (.iaload, 1) := dk_iaload (by decide +kernel)
theorem dX12_curves_264 : decode cX12_curves 264 = .ok (.iaload, 1) := dk_iaload (by decide +kernel)
theorem dX12_curves_265 : decode cX12_curves 265 = .ok (.istore 4, 2) := dk_istore 4 (b := 4) (by decide +kernel) (by decide +kernel) (by decide +kernel)
theorem dX12_curves_267 : decode cX12_curves 267 = .ok (.iload 4, 2) := dk_iload 4 (b := 4) (by decide +kernel) (by decide +kernel) (by decide +kernel)
theorem dX12_curves_269 : decode cX12_curves 269 = .ok (.iload_n 3, 1) := dk_iload_n_3 (by decide +kernel)
theorem dX12_curves_270 : decode cX12_curves 270 = .ok (.if_icmp .ne (-38), 3) := dk_if_icmp_ne (-38) (b1 := 255) (b2 := 218) (by decide +kernel) (by decide +kernel) (by decide +kernel) (by decide +kernel)
theorem dX12_curves_273 : decode cX12_curves 273 = .ok (.iinc 3 1, 3) := dk_iinc 3 1 (b1 := 3) (b2 := 1) (by decide +kernel) (by decide +kernel) (by decide +kernel) (by decide +kernel) (by decide +kernel)
theorem dX12_curves_276 : decode cX12_curves 276 = .ok (.goto (-82), 3) := dk_goto (-82) (b1 := 255) (b2 := 174) (by decide +kernel) (by decide +kernel) (by decide +kernel) (by decide +kernel)
set_option maxRecDepth 20000 in
theorem vX12_curves_232 {E : sm_E} {L : sm_S → Prop} {d : Nat} {vs : List Value} {x3 : Int32} {x4 : Int32}  {m : sm_M} {Q : sm_M → Prop} (hly : ∀ S, L S → ly S) (hd : 4 ≤ d) 
  (h : (vp_in x4 192) ∧ ∀ m_1 : sm_M, m_1 = sm_wI m 140 x4.toNatClampNeg 1 →
   (vp_in x4 192) ∧ (vp_in (m_1.1 129 x4.toNatClampNeg) 192) ∧ ∀ m_4 : sm_M, m_4 = sm_wI m_1 140 (m_1.1 129 x4.toNatClampNeg).toNatClampNeg 1 →
   (vp_in x4 192) ∧ (vp_in (m_4.1 129 x4.toNatClampNeg) 192) ∧ ∀ x4_8 : Int32, x4_8 = m_4.1 128 (m_4.1 129 x4.toNatClampNeg).toNatClampNeg →
   (¬ x4_8 = x3 →
      gX12_curves_232 E L d vs x3 x4_8 m_4 Q) ∧
   (x4_8 = x3 →
      ∀ x3_9 : Int32, x3_9 = x3 + 1 →
      gX12_curves_194 E L d vs x3_9 m_4 Q)) :
  gX12_curves_232 E L d vs x3 x4 m Q := by
  refine sm_aload_n (Y := mX12_curves) (pc := 232) 0 0 rfl rfl dX12_curves_232 ?_
  refine gf_RX12_106 (Y := mX12_curves) (pc := 233) (b := 140) rfl ((lk_109 hly) _) (lf_109_51 hly _) dX12_curves_233 ?_
  refine sm_iload (Y := mX12_curves) (pc := 236) 2 4 rfl dX12_curves_236 ?_
  refine sm_iconst (Y := mX12_curves) (pc := 238) 1 (by decide) dX12_curves_238 ?_
  obtain ⟨hn_2, h⟩ := h
  refine sm_zast (Y := mX12_curves) (pc := 239) (la_140 hly _) hn_2 (by decide) dX12_curves_239 (fun m_1 em_1 => ?_)
  replace h := h m_1 em_1
  refine sm_aload_n (Y := mX12_curves) (pc := 240) 0 0 rfl rfl dX12_curves_240 ?_
  refine gf_RX12_106 (Y := mX12_curves) (pc := 241) (b := 140) rfl ((lk_109 hly) _) (lf_109_51 hly _) dX12_curves_241 ?_
  refine sm_aload_n (Y := mX12_curves) (pc := 244) 0 0 rfl rfl dX12_curves_244 ?_
  refine gf_RX12_73 (Y := mX12_curves) (pc := 245) (b := 129) rfl ((lk_109 hly) _) (lf_109_38 hly _) dX12_curves_245 ?_
  refine sm_iload (Y := mX12_curves) (pc := 248) 2 4 rfl dX12_curves_248 ?_
  obtain ⟨hn_3, h⟩ := h
  refine sm_iald (Y := mX12_curves) (pc := 250) (la_129 hly _) hn_3 dX12_curves_250 ?_
  refine sm_iconst (Y := mX12_curves) (pc := 251) 1 (by decide) dX12_curves_251 ?_
  obtain ⟨hn_5, h⟩ := h
  refine sm_zast (Y := mX12_curves) (pc := 252) (la_140 hly _) hn_5 (by decide) dX12_curves_252 (fun m_4 em_4 => ?_)
  replace h := h m_4 em_4
  refine sm_aload_n (Y := mX12_curves) (pc := 253) 0 0 rfl rfl dX12_curves_253 ?_
  refine gf_RX12_70 (Y := mX12_curves) (pc := 254) (b := 128) rfl ((lk_109 hly) _) (lf_109_37 hly _) dX12_curves_254 ?_
  refine sm_aload_n (Y := mX12_curves) (pc := 257) 0 0 rfl rfl dX12_curves_257 ?_
  refine gf_RX12_73 (Y := mX12_curves) (pc := 258) (b := 129) rfl ((lk_109 hly) _) (lf_109_38 hly _) dX12_curves_258 ?_
  refine sm_iload (Y := mX12_curves) (pc := 261) 2 4 rfl dX12_curves_261 ?_
  obtain ⟨hn_6, h⟩ := h
  refine sm_iald (Y := mX12_curves) (pc := 263) (la_129 hly _) hn_6 dX12_curves_263 ?_
  obtain ⟨hn_7, h⟩ := h
  refine sm_iald (Y := mX12_curves) (pc := 264) (la_128 hly _) hn_7 dX12_curves_264 ?_
  refine sm_istore (Y := mX12_curves) (pc := 265) (fun y => [(4, .int y), (0, .ref (sm_B E + 109)), (3, .int x3)]) 4 (by decide) (fun _ => rfl) dX12_curves_265 (fun x4_8 ex4_8 => ?_)
  replace h := h x4_8 ex4_8
  refine sm_iload (Y := mX12_curves) (pc := 267) 0 4 rfl dX12_curves_267 ?_
  refine sm_iload_n (Y := mX12_curves) (pc := 269) 2 3 rfl rfl dX12_curves_269 ?_
  refine sm_icmp_ne (Y := mX12_curves) (pc := 270) 232 (by decide) dX12_curves_270 (fun hc => ?_) (fun hc => ?_)
  · replace h := h.1 hc
    refine sm_sub [1, 2, 0] rfl ?_
    exact h
  · replace h := h.2 hc
    refine sm_iinc (Y := mX12_curves) (pc := 273) (fun y => [(3, .int y), (4, .int x4_8), (0, .ref (sm_B E + 109))]) 2 3 rfl (by decide) (fun _ => rfl) dX12_curves_273 (fun x3_9 ex3_9 => ?_)
    replace h := h x3_9 ex3_9
    refine sm_goto (Y := mX12_curves) (pc := 276) 194 (by decide) dX12_curves_276 ?_
    refine sm_sub [2, 0] rfl ?_
    exact h
theorem dX12_curves_194 : decode cX12_curves 194 = .ok (.iload_n 3, 1) := dk_iload_n_3 (by decide +kernel)
theorem dX12_curves_195 : decode cX12_curves 195 = .ok (.bipush 96, 2) := dk_bipush 96 (b := 96) (by decide +kernel) (by decide +kernel) (by decide +kernel)
theorem dX12_curves_197 : decode cX12_curves 197 = .ok (.iconst 4, 1) := dk_iconst_4 (by decide +kernel)
theorem dX12_curves_198 : decode cX12_curves 198 = .ok (.aload_n 0, 1) := dk_aload_n_0 (by decide +kernel)
theorem dX12_curves_199 : decode cX12_curves 199 = .ok (.getfield 293, 3) := dk_getfield 293 (b1 := 1) (b2 := 37) (by decide +kernel) (by decide +kernel) (by decide +kernel) (by decide +kernel)
theorem dX12_curves_202 : decode cX12_curves 202 = .ok (.imul, 1) := dk_imul (by decide +kernel)
theorem dX12_curves_203 : decode cX12_curves 203 = .ok (.iadd, 1) := dk_iadd (by decide +kernel)
theorem dX12_curves_204 : decode cX12_curves 204 = .ok (.if_icmp .ge 75, 3) := dk_if_icmp_ge 75 (b1 := 0) (b2 := 75) (by decide +kernel) (by decide +kernel) (by decide +kernel) (by decide +kernel)
theorem dX12_curves_279 : decode cX12_curves 279 = .ok (.return_, 1) := dk_return_ (by decide +kernel)
theorem dX12_curves_207 : decode cX12_curves 207 = .ok (.aload_n 0, 1) := dk_aload_n_0 (by decide +kernel)
theorem dX12_curves_208 : decode cX12_curves 208 = .ok (.getfield 106, 3) := dk_getfield 106 (b1 := 0) (b2 := 106) (by decide +kernel) (by decide +kernel) (by decide +kernel) (by decide +kernel)
theorem dX12_curves_211 : decode cX12_curves 211 = .ok (.iload_n 3, 1) := dk_iload_n_3 (by decide +kernel)
theorem dX12_curves_212 : decode cX12_curves 212 = .ok (.baload, 1) := dk_baload (by decide +kernel)
theorem dX12_curves_213 : decode cX12_curves 213 = .ok (.ifCond .eq 6, 3) := dk_ifCond_eq 6 (b1 := 0) (b2 := 6) (by decide +kernel) (by decide +kernel) (by decide +kernel) (by decide +kernel)
theorem dX12_curves_219 : decode cX12_curves 219 = .ok (.aload_n 0, 1) := dk_aload_n_0 (by decide +kernel)
theorem dX12_curves_220 : decode cX12_curves 220 = .ok (.dup, 1) := dk_dup (by decide +kernel)
theorem dX12_curves_221 : decode cX12_curves 221 = .ok (.getfield 314, 3) := dk_getfield 314 (b1 := 1) (b2 := 58) (by decide +kernel) (by decide +kernel) (by decide +kernel) (by decide +kernel)
theorem dX12_curves_224 : decode cX12_curves 224 = .ok (.iconst 1, 1) := dk_iconst_1 (by decide +kernel)
theorem dX12_curves_225 : decode cX12_curves 225 = .ok (.iadd, 1) := dk_iadd (by decide +kernel)
theorem dX12_curves_226 : decode cX12_curves 226 = .ok (.putfield 314, 3) := dk_putfield 314 (b1 := 1) (b2 := 58) (by decide +kernel) (by decide +kernel) (by decide +kernel) (by decide +kernel)
theorem dX12_curves_229 : decode cX12_curves 229 = .ok (.iload_n 3, 1) := dk_iload_n_3 (by decide +kernel)
theorem dX12_curves_230 : decode cX12_curves 230 = .ok (.istore 4, 2) := dk_istore 4 (b := 4) (by decide +kernel) (by decide +kernel) (by decide +kernel)
theorem dX12_curves_216 : decode cX12_curves 216 = .ok (.goto 57, 3) := dk_goto 57 (b1 := 0) (b2 := 57) (by decide +kernel) (by decide +kernel) (by decide +kernel) (by decide +kernel)
set_option maxRecDepth 20000 in
theorem vX12_curves_194 {E : sm_E} {L : sm_S → Prop} {d : Nat} {vs : List Value} {x3 : Int32}  {m : sm_M} {Q : sm_M → Prop} (hly : ∀ S, L S → ly S) (hd : 4 ≤ d) 
  (h : (((96 : Int32) + ((4 : Int32) * (m.1 109 46))) ≤ x3 →
      Q m) ∧
   (¬ ((96 : Int32) + ((4 : Int32) * (m.1 109 46))) ≤ x3 →
      (vp_in x3 192) ∧ ((m.1 140 x3.toNatClampNeg) = 0 →
         ∀ m_2 : sm_M, m_2 = sm_wI m 109 54 ((m.1 109 54) + 1) →
         gX12_curves_232 E L d vs x3 x3 m_2 Q) ∧
      (¬ (m.1 140 x3.toNatClampNeg) = 0 →
         ∀ x3_4 : Int32, x3_4 = x3 + 1 →
         gX12_curves_194 E L d vs x3_4 m Q))) :
  gX12_curves_194 E L d vs x3 m Q := by
  refine sm_iload_n (Y := mX12_curves) (pc := 194) 1 3 rfl rfl dX12_curves_194 ?_
  refine sm_bipush (Y := mX12_curves) (pc := 195) 96 (by decide) dX12_curves_195 ?_
  refine sm_iconst (Y := mX12_curves) (pc := 197) 4 (by decide) dX12_curves_197 ?_
  refine sm_aload_n (Y := mX12_curves) (pc := 198) 0 0 rfl rfl dX12_curves_198 ?_
  refine gf_RX12_293 (Y := mX12_curves) (pc := 199) rfl ((lk_109 hly) _) dX12_curves_199 ?_
  refine sm_imul (Y := mX12_curves) (pc := 202) dX12_curves_202 ?_
  refine sm_iadd (Y := mX12_curves) (pc := 203) dX12_curves_203 ?_
  refine sm_icmp_ge (Y := mX12_curves) (pc := 204) 279 (by decide) dX12_curves_204 (fun hc => ?_) (fun hc => ?_)
  · replace h := h.1 hc
    exact sm_vret (Y := mX12_curves) (pc := 279) rfl rfl rfl dX12_curves_279 ⟨rfl, h⟩
  · replace h := h.2 hc
    refine sm_aload_n (Y := mX12_curves) (pc := 207) 0 0 rfl rfl dX12_curves_207 ?_
    refine gf_RX12_106 (Y := mX12_curves) (pc := 208) (b := 140) rfl ((lk_109 hly) _) (lf_109_51 hly _) dX12_curves_208 ?_
    refine sm_iload_n (Y := mX12_curves) (pc := 211) 1 3 rfl rfl dX12_curves_211 ?_
    obtain ⟨hn_1, h⟩ := h
    refine sm_zald (Y := mX12_curves) (pc := 212) (la_140 hly _) hn_1 dX12_curves_212 ?_
    refine sm_if_eq (Y := mX12_curves) (pc := 213) 219 (by decide) dX12_curves_213 (fun hc => ?_) (fun hc => ?_)
    · replace h := h.1 hc
      refine sm_aload_n (Y := mX12_curves) (pc := 219) 0 0 rfl rfl dX12_curves_219 ?_
      refine sm_dup (Y := mX12_curves) (pc := 220) rfl dX12_curves_220 ?_
      refine gf_RX12_314 (Y := mX12_curves) (pc := 221) rfl ((lk_109 hly) _) dX12_curves_221 ?_
      refine sm_iconst (Y := mX12_curves) (pc := 224) 1 (by decide) dX12_curves_224 ?_
      refine sm_iadd (Y := mX12_curves) (pc := 225) dX12_curves_225 ?_
      refine pf_RX12_314 (Y := mX12_curves) (pc := 226) rfl ((lk_109 hly) _) dX12_curves_226 (fun m_2 em_2 => ?_)
      replace h := h m_2 em_2
      refine sm_iload_n (Y := mX12_curves) (pc := 229) 1 3 rfl rfl dX12_curves_229 ?_
      refine sm_istore0 (Y := mX12_curves) (pc := 230) [(4, .int x3), (0, .ref (sm_B E + 109)), (3, .int x3)] 4 (by decide) rfl dX12_curves_230 ?_
      refine sm_sub [1, 2, 0] rfl ?_
      exact h
    · replace h := h.2 hc
      refine sm_goto (Y := mX12_curves) (pc := 216) 273 (by decide) dX12_curves_216 ?_
      refine sm_iinc (Y := mX12_curves) (pc := 273) (fun y => [(3, .int y), (0, .ref (sm_B E + 109))]) 1 3 rfl (by decide) (fun _ => rfl) dX12_curves_273 (fun x3_4 ex3_4 => ?_)
      replace h := h x3_4 ex3_4
      refine sm_goto (Y := mX12_curves) (pc := 276) 194 (by decide) dX12_curves_276 ?_
      refine sm_sub [1, 0] rfl ?_
      exact h
theorem dX12_curves_158 : decode cX12_curves 158 = .ok (.iadd, 1) := dk_iadd (by decide +kernel)
theorem wRX12_317 : Cond.methodLink RX12 317 yX12_goes ∈ sm_T := sm_in 1530 (by decide +kernel) (by decide +kernel)
theorem dX12_curves_159 : decode cX12_curves 159 = .ok (.invokevirtual 317, 3) := dk_invokevirtual 317 (b1 := 1) (b2 := 61) (by decide +kernel) (by decide +kernel) (by decide +kernel) (by decide +kernel)
theorem dX12_curves_162 : decode cX12_curves 162 = .ok (.aload_n 0, 1) := dk_aload_n_0 (by decide +kernel)
theorem dX12_curves_163 : decode cX12_curves 163 = .ok (.dup, 1) := dk_dup (by decide +kernel)
theorem dX12_curves_164 : decode cX12_curves 164 = .ok (.getfield 305, 3) := dk_getfield 305 (b1 := 1) (b2 := 49) (by decide +kernel) (by decide +kernel) (by decide +kernel) (by decide +kernel)
theorem dX12_curves_167 : decode cX12_curves 167 = .ok (.iconst 1, 1) := dk_iconst_1 (by decide +kernel)
theorem dX12_curves_168 : decode cX12_curves 168 = .ok (.iadd, 1) := dk_iadd (by decide +kernel)
theorem dX12_curves_169 : decode cX12_curves 169 = .ok (.putfield 305, 3) := dk_putfield 305 (b1 := 1) (b2 := 49) (by decide +kernel) (by decide +kernel) (by decide +kernel) (by decide +kernel)
theorem dX12_curves_172 : decode cX12_curves 172 = .ok (.iinc 3 1, 3) := dk_iinc 3 1 (b1 := 3) (b2 := 1) (by decide +kernel) (by decide +kernel) (by decide +kernel) (by decide +kernel) (by decide +kernel)
theorem dX12_curves_175 : decode cX12_curves 175 = .ok (.goto (-105), 3) := dk_goto (-105) (b1 := 255) (b2 := 151) (by decide +kernel) (by decide +kernel) (by decide +kernel) (by decide +kernel)
set_option maxRecDepth 20000 in
theorem vX12_curves_158 {E : sm_E} {L : sm_S → Prop} {d : Nat} {vs : List Value} {x3 : Int32} {s1 : Int32} {s2 : Int32}  {m : sm_M} {Q : sm_M → Prop} (hly : ∀ S, L S → ly S) (hd : 4 ≤ d) 
  (h : sm_callV E L mX12_goes 2 0 0 [.ref (sm_B E + 109), .int (s1 + s2)] m (fun m_1 =>
   ∀ m_2 : sm_M, m_2 = sm_wI m_1 109 52 ((m_1.1 109 52) + 1) →
   ∀ x3_3 : Int32, x3_3 = x3 + 1 →
   gX12_curves_70 E L d vs x3_3 m_2 Q)) :
  gX12_curves_158 E L d vs x3 s1 s2 m Q := by
  refine sm_iadd (Y := mX12_curves) (pc := 158) dX12_curves_158 ?_
  refine sm_iv_V (Y := mX12_curves) (pc := 159) (As := [.int (s1 + s2)]) (a := 109) fX12_goes wRX12_317 (lk_109 hly) (by decide) rfl rfl rfl (Nat.le_trans (by decide) hd) (Nat.le_of_ble_eq_true rfl) ⟨Nat.le_refl _, Nat.le_refl _⟩ dX12_curves_159 rfl (sm_monoV h (fun m_1 h => ?_))
  refine sm_aload_n (Y := mX12_curves) (pc := 162) 0 0 rfl rfl dX12_curves_162 ?_
  refine sm_dup (Y := mX12_curves) (pc := 163) rfl dX12_curves_163 ?_
  refine gf_RX12_305 (Y := mX12_curves) (pc := 164) rfl ((lk_109 hly) _) dX12_curves_164 ?_
  refine sm_iconst (Y := mX12_curves) (pc := 167) 1 (by decide) dX12_curves_167 ?_
  refine sm_iadd (Y := mX12_curves) (pc := 168) dX12_curves_168 ?_
  refine pf_RX12_305 (Y := mX12_curves) (pc := 169) rfl ((lk_109 hly) _) dX12_curves_169 (fun m_2 em_2 => ?_)
  replace h := h m_2 em_2
  refine sm_iinc (Y := mX12_curves) (pc := 172) (fun y => [(3, .int y), (0, .ref (sm_B E + 109))]) 1 3 rfl (by decide) (fun _ => rfl) dX12_curves_172 (fun x3_3 ex3_3 => ?_)
  replace h := h x3_3 ex3_3
  refine sm_goto (Y := mX12_curves) (pc := 175) 70 (by decide) dX12_curves_175 ?_
  refine sm_sub [1, 0] rfl ?_
  exact h
theorem dX12_curves_127 : decode cX12_curves 127 = .ok (.istore 4, 2) := dk_istore 4 (b := 4) (by decide +kernel) (by decide +kernel) (by decide +kernel)
theorem dX12_curves_129 : decode cX12_curves 129 = .ok (.aload_n 0, 1) := dk_aload_n_0 (by decide +kernel)
theorem dX12_curves_130 : decode cX12_curves 130 = .ok (.getfield 103, 3) := dk_getfield 103 (b1 := 0) (b2 := 103) (by decide +kernel) (by decide +kernel) (by decide +kernel) (by decide +kernel)
theorem dX12_curves_133 : decode cX12_curves 133 = .ok (.aload_n 0, 1) := dk_aload_n_0 (by decide +kernel)
theorem dX12_curves_134 : decode cX12_curves 134 = .ok (.getfield 305, 3) := dk_getfield 305 (b1 := 1) (b2 := 49) (by decide +kernel) (by decide +kernel) (by decide +kernel) (by decide +kernel)
theorem dX12_curves_137 : decode cX12_curves 137 = .ok (.aload_n 0, 1) := dk_aload_n_0 (by decide +kernel)
theorem dX12_curves_138 : decode cX12_curves 138 = .ok (.getfield 308, 3) := dk_getfield 308 (b1 := 1) (b2 := 52) (by decide +kernel) (by decide +kernel) (by decide +kernel) (by decide +kernel)
theorem dX12_curves_141 : decode cX12_curves 141 = .ok (.iastore, 1) := dk_iastore (by decide +kernel)
theorem dX12_curves_142 : decode cX12_curves 142 = .ok (.aload_n 0, 1) := dk_aload_n_0 (by decide +kernel)
theorem dX12_curves_143 : decode cX12_curves 143 = .ok (.iconst 4, 1) := dk_iconst_4 (by decide +kernel)
theorem dX12_curves_144 : decode cX12_curves 144 = .ok (.iload_n 3, 1) := dk_iload_n_3 (by decide +kernel)
theorem dX12_curves_145 : decode cX12_curves 145 = .ok (.iconst 2, 1) := dk_iconst_2 (by decide +kernel)
theorem dX12_curves_146 : decode cX12_curves 146 = .ok (.idiv, 1) := dk_idiv (by decide +kernel)
theorem dX12_curves_147 : decode cX12_curves 147 = .ok (.imul, 1) := dk_imul (by decide +kernel)
theorem dX12_curves_148 : decode cX12_curves 148 = .ok (.iload 4, 2) := dk_iload 4 (b := 4) (by decide +kernel) (by decide +kernel) (by decide +kernel)
theorem dX12_curves_150 : decode cX12_curves 150 = .ok (.ifCond .eq 7, 3) := dk_ifCond_eq 7 (b1 := 0) (b2 := 7) (by decide +kernel) (by decide +kernel) (by decide +kernel) (by decide +kernel)
theorem dX12_curves_157 : decode cX12_curves 157 = .ok (.iconst 2, 1) := dk_iconst_2 (by decide +kernel)
theorem dX12_curves_153 : decode cX12_curves 153 = .ok (.iconst 0, 1) := dk_iconst_0 (by decide +kernel)
theorem dX12_curves_154 : decode cX12_curves 154 = .ok (.goto 4, 3) := dk_goto 4 (b1 := 0) (b2 := 4) (by decide +kernel) (by decide +kernel) (by decide +kernel) (by decide +kernel)
set_option maxRecDepth 20000 in
theorem vX12_curves_127 {E : sm_E} {L : sm_S → Prop} {d : Nat} {vs : List Value} {x3 : Int32} {s0 : Int32}  {m : sm_M} {Q : sm_M → Prop} (hly : ∀ S, L S → ly S) (hd : 4 ≤ d) 
  (h : (vp_in (m.1 109 52) 50) ∧ ∀ m_2 : sm_M, m_2 = sm_wI m 139 (m.1 109 52).toNatClampNeg (m.1 109 53) →
   (s0 = 0 →
      gX12_curves_158 E L d vs x3 ((4 : Int32) * (x3 / 2)) 2 m_2 Q) ∧
   (¬ s0 = 0 →
      gX12_curves_158 E L d vs x3 ((4 : Int32) * (x3 / 2)) 0 m_2 Q)) :
  gX12_curves_127 E L d vs x3 s0 m Q := by
  refine sm_istore0 (Y := mX12_curves) (pc := 127) [(4, .int s0), (0, .ref (sm_B E + 109)), (3, .int x3)] 4 (by decide) rfl dX12_curves_127 ?_
  refine sm_aload_n (Y := mX12_curves) (pc := 129) 1 0 rfl rfl dX12_curves_129 ?_
  refine gf_RX12_103 (Y := mX12_curves) (pc := 130) (b := 139) rfl ((lk_109 hly) _) (lf_109_50 hly _) dX12_curves_130 ?_
  refine sm_aload_n (Y := mX12_curves) (pc := 133) 1 0 rfl rfl dX12_curves_133 ?_
  refine gf_RX12_305 (Y := mX12_curves) (pc := 134) rfl ((lk_109 hly) _) dX12_curves_134 ?_
  refine sm_aload_n (Y := mX12_curves) (pc := 137) 1 0 rfl rfl dX12_curves_137 ?_
  refine gf_RX12_308 (Y := mX12_curves) (pc := 138) rfl ((lk_109 hly) _) dX12_curves_138 ?_
  obtain ⟨hn_3, h⟩ := h
  refine sm_iast (Y := mX12_curves) (pc := 141) (la_139 hly _) hn_3 dX12_curves_141 (fun m_2 em_2 => ?_)
  replace h := h m_2 em_2
  refine sm_aload_n (Y := mX12_curves) (pc := 142) 1 0 rfl rfl dX12_curves_142 ?_
  refine sm_iconst (Y := mX12_curves) (pc := 143) 4 (by decide) dX12_curves_143 ?_
  refine sm_iload_n (Y := mX12_curves) (pc := 144) 2 3 rfl rfl dX12_curves_144 ?_
  refine sm_iconst (Y := mX12_curves) (pc := 145) 2 (by decide) dX12_curves_145 ?_
  refine sm_idiv (Y := mX12_curves) (pc := 146) (by decide) dX12_curves_146 ?_
  refine sm_imul (Y := mX12_curves) (pc := 147) dX12_curves_147 ?_
  refine sm_iload (Y := mX12_curves) (pc := 148) 0 4 rfl dX12_curves_148 ?_
  refine sm_if_eq (Y := mX12_curves) (pc := 150) 157 (by decide) dX12_curves_150 (fun hc => ?_) (fun hc => ?_)
  · replace h := h.1 hc
    refine sm_iconst (Y := mX12_curves) (pc := 157) 2 (by decide) dX12_curves_157 ?_
    refine sm_sub [1, 2] rfl ?_
    exact h
  · replace h := h.2 hc
    refine sm_iconst (Y := mX12_curves) (pc := 153) 0 (by decide) dX12_curves_153 ?_
    refine sm_goto (Y := mX12_curves) (pc := 154) 158 (by decide) dX12_curves_154 ?_
    refine sm_sub [1, 2] rfl ?_
    exact h
theorem dX12_curves_103 : decode cX12_curves 103 = .ok (.aload_n 0, 1) := dk_aload_n_0 (by decide +kernel)
theorem dX12_curves_104 : decode cX12_curves 104 = .ok (.getfield 76, 3) := dk_getfield 76 (b1 := 0) (b2 := 76) (by decide +kernel) (by decide +kernel) (by decide +kernel) (by decide +kernel)
theorem dX12_curves_107 : decode cX12_curves 107 = .ok (.iload_n 3, 1) := dk_iload_n_3 (by decide +kernel)
theorem dX12_curves_108 : decode cX12_curves 108 = .ok (.iconst 2, 1) := dk_iconst_2 (by decide +kernel)
theorem dX12_curves_109 : decode cX12_curves 109 = .ok (.idiv, 1) := dk_idiv (by decide +kernel)
theorem dX12_curves_110 : decode cX12_curves 110 = .ok (.iaload, 1) := dk_iaload (by decide +kernel)
theorem dX12_curves_111 : decode cX12_curves 111 = .ok (.ifCond .le 7, 3) := dk_ifCond_le 7 (b1 := 0) (b2 := 7) (by decide +kernel) (by decide +kernel) (by decide +kernel) (by decide +kernel)
theorem dX12_curves_118 : decode cX12_curves 118 = .ok (.iconst 0, 1) := dk_iconst_0 (by decide +kernel)
theorem dX12_curves_119 : decode cX12_curves 119 = .ok (.if_icmp .ne 7, 3) := dk_if_icmp_ne 7 (b1 := 0) (b2 := 7) (by decide +kernel) (by decide +kernel) (by decide +kernel) (by decide +kernel)
theorem dX12_curves_126 : decode cX12_curves 126 = .ok (.iconst 0, 1) := dk_iconst_0 (by decide +kernel)
theorem dX12_curves_122 : decode cX12_curves 122 = .ok (.iconst 1, 1) := dk_iconst_1 (by decide +kernel)
theorem dX12_curves_123 : decode cX12_curves 123 = .ok (.goto 4, 3) := dk_goto 4 (b1 := 0) (b2 := 4) (by decide +kernel) (by decide +kernel) (by decide +kernel) (by decide +kernel)
theorem dX12_curves_114 : decode cX12_curves 114 = .ok (.iconst 1, 1) := dk_iconst_1 (by decide +kernel)
theorem dX12_curves_115 : decode cX12_curves 115 = .ok (.goto 4, 3) := dk_goto 4 (b1 := 0) (b2 := 4) (by decide +kernel) (by decide +kernel) (by decide +kernel) (by decide +kernel)
set_option maxRecDepth 20000 in
theorem vX12_curves_103 {E : sm_E} {L : sm_S → Prop} {d : Nat} {vs : List Value} {x3 : Int32} {s0 : Int32}  {m : sm_M} {Q : sm_M → Prop} (hly : ∀ S, L S → ly S) (hd : 4 ≤ d) 
  (h : (vp_in (x3 / 2) 24) ∧ ((m.1 130 (x3 / 2).toNatClampNeg) ≤ 0 →
      (¬ s0 = 0 →
         gX12_curves_127 E L d vs x3 0 m Q) ∧
      (s0 = 0 →
         gX12_curves_127 E L d vs x3 1 m Q)) ∧
   (¬ (m.1 130 (x3 / 2).toNatClampNeg) ≤ 0 →
      (¬ s0 = 1 →
         gX12_curves_127 E L d vs x3 0 m Q) ∧
      (s0 = 1 →
         gX12_curves_127 E L d vs x3 1 m Q))) :
  gX12_curves_103 E L d vs x3 s0 m Q := by
  refine sm_aload_n (Y := mX12_curves) (pc := 103) 0 0 rfl rfl dX12_curves_103 ?_
  refine gf_RX12_76 (Y := mX12_curves) (pc := 104) (b := 130) rfl ((lk_109 hly) _) (lf_109_39 hly _) dX12_curves_104 ?_
  refine sm_iload_n (Y := mX12_curves) (pc := 107) 1 3 rfl rfl dX12_curves_107 ?_
  refine sm_iconst (Y := mX12_curves) (pc := 108) 2 (by decide) dX12_curves_108 ?_
  refine sm_idiv (Y := mX12_curves) (pc := 109) (by decide) dX12_curves_109 ?_
  obtain ⟨hn_1, h⟩ := h
  refine sm_iald (Y := mX12_curves) (pc := 110) (la_130 hly _) hn_1 dX12_curves_110 ?_
  refine sm_if_le (Y := mX12_curves) (pc := 111) 118 (by decide) dX12_curves_111 (fun hc => ?_) (fun hc => ?_)
  · replace h := h.1 hc
    refine sm_iconst (Y := mX12_curves) (pc := 118) 0 (by decide) dX12_curves_118 ?_
    refine sm_icmp_ne (Y := mX12_curves) (pc := 119) 126 (by decide) dX12_curves_119 (fun hc => ?_) (fun hc => ?_)
    · replace h := h.1 hc
      refine sm_iconst (Y := mX12_curves) (pc := 126) 0 (by decide) dX12_curves_126 ?_
      exact h
    · replace h := h.2 hc
      refine sm_iconst (Y := mX12_curves) (pc := 122) 1 (by decide) dX12_curves_122 ?_
      refine sm_goto (Y := mX12_curves) (pc := 123) 127 (by decide) dX12_curves_123 ?_
      exact h
  · replace h := h.2 hc
    refine sm_iconst (Y := mX12_curves) (pc := 114) 1 (by decide) dX12_curves_114 ?_
    refine sm_goto (Y := mX12_curves) (pc := 115) 119 (by decide) dX12_curves_115 ?_
    refine sm_icmp_ne (Y := mX12_curves) (pc := 119) 126 (by decide) dX12_curves_119 (fun hc => ?_) (fun hc => ?_)
    · replace h := h.1 hc
      refine sm_iconst (Y := mX12_curves) (pc := 126) 0 (by decide) dX12_curves_126 ?_
      exact h
    · replace h := h.2 hc
      refine sm_iconst (Y := mX12_curves) (pc := 122) 1 (by decide) dX12_curves_122 ?_
      refine sm_goto (Y := mX12_curves) (pc := 123) 127 (by decide) dX12_curves_123 ?_
      exact h
theorem dX12_curves_70 : decode cX12_curves 70 = .ok (.iload_n 3, 1) := dk_iload_n_3 (by decide +kernel)
theorem dX12_curves_71 : decode cX12_curves 71 = .ok (.iconst 2, 1) := dk_iconst_2 (by decide +kernel)
theorem dX12_curves_72 : decode cX12_curves 72 = .ok (.aload_n 0, 1) := dk_aload_n_0 (by decide +kernel)
theorem dX12_curves_73 : decode cX12_curves 73 = .ok (.getfield 286, 3) := dk_getfield 286 (b1 := 1) (b2 := 30) (by decide +kernel) (by decide +kernel) (by decide +kernel) (by decide +kernel)
theorem dX12_curves_76 : decode cX12_curves 76 = .ok (.imul, 1) := dk_imul (by decide +kernel)
theorem dX12_curves_77 : decode cX12_curves 77 = .ok (.if_icmp .ge 101, 3) := dk_if_icmp_ge 101 (b1 := 0) (b2 := 101) (by decide +kernel) (by decide +kernel) (by decide +kernel) (by decide +kernel)
theorem dX12_curves_178 : decode cX12_curves 178 = .ok (.aload_n 0, 1) := dk_aload_n_0 (by decide +kernel)
theorem dX12_curves_179 : decode cX12_curves 179 = .ok (.getfield 103, 3) := dk_getfield 103 (b1 := 0) (b2 := 103) (by decide +kernel) (by decide +kernel) (by decide +kernel) (by decide +kernel)
theorem dX12_curves_182 : decode cX12_curves 182 = .ok (.aload_n 0, 1) := dk_aload_n_0 (by decide +kernel)
theorem dX12_curves_183 : decode cX12_curves 183 = .ok (.getfield 305, 3) := dk_getfield 305 (b1 := 1) (b2 := 49) (by decide +kernel) (by decide +kernel) (by decide +kernel) (by decide +kernel)
theorem dX12_curves_186 : decode cX12_curves 186 = .ok (.aload_n 0, 1) := dk_aload_n_0 (by decide +kernel)
theorem dX12_curves_187 : decode cX12_curves 187 = .ok (.getfield 308, 3) := dk_getfield 308 (b1 := 1) (b2 := 52) (by decide +kernel) (by decide +kernel) (by decide +kernel) (by decide +kernel)
theorem dX12_curves_190 : decode cX12_curves 190 = .ok (.iastore, 1) := dk_iastore (by decide +kernel)
theorem dX12_curves_191 : decode cX12_curves 191 = .ok (.bipush 96, 2) := dk_bipush 96 (b := 96) (by decide +kernel) (by decide +kernel) (by decide +kernel)
theorem dX12_curves_193 : decode cX12_curves 193 = .ok (.istore_n 3, 1) := dk_istore_n_3 (by decide +kernel)
theorem dX12_curves_80 : decode cX12_curves 80 = .ok (.aload_n 0, 1) := dk_aload_n_0 (by decide +kernel)
theorem dX12_curves_81 : decode cX12_curves 81 = .ok (.getfield 94, 3) := dk_getfield 94 (b1 := 0) (b2 := 94) (by decide +kernel) (by decide +kernel) (by decide +kernel) (by decide +kernel)
theorem dX12_curves_84 : decode cX12_curves 84 = .ok (.iload_n 3, 1) := dk_iload_n_3 (by decide +kernel)
theorem dX12_curves_85 : decode cX12_curves 85 = .ok (.iaload, 1) := dk_iaload (by decide +kernel)
theorem dX12_curves_86 : decode cX12_curves 86 = .ok (.ifCond .lt 6, 3) := dk_ifCond_lt 6 (b1 := 0) (b2 := 6) (by decide +kernel) (by decide +kernel) (by decide +kernel) (by decide +kernel)
theorem dX12_curves_92 : decode cX12_curves 92 = .ok (.iload_n 3, 1) := dk_iload_n_3 (by decide +kernel)
theorem dX12_curves_93 : decode cX12_curves 93 = .ok (.iconst 2, 1) := dk_iconst_2 (by decide +kernel)
theorem dX12_curves_94 : decode cX12_curves 94 = .ok (.irem, 1) := dk_irem (by decide +kernel)
theorem dX12_curves_95 : decode cX12_curves 95 = .ok (.ifCond .ne 7, 3) := dk_ifCond_ne 7 (b1 := 0) (b2 := 7) (by decide +kernel) (by decide +kernel) (by decide +kernel) (by decide +kernel)
theorem dX12_curves_102 : decode cX12_curves 102 = .ok (.iconst 0, 1) := dk_iconst_0 (by decide +kernel)
theorem dX12_curves_98 : decode cX12_curves 98 = .ok (.iconst 1, 1) := dk_iconst_1 (by decide +kernel)
theorem dX12_curves_99 : decode cX12_curves 99 = .ok (.goto 4, 3) := dk_goto 4 (b1 := 0) (b2 := 4) (by decide +kernel) (by decide +kernel) (by decide +kernel) (by decide +kernel)
theorem dX12_curves_89 : decode cX12_curves 89 = .ok (.goto 83, 3) := dk_goto 83 (b1 := 0) (b2 := 83) (by decide +kernel) (by decide +kernel) (by decide +kernel) (by decide +kernel)
set_option maxRecDepth 20000 in
theorem vX12_curves_70 {E : sm_E} {L : sm_S → Prop} {d : Nat} {vs : List Value} {x3 : Int32}  {m : sm_M} {Q : sm_M → Prop} (hly : ∀ S, L S → ly S) (hd : 4 ≤ d) 
  (h : (((2 : Int32) * (m.1 109 45)) ≤ x3 →
      (vp_in (m.1 109 52) 50) ∧ ∀ m_1 : sm_M, m_1 = sm_wI m 139 (m.1 109 52).toNatClampNeg (m.1 109 53) →
      gX12_curves_194 E L d vs 96 m_1 Q) ∧
   (¬ ((2 : Int32) * (m.1 109 45)) ≤ x3 →
      (vp_in x3 48) ∧ ((m.1 136 x3.toNatClampNeg) < 0 →
         (¬ (sm_rem x3 2) = 0 →
            gX12_curves_103 E L d vs x3 0 m Q) ∧
         ((sm_rem x3 2) = 0 →
            gX12_curves_103 E L d vs x3 1 m Q)) ∧
      (¬ (m.1 136 x3.toNatClampNeg) < 0 →
         ∀ x3_5 : Int32, x3_5 = x3 + 1 →
         gX12_curves_70 E L d vs x3_5 m Q))) :
  gX12_curves_70 E L d vs x3 m Q := by
  refine sm_iload_n (Y := mX12_curves) (pc := 70) 1 3 rfl rfl dX12_curves_70 ?_
  refine sm_iconst (Y := mX12_curves) (pc := 71) 2 (by decide) dX12_curves_71 ?_
  refine sm_aload_n (Y := mX12_curves) (pc := 72) 0 0 rfl rfl dX12_curves_72 ?_
  refine gf_RX12_286 (Y := mX12_curves) (pc := 73) rfl ((lk_109 hly) _) dX12_curves_73 ?_
  refine sm_imul (Y := mX12_curves) (pc := 76) dX12_curves_76 ?_
  refine sm_icmp_ge (Y := mX12_curves) (pc := 77) 178 (by decide) dX12_curves_77 (fun hc => ?_) (fun hc => ?_)
  · replace h := h.1 hc
    refine sm_aload_n (Y := mX12_curves) (pc := 178) 0 0 rfl rfl dX12_curves_178 ?_
    refine gf_RX12_103 (Y := mX12_curves) (pc := 179) (b := 139) rfl ((lk_109 hly) _) (lf_109_50 hly _) dX12_curves_179 ?_
    refine sm_aload_n (Y := mX12_curves) (pc := 182) 0 0 rfl rfl dX12_curves_182 ?_
    refine gf_RX12_305 (Y := mX12_curves) (pc := 183) rfl ((lk_109 hly) _) dX12_curves_183 ?_
    refine sm_aload_n (Y := mX12_curves) (pc := 186) 0 0 rfl rfl dX12_curves_186 ?_
    refine gf_RX12_308 (Y := mX12_curves) (pc := 187) rfl ((lk_109 hly) _) dX12_curves_187 ?_
    obtain ⟨hn_2, h⟩ := h
    refine sm_iast (Y := mX12_curves) (pc := 190) (la_139 hly _) hn_2 dX12_curves_190 (fun m_1 em_1 => ?_)
    replace h := h m_1 em_1
    refine sm_bipush (Y := mX12_curves) (pc := 191) 96 (by decide) dX12_curves_191 ?_
    refine sm_istore0_n (Y := mX12_curves) (pc := 193) [(3, .int 96), (0, .ref (sm_B E + 109))] 3 rfl (by decide) rfl dX12_curves_193 ?_
    refine sm_sub [1, 0] rfl ?_
    exact h
  · replace h := h.2 hc
    refine sm_aload_n (Y := mX12_curves) (pc := 80) 0 0 rfl rfl dX12_curves_80 ?_
    refine gf_RX12_94 (Y := mX12_curves) (pc := 81) (b := 136) rfl ((lk_109 hly) _) (lf_109_47 hly _) dX12_curves_81 ?_
    refine sm_iload_n (Y := mX12_curves) (pc := 84) 1 3 rfl rfl dX12_curves_84 ?_
    obtain ⟨hn_4, h⟩ := h
    refine sm_iald (Y := mX12_curves) (pc := 85) (la_136 hly _) hn_4 dX12_curves_85 ?_
    refine sm_if_lt (Y := mX12_curves) (pc := 86) 92 (by decide) dX12_curves_86 (fun hc => ?_) (fun hc => ?_)
    · replace h := h.1 hc
      refine sm_iload_n (Y := mX12_curves) (pc := 92) 1 3 rfl rfl dX12_curves_92 ?_
      refine sm_iconst (Y := mX12_curves) (pc := 93) 2 (by decide) dX12_curves_93 ?_
      refine sm_irem (Y := mX12_curves) (pc := 94) (by decide) dX12_curves_94 ?_
      refine sm_if_ne (Y := mX12_curves) (pc := 95) 102 (by decide) dX12_curves_95 (fun hc => ?_) (fun hc => ?_)
      · replace h := h.1 hc
        refine sm_iconst (Y := mX12_curves) (pc := 102) 0 (by decide) dX12_curves_102 ?_
        exact h
      · replace h := h.2 hc
        refine sm_iconst (Y := mX12_curves) (pc := 98) 1 (by decide) dX12_curves_98 ?_
        refine sm_goto (Y := mX12_curves) (pc := 99) 103 (by decide) dX12_curves_99 ?_
        exact h
    · replace h := h.2 hc
      refine sm_goto (Y := mX12_curves) (pc := 89) 172 (by decide) dX12_curves_89 ?_
      refine sm_iinc (Y := mX12_curves) (pc := 172) (fun y => [(3, .int y), (0, .ref (sm_B E + 109))]) 1 3 rfl (by decide) (fun _ => rfl) dX12_curves_172 (fun x3_5 ex3_5 => ?_)
      replace h := h x3_5 ex3_5
      refine sm_goto (Y := mX12_curves) (pc := 175) 70 (by decide) dX12_curves_175 ?_
      refine sm_sub [1, 0] rfl ?_
      exact h
theorem dX12_curves_45 : decode cX12_curves 45 = .ok (.iload_n 3, 1) := dk_iload_n_3 (by decide +kernel)
theorem dX12_curves_46 : decode cX12_curves 46 = .ok (.iconst 2, 1) := dk_iconst_2 (by decide +kernel)
theorem dX12_curves_47 : decode cX12_curves 47 = .ok (.aload_n 0, 1) := dk_aload_n_0 (by decide +kernel)
theorem dX12_curves_48 : decode cX12_curves 48 = .ok (.getfield 286, 3) := dk_getfield 286 (b1 := 1) (b2 := 30) (by decide +kernel) (by decide +kernel) (by decide +kernel) (by decide +kernel)
theorem dX12_curves_51 : decode cX12_curves 51 = .ok (.imul, 1) := dk_imul (by decide +kernel)
theorem dX12_curves_52 : decode cX12_curves 52 = .ok (.if_icmp .ge 16, 3) := dk_if_icmp_ge 16 (b1 := 0) (b2 := 16) (by decide +kernel) (by decide +kernel) (by decide +kernel) (by decide +kernel)
theorem dX12_curves_68 : decode cX12_curves 68 = .ok (.iconst 0, 1) := dk_iconst_0 (by decide +kernel)
theorem dX12_curves_69 : decode cX12_curves 69 = .ok (.istore_n 3, 1) := dk_istore_n_3 (by decide +kernel)
theorem dX12_curves_55 : decode cX12_curves 55 = .ok (.aload_n 0, 1) := dk_aload_n_0 (by decide +kernel)
theorem dX12_curves_56 : decode cX12_curves 56 = .ok (.getfield 94, 3) := dk_getfield 94 (b1 := 0) (b2 := 94) (by decide +kernel) (by decide +kernel) (by decide +kernel) (by decide +kernel)
theorem dX12_curves_59 : decode cX12_curves 59 = .ok (.iload_n 3, 1) := dk_iload_n_3 (by decide +kernel)
theorem dX12_curves_60 : decode cX12_curves 60 = .ok (.iconst (-1), 1) := dk_iconst_m1 (by decide +kernel)
theorem dX12_curves_61 : decode cX12_curves 61 = .ok (.iastore, 1) := dk_iastore (by decide +kernel)
theorem dX12_curves_62 : decode cX12_curves 62 = .ok (.iinc 3 1, 3) := dk_iinc 3 1 (b1 := 3) (b2 := 1) (by decide +kernel) (by decide +kernel) (by decide +kernel) (by decide +kernel) (by decide +kernel)
theorem dX12_curves_65 : decode cX12_curves 65 = .ok (.goto (-20), 3) := dk_goto (-20) (b1 := 255) (b2 := 236) (by decide +kernel) (by decide +kernel) (by decide +kernel) (by decide +kernel)
set_option maxRecDepth 20000 in
theorem vX12_curves_45 {E : sm_E} {L : sm_S → Prop} {d : Nat} {vs : List Value} {x3 : Int32}  {m : sm_M} {Q : sm_M → Prop} (hly : ∀ S, L S → ly S) (hd : 4 ≤ d) 
  (h : (((2 : Int32) * (m.1 109 45)) ≤ x3 →
      gX12_curves_70 E L d vs 0 m Q) ∧
   (¬ ((2 : Int32) * (m.1 109 45)) ≤ x3 →
      (vp_in x3 48) ∧ ∀ m_2 : sm_M, m_2 = sm_wI m 136 x3.toNatClampNeg (-1) →
      ∀ x3_4 : Int32, x3_4 = x3 + 1 →
      gX12_curves_45 E L d vs x3_4 m_2 Q)) :
  gX12_curves_45 E L d vs x3 m Q := by
  refine sm_iload_n (Y := mX12_curves) (pc := 45) 1 3 rfl rfl dX12_curves_45 ?_
  refine sm_iconst (Y := mX12_curves) (pc := 46) 2 (by decide) dX12_curves_46 ?_
  refine sm_aload_n (Y := mX12_curves) (pc := 47) 0 0 rfl rfl dX12_curves_47 ?_
  refine gf_RX12_286 (Y := mX12_curves) (pc := 48) rfl ((lk_109 hly) _) dX12_curves_48 ?_
  refine sm_imul (Y := mX12_curves) (pc := 51) dX12_curves_51 ?_
  refine sm_icmp_ge (Y := mX12_curves) (pc := 52) 68 (by decide) dX12_curves_52 (fun hc => ?_) (fun hc => ?_)
  · replace h := h.1 hc
    refine sm_iconst (Y := mX12_curves) (pc := 68) 0 (by decide) dX12_curves_68 ?_
    refine sm_istore0_n (Y := mX12_curves) (pc := 69) [(3, .int 0), (0, .ref (sm_B E + 109))] 3 rfl (by decide) rfl dX12_curves_69 ?_
    refine sm_sub [1, 0] rfl ?_
    exact h
  · replace h := h.2 hc
    refine sm_aload_n (Y := mX12_curves) (pc := 55) 0 0 rfl rfl dX12_curves_55 ?_
    refine gf_RX12_94 (Y := mX12_curves) (pc := 56) (b := 136) rfl ((lk_109 hly) _) (lf_109_47 hly _) dX12_curves_56 ?_
    refine sm_iload_n (Y := mX12_curves) (pc := 59) 1 3 rfl rfl dX12_curves_59 ?_
    refine sm_iconst (Y := mX12_curves) (pc := 60) (-1) (by decide) dX12_curves_60 ?_
    obtain ⟨hn_3, h⟩ := h
    refine sm_iast (Y := mX12_curves) (pc := 61) (la_136 hly _) hn_3 dX12_curves_61 (fun m_2 em_2 => ?_)
    replace h := h m_2 em_2
    refine sm_iinc (Y := mX12_curves) (pc := 62) (fun y => [(3, .int y), (0, .ref (sm_B E + 109))]) 1 3 rfl (by decide) (fun _ => rfl) dX12_curves_62 (fun x3_4 ex3_4 => ?_)
    replace h := h x3_4 ex3_4
    refine sm_goto (Y := mX12_curves) (pc := 65) 45 (by decide) dX12_curves_65 ?_
    refine sm_sub [1, 0] rfl ?_
    exact h
theorem dX12_curves_23 : decode cX12_curves 23 = .ok (.iload_n 3, 1) := dk_iload_n_3 (by decide +kernel)
theorem dX12_curves_24 : decode cX12_curves 24 = .ok (.sipush 192, 3) := dk_sipush 192 (b1 := 0) (b2 := 192) (by decide +kernel) (by decide +kernel) (by decide +kernel) (by decide +kernel)
theorem dX12_curves_27 : decode cX12_curves 27 = .ok (.if_icmp .ge 16, 3) := dk_if_icmp_ge 16 (b1 := 0) (b2 := 16) (by decide +kernel) (by decide +kernel) (by decide +kernel) (by decide +kernel)
theorem dX12_curves_43 : decode cX12_curves 43 = .ok (.iconst 0, 1) := dk_iconst_0 (by decide +kernel)
theorem dX12_curves_44 : decode cX12_curves 44 = .ok (.istore_n 3, 1) := dk_istore_n_3 (by decide +kernel)
theorem dX12_curves_30 : decode cX12_curves 30 = .ok (.aload_n 0, 1) := dk_aload_n_0 (by decide +kernel)
theorem dX12_curves_31 : decode cX12_curves 31 = .ok (.getfield 106, 3) := dk_getfield 106 (b1 := 0) (b2 := 106) (by decide +kernel) (by decide +kernel) (by decide +kernel) (by decide +kernel)
theorem dX12_curves_34 : decode cX12_curves 34 = .ok (.iload_n 3, 1) := dk_iload_n_3 (by decide +kernel)
theorem dX12_curves_35 : decode cX12_curves 35 = .ok (.iconst 0, 1) := dk_iconst_0 (by decide +kernel)
theorem dX12_curves_36 : decode cX12_curves 36 = .ok (.bastore, 1) := dk_bastore (by decide +kernel)
theorem dX12_curves_37 : decode cX12_curves 37 = .ok (.iinc 3 1, 3) := dk_iinc 3 1 (b1 := 3) (b2 := 1) (by decide +kernel) (by decide +kernel) (by decide +kernel) (by decide +kernel) (by decide +kernel)
theorem dX12_curves_40 : decode cX12_curves 40 = .ok (.goto (-17), 3) := dk_goto (-17) (b1 := 255) (b2 := 239) (by decide +kernel) (by decide +kernel) (by decide +kernel) (by decide +kernel)
set_option maxRecDepth 20000 in
theorem vX12_curves_23 {E : sm_E} {L : sm_S → Prop} {d : Nat} {vs : List Value} {x3 : Int32}  {m : sm_M} {Q : sm_M → Prop} (hly : ∀ S, L S → ly S) (hd : 4 ≤ d) 
  (h : (192 ≤ x3 →
      gX12_curves_45 E L d vs 0 m Q) ∧
   (¬ 192 ≤ x3 →
      (vp_in x3 192) ∧ ∀ m_2 : sm_M, m_2 = sm_wI m 140 x3.toNatClampNeg 0 →
      ∀ x3_4 : Int32, x3_4 = x3 + 1 →
      gX12_curves_23 E L d vs x3_4 m_2 Q)) :
  gX12_curves_23 E L d vs x3 m Q := by
  refine sm_iload_n (Y := mX12_curves) (pc := 23) 1 3 rfl rfl dX12_curves_23 ?_
  refine sm_sipush (Y := mX12_curves) (pc := 24) 192 (by decide) dX12_curves_24 ?_
  refine sm_icmp_ge (Y := mX12_curves) (pc := 27) 43 (by decide) dX12_curves_27 (fun hc => ?_) (fun hc => ?_)
  · replace h := h.1 hc
    refine sm_iconst (Y := mX12_curves) (pc := 43) 0 (by decide) dX12_curves_43 ?_
    refine sm_istore0_n (Y := mX12_curves) (pc := 44) [(3, .int 0), (0, .ref (sm_B E + 109))] 3 rfl (by decide) rfl dX12_curves_44 ?_
    refine sm_sub [1, 0] rfl ?_
    exact h
  · replace h := h.2 hc
    refine sm_aload_n (Y := mX12_curves) (pc := 30) 0 0 rfl rfl dX12_curves_30 ?_
    refine gf_RX12_106 (Y := mX12_curves) (pc := 31) (b := 140) rfl ((lk_109 hly) _) (lf_109_51 hly _) dX12_curves_31 ?_
    refine sm_iload_n (Y := mX12_curves) (pc := 34) 1 3 rfl rfl dX12_curves_34 ?_
    refine sm_iconst (Y := mX12_curves) (pc := 35) 0 (by decide) dX12_curves_35 ?_
    obtain ⟨hn_3, h⟩ := h
    refine sm_zast (Y := mX12_curves) (pc := 36) (la_140 hly _) hn_3 (by decide) dX12_curves_36 (fun m_2 em_2 => ?_)
    replace h := h m_2 em_2
    refine sm_iinc (Y := mX12_curves) (pc := 37) (fun y => [(3, .int y), (0, .ref (sm_B E + 109))]) 1 3 rfl (by decide) (fun _ => rfl) dX12_curves_37 (fun x3_4 ex3_4 => ?_)
    replace h := h x3_4 ex3_4
    refine sm_goto (Y := mX12_curves) (pc := 40) 23 (by decide) dX12_curves_40 ?_
    refine sm_sub [1, 0] rfl ?_
    exact h
theorem dX12_curves_0 : decode cX12_curves 0 = .ok (.aload_n 0, 1) := dk_aload_n_0 (by decide +kernel)
theorem dX12_curves_1 : decode cX12_curves 1 = .ok (.iload_n 1, 1) := dk_iload_n_1 (by decide +kernel)
theorem dX12_curves_2 : decode cX12_curves 2 = .ok (.iload_n 2, 1) := dk_iload_n_2 (by decide +kernel)
theorem wRX12_311 : Cond.methodLink RX12 311 yX12_lay ∈ sm_T := sm_in 1514 (by decide +kernel) (by decide +kernel)
theorem dX12_curves_3 : decode cX12_curves 3 = .ok (.invokevirtual 311, 3) := dk_invokevirtual 311 (b1 := 1) (b2 := 55) (by decide +kernel) (by decide +kernel) (by decide +kernel) (by decide +kernel)
theorem dX12_curves_6 : decode cX12_curves 6 = .ok (.aload_n 0, 1) := dk_aload_n_0 (by decide +kernel)
theorem dX12_curves_7 : decode cX12_curves 7 = .ok (.iconst 0, 1) := dk_iconst_0 (by decide +kernel)
theorem dX12_curves_8 : decode cX12_curves 8 = .ok (.putfield 305, 3) := dk_putfield 305 (b1 := 1) (b2 := 49) (by decide +kernel) (by decide +kernel) (by decide +kernel) (by decide +kernel)
theorem dX12_curves_11 : decode cX12_curves 11 = .ok (.aload_n 0, 1) := dk_aload_n_0 (by decide +kernel)
theorem dX12_curves_12 : decode cX12_curves 12 = .ok (.iconst 0, 1) := dk_iconst_0 (by decide +kernel)
theorem dX12_curves_13 : decode cX12_curves 13 = .ok (.putfield 308, 3) := dk_putfield 308 (b1 := 1) (b2 := 52) (by decide +kernel) (by decide +kernel) (by decide +kernel) (by decide +kernel)
theorem dX12_curves_16 : decode cX12_curves 16 = .ok (.aload_n 0, 1) := dk_aload_n_0 (by decide +kernel)
theorem dX12_curves_17 : decode cX12_curves 17 = .ok (.iconst 0, 1) := dk_iconst_0 (by decide +kernel)
theorem dX12_curves_18 : decode cX12_curves 18 = .ok (.putfield 314, 3) := dk_putfield 314 (b1 := 1) (b2 := 58) (by decide +kernel) (by decide +kernel) (by decide +kernel) (by decide +kernel)
theorem dX12_curves_21 : decode cX12_curves 21 = .ok (.iconst 0, 1) := dk_iconst_0 (by decide +kernel)
theorem dX12_curves_22 : decode cX12_curves 22 = .ok (.istore_n 3, 1) := dk_istore_n_3 (by decide +kernel)
set_option maxRecDepth 20000 in
theorem vX12_curves_0 {E : sm_E} {L : sm_S → Prop} {d : Nat} {x1 : Int32} {x2 : Int32}  {m : sm_M} {Q : sm_M → Prop} (hly : ∀ S, L S → ly S) (hd : 4 ≤ d) 
  (h : sm_callV E L mX12_lay 3 0 0 [.ref (sm_B E + 109), .int x1, .int x2] m (fun m_1 =>
   ∀ m_2 : sm_M, m_2 = sm_wI m_1 109 52 0 →
   ∀ m_3 : sm_M, m_3 = sm_wI m_2 109 53 0 →
   ∀ m_4 : sm_M, m_4 = sm_wI m_3 109 54 0 →
   gX12_curves_23 E L d ([.ref (sm_B E + 109), .int x1, .int x2]) 0 m_4 Q)) :
  sm_callV E L mX12_curves d 0 0 [.ref (sm_B E + 109), .int x1, .int x2] m Q := by
  refine sm_enter (by decide +kernel) (by simp [lg_sl, Value.category]) ?_
  refine sm_aload_n (Y := mX12_curves) (pc := 0) 0 0 rfl rfl dX12_curves_0 ?_
  refine sm_iload_n (Y := mX12_curves) (pc := 1) 1 1 rfl rfl dX12_curves_1 ?_
  refine sm_iload_n (Y := mX12_curves) (pc := 2) 2 2 rfl rfl dX12_curves_2 ?_
  refine sm_iv_V (Y := mX12_curves) (pc := 3) (As := [.int x1, .int x2]) (a := 109) fX12_lay wRX12_311 (lk_109 hly) (by decide) rfl rfl rfl (Nat.le_trans (by decide) hd) (Nat.le_of_ble_eq_true rfl) ⟨Nat.le_refl _, Nat.le_refl _⟩ dX12_curves_3 rfl (sm_monoV h (fun m_1 h => ?_))
  refine sm_aload_n (Y := mX12_curves) (pc := 6) 0 0 rfl rfl dX12_curves_6 ?_
  refine sm_iconst (Y := mX12_curves) (pc := 7) 0 (by decide) dX12_curves_7 ?_
  refine pf_RX12_305 (Y := mX12_curves) (pc := 8) rfl ((lk_109 hly) _) dX12_curves_8 (fun m_2 em_2 => ?_)
  replace h := h m_2 em_2
  refine sm_aload_n (Y := mX12_curves) (pc := 11) 0 0 rfl rfl dX12_curves_11 ?_
  refine sm_iconst (Y := mX12_curves) (pc := 12) 0 (by decide) dX12_curves_12 ?_
  refine pf_RX12_308 (Y := mX12_curves) (pc := 13) rfl ((lk_109 hly) _) dX12_curves_13 (fun m_3 em_3 => ?_)
  replace h := h m_3 em_3
  refine sm_aload_n (Y := mX12_curves) (pc := 16) 0 0 rfl rfl dX12_curves_16 ?_
  refine sm_iconst (Y := mX12_curves) (pc := 17) 0 (by decide) dX12_curves_17 ?_
  refine pf_RX12_314 (Y := mX12_curves) (pc := 18) rfl ((lk_109 hly) _) dX12_curves_18 (fun m_4 em_4 => ?_)
  replace h := h m_4 em_4
  refine sm_iconst (Y := mX12_curves) (pc := 21) 0 (by decide) dX12_curves_21 ?_
  refine sm_istore0_n (Y := mX12_curves) (pc := 22) [(3, .int 0), (0, .ref (sm_B E + 109)), (1, .int x1), (2, .int x2)] 3 rfl (by decide) rfl dX12_curves_22 ?_
  refine sm_sub [1, 0] rfl ?_
  exact h
