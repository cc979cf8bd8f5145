abbrev mX11_slot : sm_Y := (yX11_slot, cX11_slot, 4, (some FieldType.int))
theorem fX11_slot : sm_mi mX11_slot RX11 2 := ⟨sm_in 432 (by decide +kernel) (by decide +kernel), sm_in 430 (by decide +kernel) (by decide +kernel), sm_in 431 (by decide +kernel) (by decide +kernel), sm_in 82 (by decide +kernel) (by decide +kernel), rfl, ⟨by decide +kernel, by decide +kernel, by decide +kernel⟩, by decide⟩
def gX11_slot_49 (E : sm_E) (L : sm_S → Prop) (d : Nat) (vs : List Value) (x2 : Int32) (a3 : Nat) (m : sm_M) (Q : Int32 → sm_M → Prop) : Prop := sm_go E L mX11_slot d 0 0 vs 49 [(2, .int x2), (3, .ref (sm_B E + a3))] [] m 0 0 (sm_Z E L vs 0 0 (sm_QI Q))
theorem dX11_slot_49 : decode cX11_slot 49 = .ok (.iload_n 2, 1) := dk_iload_n_2 (by decide +kernel)
theorem dX11_slot_50 : decode cX11_slot 50 = .ok (.tableswitch 94 0 7 #[46, 51, 56, 61, 66, 71, 76, 89], 46) := by decide +kernel
theorem dX11_slot_96 : decode cX11_slot 96 = .ok (.aload_n 3, 1) := dk_aload_n_3 (by decide +kernel)
theorem dX11_slot_97 : decode cX11_slot 97 = .ok (.getfield 111, 3) := dk_getfield 111 (b1 := 0) (b2 := 111) (by decide +kernel) (by decide +kernel) (by decide +kernel) (by decide +kernel)
theorem dX11_slot_100 : decode cX11_slot 100 = .ok (.ireturn, 1) := dk_ireturn (by decide +kernel)
theorem dX11_slot_101 : decode cX11_slot 101 = .ok (.aload_n 3, 1) := dk_aload_n_3 (by decide +kernel)
theorem dX11_slot_102 : decode cX11_slot 102 = .ok (.getfield 114, 3) := dk_getfield 114 (b1 := 0) (b2 := 114) (by decide +kernel) (by decide +kernel) (by decide +kernel) (by decide +kernel)
theorem dX11_slot_105 : decode cX11_slot 105 = .ok (.ireturn, 1) := dk_ireturn (by decide +kernel)
theorem dX11_slot_106 : decode cX11_slot 106 = .ok (.aload_n 3, 1) := dk_aload_n_3 (by decide +kernel)
theorem dX11_slot_107 : decode cX11_slot 107 = .ok (.getfield 117, 3) := dk_getfield 117 (b1 := 0) (b2 := 117) (by decide +kernel) (by decide +kernel) (by decide +kernel) (by decide +kernel)
theorem dX11_slot_110 : decode cX11_slot 110 = .ok (.ireturn, 1) := dk_ireturn (by decide +kernel)
theorem dX11_slot_111 : decode cX11_slot 111 = .ok (.aload_n 3, 1) := dk_aload_n_3 (by decide +kernel)
theorem dX11_slot_112 : decode cX11_slot 112 = .ok (.getfield 120, 3) := dk_getfield 120 (b1 := 0) (b2 := 120) (by decide +kernel) (by decide +kernel) (by decide +kernel) (by decide +kernel)
theorem dX11_slot_115 : decode cX11_slot 115 = .ok (.ireturn, 1) := dk_ireturn (by decide +kernel)
theorem dX11_slot_116 : decode cX11_slot 116 = .ok (.aload_n 3, 1) := dk_aload_n_3 (by decide +kernel)
theorem dX11_slot_117 : decode cX11_slot 117 = .ok (.getfield 123, 3) := dk_getfield 123 (b1 := 0) (b2 := 123) (by decide +kernel) (by decide +kernel) (by decide +kernel) (by decide +kernel)
theorem dX11_slot_120 : decode cX11_slot 120 = .ok (.ireturn, 1) := dk_ireturn (by decide +kernel)
theorem dX11_slot_121 : decode cX11_slot 121 = .ok (.aload_n 3, 1) := dk_aload_n_3 (by decide +kernel)
theorem dX11_slot_122 : decode cX11_slot 122 = .ok (.getfield 126, 3) := dk_getfield 126 (b1 := 0) (b2 := 126) (by decide +kernel) (by decide +kernel) (by decide +kernel) (by decide +kernel)
theorem dX11_slot_125 : decode cX11_slot 125 = .ok (.ireturn, 1) := dk_ireturn (by decide +kernel)
theorem dX11_slot_126 : decode cX11_slot 126 = .ok (.aload_n 3, 1) := dk_aload_n_3 (by decide +kernel)
theorem dX11_slot_127 : decode cX11_slot 127 = .ok (.getfield 129, 3) := dk_getfield 129 (b1 := 0) (b2 := 129) (by decide +kernel) (by decide +kernel) (by decide +kernel) (by decide +kernel)
theorem dX11_slot_130 : decode cX11_slot 130 = .ok (.ifCond .eq 7, 3) := dk_ifCond_eq 7 (b1 := 0) (b2 := 7) (by decide +kernel) (by decide +kernel) (by decide +kernel) (by decide +kernel)
theorem dX11_slot_137 : decode cX11_slot 137 = .ok (.iconst 0, 1) := dk_iconst_0 (by decide +kernel)
theorem dX11_slot_138 : decode cX11_slot 138 = .ok (.ireturn, 1) := dk_ireturn (by decide +kernel)
theorem dX11_slot_133 : decode cX11_slot 133 = .ok (.iconst 1, 1) := dk_iconst_1 (by decide +kernel)
theorem dX11_slot_134 : decode cX11_slot 134 = .ok (.goto 4, 3) := dk_goto 4 (b1 := 0) (b2 := 4) (by decide +kernel) (by decide +kernel) (by decide +kernel) (by decide +kernel)
theorem dX11_slot_139 : decode cX11_slot 139 = .ok (.aload_n 3, 1) := dk_aload_n_3 (by decide +kernel)
theorem dX11_slot_140 : decode cX11_slot 140 = .ok (.getfield 132, 3) := dk_getfield 132 (b1 := 0) (b2 := 132) (by decide +kernel) (by decide +kernel) (by decide +kernel) (by decide +kernel)
theorem dX11_slot_143 : decode cX11_slot 143 = .ok (.ireturn, 1) := dk_ireturn (by decide +kernel)
theorem dX11_slot_144 : decode cX11_slot 144 = .ok (.aload_n 3, 1) := dk_aload_n_3 (by decide +kernel)
theorem dX11_slot_145 : decode cX11_slot 145 = .ok (.getfield 135, 3) := dk_getfield 135 (b1 := 0) (b2 := 135) (by decide +kernel) (by decide +kernel) (by decide +kernel) (by decide +kernel)
theorem dX11_slot_148 : decode cX11_slot 148 = .ok (.ireturn, 1) := dk_ireturn (by decide +kernel)
set_option maxRecDepth 20000 in
theorem vX11_slot_49 {E : sm_E} {L : sm_S → Prop} {d : Nat} {vs : List Value} {x2 : Int32} {a3 : Nat} {na3 : Nat} {m : sm_M} {Q : Int32 → sm_M → Prop}  (hd : 2 ≤ d) (hTa3 : sm_tan L a3 na3)
  (h : (x2 = 0 →
      Q (m.1 a3 2) m) ∧
   (x2 = 1 →
      Q (m.1 a3 3) m) ∧
   (x2 = 2 →
      Q (m.1 a3 1) m) ∧
   (x2 = 3 →
      Q (m.1 a3 4) m) ∧
   (x2 = 4 →
      Q (m.1 a3 5) m) ∧
   (x2 = 5 →
      Q (m.1 a3 6) m) ∧
   (x2 = 6 →
      ((m.1 a3 7) = 0 →
         Q 0 m) ∧
      (¬ (m.1 a3 7) = 0 →
         Q 1 m)) ∧
   (x2 = 7 →
      Q (m.1 a3 9) m) ∧
   ((¬ x2 = 0 ∧ ¬ x2 = 1 ∧ ¬ x2 = 2 ∧ ¬ x2 = 3 ∧ ¬ x2 = 4 ∧ ¬ x2 = 5 ∧ ¬ x2 = 6 ∧ ¬ x2 = 7) →
      Q (m.1 a3 10) m)) :
  gX11_slot_49 E L d vs x2 a3 m Q := by
  refine sm_iload_n (Y := mX11_slot) (pc := 49) 0 2 rfl rfl dX11_slot_49 ?_
  by_cases hs50_0 : x2 = 0
  · refine sm_tableIn (Y := mX11_slot) (pc := 50) 96 (by rw [hs50_0]; decide) (by rw [hs50_0]; decide) (by first | (rw [hs50_0]; done) | (rw [hs50_0]; rfl)) (by decide) dX11_slot_50 ?_
    replace h := h.1 hs50_0
    refine sm_aload_n (Y := mX11_slot) (pc := 96) 1 3 rfl rfl dX11_slot_96 ?_
    refine gf_RX11_111 (Y := mX11_slot) (pc := 97) rfl ((fun S hS => (hTa3 S hS).1) _) dX11_slot_97 ?_
    exact sm_iret (Y := mX11_slot) (pc := 100) rfl rfl rfl dX11_slot_100 ⟨_, rfl, h⟩
  replace h := h.2
  by_cases hs50_1 : x2 = 1
  · refine sm_tableIn (Y := mX11_slot) (pc := 50) 101 (by rw [hs50_1]; decide) (by rw [hs50_1]; decide) (by first | (rw [hs50_1]; done) | (rw [hs50_1]; rfl)) (by decide) dX11_slot_50 ?_
    replace h := h.1 hs50_1
    refine sm_aload_n (Y := mX11_slot) (pc := 101) 1 3 rfl rfl dX11_slot_101 ?_
    refine gf_RX11_114 (Y := mX11_slot) (pc := 102) rfl ((fun S hS => (hTa3 S hS).1) _) dX11_slot_102 ?_
    exact sm_iret (Y := mX11_slot) (pc := 105) rfl rfl rfl dX11_slot_105 ⟨_, rfl, h⟩
  replace h := h.2
  by_cases hs50_2 : x2 = 2
  · refine sm_tableIn (Y := mX11_slot) (pc := 50) 106 (by rw [hs50_2]; decide) (by rw [hs50_2]; decide) (by first | (rw [hs50_2]; done) | (rw [hs50_2]; rfl)) (by decide) dX11_slot_50 ?_
    replace h := h.1 hs50_2
    refine sm_aload_n (Y := mX11_slot) (pc := 106) 1 3 rfl rfl dX11_slot_106 ?_
    refine gf_RX11_117 (Y := mX11_slot) (pc := 107) rfl ((fun S hS => (hTa3 S hS).1) _) dX11_slot_107 ?_
    exact sm_iret (Y := mX11_slot) (pc := 110) rfl rfl rfl dX11_slot_110 ⟨_, rfl, h⟩
  replace h := h.2
  by_cases hs50_3 : x2 = 3
  · refine sm_tableIn (Y := mX11_slot) (pc := 50) 111 (by rw [hs50_3]; decide) (by rw [hs50_3]; decide) (by first | (rw [hs50_3]; done) | (rw [hs50_3]; rfl)) (by decide) dX11_slot_50 ?_
    replace h := h.1 hs50_3
    refine sm_aload_n (Y := mX11_slot) (pc := 111) 1 3 rfl rfl dX11_slot_111 ?_
    refine gf_RX11_120 (Y := mX11_slot) (pc := 112) rfl ((fun S hS => (hTa3 S hS).1) _) dX11_slot_112 ?_
    exact sm_iret (Y := mX11_slot) (pc := 115) rfl rfl rfl dX11_slot_115 ⟨_, rfl, h⟩
  replace h := h.2
  by_cases hs50_4 : x2 = 4
  · refine sm_tableIn (Y := mX11_slot) (pc := 50) 116 (by rw [hs50_4]; decide) (by rw [hs50_4]; decide) (by first | (rw [hs50_4]; done) | (rw [hs50_4]; rfl)) (by decide) dX11_slot_50 ?_
    replace h := h.1 hs50_4
    refine sm_aload_n (Y := mX11_slot) (pc := 116) 1 3 rfl rfl dX11_slot_116 ?_
    refine gf_RX11_123 (Y := mX11_slot) (pc := 117) rfl ((fun S hS => (hTa3 S hS).1) _) dX11_slot_117 ?_
    exact sm_iret (Y := mX11_slot) (pc := 120) rfl rfl rfl dX11_slot_120 ⟨_, rfl, h⟩
  replace h := h.2
  by_cases hs50_5 : x2 = 5
  · refine sm_tableIn (Y := mX11_slot) (pc := 50) 121 (by rw [hs50_5]; decide) (by rw [hs50_5]; decide) (by first | (rw [hs50_5]; done) | (rw [hs50_5]; rfl)) (by decide) dX11_slot_50 ?_
    replace h := h.1 hs50_5
    refine sm_aload_n (Y := mX11_slot) (pc := 121) 1 3 rfl rfl dX11_slot_121 ?_
    refine gf_RX11_126 (Y := mX11_slot) (pc := 122) rfl ((fun S hS => (hTa3 S hS).1) _) dX11_slot_122 ?_
    exact sm_iret (Y := mX11_slot) (pc := 125) rfl rfl rfl dX11_slot_125 ⟨_, rfl, h⟩
  replace h := h.2
  by_cases hs50_6 : x2 = 6
  · refine sm_tableIn (Y := mX11_slot) (pc := 50) 126 (by rw [hs50_6]; decide) (by rw [hs50_6]; decide) (by first | (rw [hs50_6]; done) | (rw [hs50_6]; rfl)) (by decide) dX11_slot_50 ?_
    replace h := h.1 hs50_6
    refine sm_aload_n (Y := mX11_slot) (pc := 126) 1 3 rfl rfl dX11_slot_126 ?_
    refine gf_RX11_129 (Y := mX11_slot) (pc := 127) rfl ((fun S hS => (hTa3 S hS).1) _) dX11_slot_127 ?_
    refine sm_if_eq (Y := mX11_slot) (pc := 130) 137 (by decide) dX11_slot_130 (fun hc => ?_) (fun hc => ?_)
    · replace h := h.1 hc
      refine sm_iconst (Y := mX11_slot) (pc := 137) 0 (by decide) dX11_slot_137 ?_
      exact sm_iret (Y := mX11_slot) (pc := 138) rfl rfl rfl dX11_slot_138 ⟨_, rfl, h⟩
    · replace h := h.2 hc
      refine sm_iconst (Y := mX11_slot) (pc := 133) 1 (by decide) dX11_slot_133 ?_
      refine sm_goto (Y := mX11_slot) (pc := 134) 138 (by decide) dX11_slot_134 ?_
      exact sm_iret (Y := mX11_slot) (pc := 138) rfl rfl rfl dX11_slot_138 ⟨_, rfl, h⟩
  replace h := h.2
  by_cases hs50_7 : x2 = 7
  · refine sm_tableIn (Y := mX11_slot) (pc := 50) 139 (by rw [hs50_7]; decide) (by rw [hs50_7]; decide) (by first | (rw [hs50_7]; done) | (rw [hs50_7]; rfl)) (by decide) dX11_slot_50 ?_
    replace h := h.1 hs50_7
    refine sm_aload_n (Y := mX11_slot) (pc := 139) 1 3 rfl rfl dX11_slot_139 ?_
    refine gf_RX11_132 (Y := mX11_slot) (pc := 140) rfl ((fun S hS => (hTa3 S hS).1) _) dX11_slot_140 ?_
    exact sm_iret (Y := mX11_slot) (pc := 143) rfl rfl rfl dX11_slot_143 ⟨_, rfl, h⟩
  replace h := h.2
  refine sm_tableOut (Y := mX11_slot) (pc := 50) 144 (sm_tout (lo := 0) 8 (fun j hj => by
      match j, hj with
      | 0, _ => exact lv_neT hs50_0 (by decide)
      | 1, _ => exact lv_neT hs50_1 (by decide)
      | 2, _ => exact lv_neT hs50_2 (by decide)
      | 3, _ => exact lv_neT hs50_3 (by decide)
      | 4, _ => exact lv_neT hs50_4 (by decide)
      | 5, _ => exact lv_neT hs50_5 (by decide)
      | 6, _ => exact lv_neT hs50_6 (by decide)
      | 7, _ => exact lv_neT hs50_7 (by decide)
      | j + 8, hj => exact absurd hj (by omega))) (by decide) dX11_slot_50 ?_
  replace h := h ⟨hs50_0, hs50_1, hs50_2, hs50_3, hs50_4, hs50_5, hs50_6, hs50_7⟩
  refine sm_aload_n (Y := mX11_slot) (pc := 144) 1 3 rfl rfl dX11_slot_144 ?_
  refine gf_RX11_135 (Y := mX11_slot) (pc := 145) rfl ((fun S hS => (hTa3 S hS).1) _) dX11_slot_145 ?_
  exact sm_iret (Y := mX11_slot) (pc := 148) rfl rfl rfl dX11_slot_148 ⟨_, rfl, h⟩
theorem dX11_slot_0 : decode cX11_slot 0 = .ok (.iload_n 1, 1) := dk_iload_n_1 (by decide +kernel)
theorem wRX11_99 : Cond.methodLink RX11 99 yX11_isSlot ∈ sm_T := sm_in 433 (by decide +kernel) (by decide +kernel)
abbrev mX11_isSlot : sm_Y := (yX11_isSlot, cX11_isSlot, 1, (some FieldType.boolean))
theorem fX11_isSlot : sm_mt mX11_isSlot 1 := ⟨sm_in 435 (by decide +kernel) (by decide +kernel), sm_in 434 (by decide +kernel) (by decide +kernel), sm_in 82 (by decide +kernel) (by decide +kernel), ⟨by decide +kernel, by decide +kernel, by decide +kernel⟩, by decide⟩
theorem dX11_slot_1 : decode cX11_slot 1 = .ok (.invokestatic 99, 3) := dk_invokestatic 99 (b1 := 0) (b2 := 99) (by decide +kernel) (by decide +kernel) (by decide +kernel) (by decide +kernel)
theorem dX11_slot_4 : decode cX11_slot 4 = .ok (.ifCond .eq 13, 3) := dk_ifCond_eq 13 (b1 := 0) (b2 := 13) (by decide +kernel) (by decide +kernel) (by decide +kernel) (by decide +kernel)
theorem dX11_slot_17 : decode cX11_slot 17 = .ok (.aload_n 0, 1) := dk_aload_n_0 (by decide +kernel)
theorem dX11_slot_18 : decode cX11_slot 18 = .ok (.iconst 1, 1) := dk_iconst_1 (by decide +kernel)
theorem wRX11_103 : Cond.methodLink RX11 103 yX11_error ∈ sm_T := sm_in 436 (by decide +kernel) (by decide +kernel)
abbrev mX11_error : sm_Y := (yX11_error, cX11_error, 2, (some FieldType.int))
theorem fX11_error : sm_mi mX11_error RX11 1 := ⟨sm_in 439 (by decide +kernel) (by decide +kernel), sm_in 438 (by decide +kernel) (by decide +kernel), sm_in 0 (by decide +kernel) (by decide +kernel), sm_in 82 (by decide +kernel) (by decide +kernel), rfl, ⟨by decide +kernel, by decide +kernel, by decide +kernel⟩, by decide⟩
theorem dX11_slot_19 : decode cX11_slot 19 = .ok (.invokevirtual 103, 3) := dk_invokevirtual 103 (b1 := 0) (b2 := 103) (by decide +kernel) (by decide +kernel) (by decide +kernel) (by decide +kernel)
theorem dX11_slot_22 : decode cX11_slot 22 = .ok (.ireturn, 1) := dk_ireturn (by decide +kernel)
theorem dX11_slot_7 : decode cX11_slot 7 = .ok (.iload_n 2, 1) := dk_iload_n_2 (by decide +kernel)
theorem dX11_slot_8 : decode cX11_slot 8 = .ok (.ifCond .lt 9, 3) := dk_ifCond_lt 9 (b1 := 0) (b2 := 9) (by decide +kernel) (by decide +kernel) (by decide +kernel) (by decide +kernel)
theorem dX11_slot_11 : decode cX11_slot 11 = .ok (.iload_n 2, 1) := dk_iload_n_2 (by decide +kernel)
theorem dX11_slot_12 : decode cX11_slot 12 = .ok (.bipush 8, 2) := dk_bipush 8 (b := 8) (by decide +kernel) (by decide +kernel) (by decide +kernel)
theorem dX11_slot_14 : decode cX11_slot 14 = .ok (.if_icmp .le 9, 3) := dk_if_icmp_le 9 (b1 := 0) (b2 := 9) (by decide +kernel) (by decide +kernel) (by decide +kernel) (by decide +kernel)
theorem dX11_slot_23 : decode cX11_slot 23 = .ok (.aload_n 0, 1) := dk_aload_n_0 (by decide +kernel)
theorem dX11_slot_24 : decode cX11_slot 24 = .ok (.getfield 11, 3) := dk_getfield 11 (b1 := 0) (b2 := 11) (by decide +kernel) (by decide +kernel) (by decide +kernel) (by decide +kernel)
theorem dX11_slot_27 : decode cX11_slot 27 = .ok (.iload_n 1, 1) := dk_iload_n_1 (by decide +kernel)
theorem dX11_slot_28 : decode cX11_slot 28 = .ok (.aaload, 1) := dk_aaload (by decide +kernel)
theorem dX11_slot_29 : decode cX11_slot 29 = .ok (.astore_n 3, 1) := dk_astore_n_3 (by decide +kernel)
theorem dX11_slot_30 : decode cX11_slot 30 = .ok (.iload_n 2, 1) := dk_iload_n_2 (by decide +kernel)
theorem dX11_slot_31 : decode cX11_slot 31 = .ok (.bipush 7, 2) := dk_bipush 7 (b := 7) (by decide +kernel) (by decide +kernel) (by decide +kernel)
theorem dX11_slot_33 : decode cX11_slot 33 = .ok (.if_icmp .lt 16, 3) := dk_if_icmp_lt 16 (b1 := 0) (b2 := 16) (by decide +kernel) (by decide +kernel) (by decide +kernel) (by decide +kernel)
theorem dX11_slot_36 : decode cX11_slot 36 = .ok (.aload_n 3, 1) := dk_aload_n_3 (by decide +kernel)
theorem dX11_slot_37 : decode cX11_slot 37 = .ok (.getfield 107, 3) := dk_getfield 107 (b1 := 0) (b2 := 107) (by decide +kernel) (by decide +kernel) (by decide +kernel) (by decide +kernel)
theorem dX11_slot_40 : decode cX11_slot 40 = .ok (.ifCond .ne 9, 3) := dk_ifCond_ne 9 (b1 := 0) (b2 := 9) (by decide +kernel) (by decide +kernel) (by decide +kernel) (by decide +kernel)
theorem dX11_slot_43 : decode cX11_slot 43 = .ok (.aload_n 0, 1) := dk_aload_n_0 (by decide +kernel)
theorem dX11_slot_44 : decode cX11_slot 44 = .ok (.iconst 2, 1) := dk_iconst_2 (by decide +kernel)
theorem dX11_slot_45 : decode cX11_slot 45 = .ok (.invokevirtual 103, 3) := dk_invokevirtual 103 (b1 := 0) (b2 := 103) (by decide +kernel) (by decide +kernel) (by decide +kernel) (by decide +kernel)
theorem dX11_slot_48 : decode cX11_slot 48 = .ok (.ireturn, 1) := dk_ireturn (by decide +kernel)
set_option maxRecDepth 20000 in
theorem vX11_slot_0 {E : sm_E} {L : sm_S → Prop} {d : Nat} {x1 : Int32} {x2 : Int32}  {m : sm_M} {Q : Int32 → sm_M → Prop} (hly : ∀ S, L S → ly S) (hd : 2 ≤ d) 
  (h : sm_callI E L mX11_isSlot 1 0 0 [.int x1] m (fun r_2 m_1 =>
   (r_2 = 0 →
      sm_callI E L mX11_error 1 0 0 [.ref (sm_B E + 0), .int 1] m_1 (fun r_4 m_3 =>
      Q r_4 m_3)) ∧
   (¬ r_2 = 0 →
      (x2 < 0 →
         sm_callI E L mX11_error 1 0 0 [.ref (sm_B E + 0), .int 1] m_1 (fun r_6 m_5 =>
         Q r_6 m_5)) ∧
      (¬ x2 < 0 →
         (x2 ≤ 8 →
            (vp_in x1 6) ∧ (x2 < 7 →
               gX11_slot_49 E L d ([.ref (sm_B E + 0), .int x1, .int x2]) x2 (77 + 4 * x1.toNatClampNeg) m_1 Q) ∧
            (¬ x2 < 7 →
               (¬ (m_1.1 (77 + 4 * x1.toNatClampNeg) 8) = 0 →
                  gX11_slot_49 E L d ([.ref (sm_B E + 0), .int x1, .int x2]) x2 (77 + 4 * x1.toNatClampNeg) m_1 Q) ∧
               ((m_1.1 (77 + 4 * x1.toNatClampNeg) 8) = 0 →
                  sm_callI E L mX11_error 1 0 0 [.ref (sm_B E + 0), .int 2] m_1 (fun r_9 m_8 =>
                  Q r_9 m_8)))) ∧
         (¬ x2 ≤ 8 →
            sm_callI E L mX11_error 1 0 0 [.ref (sm_B E + 0), .int 1] m_1 (fun r_11 m_10 =>
            Q r_11 m_10)))))) :
  sm_callI E L mX11_slot d 0 0 [.ref (sm_B E + 0), .int x1, .int x2] m Q := by
  refine sm_enter (by decide +kernel) (by simp [lg_sl, Value.category]) ?_
  refine sm_iload_n (Y := mX11_slot) (pc := 0) 1 1 rfl rfl dX11_slot_0 ?_
  refine sm_is_I (Y := mX11_slot) (pc := 1) (As := [.int x1]) fX11_isSlot wRX11_99 rfl (Nat.le_trans (by decide) hd) (Nat.le_of_ble_eq_true rfl) ⟨Nat.le_refl _, Nat.le_refl _⟩ dX11_slot_1 rfl (sm_monoI h (fun r_2 m_1 h => ?_))
  refine sm_if_eq (Y := mX11_slot) (pc := 4) 17 (by decide) dX11_slot_4 (fun hc => ?_) (fun hc => ?_)
  · replace h := h.1 hc
    refine sm_aload_n (Y := mX11_slot) (pc := 17) 0 0 rfl rfl dX11_slot_17 ?_
    refine sm_iconst (Y := mX11_slot) (pc := 18) 1 (by decide) dX11_slot_18 ?_
    refine sm_iv_I (Y := mX11_slot) (pc := 19) (As := [.int 1]) (a := 0) fX11_error wRX11_103 (lk_0 hly) (by decide) rfl rfl rfl (Nat.le_trans (by decide) hd) (Nat.le_of_ble_eq_true rfl) ⟨Nat.le_refl _, Nat.le_refl _⟩ dX11_slot_19 rfl (sm_monoI h (fun r_4 m_3 h => ?_))
    exact sm_iret (Y := mX11_slot) (pc := 22) rfl rfl rfl dX11_slot_22 ⟨_, rfl, h⟩
  · replace h := h.2 hc
    refine sm_iload_n (Y := mX11_slot) (pc := 7) 2 2 rfl rfl dX11_slot_7 ?_
    refine sm_if_lt (Y := mX11_slot) (pc := 8) 17 (by decide) dX11_slot_8 (fun hc => ?_) (fun hc => ?_)
    · replace h := h.1 hc
      refine sm_aload_n (Y := mX11_slot) (pc := 17) 0 0 rfl rfl dX11_slot_17 ?_
      refine sm_iconst (Y := mX11_slot) (pc := 18) 1 (by decide) dX11_slot_18 ?_
      refine sm_iv_I (Y := mX11_slot) (pc := 19) (As := [.int 1]) (a := 0) fX11_error wRX11_103 (lk_0 hly) (by decide) rfl rfl rfl (Nat.le_trans (by decide) hd) (Nat.le_of_ble_eq_true rfl) ⟨Nat.le_refl _, Nat.le_refl _⟩ dX11_slot_19 rfl (sm_monoI h (fun r_6 m_5 h => ?_))
      exact sm_iret (Y := mX11_slot) (pc := 22) rfl rfl rfl dX11_slot_22 ⟨_, rfl, h⟩
    · replace h := h.2 hc
      refine sm_iload_n (Y := mX11_slot) (pc := 11) 2 2 rfl rfl dX11_slot_11 ?_
      refine sm_bipush (Y := mX11_slot) (pc := 12) 8 (by decide) dX11_slot_12 ?_
      refine sm_icmp_le (Y := mX11_slot) (pc := 14) 23 (by decide) dX11_slot_14 (fun hc => ?_) (fun hc => ?_)
      · replace h := h.1 hc
        refine sm_aload_n (Y := mX11_slot) (pc := 23) 0 0 rfl rfl dX11_slot_23 ?_
        refine gf_RX11_11 (Y := mX11_slot) (pc := 24) (b := 1) rfl ((lk_0 hly) _) (lf_0_0 hly _) dX11_slot_24 ?_
        refine sm_iload_n (Y := mX11_slot) (pc := 27) 1 1 rfl rfl dX11_slot_27 ?_
        obtain ⟨hn_7, h⟩ := h
        refine sm_aaldG (Y := mX11_slot) (pc := 28) (b := (77 + 4 * x1.toNatClampNeg)) (la_1 hly _) hn_7 (ly_slotR hly (sm_inlt hn_7) _) dX11_slot_28 ?_
        refine sm_astore_n (Y := mX11_slot) (pc := 29) [(3, .ref (sm_B E + (77 + 4 * x1.toNatClampNeg))), (0, .ref (sm_B E + 0)), (1, .int x1), (2, .int x2)] 3 rfl (by decide) rfl dX11_slot_29 ?_
        refine sm_iload_n (Y := mX11_slot) (pc := 30) 3 2 rfl rfl dX11_slot_30 ?_
        refine sm_bipush (Y := mX11_slot) (pc := 31) 7 (by decide) dX11_slot_31 ?_
        refine sm_icmp_lt (Y := mX11_slot) (pc := 33) 49 (by decide) dX11_slot_33 (fun hc => ?_) (fun hc => ?_)
        · replace h := h.1 hc
          refine sm_sub [3, 0] rfl ?_
          exact h
        · replace h := h.2 hc
          refine sm_aload_n (Y := mX11_slot) (pc := 36) 0 3 rfl rfl dX11_slot_36 ?_
          refine gf_RX11_107 (Y := mX11_slot) (pc := 37) rfl ((fun S hS => ((ly_slotT hly (sm_inlt hn_7)) S hS).1) _) dX11_slot_37 ?_
          refine sm_if_ne (Y := mX11_slot) (pc := 40) 49 (by decide) dX11_slot_40 (fun hc => ?_) (fun hc => ?_)
          · replace h := h.1 hc
            refine sm_sub [3, 0] rfl ?_
            exact h
          · replace h := h.2 hc
            refine sm_aload_n (Y := mX11_slot) (pc := 43) 1 0 rfl rfl dX11_slot_43 ?_
            refine sm_iconst (Y := mX11_slot) (pc := 44) 2 (by decide) dX11_slot_44 ?_
            refine sm_iv_I (Y := mX11_slot) (pc := 45) (As := [.int 2]) (a := 0) fX11_error wRX11_103 (lk_0 hly) (by decide) rfl rfl rfl (Nat.le_trans (by decide) hd) (Nat.le_of_ble_eq_true rfl) ⟨Nat.le_refl _, Nat.le_refl _⟩ dX11_slot_45 rfl (sm_monoI h (fun r_9 m_8 h => ?_))
            exact sm_iret (Y := mX11_slot) (pc := 48) rfl rfl rfl dX11_slot_48 ⟨_, rfl, h⟩
      · replace h := h.2 hc
        refine sm_aload_n (Y := mX11_slot) (pc := 17) 0 0 rfl rfl dX11_slot_17 ?_
        refine sm_iconst (Y := mX11_slot) (pc := 18) 1 (by decide) dX11_slot_18 ?_
        refine sm_iv_I (Y := mX11_slot) (pc := 19) (As := [.int 1]) (a := 0) fX11_error wRX11_103 (lk_0 hly) (by decide) rfl rfl rfl (Nat.le_trans (by decide) hd) (Nat.le_of_ble_eq_true rfl) ⟨Nat.le_refl _, Nat.le_refl _⟩ dX11_slot_19 rfl (sm_monoI h (fun r_11 m_10 h => ?_))
        exact sm_iret (Y := mX11_slot) (pc := 22) rfl rfl rfl dX11_slot_22 ⟨_, rfl, h⟩
abbrev mX11_leaf : sm_Y := (yX11_leaf, cX11_leaf, 4, (some FieldType.int))
theorem fX11_leaf : sm_mi mX11_leaf RX11 2 := ⟨sm_in 444 (by decide +kernel) (by decide +kernel), sm_in 442 (by decide +kernel) (by decide +kernel), sm_in 443 (by decide +kernel) (by decide +kernel), sm_in 82 (by decide +kernel) (by decide +kernel), rfl, ⟨by decide +kernel, by decide +kernel, by decide +kernel⟩, by decide⟩
theorem dX11_leaf_0 : decode cX11_leaf 0 = .ok (.iload_n 1, 1) := dk_iload_n_1 (by decide +kernel)
theorem dX11_leaf_1 : decode cX11_leaf 1 = .ok (.invokestatic 99, 3) := dk_invokestatic 99 (b1 := 0) (b2 := 99) (by decide +kernel) (by decide +kernel) (by decide +kernel) (by decide +kernel)
theorem dX11_leaf_4 : decode cX11_leaf 4 = .ok (.ifCond .eq 15, 3) := dk_ifCond_eq 15 (b1 := 0) (b2 := 15) (by decide +kernel) (by decide +kernel) (by decide +kernel) (by decide +kernel)
theorem dX11_leaf_19 : decode cX11_leaf 19 = .ok (.aload_n 0, 1) := dk_aload_n_0 (by decide +kernel)
theorem dX11_leaf_20 : decode cX11_leaf 20 = .ok (.iconst 1, 1) := dk_iconst_1 (by decide +kernel)
theorem dX11_leaf_21 : decode cX11_leaf 21 = .ok (.invokevirtual 103, 3) := dk_invokevirtual 103 (b1 := 0) (b2 := 103) (by decide +kernel) (by decide +kernel) (by decide +kernel) (by decide +kernel)
theorem dX11_leaf_24 : decode cX11_leaf 24 = .ok (.ireturn, 1) := dk_ireturn (by decide +kernel)
theorem dX11_leaf_7 : decode cX11_leaf 7 = .ok (.iload_n 2, 1) := dk_iload_n_2 (by decide +kernel)
theorem dX11_leaf_8 : decode cX11_leaf 8 = .ok (.bipush (-9), 2) := dk_bipush (-9) (b := 247) (by decide +kernel) (by decide +kernel) (by decide +kernel)
theorem dX11_leaf_10 : decode cX11_leaf 10 = .ok (.if_icmp .lt 9, 3) := dk_if_icmp_lt 9 (b1 := 0) (b2 := 9) (by decide +kernel) (by decide +kernel) (by decide +kernel) (by decide +kernel)
theorem dX11_leaf_13 : decode cX11_leaf 13 = .ok (.iload_n 2, 1) := dk_iload_n_2 (by decide +kernel)
theorem dX11_leaf_14 : decode cX11_leaf 14 = .ok (.bipush 10, 2) := dk_bipush 10 (b := 10) (by decide +kernel) (by decide +kernel) (by decide +kernel)
theorem dX11_leaf_16 : decode cX11_leaf 16 = .ok (.if_icmp .le 9, 3) := dk_if_icmp_le 9 (b1 := 0) (b2 := 9) (by decide +kernel) (by decide +kernel) (by decide +kernel) (by decide +kernel)
theorem dX11_leaf_25 : decode cX11_leaf 25 = .ok (.aload_n 0, 1) := dk_aload_n_0 (by decide +kernel)
theorem dX11_leaf_26 : decode cX11_leaf 26 = .ok (.getfield 11, 3) := dk_getfield 11 (b1 := 0) (b2 := 11) (by decide +kernel) (by decide +kernel) (by decide +kernel) (by decide +kernel)
theorem dX11_leaf_29 : decode cX11_leaf 29 = .ok (.iload_n 1, 1) := dk_iload_n_1 (by decide +kernel)
theorem dX11_leaf_30 : decode cX11_leaf 30 = .ok (.aaload, 1) := dk_aaload (by decide +kernel)
theorem dX11_leaf_31 : decode cX11_leaf 31 = .ok (.astore_n 3, 1) := dk_astore_n_3 (by decide +kernel)
theorem dX11_leaf_32 : decode cX11_leaf 32 = .ok (.aload_n 3, 1) := dk_aload_n_3 (by decide +kernel)
theorem wRX11_138 : Cond.methodLink RX11 138 yX8_clear ∈ sm_T := sm_in 445 (by decide +kernel) (by decide +kernel)
theorem dX11_leaf_33 : decode cX11_leaf 33 = .ok (.invokevirtual 138, 3) := dk_invokevirtual 138 (b1 := 0) (b2 := 138) (by decide +kernel) (by decide +kernel) (by decide +kernel) (by decide +kernel)
theorem dX11_leaf_36 : decode cX11_leaf 36 = .ok (.aload_n 3, 1) := dk_aload_n_3 (by decide +kernel)
theorem dX11_leaf_37 : decode cX11_leaf 37 = .ok (.iload_n 2, 1) := dk_iload_n_2 (by decide +kernel)
theorem wRX11_141 : Cond.methodLink RX11 141 yX8_add ∈ sm_T := sm_in 449 (by decide +kernel) (by decide +kernel)
theorem dX11_leaf_38 : decode cX11_leaf 38 = .ok (.invokevirtual 141, 3) := dk_invokevirtual 141 (b1 := 0) (b2 := 141) (by decide +kernel) (by decide +kernel) (by decide +kernel) (by decide +kernel)
theorem dX11_leaf_41 : decode cX11_leaf 41 = .ok (.aload_n 0, 1) := dk_aload_n_0 (by decide +kernel)
theorem dX11_leaf_42 : decode cX11_leaf 42 = .ok (.getfield 28, 3) := dk_getfield 28 (b1 := 0) (b2 := 28) (by decide +kernel) (by decide +kernel) (by decide +kernel) (by decide +kernel)
theorem dX11_leaf_45 : decode cX11_leaf 45 = .ok (.aload_n 3, 1) := dk_aload_n_3 (by decide +kernel)
theorem wRX11_144 : Cond.methodLink RX11 144 yX4_measure ∈ sm_T := sm_in 456 (by decide +kernel) (by decide +kernel)
theorem dX11_leaf_46 : decode cX11_leaf 46 = .ok (.invokevirtual 144, 3) := dk_invokevirtual 144 (b1 := 0) (b2 := 144) (by decide +kernel) (by decide +kernel) (by decide +kernel) (by decide +kernel)
theorem dX11_leaf_49 : decode cX11_leaf 49 = .ok (.aload_n 3, 1) := dk_aload_n_3 (by decide +kernel)
theorem dX11_leaf_50 : decode cX11_leaf 50 = .ok (.getfield 114, 3) := dk_getfield 114 (b1 := 0) (b2 := 114) (by decide +kernel) (by decide +kernel) (by decide +kernel) (by decide +kernel)
theorem dX11_leaf_53 : decode cX11_leaf 53 = .ok (.ireturn, 1) := dk_ireturn (by decide +kernel)
set_option maxRecDepth 20000 in
theorem vX11_leaf_0 {E : sm_E} {L : sm_S → Prop} {d : Nat} {x1 : Int32} {x2 : Int32}  {m : sm_M} {Q : Int32 → sm_M → Prop} (hly : ∀ S, L S → ly S) (hd : 5 ≤ d) 
  (h : sm_callI E L mX11_isSlot 1 0 0 [.int x1] m (fun r_2 m_1 =>
   (r_2 = 0 →
      sm_callI E L mX11_error 1 0 0 [.ref (sm_B E + 0), .int 1] m_1 (fun r_4 m_3 =>
      Q r_4 m_3)) ∧
   (¬ r_2 = 0 →
      (x2 < (-9) →
         sm_callI E L mX11_error 1 0 0 [.ref (sm_B E + 0), .int 1] m_1 (fun r_6 m_5 =>
         Q r_6 m_5)) ∧
      (¬ x2 < (-9) →
         (x2 ≤ 10 →
            (vp_in x1 6) ∧ sm_callV E L mX8_clear 1 0 0 [.ref (sm_B E + (77 + 4 * x1.toNatClampNeg))] m_1 (fun m_8 =>
            sm_callV E L mX8_add 2 0 0 [.ref (sm_B E + (77 + 4 * x1.toNatClampNeg)), .int x2] m_8 (fun m_9 =>
            sm_callV E L mX4_measure 4 0 0 [.ref (sm_B E + 5), .ref (sm_B E + (77 + 4 * x1.toNatClampNeg))] m_9 (fun m_10 =>
            Q (m_10.1 (77 + 4 * x1.toNatClampNeg) 3) m_10)))) ∧
         (¬ x2 ≤ 10 →
            sm_callI E L mX11_error 1 0 0 [.ref (sm_B E + 0), .int 1] m_1 (fun r_12 m_11 =>
            Q r_12 m_11)))))) :
  sm_callI E L mX11_leaf d 0 0 [.ref (sm_B E + 0), .int x1, .int x2] m Q := by
  refine sm_enter (by decide +kernel) (by simp [lg_sl, Value.category]) ?_
  refine sm_iload_n (Y := mX11_leaf) (pc := 0) 1 1 rfl rfl dX11_leaf_0 ?_
  refine sm_is_I (Y := mX11_leaf) (pc := 1) (As := [.int x1]) fX11_isSlot wRX11_99 rfl (Nat.le_trans (by decide) hd) (Nat.le_of_ble_eq_true rfl) ⟨Nat.le_refl _, Nat.le_refl _⟩ dX11_leaf_1 rfl (sm_monoI h (fun r_2 m_1 h => ?_))
  refine sm_if_eq (Y := mX11_leaf) (pc := 4) 19 (by decide) dX11_leaf_4 (fun hc => ?_) (fun hc => ?_)
  · replace h := h.1 hc
    refine sm_aload_n (Y := mX11_leaf) (pc := 19) 0 0 rfl rfl dX11_leaf_19 ?_
    refine sm_iconst (Y := mX11_leaf) (pc := 20) 1 (by decide) dX11_leaf_20 ?_
    refine sm_iv_I (Y := mX11_leaf) (pc := 21) (As := [.int 1]) (a := 0) fX11_error wRX11_103 (lk_0 hly) (by decide) rfl rfl rfl (Nat.le_trans (by decide) hd) (Nat.le_of_ble_eq_true rfl) ⟨Nat.le_refl _, Nat.le_refl _⟩ dX11_leaf_21 rfl (sm_monoI h (fun r_4 m_3 h => ?_))
    exact sm_iret (Y := mX11_leaf) (pc := 24) rfl rfl rfl dX11_leaf_24 ⟨_, rfl, h⟩
  · replace h := h.2 hc
    refine sm_iload_n (Y := mX11_leaf) (pc := 7) 2 2 rfl rfl dX11_leaf_7 ?_
    refine sm_bipush (Y := mX11_leaf) (pc := 8) (-9) (by decide) dX11_leaf_8 ?_
    refine sm_icmp_lt (Y := mX11_leaf) (pc := 10) 19 (by decide) dX11_leaf_10 (fun hc => ?_) (fun hc => ?_)
    · replace h := h.1 hc
      refine sm_aload_n (Y := mX11_leaf) (pc := 19) 0 0 rfl rfl dX11_leaf_19 ?_
      refine sm_iconst (Y := mX11_leaf) (pc := 20) 1 (by decide) dX11_leaf_20 ?_
      refine sm_iv_I (Y := mX11_leaf) (pc := 21) (As := [.int 1]) (a := 0) fX11_error wRX11_103 (lk_0 hly) (by decide) rfl rfl rfl (Nat.le_trans (by decide) hd) (Nat.le_of_ble_eq_true rfl) ⟨Nat.le_refl _, Nat.le_refl _⟩ dX11_leaf_21 rfl (sm_monoI h (fun r_6 m_5 h => ?_))
      exact sm_iret (Y := mX11_leaf) (pc := 24) rfl rfl rfl dX11_leaf_24 ⟨_, rfl, h⟩
    · replace h := h.2 hc
      refine sm_iload_n (Y := mX11_leaf) (pc := 13) 2 2 rfl rfl dX11_leaf_13 ?_
      refine sm_bipush (Y := mX11_leaf) (pc := 14) 10 (by decide) dX11_leaf_14 ?_
      refine sm_icmp_le (Y := mX11_leaf) (pc := 16) 25 (by decide) dX11_leaf_16 (fun hc => ?_) (fun hc => ?_)
      · replace h := h.1 hc
        refine sm_aload_n (Y := mX11_leaf) (pc := 25) 0 0 rfl rfl dX11_leaf_25 ?_
        refine gf_RX11_11 (Y := mX11_leaf) (pc := 26) (b := 1) rfl ((lk_0 hly) _) (lf_0_0 hly _) dX11_leaf_26 ?_
        refine sm_iload_n (Y := mX11_leaf) (pc := 29) 1 1 rfl rfl dX11_leaf_29 ?_
        obtain ⟨hn_7, h⟩ := h
        refine sm_aaldG (Y := mX11_leaf) (pc := 30) (b := (77 + 4 * x1.toNatClampNeg)) (la_1 hly _) hn_7 (ly_slotR hly (sm_inlt hn_7) _) dX11_leaf_30 ?_
        refine sm_astore_n (Y := mX11_leaf) (pc := 31) [(3, .ref (sm_B E + (77 + 4 * x1.toNatClampNeg))), (0, .ref (sm_B E + 0)), (1, .int x1), (2, .int x2)] 3 rfl (by decide) rfl dX11_leaf_31 ?_
        refine sm_aload_n (Y := mX11_leaf) (pc := 32) 0 3 rfl rfl dX11_leaf_32 ?_
        refine sm_iv_V (Y := mX11_leaf) (pc := 33) (As := []) (a := (77 + 4 * x1.toNatClampNeg)) fX8_clear wRX11_138 (fun S hS => ((ly_slotT hly (sm_inlt hn_7)) S hS).1) (by decide) rfl rfl rfl (Nat.le_trans (by decide) hd) (Nat.le_of_ble_eq_true rfl) ⟨Nat.le_refl _, Nat.le_refl _⟩ dX11_leaf_33 rfl (sm_monoV h (fun m_8 h => ?_))
        refine sm_aload_n (Y := mX11_leaf) (pc := 36) 0 3 rfl rfl dX11_leaf_36 ?_
        refine sm_iload_n (Y := mX11_leaf) (pc := 37) 3 2 rfl rfl dX11_leaf_37 ?_
        refine sm_iv_V (Y := mX11_leaf) (pc := 38) (As := [.int x2]) (a := (77 + 4 * x1.toNatClampNeg)) fX8_add wRX11_141 (fun S hS => ((ly_slotT hly (sm_inlt hn_7)) S hS).1) (by decide) rfl rfl rfl (Nat.le_trans (by decide) hd) (Nat.le_of_ble_eq_true rfl) ⟨Nat.le_refl _, Nat.le_refl _⟩ dX11_leaf_38 rfl (sm_monoV h (fun m_9 h => ?_))
        refine sm_aload_n (Y := mX11_leaf) (pc := 41) 1 0 rfl rfl dX11_leaf_41 ?_
        refine gf_RX11_28 (Y := mX11_leaf) (pc := 42) (b := 5) rfl ((lk_0 hly) _) (lf_0_3 hly _) dX11_leaf_42 ?_
        refine sm_aload_n (Y := mX11_leaf) (pc := 45) 0 3 rfl rfl dX11_leaf_45 ?_
        refine sm_iv_V (Y := mX11_leaf) (pc := 46) (As := [.ref (sm_B E + (77 + 4 * x1.toNatClampNeg))]) (a := 5) fX4_measure wRX11_144 (lk_5 hly) (by decide) rfl rfl rfl (Nat.le_trans (by decide) hd) (Nat.le_of_ble_eq_true rfl) ⟨Nat.le_refl _, Nat.le_refl _⟩ dX11_leaf_46 rfl (sm_monoV h (fun m_10 h => ?_))
        refine sm_aload_n (Y := mX11_leaf) (pc := 49) 0 3 rfl rfl dX11_leaf_49 ?_
        refine gf_RX11_114 (Y := mX11_leaf) (pc := 50) rfl ((fun S hS => ((ly_slotT hly (sm_inlt hn_7)) S hS).1) _) dX11_leaf_50 ?_
        exact sm_iret (Y := mX11_leaf) (pc := 53) rfl rfl rfl dX11_leaf_53 ⟨_, rfl, h⟩
      · replace h := h.2 hc
        refine sm_aload_n (Y := mX11_leaf) (pc := 19) 0 0 rfl rfl dX11_leaf_19 ?_
        refine sm_iconst (Y := mX11_leaf) (pc := 20) 1 (by decide) dX11_leaf_20 ?_
        refine sm_iv_I (Y := mX11_leaf) (pc := 21) (As := [.int 1]) (a := 0) fX11_error wRX11_103 (lk_0 hly) (by decide) rfl rfl rfl (Nat.le_trans (by decide) hd) (Nat.le_of_ble_eq_true rfl) ⟨Nat.le_refl _, Nat.le_refl _⟩ dX11_leaf_21 rfl (sm_monoI h (fun r_12 m_11 h => ?_))
        exact sm_iret (Y := mX11_leaf) (pc := 24) rfl rfl rfl dX11_leaf_24 ⟨_, rfl, h⟩
abbrev mX11_join : sm_Y := (yX11_join, cX11_join, 7, (some FieldType.int))
theorem fX11_join : sm_mi mX11_join RX11 4 := ⟨sm_in 487 (by decide +kernel) (by decide +kernel), sm_in 485 (by decide +kernel) (by decide +kernel), sm_in 486 (by decide +kernel) (by decide +kernel), sm_in 82 (by decide +kernel) (by decide +kernel), rfl, ⟨by decide +kernel, by decide +kernel, by decide +kernel⟩, by decide⟩
theorem dX11_join_0 : decode cX11_join 0 = .ok (.iload_n 1, 1) := dk_iload_n_1 (by decide +kernel)
theorem dX11_join_1 : decode cX11_join 1 = .ok (.invokestatic 99, 3) := dk_invokestatic 99 (b1 := 0) (b2 := 99) (by decide +kernel) (by decide +kernel) (by decide +kernel) (by decide +kernel)
theorem dX11_join_4 : decode cX11_join 4 = .ok (.ifCond .eq 25, 3) := dk_ifCond_eq 25 (b1 := 0) (b2 := 25) (by decide +kernel) (by decide +kernel) (by decide +kernel) (by decide +kernel)
theorem dX11_join_29 : decode cX11_join 29 = .ok (.aload_n 0, 1) := dk_aload_n_0 (by decide +kernel)
theorem dX11_join_30 : decode cX11_join 30 = .ok (.iconst 1, 1) := dk_iconst_1 (by decide +kernel)
theorem dX11_join_31 : decode cX11_join 31 = .ok (.invokevirtual 103, 3) := dk_invokevirtual 103 (b1 := 0) (b2 := 103) (by decide +kernel) (by decide +kernel) (by decide +kernel) (by decide +kernel)
theorem dX11_join_34 : decode cX11_join 34 = .ok (.ireturn, 1) := dk_ireturn (by decide +kernel)
theorem dX11_join_7 : decode cX11_join 7 = .ok (.iload_n 2, 1) := dk_iload_n_2 (by decide +kernel)
theorem dX11_join_8 : decode cX11_join 8 = .ok (.invokestatic 99, 3) := dk_invokestatic 99 (b1 := 0) (b2 := 99) (by decide +kernel) (by decide +kernel) (by decide +kernel) (by decide +kernel)
theorem dX11_join_11 : decode cX11_join 11 = .ok (.ifCond .eq 18, 3) := dk_ifCond_eq 18 (b1 := 0) (b2 := 18) (by decide +kernel) (by decide +kernel) (by decide +kernel) (by decide +kernel)
theorem dX11_join_14 : decode cX11_join 14 = .ok (.iload_n 3, 1) := dk_iload_n_3 (by decide +kernel)
theorem wRX11_148 : Cond.methodLink RX11 148 yX11_isChoice ∈ sm_T := sm_in 488 (by decide +kernel) (by decide +kernel)
abbrev mX11_isChoice : sm_Y := (yX11_isChoice, cX11_isChoice, 1, (some FieldType.boolean))
theorem fX11_isChoice : sm_mt mX11_isChoice 1 := ⟨sm_in 490 (by decide +kernel) (by decide +kernel), sm_in 489 (by decide +kernel) (by decide +kernel), sm_in 82 (by decide +kernel) (by decide +kernel), ⟨by decide +kernel, by decide +kernel, by decide +kernel⟩, by decide⟩
theorem dX11_join_15 : decode cX11_join 15 = .ok (.invokestatic 148, 3) := dk_invokestatic 148 (b1 := 0) (b2 := 148) (by decide +kernel) (by decide +kernel) (by decide +kernel) (by decide +kernel)
theorem dX11_join_18 : decode cX11_join 18 = .ok (.ifCond .eq 11, 3) := dk_ifCond_eq 11 (b1 := 0) (b2 := 11) (by decide +kernel) (by decide +kernel) (by decide +kernel) (by decide +kernel)
theorem dX11_join_21 : decode cX11_join 21 = .ok (.iload 4, 2) := dk_iload 4 (b := 4) (by decide +kernel) (by decide +kernel) (by decide +kernel)
theorem dX11_join_23 : decode cX11_join 23 = .ok (.invokestatic 99, 3) := dk_invokestatic 99 (b1 := 0) (b2 := 99) (by decide +kernel) (by decide +kernel) (by decide +kernel) (by decide +kernel)
theorem dX11_join_26 : decode cX11_join 26 = .ok (.ifCond .ne 9, 3) := dk_ifCond_ne 9 (b1 := 0) (b2 := 9) (by decide +kernel) (by decide +kernel) (by decide +kernel) (by decide +kernel)
theorem dX11_join_35 : decode cX11_join 35 = .ok (.aload_n 0, 1) := dk_aload_n_0 (by decide +kernel)
theorem dX11_join_36 : decode cX11_join 36 = .ok (.getfield 11, 3) := dk_getfield 11 (b1 := 0) (b2 := 11) (by decide +kernel) (by decide +kernel) (by decide +kernel) (by decide +kernel)
theorem dX11_join_39 : decode cX11_join 39 = .ok (.iload_n 1, 1) := dk_iload_n_1 (by decide +kernel)
theorem dX11_join_40 : decode cX11_join 40 = .ok (.aaload, 1) := dk_aaload (by decide +kernel)
theorem dX11_join_41 : decode cX11_join 41 = .ok (.astore 5, 2) := dk_astore 5 (b := 5) (by decide +kernel) (by decide +kernel) (by decide +kernel)
theorem dX11_join_43 : decode cX11_join 43 = .ok (.aload_n 0, 1) := dk_aload_n_0 (by decide +kernel)
theorem dX11_join_44 : decode cX11_join 44 = .ok (.getfield 11, 3) := dk_getfield 11 (b1 := 0) (b2 := 11) (by decide +kernel) (by decide +kernel) (by decide +kernel) (by decide +kernel)
theorem dX11_join_47 : decode cX11_join 47 = .ok (.iload_n 2, 1) := dk_iload_n_2 (by decide +kernel)
theorem dX11_join_48 : decode cX11_join 48 = .ok (.aaload, 1) := dk_aaload (by decide +kernel)
theorem dX11_join_49 : decode cX11_join 49 = .ok (.astore 6, 2) := dk_astore 6 (b := 6) (by decide +kernel) (by decide +kernel) (by decide +kernel)
theorem dX11_join_51 : decode cX11_join 51 = .ok (.aload 5, 2) := dk_aload 5 (b := 5) (by decide +kernel) (by decide +kernel) (by decide +kernel)
theorem dX11_join_53 : decode cX11_join 53 = .ok (.aload 6, 2) := dk_aload 6 (b := 6) (by decide +kernel) (by decide +kernel) (by decide +kernel)
theorem dX11_join_55 : decode cX11_join 55 = .ok (.getfield 111, 3) := dk_getfield 111 (b1 := 0) (b2 := 111) (by decide +kernel) (by decide +kernel) (by decide +kernel) (by decide +kernel)
theorem dX11_join_58 : decode cX11_join 58 = .ok (.aload 6, 2) := dk_aload 6 (b := 6) (by decide +kernel) (by decide +kernel) (by decide +kernel)
theorem dX11_join_60 : decode cX11_join 60 = .ok (.getfield 114, 3) := dk_getfield 114 (b1 := 0) (b2 := 114) (by decide +kernel) (by decide +kernel) (by decide +kernel) (by decide +kernel)
theorem dX11_join_63 : decode cX11_join 63 = .ok (.aload 6, 2) := dk_aload 6 (b := 6) (by decide +kernel) (by decide +kernel) (by decide +kernel)
theorem dX11_join_65 : decode cX11_join 65 = .ok (.getfield 117, 3) := dk_getfield 117 (b1 := 0) (b2 := 117) (by decide +kernel) (by decide +kernel) (by decide +kernel) (by decide +kernel)
theorem dX11_join_68 : decode cX11_join 68 = .ok (.iconst 1, 1) := dk_iconst_1 (by decide +kernel)
theorem dX11_join_69 : decode cX11_join 69 = .ok (.iadd, 1) := dk_iadd (by decide +kernel)
theorem wRX11_151 : Cond.methodLink RX11 151 yX8_hasRoom ∈ sm_T := sm_in 491 (by decide +kernel) (by decide +kernel)
theorem dX11_join_70 : decode cX11_join 70 = .ok (.invokevirtual 151, 3) := dk_invokevirtual 151 (b1 := 0) (b2 := 151) (by decide +kernel) (by decide +kernel) (by decide +kernel) (by decide +kernel)
theorem dX11_join_73 : decode cX11_join 73 = .ok (.ifCond .ne 9, 3) := dk_ifCond_ne 9 (b1 := 0) (b2 := 9) (by decide +kernel) (by decide +kernel) (by decide +kernel) (by decide +kernel)
theorem dX11_join_82 : decode cX11_join 82 = .ok (.aload_n 0, 1) := dk_aload_n_0 (by decide +kernel)
theorem dX11_join_83 : decode cX11_join 83 = .ok (.getfield 21, 3) := dk_getfield 21 (b1 := 0) (b2 := 21) (by decide +kernel) (by decide +kernel) (by decide +kernel) (by decide +kernel)
theorem dX11_join_86 : decode cX11_join 86 = .ok (.aload 5, 2) := dk_aload 5 (b := 5) (by decide +kernel) (by decide +kernel) (by decide +kernel)
theorem wRX11_155 : Cond.methodLink RX11 155 yX8_copy ∈ sm_T := sm_in 495 (by decide +kernel) (by decide +kernel)
theorem dX11_join_88 : decode cX11_join 88 = .ok (.invokevirtual 155, 3) := dk_invokevirtual 155 (b1 := 0) (b2 := 155) (by decide +kernel) (by decide +kernel) (by decide +kernel) (by decide +kernel)
theorem dX11_join_91 : decode cX11_join 91 = .ok (.aload_n 0, 1) := dk_aload_n_0 (by decide +kernel)
theorem dX11_join_92 : decode cX11_join 92 = .ok (.getfield 21, 3) := dk_getfield 21 (b1 := 0) (b2 := 21) (by decide +kernel) (by decide +kernel) (by decide +kernel) (by decide +kernel)
theorem dX11_join_95 : decode cX11_join 95 = .ok (.aload 6, 2) := dk_aload 6 (b := 6) (by decide +kernel) (by decide +kernel) (by decide +kernel)
theorem wRX11_158 : Cond.methodLink RX11 158 yX8_append ∈ sm_T := sm_in 502 (by decide +kernel) (by decide +kernel)
theorem dX11_join_97 : decode cX11_join 97 = .ok (.invokevirtual 158, 3) := dk_invokevirtual 158 (b1 := 0) (b2 := 158) (by decide +kernel) (by decide +kernel) (by decide +kernel) (by decide +kernel)
theorem dX11_join_100 : decode cX11_join 100 = .ok (.aload_n 0, 1) := dk_aload_n_0 (by decide +kernel)
theorem dX11_join_101 : decode cX11_join 101 = .ok (.getfield 21, 3) := dk_getfield 21 (b1 := 0) (b2 := 21) (by decide +kernel) (by decide +kernel) (by decide +kernel) (by decide +kernel)
theorem dX11_join_104 : decode cX11_join 104 = .ok (.iload_n 3, 1) := dk_iload_n_3 (by decide +kernel)
theorem dX11_join_105 : decode cX11_join 105 = .ok (.ifCond .ne 8, 3) := dk_ifCond_ne 8 (b1 := 0) (b2 := 8) (by decide +kernel) (by decide +kernel) (by decide +kernel) (by decide +kernel)
theorem dX11_join_113 : decode cX11_join 113 = .ok (.bipush 12, 2) := dk_bipush 12 (b := 12) (by decide +kernel) (by decide +kernel) (by decide +kernel)
theorem dX11_join_115 : decode cX11_join 115 = .ok (.invokevirtual 141, 3) := dk_invokevirtual 141 (b1 := 0) (b2 := 141) (by decide +kernel) (by decide +kernel) (by decide +kernel) (by decide +kernel)
theorem dX11_join_118 : decode cX11_join 118 = .ok (.aload_n 0, 1) := dk_aload_n_0 (by decide +kernel)
theorem dX11_join_119 : decode cX11_join 119 = .ok (.aload_n 0, 1) := dk_aload_n_0 (by decide +kernel)
theorem dX11_join_120 : decode cX11_join 120 = .ok (.getfield 21, 3) := dk_getfield 21 (b1 := 0) (b2 := 21) (by decide +kernel) (by decide +kernel) (by decide +kernel) (by decide +kernel)
theorem dX11_join_123 : decode cX11_join 123 = .ok (.iload 4, 2) := dk_iload 4 (b := 4) (by decide +kernel) (by decide +kernel) (by decide +kernel)
theorem wRX11_161 : Cond.methodLink RX11 161 yX11_settle ∈ sm_T := sm_in 507 (by decide +kernel) (by decide +kernel)
abbrev mX11_settle : sm_Y := (yX11_settle, cX11_settle, 3, (some FieldType.int))
theorem fX11_settle : sm_mi mX11_settle RX11 2 := ⟨sm_in 510 (by decide +kernel) (by decide +kernel), sm_in 509 (by decide +kernel) (by decide +kernel), sm_in 4 (by decide +kernel) (by decide +kernel), sm_in 82 (by decide +kernel) (by decide +kernel), rfl, ⟨by decide +kernel, by decide +kernel, by decide +kernel⟩, by decide⟩
theorem dX11_join_125 : decode cX11_join 125 = .ok (.invokevirtual 161, 3) := dk_invokevirtual 161 (b1 := 0) (b2 := 161) (by decide +kernel) (by decide +kernel) (by decide +kernel) (by decide +kernel)
theorem dX11_join_128 : decode cX11_join 128 = .ok (.ireturn, 1) := dk_ireturn (by decide +kernel)
theorem dX11_join_108 : decode cX11_join 108 = .ok (.bipush 11, 2) := dk_bipush 11 (b := 11) (by decide +kernel) (by decide +kernel) (by decide +kernel)
theorem dX11_join_110 : decode cX11_join 110 = .ok (.goto 5, 3) := dk_goto 5 (b1 := 0) (b2 := 5) (by decide +kernel) (by decide +kernel) (by decide +kernel) (by decide +kernel)
theorem dX11_join_76 : decode cX11_join 76 = .ok (.aload_n 0, 1) := dk_aload_n_0 (by decide +kernel)
theorem dX11_join_77 : decode cX11_join 77 = .ok (.iconst 4, 1) := dk_iconst_4 (by decide +kernel)
theorem dX11_join_78 : decode cX11_join 78 = .ok (.invokevirtual 103, 3) := dk_invokevirtual 103 (b1 := 0) (b2 := 103) (by decide +kernel) (by decide +kernel) (by decide +kernel) (by decide +kernel)
theorem dX11_join_81 : decode cX11_join 81 = .ok (.ireturn, 1) := dk_ireturn (by decide +kernel)
set_option maxRecDepth 20000 in
theorem vX11_join_0 {E : sm_E} {L : sm_S → Prop} {d : Nat} {x1 : Int32} {x2 : Int32} {x3 : Int32} {x4 : Int32}  {m : sm_M} {Q : Int32 → sm_M → Prop} (hly : ∀ S, L S → ly S) (hd : 6 ≤ d) 
  (h : sm_callI E L mX11_isSlot 1 0 0 [.int x1] m (fun r_2 m_1 =>
   (r_2 = 0 →
      sm_callI E L mX11_error 1 0 0 [.ref (sm_B E + 0), .int 1] m_1 (fun r_4 m_3 =>
      Q r_4 m_3)) ∧
   (¬ r_2 = 0 →
      sm_callI E L mX11_isSlot 1 0 0 [.int x2] m_1 (fun r_6 m_5 =>
      (r_6 = 0 →
         sm_callI E L mX11_error 1 0 0 [.ref (sm_B E + 0), .int 1] m_5 (fun r_8 m_7 =>
         Q r_8 m_7)) ∧
      (¬ r_6 = 0 →
         sm_callI E L mX11_isChoice 1 0 0 [.int x3] m_5 (fun r_10 m_9 =>
         (r_10 = 0 →
            sm_callI E L mX11_error 1 0 0 [.ref (sm_B E + 0), .int 1] m_9 (fun r_12 m_11 =>
            Q r_12 m_11)) ∧
         (¬ r_10 = 0 →
            sm_callI E L mX11_isSlot 1 0 0 [.int x4] m_9 (fun r_14 m_13 =>
            (¬ r_14 = 0 →
               (vp_in x1 6) ∧ (vp_in x2 6) ∧ sm_callI E L mX8_hasRoom 1 0 0 [.ref (sm_B E + (77 + 4 * x1.toNatClampNeg)), .int (m_13.1 (77 + 4 * x2.toNatClampNeg) 2), .int (m_13.1 (77 + 4 * x2.toNatClampNeg) 3), .int ((m_13.1 (77 + 4 * x2.toNatClampNeg) 1) + 1)] m_13 (fun r_18 m_17 =>
               (¬ r_18 = 0 →
                  sm_callV E L mX8_copy 1 0 0 [.ref (sm_B E + 3), .ref (sm_B E + (77 + 4 * x1.toNatClampNeg))] m_17 (fun m_19 =>
                  sm_callV E L mX8_append 3 0 0 [.ref (sm_B E + 3), .ref (sm_B E + (77 + 4 * x2.toNatClampNeg))] m_19 (fun m_20 =>
                  (¬ x3 = 0 →
                     sm_callV E L mX8_add 2 0 0 [.ref (sm_B E + 3), .int 12] m_20 (fun m_21 =>
                     sm_callI E L mX11_settle 5 0 0 [.ref (sm_B E + 0), .ref (sm_B E + 3), .int x4] m_21 (fun r_23 m_22 =>
                     Q r_23 m_22))) ∧
                  (x3 = 0 →
                     sm_callV E L mX8_add 2 0 0 [.ref (sm_B E + 3), .int 11] m_20 (fun m_24 =>
                     sm_callI E L mX11_settle 5 0 0 [.ref (sm_B E + 0), .ref (sm_B E + 3), .int x4] m_24 (fun r_26 m_25 =>
                     Q r_26 m_25)))))) ∧
               (r_18 = 0 →
                  sm_callI E L mX11_error 1 0 0 [.ref (sm_B E + 0), .int 4] m_17 (fun r_28 m_27 =>
                  Q r_28 m_27)))) ∧
            (r_14 = 0 →
               sm_callI E L mX11_error 1 0 0 [.ref (sm_B E + 0), .int 1] m_13 (fun r_30 m_29 =>
               Q r_30 m_29)))))))))) :
  sm_callI E L mX11_join d 0 0 [.ref (sm_B E + 0), .int x1, .int x2, .int x3, .int x4] m Q := by
  refine sm_enter (by decide +kernel) (by simp [lg_sl, Value.category]) ?_
  refine sm_iload_n (Y := mX11_join) (pc := 0) 1 1 rfl rfl dX11_join_0 ?_
  refine sm_is_I (Y := mX11_join) (pc := 1) (As := [.int x1]) fX11_isSlot wRX11_99 rfl (Nat.le_trans (by decide) hd) (Nat.le_of_ble_eq_true rfl) ⟨Nat.le_refl _, Nat.le_refl _⟩ dX11_join_1 rfl (sm_monoI h (fun r_2 m_1 h => ?_))
  refine sm_if_eq (Y := mX11_join) (pc := 4) 29 (by decide) dX11_join_4 (fun hc => ?_) (fun hc => ?_)
  · replace h := h.1 hc
    refine sm_aload_n (Y := mX11_join) (pc := 29) 0 0 rfl rfl dX11_join_29 ?_
    refine sm_iconst (Y := mX11_join) (pc := 30) 1 (by decide) dX11_join_30 ?_
    refine sm_iv_I (Y := mX11_join) (pc := 31) (As := [.int 1]) (a := 0) fX11_error wRX11_103 (lk_0 hly) (by decide) rfl rfl rfl (Nat.le_trans (by decide) hd) (Nat.le_of_ble_eq_true rfl) ⟨Nat.le_refl _, Nat.le_refl _⟩ dX11_join_31 rfl (sm_monoI h (fun r_4 m_3 h => ?_))
    exact sm_iret (Y := mX11_join) (pc := 34) rfl rfl rfl dX11_join_34 ⟨_, rfl, h⟩
  · replace h := h.2 hc
    refine sm_iload_n (Y := mX11_join) (pc := 7) 2 2 rfl rfl dX11_join_7 ?_
    refine sm_is_I (Y := mX11_join) (pc := 8) (As := [.int x2]) fX11_isSlot wRX11_99 rfl (Nat.le_trans (by decide) hd) (Nat.le_of_ble_eq_true rfl) ⟨Nat.le_refl _, Nat.le_refl _⟩ dX11_join_8 rfl (sm_monoI h (fun r_6 m_5 h => ?_))
    refine sm_if_eq (Y := mX11_join) (pc := 11) 29 (by decide) dX11_join_11 (fun hc => ?_) (fun hc => ?_)
    · replace h := h.1 hc
      refine sm_aload_n (Y := mX11_join) (pc := 29) 0 0 rfl rfl dX11_join_29 ?_
      refine sm_iconst (Y := mX11_join) (pc := 30) 1 (by decide) dX11_join_30 ?_
      refine sm_iv_I (Y := mX11_join) (pc := 31) (As := [.int 1]) (a := 0) fX11_error wRX11_103 (lk_0 hly) (by decide) rfl rfl rfl (Nat.le_trans (by decide) hd) (Nat.le_of_ble_eq_true rfl) ⟨Nat.le_refl _, Nat.le_refl _⟩ dX11_join_31 rfl (sm_monoI h (fun r_8 m_7 h => ?_))
      exact sm_iret (Y := mX11_join) (pc := 34) rfl rfl rfl dX11_join_34 ⟨_, rfl, h⟩
    · replace h := h.2 hc
      refine sm_iload_n (Y := mX11_join) (pc := 14) 3 3 rfl rfl dX11_join_14 ?_
      refine sm_is_I (Y := mX11_join) (pc := 15) (As := [.int x3]) fX11_isChoice wRX11_148 rfl (Nat.le_trans (by decide) hd) (Nat.le_of_ble_eq_true rfl) ⟨Nat.le_refl _, Nat.le_refl _⟩ dX11_join_15 rfl (sm_monoI h (fun r_10 m_9 h => ?_))
      refine sm_if_eq (Y := mX11_join) (pc := 18) 29 (by decide) dX11_join_18 (fun hc => ?_) (fun hc => ?_)
      · replace h := h.1 hc
        refine sm_aload_n (Y := mX11_join) (pc := 29) 0 0 rfl rfl dX11_join_29 ?_
        refine sm_iconst (Y := mX11_join) (pc := 30) 1 (by decide) dX11_join_30 ?_
        refine sm_iv_I (Y := mX11_join) (pc := 31) (As := [.int 1]) (a := 0) fX11_error wRX11_103 (lk_0 hly) (by decide) rfl rfl rfl (Nat.le_trans (by decide) hd) (Nat.le_of_ble_eq_true rfl) ⟨Nat.le_refl _, Nat.le_refl _⟩ dX11_join_31 rfl (sm_monoI h (fun r_12 m_11 h => ?_))
        exact sm_iret (Y := mX11_join) (pc := 34) rfl rfl rfl dX11_join_34 ⟨_, rfl, h⟩
      · replace h := h.2 hc
        refine sm_iload (Y := mX11_join) (pc := 21) 4 4 rfl dX11_join_21 ?_
        refine sm_is_I (Y := mX11_join) (pc := 23) (As := [.int x4]) fX11_isSlot wRX11_99 rfl (Nat.le_trans (by decide) hd) (Nat.le_of_ble_eq_true rfl) ⟨Nat.le_refl _, Nat.le_refl _⟩ dX11_join_23 rfl (sm_monoI h (fun r_14 m_13 h => ?_))
        refine sm_if_ne (Y := mX11_join) (pc := 26) 35 (by decide) dX11_join_26 (fun hc => ?_) (fun hc => ?_)
        · replace h := h.1 hc
          refine sm_aload_n (Y := mX11_join) (pc := 35) 0 0 rfl rfl dX11_join_35 ?_
          refine gf_RX11_11 (Y := mX11_join) (pc := 36) (b := 1) rfl ((lk_0 hly) _) (lf_0_0 hly _) dX11_join_36 ?_
          refine sm_iload_n (Y := mX11_join) (pc := 39) 1 1 rfl rfl dX11_join_39 ?_
          obtain ⟨hn_15, h⟩ := h
          refine sm_aaldG (Y := mX11_join) (pc := 40) (b := (77 + 4 * x1.toNatClampNeg)) (la_1 hly _) hn_15 (ly_slotR hly (sm_inlt hn_15) _) dX11_join_40 ?_
          refine sm_astore (Y := mX11_join) (pc := 41) [(5, .ref (sm_B E + (77 + 4 * x1.toNatClampNeg))), (0, .ref (sm_B E + 0)), (1, .int x1), (2, .int x2), (3, .int x3), (4, .int x4)] 5 (by decide) rfl dX11_join_41 ?_
          refine sm_aload_n (Y := mX11_join) (pc := 43) 1 0 rfl rfl dX11_join_43 ?_
          refine gf_RX11_11 (Y := mX11_join) (pc := 44) (b := 1) rfl ((lk_0 hly) _) (lf_0_0 hly _) dX11_join_44 ?_
          refine sm_iload_n (Y := mX11_join) (pc := 47) 3 2 rfl rfl dX11_join_47 ?_
          obtain ⟨hn_16, h⟩ := h
          refine sm_aaldG (Y := mX11_join) (pc := 48) (b := (77 + 4 * x2.toNatClampNeg)) (la_1 hly _) hn_16 (ly_slotR hly (sm_inlt hn_16) _) dX11_join_48 ?_
          refine sm_astore (Y := mX11_join) (pc := 49) [(6, .ref (sm_B E + (77 + 4 * x2.toNatClampNeg))), (5, .ref (sm_B E + (77 + 4 * x1.toNatClampNeg))), (0, .ref (sm_B E + 0)), (1, .int x1), (2, .int x2), (3, .int x3), (4, .int x4)] 6 (by decide) rfl dX11_join_49 ?_
          refine sm_aload (Y := mX11_join) (pc := 51) 1 5 rfl dX11_join_51 ?_
          refine sm_aload (Y := mX11_join) (pc := 53) 0 6 rfl dX11_join_53 ?_
          refine gf_RX11_111 (Y := mX11_join) (pc := 55) rfl ((fun S hS => ((ly_slotT hly (sm_inlt hn_16)) S hS).1) _) dX11_join_55 ?_
          refine sm_aload (Y := mX11_join) (pc := 58) 0 6 rfl dX11_join_58 ?_
          refine gf_RX11_114 (Y := mX11_join) (pc := 60) rfl ((fun S hS => ((ly_slotT hly (sm_inlt hn_16)) S hS).1) _) dX11_join_60 ?_
          refine sm_aload (Y := mX11_join) (pc := 63) 0 6 rfl dX11_join_63 ?_
          refine gf_RX11_117 (Y := mX11_join) (pc := 65) rfl ((fun S hS => ((ly_slotT hly (sm_inlt hn_16)) S hS).1) _) dX11_join_65 ?_
          refine sm_iconst (Y := mX11_join) (pc := 68) 1 (by decide) dX11_join_68 ?_
          refine sm_iadd (Y := mX11_join) (pc := 69) dX11_join_69 ?_
          refine sm_iv_I (Y := mX11_join) (pc := 70) (As := [.int (m_13.1 (77 + 4 * x2.toNatClampNeg) 2), .int (m_13.1 (77 + 4 * x2.toNatClampNeg) 3), .int ((m_13.1 (77 + 4 * x2.toNatClampNeg) 1) + 1)]) (a := (77 + 4 * x1.toNatClampNeg)) fX8_hasRoom wRX11_151 (fun S hS => ((ly_slotT hly (sm_inlt hn_15)) S hS).1) (by decide) rfl rfl rfl (Nat.le_trans (by decide) hd) (Nat.le_of_ble_eq_true rfl) ⟨Nat.le_refl _, Nat.le_refl _⟩ dX11_join_70 rfl (sm_monoI h (fun r_18 m_17 h => ?_))
          refine sm_if_ne (Y := mX11_join) (pc := 73) 82 (by decide) dX11_join_73 (fun hc => ?_) (fun hc => ?_)
          · replace h := h.1 hc
            refine sm_aload_n (Y := mX11_join) (pc := 82) 2 0 rfl rfl dX11_join_82 ?_
            refine gf_RX11_21 (Y := mX11_join) (pc := 83) (b := 3) rfl ((lk_0 hly) _) (lf_0_2 hly _) dX11_join_83 ?_
            refine sm_aload (Y := mX11_join) (pc := 86) 1 5 rfl dX11_join_86 ?_
            refine sm_iv_V (Y := mX11_join) (pc := 88) (As := [.ref (sm_B E + (77 + 4 * x1.toNatClampNeg))]) (a := 3) fX8_copy wRX11_155 (lk_3 hly) (by decide) rfl rfl rfl (Nat.le_trans (by decide) hd) (Nat.le_of_ble_eq_true rfl) ⟨Nat.le_refl _, Nat.le_refl _⟩ dX11_join_88 rfl (sm_monoV h (fun m_19 h => ?_))
            refine sm_aload_n (Y := mX11_join) (pc := 91) 2 0 rfl rfl dX11_join_91 ?_
            refine gf_RX11_21 (Y := mX11_join) (pc := 92) (b := 3) rfl ((lk_0 hly) _) (lf_0_2 hly _) dX11_join_92 ?_
            refine sm_aload (Y := mX11_join) (pc := 95) 0 6 rfl dX11_join_95 ?_
            refine sm_iv_V (Y := mX11_join) (pc := 97) (As := [.ref (sm_B E + (77 + 4 * x2.toNatClampNeg))]) (a := 3) fX8_append wRX11_158 (lk_3 hly) (by decide) rfl rfl rfl (Nat.le_trans (by decide) hd) (Nat.le_of_ble_eq_true rfl) ⟨Nat.le_refl _, Nat.le_refl _⟩ dX11_join_97 rfl (sm_monoV h (fun m_20 h => ?_))
            refine sm_aload_n (Y := mX11_join) (pc := 100) 2 0 rfl rfl dX11_join_100 ?_
            refine gf_RX11_21 (Y := mX11_join) (pc := 101) (b := 3) rfl ((lk_0 hly) _) (lf_0_2 hly _) dX11_join_101 ?_
            refine sm_iload_n (Y := mX11_join) (pc := 104) 5 3 rfl rfl dX11_join_104 ?_
            refine sm_if_ne (Y := mX11_join) (pc := 105) 113 (by decide) dX11_join_105 (fun hc => ?_) (fun hc => ?_)
            · replace h := h.1 hc
              refine sm_bipush (Y := mX11_join) (pc := 113) 12 (by decide) dX11_join_113 ?_
              refine sm_iv_V (Y := mX11_join) (pc := 115) (As := [.int 12]) (a := 3) fX8_add wRX11_141 (lk_3 hly) (by decide) rfl rfl rfl (Nat.le_trans (by decide) hd) (Nat.le_of_ble_eq_true rfl) ⟨Nat.le_refl _, Nat.le_refl _⟩ dX11_join_115 rfl (sm_monoV h (fun m_21 h => ?_))
              refine sm_aload_n (Y := mX11_join) (pc := 118) 2 0 rfl rfl dX11_join_118 ?_
              refine sm_aload_n (Y := mX11_join) (pc := 119) 2 0 rfl rfl dX11_join_119 ?_
              refine gf_RX11_21 (Y := mX11_join) (pc := 120) (b := 3) rfl ((lk_0 hly) _) (lf_0_2 hly _) dX11_join_120 ?_
              refine sm_iload (Y := mX11_join) (pc := 123) 6 4 rfl dX11_join_123 ?_
              refine sm_iv_I (Y := mX11_join) (pc := 125) (As := [.ref (sm_B E + 3), .int x4]) (a := 0) fX11_settle wRX11_161 (lk_0 hly) (by decide) rfl rfl rfl (Nat.le_trans (by decide) hd) (Nat.le_of_ble_eq_true rfl) ⟨Nat.le_refl _, Nat.le_refl _⟩ dX11_join_125 rfl (sm_monoI h (fun r_23 m_22 h => ?_))
              exact sm_iret (Y := mX11_join) (pc := 128) rfl rfl rfl dX11_join_128 ⟨_, rfl, h⟩
            · replace h := h.2 hc
              refine sm_bipush (Y := mX11_join) (pc := 108) 11 (by decide) dX11_join_108 ?_
              refine sm_goto (Y := mX11_join) (pc := 110) 115 (by decide) dX11_join_110 ?_
              refine sm_iv_V (Y := mX11_join) (pc := 115) (As := [.int 11]) (a := 3) fX8_add wRX11_141 (lk_3 hly) (by decide) rfl rfl rfl (Nat.le_trans (by decide) hd) (Nat.le_of_ble_eq_true rfl) ⟨Nat.le_refl _, Nat.le_refl _⟩ dX11_join_115 rfl (sm_monoV h (fun m_24 h => ?_))
              refine sm_aload_n (Y := mX11_join) (pc := 118) 2 0 rfl rfl dX11_join_118 ?_
              refine sm_aload_n (Y := mX11_join) (pc := 119) 2 0 rfl rfl dX11_join_119 ?_
              refine gf_RX11_21 (Y := mX11_join) (pc := 120) (b := 3) rfl ((lk_0 hly) _) (lf_0_2 hly _) dX11_join_120 ?_
              refine sm_iload (Y := mX11_join) (pc := 123) 6 4 rfl dX11_join_123 ?_
              refine sm_iv_I (Y := mX11_join) (pc := 125) (As := [.ref (sm_B E + 3), .int x4]) (a := 0) fX11_settle wRX11_161 (lk_0 hly) (by decide) rfl rfl rfl (Nat.le_trans (by decide) hd) (Nat.le_of_ble_eq_true rfl) ⟨Nat.le_refl _, Nat.le_refl _⟩ dX11_join_125 rfl (sm_monoI h (fun r_26 m_25 h => ?_))
              exact sm_iret (Y := mX11_join) (pc := 128) rfl rfl rfl dX11_join_128 ⟨_, rfl, h⟩
          · replace h := h.2 hc
            refine sm_aload_n (Y := mX11_join) (pc := 76) 2 0 rfl rfl dX11_join_76 ?_
            refine sm_iconst (Y := mX11_join) (pc := 77) 4 (by decide) dX11_join_77 ?_
            refine sm_iv_I (Y := mX11_join) (pc := 78) (As := [.int 4]) (a := 0) fX11_error wRX11_103 (lk_0 hly) (by decide) rfl rfl rfl (Nat.le_trans (by decide) hd) (Nat.le_of_ble_eq_true rfl) ⟨Nat.le_refl _, Nat.le_refl _⟩ dX11_join_78 rfl (sm_monoI h (fun r_28 m_27 h => ?_))
            exact sm_iret (Y := mX11_join) (pc := 81) rfl rfl rfl dX11_join_81 ⟨_, rfl, h⟩
        · replace h := h.2 hc
          refine sm_aload_n (Y := mX11_join) (pc := 29) 0 0 rfl rfl dX11_join_29 ?_
          refine sm_iconst (Y := mX11_join) (pc := 30) 1 (by decide) dX11_join_30 ?_
          refine sm_iv_I (Y := mX11_join) (pc := 31) (As := [.int 1]) (a := 0) fX11_error wRX11_103 (lk_0 hly) (by decide) rfl rfl rfl (Nat.le_trans (by decide) hd) (Nat.le_of_ble_eq_true rfl) ⟨Nat.le_refl _, Nat.le_refl _⟩ dX11_join_31 rfl (sm_monoI h (fun r_30 m_29 h => ?_))
          exact sm_iret (Y := mX11_join) (pc := 34) rfl rfl rfl dX11_join_34 ⟨_, rfl, h⟩
abbrev mX11_move : sm_Y := (yX11_move, cX11_move, 4, (some FieldType.int))
theorem fX11_move : sm_mi mX11_move RX11 2 := ⟨sm_in 514 (by decide +kernel) (by decide +kernel), sm_in 512 (by decide +kernel) (by decide +kernel), sm_in 513 (by decide +kernel) (by decide +kernel), sm_in 82 (by decide +kernel) (by decide +kernel), rfl, ⟨by decide +kernel, by decide +kernel, by decide +kernel⟩, by decide⟩
theorem dX11_move_0 : decode cX11_move 0 = .ok (.iload_n 1, 1) := dk_iload_n_1 (by decide +kernel)
theorem dX11_move_1 : decode cX11_move 1 = .ok (.invokestatic 99, 3) := dk_invokestatic 99 (b1 := 0) (b2 := 99) (by decide +kernel) (by decide +kernel) (by decide +kernel) (by decide +kernel)
theorem dX11_move_4 : decode cX11_move 4 = .ok (.ifCond .eq 13, 3) := dk_ifCond_eq 13 (b1 := 0) (b2 := 13) (by decide +kernel) (by decide +kernel) (by decide +kernel) (by decide +kernel)
theorem dX11_move_17 : decode cX11_move 17 = .ok (.aload_n 0, 1) := dk_aload_n_0 (by decide +kernel)
theorem dX11_move_18 : decode cX11_move 18 = .ok (.iconst 1, 1) := dk_iconst_1 (by decide +kernel)
theorem dX11_move_19 : decode cX11_move 19 = .ok (.invokevirtual 103, 3) := dk_invokevirtual 103 (b1 := 0) (b2 := 103) (by decide +kernel) (by decide +kernel) (by decide +kernel) (by decide +kernel)
theorem dX11_move_22 : decode cX11_move 22 = .ok (.ireturn, 1) := dk_ireturn (by decide +kernel)
theorem dX11_move_7 : decode cX11_move 7 = .ok (.iload_n 2, 1) := dk_iload_n_2 (by decide +kernel)
theorem dX11_move_8 : decode cX11_move 8 = .ok (.ifCond .lt 9, 3) := dk_ifCond_lt 9 (b1 := 0) (b2 := 9) (by decide +kernel) (by decide +kernel) (by decide +kernel) (by decide +kernel)
theorem dX11_move_11 : decode cX11_move 11 = .ok (.iload_n 2, 1) := dk_iload_n_2 (by decide +kernel)
theorem dX11_move_12 : decode cX11_move 12 = .ok (.bipush 6, 2) := dk_bipush 6 (b := 6) (by decide +kernel) (by decide +kernel) (by decide +kernel)
theorem dX11_move_14 : decode cX11_move 14 = .ok (.if_icmp .lt 9, 3) := dk_if_icmp_lt 9 (b1 := 0) (b2 := 9) (by decide +kernel) (by decide +kernel) (by decide +kernel) (by decide +kernel)
theorem dX11_move_23 : decode cX11_move 23 = .ok (.aload_n 0, 1) := dk_aload_n_0 (by decide +kernel)
theorem dX11_move_24 : decode cX11_move 24 = .ok (.getfield 11, 3) := dk_getfield 11 (b1 := 0) (b2 := 11) (by decide +kernel) (by decide +kernel) (by decide +kernel) (by decide +kernel)
theorem dX11_move_27 : decode cX11_move 27 = .ok (.iload_n 1, 1) := dk_iload_n_1 (by decide +kernel)
theorem dX11_move_28 : decode cX11_move 28 = .ok (.aaload, 1) := dk_aaload (by decide +kernel)
theorem dX11_move_29 : decode cX11_move 29 = .ok (.astore_n 3, 1) := dk_astore_n_3 (by decide +kernel)
theorem dX11_move_30 : decode cX11_move 30 = .ok (.aload_n 3, 1) := dk_aload_n_3 (by decide +kernel)
theorem dX11_move_31 : decode cX11_move 31 = .ok (.iload_n 2, 1) := dk_iload_n_2 (by decide +kernel)
theorem wRX11_165 : Cond.methodLink RX11 165 yX8_advance ∈ sm_T := sm_in 515 (by decide +kernel) (by decide +kernel)
theorem dX11_move_32 : decode cX11_move 32 = .ok (.invokevirtual 165, 3) := dk_invokevirtual 165 (b1 := 0) (b2 := 165) (by decide +kernel) (by decide +kernel) (by decide +kernel) (by decide +kernel)
theorem dX11_move_35 : decode cX11_move 35 = .ok (.ifCond .ne 9, 3) := dk_ifCond_ne 9 (b1 := 0) (b2 := 9) (by decide +kernel) (by decide +kernel) (by decide +kernel) (by decide +kernel)
theorem dX11_move_44 : decode cX11_move 44 = .ok (.aload_n 0, 1) := dk_aload_n_0 (by decide +kernel)
theorem dX11_move_45 : decode cX11_move 45 = .ok (.getfield 28, 3) := dk_getfield 28 (b1 := 0) (b2 := 28) (by decide +kernel) (by decide +kernel) (by decide +kernel) (by decide +kernel)
theorem dX11_move_48 : decode cX11_move 48 = .ok (.aload_n 3, 1) := dk_aload_n_3 (by decide +kernel)
theorem dX11_move_49 : decode cX11_move 49 = .ok (.invokevirtual 144, 3) := dk_invokevirtual 144 (b1 := 0) (b2 := 144) (by decide +kernel) (by decide +kernel) (by decide +kernel) (by decide +kernel)
theorem dX11_move_52 : decode cX11_move 52 = .ok (.aload_n 3, 1) := dk_aload_n_3 (by decide +kernel)
theorem dX11_move_53 : decode cX11_move 53 = .ok (.getfield 114, 3) := dk_getfield 114 (b1 := 0) (b2 := 114) (by decide +kernel) (by decide +kernel) (by decide +kernel) (by decide +kernel)
theorem dX11_move_56 : decode cX11_move 56 = .ok (.ireturn, 1) := dk_ireturn (by decide +kernel)
theorem dX11_move_38 : decode cX11_move 38 = .ok (.aload_n 0, 1) := dk_aload_n_0 (by decide +kernel)
theorem dX11_move_39 : decode cX11_move 39 = .ok (.iconst 4, 1) := dk_iconst_4 (by decide +kernel)
theorem dX11_move_40 : decode cX11_move 40 = .ok (.invokevirtual 103, 3) := dk_invokevirtual 103 (b1 := 0) (b2 := 103) (by decide +kernel) (by decide +kernel) (by decide +kernel) (by decide +kernel)
theorem dX11_move_43 : decode cX11_move 43 = .ok (.ireturn, 1) := dk_ireturn (by decide +kernel)
set_option maxRecDepth 20000 in
theorem vX11_move_0 {E : sm_E} {L : sm_S → Prop} {d : Nat} {x1 : Int32} {x2 : Int32}  {m : sm_M} {Q : Int32 → sm_M → Prop} (hly : ∀ S, L S → ly S) (hd : 5 ≤ d) 
  (h : sm_callI E L mX11_isSlot 1 0 0 [.int x1] m (fun r_2 m_1 =>
   (r_2 = 0 →
      sm_callI E L mX11_error 1 0 0 [.ref (sm_B E + 0), .int 1] m_1 (fun r_4 m_3 =>
      Q r_4 m_3)) ∧
   (¬ r_2 = 0 →
      (x2 < 0 →
         sm_callI E L mX11_error 1 0 0 [.ref (sm_B E + 0), .int 1] m_1 (fun r_6 m_5 =>
         Q r_6 m_5)) ∧
      (¬ x2 < 0 →
         (x2 < 6 →
            (vp_in x1 6) ∧ sm_callI E L mX8_advance 3 0 0 [.ref (sm_B E + (77 + 4 * x1.toNatClampNeg)), .int x2] m_1 (fun r_9 m_8 =>
            (¬ r_9 = 0 →
               sm_callV E L mX4_measure 4 0 0 [.ref (sm_B E + 5), .ref (sm_B E + (77 + 4 * x1.toNatClampNeg))] m_8 (fun m_10 =>
               Q (m_10.1 (77 + 4 * x1.toNatClampNeg) 3) m_10)) ∧
            (r_9 = 0 →
               sm_callI E L mX11_error 1 0 0 [.ref (sm_B E + 0), .int 4] m_8 (fun r_12 m_11 =>
               Q r_12 m_11)))) ∧
         (¬ x2 < 6 →
            sm_callI E L mX11_error 1 0 0 [.ref (sm_B E + 0), .int 1] m_1 (fun r_14 m_13 =>
            Q r_14 m_13)))))) :
  sm_callI E L mX11_move d 0 0 [.ref (sm_B E + 0), .int x1, .int x2] m Q := by
  refine sm_enter (by decide +kernel) (by simp [lg_sl, Value.category]) ?_
  refine sm_iload_n (Y := mX11_move) (pc := 0) 1 1 rfl rfl dX11_move_0 ?_
  refine sm_is_I (Y := mX11_move) (pc := 1) (As := [.int x1]) fX11_isSlot wRX11_99 rfl (Nat.le_trans (by decide) hd) (Nat.le_of_ble_eq_true rfl) ⟨Nat.le_refl _, Nat.le_refl _⟩ dX11_move_1 rfl (sm_monoI h (fun r_2 m_1 h => ?_))
  refine sm_if_eq (Y := mX11_move) (pc := 4) 17 (by decide) dX11_move_4 (fun hc => ?_) (fun hc => ?_)
  · replace h := h.1 hc
    refine sm_aload_n (Y := mX11_move) (pc := 17) 0 0 rfl rfl dX11_move_17 ?_
    refine sm_iconst (Y := mX11_move) (pc := 18) 1 (by decide) dX11_move_18 ?_
    refine sm_iv_I (Y := mX11_move) (pc := 19) (As := [.int 1]) (a := 0) fX11_error wRX11_103 (lk_0 hly) (by decide) rfl rfl rfl (Nat.le_trans (by decide) hd) (Nat.le_of_ble_eq_true rfl) ⟨Nat.le_refl _, Nat.le_refl _⟩ dX11_move_19 rfl (sm_monoI h (fun r_4 m_3 h => ?_))
    exact sm_iret (Y := mX11_move) (pc := 22) rfl rfl rfl dX11_move_22 ⟨_, rfl, h⟩
  · replace h := h.2 hc
    refine sm_iload_n (Y := mX11_move) (pc := 7) 2 2 rfl rfl dX11_move_7 ?_
    refine sm_if_lt (Y := mX11_move) (pc := 8) 17 (by decide) dX11_move_8 (fun hc => ?_) (fun hc => ?_)
    · replace h := h.1 hc
      refine sm_aload_n (Y := mX11_move) (pc := 17) 0 0 rfl rfl dX11_move_17 ?_
      refine sm_iconst (Y := mX11_move) (pc := 18) 1 (by decide) dX11_move_18 ?_
      refine sm_iv_I (Y := mX11_move) (pc := 19) (As := [.int 1]) (a := 0) fX11_error wRX11_103 (lk_0 hly) (by decide) rfl rfl rfl (Nat.le_trans (by decide) hd) (Nat.le_of_ble_eq_true rfl) ⟨Nat.le_refl _, Nat.le_refl _⟩ dX11_move_19 rfl (sm_monoI h (fun r_6 m_5 h => ?_))
      exact sm_iret (Y := mX11_move) (pc := 22) rfl rfl rfl dX11_move_22 ⟨_, rfl, h⟩
    · replace h := h.2 hc
      refine sm_iload_n (Y := mX11_move) (pc := 11) 2 2 rfl rfl dX11_move_11 ?_
      refine sm_bipush (Y := mX11_move) (pc := 12) 6 (by decide) dX11_move_12 ?_
      refine sm_icmp_lt (Y := mX11_move) (pc := 14) 23 (by decide) dX11_move_14 (fun hc => ?_) (fun hc => ?_)
      · replace h := h.1 hc
        refine sm_aload_n (Y := mX11_move) (pc := 23) 0 0 rfl rfl dX11_move_23 ?_
        refine gf_RX11_11 (Y := mX11_move) (pc := 24) (b := 1) rfl ((lk_0 hly) _) (lf_0_0 hly _) dX11_move_24 ?_
        refine sm_iload_n (Y := mX11_move) (pc := 27) 1 1 rfl rfl dX11_move_27 ?_
        obtain ⟨hn_7, h⟩ := h
        refine sm_aaldG (Y := mX11_move) (pc := 28) (b := (77 + 4 * x1.toNatClampNeg)) (la_1 hly _) hn_7 (ly_slotR hly (sm_inlt hn_7) _) dX11_move_28 ?_
        refine sm_astore_n (Y := mX11_move) (pc := 29) [(3, .ref (sm_B E + (77 + 4 * x1.toNatClampNeg))), (0, .ref (sm_B E + 0)), (1, .int x1), (2, .int x2)] 3 rfl (by decide) rfl dX11_move_29 ?_
        refine sm_aload_n (Y := mX11_move) (pc := 30) 0 3 rfl rfl dX11_move_30 ?_
        refine sm_iload_n (Y := mX11_move) (pc := 31) 3 2 rfl rfl dX11_move_31 ?_
        refine sm_iv_I (Y := mX11_move) (pc := 32) (As := [.int x2]) (a := (77 + 4 * x1.toNatClampNeg)) fX8_advance wRX11_165 (fun S hS => ((ly_slotT hly (sm_inlt hn_7)) S hS).1) (by decide) rfl rfl rfl (Nat.le_trans (by decide) hd) (Nat.le_of_ble_eq_true rfl) ⟨Nat.le_refl _, Nat.le_refl _⟩ dX11_move_32 rfl (sm_monoI h (fun r_9 m_8 h => ?_))
        refine sm_if_ne (Y := mX11_move) (pc := 35) 44 (by decide) dX11_move_35 (fun hc => ?_) (fun hc => ?_)
        · replace h := h.1 hc
          refine sm_aload_n (Y := mX11_move) (pc := 44) 1 0 rfl rfl dX11_move_44 ?_
          refine gf_RX11_28 (Y := mX11_move) (pc := 45) (b := 5) rfl ((lk_0 hly) _) (lf_0_3 hly _) dX11_move_45 ?_
          refine sm_aload_n (Y := mX11_move) (pc := 48) 0 3 rfl rfl dX11_move_48 ?_
          refine sm_iv_V (Y := mX11_move) (pc := 49) (As := [.ref (sm_B E + (77 + 4 * x1.toNatClampNeg))]) (a := 5) fX4_measure wRX11_144 (lk_5 hly) (by decide) rfl rfl rfl (Nat.le_trans (by decide) hd) (Nat.le_of_ble_eq_true rfl) ⟨Nat.le_refl _, Nat.le_refl _⟩ dX11_move_49 rfl (sm_monoV h (fun m_10 h => ?_))
          refine sm_aload_n (Y := mX11_move) (pc := 52) 0 3 rfl rfl dX11_move_52 ?_
          refine gf_RX11_114 (Y := mX11_move) (pc := 53) rfl ((fun S hS => ((ly_slotT hly (sm_inlt hn_7)) S hS).1) _) dX11_move_53 ?_
          exact sm_iret (Y := mX11_move) (pc := 56) rfl rfl rfl dX11_move_56 ⟨_, rfl, h⟩
        · replace h := h.2 hc
          refine sm_aload_n (Y := mX11_move) (pc := 38) 1 0 rfl rfl dX11_move_38 ?_
          refine sm_iconst (Y := mX11_move) (pc := 39) 4 (by decide) dX11_move_39 ?_
          refine sm_iv_I (Y := mX11_move) (pc := 40) (As := [.int 4]) (a := 0) fX11_error wRX11_103 (lk_0 hly) (by decide) rfl rfl rfl (Nat.le_trans (by decide) hd) (Nat.le_of_ble_eq_true rfl) ⟨Nat.le_refl _, Nat.le_refl _⟩ dX11_move_40 rfl (sm_monoI h (fun r_12 m_11 h => ?_))
          exact sm_iret (Y := mX11_move) (pc := 43) rfl rfl rfl dX11_move_43 ⟨_, rfl, h⟩
      · replace h := h.2 hc
        refine sm_aload_n (Y := mX11_move) (pc := 17) 0 0 rfl rfl dX11_move_17 ?_
        refine sm_iconst (Y := mX11_move) (pc := 18) 1 (by decide) dX11_move_18 ?_
        refine sm_iv_I (Y := mX11_move) (pc := 19) (As := [.int 1]) (a := 0) fX11_error wRX11_103 (lk_0 hly) (by decide) rfl rfl rfl (Nat.le_trans (by decide) hd) (Nat.le_of_ble_eq_true rfl) ⟨Nat.le_refl _, Nat.le_refl _⟩ dX11_move_19 rfl (sm_monoI h (fun r_14 m_13 h => ?_))
        exact sm_iret (Y := mX11_move) (pc := 22) rfl rfl rfl dX11_move_22 ⟨_, rfl, h⟩
abbrev mX11_feed : sm_Y := (yX11_feed, cX11_feed, 5, (some FieldType.int))
theorem fX11_feed : sm_mi mX11_feed RX11 2 := ⟨sm_in 523 (by decide +kernel) (by decide +kernel), sm_in 521 (by decide +kernel) (by decide +kernel), sm_in 522 (by decide +kernel) (by decide +kernel), sm_in 82 (by decide +kernel) (by decide +kernel), rfl, ⟨by decide +kernel, by decide +kernel, by decide +kernel⟩, by decide⟩
def gX11_feed_37 (E : sm_E) (L : sm_S → Prop) (d : Nat) (vs : List Value) (x1 : Int64) (x3 : Int32) (x4 : Int32) (m : sm_M) (Q : Int32 → sm_M → Prop) : Prop := sm_go E L mX11_feed d 0 0 vs 37 [(0, .ref (sm_B E + 0)), (1, .long x1), (3, .int x3), (4, .int x4)] [] m 0 0 (sm_Z E L vs 0 0 (sm_QI Q))
theorem dX11_feed_37 : decode cX11_feed 37 = .ok (.iload 4, 2) := dk_iload 4 (b := 4) (by decide +kernel) (by decide +kernel) (by decide +kernel)
theorem dX11_feed_39 : decode cX11_feed 39 = .ok (.iload_n 3, 1) := dk_iload_n_3 (by decide +kernel)
theorem dX11_feed_40 : decode cX11_feed 40 = .ok (.if_icmp .ge 28, 3) := dk_if_icmp_ge 28 (b1 := 0) (b2 := 28) (by decide +kernel) (by decide +kernel) (by decide +kernel) (by decide +kernel)
theorem dX11_feed_68 : decode cX11_feed 68 = .ok (.aload_n 0, 1) := dk_aload_n_0 (by decide +kernel)
theorem dX11_feed_69 : decode cX11_feed 69 = .ok (.getfield 35, 3) := dk_getfield 35 (b1 := 0) (b2 := 35) (by decide +kernel) (by decide +kernel) (by decide +kernel) (by decide +kernel)
theorem dX11_feed_72 : decode cX11_feed 72 = .ok (.getfield 173, 3) := dk_getfield 173 (b1 := 0) (b2 := 173) (by decide +kernel) (by decide +kernel) (by decide +kernel) (by decide +kernel)
theorem dX11_feed_75 : decode cX11_feed 75 = .ok (.ireturn, 1) := dk_ireturn (by decide +kernel)
theorem dX11_feed_43 : decode cX11_feed 43 = .ok (.aload_n 0, 1) := dk_aload_n_0 (by decide +kernel)
theorem dX11_feed_44 : decode cX11_feed 44 = .ok (.getfield 35, 3) := dk_getfield 35 (b1 := 0) (b2 := 35) (by decide +kernel) (by decide +kernel) (by decide +kernel) (by decide +kernel)
theorem dX11_feed_47 : decode cX11_feed 47 = .ok (.lload_n 1, 1) := dk_lload_n_1 (by decide +kernel)
theorem dX11_feed_48 : decode cX11_feed 48 = .ok (.bipush 8, 2) := dk_bipush 8 (b := 8) (by decide +kernel) (by decide +kernel) (by decide +kernel)
theorem dX11_feed_50 : decode cX11_feed 50 = .ok (.iload 4, 2) := dk_iload 4 (b := 4) (by decide +kernel) (by decide +kernel) (by decide +kernel)
theorem dX11_feed_52 : decode cX11_feed 52 = .ok (.imul, 1) := dk_imul (by decide +kernel)
theorem dX11_feed_53 : decode cX11_feed 53 = .ok (.lushr, 1) := dk_lushr (by decide +kernel)
theorem dX11_feed_54 : decode cX11_feed 54 = .ok (.l2i, 1) := dk_l2i (by decide +kernel)
theorem dX11_feed_55 : decode cX11_feed 55 = .ok (.sipush 255, 3) := dk_sipush 255 (b1 := 0) (b2 := 255) (by decide +kernel) (by decide +kernel) (by decide +kernel) (by decide +kernel)
theorem dX11_feed_58 : decode cX11_feed 58 = .ok (.iand, 1) := dk_iand (by decide +kernel)
theorem wRX11_170 : Cond.methodLink RX11 170 yX9_take ∈ sm_T := sm_in 528 (by decide +kernel) (by decide +kernel)
theorem dX11_feed_59 : decode cX11_feed 59 = .ok (.invokevirtual 170, 3) := dk_invokevirtual 170 (b1 := 0) (b2 := 170) (by decide +kernel) (by decide +kernel) (by decide +kernel) (by decide +kernel)
theorem dX11_feed_62 : decode cX11_feed 62 = .ok (.iinc 4 1, 3) := dk_iinc 4 1 (b1 := 4) (b2 := 1) (by decide +kernel) (by decide +kernel) (by decide +kernel) (by decide +kernel) (by decide +kernel)
theorem dX11_feed_65 : decode cX11_feed 65 = .ok (.goto (-28), 3) := dk_goto (-28) (b1 := 255) (b2 := 228) (by decide +kernel) (by decide +kernel) (by decide +kernel) (by decide +kernel)
set_option maxRecDepth 20000 in
theorem vX11_feed_37 {E : sm_E} {L : sm_S → Prop} {d : Nat} {vs : List Value} {x1 : Int64} {x3 : Int32} {x4 : Int32}  {m : sm_M} {Q : Int32 → sm_M → Prop} (hly : ∀ S, L S → ly S) (hd : 2 ≤ d) 
  (h : (x3 ≤ x4 →
      Q (m.1 10 4) m) ∧
   (¬ x3 ≤ x4 →
      sm_callV E L mX9_take 1 0 0 [.ref (sm_B E + 10), .int (((sm_ushrL x1 ((8 : Int32) * x4)).toInt32) &&& 255)] m (fun m_1 =>
      ∀ x4_2 : Int32, x4_2 = x4 + 1 →
      gX11_feed_37 E L d vs x1 x3 x4_2 m_1 Q))) :
  gX11_feed_37 E L d vs x1 x3 x4 m Q := by
  refine sm_iload (Y := mX11_feed) (pc := 37) 3 4 rfl dX11_feed_37 ?_
  refine sm_iload_n (Y := mX11_feed) (pc := 39) 2 3 rfl rfl dX11_feed_39 ?_
  refine sm_icmp_ge (Y := mX11_feed) (pc := 40) 68 (by decide) dX11_feed_40 (fun hc => ?_) (fun hc => ?_)
  · replace h := h.1 hc
    refine sm_aload_n (Y := mX11_feed) (pc := 68) 0 0 rfl rfl dX11_feed_68 ?_
    refine gf_RX11_35 (Y := mX11_feed) (pc := 69) (b := 10) rfl ((lk_0 hly) _) (lf_0_4 hly _) dX11_feed_69 ?_
    refine gf_RX11_173 (Y := mX11_feed) (pc := 72) rfl ((lk_10 hly) _) dX11_feed_72 ?_
    exact sm_iret (Y := mX11_feed) (pc := 75) rfl rfl rfl dX11_feed_75 ⟨_, rfl, h⟩
  · replace h := h.2 hc
    refine sm_aload_n (Y := mX11_feed) (pc := 43) 0 0 rfl rfl dX11_feed_43 ?_
    refine gf_RX11_35 (Y := mX11_feed) (pc := 44) (b := 10) rfl ((lk_0 hly) _) (lf_0_4 hly _) dX11_feed_44 ?_
    refine sm_lload_n (Y := mX11_feed) (pc := 47) 1 1 rfl rfl dX11_feed_47 ?_
    refine sm_bipush (Y := mX11_feed) (pc := 48) 8 (by decide) dX11_feed_48 ?_
    refine sm_iload (Y := mX11_feed) (pc := 50) 3 4 rfl dX11_feed_50 ?_
    refine sm_imul (Y := mX11_feed) (pc := 52) dX11_feed_52 ?_
    refine sm_lushr (Y := mX11_feed) (pc := 53) dX11_feed_53 ?_
    refine sm_l2i (Y := mX11_feed) (pc := 54) dX11_feed_54 ?_
    refine sm_sipush (Y := mX11_feed) (pc := 55) 255 (by decide) dX11_feed_55 ?_
    refine sm_iand (Y := mX11_feed) (pc := 58) dX11_feed_58 ?_
    refine sm_iv_V (Y := mX11_feed) (pc := 59) (As := [.int (((sm_ushrL x1 ((8 : Int32) * x4)).toInt32) &&& 255)]) (a := 10) fX9_take wRX11_170 (lk_10 hly) (by decide) rfl rfl rfl (Nat.le_trans (by decide) hd) (Nat.le_of_ble_eq_true rfl) ⟨Nat.le_refl _, Nat.le_refl _⟩ dX11_feed_59 rfl (sm_monoV h (fun m_1 h => ?_))
    refine sm_iinc (Y := mX11_feed) (pc := 62) (fun y => [(4, .int y), (0, .ref (sm_B E + 0)), (1, .long x1), (3, .int x3)]) 3 4 rfl (by decide) (fun _ => rfl) dX11_feed_62 (fun x4_2 ex4_2 => ?_)
    replace h := h x4_2 ex4_2
    refine sm_goto (Y := mX11_feed) (pc := 65) 37 (by decide) dX11_feed_65 ?_
    refine sm_sub [1, 2, 3, 0] rfl ?_
    exact h
theorem dX11_feed_0 : decode cX11_feed 0 = .ok (.iload_n 3, 1) := dk_iload_n_3 (by decide +kernel)
theorem dX11_feed_1 : decode cX11_feed 1 = .ok (.iconst 1, 1) := dk_iconst_1 (by decide +kernel)
theorem dX11_feed_2 : decode cX11_feed 2 = .ok (.if_icmp .lt 9, 3) := dk_if_icmp_lt 9 (b1 := 0) (b2 := 9) (by decide +kernel) (by decide +kernel) (by decide +kernel) (by decide +kernel)
theorem dX11_feed_11 : decode cX11_feed 11 = .ok (.aload_n 0, 1) := dk_aload_n_0 (by decide +kernel)
theorem dX11_feed_12 : decode cX11_feed 12 = .ok (.iconst 1, 1) := dk_iconst_1 (by decide +kernel)
theorem dX11_feed_13 : decode cX11_feed 13 = .ok (.invokevirtual 103, 3) := dk_invokevirtual 103 (b1 := 0) (b2 := 103) (by decide +kernel) (by decide +kernel) (by decide +kernel) (by decide +kernel)
theorem dX11_feed_16 : decode cX11_feed 16 = .ok (.ireturn, 1) := dk_ireturn (by decide +kernel)
theorem dX11_feed_5 : decode cX11_feed 5 = .ok (.iload_n 3, 1) := dk_iload_n_3 (by decide +kernel)
theorem dX11_feed_6 : decode cX11_feed 6 = .ok (.bipush 8, 2) := dk_bipush 8 (b := 8) (by decide +kernel) (by decide +kernel) (by decide +kernel)
theorem dX11_feed_8 : decode cX11_feed 8 = .ok (.if_icmp .le 9, 3) := dk_if_icmp_le 9 (b1 := 0) (b2 := 9) (by decide +kernel) (by decide +kernel) (by decide +kernel) (by decide +kernel)
theorem dX11_feed_17 : decode cX11_feed 17 = .ok (.aload_n 0, 1) := dk_aload_n_0 (by decide +kernel)
theorem dX11_feed_18 : decode cX11_feed 18 = .ok (.getfield 35, 3) := dk_getfield 35 (b1 := 0) (b2 := 35) (by decide +kernel) (by decide +kernel) (by decide +kernel) (by decide +kernel)
theorem dX11_feed_21 : decode cX11_feed 21 = .ok (.iload_n 3, 1) := dk_iload_n_3 (by decide +kernel)
theorem wRX11_168 : Cond.methodLink RX11 168 yX9_hasRoom ∈ sm_T := sm_in 524 (by decide +kernel) (by decide +kernel)
theorem dX11_feed_22 : decode cX11_feed 22 = .ok (.invokevirtual 168, 3) := dk_invokevirtual 168 (b1 := 0) (b2 := 168) (by decide +kernel) (by decide +kernel) (by decide +kernel) (by decide +kernel)
theorem dX11_feed_25 : decode cX11_feed 25 = .ok (.ifCond .ne 9, 3) := dk_ifCond_ne 9 (b1 := 0) (b2 := 9) (by decide +kernel) (by decide +kernel) (by decide +kernel) (by decide +kernel)
theorem dX11_feed_34 : decode cX11_feed 34 = .ok (.iconst 0, 1) := dk_iconst_0 (by decide +kernel)
theorem dX11_feed_35 : decode cX11_feed 35 = .ok (.istore 4, 2) := dk_istore 4 (b := 4) (by decide +kernel) (by decide +kernel) (by decide +kernel)
theorem dX11_feed_28 : decode cX11_feed 28 = .ok (.aload_n 0, 1) := dk_aload_n_0 (by decide +kernel)
theorem dX11_feed_29 : decode cX11_feed 29 = .ok (.iconst 4, 1) := dk_iconst_4 (by decide +kernel)
theorem dX11_feed_30 : decode cX11_feed 30 = .ok (.invokevirtual 103, 3) := dk_invokevirtual 103 (b1 := 0) (b2 := 103) (by decide +kernel) (by decide +kernel) (by decide +kernel) (by decide +kernel)
theorem dX11_feed_33 : decode cX11_feed 33 = .ok (.ireturn, 1) := dk_ireturn (by decide +kernel)
set_option maxRecDepth 20000 in
theorem vX11_feed_0 {E : sm_E} {L : sm_S → Prop} {d : Nat} {x1 : Int64} {x3 : Int32}  {m : sm_M} {Q : Int32 → sm_M → Prop} (hly : ∀ S, L S → ly S) (hd : 2 ≤ d) 
  (h : (x3 < 1 →
      sm_callI E L mX11_error 1 0 0 [.ref (sm_B E + 0), .int 1] m (fun r_2 m_1 =>
      Q r_2 m_1)) ∧
   (¬ x3 < 1 →
      (x3 ≤ 8 →
         sm_callI E L mX9_hasRoom 1 0 0 [.ref (sm_B E + 10), .int x3] m (fun r_4 m_3 =>
         (¬ r_4 = 0 →
            gX11_feed_37 E L d ([.ref (sm_B E + 0), .long x1, .int x3]) x1 x3 0 m_3 Q) ∧
         (r_4 = 0 →
            sm_callI E L mX11_error 1 0 0 [.ref (sm_B E + 0), .int 4] m_3 (fun r_7 m_6 =>
            Q r_7 m_6)))) ∧
      (¬ x3 ≤ 8 →
         sm_callI E L mX11_error 1 0 0 [.ref (sm_B E + 0), .int 1] m (fun r_9 m_8 =>
         Q r_9 m_8)))) :
  sm_callI E L mX11_feed d 0 0 [.ref (sm_B E + 0), .long x1, .int x3] m Q := by
  refine sm_enter (by decide +kernel) (by simp [lg_sl, Value.category]) ?_
  refine sm_iload_n (Y := mX11_feed) (pc := 0) 2 3 rfl rfl dX11_feed_0 ?_
  refine sm_iconst (Y := mX11_feed) (pc := 1) 1 (by decide) dX11_feed_1 ?_
  refine sm_icmp_lt (Y := mX11_feed) (pc := 2) 11 (by decide) dX11_feed_2 (fun hc => ?_) (fun hc => ?_)
  · replace h := h.1 hc
    refine sm_aload_n (Y := mX11_feed) (pc := 11) 0 0 rfl rfl dX11_feed_11 ?_
    refine sm_iconst (Y := mX11_feed) (pc := 12) 1 (by decide) dX11_feed_12 ?_
    refine sm_iv_I (Y := mX11_feed) (pc := 13) (As := [.int 1]) (a := 0) fX11_error wRX11_103 (lk_0 hly) (by decide) rfl rfl rfl (Nat.le_trans (by decide) hd) (Nat.le_of_ble_eq_true rfl) ⟨Nat.le_refl _, Nat.le_refl _⟩ dX11_feed_13 rfl (sm_monoI h (fun r_2 m_1 h => ?_))
    exact sm_iret (Y := mX11_feed) (pc := 16) rfl rfl rfl dX11_feed_16 ⟨_, rfl, h⟩
  · replace h := h.2 hc
    refine sm_iload_n (Y := mX11_feed) (pc := 5) 2 3 rfl rfl dX11_feed_5 ?_
    refine sm_bipush (Y := mX11_feed) (pc := 6) 8 (by decide) dX11_feed_6 ?_
    refine sm_icmp_le (Y := mX11_feed) (pc := 8) 17 (by decide) dX11_feed_8 (fun hc => ?_) (fun hc => ?_)
    · replace h := h.1 hc
      refine sm_aload_n (Y := mX11_feed) (pc := 17) 0 0 rfl rfl dX11_feed_17 ?_
      refine gf_RX11_35 (Y := mX11_feed) (pc := 18) (b := 10) rfl ((lk_0 hly) _) (lf_0_4 hly _) dX11_feed_18 ?_
      refine sm_iload_n (Y := mX11_feed) (pc := 21) 2 3 rfl rfl dX11_feed_21 ?_
      refine sm_iv_I (Y := mX11_feed) (pc := 22) (As := [.int x3]) (a := 10) fX9_hasRoom wRX11_168 (lk_10 hly) (by decide) rfl rfl rfl (Nat.le_trans (by decide) hd) (Nat.le_of_ble_eq_true rfl) ⟨Nat.le_refl _, Nat.le_refl _⟩ dX11_feed_22 rfl (sm_monoI h (fun r_4 m_3 h => ?_))
      refine sm_if_ne (Y := mX11_feed) (pc := 25) 34 (by decide) dX11_feed_25 (fun hc => ?_) (fun hc => ?_)
      · replace h := h.1 hc
        refine sm_iconst (Y := mX11_feed) (pc := 34) 0 (by decide) dX11_feed_34 ?_
        refine sm_istore0 (Y := mX11_feed) (pc := 35) [(4, .int 0), (0, .ref (sm_B E + 0)), (1, .long x1), (3, .int x3)] 4 (by decide) rfl dX11_feed_35 ?_
        refine sm_sub [1, 2, 3, 0] rfl ?_
        exact h
      · replace h := h.2 hc
        refine sm_aload_n (Y := mX11_feed) (pc := 28) 0 0 rfl rfl dX11_feed_28 ?_
        refine sm_iconst (Y := mX11_feed) (pc := 29) 4 (by decide) dX11_feed_29 ?_
        refine sm_iv_I (Y := mX11_feed) (pc := 30) (As := [.int 4]) (a := 0) fX11_error wRX11_103 (lk_0 hly) (by decide) rfl rfl rfl (Nat.le_trans (by decide) hd) (Nat.le_of_ble_eq_true rfl) ⟨Nat.le_refl _, Nat.le_refl _⟩ dX11_feed_30 rfl (sm_monoI h (fun r_7 m_6 h => ?_))
        exact sm_iret (Y := mX11_feed) (pc := 33) rfl rfl rfl dX11_feed_33 ⟨_, rfl, h⟩
    · replace h := h.2 hc
      refine sm_aload_n (Y := mX11_feed) (pc := 11) 0 0 rfl rfl dX11_feed_11 ?_
      refine sm_iconst (Y := mX11_feed) (pc := 12) 1 (by decide) dX11_feed_12 ?_
      refine sm_iv_I (Y := mX11_feed) (pc := 13) (As := [.int 1]) (a := 0) fX11_error wRX11_103 (lk_0 hly) (by decide) rfl rfl rfl (Nat.le_trans (by decide) hd) (Nat.le_of_ble_eq_true rfl) ⟨Nat.le_refl _, Nat.le_refl _⟩ dX11_feed_13 rfl (sm_monoI h (fun r_9 m_8 h => ?_))
      exact sm_iret (Y := mX11_feed) (pc := 16) rfl rfl rfl dX11_feed_16 ⟨_, rfl, h⟩
abbrev mX11_tangle : sm_Y := (yX11_tangle, cX11_tangle, 3, (some FieldType.int))
theorem fX11_tangle : sm_mi mX11_tangle RX11 1 := ⟨sm_in 535 (by decide +kernel) (by decide +kernel), sm_in 533 (by decide +kernel) (by decide +kernel), sm_in 534 (by decide +kernel) (by decide +kernel), sm_in 82 (by decide +kernel) (by decide +kernel), rfl, ⟨by decide +kernel, by decide +kernel, by decide +kernel⟩, by decide⟩
theorem dX11_tangle_0 : decode cX11_tangle 0 = .ok (.iload_n 1, 1) := dk_iload_n_1 (by decide +kernel)
theorem dX11_tangle_1 : decode cX11_tangle 1 = .ok (.invokestatic 99, 3) := dk_invokestatic 99 (b1 := 0) (b2 := 99) (by decide +kernel) (by decide +kernel) (by decide +kernel) (by decide +kernel)
theorem dX11_tangle_4 : decode cX11_tangle 4 = .ok (.ifCond .ne 9, 3) := dk_ifCond_ne 9 (b1 := 0) (b2 := 9) (by decide +kernel) (by decide +kernel) (by decide +kernel) (by decide +kernel)
theorem dX11_tangle_13 : decode cX11_tangle 13 = .ok (.aload_n 0, 1) := dk_aload_n_0 (by decide +kernel)
theorem dX11_tangle_14 : decode cX11_tangle 14 = .ok (.getfield 35, 3) := dk_getfield 35 (b1 := 0) (b2 := 35) (by decide +kernel) (by decide +kernel) (by decide +kernel) (by decide +kernel)
theorem wRX11_176 : Cond.methodLink RX11 176 yX9_readText ∈ sm_T := sm_in 536 (by decide +kernel) (by decide +kernel)
theorem dX11_tangle_17 : decode cX11_tangle 17 = .ok (.invokevirtual 176, 3) := dk_invokevirtual 176 (b1 := 0) (b2 := 176) (by decide +kernel) (by decide +kernel) (by decide +kernel) (by decide +kernel)
theorem dX11_tangle_20 : decode cX11_tangle 20 = .ok (.istore_n 2, 1) := dk_istore_n_2 (by decide +kernel)
theorem dX11_tangle_21 : decode cX11_tangle 21 = .ok (.aload_n 0, 1) := dk_aload_n_0 (by decide +kernel)
theorem dX11_tangle_22 : decode cX11_tangle 22 = .ok (.getfield 35, 3) := dk_getfield 35 (b1 := 0) (b2 := 35) (by decide +kernel) (by decide +kernel) (by decide +kernel) (by decide +kernel)
theorem dX11_tangle_25 : decode cX11_tangle 25 = .ok (.iconst 0, 1) := dk_iconst_0 (by decide +kernel)
theorem dX11_tangle_26 : decode cX11_tangle 26 = .ok (.putfield 173, 3) := dk_putfield 173 (b1 := 0) (b2 := 173) (by decide +kernel) (by decide +kernel) (by decide +kernel) (by decide +kernel)
theorem dX11_tangle_29 : decode cX11_tangle 29 = .ok (.iload_n 2, 1) := dk_iload_n_2 (by decide +kernel)
theorem dX11_tangle_30 : decode cX11_tangle 30 = .ok (.ifCond .lt 8, 3) := dk_ifCond_lt 8 (b1 := 0) (b2 := 8) (by decide +kernel) (by decide +kernel) (by decide +kernel) (by decide +kernel)
theorem dX11_tangle_38 : decode cX11_tangle 38 = .ok (.aload_n 0, 1) := dk_aload_n_0 (by decide +kernel)
theorem dX11_tangle_39 : decode cX11_tangle 39 = .ok (.getfield 35, 3) := dk_getfield 35 (b1 := 0) (b2 := 35) (by decide +kernel) (by decide +kernel) (by decide +kernel) (by decide +kernel)
theorem dX11_tangle_42 : decode cX11_tangle 42 = .ok (.getfield 180, 3) := dk_getfield 180 (b1 := 0) (b2 := 180) (by decide +kernel) (by decide +kernel) (by decide +kernel) (by decide +kernel)
theorem wRX11_183 : Cond.methodLink RX11 183 yX8_isWithinLimits ∈ sm_T := sm_in 569 (by decide +kernel) (by decide +kernel)
theorem dX11_tangle_45 : decode cX11_tangle 45 = .ok (.invokevirtual 183, 3) := dk_invokevirtual 183 (b1 := 0) (b2 := 183) (by decide +kernel) (by decide +kernel) (by decide +kernel) (by decide +kernel)
theorem dX11_tangle_48 : decode cX11_tangle 48 = .ok (.ifCond .ne 9, 3) := dk_ifCond_ne 9 (b1 := 0) (b2 := 9) (by decide +kernel) (by decide +kernel) (by decide +kernel) (by decide +kernel)
theorem dX11_tangle_57 : decode cX11_tangle 57 = .ok (.aload_n 0, 1) := dk_aload_n_0 (by decide +kernel)
theorem dX11_tangle_58 : decode cX11_tangle 58 = .ok (.aload_n 0, 1) := dk_aload_n_0 (by decide +kernel)
theorem dX11_tangle_59 : decode cX11_tangle 59 = .ok (.getfield 35, 3) := dk_getfield 35 (b1 := 0) (b2 := 35) (by decide +kernel) (by decide +kernel) (by decide +kernel) (by decide +kernel)
theorem dX11_tangle_62 : decode cX11_tangle 62 = .ok (.getfield 180, 3) := dk_getfield 180 (b1 := 0) (b2 := 180) (by decide +kernel) (by decide +kernel) (by decide +kernel) (by decide +kernel)
theorem dX11_tangle_65 : decode cX11_tangle 65 = .ok (.iload_n 1, 1) := dk_iload_n_1 (by decide +kernel)
theorem dX11_tangle_66 : decode cX11_tangle 66 = .ok (.invokevirtual 161, 3) := dk_invokevirtual 161 (b1 := 0) (b2 := 161) (by decide +kernel) (by decide +kernel) (by decide +kernel) (by decide +kernel)
theorem dX11_tangle_69 : decode cX11_tangle 69 = .ok (.ireturn, 1) := dk_ireturn (by decide +kernel)
theorem dX11_tangle_51 : decode cX11_tangle 51 = .ok (.aload_n 0, 1) := dk_aload_n_0 (by decide +kernel)
theorem dX11_tangle_52 : decode cX11_tangle 52 = .ok (.iconst 4, 1) := dk_iconst_4 (by decide +kernel)
theorem dX11_tangle_53 : decode cX11_tangle 53 = .ok (.invokevirtual 103, 3) := dk_invokevirtual 103 (b1 := 0) (b2 := 103) (by decide +kernel) (by decide +kernel) (by decide +kernel) (by decide +kernel)
theorem dX11_tangle_56 : decode cX11_tangle 56 = .ok (.ireturn, 1) := dk_ireturn (by decide +kernel)
theorem dX11_tangle_33 : decode cX11_tangle 33 = .ok (.bipush (-10), 2) := dk_bipush (-10) (b := 246) (by decide +kernel) (by decide +kernel) (by decide +kernel)
theorem dX11_tangle_35 : decode cX11_tangle 35 = .ok (.iload_n 2, 1) := dk_iload_n_2 (by decide +kernel)
theorem dX11_tangle_36 : decode cX11_tangle 36 = .ok (.isub, 1) := dk_isub (by decide +kernel)
theorem dX11_tangle_37 : decode cX11_tangle 37 = .ok (.ireturn, 1) := dk_ireturn (by decide +kernel)
theorem dX11_tangle_7 : decode cX11_tangle 7 = .ok (.aload_n 0, 1) := dk_aload_n_0 (by decide +kernel)
theorem dX11_tangle_8 : decode cX11_tangle 8 = .ok (.iconst 1, 1) := dk_iconst_1 (by decide +kernel)
theorem dX11_tangle_9 : decode cX11_tangle 9 = .ok (.invokevirtual 103, 3) := dk_invokevirtual 103 (b1 := 0) (b2 := 103) (by decide +kernel) (by decide +kernel) (by decide +kernel) (by decide +kernel)
theorem dX11_tangle_12 : decode cX11_tangle 12 = .ok (.ireturn, 1) := dk_ireturn (by decide +kernel)
set_option maxRecDepth 20000 in
theorem vX11_tangle_0 {E : sm_E} {L : sm_S → Prop} {d : Nat} {x1 : Int32}  {m : sm_M} {Q : Int32 → sm_M → Prop} (hly : ∀ S, L S → ly S) (hd : 6 ≤ d) 
  (h : sm_callI E L mX11_isSlot 1 0 0 [.int x1] m (fun r_2 m_1 =>
   (¬ r_2 = 0 →
      sm_callI E L mX9_readText 5 0 0 [.ref (sm_B E + 10)] m_1 (fun r_4 m_3 =>
      ∀ m_6 : sm_M, m_6 = sm_wI m_3 10 4 0 →
      (r_4 < 0 →
         sm_callI E L mX8_isWithinLimits 2 0 0 [.ref (sm_B E + 14)] m_6 (fun r_8 m_7 =>
         (¬ r_8 = 0 →
            sm_callI E L mX11_settle 5 0 0 [.ref (sm_B E + 0), .ref (sm_B E + 14), .int x1] m_7 (fun r_10 m_9 =>
            Q r_10 m_9)) ∧
         (r_8 = 0 →
            sm_callI E L mX11_error 1 0 0 [.ref (sm_B E + 0), .int 4] m_7 (fun r_12 m_11 =>
            Q r_12 m_11)))) ∧
      (¬ r_4 < 0 →
         Q ((-10 : Int32) - r_4) m_6))) ∧
   (r_2 = 0 →
      sm_callI E L mX11_error 1 0 0 [.ref (sm_B E + 0), .int 1] m_1 (fun r_14 m_13 =>
      Q r_14 m_13)))) :
  sm_callI E L mX11_tangle d 0 0 [.ref (sm_B E + 0), .int x1] m Q := by
  refine sm_enter (by decide +kernel) (by simp [lg_sl, Value.category]) ?_
  refine sm_iload_n (Y := mX11_tangle) (pc := 0) 1 1 rfl rfl dX11_tangle_0 ?_
  refine sm_is_I (Y := mX11_tangle) (pc := 1) (As := [.int x1]) fX11_isSlot wRX11_99 rfl (Nat.le_trans (by decide) hd) (Nat.le_of_ble_eq_true rfl) ⟨Nat.le_refl _, Nat.le_refl _⟩ dX11_tangle_1 rfl (sm_monoI h (fun r_2 m_1 h => ?_))
  refine sm_if_ne (Y := mX11_tangle) (pc := 4) 13 (by decide) dX11_tangle_4 (fun hc => ?_) (fun hc => ?_)
  · replace h := h.1 hc
    refine sm_aload_n (Y := mX11_tangle) (pc := 13) 0 0 rfl rfl dX11_tangle_13 ?_
    refine gf_RX11_35 (Y := mX11_tangle) (pc := 14) (b := 10) rfl ((lk_0 hly) _) (lf_0_4 hly _) dX11_tangle_14 ?_
    refine sm_iv_I (Y := mX11_tangle) (pc := 17) (As := []) (a := 10) fX9_readText wRX11_176 (lk_10 hly) (by decide) rfl rfl rfl (Nat.le_trans (by decide) hd) (Nat.le_of_ble_eq_true rfl) ⟨Nat.le_refl _, Nat.le_refl _⟩ dX11_tangle_17 rfl (sm_monoI h (fun r_4 m_3 h => ?_))
    refine sm_istore0_n (Y := mX11_tangle) (pc := 20) [(2, .int r_4), (0, .ref (sm_B E + 0)), (1, .int x1)] 2 rfl (by decide) rfl dX11_tangle_20 ?_
    refine sm_aload_n (Y := mX11_tangle) (pc := 21) 1 0 rfl rfl dX11_tangle_21 ?_
    refine gf_RX11_35 (Y := mX11_tangle) (pc := 22) (b := 10) rfl ((lk_0 hly) _) (lf_0_4 hly _) dX11_tangle_22 ?_
    refine sm_iconst (Y := mX11_tangle) (pc := 25) 0 (by decide) dX11_tangle_25 ?_
    refine pf_RX11_173 (Y := mX11_tangle) (pc := 26) rfl ((lk_10 hly) _) dX11_tangle_26 (fun m_6 em_6 => ?_)
    replace h := h m_6 em_6
    refine sm_iload_n (Y := mX11_tangle) (pc := 29) 0 2 rfl rfl dX11_tangle_29 ?_
    refine sm_if_lt (Y := mX11_tangle) (pc := 30) 38 (by decide) dX11_tangle_30 (fun hc => ?_) (fun hc => ?_)
    · replace h := h.1 hc
      refine sm_aload_n (Y := mX11_tangle) (pc := 38) 1 0 rfl rfl dX11_tangle_38 ?_
      refine gf_RX11_35 (Y := mX11_tangle) (pc := 39) (b := 10) rfl ((lk_0 hly) _) (lf_0_4 hly _) dX11_tangle_39 ?_
      refine gf_RX11_180 (Y := mX11_tangle) (pc := 42) (b := 14) rfl ((lk_10 hly) _) (lf_10_3 hly _) dX11_tangle_42 ?_
      refine sm_iv_I (Y := mX11_tangle) (pc := 45) (As := []) (a := 14) fX8_isWithinLimits wRX11_183 (lk_14 hly) (by decide) rfl rfl rfl (Nat.le_trans (by decide) hd) (Nat.le_of_ble_eq_true rfl) ⟨Nat.le_refl _, Nat.le_refl _⟩ dX11_tangle_45 rfl (sm_monoI h (fun r_8 m_7 h => ?_))
      refine sm_if_ne (Y := mX11_tangle) (pc := 48) 57 (by decide) dX11_tangle_48 (fun hc => ?_) (fun hc => ?_)
      · replace h := h.1 hc
        refine sm_aload_n (Y := mX11_tangle) (pc := 57) 1 0 rfl rfl dX11_tangle_57 ?_
        refine sm_aload_n (Y := mX11_tangle) (pc := 58) 1 0 rfl rfl dX11_tangle_58 ?_
        refine gf_RX11_35 (Y := mX11_tangle) (pc := 59) (b := 10) rfl ((lk_0 hly) _) (lf_0_4 hly _) dX11_tangle_59 ?_
        refine gf_RX11_180 (Y := mX11_tangle) (pc := 62) (b := 14) rfl ((lk_10 hly) _) (lf_10_3 hly _) dX11_tangle_62 ?_
        refine sm_iload_n (Y := mX11_tangle) (pc := 65) 2 1 rfl rfl dX11_tangle_65 ?_
        refine sm_iv_I (Y := mX11_tangle) (pc := 66) (As := [.ref (sm_B E + 14), .int x1]) (a := 0) fX11_settle wRX11_161 (lk_0 hly) (by decide) rfl rfl rfl (Nat.le_trans (by decide) hd) (Nat.le_of_ble_eq_true rfl) ⟨Nat.le_refl _, Nat.le_refl _⟩ dX11_tangle_66 rfl (sm_monoI h (fun r_10 m_9 h => ?_))
        exact sm_iret (Y := mX11_tangle) (pc := 69) rfl rfl rfl dX11_tangle_69 ⟨_, rfl, h⟩
      · replace h := h.2 hc
        refine sm_aload_n (Y := mX11_tangle) (pc := 51) 1 0 rfl rfl dX11_tangle_51 ?_
        refine sm_iconst (Y := mX11_tangle) (pc := 52) 4 (by decide) dX11_tangle_52 ?_
        refine sm_iv_I (Y := mX11_tangle) (pc := 53) (As := [.int 4]) (a := 0) fX11_error wRX11_103 (lk_0 hly) (by decide) rfl rfl rfl (Nat.le_trans (by decide) hd) (Nat.le_of_ble_eq_true rfl) ⟨Nat.le_refl _, Nat.le_refl _⟩ dX11_tangle_53 rfl (sm_monoI h (fun r_12 m_11 h => ?_))
        exact sm_iret (Y := mX11_tangle) (pc := 56) rfl rfl rfl dX11_tangle_56 ⟨_, rfl, h⟩
    · replace h := h.2 hc
      refine sm_bipush (Y := mX11_tangle) (pc := 33) (-10) (by decide) dX11_tangle_33 ?_
      refine sm_iload_n (Y := mX11_tangle) (pc := 35) 0 2 rfl rfl dX11_tangle_35 ?_
      refine sm_isub (Y := mX11_tangle) (pc := 36) dX11_tangle_36 ?_
      exact sm_iret (Y := mX11_tangle) (pc := 37) rfl rfl rfl dX11_tangle_37 ⟨_, rfl, h⟩
  · replace h := h.2 hc
    refine sm_aload_n (Y := mX11_tangle) (pc := 7) 0 0 rfl rfl dX11_tangle_7 ?_
    refine sm_iconst (Y := mX11_tangle) (pc := 8) 1 (by decide) dX11_tangle_8 ?_
    refine sm_iv_I (Y := mX11_tangle) (pc := 9) (As := [.int 1]) (a := 0) fX11_error wRX11_103 (lk_0 hly) (by decide) rfl rfl rfl (Nat.le_trans (by decide) hd) (Nat.le_of_ble_eq_true rfl) ⟨Nat.le_refl _, Nat.le_refl _⟩ dX11_tangle_9 rfl (sm_monoI h (fun r_14 m_13 h => ?_))
    exact sm_iret (Y := mX11_tangle) (pc := 12) rfl rfl rfl dX11_tangle_12 ⟨_, rfl, h⟩
abbrev mX11_moves : sm_Y := (yX11_moves, cX11_moves, 4, (some FieldType.int))
theorem fX11_moves : sm_mi mX11_moves RX11 1 := ⟨sm_in 576 (by decide +kernel) (by decide +kernel), sm_in 574 (by decide +kernel) (by decide +kernel), sm_in 575 (by decide +kernel) (by decide +kernel), sm_in 82 (by decide +kernel) (by decide +kernel), rfl, ⟨by decide +kernel, by decide +kernel, by decide +kernel⟩, by decide⟩
def gX11_moves_53 (E : sm_E) (L : sm_S → Prop) (d : Nat) (vs : List Value) (x1 : Int32) (x3 : Int32) (m : sm_M) (Q : Int32 → sm_M → Prop) : Prop := sm_go E L mX11_moves d 0 0 vs 53 [(0, .ref (sm_B E + 0)), (1, .int x1), (3, .int x3)] [] m 0 0 (sm_Z E L vs 0 0 (sm_QI Q))
theorem dX11_moves_53 : decode cX11_moves 53 = .ok (.iload_n 3, 1) := dk_iload_n_3 (by decide +kernel)
theorem dX11_moves_54 : decode cX11_moves 54 = .ok (.aload_n 0, 1) := dk_aload_n_0 (by decide +kernel)
theorem dX11_moves_55 : decode cX11_moves 55 = .ok (.getfield 35, 3) := dk_getfield 35 (b1 := 0) (b2 := 35) (by decide +kernel) (by decide +kernel) (by decide +kernel) (by decide +kernel)
theorem dX11_moves_58 : decode cX11_moves 58 = .ok (.getfield 190, 3) := dk_getfield 190 (b1 := 0) (b2 := 190) (by decide +kernel) (by decide +kernel) (by decide +kernel) (by decide +kernel)
theorem dX11_moves_61 : decode cX11_moves 61 = .ok (.if_icmp .ge 33, 3) := dk_if_icmp_ge 33 (b1 := 0) (b2 := 33) (by decide +kernel) (by decide +kernel) (by decide +kernel) (by decide +kernel)
theorem dX11_moves_94 : decode cX11_moves 94 = .ok (.aload_n 0, 1) := dk_aload_n_0 (by decide +kernel)
theorem dX11_moves_95 : decode cX11_moves 95 = .ok (.aload_n 0, 1) := dk_aload_n_0 (by decide +kernel)
theorem dX11_moves_96 : decode cX11_moves 96 = .ok (.getfield 21, 3) := dk_getfield 21 (b1 := 0) (b2 := 21) (by decide +kernel) (by decide +kernel) (by decide +kernel) (by decide +kernel)
theorem dX11_moves_99 : decode cX11_moves 99 = .ok (.iload_n 1, 1) := dk_iload_n_1 (by decide +kernel)
theorem dX11_moves_100 : decode cX11_moves 100 = .ok (.invokevirtual 161, 3) := dk_invokevirtual 161 (b1 := 0) (b2 := 161) (by decide +kernel) (by decide +kernel) (by decide +kernel) (by decide +kernel)
theorem dX11_moves_103 : decode cX11_moves 103 = .ok (.pop, 1) := dk_pop (by decide +kernel)
theorem dX11_moves_104 : decode cX11_moves 104 = .ok (.aload_n 0, 1) := dk_aload_n_0 (by decide +kernel)
theorem dX11_moves_105 : decode cX11_moves 105 = .ok (.getfield 35, 3) := dk_getfield 35 (b1 := 0) (b2 := 35) (by decide +kernel) (by decide +kernel) (by decide +kernel) (by decide +kernel)
theorem dX11_moves_108 : decode cX11_moves 108 = .ok (.getfield 190, 3) := dk_getfield 190 (b1 := 0) (b2 := 190) (by decide +kernel) (by decide +kernel) (by decide +kernel) (by decide +kernel)
theorem dX11_moves_111 : decode cX11_moves 111 = .ok (.ireturn, 1) := dk_ireturn (by decide +kernel)
theorem dX11_moves_64 : decode cX11_moves 64 = .ok (.aload_n 0, 1) := dk_aload_n_0 (by decide +kernel)
theorem dX11_moves_65 : decode cX11_moves 65 = .ok (.getfield 21, 3) := dk_getfield 21 (b1 := 0) (b2 := 21) (by decide +kernel) (by decide +kernel) (by decide +kernel) (by decide +kernel)
theorem dX11_moves_68 : decode cX11_moves 68 = .ok (.aload_n 0, 1) := dk_aload_n_0 (by decide +kernel)
theorem dX11_moves_69 : decode cX11_moves 69 = .ok (.getfield 35, 3) := dk_getfield 35 (b1 := 0) (b2 := 35) (by decide +kernel) (by decide +kernel) (by decide +kernel) (by decide +kernel)
theorem dX11_moves_72 : decode cX11_moves 72 = .ok (.iload_n 3, 1) := dk_iload_n_3 (by decide +kernel)
theorem wRX11_193 : Cond.methodLink RX11 193 yX9_readMove ∈ sm_T := sm_in 646 (by decide +kernel) (by decide +kernel)
theorem dX11_moves_73 : decode cX11_moves 73 = .ok (.invokevirtual 193, 3) := dk_invokevirtual 193 (b1 := 0) (b2 := 193) (by decide +kernel) (by decide +kernel) (by decide +kernel) (by decide +kernel)
theorem dX11_moves_76 : decode cX11_moves 76 = .ok (.invokevirtual 165, 3) := dk_invokevirtual 165 (b1 := 0) (b2 := 165) (by decide +kernel) (by decide +kernel) (by decide +kernel) (by decide +kernel)
theorem dX11_moves_79 : decode cX11_moves 79 = .ok (.ifCond .ne 9, 3) := dk_ifCond_ne 9 (b1 := 0) (b2 := 9) (by decide +kernel) (by decide +kernel) (by decide +kernel) (by decide +kernel)
theorem dX11_moves_88 : decode cX11_moves 88 = .ok (.iinc 3 1, 3) := dk_iinc 3 1 (b1 := 3) (b2 := 1) (by decide +kernel) (by decide +kernel) (by decide +kernel) (by decide +kernel) (by decide +kernel)
theorem dX11_moves_91 : decode cX11_moves 91 = .ok (.goto (-38), 3) := dk_goto (-38) (b1 := 255) (b2 := 218) (by decide +kernel) (by decide +kernel) (by decide +kernel) (by decide +kernel)
theorem dX11_moves_82 : decode cX11_moves 82 = .ok (.aload_n 0, 1) := dk_aload_n_0 (by decide +kernel)
theorem dX11_moves_83 : decode cX11_moves 83 = .ok (.iconst 4, 1) := dk_iconst_4 (by decide +kernel)
theorem dX11_moves_84 : decode cX11_moves 84 = .ok (.invokevirtual 103, 3) := dk_invokevirtual 103 (b1 := 0) (b2 := 103) (by decide +kernel) (by decide +kernel) (by decide +kernel) (by decide +kernel)
theorem dX11_moves_87 : decode cX11_moves 87 = .ok (.ireturn, 1) := dk_ireturn (by decide +kernel)
set_option maxRecDepth 20000 in
theorem vX11_moves_53 {E : sm_E} {L : sm_S → Prop} {d : Nat} {vs : List Value} {x1 : Int32} {x3 : Int32}  {m : sm_M} {Q : Int32 → sm_M → Prop} (hly : ∀ S, L S → ly S) (hd : 9 ≤ d) 
  (h : ((m.1 10 5) ≤ x3 →
      sm_callI E L mX11_settle 5 0 0 [.ref (sm_B E + 0), .ref (sm_B E + 3), .int x1] m (fun r_2 m_1 =>
      Q (m_1.1 10 5) m_1)) ∧
   (¬ (m.1 10 5) ≤ x3 →
      sm_callI E L mX9_readMove 1 0 0 [.ref (sm_B E + 10), .int x3] m (fun r_4 m_3 =>
      sm_callI E L mX8_advance 3 0 0 [.ref (sm_B E + 3), .int r_4] m_3 (fun r_6 m_5 =>
      (¬ r_6 = 0 →
         ∀ x3_7 : Int32, x3_7 = x3 + 1 →
         gX11_moves_53 E L d vs x1 x3_7 m_5 Q) ∧
      (r_6 = 0 →
         sm_callI E L mX11_error 1 0 0 [.ref (sm_B E + 0), .int 4] m_5 (fun r_9 m_8 =>
         Q r_9 m_8)))))) :
  gX11_moves_53 E L d vs x1 x3 m Q := by
  refine sm_iload_n (Y := mX11_moves) (pc := 53) 2 3 rfl rfl dX11_moves_53 ?_
  refine sm_aload_n (Y := mX11_moves) (pc := 54) 0 0 rfl rfl dX11_moves_54 ?_
  refine gf_RX11_35 (Y := mX11_moves) (pc := 55) (b := 10) rfl ((lk_0 hly) _) (lf_0_4 hly _) dX11_moves_55 ?_
  refine gf_RX11_190 (Y := mX11_moves) (pc := 58) rfl ((lk_10 hly) _) dX11_moves_58 ?_
  refine sm_icmp_ge (Y := mX11_moves) (pc := 61) 94 (by decide) dX11_moves_61 (fun hc => ?_) (fun hc => ?_)
  · replace h := h.1 hc
    refine sm_aload_n (Y := mX11_moves) (pc := 94) 0 0 rfl rfl dX11_moves_94 ?_
    refine sm_aload_n (Y := mX11_moves) (pc := 95) 0 0 rfl rfl dX11_moves_95 ?_
    refine gf_RX11_21 (Y := mX11_moves) (pc := 96) (b := 3) rfl ((lk_0 hly) _) (lf_0_2 hly _) dX11_moves_96 ?_
    refine sm_iload_n (Y := mX11_moves) (pc := 99) 1 1 rfl rfl dX11_moves_99 ?_
    refine sm_iv_I (Y := mX11_moves) (pc := 100) (As := [.ref (sm_B E + 3), .int x1]) (a := 0) fX11_settle wRX11_161 (lk_0 hly) (by decide) rfl rfl rfl (Nat.le_trans (by decide) hd) (Nat.le_of_ble_eq_true rfl) ⟨Nat.le_refl _, Nat.le_refl _⟩ dX11_moves_100 rfl (sm_monoI h (fun r_2 m_1 h => ?_))
    refine sm_pop (Y := mX11_moves) (pc := 103) rfl dX11_moves_103 ?_
    refine sm_aload_n (Y := mX11_moves) (pc := 104) 0 0 rfl rfl dX11_moves_104 ?_
    refine gf_RX11_35 (Y := mX11_moves) (pc := 105) (b := 10) rfl ((lk_0 hly) _) (lf_0_4 hly _) dX11_moves_105 ?_
    refine gf_RX11_190 (Y := mX11_moves) (pc := 108) rfl ((lk_10 hly) _) dX11_moves_108 ?_
    exact sm_iret (Y := mX11_moves) (pc := 111) rfl rfl rfl dX11_moves_111 ⟨_, rfl, h⟩
  · replace h := h.2 hc
    refine sm_aload_n (Y := mX11_moves) (pc := 64) 0 0 rfl rfl dX11_moves_64 ?_
    refine gf_RX11_21 (Y := mX11_moves) (pc := 65) (b := 3) rfl ((lk_0 hly) _) (lf_0_2 hly _) dX11_moves_65 ?_
    refine sm_aload_n (Y := mX11_moves) (pc := 68) 0 0 rfl rfl dX11_moves_68 ?_
    refine gf_RX11_35 (Y := mX11_moves) (pc := 69) (b := 10) rfl ((lk_0 hly) _) (lf_0_4 hly _) dX11_moves_69 ?_
    refine sm_iload_n (Y := mX11_moves) (pc := 72) 2 3 rfl rfl dX11_moves_72 ?_
    refine sm_iv_I (Y := mX11_moves) (pc := 73) (As := [.int x3]) (a := 10) fX9_readMove wRX11_193 (lk_10 hly) (by decide) rfl rfl rfl (Nat.le_trans (by decide) hd) (Nat.le_of_ble_eq_true rfl) ⟨Nat.le_refl _, Nat.le_refl _⟩ dX11_moves_73 rfl (sm_monoI h (fun r_4 m_3 h => ?_))
    refine sm_iv_I (Y := mX11_moves) (pc := 76) (As := [.int r_4]) (a := 3) fX8_advance wRX11_165 (lk_3 hly) (by decide) rfl rfl rfl (Nat.le_trans (by decide) hd) (Nat.le_of_ble_eq_true rfl) ⟨Nat.le_refl _, Nat.le_refl _⟩ dX11_moves_76 rfl (sm_monoI h (fun r_6 m_5 h => ?_))
    refine sm_if_ne (Y := mX11_moves) (pc := 79) 88 (by decide) dX11_moves_79 (fun hc => ?_) (fun hc => ?_)
    · replace h := h.1 hc
      refine sm_iinc (Y := mX11_moves) (pc := 88) (fun y => [(3, .int y), (0, .ref (sm_B E + 0)), (1, .int x1)]) 2 3 rfl (by decide) (fun _ => rfl) dX11_moves_88 (fun x3_7 ex3_7 => ?_)
      replace h := h x3_7 ex3_7
      refine sm_goto (Y := mX11_moves) (pc := 91) 53 (by decide) dX11_moves_91 ?_
      refine sm_sub [1, 2, 0] rfl ?_
      exact h
    · replace h := h.2 hc
      refine sm_aload_n (Y := mX11_moves) (pc := 82) 0 0 rfl rfl dX11_moves_82 ?_
      refine sm_iconst (Y := mX11_moves) (pc := 83) 4 (by decide) dX11_moves_83 ?_
      refine sm_iv_I (Y := mX11_moves) (pc := 84) (As := [.int 4]) (a := 0) fX11_error wRX11_103 (lk_0 hly) (by decide) rfl rfl rfl (Nat.le_trans (by decide) hd) (Nat.le_of_ble_eq_true rfl) ⟨Nat.le_refl _, Nat.le_refl _⟩ dX11_moves_84 rfl (sm_monoI h (fun r_9 m_8 h => ?_))
      exact sm_iret (Y := mX11_moves) (pc := 87) rfl rfl rfl dX11_moves_87 ⟨_, rfl, h⟩
theorem dX11_moves_0 : decode cX11_moves 0 = .ok (.iload_n 1, 1) := dk_iload_n_1 (by decide +kernel)
theorem dX11_moves_1 : decode cX11_moves 1 = .ok (.invokestatic 99, 3) := dk_invokestatic 99 (b1 := 0) (b2 := 99) (by decide +kernel) (by decide +kernel) (by decide +kernel) (by decide +kernel)
theorem dX11_moves_4 : decode cX11_moves 4 = .ok (.ifCond .ne 9, 3) := dk_ifCond_ne 9 (b1 := 0) (b2 := 9) (by decide +kernel) (by decide +kernel) (by decide +kernel) (by decide +kernel)
theorem dX11_moves_13 : decode cX11_moves 13 = .ok (.aload_n 0, 1) := dk_aload_n_0 (by decide +kernel)
theorem dX11_moves_14 : decode cX11_moves 14 = .ok (.getfield 35, 3) := dk_getfield 35 (b1 := 0) (b2 := 35) (by decide +kernel) (by decide +kernel) (by decide +kernel) (by decide +kernel)
theorem wRX11_187 : Cond.methodLink RX11 187 yX9_readMoves ∈ sm_T := sm_in 577 (by decide +kernel) (by decide +kernel)
theorem dX11_moves_17 : decode cX11_moves 17 = .ok (.invokevirtual 187, 3) := dk_invokevirtual 187 (b1 := 0) (b2 := 187) (by decide +kernel) (by decide +kernel) (by decide +kernel) (by decide +kernel)
theorem dX11_moves_20 : decode cX11_moves 20 = .ok (.istore_n 2, 1) := dk_istore_n_2 (by decide +kernel)
theorem dX11_moves_21 : decode cX11_moves 21 = .ok (.aload_n 0, 1) := dk_aload_n_0 (by decide +kernel)
theorem dX11_moves_22 : decode cX11_moves 22 = .ok (.getfield 35, 3) := dk_getfield 35 (b1 := 0) (b2 := 35) (by decide +kernel) (by decide +kernel) (by decide +kernel) (by decide +kernel)
theorem dX11_moves_25 : decode cX11_moves 25 = .ok (.iconst 0, 1) := dk_iconst_0 (by decide +kernel)
theorem dX11_moves_26 : decode cX11_moves 26 = .ok (.putfield 173, 3) := dk_putfield 173 (b1 := 0) (b2 := 173) (by decide +kernel) (by decide +kernel) (by decide +kernel) (by decide +kernel)
theorem dX11_moves_29 : decode cX11_moves 29 = .ok (.iload_n 2, 1) := dk_iload_n_2 (by decide +kernel)
theorem dX11_moves_30 : decode cX11_moves 30 = .ok (.ifCond .lt 8, 3) := dk_ifCond_lt 8 (b1 := 0) (b2 := 8) (by decide +kernel) (by decide +kernel) (by decide +kernel) (by decide +kernel)
theorem dX11_moves_38 : decode cX11_moves 38 = .ok (.aload_n 0, 1) := dk_aload_n_0 (by decide +kernel)
theorem dX11_moves_39 : decode cX11_moves 39 = .ok (.getfield 21, 3) := dk_getfield 21 (b1 := 0) (b2 := 21) (by decide +kernel) (by decide +kernel) (by decide +kernel) (by decide +kernel)
theorem dX11_moves_42 : decode cX11_moves 42 = .ok (.aload_n 0, 1) := dk_aload_n_0 (by decide +kernel)
theorem dX11_moves_43 : decode cX11_moves 43 = .ok (.getfield 11, 3) := dk_getfield 11 (b1 := 0) (b2 := 11) (by decide +kernel) (by decide +kernel) (by decide +kernel) (by decide +kernel)
theorem dX11_moves_46 : decode cX11_moves 46 = .ok (.iload_n 1, 1) := dk_iload_n_1 (by decide +kernel)
theorem dX11_moves_47 : decode cX11_moves 47 = .ok (.aaload, 1) := dk_aaload (by decide +kernel)
theorem dX11_moves_48 : decode cX11_moves 48 = .ok (.invokevirtual 155, 3) := dk_invokevirtual 155 (b1 := 0) (b2 := 155) (by decide +kernel) (by decide +kernel) (by decide +kernel) (by decide +kernel)
theorem dX11_moves_51 : decode cX11_moves 51 = .ok (.iconst 0, 1) := dk_iconst_0 (by decide +kernel)
theorem dX11_moves_52 : decode cX11_moves 52 = .ok (.istore_n 3, 1) := dk_istore_n_3 (by decide +kernel)
theorem dX11_moves_33 : decode cX11_moves 33 = .ok (.bipush (-10), 2) := dk_bipush (-10) (b := 246) (by decide +kernel) (by decide +kernel) (by decide +kernel)
theorem dX11_moves_35 : decode cX11_moves 35 = .ok (.iload_n 2, 1) := dk_iload_n_2 (by decide +kernel)
theorem dX11_moves_36 : decode cX11_moves 36 = .ok (.isub, 1) := dk_isub (by decide +kernel)
theorem dX11_moves_37 : decode cX11_moves 37 = .ok (.ireturn, 1) := dk_ireturn (by decide +kernel)
theorem dX11_moves_7 : decode cX11_moves 7 = .ok (.aload_n 0, 1) := dk_aload_n_0 (by decide +kernel)
theorem dX11_moves_8 : decode cX11_moves 8 = .ok (.iconst 1, 1) := dk_iconst_1 (by decide +kernel)
theorem dX11_moves_9 : decode cX11_moves 9 = .ok (.invokevirtual 103, 3) := dk_invokevirtual 103 (b1 := 0) (b2 := 103) (by decide +kernel) (by decide +kernel) (by decide +kernel) (by decide +kernel)
theorem dX11_moves_12 : decode cX11_moves 12 = .ok (.ireturn, 1) := dk_ireturn (by decide +kernel)
set_option maxRecDepth 20000 in
theorem vX11_moves_0 {E : sm_E} {L : sm_S → Prop} {d : Nat} {x1 : Int32}  {m : sm_M} {Q : Int32 → sm_M → Prop} (hly : ∀ S, L S → ly S) (hd : 9 ≤ d) 
  (h : sm_callI E L mX11_isSlot 1 0 0 [.int x1] m (fun r_2 m_1 =>
   (¬ r_2 = 0 →
      sm_callI E L mX9_readMoves 8 0 0 [.ref (sm_B E + 10)] m_1 (fun r_4 m_3 =>
      ∀ m_6 : sm_M, m_6 = sm_wI m_3 10 4 0 →
      (r_4 < 0 →
         (vp_in x1 6) ∧ sm_callV E L mX8_copy 1 0 0 [.ref (sm_B E + 3), .ref (sm_B E + (77 + 4 * x1.toNatClampNeg))] m_6 (fun m_8 =>
         gX11_moves_53 E L d ([.ref (sm_B E + 0), .int x1]) x1 0 m_8 Q)) ∧
      (¬ r_4 < 0 →
         Q ((-10 : Int32) - r_4) m_6))) ∧
   (r_2 = 0 →
      sm_callI E L mX11_error 1 0 0 [.ref (sm_B E + 0), .int 1] m_1 (fun r_11 m_10 =>
      Q r_11 m_10)))) :
  sm_callI E L mX11_moves d 0 0 [.ref (sm_B E + 0), .int x1] m Q := by
  refine sm_enter (by decide +kernel) (by simp [lg_sl, Value.category]) ?_
  refine sm_iload_n (Y := mX11_moves) (pc := 0) 1 1 rfl rfl dX11_moves_0 ?_
  refine sm_is_I (Y := mX11_moves) (pc := 1) (As := [.int x1]) fX11_isSlot wRX11_99 rfl (Nat.le_trans (by decide) hd) (Nat.le_of_ble_eq_true rfl) ⟨Nat.le_refl _, Nat.le_refl _⟩ dX11_moves_1 rfl (sm_monoI h (fun r_2 m_1 h => ?_))
  refine sm_if_ne (Y := mX11_moves) (pc := 4) 13 (by decide) dX11_moves_4 (fun hc => ?_) (fun hc => ?_)
  · replace h := h.1 hc
    refine sm_aload_n (Y := mX11_moves) (pc := 13) 0 0 rfl rfl dX11_moves_13 ?_
    refine gf_RX11_35 (Y := mX11_moves) (pc := 14) (b := 10) rfl ((lk_0 hly) _) (lf_0_4 hly _) dX11_moves_14 ?_
    refine sm_iv_I (Y := mX11_moves) (pc := 17) (As := []) (a := 10) fX9_readMoves wRX11_187 (lk_10 hly) (by decide) rfl rfl rfl (Nat.le_trans (by decide) hd) (Nat.le_of_ble_eq_true rfl) ⟨Nat.le_refl _, Nat.le_refl _⟩ dX11_moves_17 rfl (sm_monoI h (fun r_4 m_3 h => ?_))
    refine sm_istore0_n (Y := mX11_moves) (pc := 20) [(2, .int r_4), (0, .ref (sm_B E + 0)), (1, .int x1)] 2 rfl (by decide) rfl dX11_moves_20 ?_
    refine sm_aload_n (Y := mX11_moves) (pc := 21) 1 0 rfl rfl dX11_moves_21 ?_
    refine gf_RX11_35 (Y := mX11_moves) (pc := 22) (b := 10) rfl ((lk_0 hly) _) (lf_0_4 hly _) dX11_moves_22 ?_
    refine sm_iconst (Y := mX11_moves) (pc := 25) 0 (by decide) dX11_moves_25 ?_
    refine pf_RX11_173 (Y := mX11_moves) (pc := 26) rfl ((lk_10 hly) _) dX11_moves_26 (fun m_6 em_6 => ?_)
    replace h := h m_6 em_6
    refine sm_iload_n (Y := mX11_moves) (pc := 29) 0 2 rfl rfl dX11_moves_29 ?_
    refine sm_if_lt (Y := mX11_moves) (pc := 30) 38 (by decide) dX11_moves_30 (fun hc => ?_) (fun hc => ?_)
    · replace h := h.1 hc
      refine sm_aload_n (Y := mX11_moves) (pc := 38) 1 0 rfl rfl dX11_moves_38 ?_
      refine gf_RX11_21 (Y := mX11_moves) (pc := 39) (b := 3) rfl ((lk_0 hly) _) (lf_0_2 hly _) dX11_moves_39 ?_
      refine sm_aload_n (Y := mX11_moves) (pc := 42) 1 0 rfl rfl dX11_moves_42 ?_
      refine gf_RX11_11 (Y := mX11_moves) (pc := 43) (b := 1) rfl ((lk_0 hly) _) (lf_0_0 hly _) dX11_moves_43 ?_
      refine sm_iload_n (Y := mX11_moves) (pc := 46) 2 1 rfl rfl dX11_moves_46 ?_
      obtain ⟨hn_7, h⟩ := h
      refine sm_aaldG (Y := mX11_moves) (pc := 47) (b := (77 + 4 * x1.toNatClampNeg)) (la_1 hly _) hn_7 (ly_slotR hly (sm_inlt hn_7) _) dX11_moves_47 ?_
      refine sm_iv_V (Y := mX11_moves) (pc := 48) (As := [.ref (sm_B E + (77 + 4 * x1.toNatClampNeg))]) (a := 3) fX8_copy wRX11_155 (lk_3 hly) (by decide) rfl rfl rfl (Nat.le_trans (by decide) hd) (Nat.le_of_ble_eq_true rfl) ⟨Nat.le_refl _, Nat.le_refl _⟩ dX11_moves_48 rfl (sm_monoV h (fun m_8 h => ?_))
      refine sm_iconst (Y := mX11_moves) (pc := 51) 0 (by decide) dX11_moves_51 ?_
      refine sm_istore0_n (Y := mX11_moves) (pc := 52) [(3, .int 0), (2, .int r_4), (0, .ref (sm_B E + 0)), (1, .int x1)] 3 rfl (by decide) rfl dX11_moves_52 ?_
      refine sm_sub [2, 3, 0] rfl ?_
      exact h
    · replace h := h.2 hc
      refine sm_bipush (Y := mX11_moves) (pc := 33) (-10) (by decide) dX11_moves_33 ?_
      refine sm_iload_n (Y := mX11_moves) (pc := 35) 0 2 rfl rfl dX11_moves_35 ?_
      refine sm_isub (Y := mX11_moves) (pc := 36) dX11_moves_36 ?_
      exact sm_iret (Y := mX11_moves) (pc := 37) rfl rfl rfl dX11_moves_37 ⟨_, rfl, h⟩
  · replace h := h.2 hc
    refine sm_aload_n (Y := mX11_moves) (pc := 7) 0 0 rfl rfl dX11_moves_7 ?_
    refine sm_iconst (Y := mX11_moves) (pc := 8) 1 (by decide) dX11_moves_8 ?_
    refine sm_iv_I (Y := mX11_moves) (pc := 9) (As := [.int 1]) (a := 0) fX11_error wRX11_103 (lk_0 hly) (by decide) rfl rfl rfl (Nat.le_trans (by decide) hd) (Nat.le_of_ble_eq_true rfl) ⟨Nat.le_refl _, Nat.le_refl _⟩ dX11_moves_9 rfl (sm_monoI h (fun r_11 m_10 h => ?_))
    exact sm_iret (Y := mX11_moves) (pc := 12) rfl rfl rfl dX11_moves_12 ⟨_, rfl, h⟩
abbrev mX11_term : sm_Y := (yX11_term, cX11_term, 4, (some FieldType.int))
theorem fX11_term : sm_mi mX11_term RX11 2 := ⟨sm_in 654 (by decide +kernel) (by decide +kernel), sm_in 652 (by decide +kernel) (by decide +kernel), sm_in 653 (by decide +kernel) (by decide +kernel), sm_in 82 (by decide +kernel) (by decide +kernel), rfl, ⟨by decide +kernel, by decide +kernel, by decide +kernel⟩, by decide⟩
theorem dX11_term_0 : decode cX11_term 0 = .ok (.iload_n 1, 1) := dk_iload_n_1 (by decide +kernel)
theorem dX11_term_1 : decode cX11_term 1 = .ok (.invokestatic 99, 3) := dk_invokestatic 99 (b1 := 0) (b2 := 99) (by decide +kernel) (by decide +kernel) (by decide +kernel) (by decide +kernel)
theorem dX11_term_4 : decode cX11_term 4 = .ok (.ifCond .eq 8, 3) := dk_ifCond_eq 8 (b1 := 0) (b2 := 8) (by decide +kernel) (by decide +kernel) (by decide +kernel) (by decide +kernel)
theorem dX11_term_12 : decode cX11_term 12 = .ok (.aload_n 0, 1) := dk_aload_n_0 (by decide +kernel)
theorem dX11_term_13 : decode cX11_term 13 = .ok (.iconst 1, 1) := dk_iconst_1 (by decide +kernel)
theorem dX11_term_14 : decode cX11_term 14 = .ok (.invokevirtual 103, 3) := dk_invokevirtual 103 (b1 := 0) (b2 := 103) (by decide +kernel) (by decide +kernel) (by decide +kernel) (by decide +kernel)
theorem dX11_term_17 : decode cX11_term 17 = .ok (.ireturn, 1) := dk_ireturn (by decide +kernel)
theorem dX11_term_7 : decode cX11_term 7 = .ok (.iload_n 2, 1) := dk_iload_n_2 (by decide +kernel)
theorem dX11_term_8 : decode cX11_term 8 = .ok (.iconst (-1), 1) := dk_iconst_m1 (by decide +kernel)
theorem dX11_term_9 : decode cX11_term 9 = .ok (.if_icmp .ge 9, 3) := dk_if_icmp_ge 9 (b1 := 0) (b2 := 9) (by decide +kernel) (by decide +kernel) (by decide +kernel) (by decide +kernel)
theorem dX11_term_18 : decode cX11_term 18 = .ok (.aload_n 0, 1) := dk_aload_n_0 (by decide +kernel)
theorem dX11_term_19 : decode cX11_term 19 = .ok (.getfield 11, 3) := dk_getfield 11 (b1 := 0) (b2 := 11) (by decide +kernel) (by decide +kernel) (by decide +kernel) (by decide +kernel)
theorem dX11_term_22 : decode cX11_term 22 = .ok (.iload_n 1, 1) := dk_iload_n_1 (by decide +kernel)
theorem dX11_term_23 : decode cX11_term 23 = .ok (.aaload, 1) := dk_aaload (by decide +kernel)
theorem dX11_term_24 : decode cX11_term 24 = .ok (.astore_n 3, 1) := dk_astore_n_3 (by decide +kernel)
theorem dX11_term_25 : decode cX11_term 25 = .ok (.aload_n 3, 1) := dk_aload_n_3 (by decide +kernel)
theorem dX11_term_26 : decode cX11_term 26 = .ok (.getfield 107, 3) := dk_getfield 107 (b1 := 0) (b2 := 107) (by decide +kernel) (by decide +kernel) (by decide +kernel) (by decide +kernel)
theorem dX11_term_29 : decode cX11_term 29 = .ok (.ifCond .ne 9, 3) := dk_ifCond_ne 9 (b1 := 0) (b2 := 9) (by decide +kernel) (by decide +kernel) (by decide +kernel) (by decide +kernel)
theorem dX11_term_38 : decode cX11_term 38 = .ok (.aload_n 0, 1) := dk_aload_n_0 (by decide +kernel)
theorem dX11_term_39 : decode cX11_term 39 = .ok (.getfield 81, 3) := dk_getfield 81 (b1 := 0) (b2 := 81) (by decide +kernel) (by decide +kernel) (by decide +kernel) (by decide +kernel)
theorem dX11_term_42 : decode cX11_term 42 = .ok (.aload_n 3, 1) := dk_aload_n_3 (by decide +kernel)
theorem dX11_term_43 : decode cX11_term 43 = .ok (.getfield 132, 3) := dk_getfield 132 (b1 := 0) (b2 := 132) (by decide +kernel) (by decide +kernel) (by decide +kernel) (by decide +kernel)
theorem dX11_term_46 : decode cX11_term 46 = .ok (.aload_n 3, 1) := dk_aload_n_3 (by decide +kernel)
theorem dX11_term_47 : decode cX11_term 47 = .ok (.getfield 135, 3) := dk_getfield 135 (b1 := 0) (b2 := 135) (by decide +kernel) (by decide +kernel) (by decide +kernel) (by decide +kernel)
theorem dX11_term_50 : decode cX11_term 50 = .ok (.iconst 3, 1) := dk_iconst_3 (by decide +kernel)
theorem wRX11_196 : Cond.methodLink RX11 196 yX7_expand ∈ sm_T := sm_in 655 (by decide +kernel) (by decide +kernel)
theorem dX11_term_51 : decode cX11_term 51 = .ok (.invokevirtual 196, 3) := dk_invokevirtual 196 (b1 := 0) (b2 := 196) (by decide +kernel) (by decide +kernel) (by decide +kernel) (by decide +kernel)
theorem dX11_term_54 : decode cX11_term 54 = .ok (.pop, 1) := dk_pop (by decide +kernel)
theorem dX11_term_55 : decode cX11_term 55 = .ok (.iload_n 2, 1) := dk_iload_n_2 (by decide +kernel)
theorem dX11_term_56 : decode cX11_term 56 = .ok (.iconst (-1), 1) := dk_iconst_m1 (by decide +kernel)
theorem dX11_term_57 : decode cX11_term 57 = .ok (.if_icmp .ne 11, 3) := dk_if_icmp_ne 11 (b1 := 0) (b2 := 11) (by decide +kernel) (by decide +kernel) (by decide +kernel) (by decide +kernel)
theorem dX11_term_68 : decode cX11_term 68 = .ok (.aload_n 0, 1) := dk_aload_n_0 (by decide +kernel)
theorem dX11_term_69 : decode cX11_term 69 = .ok (.getfield 81, 3) := dk_getfield 81 (b1 := 0) (b2 := 81) (by decide +kernel) (by decide +kernel) (by decide +kernel) (by decide +kernel)
theorem dX11_term_72 : decode cX11_term 72 = .ok (.iload_n 2, 1) := dk_iload_n_2 (by decide +kernel)
theorem wRX11_200 : Cond.methodLink RX11 200 yX7_has ∈ sm_T := sm_in 688 (by decide +kernel) (by decide +kernel)
theorem dX11_term_73 : decode cX11_term 73 = .ok (.invokevirtual 200, 3) := dk_invokevirtual 200 (b1 := 0) (b2 := 200) (by decide +kernel) (by decide +kernel) (by decide +kernel) (by decide +kernel)
theorem dX11_term_76 : decode cX11_term 76 = .ok (.ifCond .ne 9, 3) := dk_ifCond_ne 9 (b1 := 0) (b2 := 9) (by decide +kernel) (by decide +kernel) (by decide +kernel) (by decide +kernel)
theorem dX11_term_85 : decode cX11_term 85 = .ok (.aload_n 0, 1) := dk_aload_n_0 (by decide +kernel)
theorem dX11_term_86 : decode cX11_term 86 = .ok (.getfield 81, 3) := dk_getfield 81 (b1 := 0) (b2 := 81) (by decide +kernel) (by decide +kernel) (by decide +kernel) (by decide +kernel)
theorem dX11_term_89 : decode cX11_term 89 = .ok (.iload_n 2, 1) := dk_iload_n_2 (by decide +kernel)
theorem wRX11_203 : Cond.methodLink RX11 203 yX7_at ∈ sm_T := sm_in 692 (by decide +kernel) (by decide +kernel)
theorem dX11_term_90 : decode cX11_term 90 = .ok (.invokevirtual 203, 3) := dk_invokevirtual 203 (b1 := 0) (b2 := 203) (by decide +kernel) (by decide +kernel) (by decide +kernel) (by decide +kernel)
theorem dX11_term_93 : decode cX11_term 93 = .ok (.l2i, 1) := dk_l2i (by decide +kernel)
theorem dX11_term_94 : decode cX11_term 94 = .ok (.ireturn, 1) := dk_ireturn (by decide +kernel)
theorem dX11_term_79 : decode cX11_term 79 = .ok (.aload_n 0, 1) := dk_aload_n_0 (by decide +kernel)
theorem dX11_term_80 : decode cX11_term 80 = .ok (.iconst 2, 1) := dk_iconst_2 (by decide +kernel)
theorem dX11_term_81 : decode cX11_term 81 = .ok (.invokevirtual 103, 3) := dk_invokevirtual 103 (b1 := 0) (b2 := 103) (by decide +kernel) (by decide +kernel) (by decide +kernel) (by decide +kernel)
theorem dX11_term_84 : decode cX11_term 84 = .ok (.ireturn, 1) := dk_ireturn (by decide +kernel)
theorem dX11_term_60 : decode cX11_term 60 = .ok (.aload_n 0, 1) := dk_aload_n_0 (by decide +kernel)
theorem dX11_term_61 : decode cX11_term 61 = .ok (.getfield 81, 3) := dk_getfield 81 (b1 := 0) (b2 := 81) (by decide +kernel) (by decide +kernel) (by decide +kernel) (by decide +kernel)
theorem dX11_term_64 : decode cX11_term 64 = .ok (.getfield 199, 3) := dk_getfield 199 (b1 := 0) (b2 := 199) (by decide +kernel) (by decide +kernel) (by decide +kernel) (by decide +kernel)
theorem dX11_term_67 : decode cX11_term 67 = .ok (.ireturn, 1) := dk_ireturn (by decide +kernel)
theorem dX11_term_32 : decode cX11_term 32 = .ok (.aload_n 0, 1) := dk_aload_n_0 (by decide +kernel)
theorem dX11_term_33 : decode cX11_term 33 = .ok (.iconst 2, 1) := dk_iconst_2 (by decide +kernel)
theorem dX11_term_34 : decode cX11_term 34 = .ok (.invokevirtual 103, 3) := dk_invokevirtual 103 (b1 := 0) (b2 := 103) (by decide +kernel) (by decide +kernel) (by decide +kernel) (by decide +kernel)
theorem dX11_term_37 : decode cX11_term 37 = .ok (.ireturn, 1) := dk_ireturn (by decide +kernel)
set_option maxRecDepth 20000 in
theorem vX11_term_0 {E : sm_E} {L : sm_S → Prop} {d : Nat} {x1 : Int32} {x2 : Int32}  {m : sm_M} {Q : Int32 → sm_M → Prop} (hly : ∀ S, L S → ly S) (hd : 4 ≤ d) 
  (h : sm_callI E L mX11_isSlot 1 0 0 [.int x1] m (fun r_2 m_1 =>
   (r_2 = 0 →
      sm_callI E L mX11_error 1 0 0 [.ref (sm_B E + 0), .int 1] m_1 (fun r_4 m_3 =>
      Q r_4 m_3)) ∧
   (¬ r_2 = 0 →
      ((-1) ≤ x2 →
         (vp_in x1 6) ∧ (¬ (m_1.1 (77 + 4 * x1.toNatClampNeg) 8) = 0 →
            sm_callI E L mX7_expand 3 0 0 [.ref (sm_B E + 74), .int (m_1.1 (77 + 4 * x1.toNatClampNeg) 9), .int (m_1.1 (77 + 4 * x1.toNatClampNeg) 10), .int 3] m_1 (fun r_7 m_6 =>
            (¬ x2 = (-1) →
               sm_callI E L mX7_has 1 0 0 [.ref (sm_B E + 74), .int x2] m_6 (fun r_9 m_8 =>
               (¬ r_9 = 0 →
                  sm_callJ E L mX7_at 2 0 0 [.ref (sm_B E + 74), .int x2] m_8 (fun r_11 m_10 =>
                  Q (r_11.toInt32) m_10)) ∧
               (r_9 = 0 →
                  sm_callI E L mX11_error 1 0 0 [.ref (sm_B E + 0), .int 2] m_8 (fun r_13 m_12 =>
                  Q r_13 m_12)))) ∧
            (x2 = (-1) →
               Q (m_6.1 74 2) m_6))) ∧
         ((m_1.1 (77 + 4 * x1.toNatClampNeg) 8) = 0 →
            sm_callI E L mX11_error 1 0 0 [.ref (sm_B E + 0), .int 2] m_1 (fun r_15 m_14 =>
            Q r_15 m_14))) ∧
      (¬ (-1) ≤ x2 →
         sm_callI E L mX11_error 1 0 0 [.ref (sm_B E + 0), .int 1] m_1 (fun r_17 m_16 =>
         Q r_17 m_16))))) :
  sm_callI E L mX11_term d 0 0 [.ref (sm_B E + 0), .int x1, .int x2] m Q := by
  refine sm_enter (by decide +kernel) (by simp [lg_sl, Value.category]) ?_
  refine sm_iload_n (Y := mX11_term) (pc := 0) 1 1 rfl rfl dX11_term_0 ?_
  refine sm_is_I (Y := mX11_term) (pc := 1) (As := [.int x1]) fX11_isSlot wRX11_99 rfl (Nat.le_trans (by decide) hd) (Nat.le_of_ble_eq_true rfl) ⟨Nat.le_refl _, Nat.le_refl _⟩ dX11_term_1 rfl (sm_monoI h (fun r_2 m_1 h => ?_))
  refine sm_if_eq (Y := mX11_term) (pc := 4) 12 (by decide) dX11_term_4 (fun hc => ?_) (fun hc => ?_)
  · replace h := h.1 hc
    refine sm_aload_n (Y := mX11_term) (pc := 12) 0 0 rfl rfl dX11_term_12 ?_
    refine sm_iconst (Y := mX11_term) (pc := 13) 1 (by decide) dX11_term_13 ?_
    refine sm_iv_I (Y := mX11_term) (pc := 14) (As := [.int 1]) (a := 0) fX11_error wRX11_103 (lk_0 hly) (by decide) rfl rfl rfl (Nat.le_trans (by decide) hd) (Nat.le_of_ble_eq_true rfl) ⟨Nat.le_refl _, Nat.le_refl _⟩ dX11_term_14 rfl (sm_monoI h (fun r_4 m_3 h => ?_))
    exact sm_iret (Y := mX11_term) (pc := 17) rfl rfl rfl dX11_term_17 ⟨_, rfl, h⟩
  · replace h := h.2 hc
    refine sm_iload_n (Y := mX11_term) (pc := 7) 2 2 rfl rfl dX11_term_7 ?_
    refine sm_iconst (Y := mX11_term) (pc := 8) (-1) (by decide) dX11_term_8 ?_
    refine sm_icmp_ge (Y := mX11_term) (pc := 9) 18 (by decide) dX11_term_9 (fun hc => ?_) (fun hc => ?_)
    · replace h := h.1 hc
      refine sm_aload_n (Y := mX11_term) (pc := 18) 0 0 rfl rfl dX11_term_18 ?_
      refine gf_RX11_11 (Y := mX11_term) (pc := 19) (b := 1) rfl ((lk_0 hly) _) (lf_0_0 hly _) dX11_term_19 ?_
      refine sm_iload_n (Y := mX11_term) (pc := 22) 1 1 rfl rfl dX11_term_22 ?_
      obtain ⟨hn_5, h⟩ := h
      refine sm_aaldG (Y := mX11_term) (pc := 23) (b := (77 + 4 * x1.toNatClampNeg)) (la_1 hly _) hn_5 (ly_slotR hly (sm_inlt hn_5) _) dX11_term_23 ?_
      refine sm_astore_n (Y := mX11_term) (pc := 24) [(3, .ref (sm_B E + (77 + 4 * x1.toNatClampNeg))), (0, .ref (sm_B E + 0)), (1, .int x1), (2, .int x2)] 3 rfl (by decide) rfl dX11_term_24 ?_
      refine sm_aload_n (Y := mX11_term) (pc := 25) 0 3 rfl rfl dX11_term_25 ?_
      refine gf_RX11_107 (Y := mX11_term) (pc := 26) rfl ((fun S hS => ((ly_slotT hly (sm_inlt hn_5)) S hS).1) _) dX11_term_26 ?_
      refine sm_if_ne (Y := mX11_term) (pc := 29) 38 (by decide) dX11_term_29 (fun hc => ?_) (fun hc => ?_)
      · replace h := h.1 hc
        refine sm_aload_n (Y := mX11_term) (pc := 38) 1 0 rfl rfl dX11_term_38 ?_
        refine gf_RX11_81 (Y := mX11_term) (pc := 39) (b := 74) rfl ((lk_0 hly) _) (lf_0_11 hly _) dX11_term_39 ?_
        refine sm_aload_n (Y := mX11_term) (pc := 42) 0 3 rfl rfl dX11_term_42 ?_
        refine gf_RX11_132 (Y := mX11_term) (pc := 43) rfl ((fun S hS => ((ly_slotT hly (sm_inlt hn_5)) S hS).1) _) dX11_term_43 ?_
        refine sm_aload_n (Y := mX11_term) (pc := 46) 0 3 rfl rfl dX11_term_46 ?_
        refine gf_RX11_135 (Y := mX11_term) (pc := 47) rfl ((fun S hS => ((ly_slotT hly (sm_inlt hn_5)) S hS).1) _) dX11_term_47 ?_
        refine sm_iconst (Y := mX11_term) (pc := 50) 3 (by decide) dX11_term_50 ?_
        refine sm_iv_I (Y := mX11_term) (pc := 51) (As := [.int (m_1.1 (77 + 4 * x1.toNatClampNeg) 9), .int (m_1.1 (77 + 4 * x1.toNatClampNeg) 10), .int 3]) (a := 74) fX7_expand wRX11_196 (lk_74 hly) (by decide) rfl rfl rfl (Nat.le_trans (by decide) hd) (Nat.le_of_ble_eq_true rfl) ⟨Nat.le_refl _, Nat.le_refl _⟩ dX11_term_51 rfl (sm_monoI h (fun r_7 m_6 h => ?_))
        refine sm_pop (Y := mX11_term) (pc := 54) rfl dX11_term_54 ?_
        refine sm_iload_n (Y := mX11_term) (pc := 55) 3 2 rfl rfl dX11_term_55 ?_
        refine sm_iconst (Y := mX11_term) (pc := 56) (-1) (by decide) dX11_term_56 ?_
        refine sm_icmp_ne (Y := mX11_term) (pc := 57) 68 (by decide) dX11_term_57 (fun hc => ?_) (fun hc => ?_)
        · replace h := h.1 hc
          refine sm_aload_n (Y := mX11_term) (pc := 68) 1 0 rfl rfl dX11_term_68 ?_
          refine gf_RX11_81 (Y := mX11_term) (pc := 69) (b := 74) rfl ((lk_0 hly) _) (lf_0_11 hly _) dX11_term_69 ?_
          refine sm_iload_n (Y := mX11_term) (pc := 72) 3 2 rfl rfl dX11_term_72 ?_
          refine sm_iv_I (Y := mX11_term) (pc := 73) (As := [.int x2]) (a := 74) fX7_has wRX11_200 (lk_74 hly) (by decide) rfl rfl rfl (Nat.le_trans (by decide) hd) (Nat.le_of_ble_eq_true rfl) ⟨Nat.le_refl _, Nat.le_refl _⟩ dX11_term_73 rfl (sm_monoI h (fun r_9 m_8 h => ?_))
          refine sm_if_ne (Y := mX11_term) (pc := 76) 85 (by decide) dX11_term_76 (fun hc => ?_) (fun hc => ?_)
          · replace h := h.1 hc
            refine sm_aload_n (Y := mX11_term) (pc := 85) 1 0 rfl rfl dX11_term_85 ?_
            refine gf_RX11_81 (Y := mX11_term) (pc := 86) (b := 74) rfl ((lk_0 hly) _) (lf_0_11 hly _) dX11_term_86 ?_
            refine sm_iload_n (Y := mX11_term) (pc := 89) 3 2 rfl rfl dX11_term_89 ?_
            refine sm_iv_J (Y := mX11_term) (pc := 90) (As := [.int x2]) (a := 74) fX7_at wRX11_203 (lk_74 hly) (by decide) rfl rfl rfl (Nat.le_trans (by decide) hd) (Nat.le_of_ble_eq_true rfl) ⟨Nat.le_refl _, Nat.le_refl _⟩ dX11_term_90 rfl (sm_monoJ h (fun r_11 m_10 h => ?_))
            refine sm_l2i (Y := mX11_term) (pc := 93) dX11_term_93 ?_
            exact sm_iret (Y := mX11_term) (pc := 94) rfl rfl rfl dX11_term_94 ⟨_, rfl, h⟩
          · replace h := h.2 hc
            refine sm_aload_n (Y := mX11_term) (pc := 79) 1 0 rfl rfl dX11_term_79 ?_
            refine sm_iconst (Y := mX11_term) (pc := 80) 2 (by decide) dX11_term_80 ?_
            refine sm_iv_I (Y := mX11_term) (pc := 81) (As := [.int 2]) (a := 0) fX11_error wRX11_103 (lk_0 hly) (by decide) rfl rfl rfl (Nat.le_trans (by decide) hd) (Nat.le_of_ble_eq_true rfl) ⟨Nat.le_refl _, Nat.le_refl _⟩ dX11_term_81 rfl (sm_monoI h (fun r_13 m_12 h => ?_))
            exact sm_iret (Y := mX11_term) (pc := 84) rfl rfl rfl dX11_term_84 ⟨_, rfl, h⟩
        · replace h := h.2 hc
          refine sm_aload_n (Y := mX11_term) (pc := 60) 1 0 rfl rfl dX11_term_60 ?_
          refine gf_RX11_81 (Y := mX11_term) (pc := 61) (b := 74) rfl ((lk_0 hly) _) (lf_0_11 hly _) dX11_term_61 ?_
          refine gf_RX11_199 (Y := mX11_term) (pc := 64) rfl ((lk_74 hly) _) dX11_term_64 ?_
          exact sm_iret (Y := mX11_term) (pc := 67) rfl rfl rfl dX11_term_67 ⟨_, rfl, h⟩
      · replace h := h.2 hc
        refine sm_aload_n (Y := mX11_term) (pc := 32) 1 0 rfl rfl dX11_term_32 ?_
        refine sm_iconst (Y := mX11_term) (pc := 33) 2 (by decide) dX11_term_33 ?_
        refine sm_iv_I (Y := mX11_term) (pc := 34) (As := [.int 2]) (a := 0) fX11_error wRX11_103 (lk_0 hly) (by decide) rfl rfl rfl (Nat.le_trans (by decide) hd) (Nat.le_of_ble_eq_true rfl) ⟨Nat.le_refl _, Nat.le_refl _⟩ dX11_term_34 rfl (sm_monoI h (fun r_15 m_14 h => ?_))
        exact sm_iret (Y := mX11_term) (pc := 37) rfl rfl rfl dX11_term_37 ⟨_, rfl, h⟩
    · replace h := h.2 hc
      refine sm_aload_n (Y := mX11_term) (pc := 12) 0 0 rfl rfl dX11_term_12 ?_
      refine sm_iconst (Y := mX11_term) (pc := 13) 1 (by decide) dX11_term_13 ?_
      refine sm_iv_I (Y := mX11_term) (pc := 14) (As := [.int 1]) (a := 0) fX11_error wRX11_103 (lk_0 hly) (by decide) rfl rfl rfl (Nat.le_trans (by decide) hd) (Nat.le_of_ble_eq_true rfl) ⟨Nat.le_refl _, Nat.le_refl _⟩ dX11_term_14 rfl (sm_monoI h (fun r_17 m_16 h => ?_))
      exact sm_iret (Y := mX11_term) (pc := 17) rfl rfl rfl dX11_term_17 ⟨_, rfl, h⟩
abbrev mX11_dance : sm_Y := (yX11_dance, cX11_dance, 5, (some FieldType.int))
theorem fX11_dance : sm_mi mX11_dance RX11 2 := ⟨sm_in 700 (by decide +kernel) (by decide +kernel), sm_in 698 (by decide +kernel) (by decide +kernel), sm_in 699 (by decide +kernel) (by decide +kernel), sm_in 82 (by decide +kernel) (by decide +kernel), rfl, ⟨by decide +kernel, by decide +kernel, by decide +kernel⟩, by decide⟩
theorem dX11_dance_0 : decode cX11_dance 0 = .ok (.iload_n 1, 1) := dk_iload_n_1 (by decide +kernel)
theorem dX11_dance_1 : decode cX11_dance 1 = .ok (.invokestatic 99, 3) := dk_invokestatic 99 (b1 := 0) (b2 := 99) (by decide +kernel) (by decide +kernel) (by decide +kernel) (by decide +kernel)
theorem dX11_dance_4 : decode cX11_dance 4 = .ok (.ifCond .eq 8, 3) := dk_ifCond_eq 8 (b1 := 0) (b2 := 8) (by decide +kernel) (by decide +kernel) (by decide +kernel) (by decide +kernel)
theorem dX11_dance_12 : decode cX11_dance 12 = .ok (.aload_n 0, 1) := dk_aload_n_0 (by decide +kernel)
theorem dX11_dance_13 : decode cX11_dance 13 = .ok (.iconst 1, 1) := dk_iconst_1 (by decide +kernel)
theorem dX11_dance_14 : decode cX11_dance 14 = .ok (.invokevirtual 103, 3) := dk_invokevirtual 103 (b1 := 0) (b2 := 103) (by decide +kernel) (by decide +kernel) (by decide +kernel) (by decide +kernel)
theorem dX11_dance_17 : decode cX11_dance 17 = .ok (.ireturn, 1) := dk_ireturn (by decide +kernel)
theorem dX11_dance_7 : decode cX11_dance 7 = .ok (.iload_n 2, 1) := dk_iload_n_2 (by decide +kernel)
theorem dX11_dance_8 : decode cX11_dance 8 = .ok (.iconst (-1), 1) := dk_iconst_m1 (by decide +kernel)
theorem dX11_dance_9 : decode cX11_dance 9 = .ok (.if_icmp .ge 9, 3) := dk_if_icmp_ge 9 (b1 := 0) (b2 := 9) (by decide +kernel) (by decide +kernel) (by decide +kernel) (by decide +kernel)
theorem dX11_dance_18 : decode cX11_dance 18 = .ok (.aload_n 0, 1) := dk_aload_n_0 (by decide +kernel)
theorem dX11_dance_19 : decode cX11_dance 19 = .ok (.getfield 11, 3) := dk_getfield 11 (b1 := 0) (b2 := 11) (by decide +kernel) (by decide +kernel) (by decide +kernel) (by decide +kernel)
theorem dX11_dance_22 : decode cX11_dance 22 = .ok (.iload_n 1, 1) := dk_iload_n_1 (by decide +kernel)
theorem dX11_dance_23 : decode cX11_dance 23 = .ok (.aaload, 1) := dk_aaload (by decide +kernel)
theorem dX11_dance_24 : decode cX11_dance 24 = .ok (.astore_n 3, 1) := dk_astore_n_3 (by decide +kernel)
theorem dX11_dance_25 : decode cX11_dance 25 = .ok (.aload_n 3, 1) := dk_aload_n_3 (by decide +kernel)
theorem dX11_dance_26 : decode cX11_dance 26 = .ok (.getfield 107, 3) := dk_getfield 107 (b1 := 0) (b2 := 107) (by decide +kernel) (by decide +kernel) (by decide +kernel) (by decide +kernel)
theorem dX11_dance_29 : decode cX11_dance 29 = .ok (.ifCond .ne 9, 3) := dk_ifCond_ne 9 (b1 := 0) (b2 := 9) (by decide +kernel) (by decide +kernel) (by decide +kernel) (by decide +kernel)
theorem dX11_dance_38 : decode cX11_dance 38 = .ok (.aload_n 3, 1) := dk_aload_n_3 (by decide +kernel)
theorem dX11_dance_39 : decode cX11_dance 39 = .ok (.getfield 132, 3) := dk_getfield 132 (b1 := 0) (b2 := 132) (by decide +kernel) (by decide +kernel) (by decide +kernel) (by decide +kernel)
theorem dX11_dance_42 : decode cX11_dance 42 = .ok (.aload_n 3, 1) := dk_aload_n_3 (by decide +kernel)
theorem dX11_dance_43 : decode cX11_dance 43 = .ok (.getfield 135, 3) := dk_getfield 135 (b1 := 0) (b2 := 135) (by decide +kernel) (by decide +kernel) (by decide +kernel) (by decide +kernel)
theorem dX11_dance_46 : decode cX11_dance 46 = .ok (.iload_n 2, 1) := dk_iload_n_2 (by decide +kernel)
theorem wRX11_207 : Cond.methodLink RX11 207 yX3_danced ∈ sm_T := sm_in 701 (by decide +kernel) (by decide +kernel)
theorem dX11_dance_47 : decode cX11_dance 47 = .ok (.invokestatic 207, 3) := dk_invokestatic 207 (b1 := 0) (b2 := 207) (by decide +kernel) (by decide +kernel) (by decide +kernel) (by decide +kernel)
theorem dX11_dance_50 : decode cX11_dance 50 = .ok (.istore 4, 2) := dk_istore 4 (b := 4) (by decide +kernel) (by decide +kernel) (by decide +kernel)
theorem dX11_dance_52 : decode cX11_dance 52 = .ok (.iload 4, 2) := dk_iload 4 (b := 4) (by decide +kernel) (by decide +kernel) (by decide +kernel)
theorem dX11_dance_54 : decode cX11_dance 54 = .ok (.ifCond .ge 11, 3) := dk_ifCond_ge 11 (b1 := 0) (b2 := 11) (by decide +kernel) (by decide +kernel) (by decide +kernel) (by decide +kernel)
theorem dX11_dance_65 : decode cX11_dance 65 = .ok (.iload 4, 2) := dk_iload 4 (b := 4) (by decide +kernel) (by decide +kernel) (by decide +kernel)
theorem dX11_dance_67 : decode cX11_dance 67 = .ok (.ireturn, 1) := dk_ireturn (by decide +kernel)
theorem dX11_dance_57 : decode cX11_dance 57 = .ok (.aload_n 0, 1) := dk_aload_n_0 (by decide +kernel)
theorem dX11_dance_58 : decode cX11_dance 58 = .ok (.iconst 2, 1) := dk_iconst_2 (by decide +kernel)
theorem dX11_dance_59 : decode cX11_dance 59 = .ok (.invokevirtual 103, 3) := dk_invokevirtual 103 (b1 := 0) (b2 := 103) (by decide +kernel) (by decide +kernel) (by decide +kernel) (by decide +kernel)
theorem dX11_dance_62 : decode cX11_dance 62 = .ok (.goto 5, 3) := dk_goto 5 (b1 := 0) (b2 := 5) (by decide +kernel) (by decide +kernel) (by decide +kernel) (by decide +kernel)
theorem dX11_dance_32 : decode cX11_dance 32 = .ok (.aload_n 0, 1) := dk_aload_n_0 (by decide +kernel)
theorem dX11_dance_33 : decode cX11_dance 33 = .ok (.iconst 2, 1) := dk_iconst_2 (by decide +kernel)
theorem dX11_dance_34 : decode cX11_dance 34 = .ok (.invokevirtual 103, 3) := dk_invokevirtual 103 (b1 := 0) (b2 := 103) (by decide +kernel) (by decide +kernel) (by decide +kernel) (by decide +kernel)
theorem dX11_dance_37 : decode cX11_dance 37 = .ok (.ireturn, 1) := dk_ireturn (by decide +kernel)
set_option maxRecDepth 20000 in
theorem vX11_dance_0 {E : sm_E} {L : sm_S → Prop} {d : Nat} {x1 : Int32} {x2 : Int32}  {m : sm_M} {Q : Int32 → sm_M → Prop} (hly : ∀ S, L S → ly S) (hd : 2 ≤ d) 
  (h : sm_callI E L mX11_isSlot 1 0 0 [.int x1] m (fun r_2 m_1 =>
   (r_2 = 0 →
      sm_callI E L mX11_error 1 0 0 [.ref (sm_B E + 0), .int 1] m_1 (fun r_4 m_3 =>
      Q r_4 m_3)) ∧
   (¬ r_2 = 0 →
      ((-1) ≤ x2 →
         (vp_in x1 6) ∧ (¬ (m_1.1 (77 + 4 * x1.toNatClampNeg) 8) = 0 →
            sm_callI E L mX3_danced 1 0 0 [.int (m_1.1 (77 + 4 * x1.toNatClampNeg) 9), .int (m_1.1 (77 + 4 * x1.toNatClampNeg) 10), .int x2] m_1 (fun r_7 m_6 =>
            (0 ≤ r_7 →
               Q r_7 m_6) ∧
            (¬ 0 ≤ r_7 →
               sm_callI E L mX11_error 1 0 0 [.ref (sm_B E + 0), .int 2] m_6 (fun r_10 m_9 =>
               Q r_10 m_9)))) ∧
         ((m_1.1 (77 + 4 * x1.toNatClampNeg) 8) = 0 →
            sm_callI E L mX11_error 1 0 0 [.ref (sm_B E + 0), .int 2] m_1 (fun r_12 m_11 =>
            Q r_12 m_11))) ∧
      (¬ (-1) ≤ x2 →
         sm_callI E L mX11_error 1 0 0 [.ref (sm_B E + 0), .int 1] m_1 (fun r_14 m_13 =>
         Q r_14 m_13))))) :
  sm_callI E L mX11_dance d 0 0 [.ref (sm_B E + 0), .int x1, .int x2] m Q := by
  refine sm_enter (by decide +kernel) (by simp [lg_sl, Value.category]) ?_
  refine sm_iload_n (Y := mX11_dance) (pc := 0) 1 1 rfl rfl dX11_dance_0 ?_
  refine sm_is_I (Y := mX11_dance) (pc := 1) (As := [.int x1]) fX11_isSlot wRX11_99 rfl (Nat.le_trans (by decide) hd) (Nat.le_of_ble_eq_true rfl) ⟨Nat.le_refl _, Nat.le_refl _⟩ dX11_dance_1 rfl (sm_monoI h (fun r_2 m_1 h => ?_))
  refine sm_if_eq (Y := mX11_dance) (pc := 4) 12 (by decide) dX11_dance_4 (fun hc => ?_) (fun hc => ?_)
  · replace h := h.1 hc
    refine sm_aload_n (Y := mX11_dance) (pc := 12) 0 0 rfl rfl dX11_dance_12 ?_
    refine sm_iconst (Y := mX11_dance) (pc := 13) 1 (by decide) dX11_dance_13 ?_
    refine sm_iv_I (Y := mX11_dance) (pc := 14) (As := [.int 1]) (a := 0) fX11_error wRX11_103 (lk_0 hly) (by decide) rfl rfl rfl (Nat.le_trans (by decide) hd) (Nat.le_of_ble_eq_true rfl) ⟨Nat.le_refl _, Nat.le_refl _⟩ dX11_dance_14 rfl (sm_monoI h (fun r_4 m_3 h => ?_))
    exact sm_iret (Y := mX11_dance) (pc := 17) rfl rfl rfl dX11_dance_17 ⟨_, rfl, h⟩
  · replace h := h.2 hc
    refine sm_iload_n (Y := mX11_dance) (pc := 7) 2 2 rfl rfl dX11_dance_7 ?_
    refine sm_iconst (Y := mX11_dance) (pc := 8) (-1) (by decide) dX11_dance_8 ?_
    refine sm_icmp_ge (Y := mX11_dance) (pc := 9) 18 (by decide) dX11_dance_9 (fun hc => ?_) (fun hc => ?_)
    · replace h := h.1 hc
      refine sm_aload_n (Y := mX11_dance) (pc := 18) 0 0 rfl rfl dX11_dance_18 ?_
      refine gf_RX11_11 (Y := mX11_dance) (pc := 19) (b := 1) rfl ((lk_0 hly) _) (lf_0_0 hly _) dX11_dance_19 ?_
      refine sm_iload_n (Y := mX11_dance) (pc := 22) 1 1 rfl rfl dX11_dance_22 ?_
      obtain ⟨hn_5, h⟩ := h
      refine sm_aaldG (Y := mX11_dance) (pc := 23) (b := (77 + 4 * x1.toNatClampNeg)) (la_1 hly _) hn_5 (ly_slotR hly (sm_inlt hn_5) _) dX11_dance_23 ?_
      refine sm_astore_n (Y := mX11_dance) (pc := 24) [(3, .ref (sm_B E + (77 + 4 * x1.toNatClampNeg))), (0, .ref (sm_B E + 0)), (1, .int x1), (2, .int x2)] 3 rfl (by decide) rfl dX11_dance_24 ?_
      refine sm_aload_n (Y := mX11_dance) (pc := 25) 0 3 rfl rfl dX11_dance_25 ?_
      refine gf_RX11_107 (Y := mX11_dance) (pc := 26) rfl ((fun S hS => ((ly_slotT hly (sm_inlt hn_5)) S hS).1) _) dX11_dance_26 ?_
      refine sm_if_ne (Y := mX11_dance) (pc := 29) 38 (by decide) dX11_dance_29 (fun hc => ?_) (fun hc => ?_)
      · replace h := h.1 hc
        refine sm_aload_n (Y := mX11_dance) (pc := 38) 0 3 rfl rfl dX11_dance_38 ?_
        refine gf_RX11_132 (Y := mX11_dance) (pc := 39) rfl ((fun S hS => ((ly_slotT hly (sm_inlt hn_5)) S hS).1) _) dX11_dance_39 ?_
        refine sm_aload_n (Y := mX11_dance) (pc := 42) 0 3 rfl rfl dX11_dance_42 ?_
        refine gf_RX11_135 (Y := mX11_dance) (pc := 43) rfl ((fun S hS => ((ly_slotT hly (sm_inlt hn_5)) S hS).1) _) dX11_dance_43 ?_
        refine sm_iload_n (Y := mX11_dance) (pc := 46) 3 2 rfl rfl dX11_dance_46 ?_
        refine sm_is_I (Y := mX11_dance) (pc := 47) (As := [.int (m_1.1 (77 + 4 * x1.toNatClampNeg) 9), .int (m_1.1 (77 + 4 * x1.toNatClampNeg) 10), .int x2]) fX3_danced wRX11_207 rfl (Nat.le_trans (by decide) hd) (Nat.le_of_ble_eq_true rfl) ⟨Nat.le_refl _, Nat.le_refl _⟩ dX11_dance_47 rfl (sm_monoI h (fun r_7 m_6 h => ?_))
        refine sm_istore0 (Y := mX11_dance) (pc := 50) [(4, .int r_7), (3, .ref (sm_B E + (77 + 4 * x1.toNatClampNeg))), (0, .ref (sm_B E + 0)), (1, .int x1), (2, .int x2)] 4 (by decide) rfl dX11_dance_50 ?_
        refine sm_iload (Y := mX11_dance) (pc := 52) 0 4 rfl dX11_dance_52 ?_
        refine sm_if_ge (Y := mX11_dance) (pc := 54) 65 (by decide) dX11_dance_54 (fun hc => ?_) (fun hc => ?_)
        · replace h := h.1 hc
          refine sm_iload (Y := mX11_dance) (pc := 65) 0 4 rfl dX11_dance_65 ?_
          exact sm_iret (Y := mX11_dance) (pc := 67) rfl rfl rfl dX11_dance_67 ⟨_, rfl, h⟩
        · replace h := h.2 hc
          refine sm_aload_n (Y := mX11_dance) (pc := 57) 2 0 rfl rfl dX11_dance_57 ?_
          refine sm_iconst (Y := mX11_dance) (pc := 58) 2 (by decide) dX11_dance_58 ?_
          refine sm_iv_I (Y := mX11_dance) (pc := 59) (As := [.int 2]) (a := 0) fX11_error wRX11_103 (lk_0 hly) (by decide) rfl rfl rfl (Nat.le_trans (by decide) hd) (Nat.le_of_ble_eq_true rfl) ⟨Nat.le_refl _, Nat.le_refl _⟩ dX11_dance_59 rfl (sm_monoI h (fun r_10 m_9 h => ?_))
          refine sm_goto (Y := mX11_dance) (pc := 62) 67 (by decide) dX11_dance_62 ?_
          exact sm_iret (Y := mX11_dance) (pc := 67) rfl rfl rfl dX11_dance_67 ⟨_, rfl, h⟩
      · replace h := h.2 hc
        refine sm_aload_n (Y := mX11_dance) (pc := 32) 1 0 rfl rfl dX11_dance_32 ?_
        refine sm_iconst (Y := mX11_dance) (pc := 33) 2 (by decide) dX11_dance_33 ?_
        refine sm_iv_I (Y := mX11_dance) (pc := 34) (As := [.int 2]) (a := 0) fX11_error wRX11_103 (lk_0 hly) (by decide) rfl rfl rfl (Nat.le_trans (by decide) hd) (Nat.le_of_ble_eq_true rfl) ⟨Nat.le_refl _, Nat.le_refl _⟩ dX11_dance_34 rfl (sm_monoI h (fun r_12 m_11 h => ?_))
        exact sm_iret (Y := mX11_dance) (pc := 37) rfl rfl rfl dX11_dance_37 ⟨_, rfl, h⟩
    · replace h := h.2 hc
      refine sm_aload_n (Y := mX11_dance) (pc := 12) 0 0 rfl rfl dX11_dance_12 ?_
      refine sm_iconst (Y := mX11_dance) (pc := 13) 1 (by decide) dX11_dance_13 ?_
      refine sm_iv_I (Y := mX11_dance) (pc := 14) (As := [.int 1]) (a := 0) fX11_error wRX11_103 (lk_0 hly) (by decide) rfl rfl rfl (Nat.le_trans (by decide) hd) (Nat.le_of_ble_eq_true rfl) ⟨Nat.le_refl _, Nat.le_refl _⟩ dX11_dance_14 rfl (sm_monoI h (fun r_14 m_13 h => ?_))
      exact sm_iret (Y := mX11_dance) (pc := 17) rfl rfl rfl dX11_dance_17 ⟨_, rfl, h⟩
abbrev mX11_least : sm_Y := (yX11_least, cX11_least, 9, (some FieldType.int))
theorem fX11_least : sm_mi mX11_least RX11 4 := ⟨sm_in 707 (by decide +kernel) (by decide +kernel), sm_in 705 (by decide +kernel) (by decide +kernel), sm_in 706 (by decide +kernel) (by decide +kernel), sm_in 82 (by decide +kernel) (by decide +kernel), rfl, ⟨by decide +kernel, by decide +kernel, by decide +kernel⟩, by decide⟩
def gX11_least_79 (E : sm_E) (L : sm_S → Prop) (d : Nat) (vs : List Value) (x3 : Int32) (x4 : Int32) (a5 : Nat) (a6 : Nat) (x7 : Int32) (m : sm_M) (Q : Int32 → sm_M → Prop) : Prop := sm_go E L mX11_least d 0 0 vs 79 [(0, .ref (sm_B E + 0)), (3, .int x3), (4, .int x4), (5, .ref (sm_B E + a5)), (6, .ref (sm_B E + a6)), (7, .int x7)] [] m 0 0 (sm_Z E L vs 0 0 (sm_QI Q))
theorem dX11_least_79 : decode cX11_least 79 = .ok (.iload 7, 2) := dk_iload 7 (b := 7) (by decide +kernel) (by decide +kernel) (by decide +kernel)
theorem dX11_least_81 : decode cX11_least 81 = .ok (.iload_n 3, 1) := dk_iload_n_3 (by decide +kernel)
theorem dX11_least_82 : decode cX11_least 82 = .ok (.if_icmp .gt 38, 3) := dk_if_icmp_gt 38 (b1 := 0) (b2 := 38) (by decide +kernel) (by decide +kernel) (by decide +kernel) (by decide +kernel)
theorem dX11_least_120 : decode cX11_least 120 = .ok (.aload_n 0, 1) := dk_aload_n_0 (by decide +kernel)
theorem dX11_least_121 : decode cX11_least 121 = .ok (.iconst 2, 1) := dk_iconst_2 (by decide +kernel)
theorem dX11_least_122 : decode cX11_least 122 = .ok (.invokevirtual 103, 3) := dk_invokevirtual 103 (b1 := 0) (b2 := 103) (by decide +kernel) (by decide +kernel) (by decide +kernel) (by decide +kernel)
theorem dX11_least_125 : decode cX11_least 125 = .ok (.ireturn, 1) := dk_ireturn (by decide +kernel)
theorem dX11_least_85 : decode cX11_least 85 = .ok (.aload 5, 2) := dk_aload 5 (b := 5) (by decide +kernel) (by decide +kernel) (by decide +kernel)
theorem dX11_least_87 : decode cX11_least 87 = .ok (.aload 6, 2) := dk_aload 6 (b := 6) (by decide +kernel) (by decide +kernel) (by decide +kernel)
theorem dX11_least_89 : decode cX11_least 89 = .ok (.iload 7, 2) := dk_iload 7 (b := 7) (by decide +kernel) (by decide +kernel) (by decide +kernel)
theorem wRX11_213 : Cond.methodLink RX11 213 yX3_rowOf ∈ sm_T := sm_in 708 (by decide +kernel) (by decide +kernel)
theorem dX11_least_91 : decode cX11_least 91 = .ok (.invokestatic 213, 3) := dk_invokestatic 213 (b1 := 0) (b2 := 213) (by decide +kernel) (by decide +kernel) (by decide +kernel) (by decide +kernel)
theorem dX11_least_94 : decode cX11_least 94 = .ok (.istore 8, 2) := dk_istore 8 (b := 8) (by decide +kernel) (by decide +kernel) (by decide +kernel)
theorem dX11_least_96 : decode cX11_least 96 = .ok (.iload 8, 2) := dk_iload 8 (b := 8) (by decide +kernel) (by decide +kernel) (by decide +kernel)
theorem dX11_least_98 : decode cX11_least 98 = .ok (.ifCond .le 16, 3) := dk_ifCond_le 16 (b1 := 0) (b2 := 16) (by decide +kernel) (by decide +kernel) (by decide +kernel) (by decide +kernel)
theorem dX11_least_114 : decode cX11_least 114 = .ok (.iinc 7 1, 3) := dk_iinc 7 1 (b1 := 7) (b2 := 1) (by decide +kernel) (by decide +kernel) (by decide +kernel) (by decide +kernel) (by decide +kernel)
theorem dX11_least_117 : decode cX11_least 117 = .ok (.goto (-38), 3) := dk_goto (-38) (b1 := 255) (b2 := 218) (by decide +kernel) (by decide +kernel) (by decide +kernel) (by decide +kernel)
theorem dX11_least_101 : decode cX11_least 101 = .ok (.iload 4, 2) := dk_iload 4 (b := 4) (by decide +kernel) (by decide +kernel) (by decide +kernel)
theorem dX11_least_103 : decode cX11_least 103 = .ok (.ifCond .ne 8, 3) := dk_ifCond_ne 8 (b1 := 0) (b2 := 8) (by decide +kernel) (by decide +kernel) (by decide +kernel) (by decide +kernel)
theorem dX11_least_111 : decode cX11_least 111 = .ok (.iload 8, 2) := dk_iload 8 (b := 8) (by decide +kernel) (by decide +kernel) (by decide +kernel)
theorem dX11_least_113 : decode cX11_least 113 = .ok (.ireturn, 1) := dk_ireturn (by decide +kernel)
theorem dX11_least_106 : decode cX11_least 106 = .ok (.iload 7, 2) := dk_iload 7 (b := 7) (by decide +kernel) (by decide +kernel) (by decide +kernel)
theorem dX11_least_108 : decode cX11_least 108 = .ok (.goto 5, 3) := dk_goto 5 (b1 := 0) (b2 := 5) (by decide +kernel) (by decide +kernel) (by decide +kernel) (by decide +kernel)
set_option maxRecDepth 20000 in
theorem vX11_least_79 {E : sm_E} {L : sm_S → Prop} {d : Nat} {vs : List Value} {x3 : Int32} {x4 : Int32} {a5 : Nat} {a6 : Nat} {x7 : Int32} {na5 : Nat} {na6 : Nat} {m : sm_M} {Q : Int32 → sm_M → Prop} (hly : ∀ S, L S → ly S) (hd : 62 ≤ d) (hTa5 : sm_tan L a5 na5) (hTa6 : sm_tan L a6 na6)
  (h : (x3 < x7 →
      sm_callI E L mX11_error 1 0 0 [.ref (sm_B E + 0), .int 2] m (fun r_2 m_1 =>
      Q r_2 m_1)) ∧
   (¬ x3 < x7 →
      sm_callI E L mX3_rowOf 61 0 0 [.ref (sm_B E + a5), .ref (sm_B E + a6), .int x7] m (fun r_4 m_3 =>
      (r_4 ≤ 0 →
         ∀ x7_6 : Int32, x7_6 = x7 + 1 →
         gX11_least_79 E L d vs x3 x4 a5 a6 x7_6 m_3 Q) ∧
      (¬ r_4 ≤ 0 →
         (¬ x4 = 0 →
            Q r_4 m_3) ∧
         (x4 = 0 →
            Q x7 m_3))))) :
  gX11_least_79 E L d vs x3 x4 a5 a6 x7 m Q := by
  refine sm_iload (Y := mX11_least) (pc := 79) 5 7 rfl dX11_least_79 ?_
  refine sm_iload_n (Y := mX11_least) (pc := 81) 1 3 rfl rfl dX11_least_81 ?_
  refine sm_icmp_gt (Y := mX11_least) (pc := 82) 120 (by decide) dX11_least_82 (fun hc => ?_) (fun hc => ?_)
  · replace h := h.1 hc
    refine sm_aload_n (Y := mX11_least) (pc := 120) 0 0 rfl rfl dX11_least_120 ?_
    refine sm_iconst (Y := mX11_least) (pc := 121) 2 (by decide) dX11_least_121 ?_
    refine sm_iv_I (Y := mX11_least) (pc := 122) (As := [.int 2]) (a := 0) fX11_error wRX11_103 (lk_0 hly) (by decide) rfl rfl rfl (Nat.le_trans (by decide) hd) (Nat.le_of_ble_eq_true rfl) ⟨Nat.le_refl _, Nat.le_refl _⟩ dX11_least_122 rfl (sm_monoI h (fun r_2 m_1 h => ?_))
    exact sm_iret (Y := mX11_least) (pc := 125) rfl rfl rfl dX11_least_125 ⟨_, rfl, h⟩
  · replace h := h.2 hc
    refine sm_aload (Y := mX11_least) (pc := 85) 3 5 rfl dX11_least_85 ?_
    refine sm_aload (Y := mX11_least) (pc := 87) 4 6 rfl dX11_least_87 ?_
    refine sm_iload (Y := mX11_least) (pc := 89) 5 7 rfl dX11_least_89 ?_
    refine sm_is_I (Y := mX11_least) (pc := 91) (As := [.ref (sm_B E + a5), .ref (sm_B E + a6), .int x7]) fX3_rowOf wRX11_213 rfl (Nat.le_trans (by decide) hd) (Nat.le_of_ble_eq_true rfl) ⟨Nat.le_refl _, Nat.le_refl _⟩ dX11_least_91 rfl (sm_monoI h (fun r_4 m_3 h => ?_))
    refine sm_istore0 (Y := mX11_least) (pc := 94) [(8, .int r_4), (0, .ref (sm_B E + 0)), (3, .int x3), (4, .int x4), (5, .ref (sm_B E + a5)), (6, .ref (sm_B E + a6)), (7, .int x7)] 8 (by decide) rfl dX11_least_94 ?_
    refine sm_iload (Y := mX11_least) (pc := 96) 0 8 rfl dX11_least_96 ?_
    refine sm_if_le (Y := mX11_least) (pc := 98) 114 (by decide) dX11_least_98 (fun hc => ?_) (fun hc => ?_)
    · replace h := h.1 hc
      refine sm_iinc (Y := mX11_least) (pc := 114) (fun y => [(7, .int y), (8, .int r_4), (0, .ref (sm_B E + 0)), (3, .int x3), (4, .int x4), (5, .ref (sm_B E + a5)), (6, .ref (sm_B E + a6))]) 6 7 rfl (by decide) (fun _ => rfl) dX11_least_114 (fun x7_6 ex7_6 => ?_)
      replace h := h x7_6 ex7_6
      refine sm_goto (Y := mX11_least) (pc := 117) 79 (by decide) dX11_least_117 ?_
      refine sm_sub [2, 3, 4, 5, 6, 0] rfl ?_
      exact h
    · replace h := h.2 hc
      refine sm_iload (Y := mX11_least) (pc := 101) 3 4 rfl dX11_least_101 ?_
      refine sm_if_ne (Y := mX11_least) (pc := 103) 111 (by decide) dX11_least_103 (fun hc => ?_) (fun hc => ?_)
      · replace h := h.1 hc
        refine sm_iload (Y := mX11_least) (pc := 111) 0 8 rfl dX11_least_111 ?_
        exact sm_iret (Y := mX11_least) (pc := 113) rfl rfl rfl dX11_least_113 ⟨_, rfl, h⟩
      · replace h := h.2 hc
        refine sm_iload (Y := mX11_least) (pc := 106) 6 7 rfl dX11_least_106 ?_
        refine sm_goto (Y := mX11_least) (pc := 108) 113 (by decide) dX11_least_108 ?_
        exact sm_iret (Y := mX11_least) (pc := 113) rfl rfl rfl dX11_least_113 ⟨_, rfl, h⟩
theorem dX11_least_0 : decode cX11_least 0 = .ok (.iload_n 1, 1) := dk_iload_n_1 (by decide +kernel)
theorem dX11_least_1 : decode cX11_least 1 = .ok (.invokestatic 99, 3) := dk_invokestatic 99 (b1 := 0) (b2 := 99) (by decide +kernel) (by decide +kernel) (by decide +kernel) (by decide +kernel)
theorem dX11_least_4 : decode cX11_least 4 = .ok (.ifCond .eq 28, 3) := dk_ifCond_eq 28 (b1 := 0) (b2 := 28) (by decide +kernel) (by decide +kernel) (by decide +kernel) (by decide +kernel)
theorem dX11_least_32 : decode cX11_least 32 = .ok (.aload_n 0, 1) := dk_aload_n_0 (by decide +kernel)
theorem dX11_least_33 : decode cX11_least 33 = .ok (.iconst 1, 1) := dk_iconst_1 (by decide +kernel)
theorem dX11_least_34 : decode cX11_least 34 = .ok (.invokevirtual 103, 3) := dk_invokevirtual 103 (b1 := 0) (b2 := 103) (by decide +kernel) (by decide +kernel) (by decide +kernel) (by decide +kernel)
theorem dX11_least_37 : decode cX11_least 37 = .ok (.ireturn, 1) := dk_ireturn (by decide +kernel)
theorem dX11_least_7 : decode cX11_least 7 = .ok (.iload_n 2, 1) := dk_iload_n_2 (by decide +kernel)
theorem dX11_least_8 : decode cX11_least 8 = .ok (.invokestatic 99, 3) := dk_invokestatic 99 (b1 := 0) (b2 := 99) (by decide +kernel) (by decide +kernel) (by decide +kernel) (by decide +kernel)
theorem dX11_least_11 : decode cX11_least 11 = .ok (.ifCond .eq 21, 3) := dk_ifCond_eq 21 (b1 := 0) (b2 := 21) (by decide +kernel) (by decide +kernel) (by decide +kernel) (by decide +kernel)
theorem dX11_least_14 : decode cX11_least 14 = .ok (.iload_n 3, 1) := dk_iload_n_3 (by decide +kernel)
theorem dX11_least_15 : decode cX11_least 15 = .ok (.ifCond .lt 17, 3) := dk_ifCond_lt 17 (b1 := 0) (b2 := 17) (by decide +kernel) (by decide +kernel) (by decide +kernel) (by decide +kernel)
theorem dX11_least_18 : decode cX11_least 18 = .ok (.iload_n 3, 1) := dk_iload_n_3 (by decide +kernel)
theorem dX11_least_19 : decode cX11_least 19 = .ok (.bipush 8, 2) := dk_bipush 8 (b := 8) (by decide +kernel) (by decide +kernel) (by decide +kernel)
theorem dX11_least_21 : decode cX11_least 21 = .ok (.if_icmp .gt 11, 3) := dk_if_icmp_gt 11 (b1 := 0) (b2 := 11) (by decide +kernel) (by decide +kernel) (by decide +kernel) (by decide +kernel)
theorem dX11_least_24 : decode cX11_least 24 = .ok (.iload 4, 2) := dk_iload 4 (b := 4) (by decide +kernel) (by decide +kernel) (by decide +kernel)
theorem dX11_least_26 : decode cX11_least 26 = .ok (.invokestatic 148, 3) := dk_invokestatic 148 (b1 := 0) (b2 := 148) (by decide +kernel) (by decide +kernel) (by decide +kernel) (by decide +kernel)
theorem dX11_least_29 : decode cX11_least 29 = .ok (.ifCond .ne 9, 3) := dk_ifCond_ne 9 (b1 := 0) (b2 := 9) (by decide +kernel) (by decide +kernel) (by decide +kernel) (by decide +kernel)
theorem dX11_least_38 : decode cX11_least 38 = .ok (.aload_n 0, 1) := dk_aload_n_0 (by decide +kernel)
theorem dX11_least_39 : decode cX11_least 39 = .ok (.getfield 11, 3) := dk_getfield 11 (b1 := 0) (b2 := 11) (by decide +kernel) (by decide +kernel) (by decide +kernel) (by decide +kernel)
theorem dX11_least_42 : decode cX11_least 42 = .ok (.iload_n 1, 1) := dk_iload_n_1 (by decide +kernel)
theorem dX11_least_43 : decode cX11_least 43 = .ok (.aaload, 1) := dk_aaload (by decide +kernel)
theorem dX11_least_44 : decode cX11_least 44 = .ok (.astore 5, 2) := dk_astore 5 (b := 5) (by decide +kernel) (by decide +kernel) (by decide +kernel)
theorem dX11_least_46 : decode cX11_least 46 = .ok (.aload_n 0, 1) := dk_aload_n_0 (by decide +kernel)
theorem dX11_least_47 : decode cX11_least 47 = .ok (.getfield 11, 3) := dk_getfield 11 (b1 := 0) (b2 := 11) (by decide +kernel) (by decide +kernel) (by decide +kernel) (by decide +kernel)
theorem dX11_least_50 : decode cX11_least 50 = .ok (.iload_n 2, 1) := dk_iload_n_2 (by decide +kernel)
theorem dX11_least_51 : decode cX11_least 51 = .ok (.aaload, 1) := dk_aaload (by decide +kernel)
theorem dX11_least_52 : decode cX11_least 52 = .ok (.astore 6, 2) := dk_astore 6 (b := 6) (by decide +kernel) (by decide +kernel) (by decide +kernel)
theorem dX11_least_54 : decode cX11_least 54 = .ok (.aload 5, 2) := dk_aload 5 (b := 5) (by decide +kernel) (by decide +kernel) (by decide +kernel)
theorem dX11_least_56 : decode cX11_least 56 = .ok (.getfield 107, 3) := dk_getfield 107 (b1 := 0) (b2 := 107) (by decide +kernel) (by decide +kernel) (by decide +kernel) (by decide +kernel)
theorem dX11_least_59 : decode cX11_least 59 = .ok (.ifCond .eq 11, 3) := dk_ifCond_eq 11 (b1 := 0) (b2 := 11) (by decide +kernel) (by decide +kernel) (by decide +kernel) (by decide +kernel)
theorem dX11_least_70 : decode cX11_least 70 = .ok (.aload_n 0, 1) := dk_aload_n_0 (by decide +kernel)
theorem dX11_least_71 : decode cX11_least 71 = .ok (.iconst 2, 1) := dk_iconst_2 (by decide +kernel)
theorem dX11_least_72 : decode cX11_least 72 = .ok (.invokevirtual 103, 3) := dk_invokevirtual 103 (b1 := 0) (b2 := 103) (by decide +kernel) (by decide +kernel) (by decide +kernel) (by decide +kernel)
theorem dX11_least_75 : decode cX11_least 75 = .ok (.ireturn, 1) := dk_ireturn (by decide +kernel)
theorem dX11_least_62 : decode cX11_least 62 = .ok (.aload 6, 2) := dk_aload 6 (b := 6) (by decide +kernel) (by decide +kernel) (by decide +kernel)
theorem dX11_least_64 : decode cX11_least 64 = .ok (.getfield 107, 3) := dk_getfield 107 (b1 := 0) (b2 := 107) (by decide +kernel) (by decide +kernel) (by decide +kernel) (by decide +kernel)
theorem dX11_least_67 : decode cX11_least 67 = .ok (.ifCond .ne 9, 3) := dk_ifCond_ne 9 (b1 := 0) (b2 := 9) (by decide +kernel) (by decide +kernel) (by decide +kernel) (by decide +kernel)
theorem dX11_least_76 : decode cX11_least 76 = .ok (.iconst 0, 1) := dk_iconst_0 (by decide +kernel)
theorem dX11_least_77 : decode cX11_least 77 = .ok (.istore 7, 2) := dk_istore 7 (b := 7) (by decide +kernel) (by decide +kernel) (by decide +kernel)
set_option maxRecDepth 20000 in
theorem vX11_least_0 {E : sm_E} {L : sm_S → Prop} {d : Nat} {x1 : Int32} {x2 : Int32} {x3 : Int32} {x4 : Int32}  {m : sm_M} {Q : Int32 → sm_M → Prop} (hly : ∀ S, L S → ly S) (hd : 62 ≤ d) 
  (h : sm_callI E L mX11_isSlot 1 0 0 [.int x1] m (fun r_2 m_1 =>
   (r_2 = 0 →
      sm_callI E L mX11_error 1 0 0 [.ref (sm_B E + 0), .int 1] m_1 (fun r_4 m_3 =>
      Q r_4 m_3)) ∧
   (¬ r_2 = 0 →
      sm_callI E L mX11_isSlot 1 0 0 [.int x2] m_1 (fun r_6 m_5 =>
      (r_6 = 0 →
         sm_callI E L mX11_error 1 0 0 [.ref (sm_B E + 0), .int 1] m_5 (fun r_8 m_7 =>
         Q r_8 m_7)) ∧
      (¬ r_6 = 0 →
         (x3 < 0 →
            sm_callI E L mX11_error 1 0 0 [.ref (sm_B E + 0), .int 1] m_5 (fun r_10 m_9 =>
            Q r_10 m_9)) ∧
         (¬ x3 < 0 →
            (8 < x3 →
               sm_callI E L mX11_error 1 0 0 [.ref (sm_B E + 0), .int 1] m_5 (fun r_12 m_11 =>
               Q r_12 m_11)) ∧
            (¬ 8 < x3 →
               sm_callI E L mX11_isChoice 1 0 0 [.int x4] m_5 (fun r_14 m_13 =>
               (¬ r_14 = 0 →
                  (vp_in x1 6) ∧ (vp_in x2 6) ∧ ((m_13.1 (77 + 4 * x1.toNatClampNeg) 8) = 0 →
                     sm_callI E L mX11_error 1 0 0 [.ref (sm_B E + 0), .int 2] m_13 (fun r_18 m_17 =>
                     Q r_18 m_17)) ∧
                  (¬ (m_13.1 (77 + 4 * x1.toNatClampNeg) 8) = 0 →
                     (¬ (m_13.1 (77 + 4 * x2.toNatClampNeg) 8) = 0 →
                        gX11_least_79 E L d ([.ref (sm_B E + 0), .int x1, .int x2, .int x3, .int x4]) x3 x4 (77 + 4 * x1.toNatClampNeg) (77 + 4 * x2.toNatClampNeg) 0 m_13 Q) ∧
                     ((m_13.1 (77 + 4 * x2.toNatClampNeg) 8) = 0 →
                        sm_callI E L mX11_error 1 0 0 [.ref (sm_B E + 0), .int 2] m_13 (fun r_21 m_20 =>
                        Q r_21 m_20)))) ∧
               (r_14 = 0 →
                  sm_callI E L mX11_error 1 0 0 [.ref (sm_B E + 0), .int 1] m_13 (fun r_23 m_22 =>
                  Q r_23 m_22)))))))))) :
  sm_callI E L mX11_least d 0 0 [.ref (sm_B E + 0), .int x1, .int x2, .int x3, .int x4] m Q := by
  refine sm_enter (by decide +kernel) (by simp [lg_sl, Value.category]) ?_
  refine sm_iload_n (Y := mX11_least) (pc := 0) 1 1 rfl rfl dX11_least_0 ?_
  refine sm_is_I (Y := mX11_least) (pc := 1) (As := [.int x1]) fX11_isSlot wRX11_99 rfl (Nat.le_trans (by decide) hd) (Nat.le_of_ble_eq_true rfl) ⟨Nat.le_refl _, Nat.le_refl _⟩ dX11_least_1 rfl (sm_monoI h (fun r_2 m_1 h => ?_))
  refine sm_if_eq (Y := mX11_least) (pc := 4) 32 (by decide) dX11_least_4 (fun hc => ?_) (fun hc => ?_)
  · replace h := h.1 hc
    refine sm_aload_n (Y := mX11_least) (pc := 32) 0 0 rfl rfl dX11_least_32 ?_
    refine sm_iconst (Y := mX11_least) (pc := 33) 1 (by decide) dX11_least_33 ?_
    refine sm_iv_I (Y := mX11_least) (pc := 34) (As := [.int 1]) (a := 0) fX11_error wRX11_103 (lk_0 hly) (by decide) rfl rfl rfl (Nat.le_trans (by decide) hd) (Nat.le_of_ble_eq_true rfl) ⟨Nat.le_refl _, Nat.le_refl _⟩ dX11_least_34 rfl (sm_monoI h (fun r_4 m_3 h => ?_))
    exact sm_iret (Y := mX11_least) (pc := 37) rfl rfl rfl dX11_least_37 ⟨_, rfl, h⟩
  · replace h := h.2 hc
    refine sm_iload_n (Y := mX11_least) (pc := 7) 2 2 rfl rfl dX11_least_7 ?_
    refine sm_is_I (Y := mX11_least) (pc := 8) (As := [.int x2]) fX11_isSlot wRX11_99 rfl (Nat.le_trans (by decide) hd) (Nat.le_of_ble_eq_true rfl) ⟨Nat.le_refl _, Nat.le_refl _⟩ dX11_least_8 rfl (sm_monoI h (fun r_6 m_5 h => ?_))
    refine sm_if_eq (Y := mX11_least) (pc := 11) 32 (by decide) dX11_least_11 (fun hc => ?_) (fun hc => ?_)
    · replace h := h.1 hc
      refine sm_aload_n (Y := mX11_least) (pc := 32) 0 0 rfl rfl dX11_least_32 ?_
      refine sm_iconst (Y := mX11_least) (pc := 33) 1 (by decide) dX11_least_33 ?_
      refine sm_iv_I (Y := mX11_least) (pc := 34) (As := [.int 1]) (a := 0) fX11_error wRX11_103 (lk_0 hly) (by decide) rfl rfl rfl (Nat.le_trans (by decide) hd) (Nat.le_of_ble_eq_true rfl) ⟨Nat.le_refl _, Nat.le_refl _⟩ dX11_least_34 rfl (sm_monoI h (fun r_8 m_7 h => ?_))
      exact sm_iret (Y := mX11_least) (pc := 37) rfl rfl rfl dX11_least_37 ⟨_, rfl, h⟩
    · replace h := h.2 hc
      refine sm_iload_n (Y := mX11_least) (pc := 14) 3 3 rfl rfl dX11_least_14 ?_
      refine sm_if_lt (Y := mX11_least) (pc := 15) 32 (by decide) dX11_least_15 (fun hc => ?_) (fun hc => ?_)
      · replace h := h.1 hc
        refine sm_aload_n (Y := mX11_least) (pc := 32) 0 0 rfl rfl dX11_least_32 ?_
        refine sm_iconst (Y := mX11_least) (pc := 33) 1 (by decide) dX11_least_33 ?_
        refine sm_iv_I (Y := mX11_least) (pc := 34) (As := [.int 1]) (a := 0) fX11_error wRX11_103 (lk_0 hly) (by decide) rfl rfl rfl (Nat.le_trans (by decide) hd) (Nat.le_of_ble_eq_true rfl) ⟨Nat.le_refl _, Nat.le_refl _⟩ dX11_least_34 rfl (sm_monoI h (fun r_10 m_9 h => ?_))
        exact sm_iret (Y := mX11_least) (pc := 37) rfl rfl rfl dX11_least_37 ⟨_, rfl, h⟩
      · replace h := h.2 hc
        refine sm_iload_n (Y := mX11_least) (pc := 18) 3 3 rfl rfl dX11_least_18 ?_
        refine sm_bipush (Y := mX11_least) (pc := 19) 8 (by decide) dX11_least_19 ?_
        refine sm_icmp_gt (Y := mX11_least) (pc := 21) 32 (by decide) dX11_least_21 (fun hc => ?_) (fun hc => ?_)
        · replace h := h.1 hc
          refine sm_aload_n (Y := mX11_least) (pc := 32) 0 0 rfl rfl dX11_least_32 ?_
          refine sm_iconst (Y := mX11_least) (pc := 33) 1 (by decide) dX11_least_33 ?_
          refine sm_iv_I (Y := mX11_least) (pc := 34) (As := [.int 1]) (a := 0) fX11_error wRX11_103 (lk_0 hly) (by decide) rfl rfl rfl (Nat.le_trans (by decide) hd) (Nat.le_of_ble_eq_true rfl) ⟨Nat.le_refl _, Nat.le_refl _⟩ dX11_least_34 rfl (sm_monoI h (fun r_12 m_11 h => ?_))
          exact sm_iret (Y := mX11_least) (pc := 37) rfl rfl rfl dX11_least_37 ⟨_, rfl, h⟩
        · replace h := h.2 hc
          refine sm_iload (Y := mX11_least) (pc := 24) 4 4 rfl dX11_least_24 ?_
          refine sm_is_I (Y := mX11_least) (pc := 26) (As := [.int x4]) fX11_isChoice wRX11_148 rfl (Nat.le_trans (by decide) hd) (Nat.le_of_ble_eq_true rfl) ⟨Nat.le_refl _, Nat.le_refl _⟩ dX11_least_26 rfl (sm_monoI h (fun r_14 m_13 h => ?_))
          refine sm_if_ne (Y := mX11_least) (pc := 29) 38 (by decide) dX11_least_29 (fun hc => ?_) (fun hc => ?_)
          · replace h := h.1 hc
            refine sm_aload_n (Y := mX11_least) (pc := 38) 0 0 rfl rfl dX11_least_38 ?_
            refine gf_RX11_11 (Y := mX11_least) (pc := 39) (b := 1) rfl ((lk_0 hly) _) (lf_0_0 hly _) dX11_least_39 ?_
            refine sm_iload_n (Y := mX11_least) (pc := 42) 1 1 rfl rfl dX11_least_42 ?_
            obtain ⟨hn_15, h⟩ := h
            refine sm_aaldG (Y := mX11_least) (pc := 43) (b := (77 + 4 * x1.toNatClampNeg)) (la_1 hly _) hn_15 (ly_slotR hly (sm_inlt hn_15) _) dX11_least_43 ?_
            refine sm_astore (Y := mX11_least) (pc := 44) [(5, .ref (sm_B E + (77 + 4 * x1.toNatClampNeg))), (0, .ref (sm_B E + 0)), (1, .int x1), (2, .int x2), (3, .int x3), (4, .int x4)] 5 (by decide) rfl dX11_least_44 ?_
            refine sm_aload_n (Y := mX11_least) (pc := 46) 1 0 rfl rfl dX11_least_46 ?_
            refine gf_RX11_11 (Y := mX11_least) (pc := 47) (b := 1) rfl ((lk_0 hly) _) (lf_0_0 hly _) dX11_least_47 ?_
            refine sm_iload_n (Y := mX11_least) (pc := 50) 3 2 rfl rfl dX11_least_50 ?_
            obtain ⟨hn_16, h⟩ := h
            refine sm_aaldG (Y := mX11_least) (pc := 51) (b := (77 + 4 * x2.toNatClampNeg)) (la_1 hly _) hn_16 (ly_slotR hly (sm_inlt hn_16) _) dX11_least_51 ?_
            refine sm_astore (Y := mX11_least) (pc := 52) [(6, .ref (sm_B E + (77 + 4 * x2.toNatClampNeg))), (5, .ref (sm_B E + (77 + 4 * x1.toNatClampNeg))), (0, .ref (sm_B E + 0)), (1, .int x1), (2, .int x2), (3, .int x3), (4, .int x4)] 6 (by decide) rfl dX11_least_52 ?_
            refine sm_aload (Y := mX11_least) (pc := 54) 1 5 rfl dX11_least_54 ?_
            refine gf_RX11_107 (Y := mX11_least) (pc := 56) rfl ((fun S hS => ((ly_slotT hly (sm_inlt hn_15)) S hS).1) _) dX11_least_56 ?_
            refine sm_if_eq (Y := mX11_least) (pc := 59) 70 (by decide) dX11_least_59 (fun hc => ?_) (fun hc => ?_)
            · replace h := h.1 hc
              refine sm_aload_n (Y := mX11_least) (pc := 70) 2 0 rfl rfl dX11_least_70 ?_
              refine sm_iconst (Y := mX11_least) (pc := 71) 2 (by decide) dX11_least_71 ?_
              refine sm_iv_I (Y := mX11_least) (pc := 72) (As := [.int 2]) (a := 0) fX11_error wRX11_103 (lk_0 hly) (by decide) rfl rfl rfl (Nat.le_trans (by decide) hd) (Nat.le_of_ble_eq_true rfl) ⟨Nat.le_refl _, Nat.le_refl _⟩ dX11_least_72 rfl (sm_monoI h (fun r_18 m_17 h => ?_))
              exact sm_iret (Y := mX11_least) (pc := 75) rfl rfl rfl dX11_least_75 ⟨_, rfl, h⟩
            · replace h := h.2 hc
              refine sm_aload (Y := mX11_least) (pc := 62) 0 6 rfl dX11_least_62 ?_
              refine gf_RX11_107 (Y := mX11_least) (pc := 64) rfl ((fun S hS => ((ly_slotT hly (sm_inlt hn_16)) S hS).1) _) dX11_least_64 ?_
              refine sm_if_ne (Y := mX11_least) (pc := 67) 76 (by decide) dX11_least_67 (fun hc => ?_) (fun hc => ?_)
              · replace h := h.1 hc
                refine sm_iconst (Y := mX11_least) (pc := 76) 0 (by decide) dX11_least_76 ?_
                refine sm_istore0 (Y := mX11_least) (pc := 77) [(7, .int 0), (6, .ref (sm_B E + (77 + 4 * x2.toNatClampNeg))), (5, .ref (sm_B E + (77 + 4 * x1.toNatClampNeg))), (0, .ref (sm_B E + 0)), (1, .int x1), (2, .int x2), (3, .int x3), (4, .int x4)] 7 (by decide) rfl dX11_least_77 ?_
                refine sm_sub [3, 6, 7, 2, 1, 0] rfl ?_
                exact h
              · replace h := h.2 hc
                refine sm_aload_n (Y := mX11_least) (pc := 70) 2 0 rfl rfl dX11_least_70 ?_
                refine sm_iconst (Y := mX11_least) (pc := 71) 2 (by decide) dX11_least_71 ?_
                refine sm_iv_I (Y := mX11_least) (pc := 72) (As := [.int 2]) (a := 0) fX11_error wRX11_103 (lk_0 hly) (by decide) rfl rfl rfl (Nat.le_trans (by decide) hd) (Nat.le_of_ble_eq_true rfl) ⟨Nat.le_refl _, Nat.le_refl _⟩ dX11_least_72 rfl (sm_monoI h (fun r_21 m_20 h => ?_))
                exact sm_iret (Y := mX11_least) (pc := 75) rfl rfl rfl dX11_least_75 ⟨_, rfl, h⟩
          · replace h := h.2 hc
            refine sm_aload_n (Y := mX11_least) (pc := 32) 0 0 rfl rfl dX11_least_32 ?_
            refine sm_iconst (Y := mX11_least) (pc := 33) 1 (by decide) dX11_least_33 ?_
            refine sm_iv_I (Y := mX11_least) (pc := 34) (As := [.int 1]) (a := 0) fX11_error wRX11_103 (lk_0 hly) (by decide) rfl rfl rfl (Nat.le_trans (by decide) hd) (Nat.le_of_ble_eq_true rfl) ⟨Nat.le_refl _, Nat.le_refl _⟩ dX11_least_34 rfl (sm_monoI h (fun r_23 m_22 h => ?_))
            exact sm_iret (Y := mX11_least) (pc := 37) rfl rfl rfl dX11_least_37 ⟨_, rfl, h⟩
abbrev mX11_link : sm_Y := (yX11_link, cX11_link, 5, (some FieldType.int))
theorem fX11_link : sm_mi mX11_link RX11 3 := ⟨sm_in 724 (by decide +kernel) (by decide +kernel), sm_in 722 (by decide +kernel) (by decide +kernel), sm_in 723 (by decide +kernel) (by decide +kernel), sm_in 82 (by decide +kernel) (by decide +kernel), rfl, ⟨by decide +kernel, by decide +kernel, by decide +kernel⟩, by decide⟩
theorem dX11_link_0 : decode cX11_link 0 = .ok (.iload_n 1, 1) := dk_iload_n_1 (by decide +kernel)
theorem dX11_link_1 : decode cX11_link 1 = .ok (.invokestatic 99, 3) := dk_invokestatic 99 (b1 := 0) (b2 := 99) (by decide +kernel) (by decide +kernel) (by decide +kernel) (by decide +kernel)
theorem dX11_link_4 : decode cX11_link 4 = .ok (.ifCond .eq 19, 3) := dk_ifCond_eq 19 (b1 := 0) (b2 := 19) (by decide +kernel) (by decide +kernel) (by decide +kernel) (by decide +kernel)
theorem dX11_link_23 : decode cX11_link 23 = .ok (.aload_n 0, 1) := dk_aload_n_0 (by decide +kernel)
theorem dX11_link_24 : decode cX11_link 24 = .ok (.iconst 1, 1) := dk_iconst_1 (by decide +kernel)
theorem dX11_link_25 : decode cX11_link 25 = .ok (.invokevirtual 103, 3) := dk_invokevirtual 103 (b1 := 0) (b2 := 103) (by decide +kernel) (by decide +kernel) (by decide +kernel) (by decide +kernel)
theorem dX11_link_28 : decode cX11_link 28 = .ok (.ireturn, 1) := dk_ireturn (by decide +kernel)
theorem dX11_link_7 : decode cX11_link 7 = .ok (.iload_n 2, 1) := dk_iload_n_2 (by decide +kernel)
theorem dX11_link_8 : decode cX11_link 8 = .ok (.invokestatic 148, 3) := dk_invokestatic 148 (b1 := 0) (b2 := 148) (by decide +kernel) (by decide +kernel) (by decide +kernel) (by decide +kernel)
theorem dX11_link_11 : decode cX11_link 11 = .ok (.ifCond .eq 12, 3) := dk_ifCond_eq 12 (b1 := 0) (b2 := 12) (by decide +kernel) (by decide +kernel) (by decide +kernel) (by decide +kernel)
theorem dX11_link_14 : decode cX11_link 14 = .ok (.iload_n 3, 1) := dk_iload_n_3 (by decide +kernel)
theorem dX11_link_15 : decode cX11_link 15 = .ok (.ifCond .lt 8, 3) := dk_ifCond_lt 8 (b1 := 0) (b2 := 8) (by decide +kernel) (by decide +kernel) (by decide +kernel) (by decide +kernel)
theorem dX11_link_18 : decode cX11_link 18 = .ok (.iload_n 3, 1) := dk_iload_n_3 (by decide +kernel)
theorem dX11_link_19 : decode cX11_link 19 = .ok (.iconst 4, 1) := dk_iconst_4 (by decide +kernel)
theorem dX11_link_20 : decode cX11_link 20 = .ok (.if_icmp .le 9, 3) := dk_if_icmp_le 9 (b1 := 0) (b2 := 9) (by decide +kernel) (by decide +kernel) (by decide +kernel) (by decide +kernel)
theorem dX11_link_29 : decode cX11_link 29 = .ok (.aload_n 0, 1) := dk_aload_n_0 (by decide +kernel)
theorem dX11_link_30 : decode cX11_link 30 = .ok (.getfield 11, 3) := dk_getfield 11 (b1 := 0) (b2 := 11) (by decide +kernel) (by decide +kernel) (by decide +kernel) (by decide +kernel)
theorem dX11_link_33 : decode cX11_link 33 = .ok (.iload_n 1, 1) := dk_iload_n_1 (by decide +kernel)
theorem dX11_link_34 : decode cX11_link 34 = .ok (.aaload, 1) := dk_aaload (by decide +kernel)
theorem dX11_link_35 : decode cX11_link 35 = .ok (.astore 4, 2) := dk_astore 4 (b := 4) (by decide +kernel) (by decide +kernel) (by decide +kernel)
theorem dX11_link_37 : decode cX11_link 37 = .ok (.iload_n 3, 1) := dk_iload_n_3 (by decide +kernel)
theorem dX11_link_38 : decode cX11_link 38 = .ok (.iconst 4, 1) := dk_iconst_4 (by decide +kernel)
theorem dX11_link_39 : decode cX11_link 39 = .ok (.if_icmp .ne 24, 3) := dk_if_icmp_ne 24 (b1 := 0) (b2 := 24) (by decide +kernel) (by decide +kernel) (by decide +kernel) (by decide +kernel)
theorem dX11_link_63 : decode cX11_link 63 = .ok (.aload_n 0, 1) := dk_aload_n_0 (by decide +kernel)
theorem dX11_link_64 : decode cX11_link 64 = .ok (.getfield 42, 3) := dk_getfield 42 (b1 := 0) (b2 := 42) (by decide +kernel) (by decide +kernel) (by decide +kernel) (by decide +kernel)
theorem dX11_link_67 : decode cX11_link 67 = .ok (.aload 4, 2) := dk_aload 4 (b := 4) (by decide +kernel) (by decide +kernel) (by decide +kernel)
theorem dX11_link_69 : decode cX11_link 69 = .ok (.iload_n 2, 1) := dk_iload_n_2 (by decide +kernel)
theorem wRX11_222 : Cond.methodLink RX11 222 yX2_draw ∈ sm_T := sm_in 726 (by decide +kernel) (by decide +kernel)
theorem dX11_link_70 : decode cX11_link 70 = .ok (.invokevirtual 222, 3) := dk_invokevirtual 222 (b1 := 0) (b2 := 222) (by decide +kernel) (by decide +kernel) (by decide +kernel) (by decide +kernel)
theorem dX11_link_73 : decode cX11_link 73 = .ok (.iload_n 3, 1) := dk_iload_n_3 (by decide +kernel)
theorem dX11_link_74 : decode cX11_link 74 = .ok (.tableswitch 50 0 2 #[26, 34, 42], 26) := by decide +kernel
theorem dX11_link_100 : decode cX11_link 100 = .ok (.aload_n 0, 1) := dk_aload_n_0 (by decide +kernel)
theorem dX11_link_101 : decode cX11_link 101 = .ok (.getfield 42, 3) := dk_getfield 42 (b1 := 0) (b2 := 42) (by decide +kernel) (by decide +kernel) (by decide +kernel) (by decide +kernel)
theorem dX11_link_104 : decode cX11_link 104 = .ok (.getfield 226, 3) := dk_getfield 226 (b1 := 0) (b2 := 226) (by decide +kernel) (by decide +kernel) (by decide +kernel) (by decide +kernel)
theorem dX11_link_107 : decode cX11_link 107 = .ok (.ireturn, 1) := dk_ireturn (by decide +kernel)
theorem dX11_link_108 : decode cX11_link 108 = .ok (.aload_n 0, 1) := dk_aload_n_0 (by decide +kernel)
theorem dX11_link_109 : decode cX11_link 109 = .ok (.getfield 42, 3) := dk_getfield 42 (b1 := 0) (b2 := 42) (by decide +kernel) (by decide +kernel) (by decide +kernel) (by decide +kernel)
theorem dX11_link_112 : decode cX11_link 112 = .ok (.getfield 229, 3) := dk_getfield 229 (b1 := 0) (b2 := 229) (by decide +kernel) (by decide +kernel) (by decide +kernel) (by decide +kernel)
theorem dX11_link_115 : decode cX11_link 115 = .ok (.ireturn, 1) := dk_ireturn (by decide +kernel)
theorem dX11_link_116 : decode cX11_link 116 = .ok (.aload_n 0, 1) := dk_aload_n_0 (by decide +kernel)
theorem dX11_link_117 : decode cX11_link 117 = .ok (.getfield 42, 3) := dk_getfield 42 (b1 := 0) (b2 := 42) (by decide +kernel) (by decide +kernel) (by decide +kernel) (by decide +kernel)
theorem wRX11_232 : Cond.methodLink RX11 232 yX2_arcs ∈ sm_T := sm_in 779 (by decide +kernel) (by decide +kernel)
theorem dX11_link_120 : decode cX11_link 120 = .ok (.invokevirtual 232, 3) := dk_invokevirtual 232 (b1 := 0) (b2 := 232) (by decide +kernel) (by decide +kernel) (by decide +kernel) (by decide +kernel)
theorem dX11_link_123 : decode cX11_link 123 = .ok (.ireturn, 1) := dk_ireturn (by decide +kernel)
theorem dX11_link_124 : decode cX11_link 124 = .ok (.aload_n 0, 1) := dk_aload_n_0 (by decide +kernel)
theorem dX11_link_125 : decode cX11_link 125 = .ok (.getfield 42, 3) := dk_getfield 42 (b1 := 0) (b2 := 42) (by decide +kernel) (by decide +kernel) (by decide +kernel) (by decide +kernel)
theorem wRX11_235 : Cond.methodLink RX11 235 yX2_writhe ∈ sm_T := sm_in 796 (by decide +kernel) (by decide +kernel)
theorem dX11_link_128 : decode cX11_link 128 = .ok (.invokevirtual 235, 3) := dk_invokevirtual 235 (b1 := 0) (b2 := 235) (by decide +kernel) (by decide +kernel) (by decide +kernel) (by decide +kernel)
theorem dX11_link_131 : decode cX11_link 131 = .ok (.ireturn, 1) := dk_ireturn (by decide +kernel)
theorem dX11_link_42 : decode cX11_link 42 = .ok (.iload_n 2, 1) := dk_iload_n_2 (by decide +kernel)
theorem dX11_link_43 : decode cX11_link 43 = .ok (.ifCond .ne 11, 3) := dk_ifCond_ne 11 (b1 := 0) (b2 := 11) (by decide +kernel) (by decide +kernel) (by decide +kernel) (by decide +kernel)
theorem dX11_link_54 : decode cX11_link 54 = .ok (.aload 4, 2) := dk_aload 4 (b := 4) (by decide +kernel) (by decide +kernel) (by decide +kernel)
theorem dX11_link_56 : decode cX11_link 56 = .ok (.getfield 126, 3) := dk_getfield 126 (b1 := 0) (b2 := 126) (by decide +kernel) (by decide +kernel) (by decide +kernel) (by decide +kernel)
theorem wRX11_217 : Cond.methodLink RX11 217 yJ9_abs_0f7a4 ∈ sm_T := sm_in 725 (by decide +kernel) (by decide +kernel)
theorem dX11_link_59 : decode cX11_link 59 = .ok (.invokestatic 217, 3) := dk_invokestatic 217 (b1 := 0) (b2 := 217) (by decide +kernel) (by decide +kernel) (by decide +kernel) (by decide +kernel)
theorem dX11_link_62 : decode cX11_link 62 = .ok (.ireturn, 1) := dk_ireturn (by decide +kernel)
theorem dX11_link_46 : decode cX11_link 46 = .ok (.aload 4, 2) := dk_aload 4 (b := 4) (by decide +kernel) (by decide +kernel) (by decide +kernel)
theorem dX11_link_48 : decode cX11_link 48 = .ok (.getfield 123, 3) := dk_getfield 123 (b1 := 0) (b2 := 123) (by decide +kernel) (by decide +kernel) (by decide +kernel) (by decide +kernel)
theorem dX11_link_51 : decode cX11_link 51 = .ok (.goto 8, 3) := dk_goto 8 (b1 := 0) (b2 := 8) (by decide +kernel) (by decide +kernel) (by decide +kernel) (by decide +kernel)
set_option maxRecDepth 20000 in
theorem vX11_link_0 {E : sm_E} {L : sm_S → Prop} {d : Nat} {x1 : Int32} {x2 : Int32} {x3 : Int32}  {m : sm_M} {Q : Int32 → sm_M → Prop} (hly : ∀ S, L S → ly S) (hd : 6 ≤ d) 
  (h : sm_callI E L mX11_isSlot 1 0 0 [.int x1] m (fun r_2 m_1 =>
   (r_2 = 0 →
      sm_callI E L mX11_error 1 0 0 [.ref (sm_B E + 0), .int 1] m_1 (fun r_4 m_3 =>
      Q r_4 m_3)) ∧
   (¬ r_2 = 0 →
      sm_callI E L mX11_isChoice 1 0 0 [.int x2] m_1 (fun r_6 m_5 =>
      (r_6 = 0 →
         sm_callI E L mX11_error 1 0 0 [.ref (sm_B E + 0), .int 1] m_5 (fun r_8 m_7 =>
         Q r_8 m_7)) ∧
      (¬ r_6 = 0 →
         (x3 < 0 →
            sm_callI E L mX11_error 1 0 0 [.ref (sm_B E + 0), .int 1] m_5 (fun r_10 m_9 =>
            Q r_10 m_9)) ∧
         (¬ x3 < 0 →
            (x3 ≤ 4 →
               (vp_in x1 6) ∧ (¬ x3 = 4 →
                  sm_callV E L mX2_draw 5 0 0 [.ref (sm_B E + 16), .ref (sm_B E + (77 + 4 * x1.toNatClampNeg)), .int x2] m_5 (fun m_12 =>
                  (x3 = 0 →
                     Q (m_12.1 16 11) m_12) ∧
                  (x3 = 1 →
                     Q (m_12.1 16 12) m_12) ∧
                  (x3 = 2 →
                     sm_callI E L mX2_arcs 3 0 0 [.ref (sm_B E + 16)] m_12 (fun r_14 m_13 =>
                     Q r_14 m_13)) ∧
                  ((¬ x3 = 0 ∧ ¬ x3 = 1 ∧ ¬ x3 = 2) →
                     sm_callI E L mX2_writhe 2 0 0 [.ref (sm_B E + 16)] m_12 (fun r_16 m_15 =>
                  Q r_16 m_15)))) ∧
               (x3 = 4 →
                  (¬ x2 = 0 →
                     sm_callI E L mJ9_abs_0f7a4 1 0 0 [.int (m_5.1 (77 + 4 * x1.toNatClampNeg) 6)] m_5 (fun r_18 m_17 =>
                     Q r_18 m_17)) ∧
                  (x2 = 0 →
                     sm_callI E L mJ9_abs_0f7a4 1 0 0 [.int (m_5.1 (77 + 4 * x1.toNatClampNeg) 5)] m_5 (fun r_20 m_19 =>
                     Q r_20 m_19)))) ∧
            (¬ x3 ≤ 4 →
               sm_callI E L mX11_error 1 0 0 [.ref (sm_B E + 0), .int 1] m_5 (fun r_22 m_21 =>
               Q r_22 m_21)))))))) :
  sm_callI E L mX11_link d 0 0 [.ref (sm_B E + 0), .int x1, .int x2, .int x3] m Q := by
  refine sm_enter (by decide +kernel) (by simp [lg_sl, Value.category]) ?_
  refine sm_iload_n (Y := mX11_link) (pc := 0) 1 1 rfl rfl dX11_link_0 ?_
  refine sm_is_I (Y := mX11_link) (pc := 1) (As := [.int x1]) fX11_isSlot wRX11_99 rfl (Nat.le_trans (by decide) hd) (Nat.le_of_ble_eq_true rfl) ⟨Nat.le_refl _, Nat.le_refl _⟩ dX11_link_1 rfl (sm_monoI h (fun r_2 m_1 h => ?_))
  refine sm_if_eq (Y := mX11_link) (pc := 4) 23 (by decide) dX11_link_4 (fun hc => ?_) (fun hc => ?_)
  · replace h := h.1 hc
    refine sm_aload_n (Y := mX11_link) (pc := 23) 0 0 rfl rfl dX11_link_23 ?_
    refine sm_iconst (Y := mX11_link) (pc := 24) 1 (by decide) dX11_link_24 ?_
    refine sm_iv_I (Y := mX11_link) (pc := 25) (As := [.int 1]) (a := 0) fX11_error wRX11_103 (lk_0 hly) (by decide) rfl rfl rfl (Nat.le_trans (by decide) hd) (Nat.le_of_ble_eq_true rfl) ⟨Nat.le_refl _, Nat.le_refl _⟩ dX11_link_25 rfl (sm_monoI h (fun r_4 m_3 h => ?_))
    exact sm_iret (Y := mX11_link) (pc := 28) rfl rfl rfl dX11_link_28 ⟨_, rfl, h⟩
  · replace h := h.2 hc
    refine sm_iload_n (Y := mX11_link) (pc := 7) 2 2 rfl rfl dX11_link_7 ?_
    refine sm_is_I (Y := mX11_link) (pc := 8) (As := [.int x2]) fX11_isChoice wRX11_148 rfl (Nat.le_trans (by decide) hd) (Nat.le_of_ble_eq_true rfl) ⟨Nat.le_refl _, Nat.le_refl _⟩ dX11_link_8 rfl (sm_monoI h (fun r_6 m_5 h => ?_))
    refine sm_if_eq (Y := mX11_link) (pc := 11) 23 (by decide) dX11_link_11 (fun hc => ?_) (fun hc => ?_)
    · replace h := h.1 hc
      refine sm_aload_n (Y := mX11_link) (pc := 23) 0 0 rfl rfl dX11_link_23 ?_
      refine sm_iconst (Y := mX11_link) (pc := 24) 1 (by decide) dX11_link_24 ?_
      refine sm_iv_I (Y := mX11_link) (pc := 25) (As := [.int 1]) (a := 0) fX11_error wRX11_103 (lk_0 hly) (by decide) rfl rfl rfl (Nat.le_trans (by decide) hd) (Nat.le_of_ble_eq_true rfl) ⟨Nat.le_refl _, Nat.le_refl _⟩ dX11_link_25 rfl (sm_monoI h (fun r_8 m_7 h => ?_))
      exact sm_iret (Y := mX11_link) (pc := 28) rfl rfl rfl dX11_link_28 ⟨_, rfl, h⟩
    · replace h := h.2 hc
      refine sm_iload_n (Y := mX11_link) (pc := 14) 3 3 rfl rfl dX11_link_14 ?_
      refine sm_if_lt (Y := mX11_link) (pc := 15) 23 (by decide) dX11_link_15 (fun hc => ?_) (fun hc => ?_)
      · replace h := h.1 hc
        refine sm_aload_n (Y := mX11_link) (pc := 23) 0 0 rfl rfl dX11_link_23 ?_
        refine sm_iconst (Y := mX11_link) (pc := 24) 1 (by decide) dX11_link_24 ?_
        refine sm_iv_I (Y := mX11_link) (pc := 25) (As := [.int 1]) (a := 0) fX11_error wRX11_103 (lk_0 hly) (by decide) rfl rfl rfl (Nat.le_trans (by decide) hd) (Nat.le_of_ble_eq_true rfl) ⟨Nat.le_refl _, Nat.le_refl _⟩ dX11_link_25 rfl (sm_monoI h (fun r_10 m_9 h => ?_))
        exact sm_iret (Y := mX11_link) (pc := 28) rfl rfl rfl dX11_link_28 ⟨_, rfl, h⟩
      · replace h := h.2 hc
        refine sm_iload_n (Y := mX11_link) (pc := 18) 3 3 rfl rfl dX11_link_18 ?_
        refine sm_iconst (Y := mX11_link) (pc := 19) 4 (by decide) dX11_link_19 ?_
        refine sm_icmp_le (Y := mX11_link) (pc := 20) 29 (by decide) dX11_link_20 (fun hc => ?_) (fun hc => ?_)
        · replace h := h.1 hc
          refine sm_aload_n (Y := mX11_link) (pc := 29) 0 0 rfl rfl dX11_link_29 ?_
          refine gf_RX11_11 (Y := mX11_link) (pc := 30) (b := 1) rfl ((lk_0 hly) _) (lf_0_0 hly _) dX11_link_30 ?_
          refine sm_iload_n (Y := mX11_link) (pc := 33) 1 1 rfl rfl dX11_link_33 ?_
          obtain ⟨hn_11, h⟩ := h
          refine sm_aaldG (Y := mX11_link) (pc := 34) (b := (77 + 4 * x1.toNatClampNeg)) (la_1 hly _) hn_11 (ly_slotR hly (sm_inlt hn_11) _) dX11_link_34 ?_
          refine sm_astore (Y := mX11_link) (pc := 35) [(4, .ref (sm_B E + (77 + 4 * x1.toNatClampNeg))), (0, .ref (sm_B E + 0)), (1, .int x1), (2, .int x2), (3, .int x3)] 4 (by decide) rfl dX11_link_35 ?_
          refine sm_iload_n (Y := mX11_link) (pc := 37) 4 3 rfl rfl dX11_link_37 ?_
          refine sm_iconst (Y := mX11_link) (pc := 38) 4 (by decide) dX11_link_38 ?_
          refine sm_icmp_ne (Y := mX11_link) (pc := 39) 63 (by decide) dX11_link_39 (fun hc => ?_) (fun hc => ?_)
          · replace h := h.1 hc
            refine sm_aload_n (Y := mX11_link) (pc := 63) 1 0 rfl rfl dX11_link_63 ?_
            refine gf_RX11_42 (Y := mX11_link) (pc := 64) (b := 16) rfl ((lk_0 hly) _) (lf_0_5 hly _) dX11_link_64 ?_
            refine sm_aload (Y := mX11_link) (pc := 67) 0 4 rfl dX11_link_67 ?_
            refine sm_iload_n (Y := mX11_link) (pc := 69) 3 2 rfl rfl dX11_link_69 ?_
            refine sm_iv_V (Y := mX11_link) (pc := 70) (As := [.ref (sm_B E + (77 + 4 * x1.toNatClampNeg)), .int x2]) (a := 16) fX2_draw wRX11_222 (lk_16 hly) (by decide) rfl rfl rfl (Nat.le_trans (by decide) hd) (Nat.le_of_ble_eq_true rfl) ⟨Nat.le_refl _, Nat.le_refl _⟩ dX11_link_70 rfl (sm_monoV h (fun m_12 h => ?_))
            refine sm_iload_n (Y := mX11_link) (pc := 73) 4 3 rfl rfl dX11_link_73 ?_
            by_cases hs74_0 : x3 = 0
            · refine sm_tableIn (Y := mX11_link) (pc := 74) 100 (by rw [hs74_0]; decide) (by rw [hs74_0]; decide) (by first | (rw [hs74_0]; done) | (rw [hs74_0]; rfl)) (by decide) dX11_link_74 ?_
              replace h := h.1 hs74_0
              refine sm_aload_n (Y := mX11_link) (pc := 100) 1 0 rfl rfl dX11_link_100 ?_
              refine gf_RX11_42 (Y := mX11_link) (pc := 101) (b := 16) rfl ((lk_0 hly) _) (lf_0_5 hly _) dX11_link_101 ?_
              refine gf_RX11_226 (Y := mX11_link) (pc := 104) rfl ((lk_16 hly) _) dX11_link_104 ?_
              exact sm_iret (Y := mX11_link) (pc := 107) rfl rfl rfl dX11_link_107 ⟨_, rfl, h⟩
            replace h := h.2
            by_cases hs74_1 : x3 = 1
            · refine sm_tableIn (Y := mX11_link) (pc := 74) 108 (by rw [hs74_1]; decide) (by rw [hs74_1]; decide) (by first | (rw [hs74_1]; done) | (rw [hs74_1]; rfl)) (by decide) dX11_link_74 ?_
              replace h := h.1 hs74_1
              refine sm_aload_n (Y := mX11_link) (pc := 108) 1 0 rfl rfl dX11_link_108 ?_
              refine gf_RX11_42 (Y := mX11_link) (pc := 109) (b := 16) rfl ((lk_0 hly) _) (lf_0_5 hly _) dX11_link_109 ?_
              refine gf_RX11_229 (Y := mX11_link) (pc := 112) rfl ((lk_16 hly) _) dX11_link_112 ?_
              exact sm_iret (Y := mX11_link) (pc := 115) rfl rfl rfl dX11_link_115 ⟨_, rfl, h⟩
            replace h := h.2
            by_cases hs74_2 : x3 = 2
            · refine sm_tableIn (Y := mX11_link) (pc := 74) 116 (by rw [hs74_2]; decide) (by rw [hs74_2]; decide) (by first | (rw [hs74_2]; done) | (rw [hs74_2]; rfl)) (by decide) dX11_link_74 ?_
              replace h := h.1 hs74_2
              refine sm_aload_n (Y := mX11_link) (pc := 116) 1 0 rfl rfl dX11_link_116 ?_
              refine gf_RX11_42 (Y := mX11_link) (pc := 117) (b := 16) rfl ((lk_0 hly) _) (lf_0_5 hly _) dX11_link_117 ?_
              refine sm_iv_I (Y := mX11_link) (pc := 120) (As := []) (a := 16) fX2_arcs wRX11_232 (lk_16 hly) (by decide) rfl rfl rfl (Nat.le_trans (by decide) hd) (Nat.le_of_ble_eq_true rfl) ⟨Nat.le_refl _, Nat.le_refl _⟩ dX11_link_120 rfl (sm_monoI h (fun r_14 m_13 h => ?_))
              exact sm_iret (Y := mX11_link) (pc := 123) rfl rfl rfl dX11_link_123 ⟨_, rfl, h⟩
            replace h := h.2
            refine sm_tableOut (Y := mX11_link) (pc := 74) 124 (sm_tout (lo := 0) 3 (fun j hj => by
                match j, hj with
                | 0, _ => exact lv_neT hs74_0 (by decide)
                | 1, _ => exact lv_neT hs74_1 (by decide)
                | 2, _ => exact lv_neT hs74_2 (by decide)
                | j + 3, hj => exact absurd hj (by omega))) (by decide) dX11_link_74 ?_
            replace h := h ⟨hs74_0, hs74_1, hs74_2⟩
            refine sm_aload_n (Y := mX11_link) (pc := 124) 1 0 rfl rfl dX11_link_124 ?_
            refine gf_RX11_42 (Y := mX11_link) (pc := 125) (b := 16) rfl ((lk_0 hly) _) (lf_0_5 hly _) dX11_link_125 ?_
            refine sm_iv_I (Y := mX11_link) (pc := 128) (As := []) (a := 16) fX2_writhe wRX11_235 (lk_16 hly) (by decide) rfl rfl rfl (Nat.le_trans (by decide) hd) (Nat.le_of_ble_eq_true rfl) ⟨Nat.le_refl _, Nat.le_refl _⟩ dX11_link_128 rfl (sm_monoI h (fun r_16 m_15 h => ?_))
            exact sm_iret (Y := mX11_link) (pc := 131) rfl rfl rfl dX11_link_131 ⟨_, rfl, h⟩
          · replace h := h.2 hc
            refine sm_iload_n (Y := mX11_link) (pc := 42) 3 2 rfl rfl dX11_link_42 ?_
            refine sm_if_ne (Y := mX11_link) (pc := 43) 54 (by decide) dX11_link_43 (fun hc => ?_) (fun hc => ?_)
            · replace h := h.1 hc
              refine sm_aload (Y := mX11_link) (pc := 54) 0 4 rfl dX11_link_54 ?_
              refine gf_RX11_126 (Y := mX11_link) (pc := 56) rfl ((fun S hS => ((ly_slotT hly (sm_inlt hn_11)) S hS).1) _) dX11_link_56 ?_
              refine sm_is_I (Y := mX11_link) (pc := 59) (As := [.int (m_5.1 (77 + 4 * x1.toNatClampNeg) 6)]) fJ9_abs_0f7a4 wRX11_217 rfl (Nat.le_trans (by decide) hd) (Nat.le_of_ble_eq_true rfl) ⟨Nat.le_refl _, Nat.le_refl _⟩ dX11_link_59 rfl (sm_monoI h (fun r_18 m_17 h => ?_))
              exact sm_iret (Y := mX11_link) (pc := 62) rfl rfl rfl dX11_link_62 ⟨_, rfl, h⟩
            · replace h := h.2 hc
              refine sm_aload (Y := mX11_link) (pc := 46) 0 4 rfl dX11_link_46 ?_
              refine gf_RX11_123 (Y := mX11_link) (pc := 48) rfl ((fun S hS => ((ly_slotT hly (sm_inlt hn_11)) S hS).1) _) dX11_link_48 ?_
              refine sm_goto (Y := mX11_link) (pc := 51) 59 (by decide) dX11_link_51 ?_
              refine sm_is_I (Y := mX11_link) (pc := 59) (As := [.int (m_5.1 (77 + 4 * x1.toNatClampNeg) 5)]) fJ9_abs_0f7a4 wRX11_217 rfl (Nat.le_trans (by decide) hd) (Nat.le_of_ble_eq_true rfl) ⟨Nat.le_refl _, Nat.le_refl _⟩ dX11_link_59 rfl (sm_monoI h (fun r_20 m_19 h => ?_))
              exact sm_iret (Y := mX11_link) (pc := 62) rfl rfl rfl dX11_link_62 ⟨_, rfl, h⟩
        · replace h := h.2 hc
          refine sm_aload_n (Y := mX11_link) (pc := 23) 0 0 rfl rfl dX11_link_23 ?_
          refine sm_iconst (Y := mX11_link) (pc := 24) 1 (by decide) dX11_link_24 ?_
          refine sm_iv_I (Y := mX11_link) (pc := 25) (As := [.int 1]) (a := 0) fX11_error wRX11_103 (lk_0 hly) (by decide) rfl rfl rfl (Nat.le_trans (by decide) hd) (Nat.le_of_ble_eq_true rfl) ⟨Nat.le_refl _, Nat.le_refl _⟩ dX11_link_25 rfl (sm_monoI h (fun r_22 m_21 h => ?_))
          exact sm_iret (Y := mX11_link) (pc := 28) rfl rfl rfl dX11_link_28 ⟨_, rfl, h⟩
abbrev mX11_crossing : sm_Y := (yX11_crossing, cX11_crossing, 6, (some FieldType.int))
theorem fX11_crossing : sm_mi mX11_crossing RX11 4 := ⟨sm_in 807 (by decide +kernel) (by decide +kernel), sm_in 805 (by decide +kernel) (by decide +kernel), sm_in 806 (by decide +kernel) (by decide +kernel), sm_in 82 (by decide +kernel) (by decide +kernel), rfl, ⟨by decide +kernel, by decide +kernel, by decide +kernel⟩, by decide⟩
theorem dX11_crossing_0 : decode cX11_crossing 0 = .ok (.iload_n 1, 1) := dk_iload_n_1 (by decide +kernel)
theorem dX11_crossing_1 : decode cX11_crossing 1 = .ok (.invokestatic 99, 3) := dk_invokestatic 99 (b1 := 0) (b2 := 99) (by decide +kernel) (by decide +kernel) (by decide +kernel) (by decide +kernel)
theorem dX11_crossing_4 : decode cX11_crossing 4 = .ok (.ifCond .eq 21, 3) := dk_ifCond_eq 21 (b1 := 0) (b2 := 21) (by decide +kernel) (by decide +kernel) (by decide +kernel) (by decide +kernel)
theorem dX11_crossing_25 : decode cX11_crossing 25 = .ok (.aload_n 0, 1) := dk_aload_n_0 (by decide +kernel)
theorem dX11_crossing_26 : decode cX11_crossing 26 = .ok (.iconst 1, 1) := dk_iconst_1 (by decide +kernel)
theorem dX11_crossing_27 : decode cX11_crossing 27 = .ok (.invokevirtual 103, 3) := dk_invokevirtual 103 (b1 := 0) (b2 := 103) (by decide +kernel) (by decide +kernel) (by decide +kernel) (by decide +kernel)
theorem dX11_crossing_30 : decode cX11_crossing 30 = .ok (.ireturn, 1) := dk_ireturn (by decide +kernel)
theorem dX11_crossing_7 : decode cX11_crossing 7 = .ok (.iload_n 2, 1) := dk_iload_n_2 (by decide +kernel)
theorem dX11_crossing_8 : decode cX11_crossing 8 = .ok (.invokestatic 148, 3) := dk_invokestatic 148 (b1 := 0) (b2 := 148) (by decide +kernel) (by decide +kernel) (by decide +kernel) (by decide +kernel)
theorem dX11_crossing_11 : decode cX11_crossing 11 = .ok (.ifCond .eq 14, 3) := dk_ifCond_eq 14 (b1 := 0) (b2 := 14) (by decide +kernel) (by decide +kernel) (by decide +kernel) (by decide +kernel)
theorem dX11_crossing_14 : decode cX11_crossing 14 = .ok (.iload 4, 2) := dk_iload 4 (b := 4) (by decide +kernel) (by decide +kernel) (by decide +kernel)
theorem dX11_crossing_16 : decode cX11_crossing 16 = .ok (.ifCond .lt 9, 3) := dk_ifCond_lt 9 (b1 := 0) (b2 := 9) (by decide +kernel) (by decide +kernel) (by decide +kernel) (by decide +kernel)
theorem dX11_crossing_19 : decode cX11_crossing 19 = .ok (.iload 4, 2) := dk_iload 4 (b := 4) (by decide +kernel) (by decide +kernel) (by decide +kernel)
theorem dX11_crossing_21 : decode cX11_crossing 21 = .ok (.iconst 2, 1) := dk_iconst_2 (by decide +kernel)
theorem dX11_crossing_22 : decode cX11_crossing 22 = .ok (.if_icmp .le 9, 3) := dk_if_icmp_le 9 (b1 := 0) (b2 := 9) (by decide +kernel) (by decide +kernel) (by decide +kernel) (by decide +kernel)
theorem dX11_crossing_31 : decode cX11_crossing 31 = .ok (.aload_n 0, 1) := dk_aload_n_0 (by decide +kernel)
theorem dX11_crossing_32 : decode cX11_crossing 32 = .ok (.getfield 11, 3) := dk_getfield 11 (b1 := 0) (b2 := 11) (by decide +kernel) (by decide +kernel) (by decide +kernel) (by decide +kernel)
theorem dX11_crossing_35 : decode cX11_crossing 35 = .ok (.iload_n 1, 1) := dk_iload_n_1 (by decide +kernel)
theorem dX11_crossing_36 : decode cX11_crossing 36 = .ok (.aaload, 1) := dk_aaload (by decide +kernel)
theorem dX11_crossing_37 : decode cX11_crossing 37 = .ok (.astore 5, 2) := dk_astore 5 (b := 5) (by decide +kernel) (by decide +kernel) (by decide +kernel)
theorem dX11_crossing_39 : decode cX11_crossing 39 = .ok (.iload_n 3, 1) := dk_iload_n_3 (by decide +kernel)
theorem dX11_crossing_40 : decode cX11_crossing 40 = .ok (.ifCond .lt 12, 3) := dk_ifCond_lt 12 (b1 := 0) (b2 := 12) (by decide +kernel) (by decide +kernel) (by decide +kernel) (by decide +kernel)
theorem dX11_crossing_52 : decode cX11_crossing 52 = .ok (.aload_n 0, 1) := dk_aload_n_0 (by decide +kernel)
theorem dX11_crossing_53 : decode cX11_crossing 53 = .ok (.iconst 1, 1) := dk_iconst_1 (by decide +kernel)
theorem dX11_crossing_54 : decode cX11_crossing 54 = .ok (.invokevirtual 103, 3) := dk_invokevirtual 103 (b1 := 0) (b2 := 103) (by decide +kernel) (by decide +kernel) (by decide +kernel) (by decide +kernel)
theorem dX11_crossing_57 : decode cX11_crossing 57 = .ok (.ireturn, 1) := dk_ireturn (by decide +kernel)
theorem dX11_crossing_43 : decode cX11_crossing 43 = .ok (.iload_n 3, 1) := dk_iload_n_3 (by decide +kernel)
theorem dX11_crossing_44 : decode cX11_crossing 44 = .ok (.aload 5, 2) := dk_aload 5 (b := 5) (by decide +kernel) (by decide +kernel) (by decide +kernel)
theorem dX11_crossing_46 : decode cX11_crossing 46 = .ok (.getfield 114, 3) := dk_getfield 114 (b1 := 0) (b2 := 114) (by decide +kernel) (by decide +kernel) (by decide +kernel) (by decide +kernel)
theorem dX11_crossing_49 : decode cX11_crossing 49 = .ok (.if_icmp .lt 9, 3) := dk_if_icmp_lt 9 (b1 := 0) (b2 := 9) (by decide +kernel) (by decide +kernel) (by decide +kernel) (by decide +kernel)
theorem dX11_crossing_58 : decode cX11_crossing 58 = .ok (.aload_n 0, 1) := dk_aload_n_0 (by decide +kernel)
theorem dX11_crossing_59 : decode cX11_crossing 59 = .ok (.getfield 42, 3) := dk_getfield 42 (b1 := 0) (b2 := 42) (by decide +kernel) (by decide +kernel) (by decide +kernel) (by decide +kernel)
theorem dX11_crossing_62 : decode cX11_crossing 62 = .ok (.aload 5, 2) := dk_aload 5 (b := 5) (by decide +kernel) (by decide +kernel) (by decide +kernel)
theorem dX11_crossing_64 : decode cX11_crossing 64 = .ok (.iload_n 2, 1) := dk_iload_n_2 (by decide +kernel)
theorem dX11_crossing_65 : decode cX11_crossing 65 = .ok (.invokevirtual 222, 3) := dk_invokevirtual 222 (b1 := 0) (b2 := 222) (by decide +kernel) (by decide +kernel) (by decide +kernel) (by decide +kernel)
theorem dX11_crossing_68 : decode cX11_crossing 68 = .ok (.iload 4, 2) := dk_iload 4 (b := 4) (by decide +kernel) (by decide +kernel) (by decide +kernel)
theorem dX11_crossing_70 : decode cX11_crossing 70 = .ok (.lookupswitch 44 #[(0, 26), (1, 35)], 26) := by decide +kernel
theorem dX11_crossing_96 : decode cX11_crossing 96 = .ok (.aload_n 0, 1) := dk_aload_n_0 (by decide +kernel)
theorem dX11_crossing_97 : decode cX11_crossing 97 = .ok (.getfield 42, 3) := dk_getfield 42 (b1 := 0) (b2 := 42) (by decide +kernel) (by decide +kernel) (by decide +kernel) (by decide +kernel)
theorem dX11_crossing_100 : decode cX11_crossing 100 = .ok (.iload_n 3, 1) := dk_iload_n_3 (by decide +kernel)
theorem wRX11_238 : Cond.methodLink RX11 238 yX2_overAt ∈ sm_T := sm_in 808 (by decide +kernel) (by decide +kernel)
theorem dX11_crossing_101 : decode cX11_crossing 101 = .ok (.invokevirtual 238, 3) := dk_invokevirtual 238 (b1 := 0) (b2 := 238) (by decide +kernel) (by decide +kernel) (by decide +kernel) (by decide +kernel)
theorem dX11_crossing_104 : decode cX11_crossing 104 = .ok (.ireturn, 1) := dk_ireturn (by decide +kernel)
theorem dX11_crossing_105 : decode cX11_crossing 105 = .ok (.aload_n 0, 1) := dk_aload_n_0 (by decide +kernel)
theorem dX11_crossing_106 : decode cX11_crossing 106 = .ok (.getfield 42, 3) := dk_getfield 42 (b1 := 0) (b2 := 42) (by decide +kernel) (by decide +kernel) (by decide +kernel) (by decide +kernel)
theorem dX11_crossing_109 : decode cX11_crossing 109 = .ok (.iload_n 3, 1) := dk_iload_n_3 (by decide +kernel)
theorem wRX11_241 : Cond.methodLink RX11 241 yX2_underAt ∈ sm_T := sm_in 812 (by decide +kernel) (by decide +kernel)
theorem dX11_crossing_110 : decode cX11_crossing 110 = .ok (.invokevirtual 241, 3) := dk_invokevirtual 241 (b1 := 0) (b2 := 241) (by decide +kernel) (by decide +kernel) (by decide +kernel) (by decide +kernel)
theorem dX11_crossing_113 : decode cX11_crossing 113 = .ok (.ireturn, 1) := dk_ireturn (by decide +kernel)
theorem dX11_crossing_114 : decode cX11_crossing 114 = .ok (.aload_n 0, 1) := dk_aload_n_0 (by decide +kernel)
theorem dX11_crossing_115 : decode cX11_crossing 115 = .ok (.getfield 42, 3) := dk_getfield 42 (b1 := 0) (b2 := 42) (by decide +kernel) (by decide +kernel) (by decide +kernel) (by decide +kernel)
theorem dX11_crossing_118 : decode cX11_crossing 118 = .ok (.iload_n 3, 1) := dk_iload_n_3 (by decide +kernel)
theorem wRX11_244 : Cond.methodLink RX11 244 yX2_signAt ∈ sm_T := sm_in 816 (by decide +kernel) (by decide +kernel)
theorem dX11_crossing_119 : decode cX11_crossing 119 = .ok (.invokevirtual 244, 3) := dk_invokevirtual 244 (b1 := 0) (b2 := 244) (by decide +kernel) (by decide +kernel) (by decide +kernel) (by decide +kernel)
theorem dX11_crossing_122 : decode cX11_crossing 122 = .ok (.ireturn, 1) := dk_ireturn (by decide +kernel)
set_option maxRecDepth 20000 in
theorem vX11_crossing_0 {E : sm_E} {L : sm_S → Prop} {d : Nat} {x1 : Int32} {x2 : Int32} {x3 : Int32} {x4 : Int32}  {m : sm_M} {Q : Int32 → sm_M → Prop} (hly : ∀ S, L S → ly S) (hd : 6 ≤ d) 
  (h : sm_callI E L mX11_isSlot 1 0 0 [.int x1] m (fun r_2 m_1 =>
   (r_2 = 0 →
      sm_callI E L mX11_error 1 0 0 [.ref (sm_B E + 0), .int 1] m_1 (fun r_4 m_3 =>
      Q r_4 m_3)) ∧
   (¬ r_2 = 0 →
      sm_callI E L mX11_isChoice 1 0 0 [.int x2] m_1 (fun r_6 m_5 =>
      (r_6 = 0 →
         sm_callI E L mX11_error 1 0 0 [.ref (sm_B E + 0), .int 1] m_5 (fun r_8 m_7 =>
         Q r_8 m_7)) ∧
      (¬ r_6 = 0 →
         (x4 < 0 →
            sm_callI E L mX11_error 1 0 0 [.ref (sm_B E + 0), .int 1] m_5 (fun r_10 m_9 =>
            Q r_10 m_9)) ∧
         (¬ x4 < 0 →
            (x4 ≤ 2 →
               (vp_in x1 6) ∧ (x3 < 0 →
                  sm_callI E L mX11_error 1 0 0 [.ref (sm_B E + 0), .int 1] m_5 (fun r_13 m_12 =>
                  Q r_13 m_12)) ∧
               (¬ x3 < 0 →
                  (x3 < (m_5.1 (77 + 4 * x1.toNatClampNeg) 3) →
                     sm_callV E L mX2_draw 5 0 0 [.ref (sm_B E + 16), .ref (sm_B E + (77 + 4 * x1.toNatClampNeg)), .int x2] m_5 (fun m_14 =>
                     (x4 = 0 →
                        sm_callI E L mX2_overAt 1 0 0 [.ref (sm_B E + 16), .int x3] m_14 (fun r_16 m_15 =>
                        Q r_16 m_15)) ∧
                     (x4 = 1 →
                        sm_callI E L mX2_underAt 1 0 0 [.ref (sm_B E + 16), .int x3] m_14 (fun r_18 m_17 =>
                        Q r_18 m_17)) ∧
                     ((¬ x4 = 0 ∧ ¬ x4 = 1) →
                        sm_callI E L mX2_signAt 1 0 0 [.ref (sm_B E + 16), .int x3] m_14 (fun r_20 m_19 =>
                     Q r_20 m_19)))) ∧
                  (¬ x3 < (m_5.1 (77 + 4 * x1.toNatClampNeg) 3) →
                     sm_callI E L mX11_error 1 0 0 [.ref (sm_B E + 0), .int 1] m_5 (fun r_22 m_21 =>
                     Q r_22 m_21)))) ∧
            (¬ x4 ≤ 2 →
               sm_callI E L mX11_error 1 0 0 [.ref (sm_B E + 0), .int 1] m_5 (fun r_24 m_23 =>
               Q r_24 m_23)))))))) :
  sm_callI E L mX11_crossing d 0 0 [.ref (sm_B E + 0), .int x1, .int x2, .int x3, .int x4] m Q := by
  refine sm_enter (by decide +kernel) (by simp [lg_sl, Value.category]) ?_
  refine sm_iload_n (Y := mX11_crossing) (pc := 0) 1 1 rfl rfl dX11_crossing_0 ?_
  refine sm_is_I (Y := mX11_crossing) (pc := 1) (As := [.int x1]) fX11_isSlot wRX11_99 rfl (Nat.le_trans (by decide) hd) (Nat.le_of_ble_eq_true rfl) ⟨Nat.le_refl _, Nat.le_refl _⟩ dX11_crossing_1 rfl (sm_monoI h (fun r_2 m_1 h => ?_))
  refine sm_if_eq (Y := mX11_crossing) (pc := 4) 25 (by decide) dX11_crossing_4 (fun hc => ?_) (fun hc => ?_)
  · replace h := h.1 hc
    refine sm_aload_n (Y := mX11_crossing) (pc := 25) 0 0 rfl rfl dX11_crossing_25 ?_
    refine sm_iconst (Y := mX11_crossing) (pc := 26) 1 (by decide) dX11_crossing_26 ?_
    refine sm_iv_I (Y := mX11_crossing) (pc := 27) (As := [.int 1]) (a := 0) fX11_error wRX11_103 (lk_0 hly) (by decide) rfl rfl rfl (Nat.le_trans (by decide) hd) (Nat.le_of_ble_eq_true rfl) ⟨Nat.le_refl _, Nat.le_refl _⟩ dX11_crossing_27 rfl (sm_monoI h (fun r_4 m_3 h => ?_))
    exact sm_iret (Y := mX11_crossing) (pc := 30) rfl rfl rfl dX11_crossing_30 ⟨_, rfl, h⟩
  · replace h := h.2 hc
    refine sm_iload_n (Y := mX11_crossing) (pc := 7) 2 2 rfl rfl dX11_crossing_7 ?_
    refine sm_is_I (Y := mX11_crossing) (pc := 8) (As := [.int x2]) fX11_isChoice wRX11_148 rfl (Nat.le_trans (by decide) hd) (Nat.le_of_ble_eq_true rfl) ⟨Nat.le_refl _, Nat.le_refl _⟩ dX11_crossing_8 rfl (sm_monoI h (fun r_6 m_5 h => ?_))
    refine sm_if_eq (Y := mX11_crossing) (pc := 11) 25 (by decide) dX11_crossing_11 (fun hc => ?_) (fun hc => ?_)
    · replace h := h.1 hc
      refine sm_aload_n (Y := mX11_crossing) (pc := 25) 0 0 rfl rfl dX11_crossing_25 ?_
      refine sm_iconst (Y := mX11_crossing) (pc := 26) 1 (by decide) dX11_crossing_26 ?_
      refine sm_iv_I (Y := mX11_crossing) (pc := 27) (As := [.int 1]) (a := 0) fX11_error wRX11_103 (lk_0 hly) (by decide) rfl rfl rfl (Nat.le_trans (by decide) hd) (Nat.le_of_ble_eq_true rfl) ⟨Nat.le_refl _, Nat.le_refl _⟩ dX11_crossing_27 rfl (sm_monoI h (fun r_8 m_7 h => ?_))
      exact sm_iret (Y := mX11_crossing) (pc := 30) rfl rfl rfl dX11_crossing_30 ⟨_, rfl, h⟩
    · replace h := h.2 hc
      refine sm_iload (Y := mX11_crossing) (pc := 14) 4 4 rfl dX11_crossing_14 ?_
      refine sm_if_lt (Y := mX11_crossing) (pc := 16) 25 (by decide) dX11_crossing_16 (fun hc => ?_) (fun hc => ?_)
      · replace h := h.1 hc
        refine sm_aload_n (Y := mX11_crossing) (pc := 25) 0 0 rfl rfl dX11_crossing_25 ?_
        refine sm_iconst (Y := mX11_crossing) (pc := 26) 1 (by decide) dX11_crossing_26 ?_
        refine sm_iv_I (Y := mX11_crossing) (pc := 27) (As := [.int 1]) (a := 0) fX11_error wRX11_103 (lk_0 hly) (by decide) rfl rfl rfl (Nat.le_trans (by decide) hd) (Nat.le_of_ble_eq_true rfl) ⟨Nat.le_refl _, Nat.le_refl _⟩ dX11_crossing_27 rfl (sm_monoI h (fun r_10 m_9 h => ?_))
        exact sm_iret (Y := mX11_crossing) (pc := 30) rfl rfl rfl dX11_crossing_30 ⟨_, rfl, h⟩
      · replace h := h.2 hc
        refine sm_iload (Y := mX11_crossing) (pc := 19) 4 4 rfl dX11_crossing_19 ?_
        refine sm_iconst (Y := mX11_crossing) (pc := 21) 2 (by decide) dX11_crossing_21 ?_
        refine sm_icmp_le (Y := mX11_crossing) (pc := 22) 31 (by decide) dX11_crossing_22 (fun hc => ?_) (fun hc => ?_)
        · replace h := h.1 hc
          refine sm_aload_n (Y := mX11_crossing) (pc := 31) 0 0 rfl rfl dX11_crossing_31 ?_
          refine gf_RX11_11 (Y := mX11_crossing) (pc := 32) (b := 1) rfl ((lk_0 hly) _) (lf_0_0 hly _) dX11_crossing_32 ?_
          refine sm_iload_n (Y := mX11_crossing) (pc := 35) 1 1 rfl rfl dX11_crossing_35 ?_
          obtain ⟨hn_11, h⟩ := h
          refine sm_aaldG (Y := mX11_crossing) (pc := 36) (b := (77 + 4 * x1.toNatClampNeg)) (la_1 hly _) hn_11 (ly_slotR hly (sm_inlt hn_11) _) dX11_crossing_36 ?_
          refine sm_astore (Y := mX11_crossing) (pc := 37) [(5, .ref (sm_B E + (77 + 4 * x1.toNatClampNeg))), (0, .ref (sm_B E + 0)), (1, .int x1), (2, .int x2), (3, .int x3), (4, .int x4)] 5 (by decide) rfl dX11_crossing_37 ?_
          refine sm_iload_n (Y := mX11_crossing) (pc := 39) 4 3 rfl rfl dX11_crossing_39 ?_
          refine sm_if_lt (Y := mX11_crossing) (pc := 40) 52 (by decide) dX11_crossing_40 (fun hc => ?_) (fun hc => ?_)
          · replace h := h.1 hc
            refine sm_aload_n (Y := mX11_crossing) (pc := 52) 1 0 rfl rfl dX11_crossing_52 ?_
            refine sm_iconst (Y := mX11_crossing) (pc := 53) 1 (by decide) dX11_crossing_53 ?_
            refine sm_iv_I (Y := mX11_crossing) (pc := 54) (As := [.int 1]) (a := 0) fX11_error wRX11_103 (lk_0 hly) (by decide) rfl rfl rfl (Nat.le_trans (by decide) hd) (Nat.le_of_ble_eq_true rfl) ⟨Nat.le_refl _, Nat.le_refl _⟩ dX11_crossing_54 rfl (sm_monoI h (fun r_13 m_12 h => ?_))
            exact sm_iret (Y := mX11_crossing) (pc := 57) rfl rfl rfl dX11_crossing_57 ⟨_, rfl, h⟩
          · replace h := h.2 hc
            refine sm_iload_n (Y := mX11_crossing) (pc := 43) 4 3 rfl rfl dX11_crossing_43 ?_
            refine sm_aload (Y := mX11_crossing) (pc := 44) 0 5 rfl dX11_crossing_44 ?_
            refine gf_RX11_114 (Y := mX11_crossing) (pc := 46) rfl ((fun S hS => ((ly_slotT hly (sm_inlt hn_11)) S hS).1) _) dX11_crossing_46 ?_
            refine sm_icmp_lt (Y := mX11_crossing) (pc := 49) 58 (by decide) dX11_crossing_49 (fun hc => ?_) (fun hc => ?_)
            · replace h := h.1 hc
              refine sm_aload_n (Y := mX11_crossing) (pc := 58) 1 0 rfl rfl dX11_crossing_58 ?_
              refine gf_RX11_42 (Y := mX11_crossing) (pc := 59) (b := 16) rfl ((lk_0 hly) _) (lf_0_5 hly _) dX11_crossing_59 ?_
              refine sm_aload (Y := mX11_crossing) (pc := 62) 0 5 rfl dX11_crossing_62 ?_
              refine sm_iload_n (Y := mX11_crossing) (pc := 64) 3 2 rfl rfl dX11_crossing_64 ?_
              refine sm_iv_V (Y := mX11_crossing) (pc := 65) (As := [.ref (sm_B E + (77 + 4 * x1.toNatClampNeg)), .int x2]) (a := 16) fX2_draw wRX11_222 (lk_16 hly) (by decide) rfl rfl rfl (Nat.le_trans (by decide) hd) (Nat.le_of_ble_eq_true rfl) ⟨Nat.le_refl _, Nat.le_refl _⟩ dX11_crossing_65 rfl (sm_monoV h (fun m_14 h => ?_))
              refine sm_iload (Y := mX11_crossing) (pc := 68) 5 4 rfl dX11_crossing_68 ?_
              by_cases hs70_0 : x4 = 0
              · refine sm_lookup (Y := mX11_crossing) (pc := 70) (off := 26) 96 (by first | (rw [hs70_0]; done) | (rw [hs70_0]; rfl)) (by decide) (by decide) dX11_crossing_70 ?_
                replace h := h.1 hs70_0
                refine sm_aload_n (Y := mX11_crossing) (pc := 96) 1 0 rfl rfl dX11_crossing_96 ?_
                refine gf_RX11_42 (Y := mX11_crossing) (pc := 97) (b := 16) rfl ((lk_0 hly) _) (lf_0_5 hly _) dX11_crossing_97 ?_
                refine sm_iload_n (Y := mX11_crossing) (pc := 100) 4 3 rfl rfl dX11_crossing_100 ?_
                refine sm_iv_I (Y := mX11_crossing) (pc := 101) (As := [.int x3]) (a := 16) fX2_overAt wRX11_238 (lk_16 hly) (by decide) rfl rfl rfl (Nat.le_trans (by decide) hd) (Nat.le_of_ble_eq_true rfl) ⟨Nat.le_refl _, Nat.le_refl _⟩ dX11_crossing_101 rfl (sm_monoI h (fun r_16 m_15 h => ?_))
                exact sm_iret (Y := mX11_crossing) (pc := 104) rfl rfl rfl dX11_crossing_104 ⟨_, rfl, h⟩
              replace h := h.2
              by_cases hs70_1 : x4 = 1
              · refine sm_lookup (Y := mX11_crossing) (pc := 70) (off := 35) 105 (by first | (rw [hs70_1]; done) | (rw [hs70_1]; rfl)) (by decide) (by decide) dX11_crossing_70 ?_
                replace h := h.1 hs70_1
                refine sm_aload_n (Y := mX11_crossing) (pc := 105) 1 0 rfl rfl dX11_crossing_105 ?_
                refine gf_RX11_42 (Y := mX11_crossing) (pc := 106) (b := 16) rfl ((lk_0 hly) _) (lf_0_5 hly _) dX11_crossing_106 ?_
                refine sm_iload_n (Y := mX11_crossing) (pc := 109) 4 3 rfl rfl dX11_crossing_109 ?_
                refine sm_iv_I (Y := mX11_crossing) (pc := 110) (As := [.int x3]) (a := 16) fX2_underAt wRX11_241 (lk_16 hly) (by decide) rfl rfl rfl (Nat.le_trans (by decide) hd) (Nat.le_of_ble_eq_true rfl) ⟨Nat.le_refl _, Nat.le_refl _⟩ dX11_crossing_110 rfl (sm_monoI h (fun r_18 m_17 h => ?_))
                exact sm_iret (Y := mX11_crossing) (pc := 113) rfl rfl rfl dX11_crossing_113 ⟨_, rfl, h⟩
              replace h := h.2
              refine sm_lookup (Y := mX11_crossing) (pc := 70) (off := 44) 114 (by show Op.lookupswitch.offset _ _ _ = _; first | (rw [lv_osw hs70_0 (by decide), lv_osw hs70_1 (by decide)]; done) | (rw [lv_osw hs70_0 (by decide), lv_osw hs70_1 (by decide)]; rfl)) (by decide) (by decide) dX11_crossing_70 ?_
              replace h := h ⟨hs70_0, hs70_1⟩
              refine sm_aload_n (Y := mX11_crossing) (pc := 114) 1 0 rfl rfl dX11_crossing_114 ?_
              refine gf_RX11_42 (Y := mX11_crossing) (pc := 115) (b := 16) rfl ((lk_0 hly) _) (lf_0_5 hly _) dX11_crossing_115 ?_
              refine sm_iload_n (Y := mX11_crossing) (pc := 118) 4 3 rfl rfl dX11_crossing_118 ?_
              refine sm_iv_I (Y := mX11_crossing) (pc := 119) (As := [.int x3]) (a := 16) fX2_signAt wRX11_244 (lk_16 hly) (by decide) rfl rfl rfl (Nat.le_trans (by decide) hd) (Nat.le_of_ble_eq_true rfl) ⟨Nat.le_refl _, Nat.le_refl _⟩ dX11_crossing_119 rfl (sm_monoI h (fun r_20 m_19 h => ?_))
              exact sm_iret (Y := mX11_crossing) (pc := 122) rfl rfl rfl dX11_crossing_122 ⟨_, rfl, h⟩
            · replace h := h.2 hc
              refine sm_aload_n (Y := mX11_crossing) (pc := 52) 1 0 rfl rfl dX11_crossing_52 ?_
              refine sm_iconst (Y := mX11_crossing) (pc := 53) 1 (by decide) dX11_crossing_53 ?_
              refine sm_iv_I (Y := mX11_crossing) (pc := 54) (As := [.int 1]) (a := 0) fX11_error wRX11_103 (lk_0 hly) (by decide) rfl rfl rfl (Nat.le_trans (by decide) hd) (Nat.le_of_ble_eq_true rfl) ⟨Nat.le_refl _, Nat.le_refl _⟩ dX11_crossing_54 rfl (sm_monoI h (fun r_22 m_21 h => ?_))
              exact sm_iret (Y := mX11_crossing) (pc := 57) rfl rfl rfl dX11_crossing_57 ⟨_, rfl, h⟩
        · replace h := h.2 hc
          refine sm_aload_n (Y := mX11_crossing) (pc := 25) 0 0 rfl rfl dX11_crossing_25 ?_
          refine sm_iconst (Y := mX11_crossing) (pc := 26) 1 (by decide) dX11_crossing_26 ?_
          refine sm_iv_I (Y := mX11_crossing) (pc := 27) (As := [.int 1]) (a := 0) fX11_error wRX11_103 (lk_0 hly) (by decide) rfl rfl rfl (Nat.le_trans (by decide) hd) (Nat.le_of_ble_eq_true rfl) ⟨Nat.le_refl _, Nat.le_refl _⟩ dX11_crossing_27 rfl (sm_monoI h (fun r_24 m_23 h => ?_))
          exact sm_iret (Y := mX11_crossing) (pc := 30) rfl rfl rfl dX11_crossing_30 ⟨_, rfl, h⟩
abbrev mX11_linked : sm_Y := (yX11_linked, cX11_linked, 5, (some FieldType.int))
theorem fX11_linked : sm_mi mX11_linked RX11 4 := ⟨sm_in 820 (by decide +kernel) (by decide +kernel), sm_in 818 (by decide +kernel) (by decide +kernel), sm_in 819 (by decide +kernel) (by decide +kernel), sm_in 82 (by decide +kernel) (by decide +kernel), rfl, ⟨by decide +kernel, by decide +kernel, by decide +kernel⟩, by decide⟩
theorem dX11_linked_0 : decode cX11_linked 0 = .ok (.iload_n 1, 1) := dk_iload_n_1 (by decide +kernel)
theorem dX11_linked_1 : decode cX11_linked 1 = .ok (.invokestatic 99, 3) := dk_invokestatic 99 (b1 := 0) (b2 := 99) (by decide +kernel) (by decide +kernel) (by decide +kernel) (by decide +kernel)
theorem dX11_linked_4 : decode cX11_linked 4 = .ok (.ifCond .eq 10, 3) := dk_ifCond_eq 10 (b1 := 0) (b2 := 10) (by decide +kernel) (by decide +kernel) (by decide +kernel) (by decide +kernel)
theorem dX11_linked_14 : decode cX11_linked 14 = .ok (.aload_n 0, 1) := dk_aload_n_0 (by decide +kernel)
theorem dX11_linked_15 : decode cX11_linked 15 = .ok (.iconst 1, 1) := dk_iconst_1 (by decide +kernel)
theorem dX11_linked_16 : decode cX11_linked 16 = .ok (.invokevirtual 103, 3) := dk_invokevirtual 103 (b1 := 0) (b2 := 103) (by decide +kernel) (by decide +kernel) (by decide +kernel) (by decide +kernel)
theorem dX11_linked_19 : decode cX11_linked 19 = .ok (.ireturn, 1) := dk_ireturn (by decide +kernel)
theorem dX11_linked_7 : decode cX11_linked 7 = .ok (.iload_n 2, 1) := dk_iload_n_2 (by decide +kernel)
theorem dX11_linked_8 : decode cX11_linked 8 = .ok (.invokestatic 148, 3) := dk_invokestatic 148 (b1 := 0) (b2 := 148) (by decide +kernel) (by decide +kernel) (by decide +kernel) (by decide +kernel)
theorem dX11_linked_11 : decode cX11_linked 11 = .ok (.ifCond .ne 9, 3) := dk_ifCond_ne 9 (b1 := 0) (b2 := 9) (by decide +kernel) (by decide +kernel) (by decide +kernel) (by decide +kernel)
theorem dX11_linked_20 : decode cX11_linked 20 = .ok (.aload_n 0, 1) := dk_aload_n_0 (by decide +kernel)
theorem dX11_linked_21 : decode cX11_linked 21 = .ok (.getfield 42, 3) := dk_getfield 42 (b1 := 0) (b2 := 42) (by decide +kernel) (by decide +kernel) (by decide +kernel) (by decide +kernel)
theorem dX11_linked_24 : decode cX11_linked 24 = .ok (.aload_n 0, 1) := dk_aload_n_0 (by decide +kernel)
theorem dX11_linked_25 : decode cX11_linked 25 = .ok (.getfield 11, 3) := dk_getfield 11 (b1 := 0) (b2 := 11) (by decide +kernel) (by decide +kernel) (by decide +kernel) (by decide +kernel)
theorem dX11_linked_28 : decode cX11_linked 28 = .ok (.iload_n 1, 1) := dk_iload_n_1 (by decide +kernel)
theorem dX11_linked_29 : decode cX11_linked 29 = .ok (.aaload, 1) := dk_aaload (by decide +kernel)
theorem dX11_linked_30 : decode cX11_linked 30 = .ok (.iload_n 2, 1) := dk_iload_n_2 (by decide +kernel)
theorem dX11_linked_31 : decode cX11_linked 31 = .ok (.invokevirtual 222, 3) := dk_invokevirtual 222 (b1 := 0) (b2 := 222) (by decide +kernel) (by decide +kernel) (by decide +kernel) (by decide +kernel)
theorem dX11_linked_34 : decode cX11_linked 34 = .ok (.aload_n 0, 1) := dk_aload_n_0 (by decide +kernel)
theorem dX11_linked_35 : decode cX11_linked 35 = .ok (.getfield 42, 3) := dk_getfield 42 (b1 := 0) (b2 := 42) (by decide +kernel) (by decide +kernel) (by decide +kernel) (by decide +kernel)
theorem dX11_linked_38 : decode cX11_linked 38 = .ok (.iload_n 3, 1) := dk_iload_n_3 (by decide +kernel)
theorem wRX11_247 : Cond.methodLink RX11 247 yX2_hasComponent ∈ sm_T := sm_in 821 (by decide +kernel) (by decide +kernel)
theorem dX11_linked_39 : decode cX11_linked 39 = .ok (.invokevirtual 247, 3) := dk_invokevirtual 247 (b1 := 0) (b2 := 247) (by decide +kernel) (by decide +kernel) (by decide +kernel) (by decide +kernel)
theorem dX11_linked_42 : decode cX11_linked 42 = .ok (.ifCond .eq 15, 3) := dk_ifCond_eq 15 (b1 := 0) (b2 := 15) (by decide +kernel) (by decide +kernel) (by decide +kernel) (by decide +kernel)
theorem dX11_linked_57 : decode cX11_linked 57 = .ok (.aload_n 0, 1) := dk_aload_n_0 (by decide +kernel)
theorem dX11_linked_58 : decode cX11_linked 58 = .ok (.iconst 2, 1) := dk_iconst_2 (by decide +kernel)
theorem dX11_linked_59 : decode cX11_linked 59 = .ok (.invokevirtual 103, 3) := dk_invokevirtual 103 (b1 := 0) (b2 := 103) (by decide +kernel) (by decide +kernel) (by decide +kernel) (by decide +kernel)
theorem dX11_linked_62 : decode cX11_linked 62 = .ok (.ireturn, 1) := dk_ireturn (by decide +kernel)
theorem dX11_linked_45 : decode cX11_linked 45 = .ok (.aload_n 0, 1) := dk_aload_n_0 (by decide +kernel)
theorem dX11_linked_46 : decode cX11_linked 46 = .ok (.getfield 42, 3) := dk_getfield 42 (b1 := 0) (b2 := 42) (by decide +kernel) (by decide +kernel) (by decide +kernel) (by decide +kernel)
theorem dX11_linked_49 : decode cX11_linked 49 = .ok (.iload 4, 2) := dk_iload 4 (b := 4) (by decide +kernel) (by decide +kernel) (by decide +kernel)
theorem dX11_linked_51 : decode cX11_linked 51 = .ok (.invokevirtual 247, 3) := dk_invokevirtual 247 (b1 := 0) (b2 := 247) (by decide +kernel) (by decide +kernel) (by decide +kernel) (by decide +kernel)
theorem dX11_linked_54 : decode cX11_linked 54 = .ok (.ifCond .ne 9, 3) := dk_ifCond_ne 9 (b1 := 0) (b2 := 9) (by decide +kernel) (by decide +kernel) (by decide +kernel) (by decide +kernel)
theorem dX11_linked_63 : decode cX11_linked 63 = .ok (.iload_n 3, 1) := dk_iload_n_3 (by decide +kernel)
theorem dX11_linked_64 : decode cX11_linked 64 = .ok (.iload 4, 2) := dk_iload 4 (b := 4) (by decide +kernel) (by decide +kernel) (by decide +kernel)
theorem dX11_linked_66 : decode cX11_linked 66 = .ok (.if_icmp .ne 9, 3) := dk_if_icmp_ne 9 (b1 := 0) (b2 := 9) (by decide +kernel) (by decide +kernel) (by decide +kernel) (by decide +kernel)
theorem dX11_linked_75 : decode cX11_linked 75 = .ok (.aload_n 0, 1) := dk_aload_n_0 (by decide +kernel)
theorem dX11_linked_76 : decode cX11_linked 76 = .ok (.getfield 42, 3) := dk_getfield 42 (b1 := 0) (b2 := 42) (by decide +kernel) (by decide +kernel) (by decide +kernel) (by decide +kernel)
theorem dX11_linked_79 : decode cX11_linked 79 = .ok (.iload_n 3, 1) := dk_iload_n_3 (by decide +kernel)
theorem dX11_linked_80 : decode cX11_linked 80 = .ok (.iload 4, 2) := dk_iload 4 (b := 4) (by decide +kernel) (by decide +kernel) (by decide +kernel)
theorem wRX11_250 : Cond.methodLink RX11 250 yX2_linking ∈ sm_T := sm_in 825 (by decide +kernel) (by decide +kernel)
theorem dX11_linked_82 : decode cX11_linked 82 = .ok (.invokevirtual 250, 3) := dk_invokevirtual 250 (b1 := 0) (b2 := 250) (by decide +kernel) (by decide +kernel) (by decide +kernel) (by decide +kernel)
theorem dX11_linked_85 : decode cX11_linked 85 = .ok (.ireturn, 1) := dk_ireturn (by decide +kernel)
theorem dX11_linked_69 : decode cX11_linked 69 = .ok (.aload_n 0, 1) := dk_aload_n_0 (by decide +kernel)
theorem dX11_linked_70 : decode cX11_linked 70 = .ok (.iconst 5, 1) := dk_iconst_5 (by decide +kernel)
theorem dX11_linked_71 : decode cX11_linked 71 = .ok (.invokevirtual 103, 3) := dk_invokevirtual 103 (b1 := 0) (b2 := 103) (by decide +kernel) (by decide +kernel) (by decide +kernel) (by decide +kernel)
theorem dX11_linked_74 : decode cX11_linked 74 = .ok (.ireturn, 1) := dk_ireturn (by decide +kernel)
set_option maxRecDepth 20000 in
theorem vX11_linked_0 {E : sm_E} {L : sm_S → Prop} {d : Nat} {x1 : Int32} {x2 : Int32} {x3 : Int32} {x4 : Int32}  {m : sm_M} {Q : Int32 → sm_M → Prop} (hly : ∀ S, L S → ly S) (hd : 6 ≤ d) 
  (h : sm_callI E L mX11_isSlot 1 0 0 [.int x1] m (fun r_2 m_1 =>
   (r_2 = 0 →
      sm_callI E L mX11_error 1 0 0 [.ref (sm_B E + 0), .int 1] m_1 (fun r_4 m_3 =>
      Q r_4 m_3)) ∧
   (¬ r_2 = 0 →
      sm_callI E L mX11_isChoice 1 0 0 [.int x2] m_1 (fun r_6 m_5 =>
      (¬ r_6 = 0 →
         (vp_in x1 6) ∧ sm_callV E L mX2_draw 5 0 0 [.ref (sm_B E + 16), .ref (sm_B E + (77 + 4 * x1.toNatClampNeg)), .int x2] m_5 (fun m_8 =>
         sm_callI E L mX2_hasComponent 1 0 0 [.ref (sm_B E + 16), .int x3] m_8 (fun r_10 m_9 =>
         (r_10 = 0 →
            sm_callI E L mX11_error 1 0 0 [.ref (sm_B E + 0), .int 2] m_9 (fun r_12 m_11 =>
            Q r_12 m_11)) ∧
         (¬ r_10 = 0 →
            sm_callI E L mX2_hasComponent 1 0 0 [.ref (sm_B E + 16), .int x4] m_9 (fun r_14 m_13 =>
            (¬ r_14 = 0 →
               (¬ x3 = x4 →
                  sm_callI E L mX2_linking 2 0 0 [.ref (sm_B E + 16), .int x3, .int x4] m_13 (fun r_16 m_15 =>
                  Q r_16 m_15)) ∧
               (x3 = x4 →
                  sm_callI E L mX11_error 1 0 0 [.ref (sm_B E + 0), .int 5] m_13 (fun r_18 m_17 =>
                  Q r_18 m_17))) ∧
            (r_14 = 0 →
               sm_callI E L mX11_error 1 0 0 [.ref (sm_B E + 0), .int 2] m_13 (fun r_20 m_19 =>
               Q r_20 m_19))))))) ∧
      (r_6 = 0 →
         sm_callI E L mX11_error 1 0 0 [.ref (sm_B E + 0), .int 1] m_5 (fun r_22 m_21 =>
         Q r_22 m_21)))))) :
  sm_callI E L mX11_linked d 0 0 [.ref (sm_B E + 0), .int x1, .int x2, .int x3, .int x4] m Q := by
  refine sm_enter (by decide +kernel) (by simp [lg_sl, Value.category]) ?_
  refine sm_iload_n (Y := mX11_linked) (pc := 0) 1 1 rfl rfl dX11_linked_0 ?_
  refine sm_is_I (Y := mX11_linked) (pc := 1) (As := [.int x1]) fX11_isSlot wRX11_99 rfl (Nat.le_trans (by decide) hd) (Nat.le_of_ble_eq_true rfl) ⟨Nat.le_refl _, Nat.le_refl _⟩ dX11_linked_1 rfl (sm_monoI h (fun r_2 m_1 h => ?_))
  refine sm_if_eq (Y := mX11_linked) (pc := 4) 14 (by decide) dX11_linked_4 (fun hc => ?_) (fun hc => ?_)
  · replace h := h.1 hc
    refine sm_aload_n (Y := mX11_linked) (pc := 14) 0 0 rfl rfl dX11_linked_14 ?_
    refine sm_iconst (Y := mX11_linked) (pc := 15) 1 (by decide) dX11_linked_15 ?_
    refine sm_iv_I (Y := mX11_linked) (pc := 16) (As := [.int 1]) (a := 0) fX11_error wRX11_103 (lk_0 hly) (by decide) rfl rfl rfl (Nat.le_trans (by decide) hd) (Nat.le_of_ble_eq_true rfl) ⟨Nat.le_refl _, Nat.le_refl _⟩ dX11_linked_16 rfl (sm_monoI h (fun r_4 m_3 h => ?_))
    exact sm_iret (Y := mX11_linked) (pc := 19) rfl rfl rfl dX11_linked_19 ⟨_, rfl, h⟩
  · replace h := h.2 hc
    refine sm_iload_n (Y := mX11_linked) (pc := 7) 2 2 rfl rfl dX11_linked_7 ?_
    refine sm_is_I (Y := mX11_linked) (pc := 8) (As := [.int x2]) fX11_isChoice wRX11_148 rfl (Nat.le_trans (by decide) hd) (Nat.le_of_ble_eq_true rfl) ⟨Nat.le_refl _, Nat.le_refl _⟩ dX11_linked_8 rfl (sm_monoI h (fun r_6 m_5 h => ?_))
    refine sm_if_ne (Y := mX11_linked) (pc := 11) 20 (by decide) dX11_linked_11 (fun hc => ?_) (fun hc => ?_)
    · replace h := h.1 hc
      refine sm_aload_n (Y := mX11_linked) (pc := 20) 0 0 rfl rfl dX11_linked_20 ?_
      refine gf_RX11_42 (Y := mX11_linked) (pc := 21) (b := 16) rfl ((lk_0 hly) _) (lf_0_5 hly _) dX11_linked_21 ?_
      refine sm_aload_n (Y := mX11_linked) (pc := 24) 0 0 rfl rfl dX11_linked_24 ?_
      refine gf_RX11_11 (Y := mX11_linked) (pc := 25) (b := 1) rfl ((lk_0 hly) _) (lf_0_0 hly _) dX11_linked_25 ?_
      refine sm_iload_n (Y := mX11_linked) (pc := 28) 1 1 rfl rfl dX11_linked_28 ?_
      obtain ⟨hn_7, h⟩ := h
      refine sm_aaldG (Y := mX11_linked) (pc := 29) (b := (77 + 4 * x1.toNatClampNeg)) (la_1 hly _) hn_7 (ly_slotR hly (sm_inlt hn_7) _) dX11_linked_29 ?_
      refine sm_iload_n (Y := mX11_linked) (pc := 30) 2 2 rfl rfl dX11_linked_30 ?_
      refine sm_iv_V (Y := mX11_linked) (pc := 31) (As := [.ref (sm_B E + (77 + 4 * x1.toNatClampNeg)), .int x2]) (a := 16) fX2_draw wRX11_222 (lk_16 hly) (by decide) rfl rfl rfl (Nat.le_trans (by decide) hd) (Nat.le_of_ble_eq_true rfl) ⟨Nat.le_refl _, Nat.le_refl _⟩ dX11_linked_31 rfl (sm_monoV h (fun m_8 h => ?_))
      refine sm_aload_n (Y := mX11_linked) (pc := 34) 0 0 rfl rfl dX11_linked_34 ?_
      refine gf_RX11_42 (Y := mX11_linked) (pc := 35) (b := 16) rfl ((lk_0 hly) _) (lf_0_5 hly _) dX11_linked_35 ?_
      refine sm_iload_n (Y := mX11_linked) (pc := 38) 3 3 rfl rfl dX11_linked_38 ?_
      refine sm_iv_I (Y := mX11_linked) (pc := 39) (As := [.int x3]) (a := 16) fX2_hasComponent wRX11_247 (lk_16 hly) (by decide) rfl rfl rfl (Nat.le_trans (by decide) hd) (Nat.le_of_ble_eq_true rfl) ⟨Nat.le_refl _, Nat.le_refl _⟩ dX11_linked_39 rfl (sm_monoI h (fun r_10 m_9 h => ?_))
      refine sm_if_eq (Y := mX11_linked) (pc := 42) 57 (by decide) dX11_linked_42 (fun hc => ?_) (fun hc => ?_)
      · replace h := h.1 hc
        refine sm_aload_n (Y := mX11_linked) (pc := 57) 0 0 rfl rfl dX11_linked_57 ?_
        refine sm_iconst (Y := mX11_linked) (pc := 58) 2 (by decide) dX11_linked_58 ?_
        refine sm_iv_I (Y := mX11_linked) (pc := 59) (As := [.int 2]) (a := 0) fX11_error wRX11_103 (lk_0 hly) (by decide) rfl rfl rfl (Nat.le_trans (by decide) hd) (Nat.le_of_ble_eq_true rfl) ⟨Nat.le_refl _, Nat.le_refl _⟩ dX11_linked_59 rfl (sm_monoI h (fun r_12 m_11 h => ?_))
        exact sm_iret (Y := mX11_linked) (pc := 62) rfl rfl rfl dX11_linked_62 ⟨_, rfl, h⟩
      · replace h := h.2 hc
        refine sm_aload_n (Y := mX11_linked) (pc := 45) 0 0 rfl rfl dX11_linked_45 ?_
        refine gf_RX11_42 (Y := mX11_linked) (pc := 46) (b := 16) rfl ((lk_0 hly) _) (lf_0_5 hly _) dX11_linked_46 ?_
        refine sm_iload (Y := mX11_linked) (pc := 49) 4 4 rfl dX11_linked_49 ?_
        refine sm_iv_I (Y := mX11_linked) (pc := 51) (As := [.int x4]) (a := 16) fX2_hasComponent wRX11_247 (lk_16 hly) (by decide) rfl rfl rfl (Nat.le_trans (by decide) hd) (Nat.le_of_ble_eq_true rfl) ⟨Nat.le_refl _, Nat.le_refl _⟩ dX11_linked_51 rfl (sm_monoI h (fun r_14 m_13 h => ?_))
        refine sm_if_ne (Y := mX11_linked) (pc := 54) 63 (by decide) dX11_linked_54 (fun hc => ?_) (fun hc => ?_)
        · replace h := h.1 hc
          refine sm_iload_n (Y := mX11_linked) (pc := 63) 3 3 rfl rfl dX11_linked_63 ?_
          refine sm_iload (Y := mX11_linked) (pc := 64) 4 4 rfl dX11_linked_64 ?_
          refine sm_icmp_ne (Y := mX11_linked) (pc := 66) 75 (by decide) dX11_linked_66 (fun hc => ?_) (fun hc => ?_)
          · replace h := h.1 hc
            refine sm_aload_n (Y := mX11_linked) (pc := 75) 0 0 rfl rfl dX11_linked_75 ?_
            refine gf_RX11_42 (Y := mX11_linked) (pc := 76) (b := 16) rfl ((lk_0 hly) _) (lf_0_5 hly _) dX11_linked_76 ?_
            refine sm_iload_n (Y := mX11_linked) (pc := 79) 3 3 rfl rfl dX11_linked_79 ?_
            refine sm_iload (Y := mX11_linked) (pc := 80) 4 4 rfl dX11_linked_80 ?_
            refine sm_iv_I (Y := mX11_linked) (pc := 82) (As := [.int x3, .int x4]) (a := 16) fX2_linking wRX11_250 (lk_16 hly) (by decide) rfl rfl rfl (Nat.le_trans (by decide) hd) (Nat.le_of_ble_eq_true rfl) ⟨Nat.le_refl _, Nat.le_refl _⟩ dX11_linked_82 rfl (sm_monoI h (fun r_16 m_15 h => ?_))
            exact sm_iret (Y := mX11_linked) (pc := 85) rfl rfl rfl dX11_linked_85 ⟨_, rfl, h⟩
          · replace h := h.2 hc
            refine sm_aload_n (Y := mX11_linked) (pc := 69) 0 0 rfl rfl dX11_linked_69 ?_
            refine sm_iconst (Y := mX11_linked) (pc := 70) 5 (by decide) dX11_linked_70 ?_
            refine sm_iv_I (Y := mX11_linked) (pc := 71) (As := [.int 5]) (a := 0) fX11_error wRX11_103 (lk_0 hly) (by decide) rfl rfl rfl (Nat.le_trans (by decide) hd) (Nat.le_of_ble_eq_true rfl) ⟨Nat.le_refl _, Nat.le_refl _⟩ dX11_linked_71 rfl (sm_monoI h (fun r_18 m_17 h => ?_))
            exact sm_iret (Y := mX11_linked) (pc := 74) rfl rfl rfl dX11_linked_74 ⟨_, rfl, h⟩
        · replace h := h.2 hc
          refine sm_aload_n (Y := mX11_linked) (pc := 57) 0 0 rfl rfl dX11_linked_57 ?_
          refine sm_iconst (Y := mX11_linked) (pc := 58) 2 (by decide) dX11_linked_58 ?_
          refine sm_iv_I (Y := mX11_linked) (pc := 59) (As := [.int 2]) (a := 0) fX11_error wRX11_103 (lk_0 hly) (by decide) rfl rfl rfl (Nat.le_trans (by decide) hd) (Nat.le_of_ble_eq_true rfl) ⟨Nat.le_refl _, Nat.le_refl _⟩ dX11_linked_59 rfl (sm_monoI h (fun r_20 m_19 h => ?_))
          exact sm_iret (Y := mX11_linked) (pc := 62) rfl rfl rfl dX11_linked_62 ⟨_, rfl, h⟩
    · replace h := h.2 hc
      refine sm_aload_n (Y := mX11_linked) (pc := 14) 0 0 rfl rfl dX11_linked_14 ?_
      refine sm_iconst (Y := mX11_linked) (pc := 15) 1 (by decide) dX11_linked_15 ?_
      refine sm_iv_I (Y := mX11_linked) (pc := 16) (As := [.int 1]) (a := 0) fX11_error wRX11_103 (lk_0 hly) (by decide) rfl rfl rfl (Nat.le_trans (by decide) hd) (Nat.le_of_ble_eq_true rfl) ⟨Nat.le_refl _, Nat.le_refl _⟩ dX11_linked_16 rfl (sm_monoI h (fun r_22 m_21 h => ?_))
      exact sm_iret (Y := mX11_linked) (pc := 19) rfl rfl rfl dX11_linked_19 ⟨_, rfl, h⟩
abbrev mX11_gauss : sm_Y := (yX11_gauss, cX11_gauss, 8, (some FieldType.int))
theorem fX11_gauss : sm_mi mX11_gauss RX11 4 := ⟨sm_in 834 (by decide +kernel) (by decide +kernel), sm_in 832 (by decide +kernel) (by decide +kernel), sm_in 833 (by decide +kernel) (by decide +kernel), sm_in 82 (by decide +kernel) (by decide +kernel), rfl, ⟨by decide +kernel, by decide +kernel, by decide +kernel⟩, by decide⟩
def gX11_gauss_90 (E : sm_E) (L : sm_S → Prop) (d : Nat) (vs : List Value) (x4 : Int32) (a5 : Nat) (x6 : Int32) (x7 : Int32) (m : sm_M) (Q : Int32 → sm_M → Prop) : Prop := sm_go E L mX11_gauss d 0 0 vs 90 [(0, .ref (sm_B E + 0)), (4, .int x4), (5, .ref (sm_B E + a5)), (6, .int x6), (7, .int x7)] [] m 0 0 (sm_Z E L vs 0 0 (sm_QI Q))
theorem dX11_gauss_90 : decode cX11_gauss 90 = .ok (.iload 7, 2) := dk_iload 7 (b := 7) (by decide +kernel) (by decide +kernel) (by decide +kernel)
theorem dX11_gauss_92 : decode cX11_gauss 92 = .ok (.iload 6, 2) := dk_iload 6 (b := 6) (by decide +kernel) (by decide +kernel) (by decide +kernel)
theorem dX11_gauss_94 : decode cX11_gauss 94 = .ok (.if_icmp .ge 28, 3) := dk_if_icmp_ge 28 (b1 := 0) (b2 := 28) (by decide +kernel) (by decide +kernel) (by decide +kernel) (by decide +kernel)
theorem dX11_gauss_122 : decode cX11_gauss 122 = .ok (.iload 6, 2) := dk_iload 6 (b := 6) (by decide +kernel) (by decide +kernel) (by decide +kernel)
theorem dX11_gauss_124 : decode cX11_gauss 124 = .ok (.ireturn, 1) := dk_ireturn (by decide +kernel)
theorem dX11_gauss_97 : decode cX11_gauss 97 = .ok (.aload 5, 2) := dk_aload 5 (b := 5) (by decide +kernel) (by decide +kernel) (by decide +kernel)
theorem dX11_gauss_99 : decode cX11_gauss 99 = .ok (.iload 7, 2) := dk_iload 7 (b := 7) (by decide +kernel) (by decide +kernel) (by decide +kernel)
theorem dX11_gauss_101 : decode cX11_gauss 101 = .ok (.aload_n 0, 1) := dk_aload_n_0 (by decide +kernel)
theorem dX11_gauss_102 : decode cX11_gauss 102 = .ok (.getfield 42, 3) := dk_getfield 42 (b1 := 0) (b2 := 42) (by decide +kernel) (by decide +kernel) (by decide +kernel) (by decide +kernel)
theorem dX11_gauss_105 : decode cX11_gauss 105 = .ok (.iload 4, 2) := dk_iload 4 (b := 4) (by decide +kernel) (by decide +kernel) (by decide +kernel)
theorem dX11_gauss_107 : decode cX11_gauss 107 = .ok (.iload 7, 2) := dk_iload 7 (b := 7) (by decide +kernel) (by decide +kernel) (by decide +kernel)
theorem wRX11_264 : Cond.methodLink RX11 264 yX2_passAt ∈ sm_T := sm_in 840 (by decide +kernel) (by decide +kernel)
theorem dX11_gauss_109 : decode cX11_gauss 109 = .ok (.invokevirtual 264, 3) := dk_invokevirtual 264 (b1 := 1) (b2 := 8) (by decide +kernel) (by decide +kernel) (by decide +kernel) (by decide +kernel)
theorem dX11_gauss_112 : decode cX11_gauss 112 = .ok (.i2l, 1) := dk_i2l (by decide +kernel)
theorem wRX11_267 : Cond.methodLink RX11 267 yX7_store ∈ sm_T := sm_in 848 (by decide +kernel) (by decide +kernel)
theorem dX11_gauss_113 : decode cX11_gauss 113 = .ok (.invokevirtual 267, 3) := dk_invokevirtual 267 (b1 := 1) (b2 := 11) (by decide +kernel) (by decide +kernel) (by decide +kernel) (by decide +kernel)
theorem dX11_gauss_116 : decode cX11_gauss 116 = .ok (.iinc 7 1, 3) := dk_iinc 7 1 (b1 := 7) (b2 := 1) (by decide +kernel) (by decide +kernel) (by decide +kernel) (by decide +kernel) (by decide +kernel)
theorem dX11_gauss_119 : decode cX11_gauss 119 = .ok (.goto (-29), 3) := dk_goto (-29) (b1 := 255) (b2 := 227) (by decide +kernel) (by decide +kernel) (by decide +kernel) (by decide +kernel)
set_option maxRecDepth 20000 in
theorem vX11_gauss_90 {E : sm_E} {L : sm_S → Prop} {d : Nat} {vs : List Value} {x4 : Int32} {a5 : Nat} {x6 : Int32} {x7 : Int32}  {m : sm_M} {Q : Int32 → sm_M → Prop} (hly : ∀ S, L S → ly S) (hd : 6 ≤ d) (hTa5 : sm_she L a5)
  (h : (x6 ≤ x7 →
      Q x6 m) ∧
   (¬ x6 ≤ x7 →
      sm_callI E L mX2_passAt 2 0 0 [.ref (sm_B E + 16), .int x4, .int x7] m (fun r_2 m_1 =>
      sm_callV E L mX7_store 2 0 0 [.ref (sm_B E + a5), .int x7, .long (r_2.toInt64)] m_1 (fun m_3 =>
      ∀ x7_4 : Int32, x7_4 = x7 + 1 →
      gX11_gauss_90 E L d vs x4 a5 x6 x7_4 m_3 Q)))) :
  gX11_gauss_90 E L d vs x4 a5 x6 x7 m Q := by
  refine sm_iload (Y := mX11_gauss) (pc := 90) 4 7 rfl dX11_gauss_90 ?_
  refine sm_iload (Y := mX11_gauss) (pc := 92) 3 6 rfl dX11_gauss_92 ?_
  refine sm_icmp_ge (Y := mX11_gauss) (pc := 94) 122 (by decide) dX11_gauss_94 (fun hc => ?_) (fun hc => ?_)
  · replace h := h.1 hc
    refine sm_iload (Y := mX11_gauss) (pc := 122) 3 6 rfl dX11_gauss_122 ?_
    exact sm_iret (Y := mX11_gauss) (pc := 124) rfl rfl rfl dX11_gauss_124 ⟨_, rfl, h⟩
  · replace h := h.2 hc
    refine sm_aload (Y := mX11_gauss) (pc := 97) 2 5 rfl dX11_gauss_97 ?_
    refine sm_iload (Y := mX11_gauss) (pc := 99) 4 7 rfl dX11_gauss_99 ?_
    refine sm_aload_n (Y := mX11_gauss) (pc := 101) 0 0 rfl rfl dX11_gauss_101 ?_
    refine gf_RX11_42 (Y := mX11_gauss) (pc := 102) (b := 16) rfl ((lk_0 hly) _) (lf_0_5 hly _) dX11_gauss_102 ?_
    refine sm_iload (Y := mX11_gauss) (pc := 105) 1 4 rfl dX11_gauss_105 ?_
    refine sm_iload (Y := mX11_gauss) (pc := 107) 4 7 rfl dX11_gauss_107 ?_
    refine sm_iv_I (Y := mX11_gauss) (pc := 109) (As := [.int x4, .int x7]) (a := 16) fX2_passAt wRX11_264 (lk_16 hly) (by decide) rfl rfl rfl (Nat.le_trans (by decide) hd) (Nat.le_of_ble_eq_true rfl) ⟨Nat.le_refl _, Nat.le_refl _⟩ dX11_gauss_109 rfl (sm_monoI h (fun r_2 m_1 h => ?_))
    refine sm_i2l (Y := mX11_gauss) (pc := 112) dX11_gauss_112 ?_
    refine sm_iv_V (Y := mX11_gauss) (pc := 113) (As := [.int x7, .long (r_2.toInt64)]) (a := a5) fX7_store wRX11_267 (fun S hS => (hTa5 S hS).1) (by decide) rfl rfl rfl (Nat.le_trans (by decide) hd) (Nat.le_of_ble_eq_true rfl) ⟨Nat.le_refl _, Nat.le_refl _⟩ dX11_gauss_113 rfl (sm_monoV h (fun m_3 h => ?_))
    refine sm_iinc (Y := mX11_gauss) (pc := 116) (fun y => [(7, .int y), (0, .ref (sm_B E + 0)), (4, .int x4), (5, .ref (sm_B E + a5)), (6, .int x6)]) 4 7 rfl (by decide) (fun _ => rfl) dX11_gauss_116 (fun x7_4 ex7_4 => ?_)
    replace h := h x7_4 ex7_4
    refine sm_goto (Y := mX11_gauss) (pc := 119) 90 (by decide) dX11_gauss_119 ?_
    refine sm_sub [1, 2, 3, 4, 0] rfl ?_
    exact h
theorem dX11_gauss_0 : decode cX11_gauss 0 = .ok (.iload_n 1, 1) := dk_iload_n_1 (by decide +kernel)
theorem wRX11_254 : Cond.methodLink RX11 254 yX11_isSheet ∈ sm_T := sm_in 835 (by decide +kernel) (by decide +kernel)
abbrev mX11_isSheet : sm_Y := (yX11_isSheet, cX11_isSheet, 1, (some FieldType.boolean))
theorem fX11_isSheet : sm_mt mX11_isSheet 1 := ⟨sm_in 837 (by decide +kernel) (by decide +kernel), sm_in 836 (by decide +kernel) (by decide +kernel), sm_in 82 (by decide +kernel) (by decide +kernel), ⟨by decide +kernel, by decide +kernel, by decide +kernel⟩, by decide⟩
theorem dX11_gauss_1 : decode cX11_gauss 1 = .ok (.invokestatic 254, 3) := dk_invokestatic 254 (b1 := 0) (b2 := 254) (by decide +kernel) (by decide +kernel) (by decide +kernel) (by decide +kernel)
theorem dX11_gauss_4 : decode cX11_gauss 4 = .ok (.ifCond .eq 17, 3) := dk_ifCond_eq 17 (b1 := 0) (b2 := 17) (by decide +kernel) (by decide +kernel) (by decide +kernel) (by decide +kernel)
theorem dX11_gauss_21 : decode cX11_gauss 21 = .ok (.aload_n 0, 1) := dk_aload_n_0 (by decide +kernel)
theorem dX11_gauss_22 : decode cX11_gauss 22 = .ok (.iconst 1, 1) := dk_iconst_1 (by decide +kernel)
theorem dX11_gauss_23 : decode cX11_gauss 23 = .ok (.invokevirtual 103, 3) := dk_invokevirtual 103 (b1 := 0) (b2 := 103) (by decide +kernel) (by decide +kernel) (by decide +kernel) (by decide +kernel)
theorem dX11_gauss_26 : decode cX11_gauss 26 = .ok (.ireturn, 1) := dk_ireturn (by decide +kernel)
theorem dX11_gauss_7 : decode cX11_gauss 7 = .ok (.iload_n 2, 1) := dk_iload_n_2 (by decide +kernel)
theorem dX11_gauss_8 : decode cX11_gauss 8 = .ok (.invokestatic 99, 3) := dk_invokestatic 99 (b1 := 0) (b2 := 99) (by decide +kernel) (by decide +kernel) (by decide +kernel) (by decide +kernel)
theorem dX11_gauss_11 : decode cX11_gauss 11 = .ok (.ifCond .eq 10, 3) := dk_ifCond_eq 10 (b1 := 0) (b2 := 10) (by decide +kernel) (by decide +kernel) (by decide +kernel) (by decide +kernel)
theorem dX11_gauss_14 : decode cX11_gauss 14 = .ok (.iload_n 3, 1) := dk_iload_n_3 (by decide +kernel)
theorem dX11_gauss_15 : decode cX11_gauss 15 = .ok (.invokestatic 148, 3) := dk_invokestatic 148 (b1 := 0) (b2 := 148) (by decide +kernel) (by decide +kernel) (by decide +kernel) (by decide +kernel)
theorem dX11_gauss_18 : decode cX11_gauss 18 = .ok (.ifCond .ne 9, 3) := dk_ifCond_ne 9 (b1 := 0) (b2 := 9) (by decide +kernel) (by decide +kernel) (by decide +kernel) (by decide +kernel)
theorem dX11_gauss_27 : decode cX11_gauss 27 = .ok (.aload_n 0, 1) := dk_aload_n_0 (by decide +kernel)
theorem dX11_gauss_28 : decode cX11_gauss 28 = .ok (.getfield 42, 3) := dk_getfield 42 (b1 := 0) (b2 := 42) (by decide +kernel) (by decide +kernel) (by decide +kernel) (by decide +kernel)
theorem dX11_gauss_31 : decode cX11_gauss 31 = .ok (.aload_n 0, 1) := dk_aload_n_0 (by decide +kernel)
theorem dX11_gauss_32 : decode cX11_gauss 32 = .ok (.getfield 11, 3) := dk_getfield 11 (b1 := 0) (b2 := 11) (by decide +kernel) (by decide +kernel) (by decide +kernel) (by decide +kernel)
theorem dX11_gauss_35 : decode cX11_gauss 35 = .ok (.iload_n 2, 1) := dk_iload_n_2 (by decide +kernel)
theorem dX11_gauss_36 : decode cX11_gauss 36 = .ok (.aaload, 1) := dk_aaload (by decide +kernel)
theorem dX11_gauss_37 : decode cX11_gauss 37 = .ok (.iload_n 3, 1) := dk_iload_n_3 (by decide +kernel)
theorem dX11_gauss_38 : decode cX11_gauss 38 = .ok (.invokevirtual 222, 3) := dk_invokevirtual 222 (b1 := 0) (b2 := 222) (by decide +kernel) (by decide +kernel) (by decide +kernel) (by decide +kernel)
theorem dX11_gauss_41 : decode cX11_gauss 41 = .ok (.aload_n 0, 1) := dk_aload_n_0 (by decide +kernel)
theorem dX11_gauss_42 : decode cX11_gauss 42 = .ok (.getfield 42, 3) := dk_getfield 42 (b1 := 0) (b2 := 42) (by decide +kernel) (by decide +kernel) (by decide +kernel) (by decide +kernel)
theorem dX11_gauss_45 : decode cX11_gauss 45 = .ok (.iload 4, 2) := dk_iload 4 (b := 4) (by decide +kernel) (by decide +kernel) (by decide +kernel)
theorem dX11_gauss_47 : decode cX11_gauss 47 = .ok (.invokevirtual 247, 3) := dk_invokevirtual 247 (b1 := 0) (b2 := 247) (by decide +kernel) (by decide +kernel) (by decide +kernel) (by decide +kernel)
theorem dX11_gauss_50 : decode cX11_gauss 50 = .ok (.ifCond .ne 9, 3) := dk_ifCond_ne 9 (b1 := 0) (b2 := 9) (by decide +kernel) (by decide +kernel) (by decide +kernel) (by decide +kernel)
theorem dX11_gauss_59 : decode cX11_gauss 59 = .ok (.aload_n 0, 1) := dk_aload_n_0 (by decide +kernel)
theorem dX11_gauss_60 : decode cX11_gauss 60 = .ok (.getfield 76, 3) := dk_getfield 76 (b1 := 0) (b2 := 76) (by decide +kernel) (by decide +kernel) (by decide +kernel) (by decide +kernel)
theorem dX11_gauss_63 : decode cX11_gauss 63 = .ok (.iload_n 1, 1) := dk_iload_n_1 (by decide +kernel)
theorem dX11_gauss_64 : decode cX11_gauss 64 = .ok (.aaload, 1) := dk_aaload (by decide +kernel)
theorem dX11_gauss_65 : decode cX11_gauss 65 = .ok (.astore 5, 2) := dk_astore 5 (b := 5) (by decide +kernel) (by decide +kernel) (by decide +kernel)
theorem dX11_gauss_67 : decode cX11_gauss 67 = .ok (.aload_n 0, 1) := dk_aload_n_0 (by decide +kernel)
theorem dX11_gauss_68 : decode cX11_gauss 68 = .ok (.getfield 42, 3) := dk_getfield 42 (b1 := 0) (b2 := 42) (by decide +kernel) (by decide +kernel) (by decide +kernel) (by decide +kernel)
theorem dX11_gauss_71 : decode cX11_gauss 71 = .ok (.iload 4, 2) := dk_iload 4 (b := 4) (by decide +kernel) (by decide +kernel) (by decide +kernel)
theorem wRX11_257 : Cond.methodLink RX11 257 yX2_passesOf ∈ sm_T := sm_in 838 (by decide +kernel) (by decide +kernel)
theorem dX11_gauss_73 : decode cX11_gauss 73 = .ok (.invokevirtual 257, 3) := dk_invokevirtual 257 (b1 := 1) (b2 := 1) (by decide +kernel) (by decide +kernel) (by decide +kernel) (by decide +kernel)
theorem dX11_gauss_76 : decode cX11_gauss 76 = .ok (.istore 6, 2) := dk_istore 6 (b := 6) (by decide +kernel) (by decide +kernel) (by decide +kernel)
theorem dX11_gauss_78 : decode cX11_gauss 78 = .ok (.aload 5, 2) := dk_aload 5 (b := 5) (by decide +kernel) (by decide +kernel) (by decide +kernel)
theorem dX11_gauss_80 : decode cX11_gauss 80 = .ok (.bipush 8, 2) := dk_bipush 8 (b := 8) (by decide +kernel) (by decide +kernel) (by decide +kernel)
theorem dX11_gauss_82 : decode cX11_gauss 82 = .ok (.iload 6, 2) := dk_iload 6 (b := 6) (by decide +kernel) (by decide +kernel) (by decide +kernel)
theorem wRX11_260 : Cond.methodLink RX11 260 yX7_reset ∈ sm_T := sm_in 839 (by decide +kernel) (by decide +kernel)
theorem dX11_gauss_84 : decode cX11_gauss 84 = .ok (.invokevirtual 260, 3) := dk_invokevirtual 260 (b1 := 1) (b2 := 4) (by decide +kernel) (by decide +kernel) (by decide +kernel) (by decide +kernel)
theorem dX11_gauss_87 : decode cX11_gauss 87 = .ok (.iconst 0, 1) := dk_iconst_0 (by decide +kernel)
theorem dX11_gauss_88 : decode cX11_gauss 88 = .ok (.istore 7, 2) := dk_istore 7 (b := 7) (by decide +kernel) (by decide +kernel) (by decide +kernel)
theorem dX11_gauss_53 : decode cX11_gauss 53 = .ok (.aload_n 0, 1) := dk_aload_n_0 (by decide +kernel)
theorem dX11_gauss_54 : decode cX11_gauss 54 = .ok (.iconst 2, 1) := dk_iconst_2 (by decide +kernel)
theorem dX11_gauss_55 : decode cX11_gauss 55 = .ok (.invokevirtual 103, 3) := dk_invokevirtual 103 (b1 := 0) (b2 := 103) (by decide +kernel) (by decide +kernel) (by decide +kernel) (by decide +kernel)
theorem dX11_gauss_58 : decode cX11_gauss 58 = .ok (.ireturn, 1) := dk_ireturn (by decide +kernel)
set_option maxRecDepth 20000 in
theorem vX11_gauss_0 {E : sm_E} {L : sm_S → Prop} {d : Nat} {x1 : Int32} {x2 : Int32} {x3 : Int32} {x4 : Int32}  {m : sm_M} {Q : Int32 → sm_M → Prop} (hly : ∀ S, L S → ly S) (hd : 6 ≤ d) 
  (h : sm_callI E L mX11_isSheet 1 0 0 [.int x1] m (fun r_2 m_1 =>
   (r_2 = 0 →
      sm_callI E L mX11_error 1 0 0 [.ref (sm_B E + 0), .int 1] m_1 (fun r_4 m_3 =>
      Q r_4 m_3)) ∧
   (¬ r_2 = 0 →
      sm_callI E L mX11_isSlot 1 0 0 [.int x2] m_1 (fun r_6 m_5 =>
      (r_6 = 0 →
         sm_callI E L mX11_error 1 0 0 [.ref (sm_B E + 0), .int 1] m_5 (fun r_8 m_7 =>
         Q r_8 m_7)) ∧
      (¬ r_6 = 0 →
         sm_callI E L mX11_isChoice 1 0 0 [.int x3] m_5 (fun r_10 m_9 =>
         (¬ r_10 = 0 →
            (vp_in x2 6) ∧ sm_callV E L mX2_draw 5 0 0 [.ref (sm_B E + 16), .ref (sm_B E + (77 + 4 * x2.toNatClampNeg)), .int x3] m_9 (fun m_12 =>
            sm_callI E L mX2_hasComponent 1 0 0 [.ref (sm_B E + 16), .int x4] m_12 (fun r_14 m_13 =>
            (¬ r_14 = 0 →
               (vp_in x1 4) ∧ sm_callI E L mX2_passesOf 1 0 0 [.ref (sm_B E + 16), .int x4] m_13 (fun r_17 m_16 =>
               sm_callV E L mX7_reset 2 0 0 [.ref (sm_B E + (101 + 2 * x1.toNatClampNeg)), .int 8, .int r_17] m_16 (fun m_19 =>
               gX11_gauss_90 E L d ([.ref (sm_B E + 0), .int x1, .int x2, .int x3, .int x4]) x4 (101 + 2 * x1.toNatClampNeg) r_17 0 m_19 Q))) ∧
            (r_14 = 0 →
               sm_callI E L mX11_error 1 0 0 [.ref (sm_B E + 0), .int 2] m_13 (fun r_22 m_21 =>
               Q r_22 m_21))))) ∧
         (r_10 = 0 →
            sm_callI E L mX11_error 1 0 0 [.ref (sm_B E + 0), .int 1] m_9 (fun r_24 m_23 =>
            Q r_24 m_23)))))))) :
  sm_callI E L mX11_gauss d 0 0 [.ref (sm_B E + 0), .int x1, .int x2, .int x3, .int x4] m Q := by
  refine sm_enter (by decide +kernel) (by simp [lg_sl, Value.category]) ?_
  refine sm_iload_n (Y := mX11_gauss) (pc := 0) 1 1 rfl rfl dX11_gauss_0 ?_
  refine sm_is_I (Y := mX11_gauss) (pc := 1) (As := [.int x1]) fX11_isSheet wRX11_254 rfl (Nat.le_trans (by decide) hd) (Nat.le_of_ble_eq_true rfl) ⟨Nat.le_refl _, Nat.le_refl _⟩ dX11_gauss_1 rfl (sm_monoI h (fun r_2 m_1 h => ?_))
  refine sm_if_eq (Y := mX11_gauss) (pc := 4) 21 (by decide) dX11_gauss_4 (fun hc => ?_) (fun hc => ?_)
  · replace h := h.1 hc
    refine sm_aload_n (Y := mX11_gauss) (pc := 21) 0 0 rfl rfl dX11_gauss_21 ?_
    refine sm_iconst (Y := mX11_gauss) (pc := 22) 1 (by decide) dX11_gauss_22 ?_
    refine sm_iv_I (Y := mX11_gauss) (pc := 23) (As := [.int 1]) (a := 0) fX11_error wRX11_103 (lk_0 hly) (by decide) rfl rfl rfl (Nat.le_trans (by decide) hd) (Nat.le_of_ble_eq_true rfl) ⟨Nat.le_refl _, Nat.le_refl _⟩ dX11_gauss_23 rfl (sm_monoI h (fun r_4 m_3 h => ?_))
    exact sm_iret (Y := mX11_gauss) (pc := 26) rfl rfl rfl dX11_gauss_26 ⟨_, rfl, h⟩
  · replace h := h.2 hc
    refine sm_iload_n (Y := mX11_gauss) (pc := 7) 2 2 rfl rfl dX11_gauss_7 ?_
    refine sm_is_I (Y := mX11_gauss) (pc := 8) (As := [.int x2]) fX11_isSlot wRX11_99 rfl (Nat.le_trans (by decide) hd) (Nat.le_of_ble_eq_true rfl) ⟨Nat.le_refl _, Nat.le_refl _⟩ dX11_gauss_8 rfl (sm_monoI h (fun r_6 m_5 h => ?_))
    refine sm_if_eq (Y := mX11_gauss) (pc := 11) 21 (by decide) dX11_gauss_11 (fun hc => ?_) (fun hc => ?_)
    · replace h := h.1 hc
      refine sm_aload_n (Y := mX11_gauss) (pc := 21) 0 0 rfl rfl dX11_gauss_21 ?_
      refine sm_iconst (Y := mX11_gauss) (pc := 22) 1 (by decide) dX11_gauss_22 ?_
      refine sm_iv_I (Y := mX11_gauss) (pc := 23) (As := [.int 1]) (a := 0) fX11_error wRX11_103 (lk_0 hly) (by decide) rfl rfl rfl (Nat.le_trans (by decide) hd) (Nat.le_of_ble_eq_true rfl) ⟨Nat.le_refl _, Nat.le_refl _⟩ dX11_gauss_23 rfl (sm_monoI h (fun r_8 m_7 h => ?_))
      exact sm_iret (Y := mX11_gauss) (pc := 26) rfl rfl rfl dX11_gauss_26 ⟨_, rfl, h⟩
    · replace h := h.2 hc
      refine sm_iload_n (Y := mX11_gauss) (pc := 14) 3 3 rfl rfl dX11_gauss_14 ?_
      refine sm_is_I (Y := mX11_gauss) (pc := 15) (As := [.int x3]) fX11_isChoice wRX11_148 rfl (Nat.le_trans (by decide) hd) (Nat.le_of_ble_eq_true rfl) ⟨Nat.le_refl _, Nat.le_refl _⟩ dX11_gauss_15 rfl (sm_monoI h (fun r_10 m_9 h => ?_))
      refine sm_if_ne (Y := mX11_gauss) (pc := 18) 27 (by decide) dX11_gauss_18 (fun hc => ?_) (fun hc => ?_)
      · replace h := h.1 hc
        refine sm_aload_n (Y := mX11_gauss) (pc := 27) 0 0 rfl rfl dX11_gauss_27 ?_
        refine gf_RX11_42 (Y := mX11_gauss) (pc := 28) (b := 16) rfl ((lk_0 hly) _) (lf_0_5 hly _) dX11_gauss_28 ?_
        refine sm_aload_n (Y := mX11_gauss) (pc := 31) 0 0 rfl rfl dX11_gauss_31 ?_
        refine gf_RX11_11 (Y := mX11_gauss) (pc := 32) (b := 1) rfl ((lk_0 hly) _) (lf_0_0 hly _) dX11_gauss_32 ?_
        refine sm_iload_n (Y := mX11_gauss) (pc := 35) 2 2 rfl rfl dX11_gauss_35 ?_
        obtain ⟨hn_11, h⟩ := h
        refine sm_aaldG (Y := mX11_gauss) (pc := 36) (b := (77 + 4 * x2.toNatClampNeg)) (la_1 hly _) hn_11 (ly_slotR hly (sm_inlt hn_11) _) dX11_gauss_36 ?_
        refine sm_iload_n (Y := mX11_gauss) (pc := 37) 3 3 rfl rfl dX11_gauss_37 ?_
        refine sm_iv_V (Y := mX11_gauss) (pc := 38) (As := [.ref (sm_B E + (77 + 4 * x2.toNatClampNeg)), .int x3]) (a := 16) fX2_draw wRX11_222 (lk_16 hly) (by decide) rfl rfl rfl (Nat.le_trans (by decide) hd) (Nat.le_of_ble_eq_true rfl) ⟨Nat.le_refl _, Nat.le_refl _⟩ dX11_gauss_38 rfl (sm_monoV h (fun m_12 h => ?_))
        refine sm_aload_n (Y := mX11_gauss) (pc := 41) 0 0 rfl rfl dX11_gauss_41 ?_
        refine gf_RX11_42 (Y := mX11_gauss) (pc := 42) (b := 16) rfl ((lk_0 hly) _) (lf_0_5 hly _) dX11_gauss_42 ?_
        refine sm_iload (Y := mX11_gauss) (pc := 45) 4 4 rfl dX11_gauss_45 ?_
        refine sm_iv_I (Y := mX11_gauss) (pc := 47) (As := [.int x4]) (a := 16) fX2_hasComponent wRX11_247 (lk_16 hly) (by decide) rfl rfl rfl (Nat.le_trans (by decide) hd) (Nat.le_of_ble_eq_true rfl) ⟨Nat.le_refl _, Nat.le_refl _⟩ dX11_gauss_47 rfl (sm_monoI h (fun r_14 m_13 h => ?_))
        refine sm_if_ne (Y := mX11_gauss) (pc := 50) 59 (by decide) dX11_gauss_50 (fun hc => ?_) (fun hc => ?_)
        · replace h := h.1 hc
          refine sm_aload_n (Y := mX11_gauss) (pc := 59) 0 0 rfl rfl dX11_gauss_59 ?_
          refine gf_RX11_76 (Y := mX11_gauss) (pc := 60) (b := 73) rfl ((lk_0 hly) _) (lf_0_10 hly _) dX11_gauss_60 ?_
          refine sm_iload_n (Y := mX11_gauss) (pc := 63) 1 1 rfl rfl dX11_gauss_63 ?_
          obtain ⟨hn_15, h⟩ := h
          refine sm_aaldS (Y := mX11_gauss) (pc := 64) (b := (101 + 2 * x1.toNatClampNeg)) (la_73 hly _) hn_15 (ly_sheetR hly (sm_inlt hn_15) _) dX11_gauss_64 ?_
          refine sm_astore (Y := mX11_gauss) (pc := 65) [(5, .ref (sm_B E + (101 + 2 * x1.toNatClampNeg))), (0, .ref (sm_B E + 0)), (1, .int x1), (2, .int x2), (3, .int x3), (4, .int x4)] 5 (by decide) rfl dX11_gauss_65 ?_
          refine sm_aload_n (Y := mX11_gauss) (pc := 67) 1 0 rfl rfl dX11_gauss_67 ?_
          refine gf_RX11_42 (Y := mX11_gauss) (pc := 68) (b := 16) rfl ((lk_0 hly) _) (lf_0_5 hly _) dX11_gauss_68 ?_
          refine sm_iload (Y := mX11_gauss) (pc := 71) 5 4 rfl dX11_gauss_71 ?_
          refine sm_iv_I (Y := mX11_gauss) (pc := 73) (As := [.int x4]) (a := 16) fX2_passesOf wRX11_257 (lk_16 hly) (by decide) rfl rfl rfl (Nat.le_trans (by decide) hd) (Nat.le_of_ble_eq_true rfl) ⟨Nat.le_refl _, Nat.le_refl _⟩ dX11_gauss_73 rfl (sm_monoI h (fun r_17 m_16 h => ?_))
          refine sm_istore0 (Y := mX11_gauss) (pc := 76) [(6, .int r_17), (5, .ref (sm_B E + (101 + 2 * x1.toNatClampNeg))), (0, .ref (sm_B E + 0)), (1, .int x1), (2, .int x2), (3, .int x3), (4, .int x4)] 6 (by decide) rfl dX11_gauss_76 ?_
          refine sm_aload (Y := mX11_gauss) (pc := 78) 1 5 rfl dX11_gauss_78 ?_
          refine sm_bipush (Y := mX11_gauss) (pc := 80) 8 (by decide) dX11_gauss_80 ?_
          refine sm_iload (Y := mX11_gauss) (pc := 82) 0 6 rfl dX11_gauss_82 ?_
          refine sm_iv_V (Y := mX11_gauss) (pc := 84) (As := [.int 8, .int r_17]) (a := (101 + 2 * x1.toNatClampNeg)) fX7_reset wRX11_260 (fun S hS => ((ly_sheetT hly (sm_inlt hn_15)) S hS).1) (by decide) rfl rfl rfl (Nat.le_trans (by decide) hd) (Nat.le_of_ble_eq_true rfl) ⟨Nat.le_refl _, Nat.le_refl _⟩ dX11_gauss_84 rfl (sm_monoV h (fun m_19 h => ?_))
          refine sm_iconst (Y := mX11_gauss) (pc := 87) 0 (by decide) dX11_gauss_87 ?_
          refine sm_istore0 (Y := mX11_gauss) (pc := 88) [(7, .int 0), (6, .int r_17), (5, .ref (sm_B E + (101 + 2 * x1.toNatClampNeg))), (0, .ref (sm_B E + 0)), (1, .int x1), (2, .int x2), (3, .int x3), (4, .int x4)] 7 (by decide) rfl dX11_gauss_88 ?_
          refine sm_sub [3, 7, 2, 1, 0] rfl ?_
          exact h
        · replace h := h.2 hc
          refine sm_aload_n (Y := mX11_gauss) (pc := 53) 0 0 rfl rfl dX11_gauss_53 ?_
          refine sm_iconst (Y := mX11_gauss) (pc := 54) 2 (by decide) dX11_gauss_54 ?_
          refine sm_iv_I (Y := mX11_gauss) (pc := 55) (As := [.int 2]) (a := 0) fX11_error wRX11_103 (lk_0 hly) (by decide) rfl rfl rfl (Nat.le_trans (by decide) hd) (Nat.le_of_ble_eq_true rfl) ⟨Nat.le_refl _, Nat.le_refl _⟩ dX11_gauss_55 rfl (sm_monoI h (fun r_22 m_21 h => ?_))
          exact sm_iret (Y := mX11_gauss) (pc := 58) rfl rfl rfl dX11_gauss_58 ⟨_, rfl, h⟩
      · replace h := h.2 hc
        refine sm_aload_n (Y := mX11_gauss) (pc := 21) 0 0 rfl rfl dX11_gauss_21 ?_
        refine sm_iconst (Y := mX11_gauss) (pc := 22) 1 (by decide) dX11_gauss_22 ?_
        refine sm_iv_I (Y := mX11_gauss) (pc := 23) (As := [.int 1]) (a := 0) fX11_error wRX11_103 (lk_0 hly) (by decide) rfl rfl rfl (Nat.le_trans (by decide) hd) (Nat.le_of_ble_eq_true rfl) ⟨Nat.le_refl _, Nat.le_refl _⟩ dX11_gauss_23 rfl (sm_monoI h (fun r_24 m_23 h => ?_))
        exact sm_iret (Y := mX11_gauss) (pc := 26) rfl rfl rfl dX11_gauss_26 ⟨_, rfl, h⟩
abbrev mX11_colours : sm_Y := (yX11_colours, cX11_colours, 4, (some FieldType.int))
theorem fX11_colours : sm_mi mX11_colours RX11 3 := ⟨sm_in 855 (by decide +kernel) (by decide +kernel), sm_in 853 (by decide +kernel) (by decide +kernel), sm_in 854 (by decide +kernel) (by decide +kernel), sm_in 82 (by decide +kernel) (by decide +kernel), rfl, ⟨by decide +kernel, by decide +kernel, by decide +kernel⟩, by decide⟩
theorem dX11_colours_0 : decode cX11_colours 0 = .ok (.iload_n 1, 1) := dk_iload_n_1 (by decide +kernel)
theorem dX11_colours_1 : decode cX11_colours 1 = .ok (.invokestatic 99, 3) := dk_invokestatic 99 (b1 := 0) (b2 := 99) (by decide +kernel) (by decide +kernel) (by decide +kernel) (by decide +kernel)
theorem dX11_colours_4 : decode cX11_colours 4 = .ok (.ifCond .eq 17, 3) := dk_ifCond_eq 17 (b1 := 0) (b2 := 17) (by decide +kernel) (by decide +kernel) (by decide +kernel) (by decide +kernel)
theorem dX11_colours_21 : decode cX11_colours 21 = .ok (.aload_n 0, 1) := dk_aload_n_0 (by decide +kernel)
theorem dX11_colours_22 : decode cX11_colours 22 = .ok (.iconst 1, 1) := dk_iconst_1 (by decide +kernel)
theorem dX11_colours_23 : decode cX11_colours 23 = .ok (.invokevirtual 103, 3) := dk_invokevirtual 103 (b1 := 0) (b2 := 103) (by decide +kernel) (by decide +kernel) (by decide +kernel) (by decide +kernel)
theorem dX11_colours_26 : decode cX11_colours 26 = .ok (.ireturn, 1) := dk_ireturn (by decide +kernel)
theorem dX11_colours_7 : decode cX11_colours 7 = .ok (.iload_n 2, 1) := dk_iload_n_2 (by decide +kernel)
theorem dX11_colours_8 : decode cX11_colours 8 = .ok (.invokestatic 148, 3) := dk_invokestatic 148 (b1 := 0) (b2 := 148) (by decide +kernel) (by decide +kernel) (by decide +kernel) (by decide +kernel)
theorem dX11_colours_11 : decode cX11_colours 11 = .ok (.ifCond .eq 10, 3) := dk_ifCond_eq 10 (b1 := 0) (b2 := 10) (by decide +kernel) (by decide +kernel) (by decide +kernel) (by decide +kernel)
theorem dX11_colours_14 : decode cX11_colours 14 = .ok (.iload_n 3, 1) := dk_iload_n_3 (by decide +kernel)
theorem wRX11_271 : Cond.methodLink RX11 271 yX1_serves ∈ sm_T := sm_in 856 (by decide +kernel) (by decide +kernel)
theorem dX11_colours_15 : decode cX11_colours 15 = .ok (.invokestatic 271, 3) := dk_invokestatic 271 (b1 := 1) (b2 := 15) (by decide +kernel) (by decide +kernel) (by decide +kernel) (by decide +kernel)
theorem dX11_colours_18 : decode cX11_colours 18 = .ok (.ifCond .ne 9, 3) := dk_ifCond_ne 9 (b1 := 0) (b2 := 9) (by decide +kernel) (by decide +kernel) (by decide +kernel) (by decide +kernel)
theorem dX11_colours_27 : decode cX11_colours 27 = .ok (.aload_n 0, 1) := dk_aload_n_0 (by decide +kernel)
theorem dX11_colours_28 : decode cX11_colours 28 = .ok (.getfield 42, 3) := dk_getfield 42 (b1 := 0) (b2 := 42) (by decide +kernel) (by decide +kernel) (by decide +kernel) (by decide +kernel)
theorem dX11_colours_31 : decode cX11_colours 31 = .ok (.aload_n 0, 1) := dk_aload_n_0 (by decide +kernel)
theorem dX11_colours_32 : decode cX11_colours 32 = .ok (.getfield 11, 3) := dk_getfield 11 (b1 := 0) (b2 := 11) (by decide +kernel) (by decide +kernel) (by decide +kernel) (by decide +kernel)
theorem dX11_colours_35 : decode cX11_colours 35 = .ok (.iload_n 1, 1) := dk_iload_n_1 (by decide +kernel)
theorem dX11_colours_36 : decode cX11_colours 36 = .ok (.aaload, 1) := dk_aaload (by decide +kernel)
theorem dX11_colours_37 : decode cX11_colours 37 = .ok (.iload_n 2, 1) := dk_iload_n_2 (by decide +kernel)
theorem dX11_colours_38 : decode cX11_colours 38 = .ok (.invokevirtual 222, 3) := dk_invokevirtual 222 (b1 := 0) (b2 := 222) (by decide +kernel) (by decide +kernel) (by decide +kernel) (by decide +kernel)
theorem dX11_colours_41 : decode cX11_colours 41 = .ok (.aload_n 0, 1) := dk_aload_n_0 (by decide +kernel)
theorem dX11_colours_42 : decode cX11_colours 42 = .ok (.getfield 49, 3) := dk_getfield 49 (b1 := 0) (b2 := 49) (by decide +kernel) (by decide +kernel) (by decide +kernel) (by decide +kernel)
theorem dX11_colours_45 : decode cX11_colours 45 = .ok (.aload_n 0, 1) := dk_aload_n_0 (by decide +kernel)
theorem dX11_colours_46 : decode cX11_colours 46 = .ok (.getfield 42, 3) := dk_getfield 42 (b1 := 0) (b2 := 42) (by decide +kernel) (by decide +kernel) (by decide +kernel) (by decide +kernel)
theorem dX11_colours_49 : decode cX11_colours 49 = .ok (.iload_n 3, 1) := dk_iload_n_3 (by decide +kernel)
theorem wRX11_274 : Cond.methodLink RX11 274 yX1_freedom ∈ sm_T := sm_in 859 (by decide +kernel) (by decide +kernel)
theorem dX11_colours_50 : decode cX11_colours 50 = .ok (.invokevirtual 274, 3) := dk_invokevirtual 274 (b1 := 1) (b2 := 18) (by decide +kernel) (by decide +kernel) (by decide +kernel) (by decide +kernel)
theorem dX11_colours_53 : decode cX11_colours 53 = .ok (.ireturn, 1) := dk_ireturn (by decide +kernel)
set_option maxRecDepth 20000 in
theorem vX11_colours_0 {E : sm_E} {L : sm_S → Prop} {d : Nat} {x1 : Int32} {x2 : Int32} {x3 : Int32}  {m : sm_M} {Q : Int32 → sm_M → Prop} (hly : ∀ S, L S → ly S) (hd : 6 ≤ d) 
  (h : sm_callI E L mX11_isSlot 1 0 0 [.int x1] m (fun r_2 m_1 =>
   (r_2 = 0 →
      sm_callI E L mX11_error 1 0 0 [.ref (sm_B E + 0), .int 1] m_1 (fun r_4 m_3 =>
      Q r_4 m_3)) ∧
   (¬ r_2 = 0 →
      sm_callI E L mX11_isChoice 1 0 0 [.int x2] m_1 (fun r_6 m_5 =>
      (r_6 = 0 →
         sm_callI E L mX11_error 1 0 0 [.ref (sm_B E + 0), .int 1] m_5 (fun r_8 m_7 =>
         Q r_8 m_7)) ∧
      (¬ r_6 = 0 →
         sm_callI E L mX1_serves 1 0 0 [.int x3] m_5 (fun r_10 m_9 =>
         (¬ r_10 = 0 →
            (vp_in x1 6) ∧ sm_callV E L mX2_draw 5 0 0 [.ref (sm_B E + 16), .ref (sm_B E + (77 + 4 * x1.toNatClampNeg)), .int x2] m_9 (fun m_12 =>
            sm_callI E L mX1_freedom 4 0 0 [.ref (sm_B E + 27), .ref (sm_B E + 16), .int x3] m_12 (fun r_14 m_13 =>
            Q r_14 m_13))) ∧
         (r_10 = 0 →
            sm_callI E L mX11_error 1 0 0 [.ref (sm_B E + 0), .int 1] m_9 (fun r_16 m_15 =>
            Q r_16 m_15)))))))) :
  sm_callI E L mX11_colours d 0 0 [.ref (sm_B E + 0), .int x1, .int x2, .int x3] m Q := by
  refine sm_enter (by decide +kernel) (by simp [lg_sl, Value.category]) ?_
  refine sm_iload_n (Y := mX11_colours) (pc := 0) 1 1 rfl rfl dX11_colours_0 ?_
  refine sm_is_I (Y := mX11_colours) (pc := 1) (As := [.int x1]) fX11_isSlot wRX11_99 rfl (Nat.le_trans (by decide) hd) (Nat.le_of_ble_eq_true rfl) ⟨Nat.le_refl _, Nat.le_refl _⟩ dX11_colours_1 rfl (sm_monoI h (fun r_2 m_1 h => ?_))
  refine sm_if_eq (Y := mX11_colours) (pc := 4) 21 (by decide) dX11_colours_4 (fun hc => ?_) (fun hc => ?_)
  · replace h := h.1 hc
    refine sm_aload_n (Y := mX11_colours) (pc := 21) 0 0 rfl rfl dX11_colours_21 ?_
    refine sm_iconst (Y := mX11_colours) (pc := 22) 1 (by decide) dX11_colours_22 ?_
    refine sm_iv_I (Y := mX11_colours) (pc := 23) (As := [.int 1]) (a := 0) fX11_error wRX11_103 (lk_0 hly) (by decide) rfl rfl rfl (Nat.le_trans (by decide) hd) (Nat.le_of_ble_eq_true rfl) ⟨Nat.le_refl _, Nat.le_refl _⟩ dX11_colours_23 rfl (sm_monoI h (fun r_4 m_3 h => ?_))
    exact sm_iret (Y := mX11_colours) (pc := 26) rfl rfl rfl dX11_colours_26 ⟨_, rfl, h⟩
  · replace h := h.2 hc
    refine sm_iload_n (Y := mX11_colours) (pc := 7) 2 2 rfl rfl dX11_colours_7 ?_
    refine sm_is_I (Y := mX11_colours) (pc := 8) (As := [.int x2]) fX11_isChoice wRX11_148 rfl (Nat.le_trans (by decide) hd) (Nat.le_of_ble_eq_true rfl) ⟨Nat.le_refl _, Nat.le_refl _⟩ dX11_colours_8 rfl (sm_monoI h (fun r_6 m_5 h => ?_))
    refine sm_if_eq (Y := mX11_colours) (pc := 11) 21 (by decide) dX11_colours_11 (fun hc => ?_) (fun hc => ?_)
    · replace h := h.1 hc
      refine sm_aload_n (Y := mX11_colours) (pc := 21) 0 0 rfl rfl dX11_colours_21 ?_
      refine sm_iconst (Y := mX11_colours) (pc := 22) 1 (by decide) dX11_colours_22 ?_
      refine sm_iv_I (Y := mX11_colours) (pc := 23) (As := [.int 1]) (a := 0) fX11_error wRX11_103 (lk_0 hly) (by decide) rfl rfl rfl (Nat.le_trans (by decide) hd) (Nat.le_of_ble_eq_true rfl) ⟨Nat.le_refl _, Nat.le_refl _⟩ dX11_colours_23 rfl (sm_monoI h (fun r_8 m_7 h => ?_))
      exact sm_iret (Y := mX11_colours) (pc := 26) rfl rfl rfl dX11_colours_26 ⟨_, rfl, h⟩
    · replace h := h.2 hc
      refine sm_iload_n (Y := mX11_colours) (pc := 14) 3 3 rfl rfl dX11_colours_14 ?_
      refine sm_is_I (Y := mX11_colours) (pc := 15) (As := [.int x3]) fX1_serves wRX11_271 rfl (Nat.le_trans (by decide) hd) (Nat.le_of_ble_eq_true rfl) ⟨Nat.le_refl _, Nat.le_refl _⟩ dX11_colours_15 rfl (sm_monoI h (fun r_10 m_9 h => ?_))
      refine sm_if_ne (Y := mX11_colours) (pc := 18) 27 (by decide) dX11_colours_18 (fun hc => ?_) (fun hc => ?_)
      · replace h := h.1 hc
        refine sm_aload_n (Y := mX11_colours) (pc := 27) 0 0 rfl rfl dX11_colours_27 ?_
        refine gf_RX11_42 (Y := mX11_colours) (pc := 28) (b := 16) rfl ((lk_0 hly) _) (lf_0_5 hly _) dX11_colours_28 ?_
        refine sm_aload_n (Y := mX11_colours) (pc := 31) 0 0 rfl rfl dX11_colours_31 ?_
        refine gf_RX11_11 (Y := mX11_colours) (pc := 32) (b := 1) rfl ((lk_0 hly) _) (lf_0_0 hly _) dX11_colours_32 ?_
        refine sm_iload_n (Y := mX11_colours) (pc := 35) 1 1 rfl rfl dX11_colours_35 ?_
        obtain ⟨hn_11, h⟩ := h
        refine sm_aaldG (Y := mX11_colours) (pc := 36) (b := (77 + 4 * x1.toNatClampNeg)) (la_1 hly _) hn_11 (ly_slotR hly (sm_inlt hn_11) _) dX11_colours_36 ?_
        refine sm_iload_n (Y := mX11_colours) (pc := 37) 2 2 rfl rfl dX11_colours_37 ?_
        refine sm_iv_V (Y := mX11_colours) (pc := 38) (As := [.ref (sm_B E + (77 + 4 * x1.toNatClampNeg)), .int x2]) (a := 16) fX2_draw wRX11_222 (lk_16 hly) (by decide) rfl rfl rfl (Nat.le_trans (by decide) hd) (Nat.le_of_ble_eq_true rfl) ⟨Nat.le_refl _, Nat.le_refl _⟩ dX11_colours_38 rfl (sm_monoV h (fun m_12 h => ?_))
        refine sm_aload_n (Y := mX11_colours) (pc := 41) 0 0 rfl rfl dX11_colours_41 ?_
        refine gf_RX11_49 (Y := mX11_colours) (pc := 42) (b := 27) rfl ((lk_0 hly) _) (lf_0_6 hly _) dX11_colours_42 ?_
        refine sm_aload_n (Y := mX11_colours) (pc := 45) 0 0 rfl rfl dX11_colours_45 ?_
        refine gf_RX11_42 (Y := mX11_colours) (pc := 46) (b := 16) rfl ((lk_0 hly) _) (lf_0_5 hly _) dX11_colours_46 ?_
        refine sm_iload_n (Y := mX11_colours) (pc := 49) 3 3 rfl rfl dX11_colours_49 ?_
        refine sm_iv_I (Y := mX11_colours) (pc := 50) (As := [.ref (sm_B E + 16), .int x3]) (a := 27) fX1_freedom wRX11_274 (lk_27 hly) (by decide) rfl rfl rfl (Nat.le_trans (by decide) hd) (Nat.le_of_ble_eq_true rfl) ⟨Nat.le_refl _, Nat.le_refl _⟩ dX11_colours_50 rfl (sm_monoI h (fun r_14 m_13 h => ?_))
        exact sm_iret (Y := mX11_colours) (pc := 53) rfl rfl rfl dX11_colours_53 ⟨_, rfl, h⟩
      · replace h := h.2 hc
        refine sm_aload_n (Y := mX11_colours) (pc := 21) 0 0 rfl rfl dX11_colours_21 ?_
        refine sm_iconst (Y := mX11_colours) (pc := 22) 1 (by decide) dX11_colours_22 ?_
        refine sm_iv_I (Y := mX11_colours) (pc := 23) (As := [.int 1]) (a := 0) fX11_error wRX11_103 (lk_0 hly) (by decide) rfl rfl rfl (Nat.le_trans (by decide) hd) (Nat.le_of_ble_eq_true rfl) ⟨Nat.le_refl _, Nat.le_refl _⟩ dX11_colours_23 rfl (sm_monoI h (fun r_16 m_15 h => ?_))
        exact sm_iret (Y := mX11_colours) (pc := 26) rfl rfl rfl dX11_colours_26 ⟨_, rfl, h⟩
abbrev mX11_name : sm_Y := (yX11_name, cX11_name, 7, (some FieldType.int))
theorem fX11_name : sm_mi mX11_name RX11 3 := ⟨sm_in 897 (by decide +kernel) (by decide +kernel), sm_in 895 (by decide +kernel) (by decide +kernel), sm_in 896 (by decide +kernel) (by decide +kernel), sm_in 82 (by decide +kernel) (by decide +kernel), rfl, ⟨by decide +kernel, by decide +kernel, by decide +kernel⟩, by decide⟩
theorem dX11_name_0 : decode cX11_name 0 = .ok (.iload_n 1, 1) := dk_iload_n_1 (by decide +kernel)
theorem dX11_name_1 : decode cX11_name 1 = .ok (.invokestatic 99, 3) := dk_invokestatic 99 (b1 := 0) (b2 := 99) (by decide +kernel) (by decide +kernel) (by decide +kernel) (by decide +kernel)
theorem dX11_name_4 : decode cX11_name 4 = .ok (.ifCond .eq 20, 3) := dk_ifCond_eq 20 (b1 := 0) (b2 := 20) (by decide +kernel) (by decide +kernel) (by decide +kernel) (by decide +kernel)
theorem dX11_name_24 : decode cX11_name 24 = .ok (.aload_n 0, 1) := dk_aload_n_0 (by decide +kernel)
theorem dX11_name_25 : decode cX11_name 25 = .ok (.iconst 1, 1) := dk_iconst_1 (by decide +kernel)
theorem dX11_name_26 : decode cX11_name 26 = .ok (.invokevirtual 103, 3) := dk_invokevirtual 103 (b1 := 0) (b2 := 103) (by decide +kernel) (by decide +kernel) (by decide +kernel) (by decide +kernel)
theorem dX11_name_29 : decode cX11_name 29 = .ok (.ireturn, 1) := dk_ireturn (by decide +kernel)
theorem dX11_name_7 : decode cX11_name 7 = .ok (.iload_n 2, 1) := dk_iload_n_2 (by decide +kernel)
theorem dX11_name_8 : decode cX11_name 8 = .ok (.invokestatic 148, 3) := dk_invokestatic 148 (b1 := 0) (b2 := 148) (by decide +kernel) (by decide +kernel) (by decide +kernel) (by decide +kernel)
theorem dX11_name_11 : decode cX11_name 11 = .ok (.ifCond .eq 13, 3) := dk_ifCond_eq 13 (b1 := 0) (b2 := 13) (by decide +kernel) (by decide +kernel) (by decide +kernel) (by decide +kernel)
theorem dX11_name_14 : decode cX11_name 14 = .ok (.iload_n 3, 1) := dk_iload_n_3 (by decide +kernel)
theorem dX11_name_15 : decode cX11_name 15 = .ok (.ifCond .lt 9, 3) := dk_ifCond_lt 9 (b1 := 0) (b2 := 9) (by decide +kernel) (by decide +kernel) (by decide +kernel) (by decide +kernel)
theorem dX11_name_18 : decode cX11_name 18 = .ok (.iload_n 3, 1) := dk_iload_n_3 (by decide +kernel)
theorem dX11_name_19 : decode cX11_name 19 = .ok (.bipush 6, 2) := dk_bipush 6 (b := 6) (by decide +kernel) (by decide +kernel) (by decide +kernel)
theorem dX11_name_21 : decode cX11_name 21 = .ok (.if_icmp .le 9, 3) := dk_if_icmp_le 9 (b1 := 0) (b2 := 9) (by decide +kernel) (by decide +kernel) (by decide +kernel) (by decide +kernel)
theorem dX11_name_30 : decode cX11_name 30 = .ok (.aload_n 0, 1) := dk_aload_n_0 (by decide +kernel)
theorem dX11_name_31 : decode cX11_name 31 = .ok (.getfield 11, 3) := dk_getfield 11 (b1 := 0) (b2 := 11) (by decide +kernel) (by decide +kernel) (by decide +kernel) (by decide +kernel)
theorem dX11_name_34 : decode cX11_name 34 = .ok (.iload_n 1, 1) := dk_iload_n_1 (by decide +kernel)
theorem dX11_name_35 : decode cX11_name 35 = .ok (.aaload, 1) := dk_aaload (by decide +kernel)
theorem dX11_name_36 : decode cX11_name 36 = .ok (.astore 4, 2) := dk_astore 4 (b := 4) (by decide +kernel) (by decide +kernel) (by decide +kernel)
theorem dX11_name_38 : decode cX11_name 38 = .ok (.aload 4, 2) := dk_aload 4 (b := 4) (by decide +kernel) (by decide +kernel) (by decide +kernel)
theorem dX11_name_40 : decode cX11_name 40 = .ok (.getfield 129, 3) := dk_getfield 129 (b1 := 0) (b2 := 129) (by decide +kernel) (by decide +kernel) (by decide +kernel) (by decide +kernel)
theorem dX11_name_43 : decode cX11_name 43 = .ok (.ifCond .ne 9, 3) := dk_ifCond_ne 9 (b1 := 0) (b2 := 9) (by decide +kernel) (by decide +kernel) (by decide +kernel) (by decide +kernel)
theorem dX11_name_52 : decode cX11_name 52 = .ok (.aload 4, 2) := dk_aload 4 (b := 4) (by decide +kernel) (by decide +kernel) (by decide +kernel)
theorem dX11_name_54 : decode cX11_name 54 = .ok (.iload_n 2, 1) := dk_iload_n_2 (by decide +kernel)
theorem wRX11_278 : Cond.methodLink RX11 278 yX11_nameOf ∈ sm_T := sm_in 898 (by decide +kernel) (by decide +kernel)
abbrev mX11_nameOf : sm_Y := (yX11_nameOf, cX11_nameOf, 2, (some FieldType.long))
theorem fX11_nameOf : sm_mt mX11_nameOf 2 := ⟨sm_in 900 (by decide +kernel) (by decide +kernel), sm_in 899 (by decide +kernel) (by decide +kernel), sm_in 82 (by decide +kernel) (by decide +kernel), ⟨by decide +kernel, by decide +kernel, by decide +kernel⟩, by decide⟩
theorem dX11_name_55 : decode cX11_name 55 = .ok (.invokestatic 278, 3) := dk_invokestatic 278 (b1 := 1) (b2 := 22) (by decide +kernel) (by decide +kernel) (by decide +kernel) (by decide +kernel)
theorem dX11_name_58 : decode cX11_name 58 = .ok (.lstore 5, 2) := dk_lstore 5 (b := 5) (by decide +kernel) (by decide +kernel) (by decide +kernel)
theorem dX11_name_60 : decode cX11_name 60 = .ok (.iload_n 3, 1) := dk_iload_n_3 (by decide +kernel)
theorem dX11_name_61 : decode cX11_name 61 = .ok (.tableswitch 77 0 4 #[35, 41, 47, 53, 60], 35) := by decide +kernel
theorem dX11_name_96 : decode cX11_name 96 = .ok (.lload 5, 2) := dk_lload 5 (b := 5) (by decide +kernel) (by decide +kernel) (by decide +kernel)
theorem wRX11_282 : Cond.methodLink RX11 282 yX6_topOf ∈ sm_T := sm_in 916 (by decide +kernel) (by decide +kernel)
theorem dX11_name_98 : decode cX11_name 98 = .ok (.invokestatic 282, 3) := dk_invokestatic 282 (b1 := 1) (b2 := 26) (by decide +kernel) (by decide +kernel) (by decide +kernel) (by decide +kernel)
theorem dX11_name_101 : decode cX11_name 101 = .ok (.ireturn, 1) := dk_ireturn (by decide +kernel)
theorem dX11_name_102 : decode cX11_name 102 = .ok (.lload 5, 2) := dk_lload 5 (b := 5) (by decide +kernel) (by decide +kernel) (by decide +kernel)
theorem wRX11_288 : Cond.methodLink RX11 288 yX6_bottomOf ∈ sm_T := sm_in 919 (by decide +kernel) (by decide +kernel)
theorem dX11_name_104 : decode cX11_name 104 = .ok (.invokestatic 288, 3) := dk_invokestatic 288 (b1 := 1) (b2 := 32) (by decide +kernel) (by decide +kernel) (by decide +kernel) (by decide +kernel)
theorem dX11_name_107 : decode cX11_name 107 = .ok (.ireturn, 1) := dk_ireturn (by decide +kernel)
theorem dX11_name_108 : decode cX11_name 108 = .ok (.lload 5, 2) := dk_lload 5 (b := 5) (by decide +kernel) (by decide +kernel) (by decide +kernel)
theorem wRX11_291 : Cond.methodLink RX11 291 yX6_sizeOf ∈ sm_T := sm_in 922 (by decide +kernel) (by decide +kernel)
theorem dX11_name_110 : decode cX11_name 110 = .ok (.invokestatic 291, 3) := dk_invokestatic 291 (b1 := 1) (b2 := 35) (by decide +kernel) (by decide +kernel) (by decide +kernel) (by decide +kernel)
theorem dX11_name_113 : decode cX11_name 113 = .ok (.ireturn, 1) := dk_ireturn (by decide +kernel)
theorem dX11_name_114 : decode cX11_name 114 = .ok (.aload_n 0, 1) := dk_aload_n_0 (by decide +kernel)
theorem dX11_name_115 : decode cX11_name 115 = .ok (.lload 5, 2) := dk_lload 5 (b := 5) (by decide +kernel) (by decide +kernel) (by decide +kernel)
theorem wRX11_294 : Cond.methodLink RX11 294 yX11_genusOf ∈ sm_T := sm_in 927 (by decide +kernel) (by decide +kernel)
abbrev mX11_genusOf : sm_Y := (yX11_genusOf, cX11_genusOf, 6, (some FieldType.int))
theorem fX11_genusOf : sm_mi mX11_genusOf RX11 1 := ⟨sm_in 930 (by decide +kernel) (by decide +kernel), sm_in 929 (by decide +kernel) (by decide +kernel), sm_in 31 (by decide +kernel) (by decide +kernel), sm_in 82 (by decide +kernel) (by decide +kernel), rfl, ⟨by decide +kernel, by decide +kernel, by decide +kernel⟩, by decide⟩
theorem dX11_name_117 : decode cX11_name 117 = .ok (.invokevirtual 294, 3) := dk_invokevirtual 294 (b1 := 1) (b2 := 38) (by decide +kernel) (by decide +kernel) (by decide +kernel) (by decide +kernel)
theorem dX11_name_120 : decode cX11_name 120 = .ok (.ireturn, 1) := dk_ireturn (by decide +kernel)
theorem dX11_name_121 : decode cX11_name 121 = .ok (.lload 5, 2) := dk_lload 5 (b := 5) (by decide +kernel) (by decide +kernel) (by decide +kernel)
theorem wRX11_297 : Cond.methodLink RX11 297 yX6_glassOf ∈ sm_T := sm_in 931 (by decide +kernel) (by decide +kernel)
theorem dX11_name_123 : decode cX11_name 123 = .ok (.invokestatic 297, 3) := dk_invokestatic 297 (b1 := 1) (b2 := 41) (by decide +kernel) (by decide +kernel) (by decide +kernel) (by decide +kernel)
theorem dX11_name_126 : decode cX11_name 126 = .ok (.lload 5, 2) := dk_lload 5 (b := 5) (by decide +kernel) (by decide +kernel) (by decide +kernel)
theorem dX11_name_128 : decode cX11_name 128 = .ok (.lcmp, 1) := dk_lcmp (by decide +kernel)
theorem dX11_name_129 : decode cX11_name 129 = .ok (.ifCond .ne 7, 3) := dk_ifCond_ne 7 (b1 := 0) (b2 := 7) (by decide +kernel) (by decide +kernel) (by decide +kernel) (by decide +kernel)
theorem dX11_name_136 : decode cX11_name 136 = .ok (.iconst 0, 1) := dk_iconst_0 (by decide +kernel)
theorem dX11_name_137 : decode cX11_name 137 = .ok (.ireturn, 1) := dk_ireturn (by decide +kernel)
theorem dX11_name_132 : decode cX11_name 132 = .ok (.iconst 1, 1) := dk_iconst_1 (by decide +kernel)
theorem dX11_name_133 : decode cX11_name 133 = .ok (.goto 4, 3) := dk_goto 4 (b1 := 0) (b2 := 4) (by decide +kernel) (by decide +kernel) (by decide +kernel) (by decide +kernel)
theorem dX11_name_138 : decode cX11_name 138 = .ok (.aload_n 0, 1) := dk_aload_n_0 (by decide +kernel)
theorem dX11_name_139 : decode cX11_name 139 = .ok (.lload 5, 2) := dk_lload 5 (b := 5) (by decide +kernel) (by decide +kernel) (by decide +kernel)
theorem dX11_name_141 : decode cX11_name 141 = .ok (.iload_n 3, 1) := dk_iload_n_3 (by decide +kernel)
theorem dX11_name_142 : decode cX11_name 142 = .ok (.bipush 6, 2) := dk_bipush 6 (b := 6) (by decide +kernel) (by decide +kernel) (by decide +kernel)
theorem dX11_name_144 : decode cX11_name 144 = .ok (.if_icmp .ne 7, 3) := dk_if_icmp_ne 7 (b1 := 0) (b2 := 7) (by decide +kernel) (by decide +kernel) (by decide +kernel) (by decide +kernel)
theorem dX11_name_151 : decode cX11_name 151 = .ok (.iconst 0, 1) := dk_iconst_0 (by decide +kernel)
theorem wRX11_301 : Cond.methodLink RX11 301 yX11_unlinked ∈ sm_T := sm_in 935 (by decide +kernel) (by decide +kernel)
abbrev mX11_unlinked : sm_Y := (yX11_unlinked, cX11_unlinked, 5, (some FieldType.int))
theorem fX11_unlinked : sm_mi mX11_unlinked RX11 2 := ⟨sm_in 938 (by decide +kernel) (by decide +kernel), sm_in 937 (by decide +kernel) (by decide +kernel), sm_in 32 (by decide +kernel) (by decide +kernel), sm_in 82 (by decide +kernel) (by decide +kernel), rfl, ⟨by decide +kernel, by decide +kernel, by decide +kernel⟩, by decide⟩
theorem dX11_name_152 : decode cX11_name 152 = .ok (.invokevirtual 301, 3) := dk_invokevirtual 301 (b1 := 1) (b2 := 45) (by decide +kernel) (by decide +kernel) (by decide +kernel) (by decide +kernel)
theorem dX11_name_155 : decode cX11_name 155 = .ok (.ireturn, 1) := dk_ireturn (by decide +kernel)
theorem dX11_name_147 : decode cX11_name 147 = .ok (.iconst 1, 1) := dk_iconst_1 (by decide +kernel)
theorem dX11_name_148 : decode cX11_name 148 = .ok (.goto 4, 3) := dk_goto 4 (b1 := 0) (b2 := 4) (by decide +kernel) (by decide +kernel) (by decide +kernel) (by decide +kernel)
theorem dX11_name_46 : decode cX11_name 46 = .ok (.aload_n 0, 1) := dk_aload_n_0 (by decide +kernel)
theorem dX11_name_47 : decode cX11_name 47 = .ok (.iconst 3, 1) := dk_iconst_3 (by decide +kernel)
theorem dX11_name_48 : decode cX11_name 48 = .ok (.invokevirtual 103, 3) := dk_invokevirtual 103 (b1 := 0) (b2 := 103) (by decide +kernel) (by decide +kernel) (by decide +kernel) (by decide +kernel)
theorem dX11_name_51 : decode cX11_name 51 = .ok (.ireturn, 1) := dk_ireturn (by decide +kernel)
set_option maxRecDepth 20000 in
theorem vX11_name_0 {E : sm_E} {L : sm_S → Prop} {d : Nat} {x1 : Int32} {x2 : Int32} {x3 : Int32}  {m : sm_M} {Q : Int32 → sm_M → Prop} (hly : ∀ S, L S → ly S) (hd : 63 ≤ d) 
  (h : sm_callI E L mX11_isSlot 1 0 0 [.int x1] m (fun r_2 m_1 =>
   (r_2 = 0 →
      sm_callI E L mX11_error 1 0 0 [.ref (sm_B E + 0), .int 1] m_1 (fun r_4 m_3 =>
      Q r_4 m_3)) ∧
   (¬ r_2 = 0 →
      sm_callI E L mX11_isChoice 1 0 0 [.int x2] m_1 (fun r_6 m_5 =>
      (r_6 = 0 →
         sm_callI E L mX11_error 1 0 0 [.ref (sm_B E + 0), .int 1] m_5 (fun r_8 m_7 =>
         Q r_8 m_7)) ∧
      (¬ r_6 = 0 →
         (x3 < 0 →
            sm_callI E L mX11_error 1 0 0 [.ref (sm_B E + 0), .int 1] m_5 (fun r_10 m_9 =>
            Q r_10 m_9)) ∧
         (¬ x3 < 0 →
            (x3 ≤ 6 →
               (vp_in x1 6) ∧ (¬ (m_5.1 (77 + 4 * x1.toNatClampNeg) 7) = 0 →
                  sm_callJ E L mX11_nameOf 3 0 0 [.ref (sm_B E + (77 + 4 * x1.toNatClampNeg)), .int x2] m_5 (fun r_13 m_12 =>
                  (x3 = 0 →
                     sm_callI E L mX6_topOf 1 0 0 [.long r_13] m_12 (fun r_16 m_15 =>
                     Q r_16 m_15)) ∧
                  (x3 = 1 →
                     sm_callI E L mX6_bottomOf 1 0 0 [.long r_13] m_12 (fun r_18 m_17 =>
                     Q r_18 m_17)) ∧
                  (x3 = 2 →
                     sm_callI E L mX6_sizeOf 2 0 0 [.long r_13] m_12 (fun r_20 m_19 =>
                     Q r_20 m_19)) ∧
                  (x3 = 3 →
                     sm_callI E L mX11_genusOf 4 0 0 [.ref (sm_B E + 0), .long r_13] m_12 (fun r_22 m_21 =>
                     Q r_22 m_21)) ∧
                  (x3 = 4 →
                     sm_callJ E L mX6_glassOf 3 0 0 [.long r_13] m_12 (fun r_24 m_23 =>
                     (¬ r_24 = r_13 →
                        Q 0 m_23) ∧
                     (r_24 = r_13 →
                        Q 1 m_23))) ∧
                  ((¬ x3 = 0 ∧ ¬ x3 = 1 ∧ ¬ x3 = 2 ∧ ¬ x3 = 3 ∧ ¬ x3 = 4) →
                     (¬ x3 = 6 →
                     sm_callI E L mX11_unlinked 62 0 0 [.ref (sm_B E + 0), .long r_13, .int 0] m_12 (fun r_26 m_25 =>
                     Q r_26 m_25)) ∧
                  (x3 = 6 →
                     sm_callI E L mX11_unlinked 62 0 0 [.ref (sm_B E + 0), .long r_13, .int 1] m_12 (fun r_28 m_27 =>
                     Q r_28 m_27))))) ∧
               ((m_5.1 (77 + 4 * x1.toNatClampNeg) 7) = 0 →
                  sm_callI E L mX11_error 1 0 0 [.ref (sm_B E + 0), .int 3] m_5 (fun r_30 m_29 =>
                  Q r_30 m_29))) ∧
            (¬ x3 ≤ 6 →
               sm_callI E L mX11_error 1 0 0 [.ref (sm_B E + 0), .int 1] m_5 (fun r_32 m_31 =>
               Q r_32 m_31)))))))) :
  sm_callI E L mX11_name d 0 0 [.ref (sm_B E + 0), .int x1, .int x2, .int x3] m Q := by
  refine sm_enter (by decide +kernel) (by simp [lg_sl, Value.category]) ?_
  refine sm_iload_n (Y := mX11_name) (pc := 0) 1 1 rfl rfl dX11_name_0 ?_
  refine sm_is_I (Y := mX11_name) (pc := 1) (As := [.int x1]) fX11_isSlot wRX11_99 rfl (Nat.le_trans (by decide) hd) (Nat.le_of_ble_eq_true rfl) ⟨Nat.le_refl _, Nat.le_refl _⟩ dX11_name_1 rfl (sm_monoI h (fun r_2 m_1 h => ?_))
  refine sm_if_eq (Y := mX11_name) (pc := 4) 24 (by decide) dX11_name_4 (fun hc => ?_) (fun hc => ?_)
  · replace h := h.1 hc
    refine sm_aload_n (Y := mX11_name) (pc := 24) 0 0 rfl rfl dX11_name_24 ?_
    refine sm_iconst (Y := mX11_name) (pc := 25) 1 (by decide) dX11_name_25 ?_
    refine sm_iv_I (Y := mX11_name) (pc := 26) (As := [.int 1]) (a := 0) fX11_error wRX11_103 (lk_0 hly) (by decide) rfl rfl rfl (Nat.le_trans (by decide) hd) (Nat.le_of_ble_eq_true rfl) ⟨Nat.le_refl _, Nat.le_refl _⟩ dX11_name_26 rfl (sm_monoI h (fun r_4 m_3 h => ?_))
    exact sm_iret (Y := mX11_name) (pc := 29) rfl rfl rfl dX11_name_29 ⟨_, rfl, h⟩
  · replace h := h.2 hc
    refine sm_iload_n (Y := mX11_name) (pc := 7) 2 2 rfl rfl dX11_name_7 ?_
    refine sm_is_I (Y := mX11_name) (pc := 8) (As := [.int x2]) fX11_isChoice wRX11_148 rfl (Nat.le_trans (by decide) hd) (Nat.le_of_ble_eq_true rfl) ⟨Nat.le_refl _, Nat.le_refl _⟩ dX11_name_8 rfl (sm_monoI h (fun r_6 m_5 h => ?_))
    refine sm_if_eq (Y := mX11_name) (pc := 11) 24 (by decide) dX11_name_11 (fun hc => ?_) (fun hc => ?_)
    · replace h := h.1 hc
      refine sm_aload_n (Y := mX11_name) (pc := 24) 0 0 rfl rfl dX11_name_24 ?_
      refine sm_iconst (Y := mX11_name) (pc := 25) 1 (by decide) dX11_name_25 ?_
      refine sm_iv_I (Y := mX11_name) (pc := 26) (As := [.int 1]) (a := 0) fX11_error wRX11_103 (lk_0 hly) (by decide) rfl rfl rfl (Nat.le_trans (by decide) hd) (Nat.le_of_ble_eq_true rfl) ⟨Nat.le_refl _, Nat.le_refl _⟩ dX11_name_26 rfl (sm_monoI h (fun r_8 m_7 h => ?_))
      exact sm_iret (Y := mX11_name) (pc := 29) rfl rfl rfl dX11_name_29 ⟨_, rfl, h⟩
    · replace h := h.2 hc
      refine sm_iload_n (Y := mX11_name) (pc := 14) 3 3 rfl rfl dX11_name_14 ?_
      refine sm_if_lt (Y := mX11_name) (pc := 15) 24 (by decide) dX11_name_15 (fun hc => ?_) (fun hc => ?_)
      · replace h := h.1 hc
        refine sm_aload_n (Y := mX11_name) (pc := 24) 0 0 rfl rfl dX11_name_24 ?_
        refine sm_iconst (Y := mX11_name) (pc := 25) 1 (by decide) dX11_name_25 ?_
        refine sm_iv_I (Y := mX11_name) (pc := 26) (As := [.int 1]) (a := 0) fX11_error wRX11_103 (lk_0 hly) (by decide) rfl rfl rfl (Nat.le_trans (by decide) hd) (Nat.le_of_ble_eq_true rfl) ⟨Nat.le_refl _, Nat.le_refl _⟩ dX11_name_26 rfl (sm_monoI h (fun r_10 m_9 h => ?_))
        exact sm_iret (Y := mX11_name) (pc := 29) rfl rfl rfl dX11_name_29 ⟨_, rfl, h⟩
      · replace h := h.2 hc
        refine sm_iload_n (Y := mX11_name) (pc := 18) 3 3 rfl rfl dX11_name_18 ?_
        refine sm_bipush (Y := mX11_name) (pc := 19) 6 (by decide) dX11_name_19 ?_
        refine sm_icmp_le (Y := mX11_name) (pc := 21) 30 (by decide) dX11_name_21 (fun hc => ?_) (fun hc => ?_)
        · replace h := h.1 hc
          refine sm_aload_n (Y := mX11_name) (pc := 30) 0 0 rfl rfl dX11_name_30 ?_
          refine gf_RX11_11 (Y := mX11_name) (pc := 31) (b := 1) rfl ((lk_0 hly) _) (lf_0_0 hly _) dX11_name_31 ?_
          refine sm_iload_n (Y := mX11_name) (pc := 34) 1 1 rfl rfl dX11_name_34 ?_
          obtain ⟨hn_11, h⟩ := h
          refine sm_aaldG (Y := mX11_name) (pc := 35) (b := (77 + 4 * x1.toNatClampNeg)) (la_1 hly _) hn_11 (ly_slotR hly (sm_inlt hn_11) _) dX11_name_35 ?_
          refine sm_astore (Y := mX11_name) (pc := 36) [(4, .ref (sm_B E + (77 + 4 * x1.toNatClampNeg))), (0, .ref (sm_B E + 0)), (1, .int x1), (2, .int x2), (3, .int x3)] 4 (by decide) rfl dX11_name_36 ?_
          refine sm_aload (Y := mX11_name) (pc := 38) 0 4 rfl dX11_name_38 ?_
          refine gf_RX11_129 (Y := mX11_name) (pc := 40) rfl ((fun S hS => ((ly_slotT hly (sm_inlt hn_11)) S hS).1) _) dX11_name_40 ?_
          refine sm_if_ne (Y := mX11_name) (pc := 43) 52 (by decide) dX11_name_43 (fun hc => ?_) (fun hc => ?_)
          · replace h := h.1 hc
            refine sm_aload (Y := mX11_name) (pc := 52) 0 4 rfl dX11_name_52 ?_
            refine sm_iload_n (Y := mX11_name) (pc := 54) 3 2 rfl rfl dX11_name_54 ?_
            refine sm_is_J (Y := mX11_name) (pc := 55) (As := [.ref (sm_B E + (77 + 4 * x1.toNatClampNeg)), .int x2]) fX11_nameOf wRX11_278 rfl (Nat.le_trans (by decide) hd) (Nat.le_of_ble_eq_true rfl) ⟨Nat.le_refl _, Nat.le_refl _⟩ dX11_name_55 rfl (sm_monoJ h (fun r_13 m_12 h => ?_))
            refine sm_lstore0 (Y := mX11_name) (pc := 58) [(5, .long r_13), (4, .ref (sm_B E + (77 + 4 * x1.toNatClampNeg))), (0, .ref (sm_B E + 0)), (1, .int x1), (2, .int x2), (3, .int x3)] 5 (by decide) rfl dX11_name_58 ?_
            refine sm_iload_n (Y := mX11_name) (pc := 60) 5 3 rfl rfl dX11_name_60 ?_
            by_cases hs61_0 : x3 = 0
            · refine sm_tableIn (Y := mX11_name) (pc := 61) 96 (by rw [hs61_0]; decide) (by rw [hs61_0]; decide) (by first | (rw [hs61_0]; done) | (rw [hs61_0]; rfl)) (by decide) dX11_name_61 ?_
              replace h := h.1 hs61_0
              refine sm_lload (Y := mX11_name) (pc := 96) 0 5 rfl dX11_name_96 ?_
              refine sm_is_I (Y := mX11_name) (pc := 98) (As := [.long r_13]) fX6_topOf wRX11_282 rfl (Nat.le_trans (by decide) hd) (Nat.le_of_ble_eq_true rfl) ⟨Nat.le_refl _, Nat.le_refl _⟩ dX11_name_98 rfl (sm_monoI h (fun r_16 m_15 h => ?_))
              exact sm_iret (Y := mX11_name) (pc := 101) rfl rfl rfl dX11_name_101 ⟨_, rfl, h⟩
            replace h := h.2
            by_cases hs61_1 : x3 = 1
            · refine sm_tableIn (Y := mX11_name) (pc := 61) 102 (by rw [hs61_1]; decide) (by rw [hs61_1]; decide) (by first | (rw [hs61_1]; done) | (rw [hs61_1]; rfl)) (by decide) dX11_name_61 ?_
              replace h := h.1 hs61_1
              refine sm_lload (Y := mX11_name) (pc := 102) 0 5 rfl dX11_name_102 ?_
              refine sm_is_I (Y := mX11_name) (pc := 104) (As := [.long r_13]) fX6_bottomOf wRX11_288 rfl (Nat.le_trans (by decide) hd) (Nat.le_of_ble_eq_true rfl) ⟨Nat.le_refl _, Nat.le_refl _⟩ dX11_name_104 rfl (sm_monoI h (fun r_18 m_17 h => ?_))
              exact sm_iret (Y := mX11_name) (pc := 107) rfl rfl rfl dX11_name_107 ⟨_, rfl, h⟩
            replace h := h.2
            by_cases hs61_2 : x3 = 2
            · refine sm_tableIn (Y := mX11_name) (pc := 61) 108 (by rw [hs61_2]; decide) (by rw [hs61_2]; decide) (by first | (rw [hs61_2]; done) | (rw [hs61_2]; rfl)) (by decide) dX11_name_61 ?_
              replace h := h.1 hs61_2
              refine sm_lload (Y := mX11_name) (pc := 108) 0 5 rfl dX11_name_108 ?_
              refine sm_is_I (Y := mX11_name) (pc := 110) (As := [.long r_13]) fX6_sizeOf wRX11_291 rfl (Nat.le_trans (by decide) hd) (Nat.le_of_ble_eq_true rfl) ⟨Nat.le_refl _, Nat.le_refl _⟩ dX11_name_110 rfl (sm_monoI h (fun r_20 m_19 h => ?_))
              exact sm_iret (Y := mX11_name) (pc := 113) rfl rfl rfl dX11_name_113 ⟨_, rfl, h⟩
            replace h := h.2
            by_cases hs61_3 : x3 = 3
            · refine sm_tableIn (Y := mX11_name) (pc := 61) 114 (by rw [hs61_3]; decide) (by rw [hs61_3]; decide) (by first | (rw [hs61_3]; done) | (rw [hs61_3]; rfl)) (by decide) dX11_name_61 ?_
              replace h := h.1 hs61_3
              refine sm_aload_n (Y := mX11_name) (pc := 114) 2 0 rfl rfl dX11_name_114 ?_
              refine sm_lload (Y := mX11_name) (pc := 115) 0 5 rfl dX11_name_115 ?_
              refine sm_iv_I (Y := mX11_name) (pc := 117) (As := [.long r_13]) (a := 0) fX11_genusOf wRX11_294 (lk_0 hly) (by decide) rfl rfl rfl (Nat.le_trans (by decide) hd) (Nat.le_of_ble_eq_true rfl) ⟨Nat.le_refl _, Nat.le_refl _⟩ dX11_name_117 rfl (sm_monoI h (fun r_22 m_21 h => ?_))
              exact sm_iret (Y := mX11_name) (pc := 120) rfl rfl rfl dX11_name_120 ⟨_, rfl, h⟩
            replace h := h.2
            by_cases hs61_4 : x3 = 4
            · refine sm_tableIn (Y := mX11_name) (pc := 61) 121 (by rw [hs61_4]; decide) (by rw [hs61_4]; decide) (by first | (rw [hs61_4]; done) | (rw [hs61_4]; rfl)) (by decide) dX11_name_61 ?_
              replace h := h.1 hs61_4
              refine sm_lload (Y := mX11_name) (pc := 121) 0 5 rfl dX11_name_121 ?_
              refine sm_is_J (Y := mX11_name) (pc := 123) (As := [.long r_13]) fX6_glassOf wRX11_297 rfl (Nat.le_trans (by decide) hd) (Nat.le_of_ble_eq_true rfl) ⟨Nat.le_refl _, Nat.le_refl _⟩ dX11_name_123 rfl (sm_monoJ h (fun r_24 m_23 h => ?_))
              refine sm_lload (Y := mX11_name) (pc := 126) 0 5 rfl dX11_name_126 ?_
              refine sm_lif_ne (Y := mX11_name) (pc := 128) 136 (by decide) dX11_name_128 dX11_name_129 (fun hc => ?_) (fun hc => ?_)
              · replace h := h.1 hc
                refine sm_iconst (Y := mX11_name) (pc := 136) 0 (by decide) dX11_name_136 ?_
                exact sm_iret (Y := mX11_name) (pc := 137) rfl rfl rfl dX11_name_137 ⟨_, rfl, h⟩
              · replace h := h.2 hc
                refine sm_iconst (Y := mX11_name) (pc := 132) 1 (by decide) dX11_name_132 ?_
                refine sm_goto (Y := mX11_name) (pc := 133) 137 (by decide) dX11_name_133 ?_
                exact sm_iret (Y := mX11_name) (pc := 137) rfl rfl rfl dX11_name_137 ⟨_, rfl, h⟩
            replace h := h.2
            refine sm_tableOut (Y := mX11_name) (pc := 61) 138 (sm_tout (lo := 0) 5 (fun j hj => by
                match j, hj with
                | 0, _ => exact lv_neT hs61_0 (by decide)
                | 1, _ => exact lv_neT hs61_1 (by decide)
                | 2, _ => exact lv_neT hs61_2 (by decide)
                | 3, _ => exact lv_neT hs61_3 (by decide)
                | 4, _ => exact lv_neT hs61_4 (by decide)
                | j + 5, hj => exact absurd hj (by omega))) (by decide) dX11_name_61 ?_
            replace h := h ⟨hs61_0, hs61_1, hs61_2, hs61_3, hs61_4⟩
            refine sm_aload_n (Y := mX11_name) (pc := 138) 2 0 rfl rfl dX11_name_138 ?_
            refine sm_lload (Y := mX11_name) (pc := 139) 0 5 rfl dX11_name_139 ?_
            refine sm_iload_n (Y := mX11_name) (pc := 141) 5 3 rfl rfl dX11_name_141 ?_
            refine sm_bipush (Y := mX11_name) (pc := 142) 6 (by decide) dX11_name_142 ?_
            refine sm_icmp_ne (Y := mX11_name) (pc := 144) 151 (by decide) dX11_name_144 (fun hc => ?_) (fun hc => ?_)
            · replace h := h.1 hc
              refine sm_iconst (Y := mX11_name) (pc := 151) 0 (by decide) dX11_name_151 ?_
              refine sm_iv_I (Y := mX11_name) (pc := 152) (As := [.long r_13, .int 0]) (a := 0) fX11_unlinked wRX11_301 (lk_0 hly) (by decide) rfl rfl rfl (Nat.le_trans (by decide) hd) (Nat.le_of_ble_eq_true rfl) ⟨Nat.le_refl _, Nat.le_refl _⟩ dX11_name_152 rfl (sm_monoI h (fun r_26 m_25 h => ?_))
              exact sm_iret (Y := mX11_name) (pc := 155) rfl rfl rfl dX11_name_155 ⟨_, rfl, h⟩
            · replace h := h.2 hc
              refine sm_iconst (Y := mX11_name) (pc := 147) 1 (by decide) dX11_name_147 ?_
              refine sm_goto (Y := mX11_name) (pc := 148) 152 (by decide) dX11_name_148 ?_
              refine sm_iv_I (Y := mX11_name) (pc := 152) (As := [.long r_13, .int 1]) (a := 0) fX11_unlinked wRX11_301 (lk_0 hly) (by decide) rfl rfl rfl (Nat.le_trans (by decide) hd) (Nat.le_of_ble_eq_true rfl) ⟨Nat.le_refl _, Nat.le_refl _⟩ dX11_name_152 rfl (sm_monoI h (fun r_28 m_27 h => ?_))
              exact sm_iret (Y := mX11_name) (pc := 155) rfl rfl rfl dX11_name_155 ⟨_, rfl, h⟩
          · replace h := h.2 hc
            refine sm_aload_n (Y := mX11_name) (pc := 46) 1 0 rfl rfl dX11_name_46 ?_
            refine sm_iconst (Y := mX11_name) (pc := 47) 3 (by decide) dX11_name_47 ?_
            refine sm_iv_I (Y := mX11_name) (pc := 48) (As := [.int 3]) (a := 0) fX11_error wRX11_103 (lk_0 hly) (by decide) rfl rfl rfl (Nat.le_trans (by decide) hd) (Nat.le_of_ble_eq_true rfl) ⟨Nat.le_refl _, Nat.le_refl _⟩ dX11_name_48 rfl (sm_monoI h (fun r_30 m_29 h => ?_))
            exact sm_iret (Y := mX11_name) (pc := 51) rfl rfl rfl dX11_name_51 ⟨_, rfl, h⟩
        · replace h := h.2 hc
          refine sm_aload_n (Y := mX11_name) (pc := 24) 0 0 rfl rfl dX11_name_24 ?_
          refine sm_iconst (Y := mX11_name) (pc := 25) 1 (by decide) dX11_name_25 ?_
          refine sm_iv_I (Y := mX11_name) (pc := 26) (As := [.int 1]) (a := 0) fX11_error wRX11_103 (lk_0 hly) (by decide) rfl rfl rfl (Nat.le_trans (by decide) hd) (Nat.le_of_ble_eq_true rfl) ⟨Nat.le_refl _, Nat.le_refl _⟩ dX11_name_26 rfl (sm_monoI h (fun r_32 m_31 h => ?_))
          exact sm_iret (Y := mX11_name) (pc := 29) rfl rfl rfl dX11_name_29 ⟨_, rfl, h⟩
theorem dX11_unlinked_0 : decode cX11_unlinked 0 = .ok (.lload_n 1, 1) := dk_lload_n_1 (by decide +kernel)
theorem dX11_unlinked_1 : decode cX11_unlinked 1 = .ok (.invokestatic 291, 3) := dk_invokestatic 291 (b1 := 1) (b2 := 35) (by decide +kernel) (by decide +kernel) (by decide +kernel) (by decide +kernel)
theorem dX11_unlinked_4 : decode cX11_unlinked 4 = .ok (.bipush 12, 2) := dk_bipush 12 (b := 12) (by decide +kernel) (by decide +kernel) (by decide +kernel)
theorem dX11_unlinked_6 : decode cX11_unlinked 6 = .ok (.if_icmp .le 10, 3) := dk_if_icmp_le 10 (b1 := 0) (b2 := 10) (by decide +kernel) (by decide +kernel) (by decide +kernel) (by decide +kernel)
theorem dX11_unlinked_16 : decode cX11_unlinked 16 = .ok (.aload_n 0, 1) := dk_aload_n_0 (by decide +kernel)
theorem dX11_unlinked_17 : decode cX11_unlinked 17 = .ok (.getfield 56, 3) := dk_getfield 56 (b1 := 0) (b2 := 56) (by decide +kernel) (by decide +kernel) (by decide +kernel) (by decide +kernel)
theorem dX11_unlinked_20 : decode cX11_unlinked 20 = .ok (.lload_n 1, 1) := dk_lload_n_1 (by decide +kernel)
theorem wRX11_305 : Cond.methodLink RX11 305 yX10_numberOf ∈ sm_T := sm_in 939 (by decide +kernel) (by decide +kernel)
theorem dX11_unlinked_21 : decode cX11_unlinked 21 = .ok (.invokevirtual 305, 3) := dk_invokevirtual 305 (b1 := 1) (b2 := 49) (by decide +kernel) (by decide +kernel) (by decide +kernel) (by decide +kernel)
theorem dX11_unlinked_24 : decode cX11_unlinked 24 = .ok (.istore 4, 2) := dk_istore 4 (b := 4) (by decide +kernel) (by decide +kernel) (by decide +kernel)
theorem dX11_unlinked_26 : decode cX11_unlinked 26 = .ok (.iload_n 3, 1) := dk_iload_n_3 (by decide +kernel)
theorem dX11_unlinked_27 : decode cX11_unlinked 27 = .ok (.ifCond .ne 6, 3) := dk_ifCond_ne 6 (b1 := 0) (b2 := 6) (by decide +kernel) (by decide +kernel) (by decide +kernel) (by decide +kernel)
theorem dX11_unlinked_33 : decode cX11_unlinked 33 = .ok (.iload 4, 2) := dk_iload 4 (b := 4) (by decide +kernel) (by decide +kernel) (by decide +kernel)
theorem dX11_unlinked_35 : decode cX11_unlinked 35 = .ok (.ifCond .ne 11, 3) := dk_ifCond_ne 11 (b1 := 0) (b2 := 11) (by decide +kernel) (by decide +kernel) (by decide +kernel) (by decide +kernel)
theorem dX11_unlinked_46 : decode cX11_unlinked 46 = .ok (.aload_n 0, 1) := dk_aload_n_0 (by decide +kernel)
theorem dX11_unlinked_47 : decode cX11_unlinked 47 = .ok (.getfield 56, 3) := dk_getfield 56 (b1 := 0) (b2 := 56) (by decide +kernel) (by decide +kernel) (by decide +kernel) (by decide +kernel)
theorem dX11_unlinked_50 : decode cX11_unlinked 50 = .ok (.lload_n 1, 1) := dk_lload_n_1 (by decide +kernel)
theorem dX11_unlinked_51 : decode cX11_unlinked 51 = .ok (.iload 4, 2) := dk_iload 4 (b := 4) (by decide +kernel) (by decide +kernel) (by decide +kernel)
theorem wRX11_308 : Cond.methodLink RX11 308 yX10_placeOf ∈ sm_T := sm_in 957 (by decide +kernel) (by decide +kernel)
theorem dX11_unlinked_53 : decode cX11_unlinked 53 = .ok (.invokevirtual 308, 3) := dk_invokevirtual 308 (b1 := 1) (b2 := 52) (by decide +kernel) (by decide +kernel) (by decide +kernel) (by decide +kernel)
theorem dX11_unlinked_56 : decode cX11_unlinked 56 = .ok (.ireturn, 1) := dk_ireturn (by decide +kernel)
theorem dX11_unlinked_38 : decode cX11_unlinked 38 = .ok (.aload_n 0, 1) := dk_aload_n_0 (by decide +kernel)
theorem dX11_unlinked_39 : decode cX11_unlinked 39 = .ok (.iconst 2, 1) := dk_iconst_2 (by decide +kernel)
theorem dX11_unlinked_40 : decode cX11_unlinked 40 = .ok (.invokevirtual 103, 3) := dk_invokevirtual 103 (b1 := 0) (b2 := 103) (by decide +kernel) (by decide +kernel) (by decide +kernel) (by decide +kernel)
theorem dX11_unlinked_43 : decode cX11_unlinked 43 = .ok (.goto 13, 3) := dk_goto 13 (b1 := 0) (b2 := 13) (by decide +kernel) (by decide +kernel) (by decide +kernel) (by decide +kernel)
theorem dX11_unlinked_30 : decode cX11_unlinked 30 = .ok (.iload 4, 2) := dk_iload 4 (b := 4) (by decide +kernel) (by decide +kernel) (by decide +kernel)
theorem dX11_unlinked_32 : decode cX11_unlinked 32 = .ok (.ireturn, 1) := dk_ireturn (by decide +kernel)
theorem dX11_unlinked_9 : decode cX11_unlinked 9 = .ok (.aload_n 0, 1) := dk_aload_n_0 (by decide +kernel)
theorem dX11_unlinked_10 : decode cX11_unlinked 10 = .ok (.bipush 6, 2) := dk_bipush 6 (b := 6) (by decide +kernel) (by decide +kernel) (by decide +kernel)
theorem dX11_unlinked_12 : decode cX11_unlinked 12 = .ok (.invokevirtual 103, 3) := dk_invokevirtual 103 (b1 := 0) (b2 := 103) (by decide +kernel) (by decide +kernel) (by decide +kernel) (by decide +kernel)
theorem dX11_unlinked_15 : decode cX11_unlinked 15 = .ok (.ireturn, 1) := dk_ireturn (by decide +kernel)
set_option maxRecDepth 20000 in
theorem vX11_unlinked_0 {E : sm_E} {L : sm_S → Prop} {d : Nat} {x1 : Int64} {x3 : Int32}  {m : sm_M} {Q : Int32 → sm_M → Prop} (hly : ∀ S, L S → ly S) (hd : 62 ≤ d) 
  (h : sm_callI E L mX6_sizeOf 2 0 0 [.long x1] m (fun r_2 m_1 =>
   (r_2 ≤ 12 →
      sm_callI E L mX10_numberOf 61 0 0 [.ref (sm_B E + 53), .long x1] m_1 (fun r_4 m_3 =>
      (¬ x3 = 0 →
         (¬ r_4 = 0 →
            sm_callI E L mX10_placeOf 61 0 0 [.ref (sm_B E + 53), .long x1, .int r_4] m_3 (fun r_7 m_6 =>
            Q r_7 m_6)) ∧
         (r_4 = 0 →
            sm_callI E L mX11_error 1 0 0 [.ref (sm_B E + 0), .int 2] m_3 (fun r_9 m_8 =>
            Q r_9 m_8))) ∧
      (x3 = 0 →
         Q r_4 m_3))) ∧
   (¬ r_2 ≤ 12 →
      sm_callI E L mX11_error 1 0 0 [.ref (sm_B E + 0), .int 6] m_1 (fun r_11 m_10 =>
      Q r_11 m_10)))) :
  sm_callI E L mX11_unlinked d 0 0 [.ref (sm_B E + 0), .long x1, .int x3] m Q := by
  refine sm_enter (by decide +kernel) (by simp [lg_sl, Value.category]) ?_
  refine sm_lload_n (Y := mX11_unlinked) (pc := 0) 1 1 rfl rfl dX11_unlinked_0 ?_
  refine sm_is_I (Y := mX11_unlinked) (pc := 1) (As := [.long x1]) fX6_sizeOf wRX11_291 rfl (Nat.le_trans (by decide) hd) (Nat.le_of_ble_eq_true rfl) ⟨Nat.le_refl _, Nat.le_refl _⟩ dX11_unlinked_1 rfl (sm_monoI h (fun r_2 m_1 h => ?_))
  refine sm_bipush (Y := mX11_unlinked) (pc := 4) 12 (by decide) dX11_unlinked_4 ?_
  refine sm_icmp_le (Y := mX11_unlinked) (pc := 6) 16 (by decide) dX11_unlinked_6 (fun hc => ?_) (fun hc => ?_)
  · replace h := h.1 hc
    refine sm_aload_n (Y := mX11_unlinked) (pc := 16) 0 0 rfl rfl dX11_unlinked_16 ?_
    refine gf_RX11_56 (Y := mX11_unlinked) (pc := 17) (b := 53) rfl ((lk_0 hly) _) (lf_0_7 hly _) dX11_unlinked_17 ?_
    refine sm_lload_n (Y := mX11_unlinked) (pc := 20) 1 1 rfl rfl dX11_unlinked_20 ?_
    refine sm_iv_I (Y := mX11_unlinked) (pc := 21) (As := [.long x1]) (a := 53) fX10_numberOf wRX11_305 (lk_53 hly) (by decide) rfl rfl rfl (Nat.le_trans (by decide) hd) (Nat.le_of_ble_eq_true rfl) ⟨Nat.le_refl _, Nat.le_refl _⟩ dX11_unlinked_21 rfl (sm_monoI h (fun r_4 m_3 h => ?_))
    refine sm_istore0 (Y := mX11_unlinked) (pc := 24) [(4, .int r_4), (0, .ref (sm_B E + 0)), (1, .long x1), (3, .int x3)] 4 (by decide) rfl dX11_unlinked_24 ?_
    refine sm_iload_n (Y := mX11_unlinked) (pc := 26) 3 3 rfl rfl dX11_unlinked_26 ?_
    refine sm_if_ne (Y := mX11_unlinked) (pc := 27) 33 (by decide) dX11_unlinked_27 (fun hc => ?_) (fun hc => ?_)
    · replace h := h.1 hc
      refine sm_iload (Y := mX11_unlinked) (pc := 33) 0 4 rfl dX11_unlinked_33 ?_
      refine sm_if_ne (Y := mX11_unlinked) (pc := 35) 46 (by decide) dX11_unlinked_35 (fun hc => ?_) (fun hc => ?_)
      · replace h := h.1 hc
        refine sm_aload_n (Y := mX11_unlinked) (pc := 46) 1 0 rfl rfl dX11_unlinked_46 ?_
        refine gf_RX11_56 (Y := mX11_unlinked) (pc := 47) (b := 53) rfl ((lk_0 hly) _) (lf_0_7 hly _) dX11_unlinked_47 ?_
        refine sm_lload_n (Y := mX11_unlinked) (pc := 50) 2 1 rfl rfl dX11_unlinked_50 ?_
        refine sm_iload (Y := mX11_unlinked) (pc := 51) 0 4 rfl dX11_unlinked_51 ?_
        refine sm_iv_I (Y := mX11_unlinked) (pc := 53) (As := [.long x1, .int r_4]) (a := 53) fX10_placeOf wRX11_308 (lk_53 hly) (by decide) rfl rfl rfl (Nat.le_trans (by decide) hd) (Nat.le_of_ble_eq_true rfl) ⟨Nat.le_refl _, Nat.le_refl _⟩ dX11_unlinked_53 rfl (sm_monoI h (fun r_7 m_6 h => ?_))
        exact sm_iret (Y := mX11_unlinked) (pc := 56) rfl rfl rfl dX11_unlinked_56 ⟨_, rfl, h⟩
      · replace h := h.2 hc
        refine sm_aload_n (Y := mX11_unlinked) (pc := 38) 1 0 rfl rfl dX11_unlinked_38 ?_
        refine sm_iconst (Y := mX11_unlinked) (pc := 39) 2 (by decide) dX11_unlinked_39 ?_
        refine sm_iv_I (Y := mX11_unlinked) (pc := 40) (As := [.int 2]) (a := 0) fX11_error wRX11_103 (lk_0 hly) (by decide) rfl rfl rfl (Nat.le_trans (by decide) hd) (Nat.le_of_ble_eq_true rfl) ⟨Nat.le_refl _, Nat.le_refl _⟩ dX11_unlinked_40 rfl (sm_monoI h (fun r_9 m_8 h => ?_))
        refine sm_goto (Y := mX11_unlinked) (pc := 43) 56 (by decide) dX11_unlinked_43 ?_
        exact sm_iret (Y := mX11_unlinked) (pc := 56) rfl rfl rfl dX11_unlinked_56 ⟨_, rfl, h⟩
    · replace h := h.2 hc
      refine sm_iload (Y := mX11_unlinked) (pc := 30) 0 4 rfl dX11_unlinked_30 ?_
      exact sm_iret (Y := mX11_unlinked) (pc := 32) rfl rfl rfl dX11_unlinked_32 ⟨_, rfl, h⟩
  · replace h := h.2 hc
    refine sm_aload_n (Y := mX11_unlinked) (pc := 9) 0 0 rfl rfl dX11_unlinked_9 ?_
    refine sm_bipush (Y := mX11_unlinked) (pc := 10) 6 (by decide) dX11_unlinked_10 ?_
    refine sm_iv_I (Y := mX11_unlinked) (pc := 12) (As := [.int 6]) (a := 0) fX11_error wRX11_103 (lk_0 hly) (by decide) rfl rfl rfl (Nat.le_trans (by decide) hd) (Nat.le_of_ble_eq_true rfl) ⟨Nat.le_refl _, Nat.le_refl _⟩ dX11_unlinked_12 rfl (sm_monoI h (fun r_11 m_10 h => ?_))
    exact sm_iret (Y := mX11_unlinked) (pc := 15) rfl rfl rfl dX11_unlinked_15 ⟨_, rfl, h⟩
def gX11_genusOf_33 (E : sm_E) (L : sm_S → Prop) (d : Nat) (vs : List Value) (x3 : Int32) (x4 : Int32) (s0 : Int32) (m : sm_M) (Q : Int32 → sm_M → Prop) : Prop := sm_go E L mX11_genusOf d 0 0 vs 33 [(0, .ref (sm_B E + 0)), (3, .int x3), (4, .int x4)] [.int s0] m 0 0 (sm_Z E L vs 0 0 (sm_QI Q))
theorem dX11_genusOf_33 : decode cX11_genusOf 33 = .ok (.istore 5, 2) := dk_istore 5 (b := 5) (by decide +kernel) (by decide +kernel) (by decide +kernel)
theorem dX11_genusOf_35 : decode cX11_genusOf 35 = .ok (.iload 5, 2) := dk_iload 5 (b := 5) (by decide +kernel) (by decide +kernel) (by decide +kernel)
theorem dX11_genusOf_37 : decode cX11_genusOf 37 = .ok (.ifCond .eq 21, 3) := dk_ifCond_eq 21 (b1 := 0) (b2 := 21) (by decide +kernel) (by decide +kernel) (by decide +kernel) (by decide +kernel)
theorem dX11_genusOf_58 : decode cX11_genusOf 58 = .ok (.aload_n 0, 1) := dk_aload_n_0 (by decide +kernel)
theorem dX11_genusOf_59 : decode cX11_genusOf 59 = .ok (.getfield 81, 3) := dk_getfield 81 (b1 := 0) (b2 := 81) (by decide +kernel) (by decide +kernel) (by decide +kernel) (by decide +kernel)
theorem dX11_genusOf_62 : decode cX11_genusOf 62 = .ok (.iload_n 3, 1) := dk_iload_n_3 (by decide +kernel)
theorem dX11_genusOf_63 : decode cX11_genusOf 63 = .ok (.iload 4, 2) := dk_iload 4 (b := 4) (by decide +kernel) (by decide +kernel) (by decide +kernel)
theorem dX11_genusOf_65 : decode cX11_genusOf 65 = .ok (.iconst 2, 1) := dk_iconst_2 (by decide +kernel)
theorem dX11_genusOf_66 : decode cX11_genusOf 66 = .ok (.invokevirtual 196, 3) := dk_invokevirtual 196 (b1 := 0) (b2 := 196) (by decide +kernel) (by decide +kernel) (by decide +kernel) (by decide +kernel)
theorem dX11_genusOf_69 : decode cX11_genusOf 69 = .ok (.pop, 1) := dk_pop (by decide +kernel)
theorem dX11_genusOf_70 : decode cX11_genusOf 70 = .ok (.aload_n 0, 1) := dk_aload_n_0 (by decide +kernel)
theorem dX11_genusOf_71 : decode cX11_genusOf 71 = .ok (.getfield 81, 3) := dk_getfield 81 (b1 := 0) (b2 := 81) (by decide +kernel) (by decide +kernel) (by decide +kernel) (by decide +kernel)
theorem dX11_genusOf_74 : decode cX11_genusOf 74 = .ok (.getfield 199, 3) := dk_getfield 199 (b1 := 0) (b2 := 199) (by decide +kernel) (by decide +kernel) (by decide +kernel) (by decide +kernel)
theorem dX11_genusOf_77 : decode cX11_genusOf 77 = .ok (.iconst 2, 1) := dk_iconst_2 (by decide +kernel)
theorem dX11_genusOf_78 : decode cX11_genusOf 78 = .ok (.idiv, 1) := dk_idiv (by decide +kernel)
theorem dX11_genusOf_79 : decode cX11_genusOf 79 = .ok (.ireturn, 1) := dk_ireturn (by decide +kernel)
theorem dX11_genusOf_40 : decode cX11_genusOf 40 = .ok (.aload_n 0, 1) := dk_aload_n_0 (by decide +kernel)
theorem dX11_genusOf_41 : decode cX11_genusOf 41 = .ok (.getfield 81, 3) := dk_getfield 81 (b1 := 0) (b2 := 81) (by decide +kernel) (by decide +kernel) (by decide +kernel) (by decide +kernel)
theorem dX11_genusOf_44 : decode cX11_genusOf 44 = .ok (.iload_n 3, 1) := dk_iload_n_3 (by decide +kernel)
theorem dX11_genusOf_45 : decode cX11_genusOf 45 = .ok (.ineg, 1) := dk_ineg (by decide +kernel)
theorem dX11_genusOf_46 : decode cX11_genusOf 46 = .ok (.iload_n 3, 1) := dk_iload_n_3 (by decide +kernel)
theorem dX11_genusOf_47 : decode cX11_genusOf 47 = .ok (.iload 4, 2) := dk_iload 4 (b := 4) (by decide +kernel) (by decide +kernel) (by decide +kernel)
theorem dX11_genusOf_49 : decode cX11_genusOf 49 = .ok (.isub, 1) := dk_isub (by decide +kernel)
theorem dX11_genusOf_50 : decode cX11_genusOf 50 = .ok (.iconst 2, 1) := dk_iconst_2 (by decide +kernel)
theorem dX11_genusOf_51 : decode cX11_genusOf 51 = .ok (.invokevirtual 196, 3) := dk_invokevirtual 196 (b1 := 0) (b2 := 196) (by decide +kernel) (by decide +kernel) (by decide +kernel) (by decide +kernel)
theorem dX11_genusOf_54 : decode cX11_genusOf 54 = .ok (.pop, 1) := dk_pop (by decide +kernel)
theorem dX11_genusOf_55 : decode cX11_genusOf 55 = .ok (.goto 15, 3) := dk_goto 15 (b1 := 0) (b2 := 15) (by decide +kernel) (by decide +kernel) (by decide +kernel) (by decide +kernel)
set_option maxRecDepth 20000 in
theorem vX11_genusOf_33 {E : sm_E} {L : sm_S → Prop} {d : Nat} {vs : List Value} {x3 : Int32} {x4 : Int32} {s0 : Int32}  {m : sm_M} {Q : Int32 → sm_M → Prop} (hly : ∀ S, L S → ly S) (hd : 4 ≤ d) 
  (h : (s0 = 0 →
      sm_callI E L mX7_expand 3 0 0 [.ref (sm_B E + 74), .int x3, .int x4, .int 2] m (fun r_3 m_2 =>
      Q ((m_2.1 74 2) / 2) m_2)) ∧
   (¬ s0 = 0 →
      sm_callI E L mX7_expand 3 0 0 [.ref (sm_B E + 74), .int (-x3), .int (x3 - x4), .int 2] m (fun r_5 m_4 =>
      Q ((m_4.1 74 2) / 2) m_4))) :
  gX11_genusOf_33 E L d vs x3 x4 s0 m Q := by
  refine sm_istore0 (Y := mX11_genusOf) (pc := 33) [(5, .int s0), (0, .ref (sm_B E + 0)), (3, .int x3), (4, .int x4)] 5 (by decide) rfl dX11_genusOf_33 ?_
  refine sm_iload (Y := mX11_genusOf) (pc := 35) 0 5 rfl dX11_genusOf_35 ?_
  refine sm_if_eq (Y := mX11_genusOf) (pc := 37) 58 (by decide) dX11_genusOf_37 (fun hc => ?_) (fun hc => ?_)
  · replace h := h.1 hc
    refine sm_aload_n (Y := mX11_genusOf) (pc := 58) 1 0 rfl rfl dX11_genusOf_58 ?_
    refine gf_RX11_81 (Y := mX11_genusOf) (pc := 59) (b := 74) rfl ((lk_0 hly) _) (lf_0_11 hly _) dX11_genusOf_59 ?_
    refine sm_iload_n (Y := mX11_genusOf) (pc := 62) 2 3 rfl rfl dX11_genusOf_62 ?_
    refine sm_iload (Y := mX11_genusOf) (pc := 63) 3 4 rfl dX11_genusOf_63 ?_
    refine sm_iconst (Y := mX11_genusOf) (pc := 65) 2 (by decide) dX11_genusOf_65 ?_
    refine sm_iv_I (Y := mX11_genusOf) (pc := 66) (As := [.int x3, .int x4, .int 2]) (a := 74) fX7_expand wRX11_196 (lk_74 hly) (by decide) rfl rfl rfl (Nat.le_trans (by decide) hd) (Nat.le_of_ble_eq_true rfl) ⟨Nat.le_refl _, Nat.le_refl _⟩ dX11_genusOf_66 rfl (sm_monoI h (fun r_3 m_2 h => ?_))
    refine sm_pop (Y := mX11_genusOf) (pc := 69) rfl dX11_genusOf_69 ?_
    refine sm_aload_n (Y := mX11_genusOf) (pc := 70) 1 0 rfl rfl dX11_genusOf_70 ?_
    refine gf_RX11_81 (Y := mX11_genusOf) (pc := 71) (b := 74) rfl ((lk_0 hly) _) (lf_0_11 hly _) dX11_genusOf_71 ?_
    refine gf_RX11_199 (Y := mX11_genusOf) (pc := 74) rfl ((lk_74 hly) _) dX11_genusOf_74 ?_
    refine sm_iconst (Y := mX11_genusOf) (pc := 77) 2 (by decide) dX11_genusOf_77 ?_
    refine sm_idiv (Y := mX11_genusOf) (pc := 78) (by decide) dX11_genusOf_78 ?_
    exact sm_iret (Y := mX11_genusOf) (pc := 79) rfl rfl rfl dX11_genusOf_79 ⟨_, rfl, h⟩
  · replace h := h.2 hc
    refine sm_aload_n (Y := mX11_genusOf) (pc := 40) 1 0 rfl rfl dX11_genusOf_40 ?_
    refine gf_RX11_81 (Y := mX11_genusOf) (pc := 41) (b := 74) rfl ((lk_0 hly) _) (lf_0_11 hly _) dX11_genusOf_41 ?_
    refine sm_iload_n (Y := mX11_genusOf) (pc := 44) 2 3 rfl rfl dX11_genusOf_44 ?_
    refine sm_ineg (Y := mX11_genusOf) (pc := 45) dX11_genusOf_45 ?_
    refine sm_iload_n (Y := mX11_genusOf) (pc := 46) 2 3 rfl rfl dX11_genusOf_46 ?_
    refine sm_iload (Y := mX11_genusOf) (pc := 47) 3 4 rfl dX11_genusOf_47 ?_
    refine sm_isub (Y := mX11_genusOf) (pc := 49) dX11_genusOf_49 ?_
    refine sm_iconst (Y := mX11_genusOf) (pc := 50) 2 (by decide) dX11_genusOf_50 ?_
    refine sm_iv_I (Y := mX11_genusOf) (pc := 51) (As := [.int (-x3), .int (x3 - x4), .int 2]) (a := 74) fX7_expand wRX11_196 (lk_74 hly) (by decide) rfl rfl rfl (Nat.le_trans (by decide) hd) (Nat.le_of_ble_eq_true rfl) ⟨Nat.le_refl _, Nat.le_refl _⟩ dX11_genusOf_51 rfl (sm_monoI h (fun r_5 m_4 h => ?_))
    refine sm_pop (Y := mX11_genusOf) (pc := 54) rfl dX11_genusOf_54 ?_
    refine sm_goto (Y := mX11_genusOf) (pc := 55) 70 (by decide) dX11_genusOf_55 ?_
    refine sm_aload_n (Y := mX11_genusOf) (pc := 70) 1 0 rfl rfl dX11_genusOf_70 ?_
    refine gf_RX11_81 (Y := mX11_genusOf) (pc := 71) (b := 74) rfl ((lk_0 hly) _) (lf_0_11 hly _) dX11_genusOf_71 ?_
    refine gf_RX11_199 (Y := mX11_genusOf) (pc := 74) rfl ((lk_74 hly) _) dX11_genusOf_74 ?_
    refine sm_iconst (Y := mX11_genusOf) (pc := 77) 2 (by decide) dX11_genusOf_77 ?_
    refine sm_idiv (Y := mX11_genusOf) (pc := 78) (by decide) dX11_genusOf_78 ?_
    exact sm_iret (Y := mX11_genusOf) (pc := 79) rfl rfl rfl dX11_genusOf_79 ⟨_, rfl, h⟩
theorem dX11_genusOf_0 : decode cX11_genusOf 0 = .ok (.lload_n 1, 1) := dk_lload_n_1 (by decide +kernel)
theorem dX11_genusOf_1 : decode cX11_genusOf 1 = .ok (.invokestatic 282, 3) := dk_invokestatic 282 (b1 := 1) (b2 := 26) (by decide +kernel) (by decide +kernel) (by decide +kernel) (by decide +kernel)
theorem dX11_genusOf_4 : decode cX11_genusOf 4 = .ok (.istore_n 3, 1) := dk_istore_n_3 (by decide +kernel)
theorem dX11_genusOf_5 : decode cX11_genusOf 5 = .ok (.lload_n 1, 1) := dk_lload_n_1 (by decide +kernel)
theorem dX11_genusOf_6 : decode cX11_genusOf 6 = .ok (.invokestatic 288, 3) := dk_invokestatic 288 (b1 := 1) (b2 := 32) (by decide +kernel) (by decide +kernel) (by decide +kernel) (by decide +kernel)
theorem dX11_genusOf_9 : decode cX11_genusOf 9 = .ok (.istore 4, 2) := dk_istore 4 (b := 4) (by decide +kernel) (by decide +kernel) (by decide +kernel)
theorem dX11_genusOf_11 : decode cX11_genusOf 11 = .ok (.iload_n 3, 1) := dk_iload_n_3 (by decide +kernel)
theorem dX11_genusOf_12 : decode cX11_genusOf 12 = .ok (.iconst 1, 1) := dk_iconst_1 (by decide +kernel)
theorem dX11_genusOf_13 : decode cX11_genusOf 13 = .ok (.if_icmp .gt 5, 3) := dk_if_icmp_gt 5 (b1 := 0) (b2 := 5) (by decide +kernel) (by decide +kernel) (by decide +kernel) (by decide +kernel)
theorem dX11_genusOf_18 : decode cX11_genusOf 18 = .ok (.iload_n 3, 1) := dk_iload_n_3 (by decide +kernel)
theorem dX11_genusOf_19 : decode cX11_genusOf 19 = .ok (.iload 4, 2) := dk_iload 4 (b := 4) (by decide +kernel) (by decide +kernel) (by decide +kernel)
theorem dX11_genusOf_21 : decode cX11_genusOf 21 = .ok (.iand, 1) := dk_iand (by decide +kernel)
theorem dX11_genusOf_22 : decode cX11_genusOf 22 = .ok (.iconst 1, 1) := dk_iconst_1 (by decide +kernel)
theorem dX11_genusOf_23 : decode cX11_genusOf 23 = .ok (.iand, 1) := dk_iand (by decide +kernel)
theorem dX11_genusOf_24 : decode cX11_genusOf 24 = .ok (.iconst 1, 1) := dk_iconst_1 (by decide +kernel)
theorem dX11_genusOf_25 : decode cX11_genusOf 25 = .ok (.if_icmp .ne 7, 3) := dk_if_icmp_ne 7 (b1 := 0) (b2 := 7) (by decide +kernel) (by decide +kernel) (by decide +kernel) (by decide +kernel)
theorem dX11_genusOf_32 : decode cX11_genusOf 32 = .ok (.iconst 0, 1) := dk_iconst_0 (by decide +kernel)
theorem dX11_genusOf_28 : decode cX11_genusOf 28 = .ok (.iconst 1, 1) := dk_iconst_1 (by decide +kernel)
theorem dX11_genusOf_29 : decode cX11_genusOf 29 = .ok (.goto 4, 3) := dk_goto 4 (b1 := 0) (b2 := 4) (by decide +kernel) (by decide +kernel) (by decide +kernel) (by decide +kernel)
theorem dX11_genusOf_16 : decode cX11_genusOf 16 = .ok (.iconst 0, 1) := dk_iconst_0 (by decide +kernel)
theorem dX11_genusOf_17 : decode cX11_genusOf 17 = .ok (.ireturn, 1) := dk_ireturn (by decide +kernel)
set_option maxRecDepth 20000 in
theorem vX11_genusOf_0 {E : sm_E} {L : sm_S → Prop} {d : Nat} {x1 : Int64}  {m : sm_M} {Q : Int32 → sm_M → Prop}  (hd : 4 ≤ d) 
  (h : sm_callI E L mX6_topOf 1 0 0 [.long x1] m (fun r_2 m_1 =>
   sm_callI E L mX6_bottomOf 1 0 0 [.long x1] m_1 (fun r_5 m_4 =>
   (1 < r_2 →
      (¬ ((r_2 &&& r_5) &&& 1) = 1 →
         gX11_genusOf_33 E L d ([.ref (sm_B E + 0), .long x1]) r_2 r_5 0 m_4 Q) ∧
      (((r_2 &&& r_5) &&& 1) = 1 →
         gX11_genusOf_33 E L d ([.ref (sm_B E + 0), .long x1]) r_2 r_5 1 m_4 Q)) ∧
   (¬ 1 < r_2 →
      Q 0 m_4)))) :
  sm_callI E L mX11_genusOf d 0 0 [.ref (sm_B E + 0), .long x1] m Q := by
  refine sm_enter (by decide +kernel) (by simp [lg_sl, Value.category]) ?_
  refine sm_lload_n (Y := mX11_genusOf) (pc := 0) 1 1 rfl rfl dX11_genusOf_0 ?_
  refine sm_is_I (Y := mX11_genusOf) (pc := 1) (As := [.long x1]) fX6_topOf wRX11_282 rfl (Nat.le_trans (by decide) hd) (Nat.le_of_ble_eq_true rfl) ⟨Nat.le_refl _, Nat.le_refl _⟩ dX11_genusOf_1 rfl (sm_monoI h (fun r_2 m_1 h => ?_))
  refine sm_istore0_n (Y := mX11_genusOf) (pc := 4) [(3, .int r_2), (0, .ref (sm_B E + 0)), (1, .long x1)] 3 rfl (by decide) rfl dX11_genusOf_4 ?_
  refine sm_lload_n (Y := mX11_genusOf) (pc := 5) 2 1 rfl rfl dX11_genusOf_5 ?_
  refine sm_is_I (Y := mX11_genusOf) (pc := 6) (As := [.long x1]) fX6_bottomOf wRX11_288 rfl (Nat.le_trans (by decide) hd) (Nat.le_of_ble_eq_true rfl) ⟨Nat.le_refl _, Nat.le_refl _⟩ dX11_genusOf_6 rfl (sm_monoI h (fun r_5 m_4 h => ?_))
  refine sm_istore0 (Y := mX11_genusOf) (pc := 9) [(4, .int r_5), (3, .int r_2), (0, .ref (sm_B E + 0)), (1, .long x1)] 4 (by decide) rfl dX11_genusOf_9 ?_
  refine sm_iload_n (Y := mX11_genusOf) (pc := 11) 1 3 rfl rfl dX11_genusOf_11 ?_
  refine sm_iconst (Y := mX11_genusOf) (pc := 12) 1 (by decide) dX11_genusOf_12 ?_
  refine sm_icmp_gt (Y := mX11_genusOf) (pc := 13) 18 (by decide) dX11_genusOf_13 (fun hc => ?_) (fun hc => ?_)
  · replace h := h.1 hc
    refine sm_iload_n (Y := mX11_genusOf) (pc := 18) 1 3 rfl rfl dX11_genusOf_18 ?_
    refine sm_iload (Y := mX11_genusOf) (pc := 19) 0 4 rfl dX11_genusOf_19 ?_
    refine sm_iand (Y := mX11_genusOf) (pc := 21) dX11_genusOf_21 ?_
    refine sm_iconst (Y := mX11_genusOf) (pc := 22) 1 (by decide) dX11_genusOf_22 ?_
    refine sm_iand (Y := mX11_genusOf) (pc := 23) dX11_genusOf_23 ?_
    refine sm_iconst (Y := mX11_genusOf) (pc := 24) 1 (by decide) dX11_genusOf_24 ?_
    refine sm_icmp_ne (Y := mX11_genusOf) (pc := 25) 32 (by decide) dX11_genusOf_25 (fun hc => ?_) (fun hc => ?_)
    · replace h := h.1 hc
      refine sm_iconst (Y := mX11_genusOf) (pc := 32) 0 (by decide) dX11_genusOf_32 ?_
      refine sm_sub [2, 1, 0] rfl ?_
      exact h
    · replace h := h.2 hc
      refine sm_iconst (Y := mX11_genusOf) (pc := 28) 1 (by decide) dX11_genusOf_28 ?_
      refine sm_goto (Y := mX11_genusOf) (pc := 29) 33 (by decide) dX11_genusOf_29 ?_
      refine sm_sub [2, 1, 0] rfl ?_
      exact h
  · replace h := h.2 hc
    refine sm_iconst (Y := mX11_genusOf) (pc := 16) 0 (by decide) dX11_genusOf_16 ?_
    exact sm_iret (Y := mX11_genusOf) (pc := 17) rfl rfl rfl dX11_genusOf_17 ⟨_, rfl, h⟩
abbrev mX11_alike : sm_Y := (yX11_alike, cX11_alike, 9, (some FieldType.int))
theorem fX11_alike : sm_mi mX11_alike RX11 4 := ⟨sm_in 964 (by decide +kernel) (by decide +kernel), sm_in 962 (by decide +kernel) (by decide +kernel), sm_in 963 (by decide +kernel) (by decide +kernel), sm_in 82 (by decide +kernel) (by decide +kernel), rfl, ⟨by decide +kernel, by decide +kernel, by decide +kernel⟩, by decide⟩
def gX11_alike_103 (E : sm_E) (L : sm_S → Prop) (d : Nat) (vs : List Value) (x5 : Int64) (x7 : Int64) (s0 : Int32) (m : sm_M) (Q : Int32 → sm_M → Prop) : Prop := sm_go E L mX11_alike d 0 0 vs 103 [(5, .long x5), (7, .long x7)] [.int s0] m 0 0 (sm_Z E L vs 0 0 (sm_QI Q))
theorem dX11_alike_103 : decode cX11_alike 103 = .ok (.lload 5, 2) := dk_lload 5 (b := 5) (by decide +kernel) (by decide +kernel) (by decide +kernel)
theorem dX11_alike_105 : decode cX11_alike 105 = .ok (.invokestatic 297, 3) := dk_invokestatic 297 (b1 := 1) (b2 := 41) (by decide +kernel) (by decide +kernel) (by decide +kernel) (by decide +kernel)
theorem dX11_alike_108 : decode cX11_alike 108 = .ok (.lload 7, 2) := dk_lload 7 (b := 7) (by decide +kernel) (by decide +kernel) (by decide +kernel)
theorem dX11_alike_110 : decode cX11_alike 110 = .ok (.lcmp, 1) := dk_lcmp (by decide +kernel)
theorem dX11_alike_111 : decode cX11_alike 111 = .ok (.ifCond .ne 7, 3) := dk_ifCond_ne 7 (b1 := 0) (b2 := 7) (by decide +kernel) (by decide +kernel) (by decide +kernel) (by decide +kernel)
theorem dX11_alike_118 : decode cX11_alike 118 = .ok (.iconst 0, 1) := dk_iconst_0 (by decide +kernel)
theorem dX11_alike_119 : decode cX11_alike 119 = .ok (.iadd, 1) := dk_iadd (by decide +kernel)
theorem dX11_alike_120 : decode cX11_alike 120 = .ok (.ireturn, 1) := dk_ireturn (by decide +kernel)
theorem dX11_alike_114 : decode cX11_alike 114 = .ok (.iconst 2, 1) := dk_iconst_2 (by decide +kernel)
theorem dX11_alike_115 : decode cX11_alike 115 = .ok (.goto 4, 3) := dk_goto 4 (b1 := 0) (b2 := 4) (by decide +kernel) (by decide +kernel) (by decide +kernel) (by decide +kernel)
set_option maxRecDepth 20000 in
theorem vX11_alike_103 {E : sm_E} {L : sm_S → Prop} {d : Nat} {vs : List Value} {x5 : Int64} {x7 : Int64} {s0 : Int32}  {m : sm_M} {Q : Int32 → sm_M → Prop}  (hd : 4 ≤ d) 
  (h : sm_callJ E L mX6_glassOf 3 0 0 [.long x5] m (fun r_2 m_1 =>
   (¬ r_2 = x7 →
      Q (s0 + 0) m_1) ∧
   (r_2 = x7 →
      Q (s0 + 2) m_1))) :
  gX11_alike_103 E L d vs x5 x7 s0 m Q := by
  refine sm_lload (Y := mX11_alike) (pc := 103) 0 5 rfl dX11_alike_103 ?_
  refine sm_is_J (Y := mX11_alike) (pc := 105) (As := [.long x5]) fX6_glassOf wRX11_297 rfl (Nat.le_trans (by decide) hd) (Nat.le_of_ble_eq_true rfl) ⟨Nat.le_refl _, Nat.le_refl _⟩ dX11_alike_105 rfl (sm_monoJ h (fun r_2 m_1 h => ?_))
  refine sm_lload (Y := mX11_alike) (pc := 108) 1 7 rfl dX11_alike_108 ?_
  refine sm_lif_ne (Y := mX11_alike) (pc := 110) 118 (by decide) dX11_alike_110 dX11_alike_111 (fun hc => ?_) (fun hc => ?_)
  · replace h := h.1 hc
    refine sm_iconst (Y := mX11_alike) (pc := 118) 0 (by decide) dX11_alike_118 ?_
    refine sm_iadd (Y := mX11_alike) (pc := 119) dX11_alike_119 ?_
    exact sm_iret (Y := mX11_alike) (pc := 120) rfl rfl rfl dX11_alike_120 ⟨_, rfl, h⟩
  · replace h := h.2 hc
    refine sm_iconst (Y := mX11_alike) (pc := 114) 2 (by decide) dX11_alike_114 ?_
    refine sm_goto (Y := mX11_alike) (pc := 115) 119 (by decide) dX11_alike_115 ?_
    refine sm_iadd (Y := mX11_alike) (pc := 119) dX11_alike_119 ?_
    exact sm_iret (Y := mX11_alike) (pc := 120) rfl rfl rfl dX11_alike_120 ⟨_, rfl, h⟩
theorem dX11_alike_0 : decode cX11_alike 0 = .ok (.iload_n 1, 1) := dk_iload_n_1 (by decide +kernel)
theorem dX11_alike_1 : decode cX11_alike 1 = .ok (.invokestatic 99, 3) := dk_invokestatic 99 (b1 := 0) (b2 := 99) (by decide +kernel) (by decide +kernel) (by decide +kernel) (by decide +kernel)
theorem dX11_alike_4 : decode cX11_alike 4 = .ok (.ifCond .eq 25, 3) := dk_ifCond_eq 25 (b1 := 0) (b2 := 25) (by decide +kernel) (by decide +kernel) (by decide +kernel) (by decide +kernel)
theorem dX11_alike_29 : decode cX11_alike 29 = .ok (.aload_n 0, 1) := dk_aload_n_0 (by decide +kernel)
theorem dX11_alike_30 : decode cX11_alike 30 = .ok (.iconst 1, 1) := dk_iconst_1 (by decide +kernel)
theorem dX11_alike_31 : decode cX11_alike 31 = .ok (.invokevirtual 103, 3) := dk_invokevirtual 103 (b1 := 0) (b2 := 103) (by decide +kernel) (by decide +kernel) (by decide +kernel) (by decide +kernel)
theorem dX11_alike_34 : decode cX11_alike 34 = .ok (.ireturn, 1) := dk_ireturn (by decide +kernel)
theorem dX11_alike_7 : decode cX11_alike 7 = .ok (.iload_n 2, 1) := dk_iload_n_2 (by decide +kernel)
theorem dX11_alike_8 : decode cX11_alike 8 = .ok (.invokestatic 148, 3) := dk_invokestatic 148 (b1 := 0) (b2 := 148) (by decide +kernel) (by decide +kernel) (by decide +kernel) (by decide +kernel)
theorem dX11_alike_11 : decode cX11_alike 11 = .ok (.ifCond .eq 18, 3) := dk_ifCond_eq 18 (b1 := 0) (b2 := 18) (by decide +kernel) (by decide +kernel) (by decide +kernel) (by decide +kernel)
theorem dX11_alike_14 : decode cX11_alike 14 = .ok (.iload_n 3, 1) := dk_iload_n_3 (by decide +kernel)
theorem dX11_alike_15 : decode cX11_alike 15 = .ok (.invokestatic 99, 3) := dk_invokestatic 99 (b1 := 0) (b2 := 99) (by decide +kernel) (by decide +kernel) (by decide +kernel) (by decide +kernel)
theorem dX11_alike_18 : decode cX11_alike 18 = .ok (.ifCond .eq 11, 3) := dk_ifCond_eq 11 (b1 := 0) (b2 := 11) (by decide +kernel) (by decide +kernel) (by decide +kernel) (by decide +kernel)
theorem dX11_alike_21 : decode cX11_alike 21 = .ok (.iload 4, 2) := dk_iload 4 (b := 4) (by decide +kernel) (by decide +kernel) (by decide +kernel)
theorem dX11_alike_23 : decode cX11_alike 23 = .ok (.invokestatic 148, 3) := dk_invokestatic 148 (b1 := 0) (b2 := 148) (by decide +kernel) (by decide +kernel) (by decide +kernel) (by decide +kernel)
theorem dX11_alike_26 : decode cX11_alike 26 = .ok (.ifCond .ne 9, 3) := dk_ifCond_ne 9 (b1 := 0) (b2 := 9) (by decide +kernel) (by decide +kernel) (by decide +kernel) (by decide +kernel)
theorem dX11_alike_35 : decode cX11_alike 35 = .ok (.aload_n 0, 1) := dk_aload_n_0 (by decide +kernel)
theorem dX11_alike_36 : decode cX11_alike 36 = .ok (.getfield 11, 3) := dk_getfield 11 (b1 := 0) (b2 := 11) (by decide +kernel) (by decide +kernel) (by decide +kernel) (by decide +kernel)
theorem dX11_alike_39 : decode cX11_alike 39 = .ok (.iload_n 1, 1) := dk_iload_n_1 (by decide +kernel)
theorem dX11_alike_40 : decode cX11_alike 40 = .ok (.aaload, 1) := dk_aaload (by decide +kernel)
theorem dX11_alike_41 : decode cX11_alike 41 = .ok (.getfield 129, 3) := dk_getfield 129 (b1 := 0) (b2 := 129) (by decide +kernel) (by decide +kernel) (by decide +kernel) (by decide +kernel)
theorem dX11_alike_44 : decode cX11_alike 44 = .ok (.ifCond .eq 15, 3) := dk_ifCond_eq 15 (b1 := 0) (b2 := 15) (by decide +kernel) (by decide +kernel) (by decide +kernel) (by decide +kernel)
theorem dX11_alike_59 : decode cX11_alike 59 = .ok (.aload_n 0, 1) := dk_aload_n_0 (by decide +kernel)
theorem dX11_alike_60 : decode cX11_alike 60 = .ok (.iconst 3, 1) := dk_iconst_3 (by decide +kernel)
theorem dX11_alike_61 : decode cX11_alike 61 = .ok (.invokevirtual 103, 3) := dk_invokevirtual 103 (b1 := 0) (b2 := 103) (by decide +kernel) (by decide +kernel) (by decide +kernel) (by decide +kernel)
theorem dX11_alike_64 : decode cX11_alike 64 = .ok (.ireturn, 1) := dk_ireturn (by decide +kernel)
theorem dX11_alike_47 : decode cX11_alike 47 = .ok (.aload_n 0, 1) := dk_aload_n_0 (by decide +kernel)
theorem dX11_alike_48 : decode cX11_alike 48 = .ok (.getfield 11, 3) := dk_getfield 11 (b1 := 0) (b2 := 11) (by decide +kernel) (by decide +kernel) (by decide +kernel) (by decide +kernel)
theorem dX11_alike_51 : decode cX11_alike 51 = .ok (.iload_n 3, 1) := dk_iload_n_3 (by decide +kernel)
theorem dX11_alike_52 : decode cX11_alike 52 = .ok (.aaload, 1) := dk_aaload (by decide +kernel)
theorem dX11_alike_53 : decode cX11_alike 53 = .ok (.getfield 129, 3) := dk_getfield 129 (b1 := 0) (b2 := 129) (by decide +kernel) (by decide +kernel) (by decide +kernel) (by decide +kernel)
theorem dX11_alike_56 : decode cX11_alike 56 = .ok (.ifCond .ne 9, 3) := dk_ifCond_ne 9 (b1 := 0) (b2 := 9) (by decide +kernel) (by decide +kernel) (by decide +kernel) (by decide +kernel)
theorem dX11_alike_65 : decode cX11_alike 65 = .ok (.aload_n 0, 1) := dk_aload_n_0 (by decide +kernel)
theorem dX11_alike_66 : decode cX11_alike 66 = .ok (.getfield 11, 3) := dk_getfield 11 (b1 := 0) (b2 := 11) (by decide +kernel) (by decide +kernel) (by decide +kernel) (by decide +kernel)
theorem dX11_alike_69 : decode cX11_alike 69 = .ok (.iload_n 1, 1) := dk_iload_n_1 (by decide +kernel)
theorem dX11_alike_70 : decode cX11_alike 70 = .ok (.aaload, 1) := dk_aaload (by decide +kernel)
theorem dX11_alike_71 : decode cX11_alike 71 = .ok (.iload_n 2, 1) := dk_iload_n_2 (by decide +kernel)
theorem dX11_alike_72 : decode cX11_alike 72 = .ok (.invokestatic 278, 3) := dk_invokestatic 278 (b1 := 1) (b2 := 22) (by decide +kernel) (by decide +kernel) (by decide +kernel) (by decide +kernel)
theorem dX11_alike_75 : decode cX11_alike 75 = .ok (.lstore 5, 2) := dk_lstore 5 (b := 5) (by decide +kernel) (by decide +kernel) (by decide +kernel)
theorem dX11_alike_77 : decode cX11_alike 77 = .ok (.aload_n 0, 1) := dk_aload_n_0 (by decide +kernel)
theorem dX11_alike_78 : decode cX11_alike 78 = .ok (.getfield 11, 3) := dk_getfield 11 (b1 := 0) (b2 := 11) (by decide +kernel) (by decide +kernel) (by decide +kernel) (by decide +kernel)
theorem dX11_alike_81 : decode cX11_alike 81 = .ok (.iload_n 3, 1) := dk_iload_n_3 (by decide +kernel)
theorem dX11_alike_82 : decode cX11_alike 82 = .ok (.aaload, 1) := dk_aaload (by decide +kernel)
theorem dX11_alike_83 : decode cX11_alike 83 = .ok (.iload 4, 2) := dk_iload 4 (b := 4) (by decide +kernel) (by decide +kernel) (by decide +kernel)
theorem dX11_alike_85 : decode cX11_alike 85 = .ok (.invokestatic 278, 3) := dk_invokestatic 278 (b1 := 1) (b2 := 22) (by decide +kernel) (by decide +kernel) (by decide +kernel) (by decide +kernel)
theorem dX11_alike_88 : decode cX11_alike 88 = .ok (.lstore 7, 2) := dk_lstore 7 (b := 7) (by decide +kernel) (by decide +kernel) (by decide +kernel)
theorem dX11_alike_90 : decode cX11_alike 90 = .ok (.lload 5, 2) := dk_lload 5 (b := 5) (by decide +kernel) (by decide +kernel) (by decide +kernel)
theorem dX11_alike_92 : decode cX11_alike 92 = .ok (.lload 7, 2) := dk_lload 7 (b := 7) (by decide +kernel) (by decide +kernel) (by decide +kernel)
theorem dX11_alike_94 : decode cX11_alike 94 = .ok (.lcmp, 1) := dk_lcmp (by decide +kernel)
theorem dX11_alike_95 : decode cX11_alike 95 = .ok (.ifCond .ne 7, 3) := dk_ifCond_ne 7 (b1 := 0) (b2 := 7) (by decide +kernel) (by decide +kernel) (by decide +kernel) (by decide +kernel)
theorem dX11_alike_102 : decode cX11_alike 102 = .ok (.iconst 0, 1) := dk_iconst_0 (by decide +kernel)
theorem dX11_alike_98 : decode cX11_alike 98 = .ok (.iconst 1, 1) := dk_iconst_1 (by decide +kernel)
theorem dX11_alike_99 : decode cX11_alike 99 = .ok (.goto 4, 3) := dk_goto 4 (b1 := 0) (b2 := 4) (by decide +kernel) (by decide +kernel) (by decide +kernel) (by decide +kernel)
set_option maxRecDepth 20000 in
theorem vX11_alike_0 {E : sm_E} {L : sm_S → Prop} {d : Nat} {x1 : Int32} {x2 : Int32} {x3 : Int32} {x4 : Int32}  {m : sm_M} {Q : Int32 → sm_M → Prop} (hly : ∀ S, L S → ly S) (hd : 4 ≤ d) 
  (h : sm_callI E L mX11_isSlot 1 0 0 [.int x1] m (fun r_2 m_1 =>
   (r_2 = 0 →
      sm_callI E L mX11_error 1 0 0 [.ref (sm_B E + 0), .int 1] m_1 (fun r_4 m_3 =>
      Q r_4 m_3)) ∧
   (¬ r_2 = 0 →
      sm_callI E L mX11_isChoice 1 0 0 [.int x2] m_1 (fun r_6 m_5 =>
      (r_6 = 0 →
         sm_callI E L mX11_error 1 0 0 [.ref (sm_B E + 0), .int 1] m_5 (fun r_8 m_7 =>
         Q r_8 m_7)) ∧
      (¬ r_6 = 0 →
         sm_callI E L mX11_isSlot 1 0 0 [.int x3] m_5 (fun r_10 m_9 =>
         (r_10 = 0 →
            sm_callI E L mX11_error 1 0 0 [.ref (sm_B E + 0), .int 1] m_9 (fun r_12 m_11 =>
            Q r_12 m_11)) ∧
         (¬ r_10 = 0 →
            sm_callI E L mX11_isChoice 1 0 0 [.int x4] m_9 (fun r_14 m_13 =>
            (¬ r_14 = 0 →
               (vp_in x1 6) ∧ ((m_13.1 (77 + 4 * x1.toNatClampNeg) 7) = 0 →
                  sm_callI E L mX11_error 1 0 0 [.ref (sm_B E + 0), .int 3] m_13 (fun r_17 m_16 =>
                  Q r_17 m_16)) ∧
               (¬ (m_13.1 (77 + 4 * x1.toNatClampNeg) 7) = 0 →
                  (vp_in x3 6) ∧ (¬ (m_13.1 (77 + 4 * x3.toNatClampNeg) 7) = 0 →
                     (vp_in x1 6) ∧ sm_callJ E L mX11_nameOf 3 0 0 [.ref (sm_B E + (77 + 4 * x1.toNatClampNeg)), .int x2] m_13 (fun r_21 m_20 =>
                     (vp_in x3 6) ∧ sm_callJ E L mX11_nameOf 3 0 0 [.ref (sm_B E + (77 + 4 * x3.toNatClampNeg)), .int x4] m_20 (fun r_25 m_24 =>
                     (¬ r_21 = r_25 →
                        gX11_alike_103 E L d ([.ref (sm_B E + 0), .int x1, .int x2, .int x3, .int x4]) r_21 r_25 0 m_24 Q) ∧
                     (r_21 = r_25 →
                        gX11_alike_103 E L d ([.ref (sm_B E + 0), .int x1, .int x2, .int x3, .int x4]) r_21 r_25 1 m_24 Q)))) ∧
                  ((m_13.1 (77 + 4 * x3.toNatClampNeg) 7) = 0 →
                     sm_callI E L mX11_error 1 0 0 [.ref (sm_B E + 0), .int 3] m_13 (fun r_28 m_27 =>
                     Q r_28 m_27)))) ∧
            (r_14 = 0 →
               sm_callI E L mX11_error 1 0 0 [.ref (sm_B E + 0), .int 1] m_13 (fun r_30 m_29 =>
               Q r_30 m_29)))))))))) :
  sm_callI E L mX11_alike d 0 0 [.ref (sm_B E + 0), .int x1, .int x2, .int x3, .int x4] m Q := by
  refine sm_enter (by decide +kernel) (by simp [lg_sl, Value.category]) ?_
  refine sm_iload_n (Y := mX11_alike) (pc := 0) 1 1 rfl rfl dX11_alike_0 ?_
  refine sm_is_I (Y := mX11_alike) (pc := 1) (As := [.int x1]) fX11_isSlot wRX11_99 rfl (Nat.le_trans (by decide) hd) (Nat.le_of_ble_eq_true rfl) ⟨Nat.le_refl _, Nat.le_refl _⟩ dX11_alike_1 rfl (sm_monoI h (fun r_2 m_1 h => ?_))
  refine sm_if_eq (Y := mX11_alike) (pc := 4) 29 (by decide) dX11_alike_4 (fun hc => ?_) (fun hc => ?_)
  · replace h := h.1 hc
    refine sm_aload_n (Y := mX11_alike) (pc := 29) 0 0 rfl rfl dX11_alike_29 ?_
    refine sm_iconst (Y := mX11_alike) (pc := 30) 1 (by decide) dX11_alike_30 ?_
    refine sm_iv_I (Y := mX11_alike) (pc := 31) (As := [.int 1]) (a := 0) fX11_error wRX11_103 (lk_0 hly) (by decide) rfl rfl rfl (Nat.le_trans (by decide) hd) (Nat.le_of_ble_eq_true rfl) ⟨Nat.le_refl _, Nat.le_refl _⟩ dX11_alike_31 rfl (sm_monoI h (fun r_4 m_3 h => ?_))
    exact sm_iret (Y := mX11_alike) (pc := 34) rfl rfl rfl dX11_alike_34 ⟨_, rfl, h⟩
  · replace h := h.2 hc
    refine sm_iload_n (Y := mX11_alike) (pc := 7) 2 2 rfl rfl dX11_alike_7 ?_
    refine sm_is_I (Y := mX11_alike) (pc := 8) (As := [.int x2]) fX11_isChoice wRX11_148 rfl (Nat.le_trans (by decide) hd) (Nat.le_of_ble_eq_true rfl) ⟨Nat.le_refl _, Nat.le_refl _⟩ dX11_alike_8 rfl (sm_monoI h (fun r_6 m_5 h => ?_))
    refine sm_if_eq (Y := mX11_alike) (pc := 11) 29 (by decide) dX11_alike_11 (fun hc => ?_) (fun hc => ?_)
    · replace h := h.1 hc
      refine sm_aload_n (Y := mX11_alike) (pc := 29) 0 0 rfl rfl dX11_alike_29 ?_
      refine sm_iconst (Y := mX11_alike) (pc := 30) 1 (by decide) dX11_alike_30 ?_
      refine sm_iv_I (Y := mX11_alike) (pc := 31) (As := [.int 1]) (a := 0) fX11_error wRX11_103 (lk_0 hly) (by decide) rfl rfl rfl (Nat.le_trans (by decide) hd) (Nat.le_of_ble_eq_true rfl) ⟨Nat.le_refl _, Nat.le_refl _⟩ dX11_alike_31 rfl (sm_monoI h (fun r_8 m_7 h => ?_))
      exact sm_iret (Y := mX11_alike) (pc := 34) rfl rfl rfl dX11_alike_34 ⟨_, rfl, h⟩
    · replace h := h.2 hc
      refine sm_iload_n (Y := mX11_alike) (pc := 14) 3 3 rfl rfl dX11_alike_14 ?_
      refine sm_is_I (Y := mX11_alike) (pc := 15) (As := [.int x3]) fX11_isSlot wRX11_99 rfl (Nat.le_trans (by decide) hd) (Nat.le_of_ble_eq_true rfl) ⟨Nat.le_refl _, Nat.le_refl _⟩ dX11_alike_15 rfl (sm_monoI h (fun r_10 m_9 h => ?_))
      refine sm_if_eq (Y := mX11_alike) (pc := 18) 29 (by decide) dX11_alike_18 (fun hc => ?_) (fun hc => ?_)
      · replace h := h.1 hc
        refine sm_aload_n (Y := mX11_alike) (pc := 29) 0 0 rfl rfl dX11_alike_29 ?_
        refine sm_iconst (Y := mX11_alike) (pc := 30) 1 (by decide) dX11_alike_30 ?_
        refine sm_iv_I (Y := mX11_alike) (pc := 31) (As := [.int 1]) (a := 0) fX11_error wRX11_103 (lk_0 hly) (by decide) rfl rfl rfl (Nat.le_trans (by decide) hd) (Nat.le_of_ble_eq_true rfl) ⟨Nat.le_refl _, Nat.le_refl _⟩ dX11_alike_31 rfl (sm_monoI h (fun r_12 m_11 h => ?_))
        exact sm_iret (Y := mX11_alike) (pc := 34) rfl rfl rfl dX11_alike_34 ⟨_, rfl, h⟩
      · replace h := h.2 hc
        refine sm_iload (Y := mX11_alike) (pc := 21) 4 4 rfl dX11_alike_21 ?_
        refine sm_is_I (Y := mX11_alike) (pc := 23) (As := [.int x4]) fX11_isChoice wRX11_148 rfl (Nat.le_trans (by decide) hd) (Nat.le_of_ble_eq_true rfl) ⟨Nat.le_refl _, Nat.le_refl _⟩ dX11_alike_23 rfl (sm_monoI h (fun r_14 m_13 h => ?_))
        refine sm_if_ne (Y := mX11_alike) (pc := 26) 35 (by decide) dX11_alike_26 (fun hc => ?_) (fun hc => ?_)
        · replace h := h.1 hc
          refine sm_aload_n (Y := mX11_alike) (pc := 35) 0 0 rfl rfl dX11_alike_35 ?_
          refine gf_RX11_11 (Y := mX11_alike) (pc := 36) (b := 1) rfl ((lk_0 hly) _) (lf_0_0 hly _) dX11_alike_36 ?_
          refine sm_iload_n (Y := mX11_alike) (pc := 39) 1 1 rfl rfl dX11_alike_39 ?_
          obtain ⟨hn_15, h⟩ := h
          refine sm_aaldG (Y := mX11_alike) (pc := 40) (b := (77 + 4 * x1.toNatClampNeg)) (la_1 hly _) hn_15 (ly_slotR hly (sm_inlt hn_15) _) dX11_alike_40 ?_
          refine gf_RX11_129 (Y := mX11_alike) (pc := 41) rfl ((fun S hS => ((ly_slotT hly (sm_inlt hn_15)) S hS).1) _) dX11_alike_41 ?_
          refine sm_if_eq (Y := mX11_alike) (pc := 44) 59 (by decide) dX11_alike_44 (fun hc => ?_) (fun hc => ?_)
          · replace h := h.1 hc
            refine sm_aload_n (Y := mX11_alike) (pc := 59) 0 0 rfl rfl dX11_alike_59 ?_
            refine sm_iconst (Y := mX11_alike) (pc := 60) 3 (by decide) dX11_alike_60 ?_
            refine sm_iv_I (Y := mX11_alike) (pc := 61) (As := [.int 3]) (a := 0) fX11_error wRX11_103 (lk_0 hly) (by decide) rfl rfl rfl (Nat.le_trans (by decide) hd) (Nat.le_of_ble_eq_true rfl) ⟨Nat.le_refl _, Nat.le_refl _⟩ dX11_alike_61 rfl (sm_monoI h (fun r_17 m_16 h => ?_))
            exact sm_iret (Y := mX11_alike) (pc := 64) rfl rfl rfl dX11_alike_64 ⟨_, rfl, h⟩
          · replace h := h.2 hc
            refine sm_aload_n (Y := mX11_alike) (pc := 47) 0 0 rfl rfl dX11_alike_47 ?_
            refine gf_RX11_11 (Y := mX11_alike) (pc := 48) (b := 1) rfl ((lk_0 hly) _) (lf_0_0 hly _) dX11_alike_48 ?_
            refine sm_iload_n (Y := mX11_alike) (pc := 51) 3 3 rfl rfl dX11_alike_51 ?_
            obtain ⟨hn_18, h⟩ := h
            refine sm_aaldG (Y := mX11_alike) (pc := 52) (b := (77 + 4 * x3.toNatClampNeg)) (la_1 hly _) hn_18 (ly_slotR hly (sm_inlt hn_18) _) dX11_alike_52 ?_
            refine gf_RX11_129 (Y := mX11_alike) (pc := 53) rfl ((fun S hS => ((ly_slotT hly (sm_inlt hn_18)) S hS).1) _) dX11_alike_53 ?_
            refine sm_if_ne (Y := mX11_alike) (pc := 56) 65 (by decide) dX11_alike_56 (fun hc => ?_) (fun hc => ?_)
            · replace h := h.1 hc
              refine sm_aload_n (Y := mX11_alike) (pc := 65) 0 0 rfl rfl dX11_alike_65 ?_
              refine gf_RX11_11 (Y := mX11_alike) (pc := 66) (b := 1) rfl ((lk_0 hly) _) (lf_0_0 hly _) dX11_alike_66 ?_
              refine sm_iload_n (Y := mX11_alike) (pc := 69) 1 1 rfl rfl dX11_alike_69 ?_
              obtain ⟨hn_19, h⟩ := h
              refine sm_aaldG (Y := mX11_alike) (pc := 70) (b := (77 + 4 * x1.toNatClampNeg)) (la_1 hly _) hn_19 (ly_slotR hly (sm_inlt hn_19) _) dX11_alike_70 ?_
              refine sm_iload_n (Y := mX11_alike) (pc := 71) 2 2 rfl rfl dX11_alike_71 ?_
              refine sm_is_J (Y := mX11_alike) (pc := 72) (As := [.ref (sm_B E + (77 + 4 * x1.toNatClampNeg)), .int x2]) fX11_nameOf wRX11_278 rfl (Nat.le_trans (by decide) hd) (Nat.le_of_ble_eq_true rfl) ⟨Nat.le_refl _, Nat.le_refl _⟩ dX11_alike_72 rfl (sm_monoJ h (fun r_21 m_20 h => ?_))
              refine sm_lstore0 (Y := mX11_alike) (pc := 75) [(5, .long r_21), (0, .ref (sm_B E + 0)), (1, .int x1), (2, .int x2), (3, .int x3), (4, .int x4)] 5 (by decide) rfl dX11_alike_75 ?_
              refine sm_aload_n (Y := mX11_alike) (pc := 77) 1 0 rfl rfl dX11_alike_77 ?_
              refine gf_RX11_11 (Y := mX11_alike) (pc := 78) (b := 1) rfl ((lk_0 hly) _) (lf_0_0 hly _) dX11_alike_78 ?_
              refine sm_iload_n (Y := mX11_alike) (pc := 81) 4 3 rfl rfl dX11_alike_81 ?_
              obtain ⟨hn_23, h⟩ := h
              refine sm_aaldG (Y := mX11_alike) (pc := 82) (b := (77 + 4 * x3.toNatClampNeg)) (la_1 hly _) hn_23 (ly_slotR hly (sm_inlt hn_23) _) dX11_alike_82 ?_
              refine sm_iload (Y := mX11_alike) (pc := 83) 5 4 rfl dX11_alike_83 ?_
              refine sm_is_J (Y := mX11_alike) (pc := 85) (As := [.ref (sm_B E + (77 + 4 * x3.toNatClampNeg)), .int x4]) fX11_nameOf wRX11_278 rfl (Nat.le_trans (by decide) hd) (Nat.le_of_ble_eq_true rfl) ⟨Nat.le_refl _, Nat.le_refl _⟩ dX11_alike_85 rfl (sm_monoJ h (fun r_25 m_24 h => ?_))
              refine sm_lstore0 (Y := mX11_alike) (pc := 88) [(7, .long r_25), (5, .long r_21), (0, .ref (sm_B E + 0)), (1, .int x1), (2, .int x2), (3, .int x3), (4, .int x4)] 7 (by decide) rfl dX11_alike_88 ?_
              refine sm_lload (Y := mX11_alike) (pc := 90) 1 5 rfl dX11_alike_90 ?_
              refine sm_lload (Y := mX11_alike) (pc := 92) 0 7 rfl dX11_alike_92 ?_
              refine sm_lif_ne (Y := mX11_alike) (pc := 94) 102 (by decide) dX11_alike_94 dX11_alike_95 (fun hc => ?_) (fun hc => ?_)
              · replace h := h.1 hc
                refine sm_iconst (Y := mX11_alike) (pc := 102) 0 (by decide) dX11_alike_102 ?_
                refine sm_sub [1, 0] rfl ?_
                exact h
              · replace h := h.2 hc
                refine sm_iconst (Y := mX11_alike) (pc := 98) 1 (by decide) dX11_alike_98 ?_
                refine sm_goto (Y := mX11_alike) (pc := 99) 103 (by decide) dX11_alike_99 ?_
                refine sm_sub [1, 0] rfl ?_
                exact h
            · replace h := h.2 hc
              refine sm_aload_n (Y := mX11_alike) (pc := 59) 0 0 rfl rfl dX11_alike_59 ?_
              refine sm_iconst (Y := mX11_alike) (pc := 60) 3 (by decide) dX11_alike_60 ?_
              refine sm_iv_I (Y := mX11_alike) (pc := 61) (As := [.int 3]) (a := 0) fX11_error wRX11_103 (lk_0 hly) (by decide) rfl rfl rfl (Nat.le_trans (by decide) hd) (Nat.le_of_ble_eq_true rfl) ⟨Nat.le_refl _, Nat.le_refl _⟩ dX11_alike_61 rfl (sm_monoI h (fun r_28 m_27 h => ?_))
              exact sm_iret (Y := mX11_alike) (pc := 64) rfl rfl rfl dX11_alike_64 ⟨_, rfl, h⟩
        · replace h := h.2 hc
          refine sm_aload_n (Y := mX11_alike) (pc := 29) 0 0 rfl rfl dX11_alike_29 ?_
          refine sm_iconst (Y := mX11_alike) (pc := 30) 1 (by decide) dX11_alike_30 ?_
          refine sm_iv_I (Y := mX11_alike) (pc := 31) (As := [.int 1]) (a := 0) fX11_error wRX11_103 (lk_0 hly) (by decide) rfl rfl rfl (Nat.le_trans (by decide) hd) (Nat.le_of_ble_eq_true rfl) ⟨Nat.le_refl _, Nat.le_refl _⟩ dX11_alike_31 rfl (sm_monoI h (fun r_30 m_29 h => ?_))
          exact sm_iret (Y := mX11_alike) (pc := 34) rfl rfl rfl dX11_alike_34 ⟨_, rfl, h⟩
abbrev mX11_listed : sm_Y := (yX11_listed, cX11_listed, 4, (some FieldType.int))
theorem fX11_listed : sm_mi mX11_listed RX11 3 := ⟨sm_in 968 (by decide +kernel) (by decide +kernel), sm_in 966 (by decide +kernel) (by decide +kernel), sm_in 967 (by decide +kernel) (by decide +kernel), sm_in 82 (by decide +kernel) (by decide +kernel), rfl, ⟨by decide +kernel, by decide +kernel, by decide +kernel⟩, by decide⟩
theorem dX11_listed_0 : decode cX11_listed 0 = .ok (.iload_n 1, 1) := dk_iload_n_1 (by decide +kernel)
theorem dX11_listed_1 : decode cX11_listed 1 = .ok (.iconst 2, 1) := dk_iconst_2 (by decide +kernel)
theorem dX11_listed_2 : decode cX11_listed 2 = .ok (.if_icmp .lt 19, 3) := dk_if_icmp_lt 19 (b1 := 0) (b2 := 19) (by decide +kernel) (by decide +kernel) (by decide +kernel) (by decide +kernel)
theorem dX11_listed_21 : decode cX11_listed 21 = .ok (.aload_n 0, 1) := dk_aload_n_0 (by decide +kernel)
theorem dX11_listed_22 : decode cX11_listed 22 = .ok (.iconst 1, 1) := dk_iconst_1 (by decide +kernel)
theorem dX11_listed_23 : decode cX11_listed 23 = .ok (.invokevirtual 103, 3) := dk_invokevirtual 103 (b1 := 0) (b2 := 103) (by decide +kernel) (by decide +kernel) (by decide +kernel) (by decide +kernel)
theorem dX11_listed_26 : decode cX11_listed 26 = .ok (.ireturn, 1) := dk_ireturn (by decide +kernel)
theorem dX11_listed_5 : decode cX11_listed 5 = .ok (.iload_n 1, 1) := dk_iload_n_1 (by decide +kernel)
theorem dX11_listed_6 : decode cX11_listed 6 = .ok (.bipush 12, 2) := dk_bipush 12 (b := 12) (by decide +kernel) (by decide +kernel) (by decide +kernel)
theorem dX11_listed_8 : decode cX11_listed 8 = .ok (.if_icmp .gt 13, 3) := dk_if_icmp_gt 13 (b1 := 0) (b2 := 13) (by decide +kernel) (by decide +kernel) (by decide +kernel) (by decide +kernel)
theorem dX11_listed_11 : decode cX11_listed 11 = .ok (.iload_n 3, 1) := dk_iload_n_3 (by decide +kernel)
theorem dX11_listed_12 : decode cX11_listed 12 = .ok (.iconst (-1), 1) := dk_iconst_m1 (by decide +kernel)
theorem dX11_listed_13 : decode cX11_listed 13 = .ok (.if_icmp .lt 8, 3) := dk_if_icmp_lt 8 (b1 := 0) (b2 := 8) (by decide +kernel) (by decide +kernel) (by decide +kernel) (by decide +kernel)
theorem dX11_listed_16 : decode cX11_listed 16 = .ok (.iload_n 3, 1) := dk_iload_n_3 (by decide +kernel)
theorem dX11_listed_17 : decode cX11_listed 17 = .ok (.iconst 1, 1) := dk_iconst_1 (by decide +kernel)
theorem dX11_listed_18 : decode cX11_listed 18 = .ok (.if_icmp .le 9, 3) := dk_if_icmp_le 9 (b1 := 0) (b2 := 9) (by decide +kernel) (by decide +kernel) (by decide +kernel) (by decide +kernel)
theorem dX11_listed_27 : decode cX11_listed 27 = .ok (.iload_n 3, 1) := dk_iload_n_3 (by decide +kernel)
theorem dX11_listed_28 : decode cX11_listed 28 = .ok (.iconst (-1), 1) := dk_iconst_m1 (by decide +kernel)
theorem dX11_listed_29 : decode cX11_listed 29 = .ok (.if_icmp .ne 12, 3) := dk_if_icmp_ne 12 (b1 := 0) (b2 := 12) (by decide +kernel) (by decide +kernel) (by decide +kernel) (by decide +kernel)
theorem dX11_listed_41 : decode cX11_listed 41 = .ok (.iload_n 2, 1) := dk_iload_n_2 (by decide +kernel)
theorem dX11_listed_42 : decode cX11_listed 42 = .ok (.ifCond .ge 9, 3) := dk_ifCond_ge 9 (b1 := 0) (b2 := 9) (by decide +kernel) (by decide +kernel) (by decide +kernel) (by decide +kernel)
theorem dX11_listed_51 : decode cX11_listed 51 = .ok (.iload_n 2, 1) := dk_iload_n_2 (by decide +kernel)
theorem dX11_listed_52 : decode cX11_listed 52 = .ok (.aload_n 0, 1) := dk_aload_n_0 (by decide +kernel)
theorem dX11_listed_53 : decode cX11_listed 53 = .ok (.getfield 63, 3) := dk_getfield 63 (b1 := 0) (b2 := 63) (by decide +kernel) (by decide +kernel) (by decide +kernel) (by decide +kernel)
theorem dX11_listed_56 : decode cX11_listed 56 = .ok (.iload_n 1, 1) := dk_iload_n_1 (by decide +kernel)
theorem wRX11_312 : Cond.methodLink RX11 312 yX5_lengthOf ∈ sm_T := sm_in 969 (by decide +kernel) (by decide +kernel)
abbrev mX5_lengthOf : sm_Y := (yX5_lengthOf, cX5_lengthOf, 2, (some FieldType.int))
theorem fX5_lengthOf : sm_mi mX5_lengthOf RX5 1 := ⟨sm_in 972 (by decide +kernel) (by decide +kernel), sm_in 970 (by decide +kernel) (by decide +kernel), sm_in 971 (by decide +kernel) (by decide +kernel), sm_in 90 (by decide +kernel) (by decide +kernel), rfl, ⟨by decide +kernel, by decide +kernel, by decide +kernel⟩, by decide⟩
theorem dX11_listed_57 : decode cX11_listed 57 = .ok (.invokevirtual 312, 3) := dk_invokevirtual 312 (b1 := 1) (b2 := 56) (by decide +kernel) (by decide +kernel) (by decide +kernel) (by decide +kernel)
theorem dX11_listed_60 : decode cX11_listed 60 = .ok (.if_icmp .lt 9, 3) := dk_if_icmp_lt 9 (b1 := 0) (b2 := 9) (by decide +kernel) (by decide +kernel) (by decide +kernel) (by decide +kernel)
theorem dX11_listed_69 : decode cX11_listed 69 = .ok (.iload_n 3, 1) := dk_iload_n_3 (by decide +kernel)
theorem dX11_listed_70 : decode cX11_listed 70 = .ok (.ifCond .ne 15, 3) := dk_ifCond_ne 15 (b1 := 0) (b2 := 15) (by decide +kernel) (by decide +kernel) (by decide +kernel) (by decide +kernel)
theorem dX11_listed_85 : decode cX11_listed 85 = .ok (.aload_n 0, 1) := dk_aload_n_0 (by decide +kernel)
theorem dX11_listed_86 : decode cX11_listed 86 = .ok (.getfield 63, 3) := dk_getfield 63 (b1 := 0) (b2 := 63) (by decide +kernel) (by decide +kernel) (by decide +kernel) (by decide +kernel)
theorem dX11_listed_89 : decode cX11_listed 89 = .ok (.iload_n 1, 1) := dk_iload_n_1 (by decide +kernel)
theorem dX11_listed_90 : decode cX11_listed 90 = .ok (.iload_n 2, 1) := dk_iload_n_2 (by decide +kernel)
theorem wRX11_318 : Cond.methodLink RX11 318 yX5_bottomAt ∈ sm_T := sm_in 1003 (by decide +kernel) (by decide +kernel)
abbrev mX5_bottomAt : sm_Y := (yX5_bottomAt, cX5_bottomAt, 4, (some FieldType.int))
theorem fX5_bottomAt : sm_mi mX5_bottomAt RX5 2 := ⟨sm_in 1006 (by decide +kernel) (by decide +kernel), sm_in 1004 (by decide +kernel) (by decide +kernel), sm_in 1005 (by decide +kernel) (by decide +kernel), sm_in 90 (by decide +kernel) (by decide +kernel), rfl, ⟨by decide +kernel, by decide +kernel, by decide +kernel⟩, by decide⟩
theorem dX11_listed_91 : decode cX11_listed 91 = .ok (.invokevirtual 318, 3) := dk_invokevirtual 318 (b1 := 1) (b2 := 62) (by decide +kernel) (by decide +kernel) (by decide +kernel) (by decide +kernel)
theorem dX11_listed_94 : decode cX11_listed 94 = .ok (.ireturn, 1) := dk_ireturn (by decide +kernel)
theorem dX11_listed_73 : decode cX11_listed 73 = .ok (.aload_n 0, 1) := dk_aload_n_0 (by decide +kernel)
theorem dX11_listed_74 : decode cX11_listed 74 = .ok (.getfield 63, 3) := dk_getfield 63 (b1 := 0) (b2 := 63) (by decide +kernel) (by decide +kernel) (by decide +kernel) (by decide +kernel)
theorem dX11_listed_77 : decode cX11_listed 77 = .ok (.iload_n 1, 1) := dk_iload_n_1 (by decide +kernel)
theorem dX11_listed_78 : decode cX11_listed 78 = .ok (.iload_n 2, 1) := dk_iload_n_2 (by decide +kernel)
theorem wRX11_315 : Cond.methodLink RX11 315 yX5_topAt ∈ sm_T := sm_in 999 (by decide +kernel) (by decide +kernel)
abbrev mX5_topAt : sm_Y := (yX5_topAt, cX5_topAt, 4, (some FieldType.int))
theorem fX5_topAt : sm_mi mX5_topAt RX5 2 := ⟨sm_in 1002 (by decide +kernel) (by decide +kernel), sm_in 1000 (by decide +kernel) (by decide +kernel), sm_in 1001 (by decide +kernel) (by decide +kernel), sm_in 90 (by decide +kernel) (by decide +kernel), rfl, ⟨by decide +kernel, by decide +kernel, by decide +kernel⟩, by decide⟩
theorem dX11_listed_79 : decode cX11_listed 79 = .ok (.invokevirtual 315, 3) := dk_invokevirtual 315 (b1 := 1) (b2 := 59) (by decide +kernel) (by decide +kernel) (by decide +kernel) (by decide +kernel)
theorem dX11_listed_82 : decode cX11_listed 82 = .ok (.goto 12, 3) := dk_goto 12 (b1 := 0) (b2 := 12) (by decide +kernel) (by decide +kernel) (by decide +kernel) (by decide +kernel)
theorem dX11_listed_63 : decode cX11_listed 63 = .ok (.aload_n 0, 1) := dk_aload_n_0 (by decide +kernel)
theorem dX11_listed_64 : decode cX11_listed 64 = .ok (.iconst 2, 1) := dk_iconst_2 (by decide +kernel)
theorem dX11_listed_65 : decode cX11_listed 65 = .ok (.invokevirtual 103, 3) := dk_invokevirtual 103 (b1 := 0) (b2 := 103) (by decide +kernel) (by decide +kernel) (by decide +kernel) (by decide +kernel)
theorem dX11_listed_68 : decode cX11_listed 68 = .ok (.ireturn, 1) := dk_ireturn (by decide +kernel)
theorem dX11_listed_45 : decode cX11_listed 45 = .ok (.aload_n 0, 1) := dk_aload_n_0 (by decide +kernel)
theorem dX11_listed_46 : decode cX11_listed 46 = .ok (.iconst 1, 1) := dk_iconst_1 (by decide +kernel)
theorem dX11_listed_47 : decode cX11_listed 47 = .ok (.invokevirtual 103, 3) := dk_invokevirtual 103 (b1 := 0) (b2 := 103) (by decide +kernel) (by decide +kernel) (by decide +kernel) (by decide +kernel)
theorem dX11_listed_50 : decode cX11_listed 50 = .ok (.ireturn, 1) := dk_ireturn (by decide +kernel)
theorem dX11_listed_32 : decode cX11_listed 32 = .ok (.aload_n 0, 1) := dk_aload_n_0 (by decide +kernel)
theorem dX11_listed_33 : decode cX11_listed 33 = .ok (.getfield 63, 3) := dk_getfield 63 (b1 := 0) (b2 := 63) (by decide +kernel) (by decide +kernel) (by decide +kernel) (by decide +kernel)
theorem dX11_listed_36 : decode cX11_listed 36 = .ok (.iload_n 1, 1) := dk_iload_n_1 (by decide +kernel)
theorem dX11_listed_37 : decode cX11_listed 37 = .ok (.invokevirtual 312, 3) := dk_invokevirtual 312 (b1 := 1) (b2 := 56) (by decide +kernel) (by decide +kernel) (by decide +kernel) (by decide +kernel)
theorem dX11_listed_40 : decode cX11_listed 40 = .ok (.ireturn, 1) := dk_ireturn (by decide +kernel)
set_option maxRecDepth 20000 in
theorem vX11_listed_0 {E : sm_E} {L : sm_S → Prop} {d : Nat} {x1 : Int32} {x2 : Int32} {x3 : Int32}  {m : sm_M} {Q : Int32 → sm_M → Prop} (hly : ∀ S, L S → ly S) (hd : 6 ≤ d) 
  (h : (x1 < 2 →
      sm_callI E L mX11_error 1 0 0 [.ref (sm_B E + 0), .int 1] m (fun r_2 m_1 =>
      Q r_2 m_1)) ∧
   (¬ x1 < 2 →
      (12 < x1 →
         sm_callI E L mX11_error 1 0 0 [.ref (sm_B E + 0), .int 1] m (fun r_4 m_3 =>
         Q r_4 m_3)) ∧
      (¬ 12 < x1 →
         (x3 < (-1) →
            sm_callI E L mX11_error 1 0 0 [.ref (sm_B E + 0), .int 1] m (fun r_6 m_5 =>
            Q r_6 m_5)) ∧
         (¬ x3 < (-1) →
            (x3 ≤ 1 →
               (¬ x3 = (-1) →
                  (0 ≤ x2 →
                     sm_callI E L mX5_lengthOf 5 0 0 [.ref (sm_B E + 68), .int x1] m (fun r_8 m_7 =>
                     (x2 < r_8 →
                        (¬ x3 = 0 →
                           sm_callI E L mX5_bottomAt 5 0 0 [.ref (sm_B E + 68), .int x1, .int x2] m_7 (fun r_10 m_9 =>
                           Q r_10 m_9)) ∧
                        (x3 = 0 →
                           sm_callI E L mX5_topAt 5 0 0 [.ref (sm_B E + 68), .int x1, .int x2] m_7 (fun r_12 m_11 =>
                           Q r_12 m_11))) ∧
                     (¬ x2 < r_8 →
                        sm_callI E L mX11_error 1 0 0 [.ref (sm_B E + 0), .int 2] m_7 (fun r_14 m_13 =>
                        Q r_14 m_13)))) ∧
                  (¬ 0 ≤ x2 →
                     sm_callI E L mX11_error 1 0 0 [.ref (sm_B E + 0), .int 1] m (fun r_16 m_15 =>
                     Q r_16 m_15))) ∧
               (x3 = (-1) →
                  sm_callI E L mX5_lengthOf 5 0 0 [.ref (sm_B E + 68), .int x1] m (fun r_18 m_17 =>
                  Q r_18 m_17))) ∧
            (¬ x3 ≤ 1 →
               sm_callI E L mX11_error 1 0 0 [.ref (sm_B E + 0), .int 1] m (fun r_20 m_19 =>
               Q r_20 m_19)))))) :
  sm_callI E L mX11_listed d 0 0 [.ref (sm_B E + 0), .int x1, .int x2, .int x3] m Q := by
  refine sm_enter (by decide +kernel) (by simp [lg_sl, Value.category]) ?_
  refine sm_iload_n (Y := mX11_listed) (pc := 0) 1 1 rfl rfl dX11_listed_0 ?_
  refine sm_iconst (Y := mX11_listed) (pc := 1) 2 (by decide) dX11_listed_1 ?_
  refine sm_icmp_lt (Y := mX11_listed) (pc := 2) 21 (by decide) dX11_listed_2 (fun hc => ?_) (fun hc => ?_)
  · replace h := h.1 hc
    refine sm_aload_n (Y := mX11_listed) (pc := 21) 0 0 rfl rfl dX11_listed_21 ?_
    refine sm_iconst (Y := mX11_listed) (pc := 22) 1 (by decide) dX11_listed_22 ?_
    refine sm_iv_I (Y := mX11_listed) (pc := 23) (As := [.int 1]) (a := 0) fX11_error wRX11_103 (lk_0 hly) (by decide) rfl rfl rfl (Nat.le_trans (by decide) hd) (Nat.le_of_ble_eq_true rfl) ⟨Nat.le_refl _, Nat.le_refl _⟩ dX11_listed_23 rfl (sm_monoI h (fun r_2 m_1 h => ?_))
    exact sm_iret (Y := mX11_listed) (pc := 26) rfl rfl rfl dX11_listed_26 ⟨_, rfl, h⟩
  · replace h := h.2 hc
    refine sm_iload_n (Y := mX11_listed) (pc := 5) 1 1 rfl rfl dX11_listed_5 ?_
    refine sm_bipush (Y := mX11_listed) (pc := 6) 12 (by decide) dX11_listed_6 ?_
    refine sm_icmp_gt (Y := mX11_listed) (pc := 8) 21 (by decide) dX11_listed_8 (fun hc => ?_) (fun hc => ?_)
    · replace h := h.1 hc
      refine sm_aload_n (Y := mX11_listed) (pc := 21) 0 0 rfl rfl dX11_listed_21 ?_
      refine sm_iconst (Y := mX11_listed) (pc := 22) 1 (by decide) dX11_listed_22 ?_
      refine sm_iv_I (Y := mX11_listed) (pc := 23) (As := [.int 1]) (a := 0) fX11_error wRX11_103 (lk_0 hly) (by decide) rfl rfl rfl (Nat.le_trans (by decide) hd) (Nat.le_of_ble_eq_true rfl) ⟨Nat.le_refl _, Nat.le_refl _⟩ dX11_listed_23 rfl (sm_monoI h (fun r_4 m_3 h => ?_))
      exact sm_iret (Y := mX11_listed) (pc := 26) rfl rfl rfl dX11_listed_26 ⟨_, rfl, h⟩
    · replace h := h.2 hc
      refine sm_iload_n (Y := mX11_listed) (pc := 11) 3 3 rfl rfl dX11_listed_11 ?_
      refine sm_iconst (Y := mX11_listed) (pc := 12) (-1) (by decide) dX11_listed_12 ?_
      refine sm_icmp_lt (Y := mX11_listed) (pc := 13) 21 (by decide) dX11_listed_13 (fun hc => ?_) (fun hc => ?_)
      · replace h := h.1 hc
        refine sm_aload_n (Y := mX11_listed) (pc := 21) 0 0 rfl rfl dX11_listed_21 ?_
        refine sm_iconst (Y := mX11_listed) (pc := 22) 1 (by decide) dX11_listed_22 ?_
        refine sm_iv_I (Y := mX11_listed) (pc := 23) (As := [.int 1]) (a := 0) fX11_error wRX11_103 (lk_0 hly) (by decide) rfl rfl rfl (Nat.le_trans (by decide) hd) (Nat.le_of_ble_eq_true rfl) ⟨Nat.le_refl _, Nat.le_refl _⟩ dX11_listed_23 rfl (sm_monoI h (fun r_6 m_5 h => ?_))
        exact sm_iret (Y := mX11_listed) (pc := 26) rfl rfl rfl dX11_listed_26 ⟨_, rfl, h⟩
      · replace h := h.2 hc
        refine sm_iload_n (Y := mX11_listed) (pc := 16) 3 3 rfl rfl dX11_listed_16 ?_
        refine sm_iconst (Y := mX11_listed) (pc := 17) 1 (by decide) dX11_listed_17 ?_
        refine sm_icmp_le (Y := mX11_listed) (pc := 18) 27 (by decide) dX11_listed_18 (fun hc => ?_) (fun hc => ?_)
        · replace h := h.1 hc
          refine sm_iload_n (Y := mX11_listed) (pc := 27) 3 3 rfl rfl dX11_listed_27 ?_
          refine sm_iconst (Y := mX11_listed) (pc := 28) (-1) (by decide) dX11_listed_28 ?_
          refine sm_icmp_ne (Y := mX11_listed) (pc := 29) 41 (by decide) dX11_listed_29 (fun hc => ?_) (fun hc => ?_)
          · replace h := h.1 hc
            refine sm_iload_n (Y := mX11_listed) (pc := 41) 2 2 rfl rfl dX11_listed_41 ?_
            refine sm_if_ge (Y := mX11_listed) (pc := 42) 51 (by decide) dX11_listed_42 (fun hc => ?_) (fun hc => ?_)
            · replace h := h.1 hc
              refine sm_iload_n (Y := mX11_listed) (pc := 51) 2 2 rfl rfl dX11_listed_51 ?_
              refine sm_aload_n (Y := mX11_listed) (pc := 52) 0 0 rfl rfl dX11_listed_52 ?_
              refine gf_RX11_63 (Y := mX11_listed) (pc := 53) (b := 68) rfl ((lk_0 hly) _) (lf_0_8 hly _) dX11_listed_53 ?_
              refine sm_iload_n (Y := mX11_listed) (pc := 56) 1 1 rfl rfl dX11_listed_56 ?_
              refine sm_iv_I (Y := mX11_listed) (pc := 57) (As := [.int x1]) (a := 68) fX5_lengthOf wRX11_312 (lk_68 hly) (by decide) rfl rfl rfl (Nat.le_trans (by decide) hd) (Nat.le_of_ble_eq_true rfl) ⟨Nat.le_refl _, Nat.le_refl _⟩ dX11_listed_57 rfl (sm_monoI h (fun r_8 m_7 h => ?_))
              refine sm_icmp_lt (Y := mX11_listed) (pc := 60) 69 (by decide) dX11_listed_60 (fun hc => ?_) (fun hc => ?_)
              · replace h := h.1 hc
                refine sm_iload_n (Y := mX11_listed) (pc := 69) 3 3 rfl rfl dX11_listed_69 ?_
                refine sm_if_ne (Y := mX11_listed) (pc := 70) 85 (by decide) dX11_listed_70 (fun hc => ?_) (fun hc => ?_)
                · replace h := h.1 hc
                  refine sm_aload_n (Y := mX11_listed) (pc := 85) 0 0 rfl rfl dX11_listed_85 ?_
                  refine gf_RX11_63 (Y := mX11_listed) (pc := 86) (b := 68) rfl ((lk_0 hly) _) (lf_0_8 hly _) dX11_listed_86 ?_
                  refine sm_iload_n (Y := mX11_listed) (pc := 89) 1 1 rfl rfl dX11_listed_89 ?_
                  refine sm_iload_n (Y := mX11_listed) (pc := 90) 2 2 rfl rfl dX11_listed_90 ?_
                  refine sm_iv_I (Y := mX11_listed) (pc := 91) (As := [.int x1, .int x2]) (a := 68) fX5_bottomAt wRX11_318 (lk_68 hly) (by decide) rfl rfl rfl (Nat.le_trans (by decide) hd) (Nat.le_of_ble_eq_true rfl) ⟨Nat.le_refl _, Nat.le_refl _⟩ dX11_listed_91 rfl (sm_monoI h (fun r_10 m_9 h => ?_))
                  exact sm_iret (Y := mX11_listed) (pc := 94) rfl rfl rfl dX11_listed_94 ⟨_, rfl, h⟩
                · replace h := h.2 hc
                  refine sm_aload_n (Y := mX11_listed) (pc := 73) 0 0 rfl rfl dX11_listed_73 ?_
                  refine gf_RX11_63 (Y := mX11_listed) (pc := 74) (b := 68) rfl ((lk_0 hly) _) (lf_0_8 hly _) dX11_listed_74 ?_
                  refine sm_iload_n (Y := mX11_listed) (pc := 77) 1 1 rfl rfl dX11_listed_77 ?_
                  refine sm_iload_n (Y := mX11_listed) (pc := 78) 2 2 rfl rfl dX11_listed_78 ?_
                  refine sm_iv_I (Y := mX11_listed) (pc := 79) (As := [.int x1, .int x2]) (a := 68) fX5_topAt wRX11_315 (lk_68 hly) (by decide) rfl rfl rfl (Nat.le_trans (by decide) hd) (Nat.le_of_ble_eq_true rfl) ⟨Nat.le_refl _, Nat.le_refl _⟩ dX11_listed_79 rfl (sm_monoI h (fun r_12 m_11 h => ?_))
                  refine sm_goto (Y := mX11_listed) (pc := 82) 94 (by decide) dX11_listed_82 ?_
                  exact sm_iret (Y := mX11_listed) (pc := 94) rfl rfl rfl dX11_listed_94 ⟨_, rfl, h⟩
              · replace h := h.2 hc
                refine sm_aload_n (Y := mX11_listed) (pc := 63) 0 0 rfl rfl dX11_listed_63 ?_
                refine sm_iconst (Y := mX11_listed) (pc := 64) 2 (by decide) dX11_listed_64 ?_
                refine sm_iv_I (Y := mX11_listed) (pc := 65) (As := [.int 2]) (a := 0) fX11_error wRX11_103 (lk_0 hly) (by decide) rfl rfl rfl (Nat.le_trans (by decide) hd) (Nat.le_of_ble_eq_true rfl) ⟨Nat.le_refl _, Nat.le_refl _⟩ dX11_listed_65 rfl (sm_monoI h (fun r_14 m_13 h => ?_))
                exact sm_iret (Y := mX11_listed) (pc := 68) rfl rfl rfl dX11_listed_68 ⟨_, rfl, h⟩
            · replace h := h.2 hc
              refine sm_aload_n (Y := mX11_listed) (pc := 45) 0 0 rfl rfl dX11_listed_45 ?_
              refine sm_iconst (Y := mX11_listed) (pc := 46) 1 (by decide) dX11_listed_46 ?_
              refine sm_iv_I (Y := mX11_listed) (pc := 47) (As := [.int 1]) (a := 0) fX11_error wRX11_103 (lk_0 hly) (by decide) rfl rfl rfl (Nat.le_trans (by decide) hd) (Nat.le_of_ble_eq_true rfl) ⟨Nat.le_refl _, Nat.le_refl _⟩ dX11_listed_47 rfl (sm_monoI h (fun r_16 m_15 h => ?_))
              exact sm_iret (Y := mX11_listed) (pc := 50) rfl rfl rfl dX11_listed_50 ⟨_, rfl, h⟩
          · replace h := h.2 hc
            refine sm_aload_n (Y := mX11_listed) (pc := 32) 0 0 rfl rfl dX11_listed_32 ?_
            refine gf_RX11_63 (Y := mX11_listed) (pc := 33) (b := 68) rfl ((lk_0 hly) _) (lf_0_8 hly _) dX11_listed_33 ?_
            refine sm_iload_n (Y := mX11_listed) (pc := 36) 1 1 rfl rfl dX11_listed_36 ?_
            refine sm_iv_I (Y := mX11_listed) (pc := 37) (As := [.int x1]) (a := 68) fX5_lengthOf wRX11_312 (lk_68 hly) (by decide) rfl rfl rfl (Nat.le_trans (by decide) hd) (Nat.le_of_ble_eq_true rfl) ⟨Nat.le_refl _, Nat.le_refl _⟩ dX11_listed_37 rfl (sm_monoI h (fun r_18 m_17 h => ?_))
            exact sm_iret (Y := mX11_listed) (pc := 40) rfl rfl rfl dX11_listed_40 ⟨_, rfl, h⟩
        · replace h := h.2 hc
          refine sm_aload_n (Y := mX11_listed) (pc := 21) 0 0 rfl rfl dX11_listed_21 ?_
          refine sm_iconst (Y := mX11_listed) (pc := 22) 1 (by decide) dX11_listed_22 ?_
          refine sm_iv_I (Y := mX11_listed) (pc := 23) (As := [.int 1]) (a := 0) fX11_error wRX11_103 (lk_0 hly) (by decide) rfl rfl rfl (Nat.le_trans (by decide) hd) (Nat.le_of_ble_eq_true rfl) ⟨Nat.le_refl _, Nat.le_refl _⟩ dX11_listed_23 rfl (sm_monoI h (fun r_20 m_19 h => ?_))
          exact sm_iret (Y := mX11_listed) (pc := 26) rfl rfl rfl dX11_listed_26 ⟨_, rfl, h⟩
abbrev mX11_enter : sm_Y := (yX11_enter, cX11_enter, 5, (some FieldType.int))
theorem fX11_enter : sm_mi mX11_enter RX11 2 := ⟨sm_in 1010 (by decide +kernel) (by decide +kernel), sm_in 1008 (by decide +kernel) (by decide +kernel), sm_in 1009 (by decide +kernel) (by decide +kernel), sm_in 82 (by decide +kernel) (by decide +kernel), rfl, ⟨by decide +kernel, by decide +kernel, by decide +kernel⟩, by decide⟩
theorem dX11_enter_0 : decode cX11_enter 0 = .ok (.iload_n 1, 1) := dk_iload_n_1 (by decide +kernel)
theorem dX11_enter_1 : decode cX11_enter 1 = .ok (.invokestatic 99, 3) := dk_invokestatic 99 (b1 := 0) (b2 := 99) (by decide +kernel) (by decide +kernel) (by decide +kernel) (by decide +kernel)
theorem dX11_enter_4 : decode cX11_enter 4 = .ok (.ifCond .eq 10, 3) := dk_ifCond_eq 10 (b1 := 0) (b2 := 10) (by decide +kernel) (by decide +kernel) (by decide +kernel) (by decide +kernel)
theorem dX11_enter_14 : decode cX11_enter 14 = .ok (.aload_n 0, 1) := dk_aload_n_0 (by decide +kernel)
theorem dX11_enter_15 : decode cX11_enter 15 = .ok (.iconst 1, 1) := dk_iconst_1 (by decide +kernel)
theorem dX11_enter_16 : decode cX11_enter 16 = .ok (.invokevirtual 103, 3) := dk_invokevirtual 103 (b1 := 0) (b2 := 103) (by decide +kernel) (by decide +kernel) (by decide +kernel) (by decide +kernel)
theorem dX11_enter_19 : decode cX11_enter 19 = .ok (.ireturn, 1) := dk_ireturn (by decide +kernel)
theorem dX11_enter_7 : decode cX11_enter 7 = .ok (.iload_n 2, 1) := dk_iload_n_2 (by decide +kernel)
theorem dX11_enter_8 : decode cX11_enter 8 = .ok (.invokestatic 148, 3) := dk_invokestatic 148 (b1 := 0) (b2 := 148) (by decide +kernel) (by decide +kernel) (by decide +kernel) (by decide +kernel)
theorem dX11_enter_11 : decode cX11_enter 11 = .ok (.ifCond .ne 9, 3) := dk_ifCond_ne 9 (b1 := 0) (b2 := 9) (by decide +kernel) (by decide +kernel) (by decide +kernel) (by decide +kernel)
theorem dX11_enter_20 : decode cX11_enter 20 = .ok (.aload_n 0, 1) := dk_aload_n_0 (by decide +kernel)
theorem dX11_enter_21 : decode cX11_enter 21 = .ok (.getfield 11, 3) := dk_getfield 11 (b1 := 0) (b2 := 11) (by decide +kernel) (by decide +kernel) (by decide +kernel) (by decide +kernel)
theorem dX11_enter_24 : decode cX11_enter 24 = .ok (.iload_n 1, 1) := dk_iload_n_1 (by decide +kernel)
theorem dX11_enter_25 : decode cX11_enter 25 = .ok (.aaload, 1) := dk_aaload (by decide +kernel)
theorem dX11_enter_26 : decode cX11_enter 26 = .ok (.astore_n 3, 1) := dk_astore_n_3 (by decide +kernel)
theorem dX11_enter_27 : decode cX11_enter 27 = .ok (.aload_n 3, 1) := dk_aload_n_3 (by decide +kernel)
theorem dX11_enter_28 : decode cX11_enter 28 = .ok (.getfield 129, 3) := dk_getfield 129 (b1 := 0) (b2 := 129) (by decide +kernel) (by decide +kernel) (by decide +kernel) (by decide +kernel)
theorem dX11_enter_31 : decode cX11_enter 31 = .ok (.ifCond .ne 9, 3) := dk_ifCond_ne 9 (b1 := 0) (b2 := 9) (by decide +kernel) (by decide +kernel) (by decide +kernel) (by decide +kernel)
theorem dX11_enter_40 : decode cX11_enter 40 = .ok (.aload_n 0, 1) := dk_aload_n_0 (by decide +kernel)
theorem dX11_enter_41 : decode cX11_enter 41 = .ok (.getfield 70, 3) := dk_getfield 70 (b1 := 0) (b2 := 70) (by decide +kernel) (by decide +kernel) (by decide +kernel) (by decide +kernel)
theorem dX11_enter_44 : decode cX11_enter 44 = .ok (.aload_n 3, 1) := dk_aload_n_3 (by decide +kernel)
theorem dX11_enter_45 : decode cX11_enter 45 = .ok (.iload_n 2, 1) := dk_iload_n_2 (by decide +kernel)
theorem dX11_enter_46 : decode cX11_enter 46 = .ok (.invokestatic 278, 3) := dk_invokestatic 278 (b1 := 1) (b2 := 22) (by decide +kernel) (by decide +kernel) (by decide +kernel) (by decide +kernel)
theorem wRX11_321 : Cond.methodLink RX11 321 yX0_inscribe ∈ sm_T := sm_in 1011 (by decide +kernel) (by decide +kernel)
theorem dX11_enter_49 : decode cX11_enter 49 = .ok (.invokevirtual 321, 3) := dk_invokevirtual 321 (b1 := 1) (b2 := 65) (by decide +kernel) (by decide +kernel) (by decide +kernel) (by decide +kernel)
theorem dX11_enter_52 : decode cX11_enter 52 = .ok (.istore 4, 2) := dk_istore 4 (b := 4) (by decide +kernel) (by decide +kernel) (by decide +kernel)
theorem dX11_enter_54 : decode cX11_enter 54 = .ok (.iload 4, 2) := dk_iload 4 (b := 4) (by decide +kernel) (by decide +kernel) (by decide +kernel)
theorem dX11_enter_56 : decode cX11_enter 56 = .ok (.ifCond .ne 11, 3) := dk_ifCond_ne 11 (b1 := 0) (b2 := 11) (by decide +kernel) (by decide +kernel) (by decide +kernel) (by decide +kernel)
theorem dX11_enter_67 : decode cX11_enter 67 = .ok (.iload 4, 2) := dk_iload 4 (b := 4) (by decide +kernel) (by decide +kernel) (by decide +kernel)
theorem dX11_enter_69 : decode cX11_enter 69 = .ok (.ireturn, 1) := dk_ireturn (by decide +kernel)
theorem dX11_enter_59 : decode cX11_enter 59 = .ok (.aload_n 0, 1) := dk_aload_n_0 (by decide +kernel)
theorem dX11_enter_60 : decode cX11_enter 60 = .ok (.iconst 4, 1) := dk_iconst_4 (by decide +kernel)
theorem dX11_enter_61 : decode cX11_enter 61 = .ok (.invokevirtual 103, 3) := dk_invokevirtual 103 (b1 := 0) (b2 := 103) (by decide +kernel) (by decide +kernel) (by decide +kernel) (by decide +kernel)
theorem dX11_enter_64 : decode cX11_enter 64 = .ok (.goto 5, 3) := dk_goto 5 (b1 := 0) (b2 := 5) (by decide +kernel) (by decide +kernel) (by decide +kernel) (by decide +kernel)
theorem dX11_enter_34 : decode cX11_enter 34 = .ok (.aload_n 0, 1) := dk_aload_n_0 (by decide +kernel)
theorem dX11_enter_35 : decode cX11_enter 35 = .ok (.iconst 3, 1) := dk_iconst_3 (by decide +kernel)
theorem dX11_enter_36 : decode cX11_enter 36 = .ok (.invokevirtual 103, 3) := dk_invokevirtual 103 (b1 := 0) (b2 := 103) (by decide +kernel) (by decide +kernel) (by decide +kernel) (by decide +kernel)
theorem dX11_enter_39 : decode cX11_enter 39 = .ok (.ireturn, 1) := dk_ireturn (by decide +kernel)
set_option maxRecDepth 20000 in
theorem vX11_enter_0 {E : sm_E} {L : sm_S → Prop} {d : Nat} {x1 : Int32} {x2 : Int32}  {m : sm_M} {Q : Int32 → sm_M → Prop} (hly : ∀ S, L S → ly S) (hd : 4 ≤ d) 
  (h : sm_callI E L mX11_isSlot 1 0 0 [.int x1] m (fun r_2 m_1 =>
   (r_2 = 0 →
      sm_callI E L mX11_error 1 0 0 [.ref (sm_B E + 0), .int 1] m_1 (fun r_4 m_3 =>
      Q r_4 m_3)) ∧
   (¬ r_2 = 0 →
      sm_callI E L mX11_isChoice 1 0 0 [.int x2] m_1 (fun r_6 m_5 =>
      (¬ r_6 = 0 →
         (vp_in x1 6) ∧ (¬ (m_5.1 (77 + 4 * x1.toNatClampNeg) 7) = 0 →
            sm_callJ E L mX11_nameOf 3 0 0 [.ref (sm_B E + (77 + 4 * x1.toNatClampNeg)), .int x2] m_5 (fun r_9 m_8 =>
            sm_callI E L mX0_inscribe 2 0 0 [.ref (sm_B E + 70), .long r_9] m_8 (fun r_11 m_10 =>
            (¬ r_11 = 0 →
               Q r_11 m_10) ∧
            (r_11 = 0 →
               sm_callI E L mX11_error 1 0 0 [.ref (sm_B E + 0), .int 4] m_10 (fun r_14 m_13 =>
               Q r_14 m_13))))) ∧
         ((m_5.1 (77 + 4 * x1.toNatClampNeg) 7) = 0 →
            sm_callI E L mX11_error 1 0 0 [.ref (sm_B E + 0), .int 3] m_5 (fun r_16 m_15 =>
            Q r_16 m_15))) ∧
      (r_6 = 0 →
         sm_callI E L mX11_error 1 0 0 [.ref (sm_B E + 0), .int 1] m_5 (fun r_18 m_17 =>
         Q r_18 m_17)))))) :
  sm_callI E L mX11_enter d 0 0 [.ref (sm_B E + 0), .int x1, .int x2] m Q := by
  refine sm_enter (by decide +kernel) (by simp [lg_sl, Value.category]) ?_
  refine sm_iload_n (Y := mX11_enter) (pc := 0) 1 1 rfl rfl dX11_enter_0 ?_
  refine sm_is_I (Y := mX11_enter) (pc := 1) (As := [.int x1]) fX11_isSlot wRX11_99 rfl (Nat.le_trans (by decide) hd) (Nat.le_of_ble_eq_true rfl) ⟨Nat.le_refl _, Nat.le_refl _⟩ dX11_enter_1 rfl (sm_monoI h (fun r_2 m_1 h => ?_))
  refine sm_if_eq (Y := mX11_enter) (pc := 4) 14 (by decide) dX11_enter_4 (fun hc => ?_) (fun hc => ?_)
  · replace h := h.1 hc
    refine sm_aload_n (Y := mX11_enter) (pc := 14) 0 0 rfl rfl dX11_enter_14 ?_
    refine sm_iconst (Y := mX11_enter) (pc := 15) 1 (by decide) dX11_enter_15 ?_
    refine sm_iv_I (Y := mX11_enter) (pc := 16) (As := [.int 1]) (a := 0) fX11_error wRX11_103 (lk_0 hly) (by decide) rfl rfl rfl (Nat.le_trans (by decide) hd) (Nat.le_of_ble_eq_true rfl) ⟨Nat.le_refl _, Nat.le_refl _⟩ dX11_enter_16 rfl (sm_monoI h (fun r_4 m_3 h => ?_))
    exact sm_iret (Y := mX11_enter) (pc := 19) rfl rfl rfl dX11_enter_19 ⟨_, rfl, h⟩
  · replace h := h.2 hc
    refine sm_iload_n (Y := mX11_enter) (pc := 7) 2 2 rfl rfl dX11_enter_7 ?_
    refine sm_is_I (Y := mX11_enter) (pc := 8) (As := [.int x2]) fX11_isChoice wRX11_148 rfl (Nat.le_trans (by decide) hd) (Nat.le_of_ble_eq_true rfl) ⟨Nat.le_refl _, Nat.le_refl _⟩ dX11_enter_8 rfl (sm_monoI h (fun r_6 m_5 h => ?_))
    refine sm_if_ne (Y := mX11_enter) (pc := 11) 20 (by decide) dX11_enter_11 (fun hc => ?_) (fun hc => ?_)
    · replace h := h.1 hc
      refine sm_aload_n (Y := mX11_enter) (pc := 20) 0 0 rfl rfl dX11_enter_20 ?_
      refine gf_RX11_11 (Y := mX11_enter) (pc := 21) (b := 1) rfl ((lk_0 hly) _) (lf_0_0 hly _) dX11_enter_21 ?_
      refine sm_iload_n (Y := mX11_enter) (pc := 24) 1 1 rfl rfl dX11_enter_24 ?_
      obtain ⟨hn_7, h⟩ := h
      refine sm_aaldG (Y := mX11_enter) (pc := 25) (b := (77 + 4 * x1.toNatClampNeg)) (la_1 hly _) hn_7 (ly_slotR hly (sm_inlt hn_7) _) dX11_enter_25 ?_
      refine sm_astore_n (Y := mX11_enter) (pc := 26) [(3, .ref (sm_B E + (77 + 4 * x1.toNatClampNeg))), (0, .ref (sm_B E + 0)), (1, .int x1), (2, .int x2)] 3 rfl (by decide) rfl dX11_enter_26 ?_
      refine sm_aload_n (Y := mX11_enter) (pc := 27) 0 3 rfl rfl dX11_enter_27 ?_
      refine gf_RX11_129 (Y := mX11_enter) (pc := 28) rfl ((fun S hS => ((ly_slotT hly (sm_inlt hn_7)) S hS).1) _) dX11_enter_28 ?_
      refine sm_if_ne (Y := mX11_enter) (pc := 31) 40 (by decide) dX11_enter_31 (fun hc => ?_) (fun hc => ?_)
      · replace h := h.1 hc
        refine sm_aload_n (Y := mX11_enter) (pc := 40) 1 0 rfl rfl dX11_enter_40 ?_
        refine gf_RX11_70 (Y := mX11_enter) (pc := 41) (b := 70) rfl ((lk_0 hly) _) (lf_0_9 hly _) dX11_enter_41 ?_
        refine sm_aload_n (Y := mX11_enter) (pc := 44) 0 3 rfl rfl dX11_enter_44 ?_
        refine sm_iload_n (Y := mX11_enter) (pc := 45) 3 2 rfl rfl dX11_enter_45 ?_
        refine sm_is_J (Y := mX11_enter) (pc := 46) (As := [.ref (sm_B E + (77 + 4 * x1.toNatClampNeg)), .int x2]) fX11_nameOf wRX11_278 rfl (Nat.le_trans (by decide) hd) (Nat.le_of_ble_eq_true rfl) ⟨Nat.le_refl _, Nat.le_refl _⟩ dX11_enter_46 rfl (sm_monoJ h (fun r_9 m_8 h => ?_))
        refine sm_iv_I (Y := mX11_enter) (pc := 49) (As := [.long r_9]) (a := 70) fX0_inscribe wRX11_321 (lk_70 hly) (by decide) rfl rfl rfl (Nat.le_trans (by decide) hd) (Nat.le_of_ble_eq_true rfl) ⟨Nat.le_refl _, Nat.le_refl _⟩ dX11_enter_49 rfl (sm_monoI h (fun r_11 m_10 h => ?_))
        refine sm_istore0 (Y := mX11_enter) (pc := 52) [(4, .int r_11), (3, .ref (sm_B E + (77 + 4 * x1.toNatClampNeg))), (0, .ref (sm_B E + 0)), (1, .int x1), (2, .int x2)] 4 (by decide) rfl dX11_enter_52 ?_
        refine sm_iload (Y := mX11_enter) (pc := 54) 0 4 rfl dX11_enter_54 ?_
        refine sm_if_ne (Y := mX11_enter) (pc := 56) 67 (by decide) dX11_enter_56 (fun hc => ?_) (fun hc => ?_)
        · replace h := h.1 hc
          refine sm_iload (Y := mX11_enter) (pc := 67) 0 4 rfl dX11_enter_67 ?_
          exact sm_iret (Y := mX11_enter) (pc := 69) rfl rfl rfl dX11_enter_69 ⟨_, rfl, h⟩
        · replace h := h.2 hc
          refine sm_aload_n (Y := mX11_enter) (pc := 59) 2 0 rfl rfl dX11_enter_59 ?_
          refine sm_iconst (Y := mX11_enter) (pc := 60) 4 (by decide) dX11_enter_60 ?_
          refine sm_iv_I (Y := mX11_enter) (pc := 61) (As := [.int 4]) (a := 0) fX11_error wRX11_103 (lk_0 hly) (by decide) rfl rfl rfl (Nat.le_trans (by decide) hd) (Nat.le_of_ble_eq_true rfl) ⟨Nat.le_refl _, Nat.le_refl _⟩ dX11_enter_61 rfl (sm_monoI h (fun r_14 m_13 h => ?_))
          refine sm_goto (Y := mX11_enter) (pc := 64) 69 (by decide) dX11_enter_64 ?_
          exact sm_iret (Y := mX11_enter) (pc := 69) rfl rfl rfl dX11_enter_69 ⟨_, rfl, h⟩
      · replace h := h.2 hc
        refine sm_aload_n (Y := mX11_enter) (pc := 34) 1 0 rfl rfl dX11_enter_34 ?_
        refine sm_iconst (Y := mX11_enter) (pc := 35) 3 (by decide) dX11_enter_35 ?_
        refine sm_iv_I (Y := mX11_enter) (pc := 36) (As := [.int 3]) (a := 0) fX11_error wRX11_103 (lk_0 hly) (by decide) rfl rfl rfl (Nat.le_trans (by decide) hd) (Nat.le_of_ble_eq_true rfl) ⟨Nat.le_refl _, Nat.le_refl _⟩ dX11_enter_36 rfl (sm_monoI h (fun r_16 m_15 h => ?_))
        exact sm_iret (Y := mX11_enter) (pc := 39) rfl rfl rfl dX11_enter_39 ⟨_, rfl, h⟩
    · replace h := h.2 hc
      refine sm_aload_n (Y := mX11_enter) (pc := 14) 0 0 rfl rfl dX11_enter_14 ?_
      refine sm_iconst (Y := mX11_enter) (pc := 15) 1 (by decide) dX11_enter_15 ?_
      refine sm_iv_I (Y := mX11_enter) (pc := 16) (As := [.int 1]) (a := 0) fX11_error wRX11_103 (lk_0 hly) (by decide) rfl rfl rfl (Nat.le_trans (by decide) hd) (Nat.le_of_ble_eq_true rfl) ⟨Nat.le_refl _, Nat.le_refl _⟩ dX11_enter_16 rfl (sm_monoI h (fun r_18 m_17 h => ?_))
      exact sm_iret (Y := mX11_enter) (pc := 19) rfl rfl rfl dX11_enter_19 ⟨_, rfl, h⟩
abbrev mX11_book : sm_Y := (yX11_book, cX11_book, 3, (some FieldType.int))
theorem fX11_book : sm_mi mX11_book RX11 2 := ⟨sm_in 1022 (by decide +kernel) (by decide +kernel), sm_in 1020 (by decide +kernel) (by decide +kernel), sm_in 1021 (by decide +kernel) (by decide +kernel), sm_in 82 (by decide +kernel) (by decide +kernel), rfl, ⟨by decide +kernel, by decide +kernel, by decide +kernel⟩, by decide⟩
theorem dX11_book_0 : decode cX11_book 0 = .ok (.iload_n 2, 1) := dk_iload_n_2 (by decide +kernel)
theorem dX11_book_1 : decode cX11_book 1 = .ok (.ifCond .lt 8, 3) := dk_ifCond_lt 8 (b1 := 0) (b2 := 8) (by decide +kernel) (by decide +kernel) (by decide +kernel) (by decide +kernel)
theorem dX11_book_9 : decode cX11_book 9 = .ok (.aload_n 0, 1) := dk_aload_n_0 (by decide +kernel)
theorem dX11_book_10 : decode cX11_book 10 = .ok (.iconst 1, 1) := dk_iconst_1 (by decide +kernel)
theorem dX11_book_11 : decode cX11_book 11 = .ok (.invokevirtual 103, 3) := dk_invokevirtual 103 (b1 := 0) (b2 := 103) (by decide +kernel) (by decide +kernel) (by decide +kernel) (by decide +kernel)
theorem dX11_book_14 : decode cX11_book 14 = .ok (.ireturn, 1) := dk_ireturn (by decide +kernel)
theorem dX11_book_4 : decode cX11_book 4 = .ok (.iload_n 2, 1) := dk_iload_n_2 (by decide +kernel)
theorem dX11_book_5 : decode cX11_book 5 = .ok (.iconst 2, 1) := dk_iconst_2 (by decide +kernel)
theorem dX11_book_6 : decode cX11_book 6 = .ok (.if_icmp .le 9, 3) := dk_if_icmp_le 9 (b1 := 0) (b2 := 9) (by decide +kernel) (by decide +kernel) (by decide +kernel) (by decide +kernel)
theorem dX11_book_15 : decode cX11_book 15 = .ok (.aload_n 0, 1) := dk_aload_n_0 (by decide +kernel)
theorem dX11_book_16 : decode cX11_book 16 = .ok (.getfield 70, 3) := dk_getfield 70 (b1 := 0) (b2 := 70) (by decide +kernel) (by decide +kernel) (by decide +kernel) (by decide +kernel)
theorem dX11_book_19 : decode cX11_book 19 = .ok (.iload_n 1, 1) := dk_iload_n_1 (by decide +kernel)
theorem wRX11_324 : Cond.methodLink RX11 324 yX0_has ∈ sm_T := sm_in 1023 (by decide +kernel) (by decide +kernel)
theorem dX11_book_20 : decode cX11_book 20 = .ok (.invokevirtual 324, 3) := dk_invokevirtual 324 (b1 := 1) (b2 := 68) (by decide +kernel) (by decide +kernel) (by decide +kernel) (by decide +kernel)
theorem dX11_book_23 : decode cX11_book 23 = .ok (.ifCond .ne 9, 3) := dk_ifCond_ne 9 (b1 := 0) (b2 := 9) (by decide +kernel) (by decide +kernel) (by decide +kernel) (by decide +kernel)
theorem dX11_book_32 : decode cX11_book 32 = .ok (.aload_n 0, 1) := dk_aload_n_0 (by decide +kernel)
theorem dX11_book_33 : decode cX11_book 33 = .ok (.getfield 70, 3) := dk_getfield 70 (b1 := 0) (b2 := 70) (by decide +kernel) (by decide +kernel) (by decide +kernel) (by decide +kernel)
theorem dX11_book_36 : decode cX11_book 36 = .ok (.iload_n 1, 1) := dk_iload_n_1 (by decide +kernel)
theorem dX11_book_37 : decode cX11_book 37 = .ok (.iload_n 2, 1) := dk_iload_n_2 (by decide +kernel)
theorem wRX11_325 : Cond.methodLink RX11 325 yX0_tell ∈ sm_T := sm_in 1027 (by decide +kernel) (by decide +kernel)
theorem dX11_book_38 : decode cX11_book 38 = .ok (.invokevirtual 325, 3) := dk_invokevirtual 325 (b1 := 1) (b2 := 69) (by decide +kernel) (by decide +kernel) (by decide +kernel) (by decide +kernel)
theorem dX11_book_41 : decode cX11_book 41 = .ok (.ireturn, 1) := dk_ireturn (by decide +kernel)
theorem dX11_book_26 : decode cX11_book 26 = .ok (.aload_n 0, 1) := dk_aload_n_0 (by decide +kernel)
theorem dX11_book_27 : decode cX11_book 27 = .ok (.iconst 2, 1) := dk_iconst_2 (by decide +kernel)
theorem dX11_book_28 : decode cX11_book 28 = .ok (.invokevirtual 103, 3) := dk_invokevirtual 103 (b1 := 0) (b2 := 103) (by decide +kernel) (by decide +kernel) (by decide +kernel) (by decide +kernel)
theorem dX11_book_31 : decode cX11_book 31 = .ok (.ireturn, 1) := dk_ireturn (by decide +kernel)
set_option maxRecDepth 20000 in
theorem vX11_book_0 {E : sm_E} {L : sm_S → Prop} {d : Nat} {x1 : Int32} {x2 : Int32}  {m : sm_M} {Q : Int32 → sm_M → Prop} (hly : ∀ S, L S → ly S) (hd : 3 ≤ d) 
  (h : (x2 < 0 →
      sm_callI E L mX11_error 1 0 0 [.ref (sm_B E + 0), .int 1] m (fun r_2 m_1 =>
      Q r_2 m_1)) ∧
   (¬ x2 < 0 →
      (x2 ≤ 2 →
         sm_callI E L mX0_has 1 0 0 [.ref (sm_B E + 70), .int x1] m (fun r_4 m_3 =>
         (¬ r_4 = 0 →
            sm_callI E L mX0_tell 2 0 0 [.ref (sm_B E + 70), .int x1, .int x2] m_3 (fun r_6 m_5 =>
            Q r_6 m_5)) ∧
         (r_4 = 0 →
            sm_callI E L mX11_error 1 0 0 [.ref (sm_B E + 0), .int 2] m_3 (fun r_8 m_7 =>
            Q r_8 m_7)))) ∧
      (¬ x2 ≤ 2 →
         sm_callI E L mX11_error 1 0 0 [.ref (sm_B E + 0), .int 1] m (fun r_10 m_9 =>
         Q r_10 m_9)))) :
  sm_callI E L mX11_book d 0 0 [.ref (sm_B E + 0), .int x1, .int x2] m Q := by
  refine sm_enter (by decide +kernel) (by simp [lg_sl, Value.category]) ?_
  refine sm_iload_n (Y := mX11_book) (pc := 0) 2 2 rfl rfl dX11_book_0 ?_
  refine sm_if_lt (Y := mX11_book) (pc := 1) 9 (by decide) dX11_book_1 (fun hc => ?_) (fun hc => ?_)
  · replace h := h.1 hc
    refine sm_aload_n (Y := mX11_book) (pc := 9) 0 0 rfl rfl dX11_book_9 ?_
    refine sm_iconst (Y := mX11_book) (pc := 10) 1 (by decide) dX11_book_10 ?_
    refine sm_iv_I (Y := mX11_book) (pc := 11) (As := [.int 1]) (a := 0) fX11_error wRX11_103 (lk_0 hly) (by decide) rfl rfl rfl (Nat.le_trans (by decide) hd) (Nat.le_of_ble_eq_true rfl) ⟨Nat.le_refl _, Nat.le_refl _⟩ dX11_book_11 rfl (sm_monoI h (fun r_2 m_1 h => ?_))
    exact sm_iret (Y := mX11_book) (pc := 14) rfl rfl rfl dX11_book_14 ⟨_, rfl, h⟩
  · replace h := h.2 hc
    refine sm_iload_n (Y := mX11_book) (pc := 4) 2 2 rfl rfl dX11_book_4 ?_
    refine sm_iconst (Y := mX11_book) (pc := 5) 2 (by decide) dX11_book_5 ?_
    refine sm_icmp_le (Y := mX11_book) (pc := 6) 15 (by decide) dX11_book_6 (fun hc => ?_) (fun hc => ?_)
    · replace h := h.1 hc
      refine sm_aload_n (Y := mX11_book) (pc := 15) 0 0 rfl rfl dX11_book_15 ?_
      refine gf_RX11_70 (Y := mX11_book) (pc := 16) (b := 70) rfl ((lk_0 hly) _) (lf_0_9 hly _) dX11_book_16 ?_
      refine sm_iload_n (Y := mX11_book) (pc := 19) 1 1 rfl rfl dX11_book_19 ?_
      refine sm_iv_I (Y := mX11_book) (pc := 20) (As := [.int x1]) (a := 70) fX0_has wRX11_324 (lk_70 hly) (by decide) rfl rfl rfl (Nat.le_trans (by decide) hd) (Nat.le_of_ble_eq_true rfl) ⟨Nat.le_refl _, Nat.le_refl _⟩ dX11_book_20 rfl (sm_monoI h (fun r_4 m_3 h => ?_))
      refine sm_if_ne (Y := mX11_book) (pc := 23) 32 (by decide) dX11_book_23 (fun hc => ?_) (fun hc => ?_)
      · replace h := h.1 hc
        refine sm_aload_n (Y := mX11_book) (pc := 32) 0 0 rfl rfl dX11_book_32 ?_
        refine gf_RX11_70 (Y := mX11_book) (pc := 33) (b := 70) rfl ((lk_0 hly) _) (lf_0_9 hly _) dX11_book_33 ?_
        refine sm_iload_n (Y := mX11_book) (pc := 36) 1 1 rfl rfl dX11_book_36 ?_
        refine sm_iload_n (Y := mX11_book) (pc := 37) 2 2 rfl rfl dX11_book_37 ?_
        refine sm_iv_I (Y := mX11_book) (pc := 38) (As := [.int x1, .int x2]) (a := 70) fX0_tell wRX11_325 (lk_70 hly) (by decide) rfl rfl rfl (Nat.le_trans (by decide) hd) (Nat.le_of_ble_eq_true rfl) ⟨Nat.le_refl _, Nat.le_refl _⟩ dX11_book_38 rfl (sm_monoI h (fun r_6 m_5 h => ?_))
        exact sm_iret (Y := mX11_book) (pc := 41) rfl rfl rfl dX11_book_41 ⟨_, rfl, h⟩
      · replace h := h.2 hc
        refine sm_aload_n (Y := mX11_book) (pc := 26) 0 0 rfl rfl dX11_book_26 ?_
        refine sm_iconst (Y := mX11_book) (pc := 27) 2 (by decide) dX11_book_27 ?_
        refine sm_iv_I (Y := mX11_book) (pc := 28) (As := [.int 2]) (a := 0) fX11_error wRX11_103 (lk_0 hly) (by decide) rfl rfl rfl (Nat.le_trans (by decide) hd) (Nat.le_of_ble_eq_true rfl) ⟨Nat.le_refl _, Nat.le_refl _⟩ dX11_book_28 rfl (sm_monoI h (fun r_8 m_7 h => ?_))
        exact sm_iret (Y := mX11_book) (pc := 31) rfl rfl rfl dX11_book_31 ⟨_, rfl, h⟩
    · replace h := h.2 hc
      refine sm_aload_n (Y := mX11_book) (pc := 9) 0 0 rfl rfl dX11_book_9 ?_
      refine sm_iconst (Y := mX11_book) (pc := 10) 1 (by decide) dX11_book_10 ?_
      refine sm_iv_I (Y := mX11_book) (pc := 11) (As := [.int 1]) (a := 0) fX11_error wRX11_103 (lk_0 hly) (by decide) rfl rfl rfl (Nat.le_trans (by decide) hd) (Nat.le_of_ble_eq_true rfl) ⟨Nat.le_refl _, Nat.le_refl _⟩ dX11_book_11 rfl (sm_monoI h (fun r_10 m_9 h => ?_))
      exact sm_iret (Y := mX11_book) (pc := 14) rfl rfl rfl dX11_book_14 ⟨_, rfl, h⟩
abbrev mX11_ranked : sm_Y := (yX11_ranked, cX11_ranked, 3, (some FieldType.int))
theorem fX11_ranked : sm_mi mX11_ranked RX11 2 := ⟨sm_in 1037 (by decide +kernel) (by decide +kernel), sm_in 1035 (by decide +kernel) (by decide +kernel), sm_in 1036 (by decide +kernel) (by decide +kernel), sm_in 82 (by decide +kernel) (by decide +kernel), rfl, ⟨by decide +kernel, by decide +kernel, by decide +kernel⟩, by decide⟩
theorem dX11_ranked_0 : decode cX11_ranked 0 = .ok (.iload_n 2, 1) := dk_iload_n_2 (by decide +kernel)
theorem dX11_ranked_1 : decode cX11_ranked 1 = .ok (.ifCond .lt 8, 3) := dk_ifCond_lt 8 (b1 := 0) (b2 := 8) (by decide +kernel) (by decide +kernel) (by decide +kernel) (by decide +kernel)
theorem dX11_ranked_9 : decode cX11_ranked 9 = .ok (.aload_n 0, 1) := dk_aload_n_0 (by decide +kernel)
theorem dX11_ranked_10 : decode cX11_ranked 10 = .ok (.iconst 1, 1) := dk_iconst_1 (by decide +kernel)
theorem dX11_ranked_11 : decode cX11_ranked 11 = .ok (.invokevirtual 103, 3) := dk_invokevirtual 103 (b1 := 0) (b2 := 103) (by decide +kernel) (by decide +kernel) (by decide +kernel) (by decide +kernel)
theorem dX11_ranked_14 : decode cX11_ranked 14 = .ok (.ireturn, 1) := dk_ireturn (by decide +kernel)
theorem dX11_ranked_4 : decode cX11_ranked 4 = .ok (.iload_n 2, 1) := dk_iload_n_2 (by decide +kernel)
theorem dX11_ranked_5 : decode cX11_ranked 5 = .ok (.iconst 2, 1) := dk_iconst_2 (by decide +kernel)
theorem dX11_ranked_6 : decode cX11_ranked 6 = .ok (.if_icmp .le 9, 3) := dk_if_icmp_le 9 (b1 := 0) (b2 := 9) (by decide +kernel) (by decide +kernel) (by decide +kernel) (by decide +kernel)
theorem dX11_ranked_15 : decode cX11_ranked 15 = .ok (.aload_n 0, 1) := dk_aload_n_0 (by decide +kernel)
theorem dX11_ranked_16 : decode cX11_ranked 16 = .ok (.getfield 70, 3) := dk_getfield 70 (b1 := 0) (b2 := 70) (by decide +kernel) (by decide +kernel) (by decide +kernel) (by decide +kernel)
theorem dX11_ranked_19 : decode cX11_ranked 19 = .ok (.iload_n 1, 1) := dk_iload_n_1 (by decide +kernel)
theorem dX11_ranked_20 : decode cX11_ranked 20 = .ok (.invokevirtual 324, 3) := dk_invokevirtual 324 (b1 := 1) (b2 := 68) (by decide +kernel) (by decide +kernel) (by decide +kernel) (by decide +kernel)
theorem dX11_ranked_23 : decode cX11_ranked 23 = .ok (.ifCond .ne 9, 3) := dk_ifCond_ne 9 (b1 := 0) (b2 := 9) (by decide +kernel) (by decide +kernel) (by decide +kernel) (by decide +kernel)
theorem dX11_ranked_32 : decode cX11_ranked 32 = .ok (.aload_n 0, 1) := dk_aload_n_0 (by decide +kernel)
theorem dX11_ranked_33 : decode cX11_ranked 33 = .ok (.getfield 70, 3) := dk_getfield 70 (b1 := 0) (b2 := 70) (by decide +kernel) (by decide +kernel) (by decide +kernel) (by decide +kernel)
theorem dX11_ranked_36 : decode cX11_ranked 36 = .ok (.aload_n 0, 1) := dk_aload_n_0 (by decide +kernel)
theorem dX11_ranked_37 : decode cX11_ranked 37 = .ok (.getfield 70, 3) := dk_getfield 70 (b1 := 0) (b2 := 70) (by decide +kernel) (by decide +kernel) (by decide +kernel) (by decide +kernel)
theorem dX11_ranked_40 : decode cX11_ranked 40 = .ok (.iload_n 1, 1) := dk_iload_n_1 (by decide +kernel)
theorem wRX11_328 : Cond.methodLink RX11 328 yX0_atRank ∈ sm_T := sm_in 1038 (by decide +kernel) (by decide +kernel)
theorem dX11_ranked_41 : decode cX11_ranked 41 = .ok (.invokevirtual 328, 3) := dk_invokevirtual 328 (b1 := 1) (b2 := 72) (by decide +kernel) (by decide +kernel) (by decide +kernel) (by decide +kernel)
theorem dX11_ranked_44 : decode cX11_ranked 44 = .ok (.iload_n 2, 1) := dk_iload_n_2 (by decide +kernel)
theorem dX11_ranked_45 : decode cX11_ranked 45 = .ok (.invokevirtual 325, 3) := dk_invokevirtual 325 (b1 := 1) (b2 := 69) (by decide +kernel) (by decide +kernel) (by decide +kernel) (by decide +kernel)
theorem dX11_ranked_48 : decode cX11_ranked 48 = .ok (.ireturn, 1) := dk_ireturn (by decide +kernel)
theorem dX11_ranked_26 : decode cX11_ranked 26 = .ok (.aload_n 0, 1) := dk_aload_n_0 (by decide +kernel)
theorem dX11_ranked_27 : decode cX11_ranked 27 = .ok (.iconst 2, 1) := dk_iconst_2 (by decide +kernel)
theorem dX11_ranked_28 : decode cX11_ranked 28 = .ok (.invokevirtual 103, 3) := dk_invokevirtual 103 (b1 := 0) (b2 := 103) (by decide +kernel) (by decide +kernel) (by decide +kernel) (by decide +kernel)
theorem dX11_ranked_31 : decode cX11_ranked 31 = .ok (.ireturn, 1) := dk_ireturn (by decide +kernel)
set_option maxRecDepth 20000 in
theorem vX11_ranked_0 {E : sm_E} {L : sm_S → Prop} {d : Nat} {x1 : Int32} {x2 : Int32}  {m : sm_M} {Q : Int32 → sm_M → Prop} (hly : ∀ S, L S → ly S) (hd : 3 ≤ d) 
  (h : (x2 < 0 →
      sm_callI E L mX11_error 1 0 0 [.ref (sm_B E + 0), .int 1] m (fun r_2 m_1 =>
      Q r_2 m_1)) ∧
   (¬ x2 < 0 →
      (x2 ≤ 2 →
         sm_callI E L mX0_has 1 0 0 [.ref (sm_B E + 70), .int x1] m (fun r_4 m_3 =>
         (¬ r_4 = 0 →
            sm_callI E L mX0_atRank 2 0 0 [.ref (sm_B E + 70), .int x1] m_3 (fun r_6 m_5 =>
            sm_callI E L mX0_tell 2 0 0 [.ref (sm_B E + 70), .int r_6, .int x2] m_5 (fun r_8 m_7 =>
            Q r_8 m_7))) ∧
         (r_4 = 0 →
            sm_callI E L mX11_error 1 0 0 [.ref (sm_B E + 0), .int 2] m_3 (fun r_10 m_9 =>
            Q r_10 m_9)))) ∧
      (¬ x2 ≤ 2 →
         sm_callI E L mX11_error 1 0 0 [.ref (sm_B E + 0), .int 1] m (fun r_12 m_11 =>
         Q r_12 m_11)))) :
  sm_callI E L mX11_ranked d 0 0 [.ref (sm_B E + 0), .int x1, .int x2] m Q := by
  refine sm_enter (by decide +kernel) (by simp [lg_sl, Value.category]) ?_
  refine sm_iload_n (Y := mX11_ranked) (pc := 0) 2 2 rfl rfl dX11_ranked_0 ?_
  refine sm_if_lt (Y := mX11_ranked) (pc := 1) 9 (by decide) dX11_ranked_1 (fun hc => ?_) (fun hc => ?_)
  · replace h := h.1 hc
    refine sm_aload_n (Y := mX11_ranked) (pc := 9) 0 0 rfl rfl dX11_ranked_9 ?_
    refine sm_iconst (Y := mX11_ranked) (pc := 10) 1 (by decide) dX11_ranked_10 ?_
    refine sm_iv_I (Y := mX11_ranked) (pc := 11) (As := [.int 1]) (a := 0) fX11_error wRX11_103 (lk_0 hly) (by decide) rfl rfl rfl (Nat.le_trans (by decide) hd) (Nat.le_of_ble_eq_true rfl) ⟨Nat.le_refl _, Nat.le_refl _⟩ dX11_ranked_11 rfl (sm_monoI h (fun r_2 m_1 h => ?_))
    exact sm_iret (Y := mX11_ranked) (pc := 14) rfl rfl rfl dX11_ranked_14 ⟨_, rfl, h⟩
  · replace h := h.2 hc
    refine sm_iload_n (Y := mX11_ranked) (pc := 4) 2 2 rfl rfl dX11_ranked_4 ?_
    refine sm_iconst (Y := mX11_ranked) (pc := 5) 2 (by decide) dX11_ranked_5 ?_
    refine sm_icmp_le (Y := mX11_ranked) (pc := 6) 15 (by decide) dX11_ranked_6 (fun hc => ?_) (fun hc => ?_)
    · replace h := h.1 hc
      refine sm_aload_n (Y := mX11_ranked) (pc := 15) 0 0 rfl rfl dX11_ranked_15 ?_
      refine gf_RX11_70 (Y := mX11_ranked) (pc := 16) (b := 70) rfl ((lk_0 hly) _) (lf_0_9 hly _) dX11_ranked_16 ?_
      refine sm_iload_n (Y := mX11_ranked) (pc := 19) 1 1 rfl rfl dX11_ranked_19 ?_
      refine sm_iv_I (Y := mX11_ranked) (pc := 20) (As := [.int x1]) (a := 70) fX0_has wRX11_324 (lk_70 hly) (by decide) rfl rfl rfl (Nat.le_trans (by decide) hd) (Nat.le_of_ble_eq_true rfl) ⟨Nat.le_refl _, Nat.le_refl _⟩ dX11_ranked_20 rfl (sm_monoI h (fun r_4 m_3 h => ?_))
      refine sm_if_ne (Y := mX11_ranked) (pc := 23) 32 (by decide) dX11_ranked_23 (fun hc => ?_) (fun hc => ?_)
      · replace h := h.1 hc
        refine sm_aload_n (Y := mX11_ranked) (pc := 32) 0 0 rfl rfl dX11_ranked_32 ?_
        refine gf_RX11_70 (Y := mX11_ranked) (pc := 33) (b := 70) rfl ((lk_0 hly) _) (lf_0_9 hly _) dX11_ranked_33 ?_
        refine sm_aload_n (Y := mX11_ranked) (pc := 36) 0 0 rfl rfl dX11_ranked_36 ?_
        refine gf_RX11_70 (Y := mX11_ranked) (pc := 37) (b := 70) rfl ((lk_0 hly) _) (lf_0_9 hly _) dX11_ranked_37 ?_
        refine sm_iload_n (Y := mX11_ranked) (pc := 40) 1 1 rfl rfl dX11_ranked_40 ?_
        refine sm_iv_I (Y := mX11_ranked) (pc := 41) (As := [.int x1]) (a := 70) fX0_atRank wRX11_328 (lk_70 hly) (by decide) rfl rfl rfl (Nat.le_trans (by decide) hd) (Nat.le_of_ble_eq_true rfl) ⟨Nat.le_refl _, Nat.le_refl _⟩ dX11_ranked_41 rfl (sm_monoI h (fun r_6 m_5 h => ?_))
        refine sm_iload_n (Y := mX11_ranked) (pc := 44) 2 2 rfl rfl dX11_ranked_44 ?_
        refine sm_iv_I (Y := mX11_ranked) (pc := 45) (As := [.int r_6, .int x2]) (a := 70) fX0_tell wRX11_325 (lk_70 hly) (by decide) rfl rfl rfl (Nat.le_trans (by decide) hd) (Nat.le_of_ble_eq_true rfl) ⟨Nat.le_refl _, Nat.le_refl _⟩ dX11_ranked_45 rfl (sm_monoI h (fun r_8 m_7 h => ?_))
        exact sm_iret (Y := mX11_ranked) (pc := 48) rfl rfl rfl dX11_ranked_48 ⟨_, rfl, h⟩
      · replace h := h.2 hc
        refine sm_aload_n (Y := mX11_ranked) (pc := 26) 0 0 rfl rfl dX11_ranked_26 ?_
        refine sm_iconst (Y := mX11_ranked) (pc := 27) 2 (by decide) dX11_ranked_27 ?_
        refine sm_iv_I (Y := mX11_ranked) (pc := 28) (As := [.int 2]) (a := 0) fX11_error wRX11_103 (lk_0 hly) (by decide) rfl rfl rfl (Nat.le_trans (by decide) hd) (Nat.le_of_ble_eq_true rfl) ⟨Nat.le_refl _, Nat.le_refl _⟩ dX11_ranked_28 rfl (sm_monoI h (fun r_10 m_9 h => ?_))
        exact sm_iret (Y := mX11_ranked) (pc := 31) rfl rfl rfl dX11_ranked_31 ⟨_, rfl, h⟩
    · replace h := h.2 hc
      refine sm_aload_n (Y := mX11_ranked) (pc := 9) 0 0 rfl rfl dX11_ranked_9 ?_
      refine sm_iconst (Y := mX11_ranked) (pc := 10) 1 (by decide) dX11_ranked_10 ?_
      refine sm_iv_I (Y := mX11_ranked) (pc := 11) (As := [.int 1]) (a := 0) fX11_error wRX11_103 (lk_0 hly) (by decide) rfl rfl rfl (Nat.le_trans (by decide) hd) (Nat.le_of_ble_eq_true rfl) ⟨Nat.le_refl _, Nat.le_refl _⟩ dX11_ranked_11 rfl (sm_monoI h (fun r_12 m_11 h => ?_))
      exact sm_iret (Y := mX11_ranked) (pc := 14) rfl rfl rfl dX11_ranked_14 ⟨_, rfl, h⟩
